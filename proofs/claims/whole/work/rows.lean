section
-- ===== PART A: goes FIRST, ahead of the names: the tables' words, and 'selects' of the private methods out of them =====
/-- a private method of a class that the tables say can be made, by its rows of tables_1 -/
def lw_okq (q : MethodName × Nat) : Prop := (q.1.cls ≠ "java/lang/invoke/MethodHandle" ∧ q.1.cls ≠ "java/lang/invoke/VarHandle") ∧ Cond.instantiable q.1.cls q.2 ∈ tables_1 ∧ Cond.privateMethod q.1 ∈ tables_1 ∧ Cond.instanceMethod q.1 ∈ tables_1
theorem lw_p0 : lw_okq (⟨"FridaySlips", "finding", "(I)I"⟩, 9) := ⟨⟨by decide +kernel, by decide +kernel⟩, List.mem_of_getElem? (i := 19) (by decide +kernel), List.mem_of_getElem? (i := 190) (by decide +kernel), List.mem_of_getElem? (i := 191) (by decide +kernel)⟩
theorem lw_p1 : lw_okq (⟨"FridaySlips", "replace", "([IIII)I"⟩, 9) := ⟨⟨by decide +kernel, by decide +kernel⟩, List.mem_of_getElem? (i := 19) (by decide +kernel), List.mem_of_getElem? (i := 240) (by decide +kernel), List.mem_of_getElem? (i := 241) (by decide +kernel)⟩
theorem lw_p2 : lw_okq (⟨"FridaySlips$Village", "shuffle", "(Z)V"⟩, 13) := ⟨⟨by decide +kernel, by decide +kernel⟩, List.mem_of_getElem? (i := 27) (by decide +kernel), List.mem_of_getElem? (i := 305) (by decide +kernel), List.mem_of_getElem? (i := 306) (by decide +kernel)⟩
theorem lw_p3 : lw_okq (⟨"FridaySlips$Village", "drawAmong", "(I)I"⟩, 13) := ⟨⟨by decide +kernel, by decide +kernel⟩, List.mem_of_getElem? (i := 27) (by decide +kernel), List.mem_of_getElem? (i := 309) (by decide +kernel), List.mem_of_getElem? (i := 310) (by decide +kernel)⟩
theorem lw_p4 : lw_okq (⟨"FridaySlips$BestLot", "mostWith", "(IIILFridaySlips$Village;)I"⟩, 1) := ⟨⟨by decide +kernel, by decide +kernel⟩, List.mem_of_getElem? (i := 87) (by decide +kernel), List.mem_of_getElem? (i := 420) (by decide +kernel), List.mem_of_getElem? (i := 421) (by decide +kernel)⟩
theorem lw_p5 : lw_okq (⟨"FridaySlips$BestLot", "leastBest", "(IILFridaySlips$Village;)I"⟩, 1) := ⟨⟨by decide +kernel, by decide +kernel⟩, List.mem_of_getElem? (i := 87) (by decide +kernel), List.mem_of_getElem? (i := 435) (by decide +kernel), List.mem_of_getElem? (i := 436) (by decide +kernel)⟩
theorem lw_p6 : lw_okq (⟨"FridaySlips$VillageText", "step", "()V"⟩, 5) := ⟨⟨by decide +kernel, by decide +kernel⟩, List.mem_of_getElem? (i := 112) (by decide +kernel), List.mem_of_getElem? (i := 502) (by decide +kernel), List.mem_of_getElem? (i := 503) (by decide +kernel)⟩
theorem lw_p7 : lw_okq (⟨"FridaySlips$VillageText", "passLetters", "()V"⟩, 5) := ⟨⟨by decide +kernel, by decide +kernel⟩, List.mem_of_getElem? (i := 112) (by decide +kernel), List.mem_of_getElem? (i := 513) (by decide +kernel), List.mem_of_getElem? (i := 514) (by decide +kernel)⟩
theorem lw_p8 : lw_okq (⟨"FridaySlips$VillageText", "passDigits", "()V"⟩, 5) := ⟨⟨by decide +kernel, by decide +kernel⟩, List.mem_of_getElem? (i := 112) (by decide +kernel), List.mem_of_getElem? (i := 520) (by decide +kernel), List.mem_of_getElem? (i := 521) (by decide +kernel)⟩
theorem lw_p9 : lw_okq (⟨"FridaySlips$VillageText", "isWord", "(Ljava/lang/String;)Z"⟩, 5) := ⟨⟨by decide +kernel, by decide +kernel⟩, List.mem_of_getElem? (i := 112) (by decide +kernel), List.mem_of_getElem? (i := 526) (by decide +kernel), List.mem_of_getElem? (i := 527) (by decide +kernel)⟩
theorem lw_p10 : lw_okq (⟨"FridaySlips$VillageText", "takeSlip", "(LFridaySlips$Village;)Z"⟩, 5) := ⟨⟨by decide +kernel, by decide +kernel⟩, List.mem_of_getElem? (i := 112) (by decide +kernel), List.mem_of_getElem? (i := 578) (by decide +kernel), List.mem_of_getElem? (i := 579) (by decide +kernel)⟩
theorem lw_p11 : lw_okq (⟨"FridaySlips$VillageText", "takePerson", "(LFridaySlips$Village;)Z"⟩, 5) := ⟨⟨by decide +kernel, by decide +kernel⟩, List.mem_of_getElem? (i := 112) (by decide +kernel), List.mem_of_getElem? (i := 586) (by decide +kernel), List.mem_of_getElem? (i := 587) (by decide +kernel)⟩
theorem lw_p12 : lw_okq (⟨"FridaySlips$VillageText", "namedKind", "()I"⟩, 5) := ⟨⟨by decide +kernel, by decide +kernel⟩, List.mem_of_getElem? (i := 112) (by decide +kernel), List.mem_of_getElem? (i := 590) (by decide +kernel), List.mem_of_getElem? (i := 591) (by decide +kernel)⟩
theorem lw_p13 : lw_okq (⟨"FridaySlips$VillageText", "takePart", "(Ljava/lang/String;[III)Z"⟩, 5) := ⟨⟨by decide +kernel, by decide +kernel⟩, List.mem_of_getElem? (i := 112) (by decide +kernel), List.mem_of_getElem? (i := 606) (by decide +kernel), List.mem_of_getElem? (i := 607) (by decide +kernel)⟩
theorem lw_p14 : lw_okq (⟨"FridaySlips", "isRightLot", "(LFridaySlips$Sheet;)Z"⟩, 9) := ⟨⟨by decide +kernel, by decide +kernel⟩, List.mem_of_getElem? (i := 19) (by decide +kernel), List.mem_of_getElem? (i := 652) (by decide +kernel), List.mem_of_getElem? (i := 653) (by decide +kernel)⟩
theorem lw_p15 : lw_okq (⟨"FridaySlips", "fitsWith", "(IILFridaySlips$Sheet;)Z"⟩, 9) := ⟨⟨by decide +kernel, by decide +kernel⟩, List.mem_of_getElem? (i := 19) (by decide +kernel), List.mem_of_getElem? (i := 664) (by decide +kernel), List.mem_of_getElem? (i := 665) (by decide +kernel)⟩
def lw_privs_1 : List (MethodName × Nat) := [(⟨"FridaySlips", "finding", "(I)I"⟩, 9), (⟨"FridaySlips", "replace", "([IIII)I"⟩, 9), (⟨"FridaySlips$Village", "shuffle", "(Z)V"⟩, 13), (⟨"FridaySlips$Village", "drawAmong", "(I)I"⟩, 13), (⟨"FridaySlips$BestLot", "mostWith", "(IIILFridaySlips$Village;)I"⟩, 1), (⟨"FridaySlips$BestLot", "leastBest", "(IILFridaySlips$Village;)I"⟩, 1), (⟨"FridaySlips$VillageText", "step", "()V"⟩, 5), (⟨"FridaySlips$VillageText", "passLetters", "()V"⟩, 5), (⟨"FridaySlips$VillageText", "passDigits", "()V"⟩, 5), (⟨"FridaySlips$VillageText", "isWord", "(Ljava/lang/String;)Z"⟩, 5), (⟨"FridaySlips$VillageText", "takeSlip", "(LFridaySlips$Village;)Z"⟩, 5), (⟨"FridaySlips$VillageText", "takePerson", "(LFridaySlips$Village;)Z"⟩, 5), (⟨"FridaySlips$VillageText", "namedKind", "()I"⟩, 5), (⟨"FridaySlips$VillageText", "takePart", "(Ljava/lang/String;[III)Z"⟩, 5), (⟨"FridaySlips", "isRightLot", "(LFridaySlips$Sheet;)Z"⟩, 9), (⟨"FridaySlips", "fitsWith", "(IILFridaySlips$Sheet;)Z"⟩, 9)]
theorem lw_r1 : ∀ q ∈ lw_privs_1, lw_okq q := List.forall_mem_cons.mpr ⟨lw_p0, List.forall_mem_cons.mpr ⟨lw_p1, List.forall_mem_cons.mpr ⟨lw_p2, List.forall_mem_cons.mpr ⟨lw_p3, List.forall_mem_cons.mpr ⟨lw_p4, List.forall_mem_cons.mpr ⟨lw_p5, List.forall_mem_cons.mpr ⟨lw_p6, List.forall_mem_cons.mpr ⟨lw_p7, List.forall_mem_cons.mpr ⟨lw_p8, List.forall_mem_cons.mpr ⟨lw_p9, List.forall_mem_cons.mpr ⟨lw_p10, List.forall_mem_cons.mpr ⟨lw_p11, List.forall_mem_cons.mpr ⟨lw_p12, List.forall_mem_cons.mpr ⟨lw_p13, List.forall_mem_cons.mpr ⟨lw_p14, List.forall_mem_cons.mpr ⟨lw_p15, fun _ h => absurd h List.not_mem_nil⟩⟩⟩⟩⟩⟩⟩⟩⟩⟩⟩⟩⟩⟩⟩⟩
theorem lw_p16 : lw_okq (⟨"FridaySlipsModel", "finds", "(I)I"⟩, 23) := ⟨⟨by decide +kernel, by decide +kernel⟩, List.mem_of_getElem? (i := 689) (by decide +kernel), List.mem_of_getElem? (i := 776) (by decide +kernel), List.mem_of_getElem? (i := 777) (by decide +kernel)⟩
theorem lw_p17 : lw_okq (⟨"FridaySlipsModel", "adds", "(IIII)V"⟩, 23) := ⟨⟨by decide +kernel, by decide +kernel⟩, List.mem_of_getElem? (i := 689) (by decide +kernel), List.mem_of_getElem? (i := 781) (by decide +kernel), List.mem_of_getElem? (i := 782) (by decide +kernel)⟩
theorem lw_p18 : lw_okq (⟨"FridaySlipsModel", "puts", "(III)V"⟩, 23) := ⟨⟨by decide +kernel, by decide +kernel⟩, List.mem_of_getElem? (i := 689) (by decide +kernel), List.mem_of_getElem? (i := 785) (by decide +kernel), List.mem_of_getElem? (i := 786) (by decide +kernel)⟩
theorem lw_p19 : lw_okq (⟨"FridaySlipsModel", "isOne", "(I)Z"⟩, 23) := ⟨⟨by decide +kernel, by decide +kernel⟩, List.mem_of_getElem? (i := 689) (by decide +kernel), List.mem_of_getElem? (i := 793) (by decide +kernel), List.mem_of_getElem? (i := 794) (by decide +kernel)⟩
theorem lw_p20 : lw_okq (⟨"FridaySlipsModel", "its", "(II)I"⟩, 23) := ⟨⟨by decide +kernel, by decide +kernel⟩, List.mem_of_getElem? (i := 689) (by decide +kernel), List.mem_of_getElem? (i := 797) (by decide +kernel), List.mem_of_getElem? (i := 798) (by decide +kernel)⟩
theorem lw_p21 : lw_okq (⟨"FridaySlipsModel", "earns", "(I)I"⟩, 23) := ⟨⟨by decide +kernel, by decide +kernel⟩, List.mem_of_getElem? (i := 689) (by decide +kernel), List.mem_of_getElem? (i := 801) (by decide +kernel), List.mem_of_getElem? (i := 802) (by decide +kernel)⟩
theorem lw_p22 : lw_okq (⟨"FridaySlipsModel", "earnsAs", "(II)I"⟩, 23) := ⟨⟨by decide +kernel, by decide +kernel⟩, List.mem_of_getElem? (i := 689) (by decide +kernel), List.mem_of_getElem? (i := 805) (by decide +kernel), List.mem_of_getElem? (i := 806) (by decide +kernel)⟩
theorem lw_p23 : lw_okq (⟨"FridaySlipsModel", "saysAs", "(II)I"⟩, 23) := ⟨⟨by decide +kernel, by decide +kernel⟩, List.mem_of_getElem? (i := 689) (by decide +kernel), List.mem_of_getElem? (i := 813) (by decide +kernel), List.mem_of_getElem? (i := 814) (by decide +kernel)⟩
theorem lw_p24 : lw_okq (⟨"FridaySlipsModel", "becomes", "(II)I"⟩, 23) := ⟨⟨by decide +kernel, by decide +kernel⟩, List.mem_of_getElem? (i := 689) (by decide +kernel), List.mem_of_getElem? (i := 822) (by decide +kernel), List.mem_of_getElem? (i := 823) (by decide +kernel)⟩
theorem lw_p25 : lw_okq (⟨"FridaySlipsModel", "areAlike", "(II)Z"⟩, 23) := ⟨⟨by decide +kernel, by decide +kernel⟩, List.mem_of_getElem? (i := 689) (by decide +kernel), List.mem_of_getElem? (i := 839) (by decide +kernel), List.mem_of_getElem? (i := 840) (by decide +kernel)⟩
theorem lw_p26 : lw_okq (⟨"FridaySlipsModel", "isChild", "(I)Z"⟩, 23) := ⟨⟨by decide +kernel, by decide +kernel⟩, List.mem_of_getElem? (i := 689) (by decide +kernel), List.mem_of_getElem? (i := 843) (by decide +kernel), List.mem_of_getElem? (i := 844) (by decide +kernel)⟩
theorem lw_p27 : lw_okq (⟨"FridaySlipsModel", "swaps", "(II)V"⟩, 23) := ⟨⟨by decide +kernel, by decide +kernel⟩, List.mem_of_getElem? (i := 689) (by decide +kernel), List.mem_of_getElem? (i := 848) (by decide +kernel), List.mem_of_getElem? (i := 849) (by decide +kernel)⟩
theorem lw_p28 : lw_okq (⟨"FridaySlipsModel", "ownSet", "()I"⟩, 23) := ⟨⟨by decide +kernel, by decide +kernel⟩, List.mem_of_getElem? (i := 689) (by decide +kernel), List.mem_of_getElem? (i := 852) (by decide +kernel), List.mem_of_getElem? (i := 853) (by decide +kernel)⟩
theorem lw_p29 : lw_okq (⟨"FridaySlipsModel", "allOwn", "()V"⟩, 23) := ⟨⟨by decide +kernel, by decide +kernel⟩, List.mem_of_getElem? (i := 689) (by decide +kernel), List.mem_of_getElem? (i := 863) (by decide +kernel), List.mem_of_getElem? (i := 864) (by decide +kernel)⟩
theorem lw_p30 : lw_okq (⟨"FridaySlipsModel", "draws", "()V"⟩, 23) := ⟨⟨by decide +kernel, by decide +kernel⟩, List.mem_of_getElem? (i := 689) (by decide +kernel), List.mem_of_getElem? (i := 871) (by decide +kernel), List.mem_of_getElem? (i := 872) (by decide +kernel)⟩
theorem lw_p31 : lw_okq (⟨"FridaySlipsModel", "drawsOf", "(Z)V"⟩, 23) := ⟨⟨by decide +kernel, by decide +kernel⟩, List.mem_of_getElem? (i := 689) (by decide +kernel), List.mem_of_getElem? (i := 875) (by decide +kernel), List.mem_of_getElem? (i := 876) (by decide +kernel)⟩
def lw_privs_2 : List (MethodName × Nat) := [(⟨"FridaySlipsModel", "finds", "(I)I"⟩, 23), (⟨"FridaySlipsModel", "adds", "(IIII)V"⟩, 23), (⟨"FridaySlipsModel", "puts", "(III)V"⟩, 23), (⟨"FridaySlipsModel", "isOne", "(I)Z"⟩, 23), (⟨"FridaySlipsModel", "its", "(II)I"⟩, 23), (⟨"FridaySlipsModel", "earns", "(I)I"⟩, 23), (⟨"FridaySlipsModel", "earnsAs", "(II)I"⟩, 23), (⟨"FridaySlipsModel", "saysAs", "(II)I"⟩, 23), (⟨"FridaySlipsModel", "becomes", "(II)I"⟩, 23), (⟨"FridaySlipsModel", "areAlike", "(II)Z"⟩, 23), (⟨"FridaySlipsModel", "isChild", "(I)Z"⟩, 23), (⟨"FridaySlipsModel", "swaps", "(II)V"⟩, 23), (⟨"FridaySlipsModel", "ownSet", "()I"⟩, 23), (⟨"FridaySlipsModel", "allOwn", "()V"⟩, 23), (⟨"FridaySlipsModel", "draws", "()V"⟩, 23), (⟨"FridaySlipsModel", "drawsOf", "(Z)V"⟩, 23)]
theorem lw_r2 : ∀ q ∈ lw_privs_2, lw_okq q := List.forall_mem_cons.mpr ⟨lw_p16, List.forall_mem_cons.mpr ⟨lw_p17, List.forall_mem_cons.mpr ⟨lw_p18, List.forall_mem_cons.mpr ⟨lw_p19, List.forall_mem_cons.mpr ⟨lw_p20, List.forall_mem_cons.mpr ⟨lw_p21, List.forall_mem_cons.mpr ⟨lw_p22, List.forall_mem_cons.mpr ⟨lw_p23, List.forall_mem_cons.mpr ⟨lw_p24, List.forall_mem_cons.mpr ⟨lw_p25, List.forall_mem_cons.mpr ⟨lw_p26, List.forall_mem_cons.mpr ⟨lw_p27, List.forall_mem_cons.mpr ⟨lw_p28, List.forall_mem_cons.mpr ⟨lw_p29, List.forall_mem_cons.mpr ⟨lw_p30, List.forall_mem_cons.mpr ⟨lw_p31, fun _ h => absurd h List.not_mem_nil⟩⟩⟩⟩⟩⟩⟩⟩⟩⟩⟩⟩⟩⟩⟩⟩
theorem lw_p32 : lw_okq (⟨"FridaySlipsModel", "drawn", "(I)I"⟩, 23) := ⟨⟨by decide +kernel, by decide +kernel⟩, List.mem_of_getElem? (i := 689) (by decide +kernel), List.mem_of_getElem? (i := 879) (by decide +kernel), List.mem_of_getElem? (i := 880) (by decide +kernel)⟩
theorem lw_p33 : lw_okq (⟨"FridaySlipsModel", "oneFriday", "()V"⟩, 23) := ⟨⟨by decide +kernel, by decide +kernel⟩, List.mem_of_getElem? (i := 689) (by decide +kernel), List.mem_of_getElem? (i := 892) (by decide +kernel), List.mem_of_getElem? (i := 893) (by decide +kernel)⟩
theorem lw_p34 : lw_okq (⟨"FridaySlipsModel", "hearsAs", "(II)I"⟩, 23) := ⟨⟨by decide +kernel, by decide +kernel⟩, List.mem_of_getElem? (i := 689) (by decide +kernel), List.mem_of_getElem? (i := 896) (by decide +kernel), List.mem_of_getElem? (i := 897) (by decide +kernel)⟩
theorem lw_p35 : lw_okq (⟨"FridaySlipsModel", "sumOf", "(I)I"⟩, 23) := ⟨⟨by decide +kernel, by decide +kernel⟩, List.mem_of_getElem? (i := 689) (by decide +kernel), List.mem_of_getElem? (i := 903) (by decide +kernel), List.mem_of_getElem? (i := 904) (by decide +kernel)⟩
theorem lw_p36 : lw_okq (⟨"FridaySlipsModel", "children", "()I"⟩, 23) := ⟨⟨by decide +kernel, by decide +kernel⟩, List.mem_of_getElem? (i := 689) (by decide +kernel), List.mem_of_getElem? (i := 915) (by decide +kernel), List.mem_of_getElem? (i := 916) (by decide +kernel)⟩
theorem lw_p37 : lw_okq (⟨"FridaySlipsModel", "earnAll", "()I"⟩, 23) := ⟨⟨by decide +kernel, by decide +kernel⟩, List.mem_of_getElem? (i := 689) (by decide +kernel), List.mem_of_getElem? (i := 919) (by decide +kernel), List.mem_of_getElem? (i := 920) (by decide +kernel)⟩
theorem lw_p38 : lw_okq (⟨"FridaySlipsModel", "isRight", "()Z"⟩, 23) := ⟨⟨by decide +kernel, by decide +kernel⟩, List.mem_of_getElem? (i := 689) (by decide +kernel), List.mem_of_getElem? (i := 923) (by decide +kernel), List.mem_of_getElem? (i := 924) (by decide +kernel)⟩
theorem lw_p39 : lw_okq (⟨"FridaySlipsModel", "whoHas", "(I)I"⟩, 23) := ⟨⟨by decide +kernel, by decide +kernel⟩, List.mem_of_getElem? (i := 689) (by decide +kernel), List.mem_of_getElem? (i := 931) (by decide +kernel), List.mem_of_getElem? (i := 932) (by decide +kernel)⟩
theorem lw_p40 : lw_okq (⟨"FridaySlipsModel", "ringOf", "(I)I"⟩, 23) := ⟨⟨by decide +kernel, by decide +kernel⟩, List.mem_of_getElem? (i := 689) (by decide +kernel), List.mem_of_getElem? (i := 939) (by decide +kernel), List.mem_of_getElem? (i := 940) (by decide +kernel)⟩
theorem lw_p41 : lw_okq (⟨"FridaySlipsModel", "moveAll", "(Z[I)V"⟩, 23) := ⟨⟨by decide +kernel, by decide +kernel⟩, List.mem_of_getElem? (i := 689) (by decide +kernel), List.mem_of_getElem? (i := 955) (by decide +kernel), List.mem_of_getElem? (i := 956) (by decide +kernel)⟩
theorem lw_p42 : lw_okq (⟨"FridaySlipsModel", "findMost", "()V"⟩, 23) := ⟨⟨by decide +kernel, by decide +kernel⟩, List.mem_of_getElem? (i := 689) (by decide +kernel), List.mem_of_getElem? (i := 968) (by decide +kernel), List.mem_of_getElem? (i := 969) (by decide +kernel)⟩
theorem lw_p43 : lw_okq (⟨"FridaySlipsModel", "advance", "()V"⟩, 23) := ⟨⟨by decide +kernel, by decide +kernel⟩, List.mem_of_getElem? (i := 689) (by decide +kernel), List.mem_of_getElem? (i := 1017) (by decide +kernel), List.mem_of_getElem? (i := 1018) (by decide +kernel)⟩
theorem lw_p44 : lw_okq (⟨"FridaySlipsModel", "byteAt", "(I)I"⟩, 23) := ⟨⟨by decide +kernel, by decide +kernel⟩, List.mem_of_getElem? (i := 689) (by decide +kernel), List.mem_of_getElem? (i := 1021) (by decide +kernel), List.mem_of_getElem? (i := 1022) (by decide +kernel)⟩
theorem lw_p45 : lw_okq (⟨"FridaySlipsModel", "wantItem", "()V"⟩, 23) := ⟨⟨by decide +kernel, by decide +kernel⟩, List.mem_of_getElem? (i := 689) (by decide +kernel), List.mem_of_getElem? (i := 1034) (by decide +kernel), List.mem_of_getElem? (i := 1035) (by decide +kernel)⟩
theorem lw_p46 : lw_okq (⟨"FridaySlipsModel", "kindHere", "()I"⟩, 23) := ⟨⟨by decide +kernel, by decide +kernel⟩, List.mem_of_getElem? (i := 689) (by decide +kernel), List.mem_of_getElem? (i := 1038) (by decide +kernel), List.mem_of_getElem? (i := 1039) (by decide +kernel)⟩
theorem lw_p47 : lw_okq (⟨"FridaySlipsModel", "isWord", "(J)Z"⟩, 23) := ⟨⟨by decide +kernel, by decide +kernel⟩, List.mem_of_getElem? (i := 689) (by decide +kernel), List.mem_of_getElem? (i := 1043) (by decide +kernel), List.mem_of_getElem? (i := 1044) (by decide +kernel)⟩
def lw_privs_3 : List (MethodName × Nat) := [(⟨"FridaySlipsModel", "drawn", "(I)I"⟩, 23), (⟨"FridaySlipsModel", "oneFriday", "()V"⟩, 23), (⟨"FridaySlipsModel", "hearsAs", "(II)I"⟩, 23), (⟨"FridaySlipsModel", "sumOf", "(I)I"⟩, 23), (⟨"FridaySlipsModel", "children", "()I"⟩, 23), (⟨"FridaySlipsModel", "earnAll", "()I"⟩, 23), (⟨"FridaySlipsModel", "isRight", "()Z"⟩, 23), (⟨"FridaySlipsModel", "whoHas", "(I)I"⟩, 23), (⟨"FridaySlipsModel", "ringOf", "(I)I"⟩, 23), (⟨"FridaySlipsModel", "moveAll", "(Z[I)V"⟩, 23), (⟨"FridaySlipsModel", "findMost", "()V"⟩, 23), (⟨"FridaySlipsModel", "advance", "()V"⟩, 23), (⟨"FridaySlipsModel", "byteAt", "(I)I"⟩, 23), (⟨"FridaySlipsModel", "wantItem", "()V"⟩, 23), (⟨"FridaySlipsModel", "kindHere", "()I"⟩, 23), (⟨"FridaySlipsModel", "isWord", "(J)Z"⟩, 23)]
theorem lw_r3 : ∀ q ∈ lw_privs_3, lw_okq q := List.forall_mem_cons.mpr ⟨lw_p32, List.forall_mem_cons.mpr ⟨lw_p33, List.forall_mem_cons.mpr ⟨lw_p34, List.forall_mem_cons.mpr ⟨lw_p35, List.forall_mem_cons.mpr ⟨lw_p36, List.forall_mem_cons.mpr ⟨lw_p37, List.forall_mem_cons.mpr ⟨lw_p38, List.forall_mem_cons.mpr ⟨lw_p39, List.forall_mem_cons.mpr ⟨lw_p40, List.forall_mem_cons.mpr ⟨lw_p41, List.forall_mem_cons.mpr ⟨lw_p42, List.forall_mem_cons.mpr ⟨lw_p43, List.forall_mem_cons.mpr ⟨lw_p44, List.forall_mem_cons.mpr ⟨lw_p45, List.forall_mem_cons.mpr ⟨lw_p46, List.forall_mem_cons.mpr ⟨lw_p47, fun _ h => absurd h List.not_mem_nil⟩⟩⟩⟩⟩⟩⟩⟩⟩⟩⟩⟩⟩⟩⟩⟩
theorem lw_p48 : lw_okq (⟨"FridaySlipsModel", "wantPerson", "(I)V"⟩, 23) := ⟨⟨by decide +kernel, by decide +kernel⟩, List.mem_of_getElem? (i := 689) (by decide +kernel), List.mem_of_getElem? (i := 1052) (by decide +kernel), List.mem_of_getElem? (i := 1053) (by decide +kernel)⟩
theorem lw_p49 : lw_okq (⟨"FridaySlipsModel", "mayWant", "(JIII)I"⟩, 23) := ⟨⟨by decide +kernel, by decide +kernel⟩, List.mem_of_getElem? (i := 689) (by decide +kernel), List.mem_of_getElem? (i := 1057) (by decide +kernel), List.mem_of_getElem? (i := 1058) (by decide +kernel)⟩
theorem lw_p50 : lw_okq (⟨"FridaySlipsModel", "wantNumber", "(II)I"⟩, 23) := ⟨⟨by decide +kernel, by decide +kernel⟩, List.mem_of_getElem? (i := 689) (by decide +kernel), List.mem_of_getElem? (i := 1061) (by decide +kernel), List.mem_of_getElem? (i := 1062) (by decide +kernel)⟩
theorem lw_p51 : lw_okq (⟨"FridaySlipsModel", "wantSlip", "()V"⟩, 23) := ⟨⟨by decide +kernel, by decide +kernel⟩, List.mem_of_getElem? (i := 689) (by decide +kernel), List.mem_of_getElem? (i := 1068) (by decide +kernel), List.mem_of_getElem? (i := 1069) (by decide +kernel)⟩
theorem lw_p52 : lw_okq (⟨"FridaySlipsModel", "isPart", "(III)Z"⟩, 23) := ⟨⟨by decide +kernel, by decide +kernel⟩, List.mem_of_getElem? (i := 689) (by decide +kernel), List.mem_of_getElem? (i := 1093) (by decide +kernel), List.mem_of_getElem? (i := 1094) (by decide +kernel)⟩
theorem lw_p53 : lw_okq (⟨"FridaySlipsModel", "badSheet", "(I)I"⟩, 23) := ⟨⟨by decide +kernel, by decide +kernel⟩, List.mem_of_getElem? (i := 689) (by decide +kernel), List.mem_of_getElem? (i := 1101) (by decide +kernel), List.mem_of_getElem? (i := 1102) (by decide +kernel)⟩
theorem lw_p54 : lw_okq (⟨"FridaySlipsModel", "isSo", "(I)Z"⟩, 23) := ⟨⟨by decide +kernel, by decide +kernel⟩, List.mem_of_getElem? (i := 689) (by decide +kernel), List.mem_of_getElem? (i := 1113) (by decide +kernel), List.mem_of_getElem? (i := 1114) (by decide +kernel)⟩
def lw_privs_4 : List (MethodName × Nat) := [(⟨"FridaySlipsModel", "wantPerson", "(I)V"⟩, 23), (⟨"FridaySlipsModel", "mayWant", "(JIII)I"⟩, 23), (⟨"FridaySlipsModel", "wantNumber", "(II)I"⟩, 23), (⟨"FridaySlipsModel", "wantSlip", "()V"⟩, 23), (⟨"FridaySlipsModel", "isPart", "(III)Z"⟩, 23), (⟨"FridaySlipsModel", "badSheet", "(I)I"⟩, 23), (⟨"FridaySlipsModel", "isSo", "(I)Z"⟩, 23)]
theorem lw_r4 : ∀ q ∈ lw_privs_4, lw_okq q := List.forall_mem_cons.mpr ⟨lw_p48, List.forall_mem_cons.mpr ⟨lw_p49, List.forall_mem_cons.mpr ⟨lw_p50, List.forall_mem_cons.mpr ⟨lw_p51, List.forall_mem_cons.mpr ⟨lw_p52, List.forall_mem_cons.mpr ⟨lw_p53, List.forall_mem_cons.mpr ⟨lw_p54, fun _ h => absurd h List.not_mem_nil⟩⟩⟩⟩⟩⟩⟩
def lw_privs : List (MethodName × Nat) := lw_privs_1 ++ (lw_privs_2 ++ (lw_privs_3 ++ (lw_privs_4)))
def lw_tbl : List Cond := k2_sels lw_privs ++ tables_1
theorem lw_privs_ok : ∀ q ∈ lw_privs, lw_okq q := by
  show ∀ q ∈ lw_privs_1 ++ (lw_privs_2 ++ (lw_privs_3 ++ (lw_privs_4))), lw_okq q
  exact List.forall_mem_append.mpr ⟨lw_r1, List.forall_mem_append.mpr ⟨lw_r2, List.forall_mem_append.mpr ⟨lw_r3, lw_r4⟩⟩⟩
end
section
def RX0 : String := "FridaySlips$BestLot"
def TX0 : u_T := fun k => match k with
  | _ => ("FridaySlips$BestLot", "rest", "[I", true)
def tyX0 : Nat → FieldType := fun k => match k with
  | _ => .array .int
theorem nmX0 : ∀ a, a < 1 → ∀ b, b < 1 → a ≠ b → (TX0 a).2.1 ≠ (TX0 b).2.1 := by decide +kernel
theorem tyX0_ok : ∀ k, k < 1 → parseFieldDescriptor (TX0 k).2.2.1 = some (tyX0 k) := by decide +kernel
abbrev cX0_init : ByteArray := prog_2_method_1_code
def yX0_init : MethodName := ⟨RX0, "<init>", "()V"⟩
abbrev cX0_search : ByteArray := prog_2_method_2_code
def yX0_search : MethodName := ⟨RX0, "search", "(LFridaySlips$Village;)I"⟩
abbrev cX0_mostWith : ByteArray := prog_2_method_3_code
def yX0_mostWith : MethodName := ⟨RX0, "mostWith", "(IIILFridaySlips$Village;)I"⟩
abbrev cX0_slipOf : ByteArray := prog_2_method_4_code
def yX0_slipOf : MethodName := ⟨RX0, "slipOf", "(ILFridaySlips$Village;)I"⟩
abbrev cX0_leastBest : ByteArray := prog_2_method_5_code
def yX0_leastBest : MethodName := ⟨RX0, "leastBest", "(IILFridaySlips$Village;)I"⟩
def RX1 : String := "FridaySlips$Chances"
def TX1 : u_T := fun k => match k with
  | _ => ("", "", "", false)
def tyX1 : Nat → FieldType := fun k => match k with
  | _ => .int
theorem nmX1 : ∀ a, a < 0 → ∀ b, b < 0 → a ≠ b → (TX1 a).2.1 ≠ (TX1 b).2.1 := by decide +kernel
theorem tyX1_ok : ∀ k, k < 0 → parseFieldDescriptor (TX1 k).2.2.1 = some (tyX1 k) := by decide +kernel
abbrev cX1_ordered : ByteArray := prog_3_method_2_code
def yX1_ordered : MethodName := ⟨RX1, "ordered", "(I)I"⟩
abbrev cX1_deranged : ByteArray := prog_3_method_3_code
def yX1_deranged : MethodName := ⟨RX1, "deranged", "(I)I"⟩
abbrev cX1_withOwn : ByteArray := prog_3_method_4_code
def yX1_withOwn : MethodName := ⟨RX1, "withOwn", "(II)I"⟩
abbrev cX1_commonDivisor : ByteArray := prog_3_method_5_code
def yX1_commonDivisor : MethodName := ⟨RX1, "commonDivisor", "(II)I"⟩
def RX2 : String := "FridaySlips$Sheet"
def TX2 : u_T := fun k => match k with
  | 0 => ("FridaySlips$Sheet", "numbers", "[J", true)
  | 1 => ("FridaySlips$Sheet", "bits", "I", false)
  | _ => ("FridaySlips$Sheet", "size", "I", false)
def tyX2 : Nat → FieldType := fun k => match k with
  | 0 => .array .long
  | 1 => .int
  | _ => .int
theorem nmX2 : ∀ a, a < 3 → ∀ b, b < 3 → a ≠ b → (TX2 a).2.1 ≠ (TX2 b).2.1 := by decide +kernel
theorem tyX2_ok : ∀ k, k < 3 → parseFieldDescriptor (TX2 k).2.2.1 = some (tyX2 k) := by decide +kernel
abbrev cX2_init : ByteArray := prog_4_method_1_code
def yX2_init : MethodName := ⟨RX2, "<init>", "()V"⟩
abbrev cX2_isMissing : ByteArray := prog_4_method_2_code
def yX2_isMissing : MethodName := ⟨RX2, "isMissing", "()Z"⟩
abbrev cX2_begin : ByteArray := prog_4_method_3_code
def yX2_begin : MethodName := ⟨RX2, "begin", "(II)I"⟩
abbrev cX2_put : ByteArray := prog_4_method_4_code
def yX2_put : MethodName := ⟨RX2, "put", "(IJ)V"⟩
abbrev cX2_hasRun : ByteArray := prog_4_method_5_code
def yX2_hasRun : MethodName := ⟨RX2, "hasRun", "(II)Z"⟩
def RX3 : String := "FridaySlips$Tape"
def TX3 : u_T := fun k => match k with
  | 0 => ("FridaySlips$Tape", "bytes", "[I", true)
  | _ => ("FridaySlips$Tape", "size", "I", false)
def tyX3 : Nat → FieldType := fun k => match k with
  | 0 => .array .int
  | _ => .int
theorem nmX3 : ∀ a, a < 2 → ∀ b, b < 2 → a ≠ b → (TX3 a).2.1 ≠ (TX3 b).2.1 := by decide +kernel
theorem tyX3_ok : ∀ k, k < 2 → parseFieldDescriptor (TX3 k).2.2.1 = some (tyX3 k) := by decide +kernel
abbrev cX3_init : ByteArray := prog_5_method_1_code
def yX3_init : MethodName := ⟨RX3, "<init>", "()V"⟩
abbrev cX3_add : ByteArray := prog_5_method_2_code
def yX3_add : MethodName := ⟨RX3, "add", "(I)V"⟩
abbrev cX3_at : ByteArray := prog_5_method_3_code
def yX3_at : MethodName := ⟨RX3, "at", "(I)I"⟩
def RX4 : String := "FridaySlips$Village"
def TX4 : u_T := fun k => match k with
  | 0 => ("FridaySlips$Village", "friday", "I", false)
  | 1 => ("FridaySlips$Village", "z", "I", false)
  | 2 => ("FridaySlips$Village", "size", "I", false)
  | 3 => ("FridaySlips$Village", "kinds", "[I", true)
  | 4 => ("FridaySlips$Village", "works", "[I", true)
  | 5 => ("FridaySlips$Village", "purses", "[I", true)
  | 6 => ("FridaySlips$Village", "names", "[I", true)
  | 7 => ("FridaySlips$Village", "insults", "[I", true)
  | 8 => ("FridaySlips$Village", "slips", "[I", true)
  | 9 => ("FridaySlips$Village", "earned", "[I", true)
  | 10 => ("FridaySlips$Village", "said", "[I", true)
  | 11 => ("FridaySlips$Village", "heard", "[I", true)
  | _ => ("FridaySlips$Village", "drawers", "[I", true)
def tyX4 : Nat → FieldType := fun k => match k with
  | 0 => .int
  | 1 => .int
  | 2 => .int
  | 3 => .array .int
  | 4 => .array .int
  | 5 => .array .int
  | 6 => .array .int
  | 7 => .array .int
  | 8 => .array .int
  | 9 => .array .int
  | 10 => .array .int
  | 11 => .array .int
  | _ => .array .int
theorem nmX4 : ∀ a, a < 13 → ∀ b, b < 13 → a ≠ b → (TX4 a).2.1 ≠ (TX4 b).2.1 := by decide +kernel
theorem tyX4_ok : ∀ k, k < 13 → parseFieldDescriptor (TX4 k).2.2.1 = some (tyX4 k) := by decide +kernel
abbrev cX4_init : ByteArray := prog_6_method_1_code
def yX4_init : MethodName := ⟨RX4, "<init>", "()V"⟩
abbrev cX4_become : ByteArray := prog_6_method_2_code
def yX4_become : MethodName := ⟨RX4, "become", "(LFridaySlips$Village;)V"⟩
abbrev cX4_has : ByteArray := prog_6_method_3_code
def yX4_has : MethodName := ⟨RX4, "has", "(I)Z"⟩
abbrev cX4_isFull : ByteArray := prog_6_method_4_code
def yX4_isFull : MethodName := ⟨RX4, "isFull", "()Z"⟩
abbrev cX4_add : ByteArray := prog_6_method_5_code
def yX4_add : MethodName := ⟨RX4, "add", "(I)I"⟩
abbrev cX4_isChild : ByteArray := prog_6_method_6_code
def yX4_isChild : MethodName := ⟨RX4, "isChild", "(I)Z"⟩
abbrev cX4_areAlike : ByteArray := prog_6_method_7_code
def yX4_areAlike : MethodName := ⟨RX4, "areAlike", "(II)Z"⟩
abbrev cX4_earning : ByteArray := prog_6_method_8_code
def yX4_earning : MethodName := ⟨RX4, "earning", "(II)I"⟩
abbrev cX4_earningAs : ByteArray := prog_6_method_9_code
def yX4_earningAs : MethodName := ⟨RX4, "earningAs", "(III)I"⟩
abbrev cX4_saying : ByteArray := prog_6_method_10_code
def yX4_saying : MethodName := ⟨RX4, "saying", "(II)I"⟩
abbrev cX4_hearing : ByteArray := prog_6_method_11_code
def yX4_hearing : MethodName := ⟨RX4, "hearing", "(II)I"⟩
abbrev cX4_earnings : ByteArray := prog_6_method_12_code
def yX4_earnings : MethodName := ⟨RX4, "earnings", "()I"⟩
abbrev cX4_gainOfExchange : ByteArray := prog_6_method_13_code
def yX4_gainOfExchange : MethodName := ⟨RX4, "gainOfExchange", "(II)I"⟩
abbrev cX4_total : ByteArray := prog_6_method_14_code
def yX4_total : MethodName := ⟨RX4, "total", "([I)I"⟩
abbrev cX4_childrenSet : ByteArray := prog_6_method_15_code
def yX4_childrenSet : MethodName := ⟨RX4, "childrenSet", "()I"⟩
abbrev cX4_ownSet : ByteArray := prog_6_method_16_code
def yX4_ownSet : MethodName := ⟨RX4, "ownSet", "()I"⟩
abbrev cX4_ownCount : ByteArray := prog_6_method_17_code
def yX4_ownCount : MethodName := ⟨RX4, "ownCount", "()I"⟩
abbrev cX4_ringSet : ByteArray := prog_6_method_18_code
def yX4_ringSet : MethodName := ⟨RX4, "ringSet", "(I)I"⟩
abbrev cX4_isLotRight : ByteArray := prog_6_method_19_code
def yX4_isLotRight : MethodName := ⟨RX4, "isLotRight", "()Z"⟩
abbrev cX4_holder : ByteArray := prog_6_method_20_code
def yX4_holder : MethodName := ⟨RX4, "holder", "(I)I"⟩
abbrev cX4_exchange : ByteArray := prog_6_method_21_code
def yX4_exchange : MethodName := ⟨RX4, "exchange", "(II)V"⟩
abbrev cX4_goHome : ByteArray := prog_6_method_22_code
def yX4_goHome : MethodName := ⟨RX4, "goHome", "()V"⟩
abbrev cX4_drawLot : ByteArray := prog_6_method_23_code
def yX4_drawLot : MethodName := ⟨RX4, "drawLot", "()V"⟩
abbrev cX4_shuffle : ByteArray := prog_6_method_24_code
def yX4_shuffle : MethodName := ⟨RX4, "shuffle", "(Z)V"⟩
abbrev cX4_drawAmong : ByteArray := prog_6_method_25_code
def yX4_drawAmong : MethodName := ⟨RX4, "drawAmong", "(I)I"⟩
abbrev cX4_passFridays : ByteArray := prog_6_method_26_code
def yX4_passFridays : MethodName := ⟨RX4, "passFridays", "(I)V"⟩
abbrev cX4_passFriday : ByteArray := prog_6_method_27_code
def yX4_passFriday : MethodName := ⟨RX4, "passFriday", "()V"⟩
def RX5 : String := "FridaySlips$VillageText"
def TX5 : u_T := fun k => match k with
  | 0 => ("FridaySlips$VillageText", "tape", "LFridaySlips$Tape;", true)
  | 1 => ("FridaySlips$VillageText", "start", "I", false)
  | 2 => ("FridaySlips$VillageText", "end", "I", false)
  | 3 => ("FridaySlips$VillageText", "sort", "I", false)
  | _ => ("FridaySlips$VillageText", "value", "I", false)
def tyX5 : Nat → FieldType := fun k => match k with
  | 0 => .object "FridaySlips$Tape"
  | 1 => .int
  | 2 => .int
  | 3 => .int
  | _ => .int
theorem nmX5 : ∀ a, a < 5 → ∀ b, b < 5 → a ≠ b → (TX5 a).2.1 ≠ (TX5 b).2.1 := by decide +kernel
theorem tyX5_ok : ∀ k, k < 5 → parseFieldDescriptor (TX5 k).2.2.1 = some (tyX5 k) := by decide +kernel
abbrev cX5_init : ByteArray := prog_7_method_1_code
def yX5_init : MethodName := ⟨RX5, "<init>", "(LFridaySlips$Tape;)V"⟩
abbrev cX5_tell : ByteArray := prog_7_method_2_code
def yX5_tell : MethodName := ⟨RX5, "tell", "(LFridaySlips$Village;)I"⟩
abbrev cX5_takePerson : ByteArray := prog_7_method_3_code
def yX5_takePerson : MethodName := ⟨RX5, "takePerson", "(LFridaySlips$Village;)Z"⟩
abbrev cX5_takePart : ByteArray := prog_7_method_4_code
def yX5_takePart : MethodName := ⟨RX5, "takePart", "(Ljava/lang/String;[III)Z"⟩
abbrev cX5_takeSlip : ByteArray := prog_7_method_5_code
def yX5_takeSlip : MethodName := ⟨RX5, "takeSlip", "(LFridaySlips$Village;)Z"⟩
abbrev cX5_namedKind : ByteArray := prog_7_method_6_code
def yX5_namedKind : MethodName := ⟨RX5, "namedKind", "()I"⟩
abbrev cX5_nameOf : ByteArray := prog_7_method_7_code
def yX5_nameOf : MethodName := ⟨RX5, "nameOf", "(I)Ljava/lang/String;"⟩
abbrev cX5_isWord : ByteArray := prog_7_method_8_code
def yX5_isWord : MethodName := ⟨RX5, "isWord", "(Ljava/lang/String;)Z"⟩
abbrev cX5_step : ByteArray := prog_7_method_9_code
def yX5_step : MethodName := ⟨RX5, "step", "()V"⟩
abbrev cX5_passLetters : ByteArray := prog_7_method_10_code
def yX5_passLetters : MethodName := ⟨RX5, "passLetters", "()V"⟩
abbrev cX5_passDigits : ByteArray := prog_7_method_11_code
def yX5_passDigits : MethodName := ⟨RX5, "passDigits", "()V"⟩
abbrev cX5_isLetter : ByteArray := prog_7_method_12_code
def yX5_isLetter : MethodName := ⟨RX5, "isLetter", "(I)Z"⟩
abbrev cX5_isDigit : ByteArray := prog_7_method_13_code
def yX5_isDigit : MethodName := ⟨RX5, "isDigit", "(I)Z"⟩
def RX6 : String := "FridaySlips$Ways"
def TX6 : u_T := fun k => match k with
  | _ => ("", "", "", false)
def tyX6 : Nat → FieldType := fun k => match k with
  | _ => .int
theorem nmX6 : ∀ a, a < 0 → ∀ b, b < 0 → a ≠ b → (TX6 a).2.1 ≠ (TX6 b).2.1 := by decide +kernel
theorem tyX6_ok : ∀ k, k < 0 → parseFieldDescriptor (TX6 k).2.2.1 = some (tyX6 k) := by decide +kernel
abbrev cX6_isUnder : ByteArray := prog_8_method_2_code
def yX6_isUnder : MethodName := ⟨RX6, "isUnder", "(II)Z"⟩
abbrev cX6_earned : ByteArray := prog_8_method_3_code
def yX6_earned : MethodName := ⟨RX6, "earned", "(IIIII)I"⟩
abbrev cX6_said : ByteArray := prog_8_method_4_code
def yX6_said : MethodName := ⟨RX6, "said", "(III)I"⟩
abbrev cX6_heard : ByteArray := prog_8_method_5_code
def yX6_heard : MethodName := ⟨RX6, "heard", "(II)I"⟩
def RX7 : String := "FridaySlips"
def TX7 : u_T := fun k => match k with
  | 0 => ("FridaySlips", "today", "LFridaySlips$Village;", true)
  | 1 => ("FridaySlips", "latest", "LFridaySlips$Village;", true)
  | 2 => ("FridaySlips", "trial", "LFridaySlips$Village;", true)
  | 3 => ("FridaySlips", "best", "LFridaySlips$BestLot;", true)
  | 4 => ("FridaySlips", "tape", "LFridaySlips$Tape;", true)
  | 5 => ("FridaySlips", "text", "LFridaySlips$VillageText;", true)
  | 6 => ("FridaySlips", "sheets", "[LFridaySlips$Sheet;", true)
  | 7 => ("FridaySlips", "found", "[I", true)
  | _ => ("FridaySlips", "isKept", "Z", false)
def tyX7 : Nat → FieldType := fun k => match k with
  | 0 => .object "FridaySlips$Village"
  | 1 => .object "FridaySlips$Village"
  | 2 => .object "FridaySlips$Village"
  | 3 => .object "FridaySlips$BestLot"
  | 4 => .object "FridaySlips$Tape"
  | 5 => .object "FridaySlips$VillageText"
  | 6 => .array (.object "FridaySlips$Sheet")
  | 7 => .array .int
  | _ => .boolean
theorem nmX7 : ∀ a, a < 9 → ∀ b, b < 9 → a ≠ b → (TX7 a).2.1 ≠ (TX7 b).2.1 := by decide +kernel
theorem tyX7_ok : ∀ k, k < 9 → parseFieldDescriptor (TX7 k).2.2.1 = some (tyX7 k) := by decide +kernel
abbrev cX7_init : ByteArray := prog_1_method_1_code
def yX7_init : MethodName := ⟨RX7, "<init>", "()V"⟩
abbrev cX7_person : ByteArray := prog_1_method_2_code
def yX7_person : MethodName := ⟨RX7, "person", "(I)I"⟩
abbrev cX7_of : ByteArray := prog_1_method_3_code
def yX7_of : MethodName := ⟨RX7, "of", "(II)I"⟩
abbrev cX7_says : ByteArray := prog_1_method_4_code
def yX7_says : MethodName := ⟨RX7, "says", "(I)I"⟩
abbrev cX7_set : ByteArray := prog_1_method_5_code
def yX7_set : MethodName := ⟨RX7, "set", "(III)I"⟩
abbrev cX7_turn : ByteArray := prog_1_method_6_code
def yX7_turn : MethodName := ⟨RX7, "turn", "(II)I"⟩
abbrev cX7_as : ByteArray := prog_1_method_7_code
def yX7_as : MethodName := ⟨RX7, "as", "(II)I"⟩
abbrev cX7_swap : ByteArray := prog_1_method_8_code
def yX7_swap : MethodName := ⟨RX7, "swap", "(II)I"⟩
abbrev cX7_home : ByteArray := prog_1_method_9_code
def yX7_home : MethodName := ⟨RX7, "home", "()I"⟩
abbrev cX7_draw : ByteArray := prog_1_method_10_code
def yX7_draw : MethodName := ⟨RX7, "draw", "()I"⟩
abbrev cX7_seed : ByteArray := prog_1_method_11_code
def yX7_seed : MethodName := ⟨RX7, "seed", "(I)I"⟩
abbrev cX7_fridays : ByteArray := prog_1_method_12_code
def yX7_fridays : MethodName := ⟨RX7, "fridays", "(I)I"⟩
abbrev cX7_season : ByteArray := prog_1_method_13_code
def yX7_season : MethodName := ⟨RX7, "season", "(I)I"⟩
abbrev cX7_now : ByteArray := prog_1_method_14_code
def yX7_now : MethodName := ⟨RX7, "now", "(I)I"⟩
abbrev cX7_who : ByteArray := prog_1_method_15_code
def yX7_who : MethodName := ⟨RX7, "who", "(I)I"⟩
abbrev cX7_ring : ByteArray := prog_1_method_16_code
def yX7_ring : MethodName := ⟨RX7, "ring", "(I)I"⟩
abbrev cX7_rings : ByteArray := prog_1_method_17_code
def yX7_rings : MethodName := ⟨RX7, "rings", "()I"⟩
abbrev cX7_pairs : ByteArray := prog_1_method_18_code
def yX7_pairs : MethodName := ⟨RX7, "pairs", "()I"⟩
abbrev cX7_on : ByteArray := prog_1_method_19_code
def yX7_on : MethodName := ⟨RX7, "on", "(III)I"⟩
abbrev cX7_itself : ByteArray := prog_1_method_20_code
def yX7_itself : MethodName := ⟨RX7, "itself", "(I)I"⟩
abbrev cX7_most : ByteArray := prog_1_method_21_code
def yX7_most : MethodName := ⟨RX7, "most", "()I"⟩
abbrev cX7_slip : ByteArray := prog_1_method_22_code
def yX7_slip : MethodName := ⟨RX7, "slip", "(I)I"⟩
abbrev cX7_better : ByteArray := prog_1_method_23_code
def yX7_better : MethodName := ⟨RX7, "better", "()I"⟩
abbrev cX7_bestAs : ByteArray := prog_1_method_24_code
def yX7_bestAs : MethodName := ⟨RX7, "bestAs", "(I)I"⟩
abbrev cX7_kind : ByteArray := prog_1_method_25_code
def yX7_kind : MethodName := ⟨RX7, "kind", "(I)I"⟩
abbrev cX7_odds : ByteArray := prog_1_method_26_code
def yX7_odds : MethodName := ⟨RX7, "odds", "(I)I"⟩
abbrev cX7_lots : ByteArray := prog_1_method_27_code
def yX7_lots : MethodName := ⟨RX7, "lots", "(I)I"⟩
abbrev cX7_feed : ByteArray := prog_1_method_28_code
def yX7_feed : MethodName := ⟨RX7, "feed", "(II)I"⟩
abbrev cX7_wipe : ByteArray := prog_1_method_29_code
def yX7_wipe : MethodName := ⟨RX7, "wipe", "()I"⟩
abbrev cX7_village : ByteArray := prog_1_method_30_code
def yX7_village : MethodName := ⟨RX7, "village", "()I"⟩
abbrev cX7_sheet : ByteArray := prog_1_method_31_code
def yX7_sheet : MethodName := ⟨RX7, "sheet", "(III)I"⟩
abbrev cX7_write : ByteArray := prog_1_method_32_code
def yX7_write : MethodName := ⟨RX7, "write", "(IIJ)J"⟩
abbrev cX7_copy : ByteArray := prog_1_method_33_code
def yX7_copy : MethodName := ⟨RX7, "copy", "(IIIII)I"⟩
abbrev cX7_lays : ByteArray := prog_1_method_34_code
def yX7_lays : MethodName := ⟨RX7, "lays", "(I)I"⟩
abbrev cX7_book : ByteArray := prog_1_method_35_code
def yX7_book : MethodName := ⟨RX7, "book", "(II)I"⟩
abbrev cX7_read : ByteArray := prog_1_method_36_code
def yX7_read : MethodName := ⟨RX7, "read", "(II)I"⟩
abbrev cX7_image : ByteArray := prog_1_method_37_code
def yX7_image : MethodName := ⟨RX7, "image", "()I"⟩
abbrev cX7_undo : ByteArray := prog_1_method_38_code
def yX7_undo : MethodName := ⟨RX7, "undo", "()I"⟩
abbrev cX7_tear : ByteArray := prog_1_method_39_code
def yX7_tear : MethodName := ⟨RX7, "tear", "()I"⟩
abbrev cX7_count : ByteArray := prog_1_method_40_code
def yX7_count : MethodName := ⟨RX7, "count", "(I)I"⟩
abbrev cX7_status : ByteArray := prog_1_method_41_code
def yX7_status : MethodName := ⟨RX7, "status", "(I)I"⟩
abbrev cX7_finding : ByteArray := prog_1_method_42_code
def yX7_finding : MethodName := ⟨RX7, "finding", "(I)I"⟩
abbrev cX7_isKind : ByteArray := prog_1_method_43_code
def yX7_isKind : MethodName := ⟨RX7, "isKind", "(I)Z"⟩
abbrev cX7_isSheet : ByteArray := prog_1_method_44_code
def yX7_isSheet : MethodName := ⟨RX7, "isSheet", "(I)Z"⟩
abbrev cX7_replace : ByteArray := prog_1_method_45_code
def yX7_replace : MethodName := ⟨RX7, "replace", "([IIII)I"⟩
abbrev cX7_isRightLot : ByteArray := prog_1_method_46_code
def yX7_isRightLot : MethodName := ⟨RX7, "isRightLot", "(LFridaySlips$Sheet;)Z"⟩
abbrev cX7_fitsWith : ByteArray := prog_1_method_47_code
def yX7_fitsWith : MethodName := ⟨RX7, "fitsWith", "(IILFridaySlips$Sheet;)Z"⟩
def RX8 : String := "FridaySlipsModel"
def TX8 : u_T := fun k => match k with
  | 0 => ("FridaySlipsModel", "row", "[I", true)
  | 1 => ("FridaySlipsModel", "found", "[I", true)
  | 2 => ("FridaySlipsModel", "sort0", "[I", true)
  | 3 => ("FridaySlipsModel", "more", "[I", true)
  | 4 => ("FridaySlipsModel", "better", "[I", true)
  | 5 => ("FridaySlipsModel", "heard", "[I", true)
  | 6 => ("FridaySlipsModel", "tried", "[I", true)
  | 7 => ("FridaySlipsModel", "yet", "[I", true)
  | 8 => ("FridaySlipsModel", "tape", "[I", true)
  | 9 => ("FridaySlipsModel", "tapeMany", "I", false)
  | 10 => ("FridaySlipsModel", "sort", "I", false)
  | 11 => ("FridaySlipsModel", "begins", "I", false)
  | 12 => ("FridaySlipsModel", "tokenEnds", "I", false)
  | 13 => ("FridaySlipsModel", "word", "J", false)
  | 14 => ("FridaySlipsModel", "value", "I", false)
  | 15 => ("FridaySlipsModel", "good", "Z", false)
  | 16 => ("FridaySlipsModel", "bitsOf", "[I", true)
  | 17 => ("FridaySlipsModel", "sizeOf", "[I", true)
  | 18 => ("FridaySlipsModel", "sheets", "[J", true)
  | 19 => ("FridaySlipsModel", "lent", "[J", true)
  | 20 => ("FridaySlipsModel", "image", "[I", true)
  | 21 => ("FridaySlipsModel", "before", "[I", true)
  | _ => ("FridaySlipsModel", "isKept", "Z", false)
def tyX8 : Nat → FieldType := fun k => match k with
  | 0 => .array .int
  | 1 => .array .int
  | 2 => .array .int
  | 3 => .array .int
  | 4 => .array .int
  | 5 => .array .int
  | 6 => .array .int
  | 7 => .array .int
  | 8 => .array .int
  | 9 => .int
  | 10 => .int
  | 11 => .int
  | 12 => .int
  | 13 => .long
  | 14 => .int
  | 15 => .boolean
  | 16 => .array .int
  | 17 => .array .int
  | 18 => .array .long
  | 19 => .array .long
  | 20 => .array .int
  | 21 => .array .int
  | _ => .boolean
theorem nmX8 : ∀ a, a < 23 → ∀ b, b < 23 → a ≠ b → (TX8 a).2.1 ≠ (TX8 b).2.1 := by decide +kernel
theorem tyX8_ok : ∀ k, k < 23 → parseFieldDescriptor (TX8 k).2.2.1 = some (tyX8 k) := by decide +kernel
abbrev cX8_init : ByteArray := prog_10_method_1_code
def yX8_init : MethodName := ⟨RX8, "<init>", "()V"⟩
abbrev cX8_in : ByteArray := prog_10_method_2_code
def yX8_in : MethodName := ⟨RX8, "in", "(III)Z"⟩
abbrev cX8_finds : ByteArray := prog_10_method_3_code
def yX8_finds : MethodName := ⟨RX8, "finds", "(I)I"⟩
abbrev cX8_held : ByteArray := prog_10_method_4_code
def yX8_held : MethodName := ⟨RX8, "held", "(III)I"⟩
abbrev cX8_its : ByteArray := prog_10_method_5_code
def yX8_its : MethodName := ⟨RX8, "its", "(II)I"⟩
abbrev cX8_puts : ByteArray := prog_10_method_6_code
def yX8_puts : MethodName := ⟨RX8, "puts", "(III)V"⟩
abbrev cX8_becomes : ByteArray := prog_10_method_7_code
def yX8_becomes : MethodName := ⟨RX8, "becomes", "(II)I"⟩
abbrev cX8_isOne : ByteArray := prog_10_method_8_code
def yX8_isOne : MethodName := ⟨RX8, "isOne", "(I)Z"⟩
abbrev cX8_isKind : ByteArray := prog_10_method_9_code
def yX8_isKind : MethodName := ⟨RX8, "isKind", "(I)Z"⟩
abbrev cX8_isChild : ByteArray := prog_10_method_10_code
def yX8_isChild : MethodName := ⟨RX8, "isChild", "(I)Z"⟩
abbrev cX8_areAlike : ByteArray := prog_10_method_11_code
def yX8_areAlike : MethodName := ⟨RX8, "areAlike", "(II)Z"⟩
abbrev cX8_earnsAs : ByteArray := prog_10_method_12_code
def yX8_earnsAs : MethodName := ⟨RX8, "earnsAs", "(II)I"⟩
abbrev cX8_saysAs : ByteArray := prog_10_method_13_code
def yX8_saysAs : MethodName := ⟨RX8, "saysAs", "(II)I"⟩
abbrev cX8_hearsAs : ByteArray := prog_10_method_14_code
def yX8_hearsAs : MethodName := ⟨RX8, "hearsAs", "(II)I"⟩
abbrev cX8_earns : ByteArray := prog_10_method_15_code
def yX8_earns : MethodName := ⟨RX8, "earns", "(I)I"⟩
abbrev cX8_earnAll : ByteArray := prog_10_method_16_code
def yX8_earnAll : MethodName := ⟨RX8, "earnAll", "()I"⟩
abbrev cX8_sumOf : ByteArray := prog_10_method_17_code
def yX8_sumOf : MethodName := ⟨RX8, "sumOf", "(I)I"⟩
abbrev cX8_adds : ByteArray := prog_10_method_18_code
def yX8_adds : MethodName := ⟨RX8, "adds", "(IIII)V"⟩
abbrev cX8_person : ByteArray := prog_10_method_19_code
def yX8_person : MethodName := ⟨RX8, "person", "(I)I"⟩
abbrev cX8_of : ByteArray := prog_10_method_20_code
def yX8_of : MethodName := ⟨RX8, "of", "(II)I"⟩
abbrev cX8_says : ByteArray := prog_10_method_21_code
def yX8_says : MethodName := ⟨RX8, "says", "(I)I"⟩
abbrev cX8_set : ByteArray := prog_10_method_22_code
def yX8_set : MethodName := ⟨RX8, "set", "(III)I"⟩
abbrev cX8_turn : ByteArray := prog_10_method_23_code
def yX8_turn : MethodName := ⟨RX8, "turn", "(II)I"⟩
abbrev cX8_as : ByteArray := prog_10_method_24_code
def yX8_as : MethodName := ⟨RX8, "as", "(II)I"⟩
abbrev cX8_swaps : ByteArray := prog_10_method_25_code
def yX8_swaps : MethodName := ⟨RX8, "swaps", "(II)V"⟩
abbrev cX8_ownSet : ByteArray := prog_10_method_26_code
def yX8_ownSet : MethodName := ⟨RX8, "ownSet", "()I"⟩
abbrev cX8_bits : ByteArray := prog_10_method_27_code
def yX8_bits : MethodName := ⟨RX8, "bits", "(I)I"⟩
abbrev cX8_swap : ByteArray := prog_10_method_28_code
def yX8_swap : MethodName := ⟨RX8, "swap", "(II)I"⟩
abbrev cX8_allOwn : ByteArray := prog_10_method_29_code
def yX8_allOwn : MethodName := ⟨RX8, "allOwn", "()V"⟩
abbrev cX8_home : ByteArray := prog_10_method_30_code
def yX8_home : MethodName := ⟨RX8, "home", "()I"⟩
abbrev cX8_drawn : ByteArray := prog_10_method_31_code
def yX8_drawn : MethodName := ⟨RX8, "drawn", "(I)I"⟩
abbrev cX8_drawsOf : ByteArray := prog_10_method_32_code
def yX8_drawsOf : MethodName := ⟨RX8, "drawsOf", "(Z)V"⟩
abbrev cX8_draws : ByteArray := prog_10_method_33_code
def yX8_draws : MethodName := ⟨RX8, "draws", "()V"⟩
abbrev cX8_draw : ByteArray := prog_10_method_34_code
def yX8_draw : MethodName := ⟨RX8, "draw", "()I"⟩
abbrev cX8_seed : ByteArray := prog_10_method_35_code
def yX8_seed : MethodName := ⟨RX8, "seed", "(I)I"⟩
abbrev cX8_oneFriday : ByteArray := prog_10_method_36_code
def yX8_oneFriday : MethodName := ⟨RX8, "oneFriday", "()V"⟩
abbrev cX8_fridays : ByteArray := prog_10_method_37_code
def yX8_fridays : MethodName := ⟨RX8, "fridays", "(I)I"⟩
abbrev cX8_season : ByteArray := prog_10_method_38_code
def yX8_season : MethodName := ⟨RX8, "season", "(I)I"⟩
abbrev cX8_children : ByteArray := prog_10_method_39_code
def yX8_children : MethodName := ⟨RX8, "children", "()I"⟩
abbrev cX8_isRight : ByteArray := prog_10_method_40_code
def yX8_isRight : MethodName := ⟨RX8, "isRight", "()Z"⟩
abbrev cX8_now : ByteArray := prog_10_method_41_code
def yX8_now : MethodName := ⟨RX8, "now", "(I)I"⟩
abbrev cX8_whoHas : ByteArray := prog_10_method_42_code
def yX8_whoHas : MethodName := ⟨RX8, "whoHas", "(I)I"⟩
abbrev cX8_who : ByteArray := prog_10_method_43_code
def yX8_who : MethodName := ⟨RX8, "who", "(I)I"⟩
abbrev cX8_ringOf : ByteArray := prog_10_method_44_code
def yX8_ringOf : MethodName := ⟨RX8, "ringOf", "(I)I"⟩
abbrev cX8_ring : ByteArray := prog_10_method_45_code
def yX8_ring : MethodName := ⟨RX8, "ring", "(I)I"⟩
abbrev cX8_rings : ByteArray := prog_10_method_46_code
def yX8_rings : MethodName := ⟨RX8, "rings", "()I"⟩
abbrev cX8_pairs : ByteArray := prog_10_method_47_code
def yX8_pairs : MethodName := ⟨RX8, "pairs", "()I"⟩
abbrev cX8_on : ByteArray := prog_10_method_48_code
def yX8_on : MethodName := ⟨RX8, "on", "(III)I"⟩
abbrev cX8_itself : ByteArray := prog_10_method_49_code
def yX8_itself : MethodName := ⟨RX8, "itself", "(I)I"⟩
abbrev cX8_findMost : ByteArray := prog_10_method_50_code
def yX8_findMost : MethodName := ⟨RX8, "findMost", "()V"⟩
abbrev cX8_most : ByteArray := prog_10_method_51_code
def yX8_most : MethodName := ⟨RX8, "most", "()I"⟩
abbrev cX8_slip : ByteArray := prog_10_method_52_code
def yX8_slip : MethodName := ⟨RX8, "slip", "(I)I"⟩
abbrev cX8_better : ByteArray := prog_10_method_53_code
def yX8_better : MethodName := ⟨RX8, "better", "()I"⟩
abbrev cX8_bestAs : ByteArray := prog_10_method_54_code
def yX8_bestAs : MethodName := ⟨RX8, "bestAs", "(I)I"⟩
abbrev cX8_kind : ByteArray := prog_10_method_55_code
def yX8_kind : MethodName := ⟨RX8, "kind", "(I)I"⟩
abbrev cX8_ways : ByteArray := prog_10_method_56_code
def yX8_ways : MethodName := ⟨RX8, "ways", "(II)I"⟩
abbrev cX8_all : ByteArray := prog_10_method_57_code
def yX8_all : MethodName := ⟨RX8, "all", "(I)I"⟩
abbrev cX8_divisor : ByteArray := prog_10_method_58_code
def yX8_divisor : MethodName := ⟨RX8, "divisor", "(II)I"⟩
abbrev cX8_odds : ByteArray := prog_10_method_59_code
def yX8_odds : MethodName := ⟨RX8, "odds", "(I)I"⟩
abbrev cX8_lots : ByteArray := prog_10_method_60_code
def yX8_lots : MethodName := ⟨RX8, "lots", "(I)I"⟩
abbrev cX8_feed : ByteArray := prog_10_method_61_code
def yX8_feed : MethodName := ⟨RX8, "feed", "(II)I"⟩
abbrev cX8_wipe : ByteArray := prog_10_method_62_code
def yX8_wipe : MethodName := ⟨RX8, "wipe", "()I"⟩
abbrev cX8_byteAt : ByteArray := prog_10_method_63_code
def yX8_byteAt : MethodName := ⟨RX8, "byteAt", "(I)I"⟩
abbrev cX8_isLetter : ByteArray := prog_10_method_64_code
def yX8_isLetter : MethodName := ⟨RX8, "isLetter", "(I)Z"⟩
abbrev cX8_isDigit : ByteArray := prog_10_method_65_code
def yX8_isDigit : MethodName := ⟨RX8, "isDigit", "(I)Z"⟩
abbrev cX8_advance : ByteArray := prog_10_method_66_code
def yX8_advance : MethodName := ⟨RX8, "advance", "()V"⟩
abbrev cX8_isWord : ByteArray := prog_10_method_67_code
def yX8_isWord : MethodName := ⟨RX8, "isWord", "(J)Z"⟩
abbrev cX8_kindHere : ByteArray := prog_10_method_68_code
def yX8_kindHere : MethodName := ⟨RX8, "kindHere", "()I"⟩
abbrev cX8_wantNumber : ByteArray := prog_10_method_69_code
def yX8_wantNumber : MethodName := ⟨RX8, "wantNumber", "(II)I"⟩
abbrev cX8_mayWant : ByteArray := prog_10_method_70_code
def yX8_mayWant : MethodName := ⟨RX8, "mayWant", "(JIII)I"⟩
abbrev cX8_wantPerson : ByteArray := prog_10_method_71_code
def yX8_wantPerson : MethodName := ⟨RX8, "wantPerson", "(I)V"⟩
abbrev cX8_wantSlip : ByteArray := prog_10_method_72_code
def yX8_wantSlip : MethodName := ⟨RX8, "wantSlip", "()V"⟩
abbrev cX8_wantItem : ByteArray := prog_10_method_73_code
def yX8_wantItem : MethodName := ⟨RX8, "wantItem", "()V"⟩
abbrev cX8_village : ByteArray := prog_10_method_74_code
def yX8_village : MethodName := ⟨RX8, "village", "()I"⟩
abbrev cX8_isSheet : ByteArray := prog_10_method_75_code
def yX8_isSheet : MethodName := ⟨RX8, "isSheet", "(I)Z"⟩
abbrev cX8_narrow : ByteArray := prog_10_method_76_code
def yX8_narrow : MethodName := ⟨RX8, "narrow", "(IJ)J"⟩
abbrev cX8_sheet : ByteArray := prog_10_method_77_code
def yX8_sheet : MethodName := ⟨RX8, "sheet", "(III)I"⟩
abbrev cX8_write : ByteArray := prog_10_method_78_code
def yX8_write : MethodName := ⟨RX8, "write", "(IIJ)J"⟩
abbrev cX8_isPart : ByteArray := prog_10_method_79_code
def yX8_isPart : MethodName := ⟨RX8, "isPart", "(III)Z"⟩
abbrev cX8_copy : ByteArray := prog_10_method_80_code
def yX8_copy : MethodName := ⟨RX8, "copy", "(IIIII)I"⟩
abbrev cX8_badSheet : ByteArray := prog_10_method_81_code
def yX8_badSheet : MethodName := ⟨RX8, "badSheet", "(I)I"⟩
abbrev cX8_lays : ByteArray := prog_10_method_82_code
def yX8_lays : MethodName := ⟨RX8, "lays", "(I)I"⟩
abbrev cX8_book : ByteArray := prog_10_method_83_code
def yX8_book : MethodName := ⟨RX8, "book", "(II)I"⟩
abbrev cX8_isSo : ByteArray := prog_10_method_84_code
def yX8_isSo : MethodName := ⟨RX8, "isSo", "(I)Z"⟩
abbrev cX8_read : ByteArray := prog_10_method_85_code
def yX8_read : MethodName := ⟨RX8, "read", "(II)I"⟩
abbrev cX8_moveAll : ByteArray := prog_10_method_86_code
def yX8_moveAll : MethodName := ⟨RX8, "moveAll", "(Z[I)V"⟩
abbrev cX8_image : ByteArray := prog_10_method_87_code
def yX8_image : MethodName := ⟨RX8, "image", "()I"⟩
abbrev cX8_undo : ByteArray := prog_10_method_88_code
def yX8_undo : MethodName := ⟨RX8, "undo", "()I"⟩
abbrev cX8_tear : ByteArray := prog_10_method_89_code
def yX8_tear : MethodName := ⟨RX8, "tear", "()I"⟩
abbrev cX8_count : ByteArray := prog_10_method_90_code
def yX8_count : MethodName := ⟨RX8, "count", "(I)I"⟩
abbrev cX8_status : ByteArray := prog_10_method_91_code
def yX8_status : MethodName := ⟨RX8, "status", "(I)I"⟩
def RJx145de : String := "java/io/Serializable"
def TJx145de : u_T := fun k => match k with
  | _ => ("", "", "", false)
def tyJx145de : Nat → FieldType := fun k => match k with
  | _ => .int
def RJx9f9b0 : String := "java/lang/CharSequence"
def TJx9f9b0 : u_T := fun k => match k with
  | _ => ("", "", "", false)
def tyJx9f9b0 : Nat → FieldType := fun k => match k with
  | _ => .int
def RJxb160c : String := "java/lang/Comparable"
def TJxb160c : u_T := fun k => match k with
  | _ => ("", "", "", false)
def tyJxb160c : Nat → FieldType := fun k => match k with
  | _ => .int
def RJ6 : String := "java/lang/Integer"
def TJ6 : u_T := fun k => match k with
  | _ => ("", "", "", false)
def tyJ6 : Nat → FieldType := fun k => match k with
  | _ => .int
abbrev cJ6_bitCount_0f7a4 : ByteArray := prog_11_method_49_code
def yJ6_bitCount_0f7a4 : MethodName := ⟨RJ6, "bitCount", "(I)I"⟩
def RJ9 : String := "java/lang/Math"
def TJ9 : u_T := fun k => match k with
  | _ => ("", "", "", false)
def tyJ9 : Nat → FieldType := fun k => match k with
  | _ => .int
abbrev cJ9_max_7cf53 : ByteArray := prog_12_method_65_code
def yJ9_max_7cf53 : MethodName := ⟨RJ9, "max", "(II)I"⟩
abbrev cJ9_min_7cf53 : ByteArray := prog_12_method_69_code
def yJ9_min_7cf53 : MethodName := ⟨RJ9, "min", "(II)I"⟩
def RJ0 : String := "java/lang/String"
def TJ0 : u_T := fun k => match k with
  | _ => ("", "", "", false)
def tyJ0 : Nat → FieldType := fun k => match k with
  | _ => .int
abbrev cJ0_length_8abf5 : ByteArray := prog_13_method_54_code
def yJ0_length_8abf5 : MethodName := ⟨RJ0, "length", "()I"⟩
abbrev cJ0_charAt_5068e : ByteArray := prog_13_method_56_code
def yJ0_charAt_5068e : MethodName := ⟨RJ0, "charAt", "(I)C"⟩
abbrev cJ0_coder_7d493 : ByteArray := prog_13_method_152_code
def yJ0_coder_7d493 : MethodName := ⟨RJ0, "coder", "()B"⟩
abbrev cJ0_isLatin1_aae02 : ByteArray := prog_13_method_154_code
def yJ0_isLatin1_aae02 : MethodName := ⟨RJ0, "isLatin1", "()Z"⟩
abbrev cJ0_checkIndex_df160 : ByteArray := prog_13_method_155_code
def yJ0_checkIndex_df160 : MethodName := ⟨RJ0, "checkIndex", "(II)V"⟩
def RJ1 : String := "java/lang/StringLatin1"
def TJ1 : u_T := fun k => match k with
  | _ => ("", "", "", false)
def tyJ1 : Nat → FieldType := fun k => match k with
  | _ => .int
abbrev cJ1_charAt_3b067 : ByteArray := prog_14_method_2_code
def yJ1_charAt_3b067 : MethodName := ⟨RJ1, "charAt", "([BI)C"⟩
def RJ2 : String := "java/lang/StringUTF16"
def TJ2 : u_T := fun k => match k with
  | _ => ("", "", "", false)
def tyJ2 : Nat → FieldType := fun k => match k with
  | _ => .int
abbrev cJ2_getChar_3b067 : ByteArray := prog_15_method_5_code
def yJ2_getChar_3b067 : MethodName := ⟨RJ2, "getChar", "([BI)C"⟩
abbrev cJ2_length_9d52b : ByteArray := prog_15_method_6_code
def yJ2_length_9d52b : MethodName := ⟨RJ2, "length", "([B)I"⟩
abbrev cJ2_charAt_3b067 : ByteArray := prog_15_method_83_code
def yJ2_charAt_3b067 : MethodName := ⟨RJ2, "charAt", "([BI)C"⟩
abbrev cJ2_checkIndex_2214a : ByteArray := prog_15_method_91_code
def yJ2_checkIndex_2214a : MethodName := ⟨RJ2, "checkIndex", "(I[B)V"⟩
def RJ10 : String := "java/lang/System"
def TJ10 : u_T := fun k => match k with
  | _ => ("", "", "", false)
def tyJ10 : Nat → FieldType := fun k => match k with
  | _ => .int
def RJxfd54e : String := "java/lang/constant/Constable"
def TJxfd54e : u_T := fun k => match k with
  | _ => ("", "", "", false)
def tyJxfd54e : Nat → FieldType := fun k => match k with
  | _ => .int
def RJx3cf43 : String := "java/lang/constant/ConstantDesc"
def TJx3cf43 : u_T := fun k => match k with
  | _ => ("", "", "", false)
def tyJx3cf43 : Nat → FieldType := fun k => match k with
  | _ => .int
def RJ7 : String := "java/util/Arrays"
def TJ7 : u_T := fun k => match k with
  | _ => ("", "", "", false)
def tyJ7 : Nat → FieldType := fun k => match k with
  | _ => .int
abbrev cJ7_fill_d0a16 : ByteArray := prog_17_method_101_code
def yJ7_fill_d0a16 : MethodName := ⟨RJ7, "fill", "([JJ)V"⟩
def RJ3 : String := "jdk/internal/util/Preconditions"
def TJ3 : u_T := fun k => match k with
  | _ => ("", "", "", false)
def tyJ3 : Nat → FieldType := fun k => match k with
  | _ => .int
abbrev cJ3_checkIndex_8e157 : ByteArray := prog_18_method_11_code
def yJ3_checkIndex_8e157 : MethodName := ⟨RJ3, "checkIndex", "(IILjava/util/function/BiFunction;)I"⟩
def RL : String := "FridaySlipsLaw"
abbrev cL_law : ByteArray := code
def yL_law : MethodName := ⟨RL, "law", "([I)Z"⟩
end
section
theorem dX0_init_0 : decode cX0_init 0 = .ok (.aload_n 0, 1) := by decide +kernel
theorem dX0_init_1 : decode cX0_init 1 = .ok (.invokespecial 3, 3) := by decide +kernel
theorem dX0_init_4 : decode cX0_init 4 = .ok (.aload_n 0, 1) := by decide +kernel
theorem dX0_init_5 : decode cX0_init 5 = .ok (.sipush 256, 3) := by decide +kernel
theorem dX0_init_8 : decode cX0_init 8 = .ok (.newarray .int, 2) := by decide +kernel
theorem dX0_init_10 : decode cX0_init 10 = .ok (.putfield 9, 3) := by decide +kernel
theorem dX0_init_13 : decode cX0_init 13 = .ok (.return_, 1) := by decide +kernel
theorem dX0_search_0 : decode cX0_search 0 = .ok (.iconst 1, 1) := by decide +kernel
theorem dX0_search_1 : decode cX0_search 1 = .ok (.aload_n 1, 1) := by decide +kernel
theorem dX0_search_2 : decode cX0_search 2 = .ok (.getfield 15, 3) := by decide +kernel
theorem dX0_search_5 : decode cX0_search 5 = .ok (.ishl, 1) := by decide +kernel
theorem dX0_search_6 : decode cX0_search 6 = .ok (.iconst 1, 1) := by decide +kernel
theorem dX0_search_7 : decode cX0_search 7 = .ok (.isub, 1) := by decide +kernel
theorem dX0_search_8 : decode cX0_search 8 = .ok (.istore_n 2, 1) := by decide +kernel
theorem dX0_search_9 : decode cX0_search 9 = .ok (.aload_n 0, 1) := by decide +kernel
theorem dX0_search_10 : decode cX0_search 10 = .ok (.getfield 9, 3) := by decide +kernel
theorem dX0_search_13 : decode cX0_search 13 = .ok (.iload_n 2, 1) := by decide +kernel
theorem dX0_search_14 : decode cX0_search 14 = .ok (.iconst 0, 1) := by decide +kernel
theorem dX0_search_15 : decode cX0_search 15 = .ok (.iastore, 1) := by decide +kernel
theorem dX0_search_16 : decode cX0_search 16 = .ok (.iload_n 2, 1) := by decide +kernel
theorem dX0_search_17 : decode cX0_search 17 = .ok (.iconst 1, 1) := by decide +kernel
theorem dX0_search_18 : decode cX0_search 18 = .ok (.isub, 1) := by decide +kernel
theorem dX0_search_19 : decode cX0_search 19 = .ok (.istore_n 3, 1) := by decide +kernel
theorem dX0_search_20 : decode cX0_search 20 = .ok (.iload_n 3, 1) := by decide +kernel
theorem dX0_search_21 : decode cX0_search 21 = .ok (.ifCond .lt 61, 3) := by decide +kernel
theorem dX0_search_24 : decode cX0_search 24 = .ok (.iload_n 3, 1) := by decide +kernel
theorem dX0_search_25 : decode cX0_search 25 = .ok (.invokestatic 21, 3) := by decide +kernel
theorem dX0_search_28 : decode cX0_search 28 = .ok (.istore 4, 2) := by decide +kernel
theorem dX0_search_30 : decode cX0_search 30 = .ok (.iconst (-1), 1) := by decide +kernel
theorem dX0_search_31 : decode cX0_search 31 = .ok (.istore 5, 2) := by decide +kernel
theorem dX0_search_33 : decode cX0_search 33 = .ok (.iconst 0, 1) := by decide +kernel
theorem dX0_search_34 : decode cX0_search 34 = .ok (.istore 6, 2) := by decide +kernel
theorem dX0_search_36 : decode cX0_search 36 = .ok (.iload 6, 2) := by decide +kernel
theorem dX0_search_38 : decode cX0_search 38 = .ok (.aload_n 1, 1) := by decide +kernel
theorem dX0_search_39 : decode cX0_search 39 = .ok (.getfield 15, 3) := by decide +kernel
theorem dX0_search_42 : decode cX0_search 42 = .ok (.if_icmp .ge 26, 3) := by decide +kernel
theorem dX0_search_45 : decode cX0_search 45 = .ok (.iload 5, 2) := by decide +kernel
theorem dX0_search_47 : decode cX0_search 47 = .ok (.aload_n 0, 1) := by decide +kernel
theorem dX0_search_48 : decode cX0_search 48 = .ok (.iload_n 3, 1) := by decide +kernel
theorem dX0_search_49 : decode cX0_search 49 = .ok (.iload 4, 2) := by decide +kernel
theorem dX0_search_51 : decode cX0_search 51 = .ok (.iload 6, 2) := by decide +kernel
theorem dX0_search_53 : decode cX0_search 53 = .ok (.aload_n 1, 1) := by decide +kernel
theorem dX0_search_54 : decode cX0_search 54 = .ok (.invokevirtual 27, 3) := by decide +kernel
theorem dX0_search_57 : decode cX0_search 57 = .ok (.invokestatic 31, 3) := by decide +kernel
theorem dX0_search_60 : decode cX0_search 60 = .ok (.istore 5, 2) := by decide +kernel
theorem dX0_search_62 : decode cX0_search 62 = .ok (.iinc 6 1, 3) := by decide +kernel
theorem dX0_search_65 : decode cX0_search 65 = .ok (.goto (-29), 3) := by decide +kernel
theorem dX0_search_68 : decode cX0_search 68 = .ok (.aload_n 0, 1) := by decide +kernel
theorem dX0_search_69 : decode cX0_search 69 = .ok (.getfield 9, 3) := by decide +kernel
theorem dX0_search_72 : decode cX0_search 72 = .ok (.iload_n 3, 1) := by decide +kernel
theorem dX0_search_73 : decode cX0_search 73 = .ok (.iload 5, 2) := by decide +kernel
theorem dX0_search_75 : decode cX0_search 75 = .ok (.iastore, 1) := by decide +kernel
theorem dX0_search_76 : decode cX0_search 76 = .ok (.iinc 3 (-1), 3) := by decide +kernel
theorem dX0_search_79 : decode cX0_search 79 = .ok (.goto (-59), 3) := by decide +kernel
theorem dX0_search_82 : decode cX0_search 82 = .ok (.aload_n 0, 1) := by decide +kernel
theorem dX0_search_83 : decode cX0_search 83 = .ok (.getfield 9, 3) := by decide +kernel
theorem dX0_search_86 : decode cX0_search 86 = .ok (.iconst 0, 1) := by decide +kernel
theorem dX0_search_87 : decode cX0_search 87 = .ok (.iaload, 1) := by decide +kernel
theorem dX0_search_88 : decode cX0_search 88 = .ok (.ireturn, 1) := by decide +kernel
theorem dX0_mostWith_0 : decode cX0_mostWith 0 = .ok (.iload_n 1, 1) := by decide +kernel
theorem dX0_mostWith_1 : decode cX0_mostWith 1 = .ok (.iload_n 3, 1) := by decide +kernel
theorem dX0_mostWith_2 : decode cX0_mostWith 2 = .ok (.ishr, 1) := by decide +kernel
theorem dX0_mostWith_3 : decode cX0_mostWith 3 = .ok (.iconst 1, 1) := by decide +kernel
theorem dX0_mostWith_4 : decode cX0_mostWith 4 = .ok (.iand, 1) := by decide +kernel
theorem dX0_mostWith_5 : decode cX0_mostWith 5 = .ok (.ifCond .ne 13, 3) := by decide +kernel
theorem dX0_mostWith_8 : decode cX0_mostWith 8 = .ok (.aload 4, 2) := by decide +kernel
theorem dX0_mostWith_10 : decode cX0_mostWith 10 = .ok (.iload_n 2, 1) := by decide +kernel
theorem dX0_mostWith_11 : decode cX0_mostWith 11 = .ok (.iload_n 3, 1) := by decide +kernel
theorem dX0_mostWith_12 : decode cX0_mostWith 12 = .ok (.invokevirtual 37, 3) := by decide +kernel
theorem dX0_mostWith_15 : decode cX0_mostWith 15 = .ok (.ifCond .ne 5, 3) := by decide +kernel
theorem dX0_mostWith_18 : decode cX0_mostWith 18 = .ok (.iconst (-1), 1) := by decide +kernel
theorem dX0_mostWith_19 : decode cX0_mostWith 19 = .ok (.ireturn, 1) := by decide +kernel
theorem dX0_mostWith_20 : decode cX0_mostWith 20 = .ok (.aload_n 0, 1) := by decide +kernel
theorem dX0_mostWith_21 : decode cX0_mostWith 21 = .ok (.getfield 9, 3) := by decide +kernel
theorem dX0_mostWith_24 : decode cX0_mostWith 24 = .ok (.iload_n 1, 1) := by decide +kernel
theorem dX0_mostWith_25 : decode cX0_mostWith 25 = .ok (.iconst 1, 1) := by decide +kernel
theorem dX0_mostWith_26 : decode cX0_mostWith 26 = .ok (.iload_n 3, 1) := by decide +kernel
theorem dX0_mostWith_27 : decode cX0_mostWith 27 = .ok (.ishl, 1) := by decide +kernel
theorem dX0_mostWith_28 : decode cX0_mostWith 28 = .ok (.ior, 1) := by decide +kernel
theorem dX0_mostWith_29 : decode cX0_mostWith 29 = .ok (.iaload, 1) := by decide +kernel
theorem dX0_mostWith_30 : decode cX0_mostWith 30 = .ok (.istore 5, 2) := by decide +kernel
theorem dX0_mostWith_32 : decode cX0_mostWith 32 = .ok (.iload 5, 2) := by decide +kernel
theorem dX0_mostWith_34 : decode cX0_mostWith 34 = .ok (.ifCond .ge 7, 3) := by decide +kernel
theorem dX0_mostWith_37 : decode cX0_mostWith 37 = .ok (.iconst (-1), 1) := by decide +kernel
theorem dX0_mostWith_38 : decode cX0_mostWith 38 = .ok (.goto 13, 3) := by decide +kernel
theorem dX0_mostWith_41 : decode cX0_mostWith 41 = .ok (.iload 5, 2) := by decide +kernel
theorem dX0_mostWith_43 : decode cX0_mostWith 43 = .ok (.aload 4, 2) := by decide +kernel
theorem dX0_mostWith_45 : decode cX0_mostWith 45 = .ok (.iload_n 2, 1) := by decide +kernel
theorem dX0_mostWith_46 : decode cX0_mostWith 46 = .ok (.iload_n 3, 1) := by decide +kernel
theorem dX0_mostWith_47 : decode cX0_mostWith 47 = .ok (.invokevirtual 41, 3) := by decide +kernel
theorem dX0_mostWith_50 : decode cX0_mostWith 50 = .ok (.iadd, 1) := by decide +kernel
theorem dX0_mostWith_51 : decode cX0_mostWith 51 = .ok (.ireturn, 1) := by decide +kernel
theorem dX0_slipOf_0 : decode cX0_slipOf 0 = .ok (.iconst 0, 1) := by decide +kernel
theorem dX0_slipOf_1 : decode cX0_slipOf 1 = .ok (.istore_n 3, 1) := by decide +kernel
theorem dX0_slipOf_2 : decode cX0_slipOf 2 = .ok (.iload_n 1, 1) := by decide +kernel
theorem dX0_slipOf_3 : decode cX0_slipOf 3 = .ok (.istore 4, 2) := by decide +kernel
theorem dX0_slipOf_5 : decode cX0_slipOf 5 = .ok (.iconst 0, 1) := by decide +kernel
theorem dX0_slipOf_6 : decode cX0_slipOf 6 = .ok (.istore 5, 2) := by decide +kernel
theorem dX0_slipOf_8 : decode cX0_slipOf 8 = .ok (.iload 5, 2) := by decide +kernel
theorem dX0_slipOf_10 : decode cX0_slipOf 10 = .ok (.iload_n 1, 1) := by decide +kernel
theorem dX0_slipOf_11 : decode cX0_slipOf 11 = .ok (.if_icmp .gt 26, 3) := by decide +kernel
theorem dX0_slipOf_14 : decode cX0_slipOf 14 = .ok (.aload_n 0, 1) := by decide +kernel
theorem dX0_slipOf_15 : decode cX0_slipOf 15 = .ok (.iload_n 3, 1) := by decide +kernel
theorem dX0_slipOf_16 : decode cX0_slipOf 16 = .ok (.iload 5, 2) := by decide +kernel
theorem dX0_slipOf_18 : decode cX0_slipOf 18 = .ok (.aload_n 2, 1) := by decide +kernel
theorem dX0_slipOf_19 : decode cX0_slipOf 19 = .ok (.invokevirtual 44, 3) := by decide +kernel
theorem dX0_slipOf_22 : decode cX0_slipOf 22 = .ok (.istore 4, 2) := by decide +kernel
theorem dX0_slipOf_24 : decode cX0_slipOf 24 = .ok (.iload_n 3, 1) := by decide +kernel
theorem dX0_slipOf_25 : decode cX0_slipOf 25 = .ok (.iconst 1, 1) := by decide +kernel
theorem dX0_slipOf_26 : decode cX0_slipOf 26 = .ok (.iload 4, 2) := by decide +kernel
theorem dX0_slipOf_28 : decode cX0_slipOf 28 = .ok (.ishl, 1) := by decide +kernel
theorem dX0_slipOf_29 : decode cX0_slipOf 29 = .ok (.ior, 1) := by decide +kernel
theorem dX0_slipOf_30 : decode cX0_slipOf 30 = .ok (.istore_n 3, 1) := by decide +kernel
theorem dX0_slipOf_31 : decode cX0_slipOf 31 = .ok (.iinc 5 1, 3) := by decide +kernel
theorem dX0_slipOf_34 : decode cX0_slipOf 34 = .ok (.goto (-26), 3) := by decide +kernel
theorem dX0_slipOf_37 : decode cX0_slipOf 37 = .ok (.iload 4, 2) := by decide +kernel
theorem dX0_slipOf_39 : decode cX0_slipOf 39 = .ok (.ireturn, 1) := by decide +kernel
theorem dX0_leastBest_0 : decode cX0_leastBest 0 = .ok (.iconst 0, 1) := by decide +kernel
theorem dX0_leastBest_1 : decode cX0_leastBest 1 = .ok (.istore 4, 2) := by decide +kernel
theorem dX0_leastBest_3 : decode cX0_leastBest 3 = .ok (.iload 4, 2) := by decide +kernel
theorem dX0_leastBest_5 : decode cX0_leastBest 5 = .ok (.aload_n 3, 1) := by decide +kernel
theorem dX0_leastBest_6 : decode cX0_leastBest 6 = .ok (.getfield 15, 3) := by decide +kernel
theorem dX0_leastBest_9 : decode cX0_leastBest 9 = .ok (.if_icmp .ge 39, 3) := by decide +kernel
theorem dX0_leastBest_12 : decode cX0_leastBest 12 = .ok (.aload_n 0, 1) := by decide +kernel
theorem dX0_leastBest_13 : decode cX0_leastBest 13 = .ok (.getfield 9, 3) := by decide +kernel
theorem dX0_leastBest_16 : decode cX0_leastBest 16 = .ok (.iload_n 1, 1) := by decide +kernel
theorem dX0_leastBest_17 : decode cX0_leastBest 17 = .ok (.iaload, 1) := by decide +kernel
theorem dX0_leastBest_18 : decode cX0_leastBest 18 = .ok (.ifCond .lt 24, 3) := by decide +kernel
theorem dX0_leastBest_21 : decode cX0_leastBest 21 = .ok (.aload_n 0, 1) := by decide +kernel
theorem dX0_leastBest_22 : decode cX0_leastBest 22 = .ok (.iload_n 1, 1) := by decide +kernel
theorem dX0_leastBest_23 : decode cX0_leastBest 23 = .ok (.iload_n 2, 1) := by decide +kernel
theorem dX0_leastBest_24 : decode cX0_leastBest 24 = .ok (.iload 4, 2) := by decide +kernel
theorem dX0_leastBest_26 : decode cX0_leastBest 26 = .ok (.aload_n 3, 1) := by decide +kernel
theorem dX0_leastBest_27 : decode cX0_leastBest 27 = .ok (.invokevirtual 27, 3) := by decide +kernel
theorem dX0_leastBest_30 : decode cX0_leastBest 30 = .ok (.aload_n 0, 1) := by decide +kernel
theorem dX0_leastBest_31 : decode cX0_leastBest 31 = .ok (.getfield 9, 3) := by decide +kernel
theorem dX0_leastBest_34 : decode cX0_leastBest 34 = .ok (.iload_n 1, 1) := by decide +kernel
theorem dX0_leastBest_35 : decode cX0_leastBest 35 = .ok (.iaload, 1) := by decide +kernel
theorem dX0_leastBest_36 : decode cX0_leastBest 36 = .ok (.if_icmp .ne 6, 3) := by decide +kernel
theorem dX0_leastBest_39 : decode cX0_leastBest 39 = .ok (.iload 4, 2) := by decide +kernel
theorem dX0_leastBest_41 : decode cX0_leastBest 41 = .ok (.ireturn, 1) := by decide +kernel
theorem dX0_leastBest_42 : decode cX0_leastBest 42 = .ok (.iinc 4 1, 3) := by decide +kernel
theorem dX0_leastBest_45 : decode cX0_leastBest 45 = .ok (.goto (-42), 3) := by decide +kernel
theorem dX0_leastBest_48 : decode cX0_leastBest 48 = .ok (.iload_n 2, 1) := by decide +kernel
theorem dX0_leastBest_49 : decode cX0_leastBest 49 = .ok (.ireturn, 1) := by decide +kernel
theorem dX1_ordered_0 : decode cX1_ordered 0 = .ok (.getstatic 7, 3) := by decide +kernel
theorem dX1_ordered_3 : decode cX1_ordered 3 = .ok (.iload_n 0, 1) := by decide +kernel
theorem dX1_ordered_4 : decode cX1_ordered 4 = .ok (.iaload, 1) := by decide +kernel
theorem dX1_ordered_5 : decode cX1_ordered 5 = .ok (.ireturn, 1) := by decide +kernel
theorem dX1_deranged_0 : decode cX1_deranged 0 = .ok (.getstatic 13, 3) := by decide +kernel
theorem dX1_deranged_3 : decode cX1_deranged 3 = .ok (.iload_n 0, 1) := by decide +kernel
theorem dX1_deranged_4 : decode cX1_deranged 4 = .ok (.iaload, 1) := by decide +kernel
theorem dX1_deranged_5 : decode cX1_deranged 5 = .ok (.ireturn, 1) := by decide +kernel
theorem dX1_withOwn_0 : decode cX1_withOwn 0 = .ok (.iload_n 1, 1) := by decide +kernel
theorem dX1_withOwn_1 : decode cX1_withOwn 1 = .ok (.iload_n 0, 1) := by decide +kernel
theorem dX1_withOwn_2 : decode cX1_withOwn 2 = .ok (.if_icmp .le 5, 3) := by decide +kernel
theorem dX1_withOwn_5 : decode cX1_withOwn 5 = .ok (.iconst 0, 1) := by decide +kernel
theorem dX1_withOwn_6 : decode cX1_withOwn 6 = .ok (.ireturn, 1) := by decide +kernel
theorem dX1_withOwn_7 : decode cX1_withOwn 7 = .ok (.getstatic 7, 3) := by decide +kernel
theorem dX1_withOwn_10 : decode cX1_withOwn 10 = .ok (.iload_n 0, 1) := by decide +kernel
theorem dX1_withOwn_11 : decode cX1_withOwn 11 = .ok (.iaload, 1) := by decide +kernel
theorem dX1_withOwn_12 : decode cX1_withOwn 12 = .ok (.getstatic 7, 3) := by decide +kernel
theorem dX1_withOwn_15 : decode cX1_withOwn 15 = .ok (.iload_n 1, 1) := by decide +kernel
theorem dX1_withOwn_16 : decode cX1_withOwn 16 = .ok (.iaload, 1) := by decide +kernel
theorem dX1_withOwn_17 : decode cX1_withOwn 17 = .ok (.getstatic 7, 3) := by decide +kernel
theorem dX1_withOwn_20 : decode cX1_withOwn 20 = .ok (.iload_n 0, 1) := by decide +kernel
theorem dX1_withOwn_21 : decode cX1_withOwn 21 = .ok (.iload_n 1, 1) := by decide +kernel
theorem dX1_withOwn_22 : decode cX1_withOwn 22 = .ok (.isub, 1) := by decide +kernel
theorem dX1_withOwn_23 : decode cX1_withOwn 23 = .ok (.iaload, 1) := by decide +kernel
theorem dX1_withOwn_24 : decode cX1_withOwn 24 = .ok (.imul, 1) := by decide +kernel
theorem dX1_withOwn_25 : decode cX1_withOwn 25 = .ok (.idiv, 1) := by decide +kernel
theorem dX1_withOwn_26 : decode cX1_withOwn 26 = .ok (.istore_n 2, 1) := by decide +kernel
theorem dX1_withOwn_27 : decode cX1_withOwn 27 = .ok (.iload_n 2, 1) := by decide +kernel
theorem dX1_withOwn_28 : decode cX1_withOwn 28 = .ok (.getstatic 13, 3) := by decide +kernel
theorem dX1_withOwn_31 : decode cX1_withOwn 31 = .ok (.iload_n 0, 1) := by decide +kernel
theorem dX1_withOwn_32 : decode cX1_withOwn 32 = .ok (.iload_n 1, 1) := by decide +kernel
theorem dX1_withOwn_33 : decode cX1_withOwn 33 = .ok (.isub, 1) := by decide +kernel
theorem dX1_withOwn_34 : decode cX1_withOwn 34 = .ok (.iaload, 1) := by decide +kernel
theorem dX1_withOwn_35 : decode cX1_withOwn 35 = .ok (.imul, 1) := by decide +kernel
theorem dX1_withOwn_36 : decode cX1_withOwn 36 = .ok (.ireturn, 1) := by decide +kernel
theorem dX1_commonDivisor_0 : decode cX1_commonDivisor 0 = .ok (.iload_n 0, 1) := by decide +kernel
theorem dX1_commonDivisor_1 : decode cX1_commonDivisor 1 = .ok (.istore_n 2, 1) := by decide +kernel
theorem dX1_commonDivisor_2 : decode cX1_commonDivisor 2 = .ok (.iload_n 1, 1) := by decide +kernel
theorem dX1_commonDivisor_3 : decode cX1_commonDivisor 3 = .ok (.istore_n 3, 1) := by decide +kernel
theorem dX1_commonDivisor_4 : decode cX1_commonDivisor 4 = .ok (.iconst 0, 1) := by decide +kernel
theorem dX1_commonDivisor_5 : decode cX1_commonDivisor 5 = .ok (.istore 4, 2) := by decide +kernel
theorem dX1_commonDivisor_7 : decode cX1_commonDivisor 7 = .ok (.iload 4, 2) := by decide +kernel
theorem dX1_commonDivisor_9 : decode cX1_commonDivisor 9 = .ok (.bipush 64, 2) := by decide +kernel
theorem dX1_commonDivisor_11 : decode cX1_commonDivisor 11 = .ok (.if_icmp .ge 23, 3) := by decide +kernel
theorem dX1_commonDivisor_14 : decode cX1_commonDivisor 14 = .ok (.iload_n 3, 1) := by decide +kernel
theorem dX1_commonDivisor_15 : decode cX1_commonDivisor 15 = .ok (.ifCond .eq 19, 3) := by decide +kernel
theorem dX1_commonDivisor_18 : decode cX1_commonDivisor 18 = .ok (.iload_n 2, 1) := by decide +kernel
theorem dX1_commonDivisor_19 : decode cX1_commonDivisor 19 = .ok (.iload_n 3, 1) := by decide +kernel
theorem dX1_commonDivisor_20 : decode cX1_commonDivisor 20 = .ok (.irem, 1) := by decide +kernel
theorem dX1_commonDivisor_21 : decode cX1_commonDivisor 21 = .ok (.istore 5, 2) := by decide +kernel
theorem dX1_commonDivisor_23 : decode cX1_commonDivisor 23 = .ok (.iload_n 3, 1) := by decide +kernel
theorem dX1_commonDivisor_24 : decode cX1_commonDivisor 24 = .ok (.istore_n 2, 1) := by decide +kernel
theorem dX1_commonDivisor_25 : decode cX1_commonDivisor 25 = .ok (.iload 5, 2) := by decide +kernel
theorem dX1_commonDivisor_27 : decode cX1_commonDivisor 27 = .ok (.istore_n 3, 1) := by decide +kernel
theorem dX1_commonDivisor_28 : decode cX1_commonDivisor 28 = .ok (.iinc 4 1, 3) := by decide +kernel
theorem dX1_commonDivisor_31 : decode cX1_commonDivisor 31 = .ok (.goto (-24), 3) := by decide +kernel
theorem dX1_commonDivisor_34 : decode cX1_commonDivisor 34 = .ok (.iconst 1, 1) := by decide +kernel
theorem dX1_commonDivisor_35 : decode cX1_commonDivisor 35 = .ok (.iload_n 2, 1) := by decide +kernel
theorem dX1_commonDivisor_36 : decode cX1_commonDivisor 36 = .ok (.invokestatic 16, 3) := by decide +kernel
theorem dX1_commonDivisor_39 : decode cX1_commonDivisor 39 = .ok (.ireturn, 1) := by decide +kernel
theorem dX2_init_0 : decode cX2_init 0 = .ok (.aload_n 0, 1) := by decide +kernel
theorem dX2_init_1 : decode cX2_init 1 = .ok (.invokespecial 3, 3) := by decide +kernel
theorem dX2_init_4 : decode cX2_init 4 = .ok (.aload_n 0, 1) := by decide +kernel
theorem dX2_init_5 : decode cX2_init 5 = .ok (.bipush 40, 2) := by decide +kernel
theorem dX2_init_7 : decode cX2_init 7 = .ok (.newarray .long, 2) := by decide +kernel
theorem dX2_init_9 : decode cX2_init 9 = .ok (.putfield 9, 3) := by decide +kernel
theorem dX2_init_12 : decode cX2_init 12 = .ok (.return_, 1) := by decide +kernel
theorem dX2_isMissing_0 : decode cX2_isMissing 0 = .ok (.aload_n 0, 1) := by decide +kernel
theorem dX2_isMissing_1 : decode cX2_isMissing 1 = .ok (.getfield 15, 3) := by decide +kernel
theorem dX2_isMissing_4 : decode cX2_isMissing 4 = .ok (.ifCond .ne 7, 3) := by decide +kernel
theorem dX2_isMissing_7 : decode cX2_isMissing 7 = .ok (.iconst 1, 1) := by decide +kernel
theorem dX2_isMissing_8 : decode cX2_isMissing 8 = .ok (.goto 4, 3) := by decide +kernel
theorem dX2_isMissing_11 : decode cX2_isMissing 11 = .ok (.iconst 0, 1) := by decide +kernel
theorem dX2_isMissing_12 : decode cX2_isMissing 12 = .ok (.ireturn, 1) := by decide +kernel
theorem dX2_begin_0 : decode cX2_begin 0 = .ok (.aload_n 0, 1) := by decide +kernel
theorem dX2_begin_1 : decode cX2_begin 1 = .ok (.iload_n 1, 1) := by decide +kernel
theorem dX2_begin_2 : decode cX2_begin 2 = .ok (.putfield 15, 3) := by decide +kernel
theorem dX2_begin_5 : decode cX2_begin 5 = .ok (.aload_n 0, 1) := by decide +kernel
theorem dX2_begin_6 : decode cX2_begin 6 = .ok (.iload_n 1, 1) := by decide +kernel
theorem dX2_begin_7 : decode cX2_begin 7 = .ok (.ifCond .ne 7, 3) := by decide +kernel
theorem dX2_begin_10 : decode cX2_begin 10 = .ok (.iconst 0, 1) := by decide +kernel
theorem dX2_begin_11 : decode cX2_begin 11 = .ok (.goto 4, 3) := by decide +kernel
theorem dX2_begin_14 : decode cX2_begin 14 = .ok (.iload_n 2, 1) := by decide +kernel
theorem dX2_begin_15 : decode cX2_begin 15 = .ok (.putfield 19, 3) := by decide +kernel
theorem dX2_begin_18 : decode cX2_begin 18 = .ok (.aload_n 0, 1) := by decide +kernel
theorem dX2_begin_19 : decode cX2_begin 19 = .ok (.getfield 9, 3) := by decide +kernel
theorem dX2_begin_22 : decode cX2_begin 22 = .ok (.lconst 0, 1) := by decide +kernel
theorem dX2_begin_23 : decode cX2_begin 23 = .ok (.invokestatic 22, 3) := by decide +kernel
theorem dX2_begin_26 : decode cX2_begin 26 = .ok (.aload_n 0, 1) := by decide +kernel
theorem dX2_begin_27 : decode cX2_begin 27 = .ok (.getfield 19, 3) := by decide +kernel
theorem dX2_begin_30 : decode cX2_begin 30 = .ok (.ireturn, 1) := by decide +kernel
theorem dX2_put_0 : decode cX2_put 0 = .ok (.aload_n 0, 1) := by decide +kernel
theorem dX2_put_1 : decode cX2_put 1 = .ok (.getfield 15, 3) := by decide +kernel
theorem dX2_put_4 : decode cX2_put 4 = .ok (.lookupswitch 54 #[(8, 28), (16, 41)], 28) := by decide +kernel
theorem dX2_put_32 : decode cX2_put 32 = .ok (.aload_n 0, 1) := by decide +kernel
theorem dX2_put_33 : decode cX2_put 33 = .ok (.getfield 9, 3) := by decide +kernel
theorem dX2_put_36 : decode cX2_put 36 = .ok (.iload_n 1, 1) := by decide +kernel
theorem dX2_put_37 : decode cX2_put 37 = .ok (.lload_n 2, 1) := by decide +kernel
theorem dX2_put_38 : decode cX2_put 38 = .ok (.l2i, 1) := by decide +kernel
theorem dX2_put_39 : decode cX2_put 39 = .ok (.i2b, 1) := by decide +kernel
theorem dX2_put_40 : decode cX2_put 40 = .ok (.i2l, 1) := by decide +kernel
theorem dX2_put_41 : decode cX2_put 41 = .ok (.lastore, 1) := by decide +kernel
theorem dX2_put_42 : decode cX2_put 42 = .ok (.goto 23, 3) := by decide +kernel
theorem dX2_put_45 : decode cX2_put 45 = .ok (.aload_n 0, 1) := by decide +kernel
theorem dX2_put_46 : decode cX2_put 46 = .ok (.getfield 9, 3) := by decide +kernel
theorem dX2_put_49 : decode cX2_put 49 = .ok (.iload_n 1, 1) := by decide +kernel
theorem dX2_put_50 : decode cX2_put 50 = .ok (.lload_n 2, 1) := by decide +kernel
theorem dX2_put_51 : decode cX2_put 51 = .ok (.l2i, 1) := by decide +kernel
theorem dX2_put_52 : decode cX2_put 52 = .ok (.i2s, 1) := by decide +kernel
theorem dX2_put_53 : decode cX2_put 53 = .ok (.i2l, 1) := by decide +kernel
theorem dX2_put_54 : decode cX2_put 54 = .ok (.lastore, 1) := by decide +kernel
theorem dX2_put_55 : decode cX2_put 55 = .ok (.goto 10, 3) := by decide +kernel
theorem dX2_put_58 : decode cX2_put 58 = .ok (.aload_n 0, 1) := by decide +kernel
theorem dX2_put_59 : decode cX2_put 59 = .ok (.getfield 9, 3) := by decide +kernel
theorem dX2_put_62 : decode cX2_put 62 = .ok (.iload_n 1, 1) := by decide +kernel
theorem dX2_put_63 : decode cX2_put 63 = .ok (.lload_n 2, 1) := by decide +kernel
theorem dX2_put_64 : decode cX2_put 64 = .ok (.lastore, 1) := by decide +kernel
theorem dX2_put_65 : decode cX2_put 65 = .ok (.return_, 1) := by decide +kernel
theorem dX2_hasRun_0 : decode cX2_hasRun 0 = .ok (.iload_n 1, 1) := by decide +kernel
theorem dX2_hasRun_1 : decode cX2_hasRun 1 = .ok (.ifCond .lt 29, 3) := by decide +kernel
theorem dX2_hasRun_4 : decode cX2_hasRun 4 = .ok (.iload_n 2, 1) := by decide +kernel
theorem dX2_hasRun_5 : decode cX2_hasRun 5 = .ok (.ifCond .lt 25, 3) := by decide +kernel
theorem dX2_hasRun_8 : decode cX2_hasRun 8 = .ok (.iload_n 1, 1) := by decide +kernel
theorem dX2_hasRun_9 : decode cX2_hasRun 9 = .ok (.aload_n 0, 1) := by decide +kernel
theorem dX2_hasRun_10 : decode cX2_hasRun 10 = .ok (.getfield 19, 3) := by decide +kernel
theorem dX2_hasRun_13 : decode cX2_hasRun 13 = .ok (.if_icmp .gt 17, 3) := by decide +kernel
theorem dX2_hasRun_16 : decode cX2_hasRun 16 = .ok (.iload_n 2, 1) := by decide +kernel
theorem dX2_hasRun_17 : decode cX2_hasRun 17 = .ok (.aload_n 0, 1) := by decide +kernel
theorem dX2_hasRun_18 : decode cX2_hasRun 18 = .ok (.getfield 19, 3) := by decide +kernel
theorem dX2_hasRun_21 : decode cX2_hasRun 21 = .ok (.iload_n 1, 1) := by decide +kernel
theorem dX2_hasRun_22 : decode cX2_hasRun 22 = .ok (.isub, 1) := by decide +kernel
theorem dX2_hasRun_23 : decode cX2_hasRun 23 = .ok (.if_icmp .gt 7, 3) := by decide +kernel
theorem dX2_hasRun_26 : decode cX2_hasRun 26 = .ok (.iconst 1, 1) := by decide +kernel
theorem dX2_hasRun_27 : decode cX2_hasRun 27 = .ok (.goto 4, 3) := by decide +kernel
theorem dX2_hasRun_30 : decode cX2_hasRun 30 = .ok (.iconst 0, 1) := by decide +kernel
theorem dX2_hasRun_31 : decode cX2_hasRun 31 = .ok (.ireturn, 1) := by decide +kernel
theorem dX3_init_0 : decode cX3_init 0 = .ok (.aload_n 0, 1) := by decide +kernel
theorem dX3_init_1 : decode cX3_init 1 = .ok (.invokespecial 3, 3) := by decide +kernel
theorem dX3_init_4 : decode cX3_init 4 = .ok (.aload_n 0, 1) := by decide +kernel
theorem dX3_init_5 : decode cX3_init 5 = .ok (.bipush 120, 2) := by decide +kernel
theorem dX3_init_7 : decode cX3_init 7 = .ok (.newarray .int, 2) := by decide +kernel
theorem dX3_init_9 : decode cX3_init 9 = .ok (.putfield 9, 3) := by decide +kernel
theorem dX3_init_12 : decode cX3_init 12 = .ok (.return_, 1) := by decide +kernel
theorem dX3_add_0 : decode cX3_add 0 = .ok (.aload_n 0, 1) := by decide +kernel
theorem dX3_add_1 : decode cX3_add 1 = .ok (.getfield 9, 3) := by decide +kernel
theorem dX3_add_4 : decode cX3_add 4 = .ok (.aload_n 0, 1) := by decide +kernel
theorem dX3_add_5 : decode cX3_add 5 = .ok (.getfield 15, 3) := by decide +kernel
theorem dX3_add_8 : decode cX3_add 8 = .ok (.iload_n 1, 1) := by decide +kernel
theorem dX3_add_9 : decode cX3_add 9 = .ok (.iastore, 1) := by decide +kernel
theorem dX3_add_10 : decode cX3_add 10 = .ok (.aload_n 0, 1) := by decide +kernel
theorem dX3_add_11 : decode cX3_add 11 = .ok (.dup, 1) := by decide +kernel
theorem dX3_add_12 : decode cX3_add 12 = .ok (.getfield 15, 3) := by decide +kernel
theorem dX3_add_15 : decode cX3_add 15 = .ok (.iconst 1, 1) := by decide +kernel
theorem dX3_add_16 : decode cX3_add 16 = .ok (.iadd, 1) := by decide +kernel
theorem dX3_add_17 : decode cX3_add 17 = .ok (.putfield 15, 3) := by decide +kernel
theorem dX3_add_20 : decode cX3_add 20 = .ok (.return_, 1) := by decide +kernel
theorem dX3_at_0 : decode cX3_at 0 = .ok (.iload_n 1, 1) := by decide +kernel
theorem dX3_at_1 : decode cX3_at 1 = .ok (.ifCond .lt 20, 3) := by decide +kernel
theorem dX3_at_4 : decode cX3_at 4 = .ok (.iload_n 1, 1) := by decide +kernel
theorem dX3_at_5 : decode cX3_at 5 = .ok (.aload_n 0, 1) := by decide +kernel
theorem dX3_at_6 : decode cX3_at 6 = .ok (.getfield 15, 3) := by decide +kernel
theorem dX3_at_9 : decode cX3_at 9 = .ok (.if_icmp .ge 12, 3) := by decide +kernel
theorem dX3_at_12 : decode cX3_at 12 = .ok (.aload_n 0, 1) := by decide +kernel
theorem dX3_at_13 : decode cX3_at 13 = .ok (.getfield 9, 3) := by decide +kernel
theorem dX3_at_16 : decode cX3_at 16 = .ok (.iload_n 1, 1) := by decide +kernel
theorem dX3_at_17 : decode cX3_at 17 = .ok (.iaload, 1) := by decide +kernel
theorem dX3_at_18 : decode cX3_at 18 = .ok (.goto 4, 3) := by decide +kernel
theorem dX3_at_21 : decode cX3_at 21 = .ok (.iconst (-1), 1) := by decide +kernel
theorem dX3_at_22 : decode cX3_at 22 = .ok (.ireturn, 1) := by decide +kernel
theorem dX4_init_0 : decode cX4_init 0 = .ok (.aload_n 0, 1) := by decide +kernel
theorem dX4_init_1 : decode cX4_init 1 = .ok (.invokespecial 3, 3) := by decide +kernel
theorem dX4_init_4 : decode cX4_init 4 = .ok (.aload_n 0, 1) := by decide +kernel
theorem dX4_init_5 : decode cX4_init 5 = .ok (.iconst 1, 1) := by decide +kernel
theorem dX4_init_6 : decode cX4_init 6 = .ok (.putfield 9, 3) := by decide +kernel
theorem dX4_init_9 : decode cX4_init 9 = .ok (.aload_n 0, 1) := by decide +kernel
theorem dX4_init_10 : decode cX4_init 10 = .ok (.bipush 8, 2) := by decide +kernel
theorem dX4_init_12 : decode cX4_init 12 = .ok (.newarray .int, 2) := by decide +kernel
theorem dX4_init_14 : decode cX4_init 14 = .ok (.putfield 15, 3) := by decide +kernel
theorem dX4_init_17 : decode cX4_init 17 = .ok (.aload_n 0, 1) := by decide +kernel
theorem dX4_init_18 : decode cX4_init 18 = .ok (.bipush 8, 2) := by decide +kernel
theorem dX4_init_20 : decode cX4_init 20 = .ok (.newarray .int, 2) := by decide +kernel
theorem dX4_init_22 : decode cX4_init 22 = .ok (.putfield 19, 3) := by decide +kernel
theorem dX4_init_25 : decode cX4_init 25 = .ok (.aload_n 0, 1) := by decide +kernel
theorem dX4_init_26 : decode cX4_init 26 = .ok (.bipush 8, 2) := by decide +kernel
theorem dX4_init_28 : decode cX4_init 28 = .ok (.newarray .int, 2) := by decide +kernel
theorem dX4_init_30 : decode cX4_init 30 = .ok (.putfield 22, 3) := by decide +kernel
theorem dX4_init_33 : decode cX4_init 33 = .ok (.aload_n 0, 1) := by decide +kernel
theorem dX4_init_34 : decode cX4_init 34 = .ok (.bipush 8, 2) := by decide +kernel
theorem dX4_init_36 : decode cX4_init 36 = .ok (.newarray .int, 2) := by decide +kernel
theorem dX4_init_38 : decode cX4_init 38 = .ok (.putfield 25, 3) := by decide +kernel
theorem dX4_init_41 : decode cX4_init 41 = .ok (.aload_n 0, 1) := by decide +kernel
theorem dX4_init_42 : decode cX4_init 42 = .ok (.bipush 8, 2) := by decide +kernel
theorem dX4_init_44 : decode cX4_init 44 = .ok (.newarray .int, 2) := by decide +kernel
theorem dX4_init_46 : decode cX4_init 46 = .ok (.putfield 28, 3) := by decide +kernel
theorem dX4_init_49 : decode cX4_init 49 = .ok (.aload_n 0, 1) := by decide +kernel
theorem dX4_init_50 : decode cX4_init 50 = .ok (.bipush 8, 2) := by decide +kernel
theorem dX4_init_52 : decode cX4_init 52 = .ok (.newarray .int, 2) := by decide +kernel
theorem dX4_init_54 : decode cX4_init 54 = .ok (.putfield 31, 3) := by decide +kernel
theorem dX4_init_57 : decode cX4_init 57 = .ok (.aload_n 0, 1) := by decide +kernel
theorem dX4_init_58 : decode cX4_init 58 = .ok (.bipush 8, 2) := by decide +kernel
theorem dX4_init_60 : decode cX4_init 60 = .ok (.newarray .int, 2) := by decide +kernel
theorem dX4_init_62 : decode cX4_init 62 = .ok (.putfield 34, 3) := by decide +kernel
theorem dX4_init_65 : decode cX4_init 65 = .ok (.aload_n 0, 1) := by decide +kernel
theorem dX4_init_66 : decode cX4_init 66 = .ok (.bipush 8, 2) := by decide +kernel
theorem dX4_init_68 : decode cX4_init 68 = .ok (.newarray .int, 2) := by decide +kernel
theorem dX4_init_70 : decode cX4_init 70 = .ok (.putfield 37, 3) := by decide +kernel
theorem dX4_init_73 : decode cX4_init 73 = .ok (.aload_n 0, 1) := by decide +kernel
theorem dX4_init_74 : decode cX4_init 74 = .ok (.bipush 8, 2) := by decide +kernel
theorem dX4_init_76 : decode cX4_init 76 = .ok (.newarray .int, 2) := by decide +kernel
theorem dX4_init_78 : decode cX4_init 78 = .ok (.putfield 40, 3) := by decide +kernel
theorem dX4_init_81 : decode cX4_init 81 = .ok (.aload_n 0, 1) := by decide +kernel
theorem dX4_init_82 : decode cX4_init 82 = .ok (.bipush 8, 2) := by decide +kernel
theorem dX4_init_84 : decode cX4_init 84 = .ok (.newarray .int, 2) := by decide +kernel
theorem dX4_init_86 : decode cX4_init 86 = .ok (.putfield 43, 3) := by decide +kernel
theorem dX4_init_89 : decode cX4_init 89 = .ok (.return_, 1) := by decide +kernel
theorem dX4_become_0 : decode cX4_become 0 = .ok (.aload_n 0, 1) := by decide +kernel
theorem dX4_become_1 : decode cX4_become 1 = .ok (.aload_n 1, 1) := by decide +kernel
theorem dX4_become_2 : decode cX4_become 2 = .ok (.getfield 46, 3) := by decide +kernel
theorem dX4_become_5 : decode cX4_become 5 = .ok (.putfield 46, 3) := by decide +kernel
theorem dX4_become_8 : decode cX4_become 8 = .ok (.aload_n 0, 1) := by decide +kernel
theorem dX4_become_9 : decode cX4_become 9 = .ok (.aload_n 1, 1) := by decide +kernel
theorem dX4_become_10 : decode cX4_become 10 = .ok (.getfield 9, 3) := by decide +kernel
theorem dX4_become_13 : decode cX4_become 13 = .ok (.putfield 9, 3) := by decide +kernel
theorem dX4_become_16 : decode cX4_become 16 = .ok (.aload_n 0, 1) := by decide +kernel
theorem dX4_become_17 : decode cX4_become 17 = .ok (.aload_n 1, 1) := by decide +kernel
theorem dX4_become_18 : decode cX4_become 18 = .ok (.getfield 49, 3) := by decide +kernel
theorem dX4_become_21 : decode cX4_become 21 = .ok (.putfield 49, 3) := by decide +kernel
theorem dX4_become_24 : decode cX4_become 24 = .ok (.aload_n 1, 1) := by decide +kernel
theorem dX4_become_25 : decode cX4_become 25 = .ok (.getfield 15, 3) := by decide +kernel
theorem dX4_become_28 : decode cX4_become 28 = .ok (.iconst 0, 1) := by decide +kernel
theorem dX4_become_29 : decode cX4_become 29 = .ok (.aload_n 0, 1) := by decide +kernel
theorem dX4_become_30 : decode cX4_become 30 = .ok (.getfield 15, 3) := by decide +kernel
theorem dX4_become_33 : decode cX4_become 33 = .ok (.iconst 0, 1) := by decide +kernel
theorem dX4_become_34 : decode cX4_become 34 = .ok (.bipush 8, 2) := by decide +kernel
theorem dX4_become_36 : decode cX4_become 36 = .ok (.invokestatic 52, 3) := by decide +kernel
theorem dX4_become_39 : decode cX4_become 39 = .ok (.aload_n 1, 1) := by decide +kernel
theorem dX4_become_40 : decode cX4_become 40 = .ok (.getfield 19, 3) := by decide +kernel
theorem dX4_become_43 : decode cX4_become 43 = .ok (.iconst 0, 1) := by decide +kernel
theorem dX4_become_44 : decode cX4_become 44 = .ok (.aload_n 0, 1) := by decide +kernel
theorem dX4_become_45 : decode cX4_become 45 = .ok (.getfield 19, 3) := by decide +kernel
theorem dX4_become_48 : decode cX4_become 48 = .ok (.iconst 0, 1) := by decide +kernel
theorem dX4_become_49 : decode cX4_become 49 = .ok (.bipush 8, 2) := by decide +kernel
theorem dX4_become_51 : decode cX4_become 51 = .ok (.invokestatic 52, 3) := by decide +kernel
theorem dX4_become_54 : decode cX4_become 54 = .ok (.aload_n 1, 1) := by decide +kernel
theorem dX4_become_55 : decode cX4_become 55 = .ok (.getfield 22, 3) := by decide +kernel
theorem dX4_become_58 : decode cX4_become 58 = .ok (.iconst 0, 1) := by decide +kernel
theorem dX4_become_59 : decode cX4_become 59 = .ok (.aload_n 0, 1) := by decide +kernel
theorem dX4_become_60 : decode cX4_become 60 = .ok (.getfield 22, 3) := by decide +kernel
theorem dX4_become_63 : decode cX4_become 63 = .ok (.iconst 0, 1) := by decide +kernel
theorem dX4_become_64 : decode cX4_become 64 = .ok (.bipush 8, 2) := by decide +kernel
theorem dX4_become_66 : decode cX4_become 66 = .ok (.invokestatic 52, 3) := by decide +kernel
theorem dX4_become_69 : decode cX4_become 69 = .ok (.aload_n 1, 1) := by decide +kernel
theorem dX4_become_70 : decode cX4_become 70 = .ok (.getfield 25, 3) := by decide +kernel
theorem dX4_become_73 : decode cX4_become 73 = .ok (.iconst 0, 1) := by decide +kernel
theorem dX4_become_74 : decode cX4_become 74 = .ok (.aload_n 0, 1) := by decide +kernel
theorem dX4_become_75 : decode cX4_become 75 = .ok (.getfield 25, 3) := by decide +kernel
theorem dX4_become_78 : decode cX4_become 78 = .ok (.iconst 0, 1) := by decide +kernel
theorem dX4_become_79 : decode cX4_become 79 = .ok (.bipush 8, 2) := by decide +kernel
theorem dX4_become_81 : decode cX4_become 81 = .ok (.invokestatic 52, 3) := by decide +kernel
theorem dX4_become_84 : decode cX4_become 84 = .ok (.aload_n 1, 1) := by decide +kernel
theorem dX4_become_85 : decode cX4_become 85 = .ok (.getfield 28, 3) := by decide +kernel
theorem dX4_become_88 : decode cX4_become 88 = .ok (.iconst 0, 1) := by decide +kernel
theorem dX4_become_89 : decode cX4_become 89 = .ok (.aload_n 0, 1) := by decide +kernel
theorem dX4_become_90 : decode cX4_become 90 = .ok (.getfield 28, 3) := by decide +kernel
theorem dX4_become_93 : decode cX4_become 93 = .ok (.iconst 0, 1) := by decide +kernel
theorem dX4_become_94 : decode cX4_become 94 = .ok (.bipush 8, 2) := by decide +kernel
theorem dX4_become_96 : decode cX4_become 96 = .ok (.invokestatic 52, 3) := by decide +kernel
theorem dX4_become_99 : decode cX4_become 99 = .ok (.aload_n 1, 1) := by decide +kernel
theorem dX4_become_100 : decode cX4_become 100 = .ok (.getfield 31, 3) := by decide +kernel
theorem dX4_become_103 : decode cX4_become 103 = .ok (.iconst 0, 1) := by decide +kernel
theorem dX4_become_104 : decode cX4_become 104 = .ok (.aload_n 0, 1) := by decide +kernel
theorem dX4_become_105 : decode cX4_become 105 = .ok (.getfield 31, 3) := by decide +kernel
theorem dX4_become_108 : decode cX4_become 108 = .ok (.iconst 0, 1) := by decide +kernel
theorem dX4_become_109 : decode cX4_become 109 = .ok (.bipush 8, 2) := by decide +kernel
theorem dX4_become_111 : decode cX4_become 111 = .ok (.invokestatic 52, 3) := by decide +kernel
theorem dX4_become_114 : decode cX4_become 114 = .ok (.return_, 1) := by decide +kernel
theorem dX4_has_0 : decode cX4_has 0 = .ok (.iload_n 1, 1) := by decide +kernel
theorem dX4_has_1 : decode cX4_has 1 = .ok (.ifCond .lt 15, 3) := by decide +kernel
theorem dX4_has_4 : decode cX4_has 4 = .ok (.iload_n 1, 1) := by decide +kernel
theorem dX4_has_5 : decode cX4_has 5 = .ok (.aload_n 0, 1) := by decide +kernel
theorem dX4_has_6 : decode cX4_has 6 = .ok (.getfield 49, 3) := by decide +kernel
theorem dX4_has_9 : decode cX4_has 9 = .ok (.if_icmp .ge 7, 3) := by decide +kernel
theorem dX4_has_12 : decode cX4_has 12 = .ok (.iconst 1, 1) := by decide +kernel
theorem dX4_has_13 : decode cX4_has 13 = .ok (.goto 4, 3) := by decide +kernel
theorem dX4_has_16 : decode cX4_has 16 = .ok (.iconst 0, 1) := by decide +kernel
theorem dX4_has_17 : decode cX4_has 17 = .ok (.ireturn, 1) := by decide +kernel
theorem dX4_isFull_0 : decode cX4_isFull 0 = .ok (.aload_n 0, 1) := by decide +kernel
theorem dX4_isFull_1 : decode cX4_isFull 1 = .ok (.getfield 49, 3) := by decide +kernel
theorem dX4_isFull_4 : decode cX4_isFull 4 = .ok (.bipush 8, 2) := by decide +kernel
theorem dX4_isFull_6 : decode cX4_isFull 6 = .ok (.if_icmp .lt 7, 3) := by decide +kernel
theorem dX4_isFull_9 : decode cX4_isFull 9 = .ok (.iconst 1, 1) := by decide +kernel
theorem dX4_isFull_10 : decode cX4_isFull 10 = .ok (.goto 4, 3) := by decide +kernel
theorem dX4_isFull_13 : decode cX4_isFull 13 = .ok (.iconst 0, 1) := by decide +kernel
theorem dX4_isFull_14 : decode cX4_isFull 14 = .ok (.ireturn, 1) := by decide +kernel
theorem dX4_add_0 : decode cX4_add 0 = .ok (.aload_n 0, 1) := by decide +kernel
theorem dX4_add_1 : decode cX4_add 1 = .ok (.getfield 49, 3) := by decide +kernel
theorem dX4_add_4 : decode cX4_add 4 = .ok (.istore_n 2, 1) := by decide +kernel
theorem dX4_add_5 : decode cX4_add 5 = .ok (.aload_n 0, 1) := by decide +kernel
theorem dX4_add_6 : decode cX4_add 6 = .ok (.getfield 15, 3) := by decide +kernel
theorem dX4_add_9 : decode cX4_add 9 = .ok (.iload_n 2, 1) := by decide +kernel
theorem dX4_add_10 : decode cX4_add 10 = .ok (.iload_n 1, 1) := by decide +kernel
theorem dX4_add_11 : decode cX4_add 11 = .ok (.iastore, 1) := by decide +kernel
theorem dX4_add_12 : decode cX4_add 12 = .ok (.aload_n 0, 1) := by decide +kernel
theorem dX4_add_13 : decode cX4_add 13 = .ok (.getfield 19, 3) := by decide +kernel
theorem dX4_add_16 : decode cX4_add 16 = .ok (.iload_n 2, 1) := by decide +kernel
theorem dX4_add_17 : decode cX4_add 17 = .ok (.iconst 5, 1) := by decide +kernel
theorem dX4_add_18 : decode cX4_add 18 = .ok (.iastore, 1) := by decide +kernel
theorem dX4_add_19 : decode cX4_add 19 = .ok (.aload_n 0, 1) := by decide +kernel
theorem dX4_add_20 : decode cX4_add 20 = .ok (.getfield 22, 3) := by decide +kernel
theorem dX4_add_23 : decode cX4_add 23 = .ok (.iload_n 2, 1) := by decide +kernel
theorem dX4_add_24 : decode cX4_add 24 = .ok (.bipush 10, 2) := by decide +kernel
theorem dX4_add_26 : decode cX4_add 26 = .ok (.iastore, 1) := by decide +kernel
theorem dX4_add_27 : decode cX4_add 27 = .ok (.aload_n 0, 1) := by decide +kernel
theorem dX4_add_28 : decode cX4_add 28 = .ok (.getfield 25, 3) := by decide +kernel
theorem dX4_add_31 : decode cX4_add 31 = .ok (.iload_n 2, 1) := by decide +kernel
theorem dX4_add_32 : decode cX4_add 32 = .ok (.bipush 50, 2) := by decide +kernel
theorem dX4_add_34 : decode cX4_add 34 = .ok (.iastore, 1) := by decide +kernel
theorem dX4_add_35 : decode cX4_add 35 = .ok (.aload_n 0, 1) := by decide +kernel
theorem dX4_add_36 : decode cX4_add 36 = .ok (.getfield 28, 3) := by decide +kernel
theorem dX4_add_39 : decode cX4_add 39 = .ok (.iload_n 2, 1) := by decide +kernel
theorem dX4_add_40 : decode cX4_add 40 = .ok (.iconst 0, 1) := by decide +kernel
theorem dX4_add_41 : decode cX4_add 41 = .ok (.iastore, 1) := by decide +kernel
theorem dX4_add_42 : decode cX4_add 42 = .ok (.aload_n 0, 1) := by decide +kernel
theorem dX4_add_43 : decode cX4_add 43 = .ok (.getfield 31, 3) := by decide +kernel
theorem dX4_add_46 : decode cX4_add 46 = .ok (.iload_n 2, 1) := by decide +kernel
theorem dX4_add_47 : decode cX4_add 47 = .ok (.iload_n 2, 1) := by decide +kernel
theorem dX4_add_48 : decode cX4_add 48 = .ok (.iastore, 1) := by decide +kernel
theorem dX4_add_49 : decode cX4_add 49 = .ok (.aload_n 0, 1) := by decide +kernel
theorem dX4_add_50 : decode cX4_add 50 = .ok (.dup, 1) := by decide +kernel
theorem dX4_add_51 : decode cX4_add 51 = .ok (.getfield 49, 3) := by decide +kernel
theorem dX4_add_54 : decode cX4_add 54 = .ok (.iconst 1, 1) := by decide +kernel
theorem dX4_add_55 : decode cX4_add 55 = .ok (.iadd, 1) := by decide +kernel
theorem dX4_add_56 : decode cX4_add 56 = .ok (.putfield 49, 3) := by decide +kernel
theorem dX4_add_59 : decode cX4_add 59 = .ok (.iload_n 2, 1) := by decide +kernel
theorem dX4_add_60 : decode cX4_add 60 = .ok (.ireturn, 1) := by decide +kernel
theorem dX4_isChild_0 : decode cX4_isChild 0 = .ok (.aload_n 0, 1) := by decide +kernel
theorem dX4_isChild_1 : decode cX4_isChild 1 = .ok (.getfield 15, 3) := by decide +kernel
theorem dX4_isChild_4 : decode cX4_isChild 4 = .ok (.iload_n 1, 1) := by decide +kernel
theorem dX4_isChild_5 : decode cX4_isChild 5 = .ok (.iaload, 1) := by decide +kernel
theorem dX4_isChild_6 : decode cX4_isChild 6 = .ok (.iconst 3, 1) := by decide +kernel
theorem dX4_isChild_7 : decode cX4_isChild 7 = .ok (.if_icmp .ne 7, 3) := by decide +kernel
theorem dX4_isChild_10 : decode cX4_isChild 10 = .ok (.iconst 1, 1) := by decide +kernel
theorem dX4_isChild_11 : decode cX4_isChild 11 = .ok (.goto 4, 3) := by decide +kernel
theorem dX4_isChild_14 : decode cX4_isChild 14 = .ok (.iconst 0, 1) := by decide +kernel
theorem dX4_isChild_15 : decode cX4_isChild 15 = .ok (.ireturn, 1) := by decide +kernel
theorem dX4_areAlike_0 : decode cX4_areAlike 0 = .ok (.aload_n 0, 1) := by decide +kernel
theorem dX4_areAlike_1 : decode cX4_areAlike 1 = .ok (.iload_n 1, 1) := by decide +kernel
theorem dX4_areAlike_2 : decode cX4_areAlike 2 = .ok (.invokevirtual 58, 3) := by decide +kernel
theorem dX4_areAlike_5 : decode cX4_areAlike 5 = .ok (.aload_n 0, 1) := by decide +kernel
theorem dX4_areAlike_6 : decode cX4_areAlike 6 = .ok (.iload_n 2, 1) := by decide +kernel
theorem dX4_areAlike_7 : decode cX4_areAlike 7 = .ok (.invokevirtual 58, 3) := by decide +kernel
theorem dX4_areAlike_10 : decode cX4_areAlike 10 = .ok (.if_icmp .ne 7, 3) := by decide +kernel
theorem dX4_areAlike_13 : decode cX4_areAlike 13 = .ok (.iconst 1, 1) := by decide +kernel
theorem dX4_areAlike_14 : decode cX4_areAlike 14 = .ok (.goto 4, 3) := by decide +kernel
theorem dX4_areAlike_17 : decode cX4_areAlike 17 = .ok (.iconst 0, 1) := by decide +kernel
theorem dX4_areAlike_18 : decode cX4_areAlike 18 = .ok (.ireturn, 1) := by decide +kernel
theorem dX4_earning_0 : decode cX4_earning 0 = .ok (.aload_n 0, 1) := by decide +kernel
theorem dX4_earning_1 : decode cX4_earning 1 = .ok (.aload_n 0, 1) := by decide +kernel
theorem dX4_earning_2 : decode cX4_earning 2 = .ok (.getfield 15, 3) := by decide +kernel
theorem dX4_earning_5 : decode cX4_earning 5 = .ok (.iload_n 1, 1) := by decide +kernel
theorem dX4_earning_6 : decode cX4_earning 6 = .ok (.iaload, 1) := by decide +kernel
theorem dX4_earning_7 : decode cX4_earning 7 = .ok (.iload_n 1, 1) := by decide +kernel
theorem dX4_earning_8 : decode cX4_earning 8 = .ok (.iload_n 2, 1) := by decide +kernel
theorem dX4_earning_9 : decode cX4_earning 9 = .ok (.invokevirtual 62, 3) := by decide +kernel
theorem dX4_earning_12 : decode cX4_earning 12 = .ok (.ireturn, 1) := by decide +kernel
theorem dX4_earningAs_0 : decode cX4_earningAs 0 = .ok (.iload_n 2, 1) := by decide +kernel
theorem dX4_earningAs_1 : decode cX4_earningAs 1 = .ok (.iload_n 3, 1) := by decide +kernel
theorem dX4_earningAs_2 : decode cX4_earningAs 2 = .ok (.if_icmp .ne 7, 3) := by decide +kernel
theorem dX4_earningAs_5 : decode cX4_earningAs 5 = .ok (.iconst 0, 1) := by decide +kernel
theorem dX4_earningAs_6 : decode cX4_earningAs 6 = .ok (.goto 31, 3) := by decide +kernel
theorem dX4_earningAs_9 : decode cX4_earningAs 9 = .ok (.iload_n 1, 1) := by decide +kernel
theorem dX4_earningAs_10 : decode cX4_earningAs 10 = .ok (.aload_n 0, 1) := by decide +kernel
theorem dX4_earningAs_11 : decode cX4_earningAs 11 = .ok (.getfield 19, 3) := by decide +kernel
theorem dX4_earningAs_14 : decode cX4_earningAs 14 = .ok (.iload_n 2, 1) := by decide +kernel
theorem dX4_earningAs_15 : decode cX4_earningAs 15 = .ok (.iaload, 1) := by decide +kernel
theorem dX4_earningAs_16 : decode cX4_earningAs 16 = .ok (.aload_n 0, 1) := by decide +kernel
theorem dX4_earningAs_17 : decode cX4_earningAs 17 = .ok (.getfield 19, 3) := by decide +kernel
theorem dX4_earningAs_20 : decode cX4_earningAs 20 = .ok (.iload_n 3, 1) := by decide +kernel
theorem dX4_earningAs_21 : decode cX4_earningAs 21 = .ok (.iaload, 1) := by decide +kernel
theorem dX4_earningAs_22 : decode cX4_earningAs 22 = .ok (.aload_n 0, 1) := by decide +kernel
theorem dX4_earningAs_23 : decode cX4_earningAs 23 = .ok (.getfield 25, 3) := by decide +kernel
theorem dX4_earningAs_26 : decode cX4_earningAs 26 = .ok (.iload_n 2, 1) := by decide +kernel
theorem dX4_earningAs_27 : decode cX4_earningAs 27 = .ok (.iaload, 1) := by decide +kernel
theorem dX4_earningAs_28 : decode cX4_earningAs 28 = .ok (.aload_n 0, 1) := by decide +kernel
theorem dX4_earningAs_29 : decode cX4_earningAs 29 = .ok (.getfield 28, 3) := by decide +kernel
theorem dX4_earningAs_32 : decode cX4_earningAs 32 = .ok (.iload_n 2, 1) := by decide +kernel
theorem dX4_earningAs_33 : decode cX4_earningAs 33 = .ok (.iaload, 1) := by decide +kernel
theorem dX4_earningAs_34 : decode cX4_earningAs 34 = .ok (.invokestatic 66, 3) := by decide +kernel
theorem dX4_earningAs_37 : decode cX4_earningAs 37 = .ok (.ireturn, 1) := by decide +kernel
theorem dX4_saying_0 : decode cX4_saying 0 = .ok (.iload_n 1, 1) := by decide +kernel
theorem dX4_saying_1 : decode cX4_saying 1 = .ok (.iload_n 2, 1) := by decide +kernel
theorem dX4_saying_2 : decode cX4_saying 2 = .ok (.if_icmp .ne 7, 3) := by decide +kernel
theorem dX4_saying_5 : decode cX4_saying 5 = .ok (.iconst 0, 1) := by decide +kernel
theorem dX4_saying_6 : decode cX4_saying 6 = .ok (.goto 24, 3) := by decide +kernel
theorem dX4_saying_9 : decode cX4_saying 9 = .ok (.aload_n 0, 1) := by decide +kernel
theorem dX4_saying_10 : decode cX4_saying 10 = .ok (.getfield 15, 3) := by decide +kernel
theorem dX4_saying_13 : decode cX4_saying 13 = .ok (.iload_n 1, 1) := by decide +kernel
theorem dX4_saying_14 : decode cX4_saying 14 = .ok (.iaload, 1) := by decide +kernel
theorem dX4_saying_15 : decode cX4_saying 15 = .ok (.aload_n 0, 1) := by decide +kernel
theorem dX4_saying_16 : decode cX4_saying 16 = .ok (.getfield 19, 3) := by decide +kernel
theorem dX4_saying_19 : decode cX4_saying 19 = .ok (.iload_n 1, 1) := by decide +kernel
theorem dX4_saying_20 : decode cX4_saying 20 = .ok (.iaload, 1) := by decide +kernel
theorem dX4_saying_21 : decode cX4_saying 21 = .ok (.aload_n 0, 1) := by decide +kernel
theorem dX4_saying_22 : decode cX4_saying 22 = .ok (.getfield 19, 3) := by decide +kernel
theorem dX4_saying_25 : decode cX4_saying 25 = .ok (.iload_n 2, 1) := by decide +kernel
theorem dX4_saying_26 : decode cX4_saying 26 = .ok (.iaload, 1) := by decide +kernel
theorem dX4_saying_27 : decode cX4_saying 27 = .ok (.invokestatic 71, 3) := by decide +kernel
theorem dX4_saying_30 : decode cX4_saying 30 = .ok (.ireturn, 1) := by decide +kernel
theorem dX4_hearing_0 : decode cX4_hearing 0 = .ok (.iload_n 1, 1) := by decide +kernel
theorem dX4_hearing_1 : decode cX4_hearing 1 = .ok (.iload_n 2, 1) := by decide +kernel
theorem dX4_hearing_2 : decode cX4_hearing 2 = .ok (.if_icmp .ne 7, 3) := by decide +kernel
theorem dX4_hearing_5 : decode cX4_hearing 5 = .ok (.iconst 0, 1) := by decide +kernel
theorem dX4_hearing_6 : decode cX4_hearing 6 = .ok (.goto 18, 3) := by decide +kernel
theorem dX4_hearing_9 : decode cX4_hearing 9 = .ok (.aload_n 0, 1) := by decide +kernel
theorem dX4_hearing_10 : decode cX4_hearing 10 = .ok (.getfield 15, 3) := by decide +kernel
theorem dX4_hearing_13 : decode cX4_hearing 13 = .ok (.iload_n 1, 1) := by decide +kernel
theorem dX4_hearing_14 : decode cX4_hearing 14 = .ok (.iaload, 1) := by decide +kernel
theorem dX4_hearing_15 : decode cX4_hearing 15 = .ok (.aload_n 0, 1) := by decide +kernel
theorem dX4_hearing_16 : decode cX4_hearing 16 = .ok (.getfield 25, 3) := by decide +kernel
theorem dX4_hearing_19 : decode cX4_hearing 19 = .ok (.iload_n 2, 1) := by decide +kernel
theorem dX4_hearing_20 : decode cX4_hearing 20 = .ok (.iaload, 1) := by decide +kernel
theorem dX4_hearing_21 : decode cX4_hearing 21 = .ok (.invokestatic 73, 3) := by decide +kernel
theorem dX4_hearing_24 : decode cX4_hearing 24 = .ok (.ireturn, 1) := by decide +kernel
theorem dX4_earnings_0 : decode cX4_earnings 0 = .ok (.iconst 0, 1) := by decide +kernel
theorem dX4_earnings_1 : decode cX4_earnings 1 = .ok (.istore_n 1, 1) := by decide +kernel
theorem dX4_earnings_2 : decode cX4_earnings 2 = .ok (.iconst 0, 1) := by decide +kernel
theorem dX4_earnings_3 : decode cX4_earnings 3 = .ok (.istore_n 2, 1) := by decide +kernel
theorem dX4_earnings_4 : decode cX4_earnings 4 = .ok (.iload_n 2, 1) := by decide +kernel
theorem dX4_earnings_5 : decode cX4_earnings 5 = .ok (.aload_n 0, 1) := by decide +kernel
theorem dX4_earnings_6 : decode cX4_earnings 6 = .ok (.getfield 49, 3) := by decide +kernel
theorem dX4_earnings_9 : decode cX4_earnings 9 = .ok (.if_icmp .ge 23, 3) := by decide +kernel
theorem dX4_earnings_12 : decode cX4_earnings 12 = .ok (.iload_n 1, 1) := by decide +kernel
theorem dX4_earnings_13 : decode cX4_earnings 13 = .ok (.aload_n 0, 1) := by decide +kernel
theorem dX4_earnings_14 : decode cX4_earnings 14 = .ok (.iload_n 2, 1) := by decide +kernel
theorem dX4_earnings_15 : decode cX4_earnings 15 = .ok (.aload_n 0, 1) := by decide +kernel
theorem dX4_earnings_16 : decode cX4_earnings 16 = .ok (.getfield 31, 3) := by decide +kernel
theorem dX4_earnings_19 : decode cX4_earnings 19 = .ok (.iload_n 2, 1) := by decide +kernel
theorem dX4_earnings_20 : decode cX4_earnings 20 = .ok (.iaload, 1) := by decide +kernel
theorem dX4_earnings_21 : decode cX4_earnings 21 = .ok (.invokevirtual 76, 3) := by decide +kernel
theorem dX4_earnings_24 : decode cX4_earnings 24 = .ok (.iadd, 1) := by decide +kernel
theorem dX4_earnings_25 : decode cX4_earnings 25 = .ok (.istore_n 1, 1) := by decide +kernel
theorem dX4_earnings_26 : decode cX4_earnings 26 = .ok (.iinc 2 1, 3) := by decide +kernel
theorem dX4_earnings_29 : decode cX4_earnings 29 = .ok (.goto (-25), 3) := by decide +kernel
theorem dX4_earnings_32 : decode cX4_earnings 32 = .ok (.iload_n 1, 1) := by decide +kernel
theorem dX4_earnings_33 : decode cX4_earnings 33 = .ok (.ireturn, 1) := by decide +kernel
theorem dX4_gainOfExchange_0 : decode cX4_gainOfExchange 0 = .ok (.aload_n 0, 1) := by decide +kernel
theorem dX4_gainOfExchange_1 : decode cX4_gainOfExchange 1 = .ok (.iload_n 1, 1) := by decide +kernel
theorem dX4_gainOfExchange_2 : decode cX4_gainOfExchange 2 = .ok (.aload_n 0, 1) := by decide +kernel
theorem dX4_gainOfExchange_3 : decode cX4_gainOfExchange 3 = .ok (.getfield 31, 3) := by decide +kernel
theorem dX4_gainOfExchange_6 : decode cX4_gainOfExchange 6 = .ok (.iload_n 1, 1) := by decide +kernel
theorem dX4_gainOfExchange_7 : decode cX4_gainOfExchange 7 = .ok (.iaload, 1) := by decide +kernel
theorem dX4_gainOfExchange_8 : decode cX4_gainOfExchange 8 = .ok (.invokevirtual 76, 3) := by decide +kernel
theorem dX4_gainOfExchange_11 : decode cX4_gainOfExchange 11 = .ok (.aload_n 0, 1) := by decide +kernel
theorem dX4_gainOfExchange_12 : decode cX4_gainOfExchange 12 = .ok (.iload_n 2, 1) := by decide +kernel
theorem dX4_gainOfExchange_13 : decode cX4_gainOfExchange 13 = .ok (.aload_n 0, 1) := by decide +kernel
theorem dX4_gainOfExchange_14 : decode cX4_gainOfExchange 14 = .ok (.getfield 31, 3) := by decide +kernel
theorem dX4_gainOfExchange_17 : decode cX4_gainOfExchange 17 = .ok (.iload_n 2, 1) := by decide +kernel
theorem dX4_gainOfExchange_18 : decode cX4_gainOfExchange 18 = .ok (.iaload, 1) := by decide +kernel
theorem dX4_gainOfExchange_19 : decode cX4_gainOfExchange 19 = .ok (.invokevirtual 76, 3) := by decide +kernel
theorem dX4_gainOfExchange_22 : decode cX4_gainOfExchange 22 = .ok (.iadd, 1) := by decide +kernel
theorem dX4_gainOfExchange_23 : decode cX4_gainOfExchange 23 = .ok (.istore_n 3, 1) := by decide +kernel
theorem dX4_gainOfExchange_24 : decode cX4_gainOfExchange 24 = .ok (.aload_n 0, 1) := by decide +kernel
theorem dX4_gainOfExchange_25 : decode cX4_gainOfExchange 25 = .ok (.iload_n 1, 1) := by decide +kernel
theorem dX4_gainOfExchange_26 : decode cX4_gainOfExchange 26 = .ok (.aload_n 0, 1) := by decide +kernel
theorem dX4_gainOfExchange_27 : decode cX4_gainOfExchange 27 = .ok (.getfield 31, 3) := by decide +kernel
theorem dX4_gainOfExchange_30 : decode cX4_gainOfExchange 30 = .ok (.iload_n 2, 1) := by decide +kernel
theorem dX4_gainOfExchange_31 : decode cX4_gainOfExchange 31 = .ok (.iaload, 1) := by decide +kernel
theorem dX4_gainOfExchange_32 : decode cX4_gainOfExchange 32 = .ok (.invokevirtual 76, 3) := by decide +kernel
theorem dX4_gainOfExchange_35 : decode cX4_gainOfExchange 35 = .ok (.aload_n 0, 1) := by decide +kernel
theorem dX4_gainOfExchange_36 : decode cX4_gainOfExchange 36 = .ok (.iload_n 2, 1) := by decide +kernel
theorem dX4_gainOfExchange_37 : decode cX4_gainOfExchange 37 = .ok (.aload_n 0, 1) := by decide +kernel
theorem dX4_gainOfExchange_38 : decode cX4_gainOfExchange 38 = .ok (.getfield 31, 3) := by decide +kernel
theorem dX4_gainOfExchange_41 : decode cX4_gainOfExchange 41 = .ok (.iload_n 1, 1) := by decide +kernel
theorem dX4_gainOfExchange_42 : decode cX4_gainOfExchange 42 = .ok (.iaload, 1) := by decide +kernel
theorem dX4_gainOfExchange_43 : decode cX4_gainOfExchange 43 = .ok (.invokevirtual 76, 3) := by decide +kernel
theorem dX4_gainOfExchange_46 : decode cX4_gainOfExchange 46 = .ok (.iadd, 1) := by decide +kernel
theorem dX4_gainOfExchange_47 : decode cX4_gainOfExchange 47 = .ok (.iload_n 3, 1) := by decide +kernel
theorem dX4_gainOfExchange_48 : decode cX4_gainOfExchange 48 = .ok (.isub, 1) := by decide +kernel
theorem dX4_gainOfExchange_49 : decode cX4_gainOfExchange 49 = .ok (.ireturn, 1) := by decide +kernel
theorem dX4_total_0 : decode cX4_total 0 = .ok (.iconst 0, 1) := by decide +kernel
theorem dX4_total_1 : decode cX4_total 1 = .ok (.istore_n 2, 1) := by decide +kernel
theorem dX4_total_2 : decode cX4_total 2 = .ok (.iconst 0, 1) := by decide +kernel
theorem dX4_total_3 : decode cX4_total 3 = .ok (.istore_n 3, 1) := by decide +kernel
theorem dX4_total_4 : decode cX4_total 4 = .ok (.iload_n 3, 1) := by decide +kernel
theorem dX4_total_5 : decode cX4_total 5 = .ok (.aload_n 0, 1) := by decide +kernel
theorem dX4_total_6 : decode cX4_total 6 = .ok (.getfield 49, 3) := by decide +kernel
theorem dX4_total_9 : decode cX4_total 9 = .ok (.if_icmp .ge 15, 3) := by decide +kernel
theorem dX4_total_12 : decode cX4_total 12 = .ok (.iload_n 2, 1) := by decide +kernel
theorem dX4_total_13 : decode cX4_total 13 = .ok (.aload_n 1, 1) := by decide +kernel
theorem dX4_total_14 : decode cX4_total 14 = .ok (.iload_n 3, 1) := by decide +kernel
theorem dX4_total_15 : decode cX4_total 15 = .ok (.iaload, 1) := by decide +kernel
theorem dX4_total_16 : decode cX4_total 16 = .ok (.iadd, 1) := by decide +kernel
theorem dX4_total_17 : decode cX4_total 17 = .ok (.istore_n 2, 1) := by decide +kernel
theorem dX4_total_18 : decode cX4_total 18 = .ok (.iinc 3 1, 3) := by decide +kernel
theorem dX4_total_21 : decode cX4_total 21 = .ok (.goto (-17), 3) := by decide +kernel
theorem dX4_total_24 : decode cX4_total 24 = .ok (.iload_n 2, 1) := by decide +kernel
theorem dX4_total_25 : decode cX4_total 25 = .ok (.ireturn, 1) := by decide +kernel
theorem dX4_childrenSet_0 : decode cX4_childrenSet 0 = .ok (.iconst 0, 1) := by decide +kernel
theorem dX4_childrenSet_1 : decode cX4_childrenSet 1 = .ok (.istore_n 1, 1) := by decide +kernel
theorem dX4_childrenSet_2 : decode cX4_childrenSet 2 = .ok (.iconst 0, 1) := by decide +kernel
theorem dX4_childrenSet_3 : decode cX4_childrenSet 3 = .ok (.istore_n 2, 1) := by decide +kernel
theorem dX4_childrenSet_4 : decode cX4_childrenSet 4 = .ok (.iload_n 2, 1) := by decide +kernel
theorem dX4_childrenSet_5 : decode cX4_childrenSet 5 = .ok (.aload_n 0, 1) := by decide +kernel
theorem dX4_childrenSet_6 : decode cX4_childrenSet 6 = .ok (.getfield 49, 3) := by decide +kernel
theorem dX4_childrenSet_9 : decode cX4_childrenSet 9 = .ok (.if_icmp .ge 23, 3) := by decide +kernel
theorem dX4_childrenSet_12 : decode cX4_childrenSet 12 = .ok (.aload_n 0, 1) := by decide +kernel
theorem dX4_childrenSet_13 : decode cX4_childrenSet 13 = .ok (.iload_n 2, 1) := by decide +kernel
theorem dX4_childrenSet_14 : decode cX4_childrenSet 14 = .ok (.invokevirtual 58, 3) := by decide +kernel
theorem dX4_childrenSet_17 : decode cX4_childrenSet 17 = .ok (.ifCond .eq 9, 3) := by decide +kernel
theorem dX4_childrenSet_20 : decode cX4_childrenSet 20 = .ok (.iload_n 1, 1) := by decide +kernel
theorem dX4_childrenSet_21 : decode cX4_childrenSet 21 = .ok (.iconst 1, 1) := by decide +kernel
theorem dX4_childrenSet_22 : decode cX4_childrenSet 22 = .ok (.iload_n 2, 1) := by decide +kernel
theorem dX4_childrenSet_23 : decode cX4_childrenSet 23 = .ok (.ishl, 1) := by decide +kernel
theorem dX4_childrenSet_24 : decode cX4_childrenSet 24 = .ok (.ior, 1) := by decide +kernel
theorem dX4_childrenSet_25 : decode cX4_childrenSet 25 = .ok (.istore_n 1, 1) := by decide +kernel
theorem dX4_childrenSet_26 : decode cX4_childrenSet 26 = .ok (.iinc 2 1, 3) := by decide +kernel
theorem dX4_childrenSet_29 : decode cX4_childrenSet 29 = .ok (.goto (-25), 3) := by decide +kernel
theorem dX4_childrenSet_32 : decode cX4_childrenSet 32 = .ok (.iload_n 1, 1) := by decide +kernel
theorem dX4_childrenSet_33 : decode cX4_childrenSet 33 = .ok (.ireturn, 1) := by decide +kernel
theorem dX4_ownSet_0 : decode cX4_ownSet 0 = .ok (.iconst 0, 1) := by decide +kernel
theorem dX4_ownSet_1 : decode cX4_ownSet 1 = .ok (.istore_n 1, 1) := by decide +kernel
theorem dX4_ownSet_2 : decode cX4_ownSet 2 = .ok (.iconst 0, 1) := by decide +kernel
theorem dX4_ownSet_3 : decode cX4_ownSet 3 = .ok (.istore_n 2, 1) := by decide +kernel
theorem dX4_ownSet_4 : decode cX4_ownSet 4 = .ok (.iload_n 2, 1) := by decide +kernel
theorem dX4_ownSet_5 : decode cX4_ownSet 5 = .ok (.aload_n 0, 1) := by decide +kernel
theorem dX4_ownSet_6 : decode cX4_ownSet 6 = .ok (.getfield 49, 3) := by decide +kernel
theorem dX4_ownSet_9 : decode cX4_ownSet 9 = .ok (.if_icmp .ge 25, 3) := by decide +kernel
theorem dX4_ownSet_12 : decode cX4_ownSet 12 = .ok (.aload_n 0, 1) := by decide +kernel
theorem dX4_ownSet_13 : decode cX4_ownSet 13 = .ok (.getfield 31, 3) := by decide +kernel
theorem dX4_ownSet_16 : decode cX4_ownSet 16 = .ok (.iload_n 2, 1) := by decide +kernel
theorem dX4_ownSet_17 : decode cX4_ownSet 17 = .ok (.iaload, 1) := by decide +kernel
theorem dX4_ownSet_18 : decode cX4_ownSet 18 = .ok (.iload_n 2, 1) := by decide +kernel
theorem dX4_ownSet_19 : decode cX4_ownSet 19 = .ok (.if_icmp .ne 9, 3) := by decide +kernel
theorem dX4_ownSet_22 : decode cX4_ownSet 22 = .ok (.iload_n 1, 1) := by decide +kernel
theorem dX4_ownSet_23 : decode cX4_ownSet 23 = .ok (.iconst 1, 1) := by decide +kernel
theorem dX4_ownSet_24 : decode cX4_ownSet 24 = .ok (.iload_n 2, 1) := by decide +kernel
theorem dX4_ownSet_25 : decode cX4_ownSet 25 = .ok (.ishl, 1) := by decide +kernel
theorem dX4_ownSet_26 : decode cX4_ownSet 26 = .ok (.ior, 1) := by decide +kernel
theorem dX4_ownSet_27 : decode cX4_ownSet 27 = .ok (.istore_n 1, 1) := by decide +kernel
theorem dX4_ownSet_28 : decode cX4_ownSet 28 = .ok (.iinc 2 1, 3) := by decide +kernel
theorem dX4_ownSet_31 : decode cX4_ownSet 31 = .ok (.goto (-27), 3) := by decide +kernel
theorem dX4_ownSet_34 : decode cX4_ownSet 34 = .ok (.iload_n 1, 1) := by decide +kernel
theorem dX4_ownSet_35 : decode cX4_ownSet 35 = .ok (.ireturn, 1) := by decide +kernel
theorem dX4_ownCount_0 : decode cX4_ownCount 0 = .ok (.aload_n 0, 1) := by decide +kernel
theorem dX4_ownCount_1 : decode cX4_ownCount 1 = .ok (.invokevirtual 79, 3) := by decide +kernel
theorem dX4_ownCount_4 : decode cX4_ownCount 4 = .ok (.invokestatic 83, 3) := by decide +kernel
theorem dX4_ownCount_7 : decode cX4_ownCount 7 = .ok (.ireturn, 1) := by decide +kernel
theorem dX4_ringSet_0 : decode cX4_ringSet 0 = .ok (.iconst 0, 1) := by decide +kernel
theorem dX4_ringSet_1 : decode cX4_ringSet 1 = .ok (.istore_n 2, 1) := by decide +kernel
theorem dX4_ringSet_2 : decode cX4_ringSet 2 = .ok (.iload_n 1, 1) := by decide +kernel
theorem dX4_ringSet_3 : decode cX4_ringSet 3 = .ok (.istore_n 3, 1) := by decide +kernel
theorem dX4_ringSet_4 : decode cX4_ringSet 4 = .ok (.iconst 0, 1) := by decide +kernel
theorem dX4_ringSet_5 : decode cX4_ringSet 5 = .ok (.istore 4, 2) := by decide +kernel
theorem dX4_ringSet_7 : decode cX4_ringSet 7 = .ok (.iload 4, 2) := by decide +kernel
theorem dX4_ringSet_9 : decode cX4_ringSet 9 = .ok (.aload_n 0, 1) := by decide +kernel
theorem dX4_ringSet_10 : decode cX4_ringSet 10 = .ok (.getfield 49, 3) := by decide +kernel
theorem dX4_ringSet_13 : decode cX4_ringSet 13 = .ok (.if_icmp .ge 22, 3) := by decide +kernel
theorem dX4_ringSet_16 : decode cX4_ringSet 16 = .ok (.iload_n 2, 1) := by decide +kernel
theorem dX4_ringSet_17 : decode cX4_ringSet 17 = .ok (.iconst 1, 1) := by decide +kernel
theorem dX4_ringSet_18 : decode cX4_ringSet 18 = .ok (.iload_n 3, 1) := by decide +kernel
theorem dX4_ringSet_19 : decode cX4_ringSet 19 = .ok (.ishl, 1) := by decide +kernel
theorem dX4_ringSet_20 : decode cX4_ringSet 20 = .ok (.ior, 1) := by decide +kernel
theorem dX4_ringSet_21 : decode cX4_ringSet 21 = .ok (.istore_n 2, 1) := by decide +kernel
theorem dX4_ringSet_22 : decode cX4_ringSet 22 = .ok (.aload_n 0, 1) := by decide +kernel
theorem dX4_ringSet_23 : decode cX4_ringSet 23 = .ok (.getfield 31, 3) := by decide +kernel
theorem dX4_ringSet_26 : decode cX4_ringSet 26 = .ok (.iload_n 3, 1) := by decide +kernel
theorem dX4_ringSet_27 : decode cX4_ringSet 27 = .ok (.iaload, 1) := by decide +kernel
theorem dX4_ringSet_28 : decode cX4_ringSet 28 = .ok (.istore_n 3, 1) := by decide +kernel
theorem dX4_ringSet_29 : decode cX4_ringSet 29 = .ok (.iinc 4 1, 3) := by decide +kernel
theorem dX4_ringSet_32 : decode cX4_ringSet 32 = .ok (.goto (-25), 3) := by decide +kernel
theorem dX4_ringSet_35 : decode cX4_ringSet 35 = .ok (.iload_n 2, 1) := by decide +kernel
theorem dX4_ringSet_36 : decode cX4_ringSet 36 = .ok (.ireturn, 1) := by decide +kernel
theorem dX4_isLotRight_0 : decode cX4_isLotRight 0 = .ok (.iconst 0, 1) := by decide +kernel
theorem dX4_isLotRight_1 : decode cX4_isLotRight 1 = .ok (.istore_n 1, 1) := by decide +kernel
theorem dX4_isLotRight_2 : decode cX4_isLotRight 2 = .ok (.iload_n 1, 1) := by decide +kernel
theorem dX4_isLotRight_3 : decode cX4_isLotRight 3 = .ok (.aload_n 0, 1) := by decide +kernel
theorem dX4_isLotRight_4 : decode cX4_isLotRight 4 = .ok (.getfield 49, 3) := by decide +kernel
theorem dX4_isLotRight_7 : decode cX4_isLotRight 7 = .ok (.if_icmp .ge 25, 3) := by decide +kernel
theorem dX4_isLotRight_10 : decode cX4_isLotRight 10 = .ok (.aload_n 0, 1) := by decide +kernel
theorem dX4_isLotRight_11 : decode cX4_isLotRight 11 = .ok (.iload_n 1, 1) := by decide +kernel
theorem dX4_isLotRight_12 : decode cX4_isLotRight 12 = .ok (.aload_n 0, 1) := by decide +kernel
theorem dX4_isLotRight_13 : decode cX4_isLotRight 13 = .ok (.getfield 31, 3) := by decide +kernel
theorem dX4_isLotRight_16 : decode cX4_isLotRight 16 = .ok (.iload_n 1, 1) := by decide +kernel
theorem dX4_isLotRight_17 : decode cX4_isLotRight 17 = .ok (.iaload, 1) := by decide +kernel
theorem dX4_isLotRight_18 : decode cX4_isLotRight 18 = .ok (.invokevirtual 89, 3) := by decide +kernel
theorem dX4_isLotRight_21 : decode cX4_isLotRight 21 = .ok (.ifCond .ne 5, 3) := by decide +kernel
theorem dX4_isLotRight_24 : decode cX4_isLotRight 24 = .ok (.iconst 0, 1) := by decide +kernel
theorem dX4_isLotRight_25 : decode cX4_isLotRight 25 = .ok (.ireturn, 1) := by decide +kernel
theorem dX4_isLotRight_26 : decode cX4_isLotRight 26 = .ok (.iinc 1 1, 3) := by decide +kernel
theorem dX4_isLotRight_29 : decode cX4_isLotRight 29 = .ok (.goto (-27), 3) := by decide +kernel
theorem dX4_isLotRight_32 : decode cX4_isLotRight 32 = .ok (.iconst 1, 1) := by decide +kernel
theorem dX4_isLotRight_33 : decode cX4_isLotRight 33 = .ok (.ireturn, 1) := by decide +kernel
theorem dX4_holder_0 : decode cX4_holder 0 = .ok (.iconst 0, 1) := by decide +kernel
theorem dX4_holder_1 : decode cX4_holder 1 = .ok (.istore_n 2, 1) := by decide +kernel
theorem dX4_holder_2 : decode cX4_holder 2 = .ok (.iload_n 2, 1) := by decide +kernel
theorem dX4_holder_3 : decode cX4_holder 3 = .ok (.aload_n 0, 1) := by decide +kernel
theorem dX4_holder_4 : decode cX4_holder 4 = .ok (.getfield 49, 3) := by decide +kernel
theorem dX4_holder_7 : decode cX4_holder 7 = .ok (.if_icmp .ge 21, 3) := by decide +kernel
theorem dX4_holder_10 : decode cX4_holder 10 = .ok (.aload_n 0, 1) := by decide +kernel
theorem dX4_holder_11 : decode cX4_holder 11 = .ok (.getfield 31, 3) := by decide +kernel
theorem dX4_holder_14 : decode cX4_holder 14 = .ok (.iload_n 2, 1) := by decide +kernel
theorem dX4_holder_15 : decode cX4_holder 15 = .ok (.iaload, 1) := by decide +kernel
theorem dX4_holder_16 : decode cX4_holder 16 = .ok (.iload_n 1, 1) := by decide +kernel
theorem dX4_holder_17 : decode cX4_holder 17 = .ok (.if_icmp .ne 5, 3) := by decide +kernel
theorem dX4_holder_20 : decode cX4_holder 20 = .ok (.iload_n 2, 1) := by decide +kernel
theorem dX4_holder_21 : decode cX4_holder 21 = .ok (.ireturn, 1) := by decide +kernel
theorem dX4_holder_22 : decode cX4_holder 22 = .ok (.iinc 2 1, 3) := by decide +kernel
theorem dX4_holder_25 : decode cX4_holder 25 = .ok (.goto (-23), 3) := by decide +kernel
theorem dX4_holder_28 : decode cX4_holder 28 = .ok (.iload_n 1, 1) := by decide +kernel
theorem dX4_holder_29 : decode cX4_holder 29 = .ok (.ireturn, 1) := by decide +kernel
theorem dX4_exchange_0 : decode cX4_exchange 0 = .ok (.aload_n 0, 1) := by decide +kernel
theorem dX4_exchange_1 : decode cX4_exchange 1 = .ok (.getfield 31, 3) := by decide +kernel
theorem dX4_exchange_4 : decode cX4_exchange 4 = .ok (.iload_n 1, 1) := by decide +kernel
theorem dX4_exchange_5 : decode cX4_exchange 5 = .ok (.iaload, 1) := by decide +kernel
theorem dX4_exchange_6 : decode cX4_exchange 6 = .ok (.istore_n 3, 1) := by decide +kernel
theorem dX4_exchange_7 : decode cX4_exchange 7 = .ok (.aload_n 0, 1) := by decide +kernel
theorem dX4_exchange_8 : decode cX4_exchange 8 = .ok (.getfield 31, 3) := by decide +kernel
theorem dX4_exchange_11 : decode cX4_exchange 11 = .ok (.iload_n 1, 1) := by decide +kernel
theorem dX4_exchange_12 : decode cX4_exchange 12 = .ok (.aload_n 0, 1) := by decide +kernel
theorem dX4_exchange_13 : decode cX4_exchange 13 = .ok (.getfield 31, 3) := by decide +kernel
theorem dX4_exchange_16 : decode cX4_exchange 16 = .ok (.iload_n 2, 1) := by decide +kernel
theorem dX4_exchange_17 : decode cX4_exchange 17 = .ok (.iaload, 1) := by decide +kernel
theorem dX4_exchange_18 : decode cX4_exchange 18 = .ok (.iastore, 1) := by decide +kernel
theorem dX4_exchange_19 : decode cX4_exchange 19 = .ok (.aload_n 0, 1) := by decide +kernel
theorem dX4_exchange_20 : decode cX4_exchange 20 = .ok (.getfield 31, 3) := by decide +kernel
theorem dX4_exchange_23 : decode cX4_exchange 23 = .ok (.iload_n 2, 1) := by decide +kernel
theorem dX4_exchange_24 : decode cX4_exchange 24 = .ok (.iload_n 3, 1) := by decide +kernel
theorem dX4_exchange_25 : decode cX4_exchange 25 = .ok (.iastore, 1) := by decide +kernel
theorem dX4_exchange_26 : decode cX4_exchange 26 = .ok (.return_, 1) := by decide +kernel
theorem dX4_goHome_0 : decode cX4_goHome 0 = .ok (.iconst 0, 1) := by decide +kernel
theorem dX4_goHome_1 : decode cX4_goHome 1 = .ok (.istore_n 1, 1) := by decide +kernel
theorem dX4_goHome_2 : decode cX4_goHome 2 = .ok (.iload_n 1, 1) := by decide +kernel
theorem dX4_goHome_3 : decode cX4_goHome 3 = .ok (.aload_n 0, 1) := by decide +kernel
theorem dX4_goHome_4 : decode cX4_goHome 4 = .ok (.getfield 49, 3) := by decide +kernel
theorem dX4_goHome_7 : decode cX4_goHome 7 = .ok (.if_icmp .ge 16, 3) := by decide +kernel
theorem dX4_goHome_10 : decode cX4_goHome 10 = .ok (.aload_n 0, 1) := by decide +kernel
theorem dX4_goHome_11 : decode cX4_goHome 11 = .ok (.getfield 31, 3) := by decide +kernel
theorem dX4_goHome_14 : decode cX4_goHome 14 = .ok (.iload_n 1, 1) := by decide +kernel
theorem dX4_goHome_15 : decode cX4_goHome 15 = .ok (.iload_n 1, 1) := by decide +kernel
theorem dX4_goHome_16 : decode cX4_goHome 16 = .ok (.iastore, 1) := by decide +kernel
theorem dX4_goHome_17 : decode cX4_goHome 17 = .ok (.iinc 1 1, 3) := by decide +kernel
theorem dX4_goHome_20 : decode cX4_goHome 20 = .ok (.goto (-18), 3) := by decide +kernel
theorem dX4_goHome_23 : decode cX4_goHome 23 = .ok (.return_, 1) := by decide +kernel
theorem dX4_drawLot_0 : decode cX4_drawLot 0 = .ok (.aload_n 0, 1) := by decide +kernel
theorem dX4_drawLot_1 : decode cX4_drawLot 1 = .ok (.invokevirtual 93, 3) := by decide +kernel
theorem dX4_drawLot_4 : decode cX4_drawLot 4 = .ok (.aload_n 0, 1) := by decide +kernel
theorem dX4_drawLot_5 : decode cX4_drawLot 5 = .ok (.iconst 0, 1) := by decide +kernel
theorem dX4_drawLot_6 : decode cX4_drawLot 6 = .ok (.invokevirtual 96, 3) := by decide +kernel
theorem dX4_drawLot_9 : decode cX4_drawLot 9 = .ok (.aload_n 0, 1) := by decide +kernel
theorem dX4_drawLot_10 : decode cX4_drawLot 10 = .ok (.iconst 1, 1) := by decide +kernel
theorem dX4_drawLot_11 : decode cX4_drawLot 11 = .ok (.invokevirtual 96, 3) := by decide +kernel
theorem dX4_drawLot_14 : decode cX4_drawLot 14 = .ok (.return_, 1) := by decide +kernel
theorem dX4_shuffle_0 : decode cX4_shuffle 0 = .ok (.iconst 0, 1) := by decide +kernel
theorem dX4_shuffle_1 : decode cX4_shuffle 1 = .ok (.istore_n 2, 1) := by decide +kernel
theorem dX4_shuffle_2 : decode cX4_shuffle 2 = .ok (.iconst 0, 1) := by decide +kernel
theorem dX4_shuffle_3 : decode cX4_shuffle 3 = .ok (.istore_n 3, 1) := by decide +kernel
theorem dX4_shuffle_4 : decode cX4_shuffle 4 = .ok (.iload_n 3, 1) := by decide +kernel
theorem dX4_shuffle_5 : decode cX4_shuffle 5 = .ok (.aload_n 0, 1) := by decide +kernel
theorem dX4_shuffle_6 : decode cX4_shuffle 6 = .ok (.getfield 49, 3) := by decide +kernel
theorem dX4_shuffle_9 : decode cX4_shuffle 9 = .ok (.if_icmp .ge 28, 3) := by decide +kernel
theorem dX4_shuffle_12 : decode cX4_shuffle 12 = .ok (.aload_n 0, 1) := by decide +kernel
theorem dX4_shuffle_13 : decode cX4_shuffle 13 = .ok (.iload_n 3, 1) := by decide +kernel
theorem dX4_shuffle_14 : decode cX4_shuffle 14 = .ok (.invokevirtual 58, 3) := by decide +kernel
theorem dX4_shuffle_17 : decode cX4_shuffle 17 = .ok (.iload_n 1, 1) := by decide +kernel
theorem dX4_shuffle_18 : decode cX4_shuffle 18 = .ok (.if_icmp .ne 13, 3) := by decide +kernel
theorem dX4_shuffle_21 : decode cX4_shuffle 21 = .ok (.aload_n 0, 1) := by decide +kernel
theorem dX4_shuffle_22 : decode cX4_shuffle 22 = .ok (.getfield 43, 3) := by decide +kernel
theorem dX4_shuffle_25 : decode cX4_shuffle 25 = .ok (.iload_n 2, 1) := by decide +kernel
theorem dX4_shuffle_26 : decode cX4_shuffle 26 = .ok (.iload_n 3, 1) := by decide +kernel
theorem dX4_shuffle_27 : decode cX4_shuffle 27 = .ok (.iastore, 1) := by decide +kernel
theorem dX4_shuffle_28 : decode cX4_shuffle 28 = .ok (.iinc 2 1, 3) := by decide +kernel
theorem dX4_shuffle_31 : decode cX4_shuffle 31 = .ok (.iinc 3 1, 3) := by decide +kernel
theorem dX4_shuffle_34 : decode cX4_shuffle 34 = .ok (.goto (-30), 3) := by decide +kernel
theorem dX4_shuffle_37 : decode cX4_shuffle 37 = .ok (.iload_n 2, 1) := by decide +kernel
theorem dX4_shuffle_38 : decode cX4_shuffle 38 = .ok (.iconst 1, 1) := by decide +kernel
theorem dX4_shuffle_39 : decode cX4_shuffle 39 = .ok (.isub, 1) := by decide +kernel
theorem dX4_shuffle_40 : decode cX4_shuffle 40 = .ok (.istore_n 3, 1) := by decide +kernel
theorem dX4_shuffle_41 : decode cX4_shuffle 41 = .ok (.iload_n 3, 1) := by decide +kernel
theorem dX4_shuffle_42 : decode cX4_shuffle 42 = .ok (.iconst 1, 1) := by decide +kernel
theorem dX4_shuffle_43 : decode cX4_shuffle 43 = .ok (.if_icmp .lt 31, 3) := by decide +kernel
theorem dX4_shuffle_46 : decode cX4_shuffle 46 = .ok (.aload_n 0, 1) := by decide +kernel
theorem dX4_shuffle_47 : decode cX4_shuffle 47 = .ok (.aload_n 0, 1) := by decide +kernel
theorem dX4_shuffle_48 : decode cX4_shuffle 48 = .ok (.getfield 43, 3) := by decide +kernel
theorem dX4_shuffle_51 : decode cX4_shuffle 51 = .ok (.iload_n 3, 1) := by decide +kernel
theorem dX4_shuffle_52 : decode cX4_shuffle 52 = .ok (.iaload, 1) := by decide +kernel
theorem dX4_shuffle_53 : decode cX4_shuffle 53 = .ok (.aload_n 0, 1) := by decide +kernel
theorem dX4_shuffle_54 : decode cX4_shuffle 54 = .ok (.getfield 43, 3) := by decide +kernel
theorem dX4_shuffle_57 : decode cX4_shuffle 57 = .ok (.aload_n 0, 1) := by decide +kernel
theorem dX4_shuffle_58 : decode cX4_shuffle 58 = .ok (.iload_n 3, 1) := by decide +kernel
theorem dX4_shuffle_59 : decode cX4_shuffle 59 = .ok (.iconst 1, 1) := by decide +kernel
theorem dX4_shuffle_60 : decode cX4_shuffle 60 = .ok (.iadd, 1) := by decide +kernel
theorem dX4_shuffle_61 : decode cX4_shuffle 61 = .ok (.invokevirtual 100, 3) := by decide +kernel
theorem dX4_shuffle_64 : decode cX4_shuffle 64 = .ok (.iaload, 1) := by decide +kernel
theorem dX4_shuffle_65 : decode cX4_shuffle 65 = .ok (.invokevirtual 103, 3) := by decide +kernel
theorem dX4_shuffle_68 : decode cX4_shuffle 68 = .ok (.iinc 3 (-1), 3) := by decide +kernel
theorem dX4_shuffle_71 : decode cX4_shuffle 71 = .ok (.goto (-30), 3) := by decide +kernel
theorem dX4_shuffle_74 : decode cX4_shuffle 74 = .ok (.return_, 1) := by decide +kernel
theorem dX4_drawAmong_0 : decode cX4_drawAmong 0 = .ok (.aload_n 0, 1) := by decide +kernel
theorem dX4_drawAmong_1 : decode cX4_drawAmong 1 = .ok (.aload_n 0, 1) := by decide +kernel
theorem dX4_drawAmong_2 : decode cX4_drawAmong 2 = .ok (.getfield 9, 3) := by decide +kernel
theorem dX4_drawAmong_5 : decode cX4_drawAmong 5 = .ok (.ldc 107, 2) := by decide +kernel
theorem dX4_drawAmong_7 : decode cX4_drawAmong 7 = .ok (.imul, 1) := by decide +kernel
theorem dX4_drawAmong_8 : decode cX4_drawAmong 8 = .ok (.sipush 12345, 3) := by decide +kernel
theorem dX4_drawAmong_11 : decode cX4_drawAmong 11 = .ok (.iadd, 1) := by decide +kernel
theorem dX4_drawAmong_12 : decode cX4_drawAmong 12 = .ok (.putfield 9, 3) := by decide +kernel
theorem dX4_drawAmong_15 : decode cX4_drawAmong 15 = .ok (.iload_n 1, 1) := by decide +kernel
theorem dX4_drawAmong_16 : decode cX4_drawAmong 16 = .ok (.ifCond .le 15, 3) := by decide +kernel
theorem dX4_drawAmong_19 : decode cX4_drawAmong 19 = .ok (.aload_n 0, 1) := by decide +kernel
theorem dX4_drawAmong_20 : decode cX4_drawAmong 20 = .ok (.getfield 9, 3) := by decide +kernel
theorem dX4_drawAmong_23 : decode cX4_drawAmong 23 = .ok (.bipush 16, 2) := by decide +kernel
theorem dX4_drawAmong_25 : decode cX4_drawAmong 25 = .ok (.iushr, 1) := by decide +kernel
theorem dX4_drawAmong_26 : decode cX4_drawAmong 26 = .ok (.iload_n 1, 1) := by decide +kernel
theorem dX4_drawAmong_27 : decode cX4_drawAmong 27 = .ok (.irem, 1) := by decide +kernel
theorem dX4_drawAmong_28 : decode cX4_drawAmong 28 = .ok (.goto 4, 3) := by decide +kernel
theorem dX4_drawAmong_31 : decode cX4_drawAmong 31 = .ok (.iconst 0, 1) := by decide +kernel
theorem dX4_drawAmong_32 : decode cX4_drawAmong 32 = .ok (.ireturn, 1) := by decide +kernel
theorem dX4_passFridays_0 : decode cX4_passFridays 0 = .ok (.iconst 0, 1) := by decide +kernel
theorem dX4_passFridays_1 : decode cX4_passFridays 1 = .ok (.istore_n 2, 1) := by decide +kernel
theorem dX4_passFridays_2 : decode cX4_passFridays 2 = .ok (.iload_n 2, 1) := by decide +kernel
theorem dX4_passFridays_3 : decode cX4_passFridays 3 = .ok (.iload_n 1, 1) := by decide +kernel
theorem dX4_passFridays_4 : decode cX4_passFridays 4 = .ok (.if_icmp .ge 13, 3) := by decide +kernel
theorem dX4_passFridays_7 : decode cX4_passFridays 7 = .ok (.aload_n 0, 1) := by decide +kernel
theorem dX4_passFridays_8 : decode cX4_passFridays 8 = .ok (.invokevirtual 108, 3) := by decide +kernel
theorem dX4_passFridays_11 : decode cX4_passFridays 11 = .ok (.iinc 2 1, 3) := by decide +kernel
theorem dX4_passFridays_14 : decode cX4_passFridays 14 = .ok (.goto (-12), 3) := by decide +kernel
theorem dX4_passFridays_17 : decode cX4_passFridays 17 = .ok (.return_, 1) := by decide +kernel
theorem dX4_passFriday_0 : decode cX4_passFriday 0 = .ok (.iconst 0, 1) := by decide +kernel
theorem dX4_passFriday_1 : decode cX4_passFriday 1 = .ok (.istore_n 1, 1) := by decide +kernel
theorem dX4_passFriday_2 : decode cX4_passFriday 2 = .ok (.iload_n 1, 1) := by decide +kernel
theorem dX4_passFriday_3 : decode cX4_passFriday 3 = .ok (.aload_n 0, 1) := by decide +kernel
theorem dX4_passFriday_4 : decode cX4_passFriday 4 = .ok (.getfield 49, 3) := by decide +kernel
theorem dX4_passFriday_7 : decode cX4_passFriday 7 = .ok (.if_icmp .ge 60, 3) := by decide +kernel
theorem dX4_passFriday_10 : decode cX4_passFriday 10 = .ok (.aload_n 0, 1) := by decide +kernel
theorem dX4_passFriday_11 : decode cX4_passFriday 11 = .ok (.getfield 34, 3) := by decide +kernel
theorem dX4_passFriday_14 : decode cX4_passFriday 14 = .ok (.iload_n 1, 1) := by decide +kernel
theorem dX4_passFriday_15 : decode cX4_passFriday 15 = .ok (.aload_n 0, 1) := by decide +kernel
theorem dX4_passFriday_16 : decode cX4_passFriday 16 = .ok (.iload_n 1, 1) := by decide +kernel
theorem dX4_passFriday_17 : decode cX4_passFriday 17 = .ok (.aload_n 0, 1) := by decide +kernel
theorem dX4_passFriday_18 : decode cX4_passFriday 18 = .ok (.getfield 31, 3) := by decide +kernel
theorem dX4_passFriday_21 : decode cX4_passFriday 21 = .ok (.iload_n 1, 1) := by decide +kernel
theorem dX4_passFriday_22 : decode cX4_passFriday 22 = .ok (.iaload, 1) := by decide +kernel
theorem dX4_passFriday_23 : decode cX4_passFriday 23 = .ok (.invokevirtual 76, 3) := by decide +kernel
theorem dX4_passFriday_26 : decode cX4_passFriday 26 = .ok (.iastore, 1) := by decide +kernel
theorem dX4_passFriday_27 : decode cX4_passFriday 27 = .ok (.aload_n 0, 1) := by decide +kernel
theorem dX4_passFriday_28 : decode cX4_passFriday 28 = .ok (.getfield 37, 3) := by decide +kernel
theorem dX4_passFriday_31 : decode cX4_passFriday 31 = .ok (.iload_n 1, 1) := by decide +kernel
theorem dX4_passFriday_32 : decode cX4_passFriday 32 = .ok (.aload_n 0, 1) := by decide +kernel
theorem dX4_passFriday_33 : decode cX4_passFriday 33 = .ok (.iload_n 1, 1) := by decide +kernel
theorem dX4_passFriday_34 : decode cX4_passFriday 34 = .ok (.aload_n 0, 1) := by decide +kernel
theorem dX4_passFriday_35 : decode cX4_passFriday 35 = .ok (.getfield 31, 3) := by decide +kernel
theorem dX4_passFriday_38 : decode cX4_passFriday 38 = .ok (.iload_n 1, 1) := by decide +kernel
theorem dX4_passFriday_39 : decode cX4_passFriday 39 = .ok (.iaload, 1) := by decide +kernel
theorem dX4_passFriday_40 : decode cX4_passFriday 40 = .ok (.invokevirtual 111, 3) := by decide +kernel
theorem dX4_passFriday_43 : decode cX4_passFriday 43 = .ok (.iastore, 1) := by decide +kernel
theorem dX4_passFriday_44 : decode cX4_passFriday 44 = .ok (.aload_n 0, 1) := by decide +kernel
theorem dX4_passFriday_45 : decode cX4_passFriday 45 = .ok (.getfield 40, 3) := by decide +kernel
theorem dX4_passFriday_48 : decode cX4_passFriday 48 = .ok (.iload_n 1, 1) := by decide +kernel
theorem dX4_passFriday_49 : decode cX4_passFriday 49 = .ok (.aload_n 0, 1) := by decide +kernel
theorem dX4_passFriday_50 : decode cX4_passFriday 50 = .ok (.iload_n 1, 1) := by decide +kernel
theorem dX4_passFriday_51 : decode cX4_passFriday 51 = .ok (.aload_n 0, 1) := by decide +kernel
theorem dX4_passFriday_52 : decode cX4_passFriday 52 = .ok (.getfield 31, 3) := by decide +kernel
theorem dX4_passFriday_55 : decode cX4_passFriday 55 = .ok (.iload_n 1, 1) := by decide +kernel
theorem dX4_passFriday_56 : decode cX4_passFriday 56 = .ok (.iaload, 1) := by decide +kernel
theorem dX4_passFriday_57 : decode cX4_passFriday 57 = .ok (.invokevirtual 114, 3) := by decide +kernel
theorem dX4_passFriday_60 : decode cX4_passFriday 60 = .ok (.iastore, 1) := by decide +kernel
theorem dX4_passFriday_61 : decode cX4_passFriday 61 = .ok (.iinc 1 1, 3) := by decide +kernel
theorem dX4_passFriday_64 : decode cX4_passFriday 64 = .ok (.goto (-62), 3) := by decide +kernel
theorem dX4_passFriday_67 : decode cX4_passFriday 67 = .ok (.iconst 0, 1) := by decide +kernel
theorem dX4_passFriday_68 : decode cX4_passFriday 68 = .ok (.istore_n 1, 1) := by decide +kernel
theorem dX4_passFriday_69 : decode cX4_passFriday 69 = .ok (.iload_n 1, 1) := by decide +kernel
theorem dX4_passFriday_70 : decode cX4_passFriday 70 = .ok (.aload_n 0, 1) := by decide +kernel
theorem dX4_passFriday_71 : decode cX4_passFriday 71 = .ok (.getfield 49, 3) := by decide +kernel
theorem dX4_passFriday_74 : decode cX4_passFriday 74 = .ok (.if_icmp .ge 92, 3) := by decide +kernel
theorem dX4_passFriday_77 : decode cX4_passFriday 77 = .ok (.aload_n 0, 1) := by decide +kernel
theorem dX4_passFriday_78 : decode cX4_passFriday 78 = .ok (.getfield 31, 3) := by decide +kernel
theorem dX4_passFriday_81 : decode cX4_passFriday 81 = .ok (.iload_n 1, 1) := by decide +kernel
theorem dX4_passFriday_82 : decode cX4_passFriday 82 = .ok (.iaload, 1) := by decide +kernel
theorem dX4_passFriday_83 : decode cX4_passFriday 83 = .ok (.istore_n 2, 1) := by decide +kernel
theorem dX4_passFriday_84 : decode cX4_passFriday 84 = .ok (.aload_n 0, 1) := by decide +kernel
theorem dX4_passFriday_85 : decode cX4_passFriday 85 = .ok (.getfield 22, 3) := by decide +kernel
theorem dX4_passFriday_88 : decode cX4_passFriday 88 = .ok (.iload_n 2, 1) := by decide +kernel
theorem dX4_passFriday_89 : decode cX4_passFriday 89 = .ok (.ldc 117, 2) := by decide +kernel
theorem dX4_passFriday_91 : decode cX4_passFriday 91 = .ok (.aload_n 0, 1) := by decide +kernel
theorem dX4_passFriday_92 : decode cX4_passFriday 92 = .ok (.getfield 22, 3) := by decide +kernel
theorem dX4_passFriday_95 : decode cX4_passFriday 95 = .ok (.iload_n 2, 1) := by decide +kernel
theorem dX4_passFriday_96 : decode cX4_passFriday 96 = .ok (.iaload, 1) := by decide +kernel
theorem dX4_passFriday_97 : decode cX4_passFriday 97 = .ok (.aload_n 0, 1) := by decide +kernel
theorem dX4_passFriday_98 : decode cX4_passFriday 98 = .ok (.getfield 34, 3) := by decide +kernel
theorem dX4_passFriday_101 : decode cX4_passFriday 101 = .ok (.iload_n 1, 1) := by decide +kernel
theorem dX4_passFriday_102 : decode cX4_passFriday 102 = .ok (.iaload, 1) := by decide +kernel
theorem dX4_passFriday_103 : decode cX4_passFriday 103 = .ok (.iadd, 1) := by decide +kernel
theorem dX4_passFriday_104 : decode cX4_passFriday 104 = .ok (.invokestatic 118, 3) := by decide +kernel
theorem dX4_passFriday_107 : decode cX4_passFriday 107 = .ok (.iastore, 1) := by decide +kernel
theorem dX4_passFriday_108 : decode cX4_passFriday 108 = .ok (.aload_n 0, 1) := by decide +kernel
theorem dX4_passFriday_109 : decode cX4_passFriday 109 = .ok (.getfield 25, 3) := by decide +kernel
theorem dX4_passFriday_112 : decode cX4_passFriday 112 = .ok (.iload_n 2, 1) := by decide +kernel
theorem dX4_passFriday_113 : decode cX4_passFriday 113 = .ok (.iconst 0, 1) := by decide +kernel
theorem dX4_passFriday_114 : decode cX4_passFriday 114 = .ok (.bipush 99, 2) := by decide +kernel
theorem dX4_passFriday_116 : decode cX4_passFriday 116 = .ok (.aload_n 0, 1) := by decide +kernel
theorem dX4_passFriday_117 : decode cX4_passFriday 117 = .ok (.getfield 25, 3) := by decide +kernel
theorem dX4_passFriday_120 : decode cX4_passFriday 120 = .ok (.iload_n 2, 1) := by decide +kernel
theorem dX4_passFriday_121 : decode cX4_passFriday 121 = .ok (.iaload, 1) := by decide +kernel
theorem dX4_passFriday_122 : decode cX4_passFriday 122 = .ok (.aload_n 0, 1) := by decide +kernel
theorem dX4_passFriday_123 : decode cX4_passFriday 123 = .ok (.getfield 37, 3) := by decide +kernel
theorem dX4_passFriday_126 : decode cX4_passFriday 126 = .ok (.iload_n 1, 1) := by decide +kernel
theorem dX4_passFriday_127 : decode cX4_passFriday 127 = .ok (.iaload, 1) := by decide +kernel
theorem dX4_passFriday_128 : decode cX4_passFriday 128 = .ok (.iadd, 1) := by decide +kernel
theorem dX4_passFriday_129 : decode cX4_passFriday 129 = .ok (.invokestatic 118, 3) := by decide +kernel
theorem dX4_passFriday_132 : decode cX4_passFriday 132 = .ok (.invokestatic 123, 3) := by decide +kernel
theorem dX4_passFriday_135 : decode cX4_passFriday 135 = .ok (.iastore, 1) := by decide +kernel
theorem dX4_passFriday_136 : decode cX4_passFriday 136 = .ok (.aload_n 0, 1) := by decide +kernel
theorem dX4_passFriday_137 : decode cX4_passFriday 137 = .ok (.getfield 28, 3) := by decide +kernel
theorem dX4_passFriday_140 : decode cX4_passFriday 140 = .ok (.iload_n 1, 1) := by decide +kernel
theorem dX4_passFriday_141 : decode cX4_passFriday 141 = .ok (.bipush 99, 2) := by decide +kernel
theorem dX4_passFriday_143 : decode cX4_passFriday 143 = .ok (.aload_n 0, 1) := by decide +kernel
theorem dX4_passFriday_144 : decode cX4_passFriday 144 = .ok (.getfield 28, 3) := by decide +kernel
theorem dX4_passFriday_147 : decode cX4_passFriday 147 = .ok (.iload_n 1, 1) := by decide +kernel
theorem dX4_passFriday_148 : decode cX4_passFriday 148 = .ok (.iaload, 1) := by decide +kernel
theorem dX4_passFriday_149 : decode cX4_passFriday 149 = .ok (.aload_n 0, 1) := by decide +kernel
theorem dX4_passFriday_150 : decode cX4_passFriday 150 = .ok (.getfield 40, 3) := by decide +kernel
theorem dX4_passFriday_153 : decode cX4_passFriday 153 = .ok (.iload_n 1, 1) := by decide +kernel
theorem dX4_passFriday_154 : decode cX4_passFriday 154 = .ok (.iaload, 1) := by decide +kernel
theorem dX4_passFriday_155 : decode cX4_passFriday 155 = .ok (.iadd, 1) := by decide +kernel
theorem dX4_passFriday_156 : decode cX4_passFriday 156 = .ok (.invokestatic 118, 3) := by decide +kernel
theorem dX4_passFriday_159 : decode cX4_passFriday 159 = .ok (.iastore, 1) := by decide +kernel
theorem dX4_passFriday_160 : decode cX4_passFriday 160 = .ok (.iinc 1 1, 3) := by decide +kernel
theorem dX4_passFriday_163 : decode cX4_passFriday 163 = .ok (.goto (-94), 3) := by decide +kernel
theorem dX4_passFriday_166 : decode cX4_passFriday 166 = .ok (.aload_n 0, 1) := by decide +kernel
theorem dX4_passFriday_167 : decode cX4_passFriday 167 = .ok (.dup, 1) := by decide +kernel
theorem dX4_passFriday_168 : decode cX4_passFriday 168 = .ok (.getfield 46, 3) := by decide +kernel
theorem dX4_passFriday_171 : decode cX4_passFriday 171 = .ok (.iconst 1, 1) := by decide +kernel
theorem dX4_passFriday_172 : decode cX4_passFriday 172 = .ok (.iadd, 1) := by decide +kernel
theorem dX4_passFriday_173 : decode cX4_passFriday 173 = .ok (.putfield 46, 3) := by decide +kernel
theorem dX4_passFriday_176 : decode cX4_passFriday 176 = .ok (.return_, 1) := by decide +kernel
theorem dX5_init_0 : decode cX5_init 0 = .ok (.aload_n 0, 1) := by decide +kernel
theorem dX5_init_1 : decode cX5_init 1 = .ok (.invokespecial 3, 3) := by decide +kernel
theorem dX5_init_4 : decode cX5_init 4 = .ok (.aload_n 0, 1) := by decide +kernel
theorem dX5_init_5 : decode cX5_init 5 = .ok (.aload_n 1, 1) := by decide +kernel
theorem dX5_init_6 : decode cX5_init 6 = .ok (.putfield 9, 3) := by decide +kernel
theorem dX5_init_9 : decode cX5_init 9 = .ok (.return_, 1) := by decide +kernel
theorem dX5_tell_0 : decode cX5_tell 0 = .ok (.aload_n 0, 1) := by decide +kernel
theorem dX5_tell_1 : decode cX5_tell 1 = .ok (.iconst 0, 1) := by decide +kernel
theorem dX5_tell_2 : decode cX5_tell 2 = .ok (.putfield 15, 3) := by decide +kernel
theorem dX5_tell_5 : decode cX5_tell 5 = .ok (.aload_n 0, 1) := by decide +kernel
theorem dX5_tell_6 : decode cX5_tell 6 = .ok (.invokevirtual 19, 3) := by decide +kernel
theorem dX5_tell_9 : decode cX5_tell 9 = .ok (.iconst 1, 1) := by decide +kernel
theorem dX5_tell_10 : decode cX5_tell 10 = .ok (.istore_n 2, 1) := by decide +kernel
theorem dX5_tell_11 : decode cX5_tell 11 = .ok (.iload_n 2, 1) := by decide +kernel
theorem dX5_tell_12 : decode cX5_tell 12 = .ok (.bipush 120, 2) := by decide +kernel
theorem dX5_tell_14 : decode cX5_tell 14 = .ok (.if_icmp .gt 63, 3) := by decide +kernel
theorem dX5_tell_17 : decode cX5_tell 17 = .ok (.aload_n 0, 1) := by decide +kernel
theorem dX5_tell_18 : decode cX5_tell 18 = .ok (.ldc 22, 2) := by decide +kernel
theorem dX5_tell_20 : decode cX5_tell 20 = .ok (.invokevirtual 24, 3) := by decide +kernel
theorem dX5_tell_23 : decode cX5_tell 23 = .ok (.ifCond .eq 11, 3) := by decide +kernel
theorem dX5_tell_26 : decode cX5_tell 26 = .ok (.aload_n 0, 1) := by decide +kernel
theorem dX5_tell_27 : decode cX5_tell 27 = .ok (.aload_n 1, 1) := by decide +kernel
theorem dX5_tell_28 : decode cX5_tell 28 = .ok (.invokevirtual 28, 3) := by decide +kernel
theorem dX5_tell_31 : decode cX5_tell 31 = .ok (.goto 8, 3) := by decide +kernel
theorem dX5_tell_34 : decode cX5_tell 34 = .ok (.aload_n 0, 1) := by decide +kernel
theorem dX5_tell_35 : decode cX5_tell 35 = .ok (.aload_n 1, 1) := by decide +kernel
theorem dX5_tell_36 : decode cX5_tell 36 = .ok (.invokevirtual 32, 3) := by decide +kernel
theorem dX5_tell_39 : decode cX5_tell 39 = .ok (.istore_n 3, 1) := by decide +kernel
theorem dX5_tell_40 : decode cX5_tell 40 = .ok (.iload_n 3, 1) := by decide +kernel
theorem dX5_tell_41 : decode cX5_tell 41 = .ok (.ifCond .ne 6, 3) := by decide +kernel
theorem dX5_tell_44 : decode cX5_tell 44 = .ok (.goto 33, 3) := by decide +kernel
theorem dX5_tell_47 : decode cX5_tell 47 = .ok (.aload_n 0, 1) := by decide +kernel
theorem dX5_tell_48 : decode cX5_tell 48 = .ok (.getfield 35, 3) := by decide +kernel
theorem dX5_tell_51 : decode cX5_tell 51 = .ok (.ifCond .ne 5, 3) := by decide +kernel
theorem dX5_tell_54 : decode cX5_tell 54 = .ok (.iload_n 2, 1) := by decide +kernel
theorem dX5_tell_55 : decode cX5_tell 55 = .ok (.ireturn, 1) := by decide +kernel
theorem dX5_tell_56 : decode cX5_tell 56 = .ok (.aload_n 0, 1) := by decide +kernel
theorem dX5_tell_57 : decode cX5_tell 57 = .ok (.getfield 35, 3) := by decide +kernel
theorem dX5_tell_60 : decode cX5_tell 60 = .ok (.iconst 3, 1) := by decide +kernel
theorem dX5_tell_61 : decode cX5_tell 61 = .ok (.if_icmp .eq 6, 3) := by decide +kernel
theorem dX5_tell_64 : decode cX5_tell 64 = .ok (.goto 13, 3) := by decide +kernel
theorem dX5_tell_67 : decode cX5_tell 67 = .ok (.aload_n 0, 1) := by decide +kernel
theorem dX5_tell_68 : decode cX5_tell 68 = .ok (.invokevirtual 19, 3) := by decide +kernel
theorem dX5_tell_71 : decode cX5_tell 71 = .ok (.iinc 2 1, 3) := by decide +kernel
theorem dX5_tell_74 : decode cX5_tell 74 = .ok (.goto (-63), 3) := by decide +kernel
theorem dX5_tell_77 : decode cX5_tell 77 = .ok (.iconst (-1), 1) := by decide +kernel
theorem dX5_tell_78 : decode cX5_tell 78 = .ok (.aload_n 0, 1) := by decide +kernel
theorem dX5_tell_79 : decode cX5_tell 79 = .ok (.getfield 38, 3) := by decide +kernel
theorem dX5_tell_82 : decode cX5_tell 82 = .ok (.isub, 1) := by decide +kernel
theorem dX5_tell_83 : decode cX5_tell 83 = .ok (.ireturn, 1) := by decide +kernel
theorem dX5_takePerson_0 : decode cX5_takePerson 0 = .ok (.aload_n 0, 1) := by decide +kernel
theorem dX5_takePerson_1 : decode cX5_takePerson 1 = .ok (.invokevirtual 41, 3) := by decide +kernel
theorem dX5_takePerson_4 : decode cX5_takePerson 4 = .ok (.istore_n 2, 1) := by decide +kernel
theorem dX5_takePerson_5 : decode cX5_takePerson 5 = .ok (.iload_n 2, 1) := by decide +kernel
theorem dX5_takePerson_6 : decode cX5_takePerson 6 = .ok (.ifCond .lt 10, 3) := by decide +kernel
theorem dX5_takePerson_9 : decode cX5_takePerson 9 = .ok (.aload_n 1, 1) := by decide +kernel
theorem dX5_takePerson_10 : decode cX5_takePerson 10 = .ok (.invokevirtual 45, 3) := by decide +kernel
theorem dX5_takePerson_13 : decode cX5_takePerson 13 = .ok (.ifCond .eq 5, 3) := by decide +kernel
theorem dX5_takePerson_16 : decode cX5_takePerson 16 = .ok (.iconst 0, 1) := by decide +kernel
theorem dX5_takePerson_17 : decode cX5_takePerson 17 = .ok (.ireturn, 1) := by decide +kernel
theorem dX5_takePerson_18 : decode cX5_takePerson 18 = .ok (.aload_n 1, 1) := by decide +kernel
theorem dX5_takePerson_19 : decode cX5_takePerson 19 = .ok (.iload_n 2, 1) := by decide +kernel
theorem dX5_takePerson_20 : decode cX5_takePerson 20 = .ok (.invokevirtual 51, 3) := by decide +kernel
theorem dX5_takePerson_23 : decode cX5_takePerson 23 = .ok (.istore_n 3, 1) := by decide +kernel
theorem dX5_takePerson_24 : decode cX5_takePerson 24 = .ok (.aload_n 0, 1) := by decide +kernel
theorem dX5_takePerson_25 : decode cX5_takePerson 25 = .ok (.invokevirtual 19, 3) := by decide +kernel
theorem dX5_takePerson_28 : decode cX5_takePerson 28 = .ok (.aload_n 0, 1) := by decide +kernel
theorem dX5_takePerson_29 : decode cX5_takePerson 29 = .ok (.ldc 55, 2) := by decide +kernel
theorem dX5_takePerson_31 : decode cX5_takePerson 31 = .ok (.aload_n 1, 1) := by decide +kernel
theorem dX5_takePerson_32 : decode cX5_takePerson 32 = .ok (.getfield 57, 3) := by decide +kernel
theorem dX5_takePerson_35 : decode cX5_takePerson 35 = .ok (.iload_n 3, 1) := by decide +kernel
theorem dX5_takePerson_36 : decode cX5_takePerson 36 = .ok (.bipush 20, 2) := by decide +kernel
theorem dX5_takePerson_38 : decode cX5_takePerson 38 = .ok (.invokevirtual 61, 3) := by decide +kernel
theorem dX5_takePerson_41 : decode cX5_takePerson 41 = .ok (.ifCond .eq 40, 3) := by decide +kernel
theorem dX5_takePerson_44 : decode cX5_takePerson 44 = .ok (.aload_n 0, 1) := by decide +kernel
theorem dX5_takePerson_45 : decode cX5_takePerson 45 = .ok (.ldc 65, 2) := by decide +kernel
theorem dX5_takePerson_47 : decode cX5_takePerson 47 = .ok (.aload_n 1, 1) := by decide +kernel
theorem dX5_takePerson_48 : decode cX5_takePerson 48 = .ok (.getfield 67, 3) := by decide +kernel
theorem dX5_takePerson_51 : decode cX5_takePerson 51 = .ok (.iload_n 3, 1) := by decide +kernel
theorem dX5_takePerson_52 : decode cX5_takePerson 52 = .ok (.sipush 999, 3) := by decide +kernel
theorem dX5_takePerson_55 : decode cX5_takePerson 55 = .ok (.invokevirtual 61, 3) := by decide +kernel
theorem dX5_takePerson_58 : decode cX5_takePerson 58 = .ok (.ifCond .eq 23, 3) := by decide +kernel
theorem dX5_takePerson_61 : decode cX5_takePerson 61 = .ok (.aload_n 0, 1) := by decide +kernel
theorem dX5_takePerson_62 : decode cX5_takePerson 62 = .ok (.ldc 70, 2) := by decide +kernel
theorem dX5_takePerson_64 : decode cX5_takePerson 64 = .ok (.aload_n 1, 1) := by decide +kernel
theorem dX5_takePerson_65 : decode cX5_takePerson 65 = .ok (.getfield 72, 3) := by decide +kernel
theorem dX5_takePerson_68 : decode cX5_takePerson 68 = .ok (.iload_n 3, 1) := by decide +kernel
theorem dX5_takePerson_69 : decode cX5_takePerson 69 = .ok (.bipush 99, 2) := by decide +kernel
theorem dX5_takePerson_71 : decode cX5_takePerson 71 = .ok (.invokevirtual 61, 3) := by decide +kernel
theorem dX5_takePerson_74 : decode cX5_takePerson 74 = .ok (.ifCond .eq 7, 3) := by decide +kernel
theorem dX5_takePerson_77 : decode cX5_takePerson 77 = .ok (.iconst 1, 1) := by decide +kernel
theorem dX5_takePerson_78 : decode cX5_takePerson 78 = .ok (.goto 4, 3) := by decide +kernel
theorem dX5_takePerson_81 : decode cX5_takePerson 81 = .ok (.iconst 0, 1) := by decide +kernel
theorem dX5_takePerson_82 : decode cX5_takePerson 82 = .ok (.ireturn, 1) := by decide +kernel
theorem dX5_takePart_0 : decode cX5_takePart 0 = .ok (.aload_n 0, 1) := by decide +kernel
theorem dX5_takePart_1 : decode cX5_takePart 1 = .ok (.aload_n 1, 1) := by decide +kernel
theorem dX5_takePart_2 : decode cX5_takePart 2 = .ok (.invokevirtual 24, 3) := by decide +kernel
theorem dX5_takePart_5 : decode cX5_takePart 5 = .ok (.ifCond .ne 5, 3) := by decide +kernel
theorem dX5_takePart_8 : decode cX5_takePart 8 = .ok (.iconst 1, 1) := by decide +kernel
theorem dX5_takePart_9 : decode cX5_takePart 9 = .ok (.ireturn, 1) := by decide +kernel
theorem dX5_takePart_10 : decode cX5_takePart 10 = .ok (.aload_n 0, 1) := by decide +kernel
theorem dX5_takePart_11 : decode cX5_takePart 11 = .ok (.invokevirtual 19, 3) := by decide +kernel
theorem dX5_takePart_14 : decode cX5_takePart 14 = .ok (.aload_n 0, 1) := by decide +kernel
theorem dX5_takePart_15 : decode cX5_takePart 15 = .ok (.getfield 35, 3) := by decide +kernel
theorem dX5_takePart_18 : decode cX5_takePart 18 = .ok (.iconst 2, 1) := by decide +kernel
theorem dX5_takePart_19 : decode cX5_takePart 19 = .ok (.if_icmp .ne 12, 3) := by decide +kernel
theorem dX5_takePart_22 : decode cX5_takePart 22 = .ok (.aload_n 0, 1) := by decide +kernel
theorem dX5_takePart_23 : decode cX5_takePart 23 = .ok (.getfield 75, 3) := by decide +kernel
theorem dX5_takePart_26 : decode cX5_takePart 26 = .ok (.iload 4, 2) := by decide +kernel
theorem dX5_takePart_28 : decode cX5_takePart 28 = .ok (.if_icmp .le 5, 3) := by decide +kernel
theorem dX5_takePart_31 : decode cX5_takePart 31 = .ok (.iconst 0, 1) := by decide +kernel
theorem dX5_takePart_32 : decode cX5_takePart 32 = .ok (.ireturn, 1) := by decide +kernel
theorem dX5_takePart_33 : decode cX5_takePart 33 = .ok (.aload_n 2, 1) := by decide +kernel
theorem dX5_takePart_34 : decode cX5_takePart 34 = .ok (.iload_n 3, 1) := by decide +kernel
theorem dX5_takePart_35 : decode cX5_takePart 35 = .ok (.aload_n 0, 1) := by decide +kernel
theorem dX5_takePart_36 : decode cX5_takePart 36 = .ok (.getfield 75, 3) := by decide +kernel
theorem dX5_takePart_39 : decode cX5_takePart 39 = .ok (.iastore, 1) := by decide +kernel
theorem dX5_takePart_40 : decode cX5_takePart 40 = .ok (.aload_n 0, 1) := by decide +kernel
theorem dX5_takePart_41 : decode cX5_takePart 41 = .ok (.invokevirtual 19, 3) := by decide +kernel
theorem dX5_takePart_44 : decode cX5_takePart 44 = .ok (.iconst 1, 1) := by decide +kernel
theorem dX5_takePart_45 : decode cX5_takePart 45 = .ok (.ireturn, 1) := by decide +kernel
theorem dX5_takeSlip_0 : decode cX5_takeSlip 0 = .ok (.aload_n 0, 1) := by decide +kernel
theorem dX5_takeSlip_1 : decode cX5_takeSlip 1 = .ok (.invokevirtual 19, 3) := by decide +kernel
theorem dX5_takeSlip_4 : decode cX5_takeSlip 4 = .ok (.aload_n 0, 1) := by decide +kernel
theorem dX5_takeSlip_5 : decode cX5_takeSlip 5 = .ok (.getfield 35, 3) := by decide +kernel
theorem dX5_takeSlip_8 : decode cX5_takeSlip 8 = .ok (.iconst 2, 1) := by decide +kernel
theorem dX5_takeSlip_9 : decode cX5_takeSlip 9 = .ok (.if_icmp .ne 14, 3) := by decide +kernel
theorem dX5_takeSlip_12 : decode cX5_takeSlip 12 = .ok (.aload_n 1, 1) := by decide +kernel
theorem dX5_takeSlip_13 : decode cX5_takeSlip 13 = .ok (.aload_n 0, 1) := by decide +kernel
theorem dX5_takeSlip_14 : decode cX5_takeSlip 14 = .ok (.getfield 75, 3) := by decide +kernel
theorem dX5_takeSlip_17 : decode cX5_takeSlip 17 = .ok (.invokevirtual 78, 3) := by decide +kernel
theorem dX5_takeSlip_20 : decode cX5_takeSlip 20 = .ok (.ifCond .ne 5, 3) := by decide +kernel
theorem dX5_takeSlip_23 : decode cX5_takeSlip 23 = .ok (.iconst 0, 1) := by decide +kernel
theorem dX5_takeSlip_24 : decode cX5_takeSlip 24 = .ok (.ireturn, 1) := by decide +kernel
theorem dX5_takeSlip_25 : decode cX5_takeSlip 25 = .ok (.aload_n 0, 1) := by decide +kernel
theorem dX5_takeSlip_26 : decode cX5_takeSlip 26 = .ok (.getfield 75, 3) := by decide +kernel
theorem dX5_takeSlip_29 : decode cX5_takeSlip 29 = .ok (.istore_n 2, 1) := by decide +kernel
theorem dX5_takeSlip_30 : decode cX5_takeSlip 30 = .ok (.aload_n 0, 1) := by decide +kernel
theorem dX5_takeSlip_31 : decode cX5_takeSlip 31 = .ok (.invokevirtual 19, 3) := by decide +kernel
theorem dX5_takeSlip_34 : decode cX5_takeSlip 34 = .ok (.aload_n 0, 1) := by decide +kernel
theorem dX5_takeSlip_35 : decode cX5_takeSlip 35 = .ok (.ldc 82, 2) := by decide +kernel
theorem dX5_takeSlip_37 : decode cX5_takeSlip 37 = .ok (.invokevirtual 24, 3) := by decide +kernel
theorem dX5_takeSlip_40 : decode cX5_takeSlip 40 = .ok (.ifCond .ne 5, 3) := by decide +kernel
theorem dX5_takeSlip_43 : decode cX5_takeSlip 43 = .ok (.iconst 0, 1) := by decide +kernel
theorem dX5_takeSlip_44 : decode cX5_takeSlip 44 = .ok (.ireturn, 1) := by decide +kernel
theorem dX5_takeSlip_45 : decode cX5_takeSlip 45 = .ok (.aload_n 0, 1) := by decide +kernel
theorem dX5_takeSlip_46 : decode cX5_takeSlip 46 = .ok (.invokevirtual 19, 3) := by decide +kernel
theorem dX5_takeSlip_49 : decode cX5_takeSlip 49 = .ok (.aload_n 0, 1) := by decide +kernel
theorem dX5_takeSlip_50 : decode cX5_takeSlip 50 = .ok (.getfield 35, 3) := by decide +kernel
theorem dX5_takeSlip_53 : decode cX5_takeSlip 53 = .ok (.iconst 2, 1) := by decide +kernel
theorem dX5_takeSlip_54 : decode cX5_takeSlip 54 = .ok (.if_icmp .ne 14, 3) := by decide +kernel
theorem dX5_takeSlip_57 : decode cX5_takeSlip 57 = .ok (.aload_n 1, 1) := by decide +kernel
theorem dX5_takeSlip_58 : decode cX5_takeSlip 58 = .ok (.aload_n 0, 1) := by decide +kernel
theorem dX5_takeSlip_59 : decode cX5_takeSlip 59 = .ok (.getfield 75, 3) := by decide +kernel
theorem dX5_takeSlip_62 : decode cX5_takeSlip 62 = .ok (.invokevirtual 78, 3) := by decide +kernel
theorem dX5_takeSlip_65 : decode cX5_takeSlip 65 = .ok (.ifCond .ne 5, 3) := by decide +kernel
theorem dX5_takeSlip_68 : decode cX5_takeSlip 68 = .ok (.iconst 0, 1) := by decide +kernel
theorem dX5_takeSlip_69 : decode cX5_takeSlip 69 = .ok (.ireturn, 1) := by decide +kernel
theorem dX5_takeSlip_70 : decode cX5_takeSlip 70 = .ok (.aload_n 1, 1) := by decide +kernel
theorem dX5_takeSlip_71 : decode cX5_takeSlip 71 = .ok (.iload_n 2, 1) := by decide +kernel
theorem dX5_takeSlip_72 : decode cX5_takeSlip 72 = .ok (.aload_n 1, 1) := by decide +kernel
theorem dX5_takeSlip_73 : decode cX5_takeSlip 73 = .ok (.aload_n 0, 1) := by decide +kernel
theorem dX5_takeSlip_74 : decode cX5_takeSlip 74 = .ok (.getfield 75, 3) := by decide +kernel
theorem dX5_takeSlip_77 : decode cX5_takeSlip 77 = .ok (.invokevirtual 84, 3) := by decide +kernel
theorem dX5_takeSlip_80 : decode cX5_takeSlip 80 = .ok (.invokevirtual 87, 3) := by decide +kernel
theorem dX5_takeSlip_83 : decode cX5_takeSlip 83 = .ok (.aload_n 0, 1) := by decide +kernel
theorem dX5_takeSlip_84 : decode cX5_takeSlip 84 = .ok (.invokevirtual 19, 3) := by decide +kernel
theorem dX5_takeSlip_87 : decode cX5_takeSlip 87 = .ok (.iconst 1, 1) := by decide +kernel
theorem dX5_takeSlip_88 : decode cX5_takeSlip 88 = .ok (.ireturn, 1) := by decide +kernel
theorem dX5_namedKind_0 : decode cX5_namedKind 0 = .ok (.iconst 0, 1) := by decide +kernel
theorem dX5_namedKind_1 : decode cX5_namedKind 1 = .ok (.istore_n 1, 1) := by decide +kernel
theorem dX5_namedKind_2 : decode cX5_namedKind 2 = .ok (.iload_n 1, 1) := by decide +kernel
theorem dX5_namedKind_3 : decode cX5_namedKind 3 = .ok (.bipush 6, 2) := by decide +kernel
theorem dX5_namedKind_5 : decode cX5_namedKind 5 = .ok (.if_icmp .ge 22, 3) := by decide +kernel
theorem dX5_namedKind_8 : decode cX5_namedKind 8 = .ok (.aload_n 0, 1) := by decide +kernel
theorem dX5_namedKind_9 : decode cX5_namedKind 9 = .ok (.iload_n 1, 1) := by decide +kernel
theorem dX5_namedKind_10 : decode cX5_namedKind 10 = .ok (.invokestatic 91, 3) := by decide +kernel
theorem dX5_namedKind_13 : decode cX5_namedKind 13 = .ok (.invokevirtual 24, 3) := by decide +kernel
theorem dX5_namedKind_16 : decode cX5_namedKind 16 = .ok (.ifCond .eq 5, 3) := by decide +kernel
theorem dX5_namedKind_19 : decode cX5_namedKind 19 = .ok (.iload_n 1, 1) := by decide +kernel
theorem dX5_namedKind_20 : decode cX5_namedKind 20 = .ok (.ireturn, 1) := by decide +kernel
theorem dX5_namedKind_21 : decode cX5_namedKind 21 = .ok (.iinc 1 1, 3) := by decide +kernel
theorem dX5_namedKind_24 : decode cX5_namedKind 24 = .ok (.goto (-22), 3) := by decide +kernel
theorem dX5_namedKind_27 : decode cX5_namedKind 27 = .ok (.iconst (-1), 1) := by decide +kernel
theorem dX5_namedKind_28 : decode cX5_namedKind 28 = .ok (.ireturn, 1) := by decide +kernel
theorem dX5_nameOf_0 : decode cX5_nameOf 0 = .ok (.iload_n 0, 1) := by decide +kernel
theorem dX5_nameOf_1 : decode cX5_nameOf 1 = .ok (.tableswitch 50 1 5 #[35, 38, 41, 44, 47], 35) := by decide +kernel
theorem dX5_nameOf_36 : decode cX5_nameOf 36 = .ok (.ldc 95, 2) := by decide +kernel
theorem dX5_nameOf_38 : decode cX5_nameOf 38 = .ok (.areturn, 1) := by decide +kernel
theorem dX5_nameOf_39 : decode cX5_nameOf 39 = .ok (.ldc 97, 2) := by decide +kernel
theorem dX5_nameOf_41 : decode cX5_nameOf 41 = .ok (.areturn, 1) := by decide +kernel
theorem dX5_nameOf_42 : decode cX5_nameOf 42 = .ok (.ldc 99, 2) := by decide +kernel
theorem dX5_nameOf_44 : decode cX5_nameOf 44 = .ok (.areturn, 1) := by decide +kernel
theorem dX5_nameOf_45 : decode cX5_nameOf 45 = .ok (.ldc 101, 2) := by decide +kernel
theorem dX5_nameOf_47 : decode cX5_nameOf 47 = .ok (.areturn, 1) := by decide +kernel
theorem dX5_nameOf_48 : decode cX5_nameOf 48 = .ok (.ldc 103, 2) := by decide +kernel
theorem dX5_nameOf_50 : decode cX5_nameOf 50 = .ok (.areturn, 1) := by decide +kernel
theorem dX5_nameOf_51 : decode cX5_nameOf 51 = .ok (.ldc 105, 2) := by decide +kernel
theorem dX5_nameOf_53 : decode cX5_nameOf 53 = .ok (.areturn, 1) := by decide +kernel
theorem dX5_isWord_0 : decode cX5_isWord 0 = .ok (.aload_n 0, 1) := by decide +kernel
theorem dX5_isWord_1 : decode cX5_isWord 1 = .ok (.getfield 35, 3) := by decide +kernel
theorem dX5_isWord_4 : decode cX5_isWord 4 = .ok (.iconst 1, 1) := by decide +kernel
theorem dX5_isWord_5 : decode cX5_isWord 5 = .ok (.if_icmp .ne 19, 3) := by decide +kernel
theorem dX5_isWord_8 : decode cX5_isWord 8 = .ok (.aload_n 0, 1) := by decide +kernel
theorem dX5_isWord_9 : decode cX5_isWord 9 = .ok (.getfield 15, 3) := by decide +kernel
theorem dX5_isWord_12 : decode cX5_isWord 12 = .ok (.aload_n 0, 1) := by decide +kernel
theorem dX5_isWord_13 : decode cX5_isWord 13 = .ok (.getfield 38, 3) := by decide +kernel
theorem dX5_isWord_16 : decode cX5_isWord 16 = .ok (.isub, 1) := by decide +kernel
theorem dX5_isWord_17 : decode cX5_isWord 17 = .ok (.aload_n 1, 1) := by decide +kernel
theorem dX5_isWord_18 : decode cX5_isWord 18 = .ok (.invokevirtual 107, 3) := by decide +kernel
theorem dX5_isWord_21 : decode cX5_isWord 21 = .ok (.if_icmp .eq 5, 3) := by decide +kernel
theorem dX5_isWord_24 : decode cX5_isWord 24 = .ok (.iconst 0, 1) := by decide +kernel
theorem dX5_isWord_25 : decode cX5_isWord 25 = .ok (.ireturn, 1) := by decide +kernel
theorem dX5_isWord_26 : decode cX5_isWord 26 = .ok (.iconst 0, 1) := by decide +kernel
theorem dX5_isWord_27 : decode cX5_isWord 27 = .ok (.istore_n 2, 1) := by decide +kernel
theorem dX5_isWord_28 : decode cX5_isWord 28 = .ok (.iload_n 2, 1) := by decide +kernel
theorem dX5_isWord_29 : decode cX5_isWord 29 = .ok (.aload_n 1, 1) := by decide +kernel
theorem dX5_isWord_30 : decode cX5_isWord 30 = .ok (.invokevirtual 107, 3) := by decide +kernel
theorem dX5_isWord_33 : decode cX5_isWord 33 = .ok (.if_icmp .ge 32, 3) := by decide +kernel
theorem dX5_isWord_36 : decode cX5_isWord 36 = .ok (.aload_n 0, 1) := by decide +kernel
theorem dX5_isWord_37 : decode cX5_isWord 37 = .ok (.getfield 9, 3) := by decide +kernel
theorem dX5_isWord_40 : decode cX5_isWord 40 = .ok (.aload_n 0, 1) := by decide +kernel
theorem dX5_isWord_41 : decode cX5_isWord 41 = .ok (.getfield 38, 3) := by decide +kernel
theorem dX5_isWord_44 : decode cX5_isWord 44 = .ok (.iload_n 2, 1) := by decide +kernel
theorem dX5_isWord_45 : decode cX5_isWord 45 = .ok (.iadd, 1) := by decide +kernel
theorem dX5_isWord_46 : decode cX5_isWord 46 = .ok (.invokevirtual 112, 3) := by decide +kernel
theorem dX5_isWord_49 : decode cX5_isWord 49 = .ok (.aload_n 1, 1) := by decide +kernel
theorem dX5_isWord_50 : decode cX5_isWord 50 = .ok (.iload_n 2, 1) := by decide +kernel
theorem dX5_isWord_51 : decode cX5_isWord 51 = .ok (.invokevirtual 117, 3) := by decide +kernel
theorem dX5_isWord_54 : decode cX5_isWord 54 = .ok (.if_icmp .eq 5, 3) := by decide +kernel
theorem dX5_isWord_57 : decode cX5_isWord 57 = .ok (.iconst 0, 1) := by decide +kernel
theorem dX5_isWord_58 : decode cX5_isWord 58 = .ok (.ireturn, 1) := by decide +kernel
theorem dX5_isWord_59 : decode cX5_isWord 59 = .ok (.iinc 2 1, 3) := by decide +kernel
theorem dX5_isWord_62 : decode cX5_isWord 62 = .ok (.goto (-34), 3) := by decide +kernel
theorem dX5_isWord_65 : decode cX5_isWord 65 = .ok (.iconst 1, 1) := by decide +kernel
theorem dX5_isWord_66 : decode cX5_isWord 66 = .ok (.ireturn, 1) := by decide +kernel
theorem dX5_step_0 : decode cX5_step 0 = .ok (.aload_n 0, 1) := by decide +kernel
theorem dX5_step_1 : decode cX5_step 1 = .ok (.aload_n 0, 1) := by decide +kernel
theorem dX5_step_2 : decode cX5_step 2 = .ok (.getfield 15, 3) := by decide +kernel
theorem dX5_step_5 : decode cX5_step 5 = .ok (.putfield 38, 3) := by decide +kernel
theorem dX5_step_8 : decode cX5_step 8 = .ok (.aload_n 0, 1) := by decide +kernel
theorem dX5_step_9 : decode cX5_step 9 = .ok (.getfield 38, 3) := by decide +kernel
theorem dX5_step_12 : decode cX5_step 12 = .ok (.aload_n 0, 1) := by decide +kernel
theorem dX5_step_13 : decode cX5_step 13 = .ok (.getfield 9, 3) := by decide +kernel
theorem dX5_step_16 : decode cX5_step 16 = .ok (.getfield 121, 3) := by decide +kernel
theorem dX5_step_19 : decode cX5_step 19 = .ok (.if_icmp .ge 32, 3) := by decide +kernel
theorem dX5_step_22 : decode cX5_step 22 = .ok (.aload_n 0, 1) := by decide +kernel
theorem dX5_step_23 : decode cX5_step 23 = .ok (.getfield 9, 3) := by decide +kernel
theorem dX5_step_26 : decode cX5_step 26 = .ok (.aload_n 0, 1) := by decide +kernel
theorem dX5_step_27 : decode cX5_step 27 = .ok (.getfield 38, 3) := by decide +kernel
theorem dX5_step_30 : decode cX5_step 30 = .ok (.invokevirtual 112, 3) := by decide +kernel
theorem dX5_step_33 : decode cX5_step 33 = .ok (.bipush 32, 2) := by decide +kernel
theorem dX5_step_35 : decode cX5_step 35 = .ok (.if_icmp .ne 16, 3) := by decide +kernel
theorem dX5_step_38 : decode cX5_step 38 = .ok (.aload_n 0, 1) := by decide +kernel
theorem dX5_step_39 : decode cX5_step 39 = .ok (.dup, 1) := by decide +kernel
theorem dX5_step_40 : decode cX5_step 40 = .ok (.getfield 38, 3) := by decide +kernel
theorem dX5_step_43 : decode cX5_step 43 = .ok (.iconst 1, 1) := by decide +kernel
theorem dX5_step_44 : decode cX5_step 44 = .ok (.iadd, 1) := by decide +kernel
theorem dX5_step_45 : decode cX5_step 45 = .ok (.putfield 38, 3) := by decide +kernel
theorem dX5_step_48 : decode cX5_step 48 = .ok (.goto (-40), 3) := by decide +kernel
theorem dX5_step_51 : decode cX5_step 51 = .ok (.aload_n 0, 1) := by decide +kernel
theorem dX5_step_52 : decode cX5_step 52 = .ok (.aload_n 0, 1) := by decide +kernel
theorem dX5_step_53 : decode cX5_step 53 = .ok (.getfield 38, 3) := by decide +kernel
theorem dX5_step_56 : decode cX5_step 56 = .ok (.putfield 15, 3) := by decide +kernel
theorem dX5_step_59 : decode cX5_step 59 = .ok (.aload_n 0, 1) := by decide +kernel
theorem dX5_step_60 : decode cX5_step 60 = .ok (.getfield 9, 3) := by decide +kernel
theorem dX5_step_63 : decode cX5_step 63 = .ok (.aload_n 0, 1) := by decide +kernel
theorem dX5_step_64 : decode cX5_step 64 = .ok (.getfield 38, 3) := by decide +kernel
theorem dX5_step_67 : decode cX5_step 67 = .ok (.invokevirtual 112, 3) := by decide +kernel
theorem dX5_step_70 : decode cX5_step 70 = .ok (.istore_n 1, 1) := by decide +kernel
theorem dX5_step_71 : decode cX5_step 71 = .ok (.iload_n 1, 1) := by decide +kernel
theorem dX5_step_72 : decode cX5_step 72 = .ok (.ifCond .ge 11, 3) := by decide +kernel
theorem dX5_step_75 : decode cX5_step 75 = .ok (.aload_n 0, 1) := by decide +kernel
theorem dX5_step_76 : decode cX5_step 76 = .ok (.iconst 0, 1) := by decide +kernel
theorem dX5_step_77 : decode cX5_step 77 = .ok (.putfield 35, 3) := by decide +kernel
theorem dX5_step_80 : decode cX5_step 80 = .ok (.goto 66, 3) := by decide +kernel
theorem dX5_step_83 : decode cX5_step 83 = .ok (.iload_n 1, 1) := by decide +kernel
theorem dX5_step_84 : decode cX5_step 84 = .ok (.invokestatic 124, 3) := by decide +kernel
theorem dX5_step_87 : decode cX5_step 87 = .ok (.ifCond .eq 15, 3) := by decide +kernel
theorem dX5_step_90 : decode cX5_step 90 = .ok (.aload_n 0, 1) := by decide +kernel
theorem dX5_step_91 : decode cX5_step 91 = .ok (.iconst 1, 1) := by decide +kernel
theorem dX5_step_92 : decode cX5_step 92 = .ok (.putfield 35, 3) := by decide +kernel
theorem dX5_step_95 : decode cX5_step 95 = .ok (.aload_n 0, 1) := by decide +kernel
theorem dX5_step_96 : decode cX5_step 96 = .ok (.invokevirtual 127, 3) := by decide +kernel
theorem dX5_step_99 : decode cX5_step 99 = .ok (.goto 47, 3) := by decide +kernel
theorem dX5_step_102 : decode cX5_step 102 = .ok (.iload_n 1, 1) := by decide +kernel
theorem dX5_step_103 : decode cX5_step 103 = .ok (.invokestatic 130, 3) := by decide +kernel
theorem dX5_step_106 : decode cX5_step 106 = .ok (.ifCond .eq 15, 3) := by decide +kernel
theorem dX5_step_109 : decode cX5_step 109 = .ok (.aload_n 0, 1) := by decide +kernel
theorem dX5_step_110 : decode cX5_step 110 = .ok (.iconst 2, 1) := by decide +kernel
theorem dX5_step_111 : decode cX5_step 111 = .ok (.putfield 35, 3) := by decide +kernel
theorem dX5_step_114 : decode cX5_step 114 = .ok (.aload_n 0, 1) := by decide +kernel
theorem dX5_step_115 : decode cX5_step 115 = .ok (.invokevirtual 133, 3) := by decide +kernel
theorem dX5_step_118 : decode cX5_step 118 = .ok (.goto 28, 3) := by decide +kernel
theorem dX5_step_121 : decode cX5_step 121 = .ok (.aload_n 0, 1) := by decide +kernel
theorem dX5_step_122 : decode cX5_step 122 = .ok (.iload_n 1, 1) := by decide +kernel
theorem dX5_step_123 : decode cX5_step 123 = .ok (.bipush 59, 2) := by decide +kernel
theorem dX5_step_125 : decode cX5_step 125 = .ok (.if_icmp .ne 7, 3) := by decide +kernel
theorem dX5_step_128 : decode cX5_step 128 = .ok (.iconst 3, 1) := by decide +kernel
theorem dX5_step_129 : decode cX5_step 129 = .ok (.goto 4, 3) := by decide +kernel
theorem dX5_step_132 : decode cX5_step 132 = .ok (.iconst 4, 1) := by decide +kernel
theorem dX5_step_133 : decode cX5_step 133 = .ok (.putfield 35, 3) := by decide +kernel
theorem dX5_step_136 : decode cX5_step 136 = .ok (.aload_n 0, 1) := by decide +kernel
theorem dX5_step_137 : decode cX5_step 137 = .ok (.dup, 1) := by decide +kernel
theorem dX5_step_138 : decode cX5_step 138 = .ok (.getfield 15, 3) := by decide +kernel
theorem dX5_step_141 : decode cX5_step 141 = .ok (.iconst 1, 1) := by decide +kernel
theorem dX5_step_142 : decode cX5_step 142 = .ok (.iadd, 1) := by decide +kernel
theorem dX5_step_143 : decode cX5_step 143 = .ok (.putfield 15, 3) := by decide +kernel
theorem dX5_step_146 : decode cX5_step 146 = .ok (.return_, 1) := by decide +kernel
theorem dX5_passLetters_0 : decode cX5_passLetters 0 = .ok (.aload_n 0, 1) := by decide +kernel
theorem dX5_passLetters_1 : decode cX5_passLetters 1 = .ok (.getfield 15, 3) := by decide +kernel
theorem dX5_passLetters_4 : decode cX5_passLetters 4 = .ok (.aload_n 0, 1) := by decide +kernel
theorem dX5_passLetters_5 : decode cX5_passLetters 5 = .ok (.getfield 9, 3) := by decide +kernel
theorem dX5_passLetters_8 : decode cX5_passLetters 8 = .ok (.getfield 121, 3) := by decide +kernel
theorem dX5_passLetters_11 : decode cX5_passLetters 11 = .ok (.if_icmp .ge 33, 3) := by decide +kernel
theorem dX5_passLetters_14 : decode cX5_passLetters 14 = .ok (.aload_n 0, 1) := by decide +kernel
theorem dX5_passLetters_15 : decode cX5_passLetters 15 = .ok (.getfield 9, 3) := by decide +kernel
theorem dX5_passLetters_18 : decode cX5_passLetters 18 = .ok (.aload_n 0, 1) := by decide +kernel
theorem dX5_passLetters_19 : decode cX5_passLetters 19 = .ok (.getfield 15, 3) := by decide +kernel
theorem dX5_passLetters_22 : decode cX5_passLetters 22 = .ok (.invokevirtual 112, 3) := by decide +kernel
theorem dX5_passLetters_25 : decode cX5_passLetters 25 = .ok (.invokestatic 124, 3) := by decide +kernel
theorem dX5_passLetters_28 : decode cX5_passLetters 28 = .ok (.ifCond .eq 16, 3) := by decide +kernel
theorem dX5_passLetters_31 : decode cX5_passLetters 31 = .ok (.aload_n 0, 1) := by decide +kernel
theorem dX5_passLetters_32 : decode cX5_passLetters 32 = .ok (.dup, 1) := by decide +kernel
theorem dX5_passLetters_33 : decode cX5_passLetters 33 = .ok (.getfield 15, 3) := by decide +kernel
theorem dX5_passLetters_36 : decode cX5_passLetters 36 = .ok (.iconst 1, 1) := by decide +kernel
theorem dX5_passLetters_37 : decode cX5_passLetters 37 = .ok (.iadd, 1) := by decide +kernel
theorem dX5_passLetters_38 : decode cX5_passLetters 38 = .ok (.putfield 15, 3) := by decide +kernel
theorem dX5_passLetters_41 : decode cX5_passLetters 41 = .ok (.goto (-41), 3) := by decide +kernel
theorem dX5_passLetters_44 : decode cX5_passLetters 44 = .ok (.return_, 1) := by decide +kernel
theorem dX5_passDigits_0 : decode cX5_passDigits 0 = .ok (.aload_n 0, 1) := by decide +kernel
theorem dX5_passDigits_1 : decode cX5_passDigits 1 = .ok (.iconst 0, 1) := by decide +kernel
theorem dX5_passDigits_2 : decode cX5_passDigits 2 = .ok (.putfield 75, 3) := by decide +kernel
theorem dX5_passDigits_5 : decode cX5_passDigits 5 = .ok (.aload_n 0, 1) := by decide +kernel
theorem dX5_passDigits_6 : decode cX5_passDigits 6 = .ok (.getfield 15, 3) := by decide +kernel
theorem dX5_passDigits_9 : decode cX5_passDigits 9 = .ok (.aload_n 0, 1) := by decide +kernel
theorem dX5_passDigits_10 : decode cX5_passDigits 10 = .ok (.getfield 9, 3) := by decide +kernel
theorem dX5_passDigits_13 : decode cX5_passDigits 13 = .ok (.getfield 121, 3) := by decide +kernel
theorem dX5_passDigits_16 : decode cX5_passDigits 16 = .ok (.if_icmp .ge 65, 3) := by decide +kernel
theorem dX5_passDigits_19 : decode cX5_passDigits 19 = .ok (.aload_n 0, 1) := by decide +kernel
theorem dX5_passDigits_20 : decode cX5_passDigits 20 = .ok (.getfield 9, 3) := by decide +kernel
theorem dX5_passDigits_23 : decode cX5_passDigits 23 = .ok (.aload_n 0, 1) := by decide +kernel
theorem dX5_passDigits_24 : decode cX5_passDigits 24 = .ok (.getfield 15, 3) := by decide +kernel
theorem dX5_passDigits_27 : decode cX5_passDigits 27 = .ok (.invokevirtual 112, 3) := by decide +kernel
theorem dX5_passDigits_30 : decode cX5_passDigits 30 = .ok (.invokestatic 130, 3) := by decide +kernel
theorem dX5_passDigits_33 : decode cX5_passDigits 33 = .ok (.ifCond .eq 48, 3) := by decide +kernel
theorem dX5_passDigits_36 : decode cX5_passDigits 36 = .ok (.aload_n 0, 1) := by decide +kernel
theorem dX5_passDigits_37 : decode cX5_passDigits 37 = .ok (.sipush 1000, 3) := by decide +kernel
theorem dX5_passDigits_40 : decode cX5_passDigits 40 = .ok (.bipush 10, 2) := by decide +kernel
theorem dX5_passDigits_42 : decode cX5_passDigits 42 = .ok (.aload_n 0, 1) := by decide +kernel
theorem dX5_passDigits_43 : decode cX5_passDigits 43 = .ok (.getfield 75, 3) := by decide +kernel
theorem dX5_passDigits_46 : decode cX5_passDigits 46 = .ok (.imul, 1) := by decide +kernel
theorem dX5_passDigits_47 : decode cX5_passDigits 47 = .ok (.aload_n 0, 1) := by decide +kernel
theorem dX5_passDigits_48 : decode cX5_passDigits 48 = .ok (.getfield 9, 3) := by decide +kernel
theorem dX5_passDigits_51 : decode cX5_passDigits 51 = .ok (.aload_n 0, 1) := by decide +kernel
theorem dX5_passDigits_52 : decode cX5_passDigits 52 = .ok (.getfield 15, 3) := by decide +kernel
theorem dX5_passDigits_55 : decode cX5_passDigits 55 = .ok (.invokevirtual 112, 3) := by decide +kernel
theorem dX5_passDigits_58 : decode cX5_passDigits 58 = .ok (.iadd, 1) := by decide +kernel
theorem dX5_passDigits_59 : decode cX5_passDigits 59 = .ok (.bipush 48, 2) := by decide +kernel
theorem dX5_passDigits_61 : decode cX5_passDigits 61 = .ok (.isub, 1) := by decide +kernel
theorem dX5_passDigits_62 : decode cX5_passDigits 62 = .ok (.invokestatic 136, 3) := by decide +kernel
theorem dX5_passDigits_65 : decode cX5_passDigits 65 = .ok (.putfield 75, 3) := by decide +kernel
theorem dX5_passDigits_68 : decode cX5_passDigits 68 = .ok (.aload_n 0, 1) := by decide +kernel
theorem dX5_passDigits_69 : decode cX5_passDigits 69 = .ok (.dup, 1) := by decide +kernel
theorem dX5_passDigits_70 : decode cX5_passDigits 70 = .ok (.getfield 15, 3) := by decide +kernel
theorem dX5_passDigits_73 : decode cX5_passDigits 73 = .ok (.iconst 1, 1) := by decide +kernel
theorem dX5_passDigits_74 : decode cX5_passDigits 74 = .ok (.iadd, 1) := by decide +kernel
theorem dX5_passDigits_75 : decode cX5_passDigits 75 = .ok (.putfield 15, 3) := by decide +kernel
theorem dX5_passDigits_78 : decode cX5_passDigits 78 = .ok (.goto (-73), 3) := by decide +kernel
theorem dX5_passDigits_81 : decode cX5_passDigits 81 = .ok (.return_, 1) := by decide +kernel
theorem dX5_isLetter_0 : decode cX5_isLetter 0 = .ok (.iload_n 0, 1) := by decide +kernel
theorem dX5_isLetter_1 : decode cX5_isLetter 1 = .ok (.bipush 97, 2) := by decide +kernel
theorem dX5_isLetter_3 : decode cX5_isLetter 3 = .ok (.if_icmp .lt 13, 3) := by decide +kernel
theorem dX5_isLetter_6 : decode cX5_isLetter 6 = .ok (.iload_n 0, 1) := by decide +kernel
theorem dX5_isLetter_7 : decode cX5_isLetter 7 = .ok (.bipush 122, 2) := by decide +kernel
theorem dX5_isLetter_9 : decode cX5_isLetter 9 = .ok (.if_icmp .gt 7, 3) := by decide +kernel
theorem dX5_isLetter_12 : decode cX5_isLetter 12 = .ok (.iconst 1, 1) := by decide +kernel
theorem dX5_isLetter_13 : decode cX5_isLetter 13 = .ok (.goto 4, 3) := by decide +kernel
theorem dX5_isLetter_16 : decode cX5_isLetter 16 = .ok (.iconst 0, 1) := by decide +kernel
theorem dX5_isLetter_17 : decode cX5_isLetter 17 = .ok (.ireturn, 1) := by decide +kernel
theorem dX5_isDigit_0 : decode cX5_isDigit 0 = .ok (.iload_n 0, 1) := by decide +kernel
theorem dX5_isDigit_1 : decode cX5_isDigit 1 = .ok (.bipush 48, 2) := by decide +kernel
theorem dX5_isDigit_3 : decode cX5_isDigit 3 = .ok (.if_icmp .lt 13, 3) := by decide +kernel
theorem dX5_isDigit_6 : decode cX5_isDigit 6 = .ok (.iload_n 0, 1) := by decide +kernel
theorem dX5_isDigit_7 : decode cX5_isDigit 7 = .ok (.bipush 57, 2) := by decide +kernel
theorem dX5_isDigit_9 : decode cX5_isDigit 9 = .ok (.if_icmp .gt 7, 3) := by decide +kernel
theorem dX5_isDigit_12 : decode cX5_isDigit 12 = .ok (.iconst 1, 1) := by decide +kernel
theorem dX5_isDigit_13 : decode cX5_isDigit 13 = .ok (.goto 4, 3) := by decide +kernel
theorem dX5_isDigit_16 : decode cX5_isDigit 16 = .ok (.iconst 0, 1) := by decide +kernel
theorem dX5_isDigit_17 : decode cX5_isDigit 17 = .ok (.ireturn, 1) := by decide +kernel
theorem dX6_isUnder_0 : decode cX6_isUnder 0 = .ok (.iload_n 0, 1) := by decide +kernel
theorem dX6_isUnder_1 : decode cX6_isUnder 1 = .ok (.istore_n 2, 1) := by decide +kernel
theorem dX6_isUnder_2 : decode cX6_isUnder 2 = .ok (.iconst 0, 1) := by decide +kernel
theorem dX6_isUnder_3 : decode cX6_isUnder 3 = .ok (.istore_n 3, 1) := by decide +kernel
theorem dX6_isUnder_4 : decode cX6_isUnder 4 = .ok (.iload_n 3, 1) := by decide +kernel
theorem dX6_isUnder_5 : decode cX6_isUnder 5 = .ok (.bipush 6, 2) := by decide +kernel
theorem dX6_isUnder_7 : decode cX6_isUnder 7 = .ok (.if_icmp .ge 26, 3) := by decide +kernel
theorem dX6_isUnder_10 : decode cX6_isUnder 10 = .ok (.iload_n 2, 1) := by decide +kernel
theorem dX6_isUnder_11 : decode cX6_isUnder 11 = .ok (.ifCond .lt 22, 3) := by decide +kernel
theorem dX6_isUnder_14 : decode cX6_isUnder 14 = .ok (.iload_n 2, 1) := by decide +kernel
theorem dX6_isUnder_15 : decode cX6_isUnder 15 = .ok (.iload_n 1, 1) := by decide +kernel
theorem dX6_isUnder_16 : decode cX6_isUnder 16 = .ok (.if_icmp .ne 5, 3) := by decide +kernel
theorem dX6_isUnder_19 : decode cX6_isUnder 19 = .ok (.iconst 1, 1) := by decide +kernel
theorem dX6_isUnder_20 : decode cX6_isUnder 20 = .ok (.ireturn, 1) := by decide +kernel
theorem dX6_isUnder_21 : decode cX6_isUnder 21 = .ok (.getstatic 9, 3) := by decide +kernel
theorem dX6_isUnder_24 : decode cX6_isUnder 24 = .ok (.iload_n 2, 1) := by decide +kernel
theorem dX6_isUnder_25 : decode cX6_isUnder 25 = .ok (.iaload, 1) := by decide +kernel
theorem dX6_isUnder_26 : decode cX6_isUnder 26 = .ok (.istore_n 2, 1) := by decide +kernel
theorem dX6_isUnder_27 : decode cX6_isUnder 27 = .ok (.iinc 3 1, 3) := by decide +kernel
theorem dX6_isUnder_30 : decode cX6_isUnder 30 = .ok (.goto (-26), 3) := by decide +kernel
theorem dX6_isUnder_33 : decode cX6_isUnder 33 = .ok (.iconst 0, 1) := by decide +kernel
theorem dX6_isUnder_34 : decode cX6_isUnder 34 = .ok (.ireturn, 1) := by decide +kernel
theorem dX6_earned_0 : decode cX6_earned 0 = .ok (.iload_n 1, 1) := by decide +kernel
theorem dX6_earned_1 : decode cX6_earned 1 = .ok (.iload_n 2, 1) := by decide +kernel
theorem dX6_earned_2 : decode cX6_earned 2 = .ok (.iadd, 1) := by decide +kernel
theorem dX6_earned_3 : decode cX6_earned 3 = .ok (.iconst 2, 1) := by decide +kernel
theorem dX6_earned_4 : decode cX6_earned 4 = .ok (.idiv, 1) := by decide +kernel
theorem dX6_earned_5 : decode cX6_earned 5 = .ok (.istore 5, 2) := by decide +kernel
theorem dX6_earned_7 : decode cX6_earned 7 = .ok (.iload 5, 2) := by decide +kernel
theorem dX6_earned_9 : decode cX6_earned 9 = .ok (.iconst 2, 1) := by decide +kernel
theorem dX6_earned_10 : decode cX6_earned 10 = .ok (.iadd, 1) := by decide +kernel
theorem dX6_earned_11 : decode cX6_earned 11 = .ok (.istore 6, 2) := by decide +kernel
theorem dX6_earned_13 : decode cX6_earned 13 = .ok (.iload_n 3, 1) := by decide +kernel
theorem dX6_earned_14 : decode cX6_earned 14 = .ok (.bipush 50, 2) := by decide +kernel
theorem dX6_earned_16 : decode cX6_earned 16 = .ok (.if_icmp .ge 10, 3) := by decide +kernel
theorem dX6_earned_19 : decode cX6_earned 19 = .ok (.iload 5, 2) := by decide +kernel
theorem dX6_earned_21 : decode cX6_earned 21 = .ok (.iconst 4, 1) := by decide +kernel
theorem dX6_earned_22 : decode cX6_earned 22 = .ok (.iadd, 1) := by decide +kernel
theorem dX6_earned_23 : decode cX6_earned 23 = .ok (.goto 5, 3) := by decide +kernel
theorem dX6_earned_26 : decode cX6_earned 26 = .ok (.iload 5, 2) := by decide +kernel
theorem dX6_earned_28 : decode cX6_earned 28 = .ok (.istore 7, 2) := by decide +kernel
theorem dX6_earned_30 : decode cX6_earned 30 = .ok (.iload_n 0, 1) := by decide +kernel
theorem dX6_earned_31 : decode cX6_earned 31 = .ok (.tableswitch 58 1 5 #[33, 36, 39, 41, 53], 33) := by decide +kernel
theorem dX6_earned_64 : decode cX6_earned 64 = .ok (.iload 6, 2) := by decide +kernel
theorem dX6_earned_66 : decode cX6_earned 66 = .ok (.ireturn, 1) := by decide +kernel
theorem dX6_earned_67 : decode cX6_earned 67 = .ok (.iload 7, 2) := by decide +kernel
theorem dX6_earned_69 : decode cX6_earned 69 = .ok (.ireturn, 1) := by decide +kernel
theorem dX6_earned_70 : decode cX6_earned 70 = .ok (.iconst 1, 1) := by decide +kernel
theorem dX6_earned_71 : decode cX6_earned 71 = .ok (.ireturn, 1) := by decide +kernel
theorem dX6_earned_72 : decode cX6_earned 72 = .ok (.iconst 0, 1) := by decide +kernel
theorem dX6_earned_73 : decode cX6_earned 73 = .ok (.iload 6, 2) := by decide +kernel
theorem dX6_earned_75 : decode cX6_earned 75 = .ok (.iload 4, 2) := by decide +kernel
theorem dX6_earned_77 : decode cX6_earned 77 = .ok (.iconst 4, 1) := by decide +kernel
theorem dX6_earned_78 : decode cX6_earned 78 = .ok (.idiv, 1) := by decide +kernel
theorem dX6_earned_79 : decode cX6_earned 79 = .ok (.isub, 1) := by decide +kernel
theorem dX6_earned_80 : decode cX6_earned 80 = .ok (.invokestatic 15, 3) := by decide +kernel
theorem dX6_earned_83 : decode cX6_earned 83 = .ok (.ireturn, 1) := by decide +kernel
theorem dX6_earned_84 : decode cX6_earned 84 = .ok (.iconst 2, 1) := by decide +kernel
theorem dX6_earned_85 : decode cX6_earned 85 = .ok (.iload 7, 2) := by decide +kernel
theorem dX6_earned_87 : decode cX6_earned 87 = .ok (.imul, 1) := by decide +kernel
theorem dX6_earned_88 : decode cX6_earned 88 = .ok (.ireturn, 1) := by decide +kernel
theorem dX6_earned_89 : decode cX6_earned 89 = .ok (.iload 5, 2) := by decide +kernel
theorem dX6_earned_91 : decode cX6_earned 91 = .ok (.ireturn, 1) := by decide +kernel
theorem dX6_said_0 : decode cX6_said 0 = .ok (.iload_n 1, 1) := by decide +kernel
theorem dX6_said_1 : decode cX6_said 1 = .ok (.iload_n 2, 1) := by decide +kernel
theorem dX6_said_2 : decode cX6_said 2 = .ok (.if_icmp .lt 7, 3) := by decide +kernel
theorem dX6_said_5 : decode cX6_said 5 = .ok (.iconst 1, 1) := by decide +kernel
theorem dX6_said_6 : decode cX6_said 6 = .ok (.goto 4, 3) := by decide +kernel
theorem dX6_said_9 : decode cX6_said 9 = .ok (.iconst (-1), 1) := by decide +kernel
theorem dX6_said_10 : decode cX6_said 10 = .ok (.istore_n 3, 1) := by decide +kernel
theorem dX6_said_11 : decode cX6_said 11 = .ok (.iload_n 0, 1) := by decide +kernel
theorem dX6_said_12 : decode cX6_said 12 = .ok (.tableswitch 43 2 5 #[32, 34, 36, 40], 32) := by decide +kernel
theorem dX6_said_44 : decode cX6_said 44 = .ok (.iconst 3, 1) := by decide +kernel
theorem dX6_said_45 : decode cX6_said 45 = .ok (.ireturn, 1) := by decide +kernel
theorem dX6_said_46 : decode cX6_said 46 = .ok (.iconst 0, 1) := by decide +kernel
theorem dX6_said_47 : decode cX6_said 47 = .ok (.ireturn, 1) := by decide +kernel
theorem dX6_said_48 : decode cX6_said 48 = .ok (.iload_n 3, 1) := by decide +kernel
theorem dX6_said_49 : decode cX6_said 49 = .ok (.iconst 1, 1) := by decide +kernel
theorem dX6_said_50 : decode cX6_said 50 = .ok (.iadd, 1) := by decide +kernel
theorem dX6_said_51 : decode cX6_said 51 = .ok (.ireturn, 1) := by decide +kernel
theorem dX6_said_52 : decode cX6_said 52 = .ok (.bipush (-2), 2) := by decide +kernel
theorem dX6_said_54 : decode cX6_said 54 = .ok (.ireturn, 1) := by decide +kernel
theorem dX6_said_55 : decode cX6_said 55 = .ok (.iload_n 3, 1) := by decide +kernel
theorem dX6_said_56 : decode cX6_said 56 = .ok (.ireturn, 1) := by decide +kernel
theorem dX6_heard_0 : decode cX6_heard 0 = .ok (.iload_n 1, 1) := by decide +kernel
theorem dX6_heard_1 : decode cX6_heard 1 = .ok (.bipush 20, 2) := by decide +kernel
theorem dX6_heard_3 : decode cX6_heard 3 = .ok (.if_icmp .ge 7, 3) := by decide +kernel
theorem dX6_heard_6 : decode cX6_heard 6 = .ok (.iconst 2, 1) := by decide +kernel
theorem dX6_heard_7 : decode cX6_heard 7 = .ok (.goto 4, 3) := by decide +kernel
theorem dX6_heard_10 : decode cX6_heard 10 = .ok (.iconst 0, 1) := by decide +kernel
theorem dX6_heard_11 : decode cX6_heard 11 = .ok (.istore_n 2, 1) := by decide +kernel
theorem dX6_heard_12 : decode cX6_heard 12 = .ok (.iload_n 0, 1) := by decide +kernel
theorem dX6_heard_13 : decode cX6_heard 13 = .ok (.tableswitch 41 2 5 #[31, 35, 37, 31], 31) := by decide +kernel
theorem dX6_heard_44 : decode cX6_heard 44 = .ok (.iconst 2, 1) := by decide +kernel
theorem dX6_heard_45 : decode cX6_heard 45 = .ok (.iload_n 2, 1) := by decide +kernel
theorem dX6_heard_46 : decode cX6_heard 46 = .ok (.imul, 1) := by decide +kernel
theorem dX6_heard_47 : decode cX6_heard 47 = .ok (.ireturn, 1) := by decide +kernel
theorem dX6_heard_48 : decode cX6_heard 48 = .ok (.iconst 0, 1) := by decide +kernel
theorem dX6_heard_49 : decode cX6_heard 49 = .ok (.ireturn, 1) := by decide +kernel
theorem dX6_heard_50 : decode cX6_heard 50 = .ok (.iload_n 2, 1) := by decide +kernel
theorem dX6_heard_51 : decode cX6_heard 51 = .ok (.iconst 1, 1) := by decide +kernel
theorem dX6_heard_52 : decode cX6_heard 52 = .ok (.iadd, 1) := by decide +kernel
theorem dX6_heard_53 : decode cX6_heard 53 = .ok (.ireturn, 1) := by decide +kernel
theorem dX6_heard_54 : decode cX6_heard 54 = .ok (.iload_n 2, 1) := by decide +kernel
theorem dX6_heard_55 : decode cX6_heard 55 = .ok (.ireturn, 1) := by decide +kernel
theorem dJ6_bitCount_0f7a4_0 : decode cJ6_bitCount_0f7a4 0 = .ok (.iload_n 0, 1) := by decide +kernel
theorem dJ6_bitCount_0f7a4_1 : decode cJ6_bitCount_0f7a4 1 = .ok (.iload_n 0, 1) := by decide +kernel
theorem dJ6_bitCount_0f7a4_2 : decode cJ6_bitCount_0f7a4 2 = .ok (.iconst 1, 1) := by decide +kernel
theorem dJ6_bitCount_0f7a4_3 : decode cJ6_bitCount_0f7a4 3 = .ok (.iushr, 1) := by decide +kernel
theorem dJ6_bitCount_0f7a4_4 : decode cJ6_bitCount_0f7a4 4 = .ok (.ldc_w 265, 3) := by decide +kernel
theorem dJ6_bitCount_0f7a4_7 : decode cJ6_bitCount_0f7a4 7 = .ok (.iand, 1) := by decide +kernel
theorem dJ6_bitCount_0f7a4_8 : decode cJ6_bitCount_0f7a4 8 = .ok (.isub, 1) := by decide +kernel
theorem dJ6_bitCount_0f7a4_9 : decode cJ6_bitCount_0f7a4 9 = .ok (.istore_n 0, 1) := by decide +kernel
theorem dJ6_bitCount_0f7a4_10 : decode cJ6_bitCount_0f7a4 10 = .ok (.iload_n 0, 1) := by decide +kernel
theorem dJ6_bitCount_0f7a4_11 : decode cJ6_bitCount_0f7a4 11 = .ok (.ldc_w 266, 3) := by decide +kernel
theorem dJ6_bitCount_0f7a4_14 : decode cJ6_bitCount_0f7a4 14 = .ok (.iand, 1) := by decide +kernel
theorem dJ6_bitCount_0f7a4_15 : decode cJ6_bitCount_0f7a4 15 = .ok (.iload_n 0, 1) := by decide +kernel
theorem dJ6_bitCount_0f7a4_16 : decode cJ6_bitCount_0f7a4 16 = .ok (.iconst 2, 1) := by decide +kernel
theorem dJ6_bitCount_0f7a4_17 : decode cJ6_bitCount_0f7a4 17 = .ok (.iushr, 1) := by decide +kernel
theorem dJ6_bitCount_0f7a4_18 : decode cJ6_bitCount_0f7a4 18 = .ok (.ldc_w 266, 3) := by decide +kernel
theorem dJ6_bitCount_0f7a4_21 : decode cJ6_bitCount_0f7a4 21 = .ok (.iand, 1) := by decide +kernel
theorem dJ6_bitCount_0f7a4_22 : decode cJ6_bitCount_0f7a4 22 = .ok (.iadd, 1) := by decide +kernel
theorem dJ6_bitCount_0f7a4_23 : decode cJ6_bitCount_0f7a4 23 = .ok (.istore_n 0, 1) := by decide +kernel
theorem dJ6_bitCount_0f7a4_24 : decode cJ6_bitCount_0f7a4 24 = .ok (.iload_n 0, 1) := by decide +kernel
theorem dJ6_bitCount_0f7a4_25 : decode cJ6_bitCount_0f7a4 25 = .ok (.iload_n 0, 1) := by decide +kernel
theorem dJ6_bitCount_0f7a4_26 : decode cJ6_bitCount_0f7a4 26 = .ok (.iconst 4, 1) := by decide +kernel
theorem dJ6_bitCount_0f7a4_27 : decode cJ6_bitCount_0f7a4 27 = .ok (.iushr, 1) := by decide +kernel
theorem dJ6_bitCount_0f7a4_28 : decode cJ6_bitCount_0f7a4 28 = .ok (.iadd, 1) := by decide +kernel
theorem dJ6_bitCount_0f7a4_29 : decode cJ6_bitCount_0f7a4 29 = .ok (.ldc_w 267, 3) := by decide +kernel
theorem dJ6_bitCount_0f7a4_32 : decode cJ6_bitCount_0f7a4 32 = .ok (.iand, 1) := by decide +kernel
theorem dJ6_bitCount_0f7a4_33 : decode cJ6_bitCount_0f7a4 33 = .ok (.istore_n 0, 1) := by decide +kernel
theorem dJ6_bitCount_0f7a4_34 : decode cJ6_bitCount_0f7a4 34 = .ok (.iload_n 0, 1) := by decide +kernel
theorem dJ6_bitCount_0f7a4_35 : decode cJ6_bitCount_0f7a4 35 = .ok (.iload_n 0, 1) := by decide +kernel
theorem dJ6_bitCount_0f7a4_36 : decode cJ6_bitCount_0f7a4 36 = .ok (.bipush 8, 2) := by decide +kernel
theorem dJ6_bitCount_0f7a4_38 : decode cJ6_bitCount_0f7a4 38 = .ok (.iushr, 1) := by decide +kernel
theorem dJ6_bitCount_0f7a4_39 : decode cJ6_bitCount_0f7a4 39 = .ok (.iadd, 1) := by decide +kernel
theorem dJ6_bitCount_0f7a4_40 : decode cJ6_bitCount_0f7a4 40 = .ok (.istore_n 0, 1) := by decide +kernel
theorem dJ6_bitCount_0f7a4_41 : decode cJ6_bitCount_0f7a4 41 = .ok (.iload_n 0, 1) := by decide +kernel
theorem dJ6_bitCount_0f7a4_42 : decode cJ6_bitCount_0f7a4 42 = .ok (.iload_n 0, 1) := by decide +kernel
theorem dJ6_bitCount_0f7a4_43 : decode cJ6_bitCount_0f7a4 43 = .ok (.bipush 16, 2) := by decide +kernel
theorem dJ6_bitCount_0f7a4_45 : decode cJ6_bitCount_0f7a4 45 = .ok (.iushr, 1) := by decide +kernel
theorem dJ6_bitCount_0f7a4_46 : decode cJ6_bitCount_0f7a4 46 = .ok (.iadd, 1) := by decide +kernel
theorem dJ6_bitCount_0f7a4_47 : decode cJ6_bitCount_0f7a4 47 = .ok (.istore_n 0, 1) := by decide +kernel
theorem dJ6_bitCount_0f7a4_48 : decode cJ6_bitCount_0f7a4 48 = .ok (.iload_n 0, 1) := by decide +kernel
theorem dJ6_bitCount_0f7a4_49 : decode cJ6_bitCount_0f7a4 49 = .ok (.bipush 63, 2) := by decide +kernel
theorem dJ6_bitCount_0f7a4_51 : decode cJ6_bitCount_0f7a4 51 = .ok (.iand, 1) := by decide +kernel
theorem dJ6_bitCount_0f7a4_52 : decode cJ6_bitCount_0f7a4 52 = .ok (.ireturn, 1) := by decide +kernel
theorem dJ9_max_7cf53_0 : decode cJ9_max_7cf53 0 = .ok (.iload_n 0, 1) := by decide +kernel
theorem dJ9_max_7cf53_1 : decode cJ9_max_7cf53 1 = .ok (.iload_n 1, 1) := by decide +kernel
theorem dJ9_max_7cf53_2 : decode cJ9_max_7cf53 2 = .ok (.if_icmp .lt 7, 3) := by decide +kernel
theorem dJ9_max_7cf53_5 : decode cJ9_max_7cf53 5 = .ok (.iload_n 0, 1) := by decide +kernel
theorem dJ9_max_7cf53_6 : decode cJ9_max_7cf53 6 = .ok (.goto 4, 3) := by decide +kernel
theorem dJ9_max_7cf53_9 : decode cJ9_max_7cf53 9 = .ok (.iload_n 1, 1) := by decide +kernel
theorem dJ9_max_7cf53_10 : decode cJ9_max_7cf53 10 = .ok (.ireturn, 1) := by decide +kernel
theorem dJ9_min_7cf53_0 : decode cJ9_min_7cf53 0 = .ok (.iload_n 0, 1) := by decide +kernel
theorem dJ9_min_7cf53_1 : decode cJ9_min_7cf53 1 = .ok (.iload_n 1, 1) := by decide +kernel
theorem dJ9_min_7cf53_2 : decode cJ9_min_7cf53 2 = .ok (.if_icmp .gt 7, 3) := by decide +kernel
theorem dJ9_min_7cf53_5 : decode cJ9_min_7cf53 5 = .ok (.iload_n 0, 1) := by decide +kernel
theorem dJ9_min_7cf53_6 : decode cJ9_min_7cf53 6 = .ok (.goto 4, 3) := by decide +kernel
theorem dJ9_min_7cf53_9 : decode cJ9_min_7cf53 9 = .ok (.iload_n 1, 1) := by decide +kernel
theorem dJ9_min_7cf53_10 : decode cJ9_min_7cf53 10 = .ok (.ireturn, 1) := by decide +kernel
theorem dJ0_length_8abf5_0 : decode cJ0_length_8abf5 0 = .ok (.aload_n 0, 1) := by decide +kernel
theorem dJ0_length_8abf5_1 : decode cJ0_length_8abf5 1 = .ok (.getfield 9, 3) := by decide +kernel
theorem dJ0_length_8abf5_4 : decode cJ0_length_8abf5 4 = .ok (.arraylength, 1) := by decide +kernel
theorem dJ0_length_8abf5_5 : decode cJ0_length_8abf5 5 = .ok (.aload_n 0, 1) := by decide +kernel
theorem dJ0_length_8abf5_6 : decode cJ0_length_8abf5 6 = .ok (.invokevirtual 335, 3) := by decide +kernel
theorem dJ0_length_8abf5_9 : decode cJ0_length_8abf5 9 = .ok (.ishr, 1) := by decide +kernel
theorem dJ0_length_8abf5_10 : decode cJ0_length_8abf5 10 = .ok (.ireturn, 1) := by decide +kernel
theorem dJ0_charAt_5068e_0 : decode cJ0_charAt_5068e 0 = .ok (.aload_n 0, 1) := by decide +kernel
theorem dJ0_charAt_5068e_1 : decode cJ0_charAt_5068e 1 = .ok (.invokevirtual 492, 3) := by decide +kernel
theorem dJ0_charAt_5068e_4 : decode cJ0_charAt_5068e 4 = .ok (.ifCond .eq 12, 3) := by decide +kernel
theorem dJ0_charAt_5068e_7 : decode cJ0_charAt_5068e 7 = .ok (.aload_n 0, 1) := by decide +kernel
theorem dJ0_charAt_5068e_8 : decode cJ0_charAt_5068e 8 = .ok (.getfield 9, 3) := by decide +kernel
theorem dJ0_charAt_5068e_11 : decode cJ0_charAt_5068e 11 = .ok (.iload_n 1, 1) := by decide +kernel
theorem dJ0_charAt_5068e_12 : decode cJ0_charAt_5068e 12 = .ok (.invokestatic 495, 3) := by decide +kernel
theorem dJ0_charAt_5068e_15 : decode cJ0_charAt_5068e 15 = .ok (.ireturn, 1) := by decide +kernel
theorem dJ0_charAt_5068e_16 : decode cJ0_charAt_5068e 16 = .ok (.aload_n 0, 1) := by decide +kernel
theorem dJ0_charAt_5068e_17 : decode cJ0_charAt_5068e 17 = .ok (.getfield 9, 3) := by decide +kernel
theorem dJ0_charAt_5068e_20 : decode cJ0_charAt_5068e 20 = .ok (.iload_n 1, 1) := by decide +kernel
theorem dJ0_charAt_5068e_21 : decode cJ0_charAt_5068e 21 = .ok (.invokestatic 498, 3) := by decide +kernel
theorem dJ0_charAt_5068e_24 : decode cJ0_charAt_5068e 24 = .ok (.ireturn, 1) := by decide +kernel
theorem dJ0_coder_7d493_0 : decode cJ0_coder_7d493 0 = .ok (.getstatic 38, 3) := by decide +kernel
theorem dJ0_coder_7d493_3 : decode cJ0_coder_7d493 3 = .ok (.ifCond .eq 10, 3) := by decide +kernel
theorem dJ0_coder_7d493_6 : decode cJ0_coder_7d493 6 = .ok (.aload_n 0, 1) := by decide +kernel
theorem dJ0_coder_7d493_7 : decode cJ0_coder_7d493 7 = .ok (.getfield 15, 3) := by decide +kernel
theorem dJ0_coder_7d493_10 : decode cJ0_coder_7d493 10 = .ok (.goto 4, 3) := by decide +kernel
theorem dJ0_coder_7d493_13 : decode cJ0_coder_7d493 13 = .ok (.iconst 1, 1) := by decide +kernel
theorem dJ0_coder_7d493_14 : decode cJ0_coder_7d493 14 = .ok (.ireturn, 1) := by decide +kernel
theorem dJ0_isLatin1_aae02_0 : decode cJ0_isLatin1_aae02 0 = .ok (.getstatic 38, 3) := by decide +kernel
theorem dJ0_isLatin1_aae02_3 : decode cJ0_isLatin1_aae02 3 = .ok (.ifCond .eq 14, 3) := by decide +kernel
theorem dJ0_isLatin1_aae02_6 : decode cJ0_isLatin1_aae02 6 = .ok (.aload_n 0, 1) := by decide +kernel
theorem dJ0_isLatin1_aae02_7 : decode cJ0_isLatin1_aae02 7 = .ok (.getfield 15, 3) := by decide +kernel
theorem dJ0_isLatin1_aae02_10 : decode cJ0_isLatin1_aae02 10 = .ok (.ifCond .ne 7, 3) := by decide +kernel
theorem dJ0_isLatin1_aae02_13 : decode cJ0_isLatin1_aae02 13 = .ok (.iconst 1, 1) := by decide +kernel
theorem dJ0_isLatin1_aae02_14 : decode cJ0_isLatin1_aae02 14 = .ok (.goto 4, 3) := by decide +kernel
theorem dJ0_isLatin1_aae02_17 : decode cJ0_isLatin1_aae02 17 = .ok (.iconst 0, 1) := by decide +kernel
theorem dJ0_isLatin1_aae02_18 : decode cJ0_isLatin1_aae02 18 = .ok (.ireturn, 1) := by decide +kernel
theorem dJ0_checkIndex_df160_0 : decode cJ0_checkIndex_df160 0 = .ok (.iload_n 0, 1) := by decide +kernel
theorem dJ0_checkIndex_df160_1 : decode cJ0_checkIndex_df160 1 = .ok (.iload_n 1, 1) := by decide +kernel
theorem dJ0_checkIndex_df160_2 : decode cJ0_checkIndex_df160 2 = .ok (.getstatic 1053, 3) := by decide +kernel
theorem dJ0_checkIndex_df160_5 : decode cJ0_checkIndex_df160 5 = .ok (.invokestatic 1059, 3) := by decide +kernel
theorem dJ0_checkIndex_df160_8 : decode cJ0_checkIndex_df160 8 = .ok (.pop, 1) := by decide +kernel
theorem dJ0_checkIndex_df160_9 : decode cJ0_checkIndex_df160 9 = .ok (.return_, 1) := by decide +kernel
theorem dJ1_charAt_3b067_0 : decode cJ1_charAt_3b067 0 = .ok (.iload_n 1, 1) := by decide +kernel
theorem dJ1_charAt_3b067_1 : decode cJ1_charAt_3b067 1 = .ok (.aload_n 0, 1) := by decide +kernel
theorem dJ1_charAt_3b067_2 : decode cJ1_charAt_3b067 2 = .ok (.arraylength, 1) := by decide +kernel
theorem dJ1_charAt_3b067_3 : decode cJ1_charAt_3b067 3 = .ok (.invokestatic 9, 3) := by decide +kernel
theorem dJ1_charAt_3b067_6 : decode cJ1_charAt_3b067 6 = .ok (.aload_n 0, 1) := by decide +kernel
theorem dJ1_charAt_3b067_7 : decode cJ1_charAt_3b067 7 = .ok (.iload_n 1, 1) := by decide +kernel
theorem dJ1_charAt_3b067_8 : decode cJ1_charAt_3b067 8 = .ok (.baload, 1) := by decide +kernel
theorem dJ1_charAt_3b067_9 : decode cJ1_charAt_3b067 9 = .ok (.sipush 255, 3) := by decide +kernel
theorem dJ1_charAt_3b067_12 : decode cJ1_charAt_3b067 12 = .ok (.iand, 1) := by decide +kernel
theorem dJ1_charAt_3b067_13 : decode cJ1_charAt_3b067 13 = .ok (.i2c, 1) := by decide +kernel
theorem dJ1_charAt_3b067_14 : decode cJ1_charAt_3b067 14 = .ok (.ireturn, 1) := by decide +kernel
theorem dJ2_getChar_3b067_0 : decode cJ2_getChar_3b067 0 = .ok (.getstatic 44, 3) := by decide +kernel
theorem dJ2_getChar_3b067_3 : decode cJ2_getChar_3b067 3 = .ok (.ifCond .ne 25, 3) := by decide +kernel
theorem dJ2_getChar_3b067_6 : decode cJ2_getChar_3b067 6 = .ok (.iload_n 1, 1) := by decide +kernel
theorem dJ2_getChar_3b067_7 : decode cJ2_getChar_3b067 7 = .ok (.ifCond .lt 11, 3) := by decide +kernel
theorem dJ2_getChar_3b067_10 : decode cJ2_getChar_3b067 10 = .ok (.iload_n 1, 1) := by decide +kernel
theorem dJ2_getChar_3b067_11 : decode cJ2_getChar_3b067 11 = .ok (.aload_n 0, 1) := by decide +kernel
theorem dJ2_getChar_3b067_12 : decode cJ2_getChar_3b067 12 = .ok (.invokestatic 48, 3) := by decide +kernel
theorem dJ2_getChar_3b067_15 : decode cJ2_getChar_3b067 15 = .ok (.if_icmp .lt 13, 3) := by decide +kernel
theorem dJ2_getChar_3b067_18 : decode cJ2_getChar_3b067 18 = .ok (.new 52, 3) := by decide +kernel
theorem dJ2_getChar_3b067_21 : decode cJ2_getChar_3b067 21 = .ok (.dup, 1) := by decide +kernel
theorem dJ2_getChar_3b067_22 : decode cJ2_getChar_3b067 22 = .ok (.ldc 54, 2) := by decide +kernel
theorem dJ2_getChar_3b067_24 : decode cJ2_getChar_3b067 24 = .ok (.invokespecial 56, 3) := by decide +kernel
theorem dJ2_getChar_3b067_27 : decode cJ2_getChar_3b067 27 = .ok (.athrow, 1) := by decide +kernel
theorem dJ2_getChar_3b067_28 : decode cJ2_getChar_3b067 28 = .ok (.iload_n 1, 1) := by decide +kernel
theorem dJ2_getChar_3b067_29 : decode cJ2_getChar_3b067 29 = .ok (.iconst 1, 1) := by decide +kernel
theorem dJ2_getChar_3b067_30 : decode cJ2_getChar_3b067 30 = .ok (.ishl, 1) := by decide +kernel
theorem dJ2_getChar_3b067_31 : decode cJ2_getChar_3b067 31 = .ok (.istore_n 1, 1) := by decide +kernel
theorem dJ2_getChar_3b067_32 : decode cJ2_getChar_3b067 32 = .ok (.aload_n 0, 1) := by decide +kernel
theorem dJ2_getChar_3b067_33 : decode cJ2_getChar_3b067 33 = .ok (.iload_n 1, 1) := by decide +kernel
theorem dJ2_getChar_3b067_34 : decode cJ2_getChar_3b067 34 = .ok (.iinc 1 1, 3) := by decide +kernel
theorem dJ2_getChar_3b067_37 : decode cJ2_getChar_3b067 37 = .ok (.baload, 1) := by decide +kernel
theorem dJ2_getChar_3b067_38 : decode cJ2_getChar_3b067 38 = .ok (.sipush 255, 3) := by decide +kernel
theorem dJ2_getChar_3b067_41 : decode cJ2_getChar_3b067 41 = .ok (.iand, 1) := by decide +kernel
theorem dJ2_getChar_3b067_42 : decode cJ2_getChar_3b067 42 = .ok (.getstatic 59, 3) := by decide +kernel
theorem dJ2_getChar_3b067_45 : decode cJ2_getChar_3b067 45 = .ok (.ishl, 1) := by decide +kernel
theorem dJ2_getChar_3b067_46 : decode cJ2_getChar_3b067 46 = .ok (.aload_n 0, 1) := by decide +kernel
theorem dJ2_getChar_3b067_47 : decode cJ2_getChar_3b067 47 = .ok (.iload_n 1, 1) := by decide +kernel
theorem dJ2_getChar_3b067_48 : decode cJ2_getChar_3b067 48 = .ok (.baload, 1) := by decide +kernel
theorem dJ2_getChar_3b067_49 : decode cJ2_getChar_3b067 49 = .ok (.sipush 255, 3) := by decide +kernel
theorem dJ2_getChar_3b067_52 : decode cJ2_getChar_3b067 52 = .ok (.iand, 1) := by decide +kernel
theorem dJ2_getChar_3b067_53 : decode cJ2_getChar_3b067 53 = .ok (.getstatic 63, 3) := by decide +kernel
theorem dJ2_getChar_3b067_56 : decode cJ2_getChar_3b067 56 = .ok (.ishl, 1) := by decide +kernel
theorem dJ2_getChar_3b067_57 : decode cJ2_getChar_3b067 57 = .ok (.ior, 1) := by decide +kernel
theorem dJ2_getChar_3b067_58 : decode cJ2_getChar_3b067 58 = .ok (.i2c, 1) := by decide +kernel
theorem dJ2_getChar_3b067_59 : decode cJ2_getChar_3b067 59 = .ok (.ireturn, 1) := by decide +kernel
theorem dJ2_length_9d52b_0 : decode cJ2_length_9d52b 0 = .ok (.aload_n 0, 1) := by decide +kernel
theorem dJ2_length_9d52b_1 : decode cJ2_length_9d52b 1 = .ok (.arraylength, 1) := by decide +kernel
theorem dJ2_length_9d52b_2 : decode cJ2_length_9d52b 2 = .ok (.iconst 1, 1) := by decide +kernel
theorem dJ2_length_9d52b_3 : decode cJ2_length_9d52b 3 = .ok (.ishr, 1) := by decide +kernel
theorem dJ2_length_9d52b_4 : decode cJ2_length_9d52b 4 = .ok (.ireturn, 1) := by decide +kernel
theorem dJ2_charAt_3b067_0 : decode cJ2_charAt_3b067 0 = .ok (.iload_n 1, 1) := by decide +kernel
theorem dJ2_charAt_3b067_1 : decode cJ2_charAt_3b067 1 = .ok (.aload_n 0, 1) := by decide +kernel
theorem dJ2_charAt_3b067_2 : decode cJ2_charAt_3b067 2 = .ok (.invokestatic 67, 3) := by decide +kernel
theorem dJ2_charAt_3b067_5 : decode cJ2_charAt_3b067 5 = .ok (.aload_n 0, 1) := by decide +kernel
theorem dJ2_charAt_3b067_6 : decode cJ2_charAt_3b067 6 = .ok (.iload_n 1, 1) := by decide +kernel
theorem dJ2_charAt_3b067_7 : decode cJ2_charAt_3b067 7 = .ok (.invokestatic 71, 3) := by decide +kernel
theorem dJ2_charAt_3b067_10 : decode cJ2_charAt_3b067 10 = .ok (.ireturn, 1) := by decide +kernel
theorem dJ2_checkIndex_2214a_0 : decode cJ2_checkIndex_2214a 0 = .ok (.iload_n 0, 1) := by decide +kernel
theorem dJ2_checkIndex_2214a_1 : decode cJ2_checkIndex_2214a 1 = .ok (.aload_n 1, 1) := by decide +kernel
theorem dJ2_checkIndex_2214a_2 : decode cJ2_checkIndex_2214a 2 = .ok (.invokestatic 48, 3) := by decide +kernel
theorem dJ2_checkIndex_2214a_5 : decode cJ2_checkIndex_2214a 5 = .ok (.invokestatic 414, 3) := by decide +kernel
theorem dJ2_checkIndex_2214a_8 : decode cJ2_checkIndex_2214a 8 = .ok (.return_, 1) := by decide +kernel
theorem dJ7_fill_d0a16_0 : decode cJ7_fill_d0a16 0 = .ok (.iconst 0, 1) := by decide +kernel
theorem dJ7_fill_d0a16_1 : decode cJ7_fill_d0a16 1 = .ok (.istore_n 3, 1) := by decide +kernel
theorem dJ7_fill_d0a16_2 : decode cJ7_fill_d0a16 2 = .ok (.aload_n 0, 1) := by decide +kernel
theorem dJ7_fill_d0a16_3 : decode cJ7_fill_d0a16 3 = .ok (.arraylength, 1) := by decide +kernel
theorem dJ7_fill_d0a16_4 : decode cJ7_fill_d0a16 4 = .ok (.istore 4, 2) := by decide +kernel
theorem dJ7_fill_d0a16_6 : decode cJ7_fill_d0a16 6 = .ok (.iload_n 3, 1) := by decide +kernel
theorem dJ7_fill_d0a16_7 : decode cJ7_fill_d0a16 7 = .ok (.iload 4, 2) := by decide +kernel
theorem dJ7_fill_d0a16_9 : decode cJ7_fill_d0a16 9 = .ok (.if_icmp .ge 13, 3) := by decide +kernel
theorem dJ7_fill_d0a16_12 : decode cJ7_fill_d0a16 12 = .ok (.aload_n 0, 1) := by decide +kernel
theorem dJ7_fill_d0a16_13 : decode cJ7_fill_d0a16 13 = .ok (.iload_n 3, 1) := by decide +kernel
theorem dJ7_fill_d0a16_14 : decode cJ7_fill_d0a16 14 = .ok (.lload_n 1, 1) := by decide +kernel
theorem dJ7_fill_d0a16_15 : decode cJ7_fill_d0a16 15 = .ok (.lastore, 1) := by decide +kernel
theorem dJ7_fill_d0a16_16 : decode cJ7_fill_d0a16 16 = .ok (.iinc 3 1, 3) := by decide +kernel
theorem dJ7_fill_d0a16_19 : decode cJ7_fill_d0a16 19 = .ok (.goto (-13), 3) := by decide +kernel
theorem dJ7_fill_d0a16_22 : decode cJ7_fill_d0a16 22 = .ok (.return_, 1) := by decide +kernel
theorem dJ3_checkIndex_8e157_0 : decode cJ3_checkIndex_8e157 0 = .ok (.iload_n 0, 1) := by decide +kernel
theorem dJ3_checkIndex_8e157_1 : decode cJ3_checkIndex_8e157 1 = .ok (.ifCond .lt 8, 3) := by decide +kernel
theorem dJ3_checkIndex_8e157_4 : decode cJ3_checkIndex_8e157 4 = .ok (.iload_n 0, 1) := by decide +kernel
theorem dJ3_checkIndex_8e157_5 : decode cJ3_checkIndex_8e157 5 = .ok (.iload_n 1, 1) := by decide +kernel
theorem dJ3_checkIndex_8e157_6 : decode cJ3_checkIndex_8e157 6 = .ok (.if_icmp .lt 10, 3) := by decide +kernel
theorem dJ3_checkIndex_8e157_9 : decode cJ3_checkIndex_8e157 9 = .ok (.aload_n 2, 1) := by decide +kernel
theorem dJ3_checkIndex_8e157_10 : decode cJ3_checkIndex_8e157 10 = .ok (.iload_n 0, 1) := by decide +kernel
theorem dJ3_checkIndex_8e157_11 : decode cJ3_checkIndex_8e157 11 = .ok (.iload_n 1, 1) := by decide +kernel
theorem dJ3_checkIndex_8e157_12 : decode cJ3_checkIndex_8e157 12 = .ok (.invokestatic 95, 3) := by decide +kernel
theorem dJ3_checkIndex_8e157_15 : decode cJ3_checkIndex_8e157 15 = .ok (.athrow, 1) := by decide +kernel
theorem dJ3_checkIndex_8e157_16 : decode cJ3_checkIndex_8e157 16 = .ok (.iload_n 0, 1) := by decide +kernel
theorem dJ3_checkIndex_8e157_17 : decode cJ3_checkIndex_8e157 17 = .ok (.ireturn, 1) := by decide +kernel
end
section
theorem dX7_init_0 : decode cX7_init 0 = .ok (.aload_n 0, 1) := by decide +kernel
theorem dX7_init_1 : decode cX7_init 1 = .ok (.invokespecial 1, 3) := by decide +kernel
theorem dX7_init_4 : decode cX7_init 4 = .ok (.aload_n 0, 1) := by decide +kernel
theorem dX7_init_5 : decode cX7_init 5 = .ok (.new 7, 3) := by decide +kernel
theorem dX7_init_8 : decode cX7_init 8 = .ok (.dup, 1) := by decide +kernel
theorem dX7_init_9 : decode cX7_init 9 = .ok (.invokespecial 9, 3) := by decide +kernel
theorem dX7_init_12 : decode cX7_init 12 = .ok (.putfield 10, 3) := by decide +kernel
theorem dX7_init_15 : decode cX7_init 15 = .ok (.aload_n 0, 1) := by decide +kernel
theorem dX7_init_16 : decode cX7_init 16 = .ok (.new 7, 3) := by decide +kernel
theorem dX7_init_19 : decode cX7_init 19 = .ok (.dup, 1) := by decide +kernel
theorem dX7_init_20 : decode cX7_init 20 = .ok (.invokespecial 9, 3) := by decide +kernel
theorem dX7_init_23 : decode cX7_init 23 = .ok (.putfield 16, 3) := by decide +kernel
theorem dX7_init_26 : decode cX7_init 26 = .ok (.aload_n 0, 1) := by decide +kernel
theorem dX7_init_27 : decode cX7_init 27 = .ok (.new 7, 3) := by decide +kernel
theorem dX7_init_30 : decode cX7_init 30 = .ok (.dup, 1) := by decide +kernel
theorem dX7_init_31 : decode cX7_init 31 = .ok (.invokespecial 9, 3) := by decide +kernel
theorem dX7_init_34 : decode cX7_init 34 = .ok (.putfield 19, 3) := by decide +kernel
theorem dX7_init_37 : decode cX7_init 37 = .ok (.aload_n 0, 1) := by decide +kernel
theorem dX7_init_38 : decode cX7_init 38 = .ok (.new 22, 3) := by decide +kernel
theorem dX7_init_41 : decode cX7_init 41 = .ok (.dup, 1) := by decide +kernel
theorem dX7_init_42 : decode cX7_init 42 = .ok (.invokespecial 24, 3) := by decide +kernel
theorem dX7_init_45 : decode cX7_init 45 = .ok (.putfield 25, 3) := by decide +kernel
theorem dX7_init_48 : decode cX7_init 48 = .ok (.aload_n 0, 1) := by decide +kernel
theorem dX7_init_49 : decode cX7_init 49 = .ok (.new 29, 3) := by decide +kernel
theorem dX7_init_52 : decode cX7_init 52 = .ok (.dup, 1) := by decide +kernel
theorem dX7_init_53 : decode cX7_init 53 = .ok (.invokespecial 31, 3) := by decide +kernel
theorem dX7_init_56 : decode cX7_init 56 = .ok (.putfield 32, 3) := by decide +kernel
theorem dX7_init_59 : decode cX7_init 59 = .ok (.aload_n 0, 1) := by decide +kernel
theorem dX7_init_60 : decode cX7_init 60 = .ok (.new 36, 3) := by decide +kernel
theorem dX7_init_63 : decode cX7_init 63 = .ok (.dup, 1) := by decide +kernel
theorem dX7_init_64 : decode cX7_init 64 = .ok (.aload_n 0, 1) := by decide +kernel
theorem dX7_init_65 : decode cX7_init 65 = .ok (.getfield 32, 3) := by decide +kernel
theorem dX7_init_68 : decode cX7_init 68 = .ok (.invokespecial 38, 3) := by decide +kernel
theorem dX7_init_71 : decode cX7_init 71 = .ok (.putfield 41, 3) := by decide +kernel
theorem dX7_init_74 : decode cX7_init 74 = .ok (.aload_n 0, 1) := by decide +kernel
theorem dX7_init_75 : decode cX7_init 75 = .ok (.iconst 4, 1) := by decide +kernel
theorem dX7_init_76 : decode cX7_init 76 = .ok (.anewarray 45, 3) := by decide +kernel
theorem dX7_init_79 : decode cX7_init 79 = .ok (.putfield 47, 3) := by decide +kernel
theorem dX7_init_82 : decode cX7_init 82 = .ok (.aload_n 0, 1) := by decide +kernel
theorem dX7_init_83 : decode cX7_init 83 = .ok (.bipush 7, 2) := by decide +kernel
theorem dX7_init_85 : decode cX7_init 85 = .ok (.newarray .int, 2) := by decide +kernel
theorem dX7_init_87 : decode cX7_init 87 = .ok (.putfield 51, 3) := by decide +kernel
theorem dX7_init_90 : decode cX7_init 90 = .ok (.iconst 0, 1) := by decide +kernel
theorem dX7_init_91 : decode cX7_init 91 = .ok (.istore_n 1, 1) := by decide +kernel
theorem dX7_init_92 : decode cX7_init 92 = .ok (.iload_n 1, 1) := by decide +kernel
theorem dX7_init_93 : decode cX7_init 93 = .ok (.iconst 4, 1) := by decide +kernel
theorem dX7_init_94 : decode cX7_init 94 = .ok (.if_icmp .ge 22, 3) := by decide +kernel
theorem dX7_init_97 : decode cX7_init 97 = .ok (.aload_n 0, 1) := by decide +kernel
theorem dX7_init_98 : decode cX7_init 98 = .ok (.getfield 47, 3) := by decide +kernel
theorem dX7_init_101 : decode cX7_init 101 = .ok (.iload_n 1, 1) := by decide +kernel
theorem dX7_init_102 : decode cX7_init 102 = .ok (.new 45, 3) := by decide +kernel
theorem dX7_init_105 : decode cX7_init 105 = .ok (.dup, 1) := by decide +kernel
theorem dX7_init_106 : decode cX7_init 106 = .ok (.invokespecial 55, 3) := by decide +kernel
theorem dX7_init_109 : decode cX7_init 109 = .ok (.aastore, 1) := by decide +kernel
theorem dX7_init_110 : decode cX7_init 110 = .ok (.iinc 1 1, 3) := by decide +kernel
theorem dX7_init_113 : decode cX7_init 113 = .ok (.goto (-21), 3) := by decide +kernel
theorem dX7_init_116 : decode cX7_init 116 = .ok (.return_, 1) := by decide +kernel
theorem dX7_person_0 : decode cX7_person 0 = .ok (.iload_n 1, 1) := by decide +kernel
theorem dX7_person_1 : decode cX7_person 1 = .ok (.invokestatic 56, 3) := by decide +kernel
theorem dX7_person_4 : decode cX7_person 4 = .ok (.ifCond .ne 9, 3) := by decide +kernel
theorem dX7_person_7 : decode cX7_person 7 = .ok (.aload_n 0, 1) := by decide +kernel
theorem dX7_person_8 : decode cX7_person 8 = .ok (.iconst 0, 1) := by decide +kernel
theorem dX7_person_9 : decode cX7_person 9 = .ok (.invokevirtual 60, 3) := by decide +kernel
theorem dX7_person_12 : decode cX7_person 12 = .ok (.ireturn, 1) := by decide +kernel
theorem dX7_person_13 : decode cX7_person 13 = .ok (.aload_n 0, 1) := by decide +kernel
theorem dX7_person_14 : decode cX7_person 14 = .ok (.getfield 10, 3) := by decide +kernel
theorem dX7_person_17 : decode cX7_person 17 = .ok (.invokevirtual 64, 3) := by decide +kernel
theorem dX7_person_20 : decode cX7_person 20 = .ok (.ifCond .eq 9, 3) := by decide +kernel
theorem dX7_person_23 : decode cX7_person 23 = .ok (.aload_n 0, 1) := by decide +kernel
theorem dX7_person_24 : decode cX7_person 24 = .ok (.iconst 1, 1) := by decide +kernel
theorem dX7_person_25 : decode cX7_person 25 = .ok (.invokevirtual 60, 3) := by decide +kernel
theorem dX7_person_28 : decode cX7_person 28 = .ok (.ireturn, 1) := by decide +kernel
theorem dX7_person_29 : decode cX7_person 29 = .ok (.aload_n 0, 1) := by decide +kernel
theorem dX7_person_30 : decode cX7_person 30 = .ok (.getfield 10, 3) := by decide +kernel
theorem dX7_person_33 : decode cX7_person 33 = .ok (.iload_n 1, 1) := by decide +kernel
theorem dX7_person_34 : decode cX7_person 34 = .ok (.invokevirtual 68, 3) := by decide +kernel
theorem dX7_person_37 : decode cX7_person 37 = .ok (.ireturn, 1) := by decide +kernel
theorem dX7_of_0 : decode cX7_of 0 = .ok (.aload_n 0, 1) := by decide +kernel
theorem dX7_of_1 : decode cX7_of 1 = .ok (.getfield 10, 3) := by decide +kernel
theorem dX7_of_4 : decode cX7_of 4 = .ok (.iload_n 1, 1) := by decide +kernel
theorem dX7_of_5 : decode cX7_of 5 = .ok (.invokevirtual 71, 3) := by decide +kernel
theorem dX7_of_8 : decode cX7_of 8 = .ok (.ifCond .ne 9, 3) := by decide +kernel
theorem dX7_of_11 : decode cX7_of 11 = .ok (.aload_n 0, 1) := by decide +kernel
theorem dX7_of_12 : decode cX7_of 12 = .ok (.iconst 0, 1) := by decide +kernel
theorem dX7_of_13 : decode cX7_of 13 = .ok (.invokevirtual 60, 3) := by decide +kernel
theorem dX7_of_16 : decode cX7_of 16 = .ok (.ireturn, 1) := by decide +kernel
theorem dX7_of_17 : decode cX7_of 17 = .ok (.iload_n 2, 1) := by decide +kernel
theorem dX7_of_18 : decode cX7_of 18 = .ok (.tableswitch 120 0 6 #[42, 52, 62, 72, 82, 92, 102], 42) := by decide +kernel
theorem dX7_of_60 : decode cX7_of 60 = .ok (.aload_n 0, 1) := by decide +kernel
theorem dX7_of_61 : decode cX7_of 61 = .ok (.getfield 10, 3) := by decide +kernel
theorem dX7_of_64 : decode cX7_of 64 = .ok (.getfield 74, 3) := by decide +kernel
theorem dX7_of_67 : decode cX7_of 67 = .ok (.iload_n 1, 1) := by decide +kernel
theorem dX7_of_68 : decode cX7_of 68 = .ok (.iaload, 1) := by decide +kernel
theorem dX7_of_69 : decode cX7_of 69 = .ok (.ireturn, 1) := by decide +kernel
theorem dX7_of_70 : decode cX7_of 70 = .ok (.aload_n 0, 1) := by decide +kernel
theorem dX7_of_71 : decode cX7_of 71 = .ok (.getfield 10, 3) := by decide +kernel
theorem dX7_of_74 : decode cX7_of 74 = .ok (.getfield 77, 3) := by decide +kernel
theorem dX7_of_77 : decode cX7_of 77 = .ok (.iload_n 1, 1) := by decide +kernel
theorem dX7_of_78 : decode cX7_of 78 = .ok (.iaload, 1) := by decide +kernel
theorem dX7_of_79 : decode cX7_of 79 = .ok (.ireturn, 1) := by decide +kernel
theorem dX7_of_80 : decode cX7_of 80 = .ok (.aload_n 0, 1) := by decide +kernel
theorem dX7_of_81 : decode cX7_of 81 = .ok (.getfield 10, 3) := by decide +kernel
theorem dX7_of_84 : decode cX7_of 84 = .ok (.getfield 80, 3) := by decide +kernel
theorem dX7_of_87 : decode cX7_of 87 = .ok (.iload_n 1, 1) := by decide +kernel
theorem dX7_of_88 : decode cX7_of 88 = .ok (.iaload, 1) := by decide +kernel
theorem dX7_of_89 : decode cX7_of 89 = .ok (.ireturn, 1) := by decide +kernel
theorem dX7_of_90 : decode cX7_of 90 = .ok (.aload_n 0, 1) := by decide +kernel
theorem dX7_of_91 : decode cX7_of 91 = .ok (.getfield 10, 3) := by decide +kernel
theorem dX7_of_94 : decode cX7_of 94 = .ok (.getfield 83, 3) := by decide +kernel
theorem dX7_of_97 : decode cX7_of 97 = .ok (.iload_n 1, 1) := by decide +kernel
theorem dX7_of_98 : decode cX7_of 98 = .ok (.iaload, 1) := by decide +kernel
theorem dX7_of_99 : decode cX7_of 99 = .ok (.ireturn, 1) := by decide +kernel
theorem dX7_of_100 : decode cX7_of 100 = .ok (.aload_n 0, 1) := by decide +kernel
theorem dX7_of_101 : decode cX7_of 101 = .ok (.getfield 10, 3) := by decide +kernel
theorem dX7_of_104 : decode cX7_of 104 = .ok (.getfield 86, 3) := by decide +kernel
theorem dX7_of_107 : decode cX7_of 107 = .ok (.iload_n 1, 1) := by decide +kernel
theorem dX7_of_108 : decode cX7_of 108 = .ok (.iaload, 1) := by decide +kernel
theorem dX7_of_109 : decode cX7_of 109 = .ok (.ireturn, 1) := by decide +kernel
theorem dX7_of_110 : decode cX7_of 110 = .ok (.aload_n 0, 1) := by decide +kernel
theorem dX7_of_111 : decode cX7_of 111 = .ok (.getfield 10, 3) := by decide +kernel
theorem dX7_of_114 : decode cX7_of 114 = .ok (.getfield 89, 3) := by decide +kernel
theorem dX7_of_117 : decode cX7_of 117 = .ok (.iload_n 1, 1) := by decide +kernel
theorem dX7_of_118 : decode cX7_of 118 = .ok (.iaload, 1) := by decide +kernel
theorem dX7_of_119 : decode cX7_of 119 = .ok (.ireturn, 1) := by decide +kernel
theorem dX7_of_120 : decode cX7_of 120 = .ok (.aload_n 0, 1) := by decide +kernel
theorem dX7_of_121 : decode cX7_of 121 = .ok (.getfield 10, 3) := by decide +kernel
theorem dX7_of_124 : decode cX7_of 124 = .ok (.iload_n 1, 1) := by decide +kernel
theorem dX7_of_125 : decode cX7_of 125 = .ok (.aload_n 0, 1) := by decide +kernel
theorem dX7_of_126 : decode cX7_of 126 = .ok (.getfield 10, 3) := by decide +kernel
theorem dX7_of_129 : decode cX7_of 129 = .ok (.getfield 89, 3) := by decide +kernel
theorem dX7_of_132 : decode cX7_of 132 = .ok (.iload_n 1, 1) := by decide +kernel
theorem dX7_of_133 : decode cX7_of 133 = .ok (.iaload, 1) := by decide +kernel
theorem dX7_of_134 : decode cX7_of 134 = .ok (.invokevirtual 92, 3) := by decide +kernel
theorem dX7_of_137 : decode cX7_of 137 = .ok (.ireturn, 1) := by decide +kernel
theorem dX7_of_138 : decode cX7_of 138 = .ok (.aload_n 0, 1) := by decide +kernel
theorem dX7_of_139 : decode cX7_of 139 = .ok (.iconst 0, 1) := by decide +kernel
theorem dX7_of_140 : decode cX7_of 140 = .ok (.invokevirtual 60, 3) := by decide +kernel
theorem dX7_of_143 : decode cX7_of 143 = .ok (.ireturn, 1) := by decide +kernel
theorem dX7_says_0 : decode cX7_says 0 = .ok (.aload_n 0, 1) := by decide +kernel
theorem dX7_says_1 : decode cX7_says 1 = .ok (.getfield 10, 3) := by decide +kernel
theorem dX7_says_4 : decode cX7_says 4 = .ok (.iload_n 1, 1) := by decide +kernel
theorem dX7_says_5 : decode cX7_says 5 = .ok (.invokevirtual 71, 3) := by decide +kernel
theorem dX7_says_8 : decode cX7_says 8 = .ok (.ifCond .ne 9, 3) := by decide +kernel
theorem dX7_says_11 : decode cX7_says 11 = .ok (.aload_n 0, 1) := by decide +kernel
theorem dX7_says_12 : decode cX7_says 12 = .ok (.iconst 0, 1) := by decide +kernel
theorem dX7_says_13 : decode cX7_says 13 = .ok (.invokevirtual 60, 3) := by decide +kernel
theorem dX7_says_16 : decode cX7_says 16 = .ok (.ireturn, 1) := by decide +kernel
theorem dX7_says_17 : decode cX7_says 17 = .ok (.bipush 100, 2) := by decide +kernel
theorem dX7_says_19 : decode cX7_says 19 = .ok (.aload_n 0, 1) := by decide +kernel
theorem dX7_says_20 : decode cX7_says 20 = .ok (.getfield 10, 3) := by decide +kernel
theorem dX7_says_23 : decode cX7_says 23 = .ok (.iload_n 1, 1) := by decide +kernel
theorem dX7_says_24 : decode cX7_says 24 = .ok (.aload_n 0, 1) := by decide +kernel
theorem dX7_says_25 : decode cX7_says 25 = .ok (.getfield 10, 3) := by decide +kernel
theorem dX7_says_28 : decode cX7_says 28 = .ok (.getfield 89, 3) := by decide +kernel
theorem dX7_says_31 : decode cX7_says 31 = .ok (.iload_n 1, 1) := by decide +kernel
theorem dX7_says_32 : decode cX7_says 32 = .ok (.iaload, 1) := by decide +kernel
theorem dX7_says_33 : decode cX7_says 33 = .ok (.invokevirtual 96, 3) := by decide +kernel
theorem dX7_says_36 : decode cX7_says 36 = .ok (.iadd, 1) := by decide +kernel
theorem dX7_says_37 : decode cX7_says 37 = .ok (.ireturn, 1) := by decide +kernel
theorem dX7_set_0 : decode cX7_set 0 = .ok (.aload_n 0, 1) := by decide +kernel
theorem dX7_set_1 : decode cX7_set 1 = .ok (.getfield 10, 3) := by decide +kernel
theorem dX7_set_4 : decode cX7_set 4 = .ok (.iload_n 1, 1) := by decide +kernel
theorem dX7_set_5 : decode cX7_set 5 = .ok (.invokevirtual 71, 3) := by decide +kernel
theorem dX7_set_8 : decode cX7_set 8 = .ok (.ifCond .eq 7, 3) := by decide +kernel
theorem dX7_set_11 : decode cX7_set 11 = .ok (.iload_n 3, 1) := by decide +kernel
theorem dX7_set_12 : decode cX7_set 12 = .ok (.ifCond .ge 9, 3) := by decide +kernel
theorem dX7_set_15 : decode cX7_set 15 = .ok (.aload_n 0, 1) := by decide +kernel
theorem dX7_set_16 : decode cX7_set 16 = .ok (.iconst 0, 1) := by decide +kernel
theorem dX7_set_17 : decode cX7_set 17 = .ok (.invokevirtual 60, 3) := by decide +kernel
theorem dX7_set_20 : decode cX7_set 20 = .ok (.ireturn, 1) := by decide +kernel
theorem dX7_set_21 : decode cX7_set 21 = .ok (.iload_n 2, 1) := by decide +kernel
theorem dX7_set_22 : decode cX7_set 22 = .ok (.tableswitch 94 1 4 #[30, 46, 62, 78], 30) := by decide +kernel
theorem dX7_set_52 : decode cX7_set 52 = .ok (.aload_n 0, 1) := by decide +kernel
theorem dX7_set_53 : decode cX7_set 53 = .ok (.aload_n 0, 1) := by decide +kernel
theorem dX7_set_54 : decode cX7_set 54 = .ok (.getfield 10, 3) := by decide +kernel
theorem dX7_set_57 : decode cX7_set 57 = .ok (.getfield 77, 3) := by decide +kernel
theorem dX7_set_60 : decode cX7_set 60 = .ok (.iload_n 1, 1) := by decide +kernel
theorem dX7_set_61 : decode cX7_set 61 = .ok (.iload_n 3, 1) := by decide +kernel
theorem dX7_set_62 : decode cX7_set 62 = .ok (.bipush 20, 2) := by decide +kernel
theorem dX7_set_64 : decode cX7_set 64 = .ok (.invokevirtual 99, 3) := by decide +kernel
theorem dX7_set_67 : decode cX7_set 67 = .ok (.ireturn, 1) := by decide +kernel
theorem dX7_set_68 : decode cX7_set 68 = .ok (.aload_n 0, 1) := by decide +kernel
theorem dX7_set_69 : decode cX7_set 69 = .ok (.aload_n 0, 1) := by decide +kernel
theorem dX7_set_70 : decode cX7_set 70 = .ok (.getfield 10, 3) := by decide +kernel
theorem dX7_set_73 : decode cX7_set 73 = .ok (.getfield 80, 3) := by decide +kernel
theorem dX7_set_76 : decode cX7_set 76 = .ok (.iload_n 1, 1) := by decide +kernel
theorem dX7_set_77 : decode cX7_set 77 = .ok (.iload_n 3, 1) := by decide +kernel
theorem dX7_set_78 : decode cX7_set 78 = .ok (.ldc 103, 2) := by decide +kernel
theorem dX7_set_80 : decode cX7_set 80 = .ok (.invokevirtual 99, 3) := by decide +kernel
theorem dX7_set_83 : decode cX7_set 83 = .ok (.ireturn, 1) := by decide +kernel
theorem dX7_set_84 : decode cX7_set 84 = .ok (.aload_n 0, 1) := by decide +kernel
theorem dX7_set_85 : decode cX7_set 85 = .ok (.aload_n 0, 1) := by decide +kernel
theorem dX7_set_86 : decode cX7_set 86 = .ok (.getfield 10, 3) := by decide +kernel
theorem dX7_set_89 : decode cX7_set 89 = .ok (.getfield 83, 3) := by decide +kernel
theorem dX7_set_92 : decode cX7_set 92 = .ok (.iload_n 1, 1) := by decide +kernel
theorem dX7_set_93 : decode cX7_set 93 = .ok (.iload_n 3, 1) := by decide +kernel
theorem dX7_set_94 : decode cX7_set 94 = .ok (.bipush 99, 2) := by decide +kernel
theorem dX7_set_96 : decode cX7_set 96 = .ok (.invokevirtual 99, 3) := by decide +kernel
theorem dX7_set_99 : decode cX7_set 99 = .ok (.ireturn, 1) := by decide +kernel
theorem dX7_set_100 : decode cX7_set 100 = .ok (.aload_n 0, 1) := by decide +kernel
theorem dX7_set_101 : decode cX7_set 101 = .ok (.aload_n 0, 1) := by decide +kernel
theorem dX7_set_102 : decode cX7_set 102 = .ok (.getfield 10, 3) := by decide +kernel
theorem dX7_set_105 : decode cX7_set 105 = .ok (.getfield 86, 3) := by decide +kernel
theorem dX7_set_108 : decode cX7_set 108 = .ok (.iload_n 1, 1) := by decide +kernel
theorem dX7_set_109 : decode cX7_set 109 = .ok (.iload_n 3, 1) := by decide +kernel
theorem dX7_set_110 : decode cX7_set 110 = .ok (.bipush 99, 2) := by decide +kernel
theorem dX7_set_112 : decode cX7_set 112 = .ok (.invokevirtual 99, 3) := by decide +kernel
theorem dX7_set_115 : decode cX7_set 115 = .ok (.ireturn, 1) := by decide +kernel
theorem dX7_set_116 : decode cX7_set 116 = .ok (.aload_n 0, 1) := by decide +kernel
theorem dX7_set_117 : decode cX7_set 117 = .ok (.iconst 0, 1) := by decide +kernel
theorem dX7_set_118 : decode cX7_set 118 = .ok (.invokevirtual 60, 3) := by decide +kernel
theorem dX7_set_121 : decode cX7_set 121 = .ok (.ireturn, 1) := by decide +kernel
theorem dX7_turn_0 : decode cX7_turn 0 = .ok (.aload_n 0, 1) := by decide +kernel
theorem dX7_turn_1 : decode cX7_turn 1 = .ok (.getfield 10, 3) := by decide +kernel
theorem dX7_turn_4 : decode cX7_turn 4 = .ok (.iload_n 1, 1) := by decide +kernel
theorem dX7_turn_5 : decode cX7_turn 5 = .ok (.invokevirtual 71, 3) := by decide +kernel
theorem dX7_turn_8 : decode cX7_turn 8 = .ok (.ifCond .ne 9, 3) := by decide +kernel
theorem dX7_turn_11 : decode cX7_turn 11 = .ok (.aload_n 0, 1) := by decide +kernel
theorem dX7_turn_12 : decode cX7_turn 12 = .ok (.iconst 0, 1) := by decide +kernel
theorem dX7_turn_13 : decode cX7_turn 13 = .ok (.invokevirtual 60, 3) := by decide +kernel
theorem dX7_turn_16 : decode cX7_turn 16 = .ok (.ireturn, 1) := by decide +kernel
theorem dX7_turn_17 : decode cX7_turn 17 = .ok (.aload_n 0, 1) := by decide +kernel
theorem dX7_turn_18 : decode cX7_turn 18 = .ok (.aload_n 0, 1) := by decide +kernel
theorem dX7_turn_19 : decode cX7_turn 19 = .ok (.getfield 10, 3) := by decide +kernel
theorem dX7_turn_22 : decode cX7_turn 22 = .ok (.getfield 74, 3) := by decide +kernel
theorem dX7_turn_25 : decode cX7_turn 25 = .ok (.iload_n 1, 1) := by decide +kernel
theorem dX7_turn_26 : decode cX7_turn 26 = .ok (.iload_n 2, 1) := by decide +kernel
theorem dX7_turn_27 : decode cX7_turn 27 = .ok (.iconst 5, 1) := by decide +kernel
theorem dX7_turn_28 : decode cX7_turn 28 = .ok (.invokevirtual 99, 3) := by decide +kernel
theorem dX7_turn_31 : decode cX7_turn 31 = .ok (.ireturn, 1) := by decide +kernel
theorem dX7_as_0 : decode cX7_as 0 = .ok (.aload_n 0, 1) := by decide +kernel
theorem dX7_as_1 : decode cX7_as 1 = .ok (.getfield 10, 3) := by decide +kernel
theorem dX7_as_4 : decode cX7_as 4 = .ok (.iload_n 1, 1) := by decide +kernel
theorem dX7_as_5 : decode cX7_as 5 = .ok (.invokevirtual 71, 3) := by decide +kernel
theorem dX7_as_8 : decode cX7_as 8 = .ok (.ifCond .eq 10, 3) := by decide +kernel
theorem dX7_as_11 : decode cX7_as 11 = .ok (.iload_n 2, 1) := by decide +kernel
theorem dX7_as_12 : decode cX7_as 12 = .ok (.invokestatic 56, 3) := by decide +kernel
theorem dX7_as_15 : decode cX7_as 15 = .ok (.ifCond .ne 9, 3) := by decide +kernel
theorem dX7_as_18 : decode cX7_as 18 = .ok (.aload_n 0, 1) := by decide +kernel
theorem dX7_as_19 : decode cX7_as 19 = .ok (.iconst 0, 1) := by decide +kernel
theorem dX7_as_20 : decode cX7_as 20 = .ok (.invokevirtual 60, 3) := by decide +kernel
theorem dX7_as_23 : decode cX7_as 23 = .ok (.ireturn, 1) := by decide +kernel
theorem dX7_as_24 : decode cX7_as 24 = .ok (.aload_n 0, 1) := by decide +kernel
theorem dX7_as_25 : decode cX7_as 25 = .ok (.getfield 10, 3) := by decide +kernel
theorem dX7_as_28 : decode cX7_as 28 = .ok (.getfield 74, 3) := by decide +kernel
theorem dX7_as_31 : decode cX7_as 31 = .ok (.iload_n 1, 1) := by decide +kernel
theorem dX7_as_32 : decode cX7_as 32 = .ok (.iaload, 1) := by decide +kernel
theorem dX7_as_33 : decode cX7_as 33 = .ok (.iload_n 2, 1) := by decide +kernel
theorem dX7_as_34 : decode cX7_as 34 = .ok (.invokestatic 104, 3) := by decide +kernel
theorem dX7_as_37 : decode cX7_as 37 = .ok (.ifCond .ne 9, 3) := by decide +kernel
theorem dX7_as_40 : decode cX7_as 40 = .ok (.aload_n 0, 1) := by decide +kernel
theorem dX7_as_41 : decode cX7_as 41 = .ok (.iconst 2, 1) := by decide +kernel
theorem dX7_as_42 : decode cX7_as 42 = .ok (.invokevirtual 60, 3) := by decide +kernel
theorem dX7_as_45 : decode cX7_as 45 = .ok (.ireturn, 1) := by decide +kernel
theorem dX7_as_46 : decode cX7_as 46 = .ok (.aload_n 0, 1) := by decide +kernel
theorem dX7_as_47 : decode cX7_as 47 = .ok (.getfield 10, 3) := by decide +kernel
theorem dX7_as_50 : decode cX7_as 50 = .ok (.getfield 83, 3) := by decide +kernel
theorem dX7_as_53 : decode cX7_as 53 = .ok (.iload_n 1, 1) := by decide +kernel
theorem dX7_as_54 : decode cX7_as 54 = .ok (.iaload, 1) := by decide +kernel
theorem dX7_as_55 : decode cX7_as 55 = .ok (.ireturn, 1) := by decide +kernel
theorem dX7_swap_0 : decode cX7_swap 0 = .ok (.aload_n 0, 1) := by decide +kernel
theorem dX7_swap_1 : decode cX7_swap 1 = .ok (.getfield 10, 3) := by decide +kernel
theorem dX7_swap_4 : decode cX7_swap 4 = .ok (.iload_n 1, 1) := by decide +kernel
theorem dX7_swap_5 : decode cX7_swap 5 = .ok (.invokevirtual 71, 3) := by decide +kernel
theorem dX7_swap_8 : decode cX7_swap 8 = .ok (.ifCond .eq 19, 3) := by decide +kernel
theorem dX7_swap_11 : decode cX7_swap 11 = .ok (.aload_n 0, 1) := by decide +kernel
theorem dX7_swap_12 : decode cX7_swap 12 = .ok (.getfield 10, 3) := by decide +kernel
theorem dX7_swap_15 : decode cX7_swap 15 = .ok (.iload_n 2, 1) := by decide +kernel
theorem dX7_swap_16 : decode cX7_swap 16 = .ok (.invokevirtual 71, 3) := by decide +kernel
theorem dX7_swap_19 : decode cX7_swap 19 = .ok (.ifCond .eq 8, 3) := by decide +kernel
theorem dX7_swap_22 : decode cX7_swap 22 = .ok (.iload_n 1, 1) := by decide +kernel
theorem dX7_swap_23 : decode cX7_swap 23 = .ok (.iload_n 2, 1) := by decide +kernel
theorem dX7_swap_24 : decode cX7_swap 24 = .ok (.if_icmp .ne 9, 3) := by decide +kernel
theorem dX7_swap_27 : decode cX7_swap 27 = .ok (.aload_n 0, 1) := by decide +kernel
theorem dX7_swap_28 : decode cX7_swap 28 = .ok (.iconst 0, 1) := by decide +kernel
theorem dX7_swap_29 : decode cX7_swap 29 = .ok (.invokevirtual 60, 3) := by decide +kernel
theorem dX7_swap_32 : decode cX7_swap 32 = .ok (.ireturn, 1) := by decide +kernel
theorem dX7_swap_33 : decode cX7_swap 33 = .ok (.aload_n 0, 1) := by decide +kernel
theorem dX7_swap_34 : decode cX7_swap 34 = .ok (.getfield 10, 3) := by decide +kernel
theorem dX7_swap_37 : decode cX7_swap 37 = .ok (.iload_n 1, 1) := by decide +kernel
theorem dX7_swap_38 : decode cX7_swap 38 = .ok (.iload_n 2, 1) := by decide +kernel
theorem dX7_swap_39 : decode cX7_swap 39 = .ok (.invokevirtual 110, 3) := by decide +kernel
theorem dX7_swap_42 : decode cX7_swap 42 = .ok (.ifCond .ne 9, 3) := by decide +kernel
theorem dX7_swap_45 : decode cX7_swap 45 = .ok (.aload_n 0, 1) := by decide +kernel
theorem dX7_swap_46 : decode cX7_swap 46 = .ok (.iconst 4, 1) := by decide +kernel
theorem dX7_swap_47 : decode cX7_swap 47 = .ok (.invokevirtual 60, 3) := by decide +kernel
theorem dX7_swap_50 : decode cX7_swap 50 = .ok (.ireturn, 1) := by decide +kernel
theorem dX7_swap_51 : decode cX7_swap 51 = .ok (.aload_n 0, 1) := by decide +kernel
theorem dX7_swap_52 : decode cX7_swap 52 = .ok (.getfield 10, 3) := by decide +kernel
theorem dX7_swap_55 : decode cX7_swap 55 = .ok (.iload_n 1, 1) := by decide +kernel
theorem dX7_swap_56 : decode cX7_swap 56 = .ok (.iload_n 2, 1) := by decide +kernel
theorem dX7_swap_57 : decode cX7_swap 57 = .ok (.invokevirtual 113, 3) := by decide +kernel
theorem dX7_swap_60 : decode cX7_swap 60 = .ok (.aload_n 0, 1) := by decide +kernel
theorem dX7_swap_61 : decode cX7_swap 61 = .ok (.getfield 10, 3) := by decide +kernel
theorem dX7_swap_64 : decode cX7_swap 64 = .ok (.invokevirtual 117, 3) := by decide +kernel
theorem dX7_swap_67 : decode cX7_swap 67 = .ok (.ireturn, 1) := by decide +kernel
theorem dX7_home_0 : decode cX7_home 0 = .ok (.aload_n 0, 1) := by decide +kernel
theorem dX7_home_1 : decode cX7_home 1 = .ok (.getfield 10, 3) := by decide +kernel
theorem dX7_home_4 : decode cX7_home 4 = .ok (.getfield 121, 3) := by decide +kernel
theorem dX7_home_7 : decode cX7_home 7 = .ok (.aload_n 0, 1) := by decide +kernel
theorem dX7_home_8 : decode cX7_home 8 = .ok (.getfield 10, 3) := by decide +kernel
theorem dX7_home_11 : decode cX7_home 11 = .ok (.invokevirtual 117, 3) := by decide +kernel
theorem dX7_home_14 : decode cX7_home 14 = .ok (.isub, 1) := by decide +kernel
theorem dX7_home_15 : decode cX7_home 15 = .ok (.istore_n 1, 1) := by decide +kernel
theorem dX7_home_16 : decode cX7_home 16 = .ok (.aload_n 0, 1) := by decide +kernel
theorem dX7_home_17 : decode cX7_home 17 = .ok (.getfield 10, 3) := by decide +kernel
theorem dX7_home_20 : decode cX7_home 20 = .ok (.invokevirtual 125, 3) := by decide +kernel
theorem dX7_home_23 : decode cX7_home 23 = .ok (.iload_n 1, 1) := by decide +kernel
theorem dX7_home_24 : decode cX7_home 24 = .ok (.ireturn, 1) := by decide +kernel
theorem dX7_draw_0 : decode cX7_draw 0 = .ok (.aload_n 0, 1) := by decide +kernel
theorem dX7_draw_1 : decode cX7_draw 1 = .ok (.getfield 10, 3) := by decide +kernel
theorem dX7_draw_4 : decode cX7_draw 4 = .ok (.invokevirtual 128, 3) := by decide +kernel
theorem dX7_draw_7 : decode cX7_draw 7 = .ok (.aload_n 0, 1) := by decide +kernel
theorem dX7_draw_8 : decode cX7_draw 8 = .ok (.getfield 10, 3) := by decide +kernel
theorem dX7_draw_11 : decode cX7_draw 11 = .ok (.invokevirtual 117, 3) := by decide +kernel
theorem dX7_draw_14 : decode cX7_draw 14 = .ok (.ireturn, 1) := by decide +kernel
theorem dX7_seed_0 : decode cX7_seed 0 = .ok (.aload_n 0, 1) := by decide +kernel
theorem dX7_seed_1 : decode cX7_seed 1 = .ok (.getfield 10, 3) := by decide +kernel
theorem dX7_seed_4 : decode cX7_seed 4 = .ok (.getfield 131, 3) := by decide +kernel
theorem dX7_seed_7 : decode cX7_seed 7 = .ok (.istore_n 2, 1) := by decide +kernel
theorem dX7_seed_8 : decode cX7_seed 8 = .ok (.aload_n 0, 1) := by decide +kernel
theorem dX7_seed_9 : decode cX7_seed 9 = .ok (.getfield 10, 3) := by decide +kernel
theorem dX7_seed_12 : decode cX7_seed 12 = .ok (.iload_n 1, 1) := by decide +kernel
theorem dX7_seed_13 : decode cX7_seed 13 = .ok (.putfield 131, 3) := by decide +kernel
theorem dX7_seed_16 : decode cX7_seed 16 = .ok (.iload_n 2, 1) := by decide +kernel
theorem dX7_seed_17 : decode cX7_seed 17 = .ok (.ireturn, 1) := by decide +kernel
theorem dX7_fridays_0 : decode cX7_fridays 0 = .ok (.iload_n 1, 1) := by decide +kernel
theorem dX7_fridays_1 : decode cX7_fridays 1 = .ok (.iconst 1, 1) := by decide +kernel
theorem dX7_fridays_2 : decode cX7_fridays 2 = .ok (.if_icmp .lt 9, 3) := by decide +kernel
theorem dX7_fridays_5 : decode cX7_fridays 5 = .ok (.iload_n 1, 1) := by decide +kernel
theorem dX7_fridays_6 : decode cX7_fridays 6 = .ok (.bipush 60, 2) := by decide +kernel
theorem dX7_fridays_8 : decode cX7_fridays 8 = .ok (.if_icmp .le 9, 3) := by decide +kernel
theorem dX7_fridays_11 : decode cX7_fridays 11 = .ok (.aload_n 0, 1) := by decide +kernel
theorem dX7_fridays_12 : decode cX7_fridays 12 = .ok (.iconst 0, 1) := by decide +kernel
theorem dX7_fridays_13 : decode cX7_fridays 13 = .ok (.invokevirtual 60, 3) := by decide +kernel
theorem dX7_fridays_16 : decode cX7_fridays 16 = .ok (.ireturn, 1) := by decide +kernel
theorem dX7_fridays_17 : decode cX7_fridays 17 = .ok (.aload_n 0, 1) := by decide +kernel
theorem dX7_fridays_18 : decode cX7_fridays 18 = .ok (.getfield 10, 3) := by decide +kernel
theorem dX7_fridays_21 : decode cX7_fridays 21 = .ok (.getfield 134, 3) := by decide +kernel
theorem dX7_fridays_24 : decode cX7_fridays 24 = .ok (.iload_n 1, 1) := by decide +kernel
theorem dX7_fridays_25 : decode cX7_fridays 25 = .ok (.iadd, 1) := by decide +kernel
theorem dX7_fridays_26 : decode cX7_fridays 26 = .ok (.sipush 9999, 3) := by decide +kernel
theorem dX7_fridays_29 : decode cX7_fridays 29 = .ok (.if_icmp .le 9, 3) := by decide +kernel
theorem dX7_fridays_32 : decode cX7_fridays 32 = .ok (.aload_n 0, 1) := by decide +kernel
theorem dX7_fridays_33 : decode cX7_fridays 33 = .ok (.iconst 4, 1) := by decide +kernel
theorem dX7_fridays_34 : decode cX7_fridays 34 = .ok (.invokevirtual 60, 3) := by decide +kernel
theorem dX7_fridays_37 : decode cX7_fridays 37 = .ok (.ireturn, 1) := by decide +kernel
theorem dX7_fridays_38 : decode cX7_fridays 38 = .ok (.aload_n 0, 1) := by decide +kernel
theorem dX7_fridays_39 : decode cX7_fridays 39 = .ok (.getfield 10, 3) := by decide +kernel
theorem dX7_fridays_42 : decode cX7_fridays 42 = .ok (.iload_n 1, 1) := by decide +kernel
theorem dX7_fridays_43 : decode cX7_fridays 43 = .ok (.invokevirtual 137, 3) := by decide +kernel
theorem dX7_fridays_46 : decode cX7_fridays 46 = .ok (.aload_n 0, 1) := by decide +kernel
theorem dX7_fridays_47 : decode cX7_fridays 47 = .ok (.getfield 10, 3) := by decide +kernel
theorem dX7_fridays_50 : decode cX7_fridays 50 = .ok (.aload_n 0, 1) := by decide +kernel
theorem dX7_fridays_51 : decode cX7_fridays 51 = .ok (.getfield 10, 3) := by decide +kernel
theorem dX7_fridays_54 : decode cX7_fridays 54 = .ok (.getfield 80, 3) := by decide +kernel
theorem dX7_fridays_57 : decode cX7_fridays 57 = .ok (.invokevirtual 141, 3) := by decide +kernel
theorem dX7_fridays_60 : decode cX7_fridays 60 = .ok (.ireturn, 1) := by decide +kernel
theorem dX7_season_0 : decode cX7_season 0 = .ok (.iload_n 1, 1) := by decide +kernel
theorem dX7_season_1 : decode cX7_season 1 = .ok (.iconst 1, 1) := by decide +kernel
theorem dX7_season_2 : decode cX7_season 2 = .ok (.if_icmp .lt 9, 3) := by decide +kernel
theorem dX7_season_5 : decode cX7_season 5 = .ok (.iload_n 1, 1) := by decide +kernel
theorem dX7_season_6 : decode cX7_season 6 = .ok (.bipush 20, 2) := by decide +kernel
theorem dX7_season_8 : decode cX7_season 8 = .ok (.if_icmp .le 9, 3) := by decide +kernel
theorem dX7_season_11 : decode cX7_season 11 = .ok (.aload_n 0, 1) := by decide +kernel
theorem dX7_season_12 : decode cX7_season 12 = .ok (.iconst 0, 1) := by decide +kernel
theorem dX7_season_13 : decode cX7_season 13 = .ok (.invokevirtual 60, 3) := by decide +kernel
theorem dX7_season_16 : decode cX7_season 16 = .ok (.ireturn, 1) := by decide +kernel
theorem dX7_season_17 : decode cX7_season 17 = .ok (.aload_n 0, 1) := by decide +kernel
theorem dX7_season_18 : decode cX7_season 18 = .ok (.getfield 10, 3) := by decide +kernel
theorem dX7_season_21 : decode cX7_season 21 = .ok (.getfield 134, 3) := by decide +kernel
theorem dX7_season_24 : decode cX7_season 24 = .ok (.iload_n 1, 1) := by decide +kernel
theorem dX7_season_25 : decode cX7_season 25 = .ok (.iadd, 1) := by decide +kernel
theorem dX7_season_26 : decode cX7_season 26 = .ok (.sipush 9999, 3) := by decide +kernel
theorem dX7_season_29 : decode cX7_season 29 = .ok (.if_icmp .le 9, 3) := by decide +kernel
theorem dX7_season_32 : decode cX7_season 32 = .ok (.aload_n 0, 1) := by decide +kernel
theorem dX7_season_33 : decode cX7_season 33 = .ok (.iconst 4, 1) := by decide +kernel
theorem dX7_season_34 : decode cX7_season 34 = .ok (.invokevirtual 60, 3) := by decide +kernel
theorem dX7_season_37 : decode cX7_season 37 = .ok (.ireturn, 1) := by decide +kernel
theorem dX7_season_38 : decode cX7_season 38 = .ok (.iconst 0, 1) := by decide +kernel
theorem dX7_season_39 : decode cX7_season 39 = .ok (.istore_n 2, 1) := by decide +kernel
theorem dX7_season_40 : decode cX7_season 40 = .ok (.iload_n 2, 1) := by decide +kernel
theorem dX7_season_41 : decode cX7_season 41 = .ok (.iload_n 1, 1) := by decide +kernel
theorem dX7_season_42 : decode cX7_season 42 = .ok (.if_icmp .ge 23, 3) := by decide +kernel
theorem dX7_season_45 : decode cX7_season 45 = .ok (.aload_n 0, 1) := by decide +kernel
theorem dX7_season_46 : decode cX7_season 46 = .ok (.getfield 10, 3) := by decide +kernel
theorem dX7_season_49 : decode cX7_season 49 = .ok (.invokevirtual 128, 3) := by decide +kernel
theorem dX7_season_52 : decode cX7_season 52 = .ok (.aload_n 0, 1) := by decide +kernel
theorem dX7_season_53 : decode cX7_season 53 = .ok (.getfield 10, 3) := by decide +kernel
theorem dX7_season_56 : decode cX7_season 56 = .ok (.invokevirtual 145, 3) := by decide +kernel
theorem dX7_season_59 : decode cX7_season 59 = .ok (.iinc 2 1, 3) := by decide +kernel
theorem dX7_season_62 : decode cX7_season 62 = .ok (.goto (-22), 3) := by decide +kernel
theorem dX7_season_65 : decode cX7_season 65 = .ok (.aload_n 0, 1) := by decide +kernel
theorem dX7_season_66 : decode cX7_season 66 = .ok (.getfield 10, 3) := by decide +kernel
theorem dX7_season_69 : decode cX7_season 69 = .ok (.aload_n 0, 1) := by decide +kernel
theorem dX7_season_70 : decode cX7_season 70 = .ok (.getfield 10, 3) := by decide +kernel
theorem dX7_season_73 : decode cX7_season 73 = .ok (.getfield 80, 3) := by decide +kernel
theorem dX7_season_76 : decode cX7_season 76 = .ok (.invokevirtual 141, 3) := by decide +kernel
theorem dX7_season_79 : decode cX7_season 79 = .ok (.ireturn, 1) := by decide +kernel
theorem dX7_now_0 : decode cX7_now 0 = .ok (.iload_n 1, 1) := by decide +kernel
theorem dX7_now_1 : decode cX7_now 1 = .ok (.tableswitch 121 0 6 #[43, 51, 66, 74, 82, 90, 106], 43) := by decide +kernel
theorem dX7_now_44 : decode cX7_now 44 = .ok (.aload_n 0, 1) := by decide +kernel
theorem dX7_now_45 : decode cX7_now 45 = .ok (.getfield 10, 3) := by decide +kernel
theorem dX7_now_48 : decode cX7_now 48 = .ok (.getfield 134, 3) := by decide +kernel
theorem dX7_now_51 : decode cX7_now 51 = .ok (.ireturn, 1) := by decide +kernel
theorem dX7_now_52 : decode cX7_now 52 = .ok (.aload_n 0, 1) := by decide +kernel
theorem dX7_now_53 : decode cX7_now 53 = .ok (.getfield 10, 3) := by decide +kernel
theorem dX7_now_56 : decode cX7_now 56 = .ok (.aload_n 0, 1) := by decide +kernel
theorem dX7_now_57 : decode cX7_now 57 = .ok (.getfield 10, 3) := by decide +kernel
theorem dX7_now_60 : decode cX7_now 60 = .ok (.getfield 80, 3) := by decide +kernel
theorem dX7_now_63 : decode cX7_now 63 = .ok (.invokevirtual 141, 3) := by decide +kernel
theorem dX7_now_66 : decode cX7_now 66 = .ok (.ireturn, 1) := by decide +kernel
theorem dX7_now_67 : decode cX7_now 67 = .ok (.aload_n 0, 1) := by decide +kernel
theorem dX7_now_68 : decode cX7_now 68 = .ok (.getfield 10, 3) := by decide +kernel
theorem dX7_now_71 : decode cX7_now 71 = .ok (.invokevirtual 148, 3) := by decide +kernel
theorem dX7_now_74 : decode cX7_now 74 = .ok (.ireturn, 1) := by decide +kernel
theorem dX7_now_75 : decode cX7_now 75 = .ok (.aload_n 0, 1) := by decide +kernel
theorem dX7_now_76 : decode cX7_now 76 = .ok (.getfield 10, 3) := by decide +kernel
theorem dX7_now_79 : decode cX7_now 79 = .ok (.invokevirtual 151, 3) := by decide +kernel
theorem dX7_now_82 : decode cX7_now 82 = .ok (.ireturn, 1) := by decide +kernel
theorem dX7_now_83 : decode cX7_now 83 = .ok (.aload_n 0, 1) := by decide +kernel
theorem dX7_now_84 : decode cX7_now 84 = .ok (.getfield 10, 3) := by decide +kernel
theorem dX7_now_87 : decode cX7_now 87 = .ok (.invokevirtual 154, 3) := by decide +kernel
theorem dX7_now_90 : decode cX7_now 90 = .ok (.ireturn, 1) := by decide +kernel
theorem dX7_now_91 : decode cX7_now 91 = .ok (.aload_n 0, 1) := by decide +kernel
theorem dX7_now_92 : decode cX7_now 92 = .ok (.getfield 10, 3) := by decide +kernel
theorem dX7_now_95 : decode cX7_now 95 = .ok (.invokevirtual 157, 3) := by decide +kernel
theorem dX7_now_98 : decode cX7_now 98 = .ok (.ifCond .eq 7, 3) := by decide +kernel
theorem dX7_now_101 : decode cX7_now 101 = .ok (.iconst 1, 1) := by decide +kernel
theorem dX7_now_102 : decode cX7_now 102 = .ok (.goto 4, 3) := by decide +kernel
theorem dX7_now_105 : decode cX7_now 105 = .ok (.iconst 0, 1) := by decide +kernel
theorem dX7_now_106 : decode cX7_now 106 = .ok (.ireturn, 1) := by decide +kernel
theorem dX7_now_107 : decode cX7_now 107 = .ok (.aload_n 0, 1) := by decide +kernel
theorem dX7_now_108 : decode cX7_now 108 = .ok (.getfield 10, 3) := by decide +kernel
theorem dX7_now_111 : decode cX7_now 111 = .ok (.aload_n 0, 1) := by decide +kernel
theorem dX7_now_112 : decode cX7_now 112 = .ok (.getfield 10, 3) := by decide +kernel
theorem dX7_now_115 : decode cX7_now 115 = .ok (.getfield 86, 3) := by decide +kernel
theorem dX7_now_118 : decode cX7_now 118 = .ok (.invokevirtual 141, 3) := by decide +kernel
theorem dX7_now_121 : decode cX7_now 121 = .ok (.ireturn, 1) := by decide +kernel
theorem dX7_now_122 : decode cX7_now 122 = .ok (.aload_n 0, 1) := by decide +kernel
theorem dX7_now_123 : decode cX7_now 123 = .ok (.iconst 0, 1) := by decide +kernel
theorem dX7_now_124 : decode cX7_now 124 = .ok (.invokevirtual 60, 3) := by decide +kernel
theorem dX7_now_127 : decode cX7_now 127 = .ok (.ireturn, 1) := by decide +kernel
theorem dX7_who_0 : decode cX7_who 0 = .ok (.aload_n 0, 1) := by decide +kernel
theorem dX7_who_1 : decode cX7_who 1 = .ok (.getfield 10, 3) := by decide +kernel
theorem dX7_who_4 : decode cX7_who 4 = .ok (.iload_n 1, 1) := by decide +kernel
theorem dX7_who_5 : decode cX7_who 5 = .ok (.invokevirtual 71, 3) := by decide +kernel
theorem dX7_who_8 : decode cX7_who 8 = .ok (.ifCond .ne 9, 3) := by decide +kernel
theorem dX7_who_11 : decode cX7_who 11 = .ok (.aload_n 0, 1) := by decide +kernel
theorem dX7_who_12 : decode cX7_who 12 = .ok (.iconst 0, 1) := by decide +kernel
theorem dX7_who_13 : decode cX7_who 13 = .ok (.invokevirtual 60, 3) := by decide +kernel
theorem dX7_who_16 : decode cX7_who 16 = .ok (.ireturn, 1) := by decide +kernel
theorem dX7_who_17 : decode cX7_who 17 = .ok (.aload_n 0, 1) := by decide +kernel
theorem dX7_who_18 : decode cX7_who 18 = .ok (.getfield 10, 3) := by decide +kernel
theorem dX7_who_21 : decode cX7_who 21 = .ok (.iload_n 1, 1) := by decide +kernel
theorem dX7_who_22 : decode cX7_who 22 = .ok (.invokevirtual 160, 3) := by decide +kernel
theorem dX7_who_25 : decode cX7_who 25 = .ok (.ireturn, 1) := by decide +kernel
theorem dX7_ring_0 : decode cX7_ring 0 = .ok (.aload_n 0, 1) := by decide +kernel
theorem dX7_ring_1 : decode cX7_ring 1 = .ok (.getfield 10, 3) := by decide +kernel
theorem dX7_ring_4 : decode cX7_ring 4 = .ok (.iload_n 1, 1) := by decide +kernel
theorem dX7_ring_5 : decode cX7_ring 5 = .ok (.invokevirtual 71, 3) := by decide +kernel
theorem dX7_ring_8 : decode cX7_ring 8 = .ok (.ifCond .ne 9, 3) := by decide +kernel
theorem dX7_ring_11 : decode cX7_ring 11 = .ok (.aload_n 0, 1) := by decide +kernel
theorem dX7_ring_12 : decode cX7_ring 12 = .ok (.iconst 0, 1) := by decide +kernel
theorem dX7_ring_13 : decode cX7_ring 13 = .ok (.invokevirtual 60, 3) := by decide +kernel
theorem dX7_ring_16 : decode cX7_ring 16 = .ok (.ireturn, 1) := by decide +kernel
theorem dX7_ring_17 : decode cX7_ring 17 = .ok (.aload_n 0, 1) := by decide +kernel
theorem dX7_ring_18 : decode cX7_ring 18 = .ok (.getfield 10, 3) := by decide +kernel
theorem dX7_ring_21 : decode cX7_ring 21 = .ok (.iload_n 1, 1) := by decide +kernel
theorem dX7_ring_22 : decode cX7_ring 22 = .ok (.invokevirtual 163, 3) := by decide +kernel
theorem dX7_ring_25 : decode cX7_ring 25 = .ok (.ireturn, 1) := by decide +kernel
theorem dX7_rings_0 : decode cX7_rings 0 = .ok (.iconst 0, 1) := by decide +kernel
theorem dX7_rings_1 : decode cX7_rings 1 = .ok (.istore_n 1, 1) := by decide +kernel
theorem dX7_rings_2 : decode cX7_rings 2 = .ok (.iconst 0, 1) := by decide +kernel
theorem dX7_rings_3 : decode cX7_rings 3 = .ok (.istore_n 2, 1) := by decide +kernel
theorem dX7_rings_4 : decode cX7_rings 4 = .ok (.iconst 0, 1) := by decide +kernel
theorem dX7_rings_5 : decode cX7_rings 5 = .ok (.istore_n 3, 1) := by decide +kernel
theorem dX7_rings_6 : decode cX7_rings 6 = .ok (.iload_n 3, 1) := by decide +kernel
theorem dX7_rings_7 : decode cX7_rings 7 = .ok (.aload_n 0, 1) := by decide +kernel
theorem dX7_rings_8 : decode cX7_rings 8 = .ok (.getfield 10, 3) := by decide +kernel
theorem dX7_rings_11 : decode cX7_rings 11 = .ok (.getfield 121, 3) := by decide +kernel
theorem dX7_rings_14 : decode cX7_rings 14 = .ok (.if_icmp .ge 31, 3) := by decide +kernel
theorem dX7_rings_17 : decode cX7_rings 17 = .ok (.iload_n 1, 1) := by decide +kernel
theorem dX7_rings_18 : decode cX7_rings 18 = .ok (.iload_n 3, 1) := by decide +kernel
theorem dX7_rings_19 : decode cX7_rings 19 = .ok (.ishr, 1) := by decide +kernel
theorem dX7_rings_20 : decode cX7_rings 20 = .ok (.iconst 1, 1) := by decide +kernel
theorem dX7_rings_21 : decode cX7_rings 21 = .ok (.iand, 1) := by decide +kernel
theorem dX7_rings_22 : decode cX7_rings 22 = .ok (.ifCond .ne 17, 3) := by decide +kernel
theorem dX7_rings_25 : decode cX7_rings 25 = .ok (.iload_n 1, 1) := by decide +kernel
theorem dX7_rings_26 : decode cX7_rings 26 = .ok (.aload_n 0, 1) := by decide +kernel
theorem dX7_rings_27 : decode cX7_rings 27 = .ok (.getfield 10, 3) := by decide +kernel
theorem dX7_rings_30 : decode cX7_rings 30 = .ok (.iload_n 3, 1) := by decide +kernel
theorem dX7_rings_31 : decode cX7_rings 31 = .ok (.invokevirtual 163, 3) := by decide +kernel
theorem dX7_rings_34 : decode cX7_rings 34 = .ok (.ior, 1) := by decide +kernel
theorem dX7_rings_35 : decode cX7_rings 35 = .ok (.istore_n 1, 1) := by decide +kernel
theorem dX7_rings_36 : decode cX7_rings 36 = .ok (.iinc 2 1, 3) := by decide +kernel
theorem dX7_rings_39 : decode cX7_rings 39 = .ok (.iinc 3 1, 3) := by decide +kernel
theorem dX7_rings_42 : decode cX7_rings 42 = .ok (.goto (-36), 3) := by decide +kernel
theorem dX7_rings_45 : decode cX7_rings 45 = .ok (.iload_n 2, 1) := by decide +kernel
theorem dX7_rings_46 : decode cX7_rings 46 = .ok (.ireturn, 1) := by decide +kernel
theorem dX7_pairs_0 : decode cX7_pairs 0 = .ok (.iconst 0, 1) := by decide +kernel
theorem dX7_pairs_1 : decode cX7_pairs 1 = .ok (.istore_n 1, 1) := by decide +kernel
theorem dX7_pairs_2 : decode cX7_pairs 2 = .ok (.iconst 0, 1) := by decide +kernel
theorem dX7_pairs_3 : decode cX7_pairs 3 = .ok (.istore_n 2, 1) := by decide +kernel
theorem dX7_pairs_4 : decode cX7_pairs 4 = .ok (.iload_n 2, 1) := by decide +kernel
theorem dX7_pairs_5 : decode cX7_pairs 5 = .ok (.aload_n 0, 1) := by decide +kernel
theorem dX7_pairs_6 : decode cX7_pairs 6 = .ok (.getfield 10, 3) := by decide +kernel
theorem dX7_pairs_9 : decode cX7_pairs 9 = .ok (.getfield 121, 3) := by decide +kernel
theorem dX7_pairs_12 : decode cX7_pairs 12 = .ok (.if_icmp .ge 40, 3) := by decide +kernel
theorem dX7_pairs_15 : decode cX7_pairs 15 = .ok (.aload_n 0, 1) := by decide +kernel
theorem dX7_pairs_16 : decode cX7_pairs 16 = .ok (.getfield 10, 3) := by decide +kernel
theorem dX7_pairs_19 : decode cX7_pairs 19 = .ok (.getfield 89, 3) := by decide +kernel
theorem dX7_pairs_22 : decode cX7_pairs 22 = .ok (.iload_n 2, 1) := by decide +kernel
theorem dX7_pairs_23 : decode cX7_pairs 23 = .ok (.iaload, 1) := by decide +kernel
theorem dX7_pairs_24 : decode cX7_pairs 24 = .ok (.istore_n 3, 1) := by decide +kernel
theorem dX7_pairs_25 : decode cX7_pairs 25 = .ok (.iload_n 3, 1) := by decide +kernel
theorem dX7_pairs_26 : decode cX7_pairs 26 = .ok (.iload_n 2, 1) := by decide +kernel
theorem dX7_pairs_27 : decode cX7_pairs 27 = .ok (.if_icmp .le 19, 3) := by decide +kernel
theorem dX7_pairs_30 : decode cX7_pairs 30 = .ok (.aload_n 0, 1) := by decide +kernel
theorem dX7_pairs_31 : decode cX7_pairs 31 = .ok (.getfield 10, 3) := by decide +kernel
theorem dX7_pairs_34 : decode cX7_pairs 34 = .ok (.getfield 89, 3) := by decide +kernel
theorem dX7_pairs_37 : decode cX7_pairs 37 = .ok (.iload_n 3, 1) := by decide +kernel
theorem dX7_pairs_38 : decode cX7_pairs 38 = .ok (.iaload, 1) := by decide +kernel
theorem dX7_pairs_39 : decode cX7_pairs 39 = .ok (.iload_n 2, 1) := by decide +kernel
theorem dX7_pairs_40 : decode cX7_pairs 40 = .ok (.if_icmp .ne 6, 3) := by decide +kernel
theorem dX7_pairs_43 : decode cX7_pairs 43 = .ok (.iinc 1 1, 3) := by decide +kernel
theorem dX7_pairs_46 : decode cX7_pairs 46 = .ok (.iinc 2 1, 3) := by decide +kernel
theorem dX7_pairs_49 : decode cX7_pairs 49 = .ok (.goto (-45), 3) := by decide +kernel
theorem dX7_pairs_52 : decode cX7_pairs 52 = .ok (.iload_n 1, 1) := by decide +kernel
theorem dX7_pairs_53 : decode cX7_pairs 53 = .ok (.ireturn, 1) := by decide +kernel
theorem dX7_on_0 : decode cX7_on 0 = .ok (.aload_n 0, 1) := by decide +kernel
theorem dX7_on_1 : decode cX7_on 1 = .ok (.getfield 10, 3) := by decide +kernel
theorem dX7_on_4 : decode cX7_on 4 = .ok (.iload_n 1, 1) := by decide +kernel
theorem dX7_on_5 : decode cX7_on 5 = .ok (.invokevirtual 71, 3) := by decide +kernel
theorem dX7_on_8 : decode cX7_on 8 = .ok (.ifCond .eq 22, 3) := by decide +kernel
theorem dX7_on_11 : decode cX7_on 11 = .ok (.iload_n 2, 1) := by decide +kernel
theorem dX7_on_12 : decode cX7_on 12 = .ok (.ifCond .lt 18, 3) := by decide +kernel
theorem dX7_on_15 : decode cX7_on 15 = .ok (.iload_n 2, 1) := by decide +kernel
theorem dX7_on_16 : decode cX7_on 16 = .ok (.bipush 60, 2) := by decide +kernel
theorem dX7_on_18 : decode cX7_on 18 = .ok (.if_icmp .gt 12, 3) := by decide +kernel
theorem dX7_on_21 : decode cX7_on 21 = .ok (.iload_n 3, 1) := by decide +kernel
theorem dX7_on_22 : decode cX7_on 22 = .ok (.ifCond .lt 8, 3) := by decide +kernel
theorem dX7_on_25 : decode cX7_on 25 = .ok (.iload_n 3, 1) := by decide +kernel
theorem dX7_on_26 : decode cX7_on 26 = .ok (.iconst 2, 1) := by decide +kernel
theorem dX7_on_27 : decode cX7_on 27 = .ok (.if_icmp .le 9, 3) := by decide +kernel
theorem dX7_on_30 : decode cX7_on 30 = .ok (.aload_n 0, 1) := by decide +kernel
theorem dX7_on_31 : decode cX7_on 31 = .ok (.iconst 0, 1) := by decide +kernel
theorem dX7_on_32 : decode cX7_on 32 = .ok (.invokevirtual 60, 3) := by decide +kernel
theorem dX7_on_35 : decode cX7_on 35 = .ok (.ireturn, 1) := by decide +kernel
theorem dX7_on_36 : decode cX7_on 36 = .ok (.aload_n 0, 1) := by decide +kernel
theorem dX7_on_37 : decode cX7_on 37 = .ok (.getfield 19, 3) := by decide +kernel
theorem dX7_on_40 : decode cX7_on 40 = .ok (.aload_n 0, 1) := by decide +kernel
theorem dX7_on_41 : decode cX7_on 41 = .ok (.getfield 10, 3) := by decide +kernel
theorem dX7_on_44 : decode cX7_on 44 = .ok (.invokevirtual 166, 3) := by decide +kernel
theorem dX7_on_47 : decode cX7_on 47 = .ok (.aload_n 0, 1) := by decide +kernel
theorem dX7_on_48 : decode cX7_on 48 = .ok (.getfield 19, 3) := by decide +kernel
theorem dX7_on_51 : decode cX7_on 51 = .ok (.iload_n 2, 1) := by decide +kernel
theorem dX7_on_52 : decode cX7_on 52 = .ok (.invokevirtual 137, 3) := by decide +kernel
theorem dX7_on_55 : decode cX7_on 55 = .ok (.iload_n 3, 1) := by decide +kernel
theorem dX7_on_56 : decode cX7_on 56 = .ok (.lookupswitch 48 #[(0, 28), (1, 38)], 28) := by decide +kernel
theorem dX7_on_84 : decode cX7_on 84 = .ok (.aload_n 0, 1) := by decide +kernel
theorem dX7_on_85 : decode cX7_on 85 = .ok (.getfield 19, 3) := by decide +kernel
theorem dX7_on_88 : decode cX7_on 88 = .ok (.getfield 80, 3) := by decide +kernel
theorem dX7_on_91 : decode cX7_on 91 = .ok (.iload_n 1, 1) := by decide +kernel
theorem dX7_on_92 : decode cX7_on 92 = .ok (.iaload, 1) := by decide +kernel
theorem dX7_on_93 : decode cX7_on 93 = .ok (.ireturn, 1) := by decide +kernel
theorem dX7_on_94 : decode cX7_on 94 = .ok (.aload_n 0, 1) := by decide +kernel
theorem dX7_on_95 : decode cX7_on 95 = .ok (.getfield 19, 3) := by decide +kernel
theorem dX7_on_98 : decode cX7_on 98 = .ok (.getfield 83, 3) := by decide +kernel
theorem dX7_on_101 : decode cX7_on 101 = .ok (.iload_n 1, 1) := by decide +kernel
theorem dX7_on_102 : decode cX7_on 102 = .ok (.iaload, 1) := by decide +kernel
theorem dX7_on_103 : decode cX7_on 103 = .ok (.ireturn, 1) := by decide +kernel
theorem dX7_on_104 : decode cX7_on 104 = .ok (.aload_n 0, 1) := by decide +kernel
theorem dX7_on_105 : decode cX7_on 105 = .ok (.getfield 19, 3) := by decide +kernel
theorem dX7_on_108 : decode cX7_on 108 = .ok (.getfield 86, 3) := by decide +kernel
theorem dX7_on_111 : decode cX7_on 111 = .ok (.iload_n 1, 1) := by decide +kernel
theorem dX7_on_112 : decode cX7_on 112 = .ok (.iaload, 1) := by decide +kernel
theorem dX7_on_113 : decode cX7_on 113 = .ok (.ireturn, 1) := by decide +kernel
theorem dX7_itself_0 : decode cX7_itself 0 = .ok (.aload_n 0, 1) := by decide +kernel
theorem dX7_itself_1 : decode cX7_itself 1 = .ok (.getfield 10, 3) := by decide +kernel
theorem dX7_itself_4 : decode cX7_itself 4 = .ok (.iload_n 1, 1) := by decide +kernel
theorem dX7_itself_5 : decode cX7_itself 5 = .ok (.invokevirtual 71, 3) := by decide +kernel
theorem dX7_itself_8 : decode cX7_itself 8 = .ok (.ifCond .ne 9, 3) := by decide +kernel
theorem dX7_itself_11 : decode cX7_itself 11 = .ok (.aload_n 0, 1) := by decide +kernel
theorem dX7_itself_12 : decode cX7_itself 12 = .ok (.iconst 0, 1) := by decide +kernel
theorem dX7_itself_13 : decode cX7_itself 13 = .ok (.invokevirtual 60, 3) := by decide +kernel
theorem dX7_itself_16 : decode cX7_itself 16 = .ok (.ireturn, 1) := by decide +kernel
theorem dX7_itself_17 : decode cX7_itself 17 = .ok (.aload_n 0, 1) := by decide +kernel
theorem dX7_itself_18 : decode cX7_itself 18 = .ok (.getfield 19, 3) := by decide +kernel
theorem dX7_itself_21 : decode cX7_itself 21 = .ok (.aload_n 0, 1) := by decide +kernel
theorem dX7_itself_22 : decode cX7_itself 22 = .ok (.getfield 10, 3) := by decide +kernel
theorem dX7_itself_25 : decode cX7_itself 25 = .ok (.invokevirtual 166, 3) := by decide +kernel
theorem dX7_itself_28 : decode cX7_itself 28 = .ok (.iconst 1, 1) := by decide +kernel
theorem dX7_itself_29 : decode cX7_itself 29 = .ok (.istore_n 2, 1) := by decide +kernel
theorem dX7_itself_30 : decode cX7_itself 30 = .ok (.iload_n 2, 1) := by decide +kernel
theorem dX7_itself_31 : decode cX7_itself 31 = .ok (.bipush 60, 2) := by decide +kernel
theorem dX7_itself_33 : decode cX7_itself 33 = .ok (.if_icmp .gt 31, 3) := by decide +kernel
theorem dX7_itself_36 : decode cX7_itself 36 = .ok (.aload_n 0, 1) := by decide +kernel
theorem dX7_itself_37 : decode cX7_itself 37 = .ok (.getfield 19, 3) := by decide +kernel
theorem dX7_itself_40 : decode cX7_itself 40 = .ok (.invokevirtual 128, 3) := by decide +kernel
theorem dX7_itself_43 : decode cX7_itself 43 = .ok (.aload_n 0, 1) := by decide +kernel
theorem dX7_itself_44 : decode cX7_itself 44 = .ok (.getfield 19, 3) := by decide +kernel
theorem dX7_itself_47 : decode cX7_itself 47 = .ok (.getfield 89, 3) := by decide +kernel
theorem dX7_itself_50 : decode cX7_itself 50 = .ok (.iload_n 1, 1) := by decide +kernel
theorem dX7_itself_51 : decode cX7_itself 51 = .ok (.iaload, 1) := by decide +kernel
theorem dX7_itself_52 : decode cX7_itself 52 = .ok (.iload_n 1, 1) := by decide +kernel
theorem dX7_itself_53 : decode cX7_itself 53 = .ok (.if_icmp .ne 5, 3) := by decide +kernel
theorem dX7_itself_56 : decode cX7_itself 56 = .ok (.iload_n 2, 1) := by decide +kernel
theorem dX7_itself_57 : decode cX7_itself 57 = .ok (.ireturn, 1) := by decide +kernel
theorem dX7_itself_58 : decode cX7_itself 58 = .ok (.iinc 2 1, 3) := by decide +kernel
theorem dX7_itself_61 : decode cX7_itself 61 = .ok (.goto (-31), 3) := by decide +kernel
theorem dX7_itself_64 : decode cX7_itself 64 = .ok (.aload_n 0, 1) := by decide +kernel
theorem dX7_itself_65 : decode cX7_itself 65 = .ok (.iconst 3, 1) := by decide +kernel
theorem dX7_itself_66 : decode cX7_itself 66 = .ok (.invokevirtual 60, 3) := by decide +kernel
theorem dX7_itself_69 : decode cX7_itself 69 = .ok (.ireturn, 1) := by decide +kernel
theorem dX7_most_0 : decode cX7_most 0 = .ok (.aload_n 0, 1) := by decide +kernel
theorem dX7_most_1 : decode cX7_most 1 = .ok (.getfield 25, 3) := by decide +kernel
theorem dX7_most_4 : decode cX7_most 4 = .ok (.aload_n 0, 1) := by decide +kernel
theorem dX7_most_5 : decode cX7_most 5 = .ok (.getfield 10, 3) := by decide +kernel
theorem dX7_most_8 : decode cX7_most 8 = .ok (.invokevirtual 170, 3) := by decide +kernel
theorem dX7_most_11 : decode cX7_most 11 = .ok (.ireturn, 1) := by decide +kernel
theorem dX7_slip_0 : decode cX7_slip 0 = .ok (.aload_n 0, 1) := by decide +kernel
theorem dX7_slip_1 : decode cX7_slip 1 = .ok (.getfield 10, 3) := by decide +kernel
theorem dX7_slip_4 : decode cX7_slip 4 = .ok (.iload_n 1, 1) := by decide +kernel
theorem dX7_slip_5 : decode cX7_slip 5 = .ok (.invokevirtual 71, 3) := by decide +kernel
theorem dX7_slip_8 : decode cX7_slip 8 = .ok (.ifCond .ne 9, 3) := by decide +kernel
theorem dX7_slip_11 : decode cX7_slip 11 = .ok (.aload_n 0, 1) := by decide +kernel
theorem dX7_slip_12 : decode cX7_slip 12 = .ok (.iconst 0, 1) := by decide +kernel
theorem dX7_slip_13 : decode cX7_slip 13 = .ok (.invokevirtual 60, 3) := by decide +kernel
theorem dX7_slip_16 : decode cX7_slip 16 = .ok (.ireturn, 1) := by decide +kernel
theorem dX7_slip_17 : decode cX7_slip 17 = .ok (.aload_n 0, 1) := by decide +kernel
theorem dX7_slip_18 : decode cX7_slip 18 = .ok (.getfield 25, 3) := by decide +kernel
theorem dX7_slip_21 : decode cX7_slip 21 = .ok (.aload_n 0, 1) := by decide +kernel
theorem dX7_slip_22 : decode cX7_slip 22 = .ok (.getfield 10, 3) := by decide +kernel
theorem dX7_slip_25 : decode cX7_slip 25 = .ok (.invokevirtual 170, 3) := by decide +kernel
theorem dX7_slip_28 : decode cX7_slip 28 = .ok (.pop, 1) := by decide +kernel
theorem dX7_slip_29 : decode cX7_slip 29 = .ok (.aload_n 0, 1) := by decide +kernel
theorem dX7_slip_30 : decode cX7_slip 30 = .ok (.getfield 25, 3) := by decide +kernel
theorem dX7_slip_33 : decode cX7_slip 33 = .ok (.iload_n 1, 1) := by decide +kernel
theorem dX7_slip_34 : decode cX7_slip 34 = .ok (.aload_n 0, 1) := by decide +kernel
theorem dX7_slip_35 : decode cX7_slip 35 = .ok (.getfield 10, 3) := by decide +kernel
theorem dX7_slip_38 : decode cX7_slip 38 = .ok (.invokevirtual 174, 3) := by decide +kernel
theorem dX7_slip_41 : decode cX7_slip 41 = .ok (.ireturn, 1) := by decide +kernel
theorem dX7_better_0 : decode cX7_better 0 = .ok (.iconst 0, 1) := by decide +kernel
theorem dX7_better_1 : decode cX7_better 1 = .ok (.istore_n 1, 1) := by decide +kernel
theorem dX7_better_2 : decode cX7_better 2 = .ok (.iconst (-1), 1) := by decide +kernel
theorem dX7_better_3 : decode cX7_better 3 = .ok (.istore_n 2, 1) := by decide +kernel
theorem dX7_better_4 : decode cX7_better 4 = .ok (.iconst 0, 1) := by decide +kernel
theorem dX7_better_5 : decode cX7_better 5 = .ok (.istore_n 3, 1) := by decide +kernel
theorem dX7_better_6 : decode cX7_better 6 = .ok (.iload_n 3, 1) := by decide +kernel
theorem dX7_better_7 : decode cX7_better 7 = .ok (.aload_n 0, 1) := by decide +kernel
theorem dX7_better_8 : decode cX7_better 8 = .ok (.getfield 10, 3) := by decide +kernel
theorem dX7_better_11 : decode cX7_better 11 = .ok (.getfield 121, 3) := by decide +kernel
theorem dX7_better_14 : decode cX7_better 14 = .ok (.if_icmp .ge 78, 3) := by decide +kernel
theorem dX7_better_17 : decode cX7_better 17 = .ok (.iload_n 3, 1) := by decide +kernel
theorem dX7_better_18 : decode cX7_better 18 = .ok (.iconst 1, 1) := by decide +kernel
theorem dX7_better_19 : decode cX7_better 19 = .ok (.iadd, 1) := by decide +kernel
theorem dX7_better_20 : decode cX7_better 20 = .ok (.istore 4, 2) := by decide +kernel
theorem dX7_better_22 : decode cX7_better 22 = .ok (.iload 4, 2) := by decide +kernel
theorem dX7_better_24 : decode cX7_better 24 = .ok (.aload_n 0, 1) := by decide +kernel
theorem dX7_better_25 : decode cX7_better 25 = .ok (.getfield 10, 3) := by decide +kernel
theorem dX7_better_28 : decode cX7_better 28 = .ok (.getfield 121, 3) := by decide +kernel
theorem dX7_better_31 : decode cX7_better 31 = .ok (.if_icmp .ge 55, 3) := by decide +kernel
theorem dX7_better_34 : decode cX7_better 34 = .ok (.aload_n 0, 1) := by decide +kernel
theorem dX7_better_35 : decode cX7_better 35 = .ok (.getfield 10, 3) := by decide +kernel
theorem dX7_better_38 : decode cX7_better 38 = .ok (.iload_n 3, 1) := by decide +kernel
theorem dX7_better_39 : decode cX7_better 39 = .ok (.iload 4, 2) := by decide +kernel
theorem dX7_better_41 : decode cX7_better 41 = .ok (.invokevirtual 110, 3) := by decide +kernel
theorem dX7_better_44 : decode cX7_better 44 = .ok (.ifCond .eq 16, 3) := by decide +kernel
theorem dX7_better_47 : decode cX7_better 47 = .ok (.aload_n 0, 1) := by decide +kernel
theorem dX7_better_48 : decode cX7_better 48 = .ok (.getfield 10, 3) := by decide +kernel
theorem dX7_better_51 : decode cX7_better 51 = .ok (.iload_n 3, 1) := by decide +kernel
theorem dX7_better_52 : decode cX7_better 52 = .ok (.iload 4, 2) := by decide +kernel
theorem dX7_better_54 : decode cX7_better 54 = .ok (.invokevirtual 178, 3) := by decide +kernel
theorem dX7_better_57 : decode cX7_better 57 = .ok (.goto 4, 3) := by decide +kernel
theorem dX7_better_60 : decode cX7_better 60 = .ok (.iconst 0, 1) := by decide +kernel
theorem dX7_better_61 : decode cX7_better 61 = .ok (.istore 5, 2) := by decide +kernel
theorem dX7_better_63 : decode cX7_better 63 = .ok (.iload 5, 2) := by decide +kernel
theorem dX7_better_65 : decode cX7_better 65 = .ok (.iload_n 1, 1) := by decide +kernel
theorem dX7_better_66 : decode cX7_better 66 = .ok (.if_icmp .le 14, 3) := by decide +kernel
theorem dX7_better_69 : decode cX7_better 69 = .ok (.iload 5, 2) := by decide +kernel
theorem dX7_better_71 : decode cX7_better 71 = .ok (.istore_n 1, 1) := by decide +kernel
theorem dX7_better_72 : decode cX7_better 72 = .ok (.bipush 10, 2) := by decide +kernel
theorem dX7_better_74 : decode cX7_better 74 = .ok (.iload_n 3, 1) := by decide +kernel
theorem dX7_better_75 : decode cX7_better 75 = .ok (.imul, 1) := by decide +kernel
theorem dX7_better_76 : decode cX7_better 76 = .ok (.iload 4, 2) := by decide +kernel
theorem dX7_better_78 : decode cX7_better 78 = .ok (.iadd, 1) := by decide +kernel
theorem dX7_better_79 : decode cX7_better 79 = .ok (.istore_n 2, 1) := by decide +kernel
theorem dX7_better_80 : decode cX7_better 80 = .ok (.iinc 4 1, 3) := by decide +kernel
theorem dX7_better_83 : decode cX7_better 83 = .ok (.goto (-61), 3) := by decide +kernel
theorem dX7_better_86 : decode cX7_better 86 = .ok (.iinc 3 1, 3) := by decide +kernel
theorem dX7_better_89 : decode cX7_better 89 = .ok (.goto (-83), 3) := by decide +kernel
theorem dX7_better_92 : decode cX7_better 92 = .ok (.iload_n 2, 1) := by decide +kernel
theorem dX7_better_93 : decode cX7_better 93 = .ok (.ifCond .ge 11, 3) := by decide +kernel
theorem dX7_better_96 : decode cX7_better 96 = .ok (.aload_n 0, 1) := by decide +kernel
theorem dX7_better_97 : decode cX7_better 97 = .ok (.iconst 3, 1) := by decide +kernel
theorem dX7_better_98 : decode cX7_better 98 = .ok (.invokevirtual 60, 3) := by decide +kernel
theorem dX7_better_101 : decode cX7_better 101 = .ok (.goto 4, 3) := by decide +kernel
theorem dX7_better_104 : decode cX7_better 104 = .ok (.iload_n 2, 1) := by decide +kernel
theorem dX7_better_105 : decode cX7_better 105 = .ok (.ireturn, 1) := by decide +kernel
theorem dX7_bestAs_0 : decode cX7_bestAs 0 = .ok (.aload_n 0, 1) := by decide +kernel
theorem dX7_bestAs_1 : decode cX7_bestAs 1 = .ok (.getfield 10, 3) := by decide +kernel
theorem dX7_bestAs_4 : decode cX7_bestAs 4 = .ok (.iload_n 1, 1) := by decide +kernel
theorem dX7_bestAs_5 : decode cX7_bestAs 5 = .ok (.invokevirtual 71, 3) := by decide +kernel
theorem dX7_bestAs_8 : decode cX7_bestAs 8 = .ok (.ifCond .ne 9, 3) := by decide +kernel
theorem dX7_bestAs_11 : decode cX7_bestAs 11 = .ok (.aload_n 0, 1) := by decide +kernel
theorem dX7_bestAs_12 : decode cX7_bestAs 12 = .ok (.iconst 0, 1) := by decide +kernel
theorem dX7_bestAs_13 : decode cX7_bestAs 13 = .ok (.invokevirtual 60, 3) := by decide +kernel
theorem dX7_bestAs_16 : decode cX7_bestAs 16 = .ok (.ireturn, 1) := by decide +kernel
theorem dX7_bestAs_17 : decode cX7_bestAs 17 = .ok (.iconst (-1), 1) := by decide +kernel
theorem dX7_bestAs_18 : decode cX7_bestAs 18 = .ok (.istore_n 2, 1) := by decide +kernel
theorem dX7_bestAs_19 : decode cX7_bestAs 19 = .ok (.iconst (-1), 1) := by decide +kernel
theorem dX7_bestAs_20 : decode cX7_bestAs 20 = .ok (.istore_n 3, 1) := by decide +kernel
theorem dX7_bestAs_21 : decode cX7_bestAs 21 = .ok (.iconst 0, 1) := by decide +kernel
theorem dX7_bestAs_22 : decode cX7_bestAs 22 = .ok (.istore 4, 2) := by decide +kernel
theorem dX7_bestAs_24 : decode cX7_bestAs 24 = .ok (.iload 4, 2) := by decide +kernel
theorem dX7_bestAs_26 : decode cX7_bestAs 26 = .ok (.aload_n 0, 1) := by decide +kernel
theorem dX7_bestAs_27 : decode cX7_bestAs 27 = .ok (.getfield 10, 3) := by decide +kernel
theorem dX7_bestAs_30 : decode cX7_bestAs 30 = .ok (.getfield 121, 3) := by decide +kernel
theorem dX7_bestAs_33 : decode cX7_bestAs 33 = .ok (.if_icmp .ge 56, 3) := by decide +kernel
theorem dX7_bestAs_36 : decode cX7_bestAs 36 = .ok (.iload 4, 2) := by decide +kernel
theorem dX7_bestAs_38 : decode cX7_bestAs 38 = .ok (.iload_n 1, 1) := by decide +kernel
theorem dX7_bestAs_39 : decode cX7_bestAs 39 = .ok (.if_icmp .eq 44, 3) := by decide +kernel
theorem dX7_bestAs_42 : decode cX7_bestAs 42 = .ok (.aload_n 0, 1) := by decide +kernel
theorem dX7_bestAs_43 : decode cX7_bestAs 43 = .ok (.getfield 10, 3) := by decide +kernel
theorem dX7_bestAs_46 : decode cX7_bestAs 46 = .ok (.iload 4, 2) := by decide +kernel
theorem dX7_bestAs_48 : decode cX7_bestAs 48 = .ok (.iload_n 1, 1) := by decide +kernel
theorem dX7_bestAs_49 : decode cX7_bestAs 49 = .ok (.invokevirtual 110, 3) := by decide +kernel
theorem dX7_bestAs_52 : decode cX7_bestAs 52 = .ok (.ifCond .eq 31, 3) := by decide +kernel
theorem dX7_bestAs_55 : decode cX7_bestAs 55 = .ok (.aload_n 0, 1) := by decide +kernel
theorem dX7_bestAs_56 : decode cX7_bestAs 56 = .ok (.getfield 10, 3) := by decide +kernel
theorem dX7_bestAs_59 : decode cX7_bestAs 59 = .ok (.iload 4, 2) := by decide +kernel
theorem dX7_bestAs_61 : decode cX7_bestAs 61 = .ok (.iload_n 1, 1) := by decide +kernel
theorem dX7_bestAs_62 : decode cX7_bestAs 62 = .ok (.invokevirtual 92, 3) := by decide +kernel
theorem dX7_bestAs_65 : decode cX7_bestAs 65 = .ok (.iload_n 2, 1) := by decide +kernel
theorem dX7_bestAs_66 : decode cX7_bestAs 66 = .ok (.if_icmp .le 17, 3) := by decide +kernel
theorem dX7_bestAs_69 : decode cX7_bestAs 69 = .ok (.aload_n 0, 1) := by decide +kernel
theorem dX7_bestAs_70 : decode cX7_bestAs 70 = .ok (.getfield 10, 3) := by decide +kernel
theorem dX7_bestAs_73 : decode cX7_bestAs 73 = .ok (.iload 4, 2) := by decide +kernel
theorem dX7_bestAs_75 : decode cX7_bestAs 75 = .ok (.iload_n 1, 1) := by decide +kernel
theorem dX7_bestAs_76 : decode cX7_bestAs 76 = .ok (.invokevirtual 92, 3) := by decide +kernel
theorem dX7_bestAs_79 : decode cX7_bestAs 79 = .ok (.istore_n 2, 1) := by decide +kernel
theorem dX7_bestAs_80 : decode cX7_bestAs 80 = .ok (.iload 4, 2) := by decide +kernel
theorem dX7_bestAs_82 : decode cX7_bestAs 82 = .ok (.istore_n 3, 1) := by decide +kernel
theorem dX7_bestAs_83 : decode cX7_bestAs 83 = .ok (.iinc 4 1, 3) := by decide +kernel
theorem dX7_bestAs_86 : decode cX7_bestAs 86 = .ok (.goto (-62), 3) := by decide +kernel
theorem dX7_bestAs_89 : decode cX7_bestAs 89 = .ok (.iload_n 3, 1) := by decide +kernel
theorem dX7_bestAs_90 : decode cX7_bestAs 90 = .ok (.ifCond .ge 11, 3) := by decide +kernel
theorem dX7_bestAs_93 : decode cX7_bestAs 93 = .ok (.aload_n 0, 1) := by decide +kernel
theorem dX7_bestAs_94 : decode cX7_bestAs 94 = .ok (.iconst 3, 1) := by decide +kernel
theorem dX7_bestAs_95 : decode cX7_bestAs 95 = .ok (.invokevirtual 60, 3) := by decide +kernel
theorem dX7_bestAs_98 : decode cX7_bestAs 98 = .ok (.goto 4, 3) := by decide +kernel
theorem dX7_bestAs_101 : decode cX7_bestAs 101 = .ok (.iload_n 3, 1) := by decide +kernel
theorem dX7_bestAs_102 : decode cX7_bestAs 102 = .ok (.ireturn, 1) := by decide +kernel
theorem dX7_kind_0 : decode cX7_kind 0 = .ok (.aload_n 0, 1) := by decide +kernel
theorem dX7_kind_1 : decode cX7_kind 1 = .ok (.getfield 10, 3) := by decide +kernel
theorem dX7_kind_4 : decode cX7_kind 4 = .ok (.iload_n 1, 1) := by decide +kernel
theorem dX7_kind_5 : decode cX7_kind 5 = .ok (.invokevirtual 71, 3) := by decide +kernel
theorem dX7_kind_8 : decode cX7_kind 8 = .ok (.ifCond .ne 9, 3) := by decide +kernel
theorem dX7_kind_11 : decode cX7_kind 11 = .ok (.aload_n 0, 1) := by decide +kernel
theorem dX7_kind_12 : decode cX7_kind 12 = .ok (.iconst 0, 1) := by decide +kernel
theorem dX7_kind_13 : decode cX7_kind 13 = .ok (.invokevirtual 60, 3) := by decide +kernel
theorem dX7_kind_16 : decode cX7_kind 16 = .ok (.ireturn, 1) := by decide +kernel
theorem dX7_kind_17 : decode cX7_kind 17 = .ok (.aload_n 0, 1) := by decide +kernel
theorem dX7_kind_18 : decode cX7_kind 18 = .ok (.getfield 10, 3) := by decide +kernel
theorem dX7_kind_21 : decode cX7_kind 21 = .ok (.getfield 89, 3) := by decide +kernel
theorem dX7_kind_24 : decode cX7_kind 24 = .ok (.iload_n 1, 1) := by decide +kernel
theorem dX7_kind_25 : decode cX7_kind 25 = .ok (.iaload, 1) := by decide +kernel
theorem dX7_kind_26 : decode cX7_kind 26 = .ok (.istore_n 2, 1) := by decide +kernel
theorem dX7_kind_27 : decode cX7_kind 27 = .ok (.iconst 0, 1) := by decide +kernel
theorem dX7_kind_28 : decode cX7_kind 28 = .ok (.istore_n 3, 1) := by decide +kernel
theorem dX7_kind_29 : decode cX7_kind 29 = .ok (.iconst 1, 1) := by decide +kernel
theorem dX7_kind_30 : decode cX7_kind 30 = .ok (.istore 4, 2) := by decide +kernel
theorem dX7_kind_32 : decode cX7_kind 32 = .ok (.iload 4, 2) := by decide +kernel
theorem dX7_kind_34 : decode cX7_kind 34 = .ok (.bipush 6, 2) := by decide +kernel
theorem dX7_kind_36 : decode cX7_kind 36 = .ok (.if_icmp .ge 36, 3) := by decide +kernel
theorem dX7_kind_39 : decode cX7_kind 39 = .ok (.aload_n 0, 1) := by decide +kernel
theorem dX7_kind_40 : decode cX7_kind 40 = .ok (.getfield 10, 3) := by decide +kernel
theorem dX7_kind_43 : decode cX7_kind 43 = .ok (.iload 4, 2) := by decide +kernel
theorem dX7_kind_45 : decode cX7_kind 45 = .ok (.iload_n 1, 1) := by decide +kernel
theorem dX7_kind_46 : decode cX7_kind 46 = .ok (.iload_n 2, 1) := by decide +kernel
theorem dX7_kind_47 : decode cX7_kind 47 = .ok (.invokevirtual 181, 3) := by decide +kernel
theorem dX7_kind_50 : decode cX7_kind 50 = .ok (.aload_n 0, 1) := by decide +kernel
theorem dX7_kind_51 : decode cX7_kind 51 = .ok (.getfield 10, 3) := by decide +kernel
theorem dX7_kind_54 : decode cX7_kind 54 = .ok (.iload_n 3, 1) := by decide +kernel
theorem dX7_kind_55 : decode cX7_kind 55 = .ok (.iload_n 1, 1) := by decide +kernel
theorem dX7_kind_56 : decode cX7_kind 56 = .ok (.iload_n 2, 1) := by decide +kernel
theorem dX7_kind_57 : decode cX7_kind 57 = .ok (.invokevirtual 181, 3) := by decide +kernel
theorem dX7_kind_60 : decode cX7_kind 60 = .ok (.if_icmp .le 6, 3) := by decide +kernel
theorem dX7_kind_63 : decode cX7_kind 63 = .ok (.iload 4, 2) := by decide +kernel
theorem dX7_kind_65 : decode cX7_kind 65 = .ok (.istore_n 3, 1) := by decide +kernel
theorem dX7_kind_66 : decode cX7_kind 66 = .ok (.iinc 4 1, 3) := by decide +kernel
theorem dX7_kind_69 : decode cX7_kind 69 = .ok (.goto (-37), 3) := by decide +kernel
theorem dX7_kind_72 : decode cX7_kind 72 = .ok (.iload_n 3, 1) := by decide +kernel
theorem dX7_kind_73 : decode cX7_kind 73 = .ok (.ireturn, 1) := by decide +kernel
theorem dX7_odds_0 : decode cX7_odds 0 = .ok (.iload_n 1, 1) := by decide +kernel
theorem dX7_odds_1 : decode cX7_odds 1 = .ok (.ifCond .lt 8, 3) := by decide +kernel
theorem dX7_odds_4 : decode cX7_odds 4 = .ok (.iload_n 1, 1) := by decide +kernel
theorem dX7_odds_5 : decode cX7_odds 5 = .ok (.iconst 1, 1) := by decide +kernel
theorem dX7_odds_6 : decode cX7_odds 6 = .ok (.if_icmp .le 9, 3) := by decide +kernel
theorem dX7_odds_9 : decode cX7_odds 9 = .ok (.aload_n 0, 1) := by decide +kernel
theorem dX7_odds_10 : decode cX7_odds 10 = .ok (.iconst 0, 1) := by decide +kernel
theorem dX7_odds_11 : decode cX7_odds 11 = .ok (.invokevirtual 60, 3) := by decide +kernel
theorem dX7_odds_14 : decode cX7_odds 14 = .ok (.ireturn, 1) := by decide +kernel
theorem dX7_odds_15 : decode cX7_odds 15 = .ok (.aload_n 0, 1) := by decide +kernel
theorem dX7_odds_16 : decode cX7_odds 16 = .ok (.getfield 10, 3) := by decide +kernel
theorem dX7_odds_19 : decode cX7_odds 19 = .ok (.invokevirtual 148, 3) := by decide +kernel
theorem dX7_odds_22 : decode cX7_odds 22 = .ok (.invokestatic 185, 3) := by decide +kernel
theorem dX7_odds_25 : decode cX7_odds 25 = .ok (.istore_n 2, 1) := by decide +kernel
theorem dX7_odds_26 : decode cX7_odds 26 = .ok (.aload_n 0, 1) := by decide +kernel
theorem dX7_odds_27 : decode cX7_odds 27 = .ok (.getfield 10, 3) := by decide +kernel
theorem dX7_odds_30 : decode cX7_odds 30 = .ok (.getfield 121, 3) := by decide +kernel
theorem dX7_odds_33 : decode cX7_odds 33 = .ok (.iload_n 2, 1) := by decide +kernel
theorem dX7_odds_34 : decode cX7_odds 34 = .ok (.isub, 1) := by decide +kernel
theorem dX7_odds_35 : decode cX7_odds 35 = .ok (.istore_n 3, 1) := by decide +kernel
theorem dX7_odds_36 : decode cX7_odds 36 = .ok (.iload_n 3, 1) := by decide +kernel
theorem dX7_odds_37 : decode cX7_odds 37 = .ok (.invokestatic 190, 3) := by decide +kernel
theorem dX7_odds_40 : decode cX7_odds 40 = .ok (.iload_n 2, 1) := by decide +kernel
theorem dX7_odds_41 : decode cX7_odds 41 = .ok (.invokestatic 190, 3) := by decide +kernel
theorem dX7_odds_44 : decode cX7_odds 44 = .ok (.imul, 1) := by decide +kernel
theorem dX7_odds_45 : decode cX7_odds 45 = .ok (.istore 4, 2) := by decide +kernel
theorem dX7_odds_47 : decode cX7_odds 47 = .ok (.iload_n 3, 1) := by decide +kernel
theorem dX7_odds_48 : decode cX7_odds 48 = .ok (.invokestatic 195, 3) := by decide +kernel
theorem dX7_odds_51 : decode cX7_odds 51 = .ok (.iload_n 2, 1) := by decide +kernel
theorem dX7_odds_52 : decode cX7_odds 52 = .ok (.invokestatic 195, 3) := by decide +kernel
theorem dX7_odds_55 : decode cX7_odds 55 = .ok (.imul, 1) := by decide +kernel
theorem dX7_odds_56 : decode cX7_odds 56 = .ok (.istore 5, 2) := by decide +kernel
theorem dX7_odds_58 : decode cX7_odds 58 = .ok (.iload 4, 2) := by decide +kernel
theorem dX7_odds_60 : decode cX7_odds 60 = .ok (.iload 5, 2) := by decide +kernel
theorem dX7_odds_62 : decode cX7_odds 62 = .ok (.invokestatic 198, 3) := by decide +kernel
theorem dX7_odds_65 : decode cX7_odds 65 = .ok (.istore 6, 2) := by decide +kernel
theorem dX7_odds_67 : decode cX7_odds 67 = .ok (.iload_n 1, 1) := by decide +kernel
theorem dX7_odds_68 : decode cX7_odds 68 = .ok (.ifCond .ne 8, 3) := by decide +kernel
theorem dX7_odds_71 : decode cX7_odds 71 = .ok (.iload 4, 2) := by decide +kernel
theorem dX7_odds_73 : decode cX7_odds 73 = .ok (.goto 5, 3) := by decide +kernel
theorem dX7_odds_76 : decode cX7_odds 76 = .ok (.iload 5, 2) := by decide +kernel
theorem dX7_odds_78 : decode cX7_odds 78 = .ok (.iload 6, 2) := by decide +kernel
theorem dX7_odds_80 : decode cX7_odds 80 = .ok (.idiv, 1) := by decide +kernel
theorem dX7_odds_81 : decode cX7_odds 81 = .ok (.ireturn, 1) := by decide +kernel
theorem dX7_lots_0 : decode cX7_lots 0 = .ok (.iload_n 1, 1) := by decide +kernel
theorem dX7_lots_1 : decode cX7_lots 1 = .ok (.ifCond .lt 9, 3) := by decide +kernel
theorem dX7_lots_4 : decode cX7_lots 4 = .ok (.iload_n 1, 1) := by decide +kernel
theorem dX7_lots_5 : decode cX7_lots 5 = .ok (.bipush 8, 2) := by decide +kernel
theorem dX7_lots_7 : decode cX7_lots 7 = .ok (.if_icmp .le 9, 3) := by decide +kernel
theorem dX7_lots_10 : decode cX7_lots 10 = .ok (.aload_n 0, 1) := by decide +kernel
theorem dX7_lots_11 : decode cX7_lots 11 = .ok (.iconst 0, 1) := by decide +kernel
theorem dX7_lots_12 : decode cX7_lots 12 = .ok (.invokevirtual 60, 3) := by decide +kernel
theorem dX7_lots_15 : decode cX7_lots 15 = .ok (.ireturn, 1) := by decide +kernel
theorem dX7_lots_16 : decode cX7_lots 16 = .ok (.aload_n 0, 1) := by decide +kernel
theorem dX7_lots_17 : decode cX7_lots 17 = .ok (.getfield 10, 3) := by decide +kernel
theorem dX7_lots_20 : decode cX7_lots 20 = .ok (.invokevirtual 148, 3) := by decide +kernel
theorem dX7_lots_23 : decode cX7_lots 23 = .ok (.invokestatic 185, 3) := by decide +kernel
theorem dX7_lots_26 : decode cX7_lots 26 = .ok (.istore_n 2, 1) := by decide +kernel
theorem dX7_lots_27 : decode cX7_lots 27 = .ok (.aload_n 0, 1) := by decide +kernel
theorem dX7_lots_28 : decode cX7_lots 28 = .ok (.getfield 10, 3) := by decide +kernel
theorem dX7_lots_31 : decode cX7_lots 31 = .ok (.getfield 121, 3) := by decide +kernel
theorem dX7_lots_34 : decode cX7_lots 34 = .ok (.iload_n 2, 1) := by decide +kernel
theorem dX7_lots_35 : decode cX7_lots 35 = .ok (.isub, 1) := by decide +kernel
theorem dX7_lots_36 : decode cX7_lots 36 = .ok (.istore_n 3, 1) := by decide +kernel
theorem dX7_lots_37 : decode cX7_lots 37 = .ok (.iconst 0, 1) := by decide +kernel
theorem dX7_lots_38 : decode cX7_lots 38 = .ok (.istore 4, 2) := by decide +kernel
theorem dX7_lots_40 : decode cX7_lots 40 = .ok (.iconst 0, 1) := by decide +kernel
theorem dX7_lots_41 : decode cX7_lots 41 = .ok (.istore 5, 2) := by decide +kernel
theorem dX7_lots_43 : decode cX7_lots 43 = .ok (.iload 5, 2) := by decide +kernel
theorem dX7_lots_45 : decode cX7_lots 45 = .ok (.iload_n 1, 1) := by decide +kernel
theorem dX7_lots_46 : decode cX7_lots 46 = .ok (.if_icmp .gt 29, 3) := by decide +kernel
theorem dX7_lots_49 : decode cX7_lots 49 = .ok (.iload 4, 2) := by decide +kernel
theorem dX7_lots_51 : decode cX7_lots 51 = .ok (.iload_n 3, 1) := by decide +kernel
theorem dX7_lots_52 : decode cX7_lots 52 = .ok (.iload 5, 2) := by decide +kernel
theorem dX7_lots_54 : decode cX7_lots 54 = .ok (.invokestatic 201, 3) := by decide +kernel
theorem dX7_lots_57 : decode cX7_lots 57 = .ok (.iload_n 2, 1) := by decide +kernel
theorem dX7_lots_58 : decode cX7_lots 58 = .ok (.iload_n 1, 1) := by decide +kernel
theorem dX7_lots_59 : decode cX7_lots 59 = .ok (.iload 5, 2) := by decide +kernel
theorem dX7_lots_61 : decode cX7_lots 61 = .ok (.isub, 1) := by decide +kernel
theorem dX7_lots_62 : decode cX7_lots 62 = .ok (.invokestatic 201, 3) := by decide +kernel
theorem dX7_lots_65 : decode cX7_lots 65 = .ok (.imul, 1) := by decide +kernel
theorem dX7_lots_66 : decode cX7_lots 66 = .ok (.iadd, 1) := by decide +kernel
theorem dX7_lots_67 : decode cX7_lots 67 = .ok (.istore 4, 2) := by decide +kernel
theorem dX7_lots_69 : decode cX7_lots 69 = .ok (.iinc 5 1, 3) := by decide +kernel
theorem dX7_lots_72 : decode cX7_lots 72 = .ok (.goto (-29), 3) := by decide +kernel
theorem dX7_lots_75 : decode cX7_lots 75 = .ok (.iload 4, 2) := by decide +kernel
theorem dX7_lots_77 : decode cX7_lots 77 = .ok (.ireturn, 1) := by decide +kernel
theorem dX7_feed_0 : decode cX7_feed 0 = .ok (.iload_n 2, 1) := by decide +kernel
theorem dX7_feed_1 : decode cX7_feed 1 = .ok (.iconst 1, 1) := by decide +kernel
theorem dX7_feed_2 : decode cX7_feed 2 = .ok (.if_icmp .lt 8, 3) := by decide +kernel
theorem dX7_feed_5 : decode cX7_feed 5 = .ok (.iload_n 2, 1) := by decide +kernel
theorem dX7_feed_6 : decode cX7_feed 6 = .ok (.iconst 4, 1) := by decide +kernel
theorem dX7_feed_7 : decode cX7_feed 7 = .ok (.if_icmp .le 9, 3) := by decide +kernel
theorem dX7_feed_10 : decode cX7_feed 10 = .ok (.aload_n 0, 1) := by decide +kernel
theorem dX7_feed_11 : decode cX7_feed 11 = .ok (.iconst 0, 1) := by decide +kernel
theorem dX7_feed_12 : decode cX7_feed 12 = .ok (.invokevirtual 60, 3) := by decide +kernel
theorem dX7_feed_15 : decode cX7_feed 15 = .ok (.ireturn, 1) := by decide +kernel
theorem dX7_feed_16 : decode cX7_feed 16 = .ok (.aload_n 0, 1) := by decide +kernel
theorem dX7_feed_17 : decode cX7_feed 17 = .ok (.getfield 32, 3) := by decide +kernel
theorem dX7_feed_20 : decode cX7_feed 20 = .ok (.getfield 204, 3) := by decide +kernel
theorem dX7_feed_23 : decode cX7_feed 23 = .ok (.iload_n 2, 1) := by decide +kernel
theorem dX7_feed_24 : decode cX7_feed 24 = .ok (.iadd, 1) := by decide +kernel
theorem dX7_feed_25 : decode cX7_feed 25 = .ok (.bipush 120, 2) := by decide +kernel
theorem dX7_feed_27 : decode cX7_feed 27 = .ok (.if_icmp .le 9, 3) := by decide +kernel
theorem dX7_feed_30 : decode cX7_feed 30 = .ok (.aload_n 0, 1) := by decide +kernel
theorem dX7_feed_31 : decode cX7_feed 31 = .ok (.iconst 1, 1) := by decide +kernel
theorem dX7_feed_32 : decode cX7_feed 32 = .ok (.invokevirtual 60, 3) := by decide +kernel
theorem dX7_feed_35 : decode cX7_feed 35 = .ok (.ireturn, 1) := by decide +kernel
theorem dX7_feed_36 : decode cX7_feed 36 = .ok (.iload_n 2, 1) := by decide +kernel
theorem dX7_feed_37 : decode cX7_feed 37 = .ok (.iconst 1, 1) := by decide +kernel
theorem dX7_feed_38 : decode cX7_feed 38 = .ok (.isub, 1) := by decide +kernel
theorem dX7_feed_39 : decode cX7_feed 39 = .ok (.istore_n 3, 1) := by decide +kernel
theorem dX7_feed_40 : decode cX7_feed 40 = .ok (.iload_n 3, 1) := by decide +kernel
theorem dX7_feed_41 : decode cX7_feed 41 = .ok (.ifCond .lt 26, 3) := by decide +kernel
theorem dX7_feed_44 : decode cX7_feed 44 = .ok (.aload_n 0, 1) := by decide +kernel
theorem dX7_feed_45 : decode cX7_feed 45 = .ok (.getfield 32, 3) := by decide +kernel
theorem dX7_feed_48 : decode cX7_feed 48 = .ok (.iload_n 1, 1) := by decide +kernel
theorem dX7_feed_49 : decode cX7_feed 49 = .ok (.bipush 8, 2) := by decide +kernel
theorem dX7_feed_51 : decode cX7_feed 51 = .ok (.iload_n 3, 1) := by decide +kernel
theorem dX7_feed_52 : decode cX7_feed 52 = .ok (.imul, 1) := by decide +kernel
theorem dX7_feed_53 : decode cX7_feed 53 = .ok (.iushr, 1) := by decide +kernel
theorem dX7_feed_54 : decode cX7_feed 54 = .ok (.sipush 255, 3) := by decide +kernel
theorem dX7_feed_57 : decode cX7_feed 57 = .ok (.iand, 1) := by decide +kernel
theorem dX7_feed_58 : decode cX7_feed 58 = .ok (.invokevirtual 205, 3) := by decide +kernel
theorem dX7_feed_61 : decode cX7_feed 61 = .ok (.iinc 3 (-1), 3) := by decide +kernel
theorem dX7_feed_64 : decode cX7_feed 64 = .ok (.goto (-24), 3) := by decide +kernel
theorem dX7_feed_67 : decode cX7_feed 67 = .ok (.aload_n 0, 1) := by decide +kernel
theorem dX7_feed_68 : decode cX7_feed 68 = .ok (.getfield 32, 3) := by decide +kernel
theorem dX7_feed_71 : decode cX7_feed 71 = .ok (.getfield 204, 3) := by decide +kernel
theorem dX7_feed_74 : decode cX7_feed 74 = .ok (.ireturn, 1) := by decide +kernel
theorem dX7_wipe_0 : decode cX7_wipe 0 = .ok (.aload_n 0, 1) := by decide +kernel
theorem dX7_wipe_1 : decode cX7_wipe 1 = .ok (.getfield 32, 3) := by decide +kernel
theorem dX7_wipe_4 : decode cX7_wipe 4 = .ok (.getfield 204, 3) := by decide +kernel
theorem dX7_wipe_7 : decode cX7_wipe 7 = .ok (.istore_n 1, 1) := by decide +kernel
theorem dX7_wipe_8 : decode cX7_wipe 8 = .ok (.aload_n 0, 1) := by decide +kernel
theorem dX7_wipe_9 : decode cX7_wipe 9 = .ok (.getfield 32, 3) := by decide +kernel
theorem dX7_wipe_12 : decode cX7_wipe 12 = .ok (.iconst 0, 1) := by decide +kernel
theorem dX7_wipe_13 : decode cX7_wipe 13 = .ok (.putfield 204, 3) := by decide +kernel
theorem dX7_wipe_16 : decode cX7_wipe 16 = .ok (.iload_n 1, 1) := by decide +kernel
theorem dX7_wipe_17 : decode cX7_wipe 17 = .ok (.ireturn, 1) := by decide +kernel
theorem dX7_village_0 : decode cX7_village 0 = .ok (.aload_n 0, 1) := by decide +kernel
theorem dX7_village_1 : decode cX7_village 1 = .ok (.getfield 19, 3) := by decide +kernel
theorem dX7_village_4 : decode cX7_village 4 = .ok (.aload_n 0, 1) := by decide +kernel
theorem dX7_village_5 : decode cX7_village 5 = .ok (.getfield 10, 3) := by decide +kernel
theorem dX7_village_8 : decode cX7_village 8 = .ok (.invokevirtual 166, 3) := by decide +kernel
theorem dX7_village_11 : decode cX7_village 11 = .ok (.aload_n 0, 1) := by decide +kernel
theorem dX7_village_12 : decode cX7_village 12 = .ok (.getfield 41, 3) := by decide +kernel
theorem dX7_village_15 : decode cX7_village 15 = .ok (.aload_n 0, 1) := by decide +kernel
theorem dX7_village_16 : decode cX7_village 16 = .ok (.getfield 19, 3) := by decide +kernel
theorem dX7_village_19 : decode cX7_village 19 = .ok (.invokevirtual 207, 3) := by decide +kernel
theorem dX7_village_22 : decode cX7_village 22 = .ok (.istore_n 1, 1) := by decide +kernel
theorem dX7_village_23 : decode cX7_village 23 = .ok (.iload_n 1, 1) := by decide +kernel
theorem dX7_village_24 : decode cX7_village 24 = .ok (.ifCond .lt 14, 3) := by decide +kernel
theorem dX7_village_27 : decode cX7_village 27 = .ok (.aload_n 0, 1) := by decide +kernel
theorem dX7_village_28 : decode cX7_village 28 = .ok (.getfield 10, 3) := by decide +kernel
theorem dX7_village_31 : decode cX7_village 31 = .ok (.aload_n 0, 1) := by decide +kernel
theorem dX7_village_32 : decode cX7_village 32 = .ok (.getfield 19, 3) := by decide +kernel
theorem dX7_village_35 : decode cX7_village 35 = .ok (.invokevirtual 166, 3) := by decide +kernel
theorem dX7_village_38 : decode cX7_village 38 = .ok (.aload_n 0, 1) := by decide +kernel
theorem dX7_village_39 : decode cX7_village 39 = .ok (.getfield 32, 3) := by decide +kernel
theorem dX7_village_42 : decode cX7_village 42 = .ok (.iconst 0, 1) := by decide +kernel
theorem dX7_village_43 : decode cX7_village 43 = .ok (.putfield 204, 3) := by decide +kernel
theorem dX7_village_46 : decode cX7_village 46 = .ok (.iload_n 1, 1) := by decide +kernel
theorem dX7_village_47 : decode cX7_village 47 = .ok (.ireturn, 1) := by decide +kernel
theorem dX7_sheet_0 : decode cX7_sheet 0 = .ok (.iload_n 1, 1) := by decide +kernel
theorem dX7_sheet_1 : decode cX7_sheet 1 = .ok (.invokestatic 210, 3) := by decide +kernel
theorem dX7_sheet_4 : decode cX7_sheet 4 = .ok (.ifCond .eq 25, 3) := by decide +kernel
theorem dX7_sheet_7 : decode cX7_sheet 7 = .ok (.iload_n 2, 1) := by decide +kernel
theorem dX7_sheet_8 : decode cX7_sheet 8 = .ok (.ifCond .eq 27, 3) := by decide +kernel
theorem dX7_sheet_11 : decode cX7_sheet 11 = .ok (.iload_n 2, 1) := by decide +kernel
theorem dX7_sheet_12 : decode cX7_sheet 12 = .ok (.bipush 8, 2) := by decide +kernel
theorem dX7_sheet_14 : decode cX7_sheet 14 = .ok (.if_icmp .eq 21, 3) := by decide +kernel
theorem dX7_sheet_17 : decode cX7_sheet 17 = .ok (.iload_n 2, 1) := by decide +kernel
theorem dX7_sheet_18 : decode cX7_sheet 18 = .ok (.bipush 16, 2) := by decide +kernel
theorem dX7_sheet_20 : decode cX7_sheet 20 = .ok (.if_icmp .eq 15, 3) := by decide +kernel
theorem dX7_sheet_23 : decode cX7_sheet 23 = .ok (.iload_n 2, 1) := by decide +kernel
theorem dX7_sheet_24 : decode cX7_sheet 24 = .ok (.bipush 64, 2) := by decide +kernel
theorem dX7_sheet_26 : decode cX7_sheet 26 = .ok (.if_icmp .eq 9, 3) := by decide +kernel
theorem dX7_sheet_29 : decode cX7_sheet 29 = .ok (.aload_n 0, 1) := by decide +kernel
theorem dX7_sheet_30 : decode cX7_sheet 30 = .ok (.iconst 0, 1) := by decide +kernel
theorem dX7_sheet_31 : decode cX7_sheet 31 = .ok (.invokevirtual 60, 3) := by decide +kernel
theorem dX7_sheet_34 : decode cX7_sheet 34 = .ok (.ireturn, 1) := by decide +kernel
theorem dX7_sheet_35 : decode cX7_sheet 35 = .ok (.iload_n 3, 1) := by decide +kernel
theorem dX7_sheet_36 : decode cX7_sheet 36 = .ok (.ifCond .ge 10, 3) := by decide +kernel
theorem dX7_sheet_39 : decode cX7_sheet 39 = .ok (.aload_n 0, 1) := by decide +kernel
theorem dX7_sheet_40 : decode cX7_sheet 40 = .ok (.bipush 6, 2) := by decide +kernel
theorem dX7_sheet_42 : decode cX7_sheet 42 = .ok (.invokevirtual 60, 3) := by decide +kernel
theorem dX7_sheet_45 : decode cX7_sheet 45 = .ok (.ireturn, 1) := by decide +kernel
theorem dX7_sheet_46 : decode cX7_sheet 46 = .ok (.iload_n 3, 1) := by decide +kernel
theorem dX7_sheet_47 : decode cX7_sheet 47 = .ok (.bipush 40, 2) := by decide +kernel
theorem dX7_sheet_49 : decode cX7_sheet 49 = .ok (.if_icmp .le 9, 3) := by decide +kernel
theorem dX7_sheet_52 : decode cX7_sheet 52 = .ok (.aload_n 0, 1) := by decide +kernel
theorem dX7_sheet_53 : decode cX7_sheet 53 = .ok (.iconst 0, 1) := by decide +kernel
theorem dX7_sheet_54 : decode cX7_sheet 54 = .ok (.invokevirtual 60, 3) := by decide +kernel
theorem dX7_sheet_57 : decode cX7_sheet 57 = .ok (.ireturn, 1) := by decide +kernel
theorem dX7_sheet_58 : decode cX7_sheet 58 = .ok (.aload_n 0, 1) := by decide +kernel
theorem dX7_sheet_59 : decode cX7_sheet 59 = .ok (.getfield 47, 3) := by decide +kernel
theorem dX7_sheet_62 : decode cX7_sheet 62 = .ok (.iload_n 1, 1) := by decide +kernel
theorem dX7_sheet_63 : decode cX7_sheet 63 = .ok (.aaload, 1) := by decide +kernel
theorem dX7_sheet_64 : decode cX7_sheet 64 = .ok (.iload_n 2, 1) := by decide +kernel
theorem dX7_sheet_65 : decode cX7_sheet 65 = .ok (.iload_n 3, 1) := by decide +kernel
theorem dX7_sheet_66 : decode cX7_sheet 66 = .ok (.invokevirtual 213, 3) := by decide +kernel
theorem dX7_sheet_69 : decode cX7_sheet 69 = .ok (.ireturn, 1) := by decide +kernel
theorem dX7_write_0 : decode cX7_write 0 = .ok (.iload_n 1, 1) := by decide +kernel
theorem dX7_write_1 : decode cX7_write 1 = .ok (.invokestatic 210, 3) := by decide +kernel
theorem dX7_write_4 : decode cX7_write 4 = .ok (.ifCond .ne 10, 3) := by decide +kernel
theorem dX7_write_7 : decode cX7_write 7 = .ok (.aload_n 0, 1) := by decide +kernel
theorem dX7_write_8 : decode cX7_write 8 = .ok (.iconst 0, 1) := by decide +kernel
theorem dX7_write_9 : decode cX7_write 9 = .ok (.invokevirtual 60, 3) := by decide +kernel
theorem dX7_write_12 : decode cX7_write 12 = .ok (.i2l, 1) := by decide +kernel
theorem dX7_write_13 : decode cX7_write 13 = .ok (.lreturn, 1) := by decide +kernel
theorem dX7_write_14 : decode cX7_write 14 = .ok (.aload_n 0, 1) := by decide +kernel
theorem dX7_write_15 : decode cX7_write 15 = .ok (.getfield 47, 3) := by decide +kernel
theorem dX7_write_18 : decode cX7_write 18 = .ok (.iload_n 1, 1) := by decide +kernel
theorem dX7_write_19 : decode cX7_write 19 = .ok (.aaload, 1) := by decide +kernel
theorem dX7_write_20 : decode cX7_write 20 = .ok (.astore 5, 2) := by decide +kernel
theorem dX7_write_22 : decode cX7_write 22 = .ok (.aload 5, 2) := by decide +kernel
theorem dX7_write_24 : decode cX7_write 24 = .ok (.invokevirtual 216, 3) := by decide +kernel
theorem dX7_write_27 : decode cX7_write 27 = .ok (.ifCond .eq 10, 3) := by decide +kernel
theorem dX7_write_30 : decode cX7_write 30 = .ok (.aload_n 0, 1) := by decide +kernel
theorem dX7_write_31 : decode cX7_write 31 = .ok (.iconst 5, 1) := by decide +kernel
theorem dX7_write_32 : decode cX7_write 32 = .ok (.invokevirtual 60, 3) := by decide +kernel
theorem dX7_write_35 : decode cX7_write 35 = .ok (.i2l, 1) := by decide +kernel
theorem dX7_write_36 : decode cX7_write 36 = .ok (.lreturn, 1) := by decide +kernel
theorem dX7_write_37 : decode cX7_write 37 = .ok (.iload_n 2, 1) := by decide +kernel
theorem dX7_write_38 : decode cX7_write 38 = .ok (.ifCond .lt 12, 3) := by decide +kernel
theorem dX7_write_41 : decode cX7_write 41 = .ok (.iload_n 2, 1) := by decide +kernel
theorem dX7_write_42 : decode cX7_write 42 = .ok (.aload 5, 2) := by decide +kernel
theorem dX7_write_44 : decode cX7_write 44 = .ok (.getfield 219, 3) := by decide +kernel
theorem dX7_write_47 : decode cX7_write 47 = .ok (.if_icmp .lt 10, 3) := by decide +kernel
theorem dX7_write_50 : decode cX7_write 50 = .ok (.aload_n 0, 1) := by decide +kernel
theorem dX7_write_51 : decode cX7_write 51 = .ok (.iconst 0, 1) := by decide +kernel
theorem dX7_write_52 : decode cX7_write 52 = .ok (.invokevirtual 60, 3) := by decide +kernel
theorem dX7_write_55 : decode cX7_write 55 = .ok (.i2l, 1) := by decide +kernel
theorem dX7_write_56 : decode cX7_write 56 = .ok (.lreturn, 1) := by decide +kernel
theorem dX7_write_57 : decode cX7_write 57 = .ok (.aload 5, 2) := by decide +kernel
theorem dX7_write_59 : decode cX7_write 59 = .ok (.getfield 220, 3) := by decide +kernel
theorem dX7_write_62 : decode cX7_write 62 = .ok (.iload_n 2, 1) := by decide +kernel
theorem dX7_write_63 : decode cX7_write 63 = .ok (.laload, 1) := by decide +kernel
theorem dX7_write_64 : decode cX7_write 64 = .ok (.lstore 6, 2) := by decide +kernel
theorem dX7_write_66 : decode cX7_write 66 = .ok (.aload 5, 2) := by decide +kernel
theorem dX7_write_68 : decode cX7_write 68 = .ok (.iload_n 2, 1) := by decide +kernel
theorem dX7_write_69 : decode cX7_write 69 = .ok (.lload_n 3, 1) := by decide +kernel
theorem dX7_write_70 : decode cX7_write 70 = .ok (.invokevirtual 224, 3) := by decide +kernel
theorem dX7_write_73 : decode cX7_write 73 = .ok (.lload 6, 2) := by decide +kernel
theorem dX7_write_75 : decode cX7_write 75 = .ok (.lreturn, 1) := by decide +kernel
theorem dX7_copy_0 : decode cX7_copy 0 = .ok (.iload_n 1, 1) := by decide +kernel
theorem dX7_copy_1 : decode cX7_copy 1 = .ok (.invokestatic 210, 3) := by decide +kernel
theorem dX7_copy_4 : decode cX7_copy 4 = .ok (.ifCond .eq 10, 3) := by decide +kernel
theorem dX7_copy_7 : decode cX7_copy 7 = .ok (.iload_n 3, 1) := by decide +kernel
theorem dX7_copy_8 : decode cX7_copy 8 = .ok (.invokestatic 210, 3) := by decide +kernel
theorem dX7_copy_11 : decode cX7_copy 11 = .ok (.ifCond .ne 9, 3) := by decide +kernel
theorem dX7_copy_14 : decode cX7_copy 14 = .ok (.aload_n 0, 1) := by decide +kernel
theorem dX7_copy_15 : decode cX7_copy 15 = .ok (.iconst 0, 1) := by decide +kernel
theorem dX7_copy_16 : decode cX7_copy 16 = .ok (.invokevirtual 60, 3) := by decide +kernel
theorem dX7_copy_19 : decode cX7_copy 19 = .ok (.ireturn, 1) := by decide +kernel
theorem dX7_copy_20 : decode cX7_copy 20 = .ok (.aload_n 0, 1) := by decide +kernel
theorem dX7_copy_21 : decode cX7_copy 21 = .ok (.getfield 47, 3) := by decide +kernel
theorem dX7_copy_24 : decode cX7_copy 24 = .ok (.iload_n 1, 1) := by decide +kernel
theorem dX7_copy_25 : decode cX7_copy 25 = .ok (.aaload, 1) := by decide +kernel
theorem dX7_copy_26 : decode cX7_copy 26 = .ok (.astore 6, 2) := by decide +kernel
theorem dX7_copy_28 : decode cX7_copy 28 = .ok (.aload_n 0, 1) := by decide +kernel
theorem dX7_copy_29 : decode cX7_copy 29 = .ok (.getfield 47, 3) := by decide +kernel
theorem dX7_copy_32 : decode cX7_copy 32 = .ok (.iload_n 3, 1) := by decide +kernel
theorem dX7_copy_33 : decode cX7_copy 33 = .ok (.aaload, 1) := by decide +kernel
theorem dX7_copy_34 : decode cX7_copy 34 = .ok (.astore 7, 2) := by decide +kernel
theorem dX7_copy_36 : decode cX7_copy 36 = .ok (.aload 6, 2) := by decide +kernel
theorem dX7_copy_38 : decode cX7_copy 38 = .ok (.invokevirtual 216, 3) := by decide +kernel
theorem dX7_copy_41 : decode cX7_copy 41 = .ok (.ifCond .ne 11, 3) := by decide +kernel
theorem dX7_copy_44 : decode cX7_copy 44 = .ok (.aload 7, 2) := by decide +kernel
theorem dX7_copy_46 : decode cX7_copy 46 = .ok (.invokevirtual 216, 3) := by decide +kernel
theorem dX7_copy_49 : decode cX7_copy 49 = .ok (.ifCond .eq 9, 3) := by decide +kernel
theorem dX7_copy_52 : decode cX7_copy 52 = .ok (.aload_n 0, 1) := by decide +kernel
theorem dX7_copy_53 : decode cX7_copy 53 = .ok (.iconst 5, 1) := by decide +kernel
theorem dX7_copy_54 : decode cX7_copy 54 = .ok (.invokevirtual 60, 3) := by decide +kernel
theorem dX7_copy_57 : decode cX7_copy 57 = .ok (.ireturn, 1) := by decide +kernel
theorem dX7_copy_58 : decode cX7_copy 58 = .ok (.aload 6, 2) := by decide +kernel
theorem dX7_copy_60 : decode cX7_copy 60 = .ok (.getfield 228, 3) := by decide +kernel
theorem dX7_copy_63 : decode cX7_copy 63 = .ok (.aload 7, 2) := by decide +kernel
theorem dX7_copy_65 : decode cX7_copy 65 = .ok (.getfield 228, 3) := by decide +kernel
theorem dX7_copy_68 : decode cX7_copy 68 = .ok (.if_icmp .eq 9, 3) := by decide +kernel
theorem dX7_copy_71 : decode cX7_copy 71 = .ok (.aload_n 0, 1) := by decide +kernel
theorem dX7_copy_72 : decode cX7_copy 72 = .ok (.iconst 2, 1) := by decide +kernel
theorem dX7_copy_73 : decode cX7_copy 73 = .ok (.invokevirtual 60, 3) := by decide +kernel
theorem dX7_copy_76 : decode cX7_copy 76 = .ok (.ireturn, 1) := by decide +kernel
theorem dX7_copy_77 : decode cX7_copy 77 = .ok (.aload 6, 2) := by decide +kernel
theorem dX7_copy_79 : decode cX7_copy 79 = .ok (.iload_n 2, 1) := by decide +kernel
theorem dX7_copy_80 : decode cX7_copy 80 = .ok (.iload 5, 2) := by decide +kernel
theorem dX7_copy_82 : decode cX7_copy 82 = .ok (.invokevirtual 231, 3) := by decide +kernel
theorem dX7_copy_85 : decode cX7_copy 85 = .ok (.ifCond .eq 15, 3) := by decide +kernel
theorem dX7_copy_88 : decode cX7_copy 88 = .ok (.aload 7, 2) := by decide +kernel
theorem dX7_copy_90 : decode cX7_copy 90 = .ok (.iload 4, 2) := by decide +kernel
theorem dX7_copy_92 : decode cX7_copy 92 = .ok (.iload 5, 2) := by decide +kernel
theorem dX7_copy_94 : decode cX7_copy 94 = .ok (.invokevirtual 231, 3) := by decide +kernel
theorem dX7_copy_97 : decode cX7_copy 97 = .ok (.ifCond .ne 9, 3) := by decide +kernel
theorem dX7_copy_100 : decode cX7_copy 100 = .ok (.aload_n 0, 1) := by decide +kernel
theorem dX7_copy_101 : decode cX7_copy 101 = .ok (.iconst 0, 1) := by decide +kernel
theorem dX7_copy_102 : decode cX7_copy 102 = .ok (.invokevirtual 60, 3) := by decide +kernel
theorem dX7_copy_105 : decode cX7_copy 105 = .ok (.ireturn, 1) := by decide +kernel
theorem dX7_copy_106 : decode cX7_copy 106 = .ok (.aload 6, 2) := by decide +kernel
theorem dX7_copy_108 : decode cX7_copy 108 = .ok (.getfield 220, 3) := by decide +kernel
theorem dX7_copy_111 : decode cX7_copy 111 = .ok (.iload_n 2, 1) := by decide +kernel
theorem dX7_copy_112 : decode cX7_copy 112 = .ok (.aload 7, 2) := by decide +kernel
theorem dX7_copy_114 : decode cX7_copy 114 = .ok (.getfield 220, 3) := by decide +kernel
theorem dX7_copy_117 : decode cX7_copy 117 = .ok (.iload 4, 2) := by decide +kernel
theorem dX7_copy_119 : decode cX7_copy 119 = .ok (.iload 5, 2) := by decide +kernel
theorem dX7_copy_121 : decode cX7_copy 121 = .ok (.invokestatic 234, 3) := by decide +kernel
theorem dX7_copy_124 : decode cX7_copy 124 = .ok (.iload 5, 2) := by decide +kernel
theorem dX7_copy_126 : decode cX7_copy 126 = .ok (.ireturn, 1) := by decide +kernel
theorem dX7_lays_0 : decode cX7_lays 0 = .ok (.iload_n 1, 1) := by decide +kernel
theorem dX7_lays_1 : decode cX7_lays 1 = .ok (.invokestatic 210, 3) := by decide +kernel
theorem dX7_lays_4 : decode cX7_lays 4 = .ok (.ifCond .ne 9, 3) := by decide +kernel
theorem dX7_lays_7 : decode cX7_lays 7 = .ok (.aload_n 0, 1) := by decide +kernel
theorem dX7_lays_8 : decode cX7_lays 8 = .ok (.iconst 0, 1) := by decide +kernel
theorem dX7_lays_9 : decode cX7_lays 9 = .ok (.invokevirtual 60, 3) := by decide +kernel
theorem dX7_lays_12 : decode cX7_lays 12 = .ok (.ireturn, 1) := by decide +kernel
theorem dX7_lays_13 : decode cX7_lays 13 = .ok (.aload_n 0, 1) := by decide +kernel
theorem dX7_lays_14 : decode cX7_lays 14 = .ok (.getfield 47, 3) := by decide +kernel
theorem dX7_lays_17 : decode cX7_lays 17 = .ok (.iload_n 1, 1) := by decide +kernel
theorem dX7_lays_18 : decode cX7_lays 18 = .ok (.aaload, 1) := by decide +kernel
theorem dX7_lays_19 : decode cX7_lays 19 = .ok (.astore_n 2, 1) := by decide +kernel
theorem dX7_lays_20 : decode cX7_lays 20 = .ok (.aload_n 2, 1) := by decide +kernel
theorem dX7_lays_21 : decode cX7_lays 21 = .ok (.invokevirtual 216, 3) := by decide +kernel
theorem dX7_lays_24 : decode cX7_lays 24 = .ok (.ifCond .eq 9, 3) := by decide +kernel
theorem dX7_lays_27 : decode cX7_lays 27 = .ok (.aload_n 0, 1) := by decide +kernel
theorem dX7_lays_28 : decode cX7_lays 28 = .ok (.iconst 5, 1) := by decide +kernel
theorem dX7_lays_29 : decode cX7_lays 29 = .ok (.invokevirtual 60, 3) := by decide +kernel
theorem dX7_lays_32 : decode cX7_lays 32 = .ok (.ireturn, 1) := by decide +kernel
theorem dX7_lays_33 : decode cX7_lays 33 = .ok (.aload_n 2, 1) := by decide +kernel
theorem dX7_lays_34 : decode cX7_lays 34 = .ok (.getfield 219, 3) := by decide +kernel
theorem dX7_lays_37 : decode cX7_lays 37 = .ok (.aload_n 0, 1) := by decide +kernel
theorem dX7_lays_38 : decode cX7_lays 38 = .ok (.getfield 10, 3) := by decide +kernel
theorem dX7_lays_41 : decode cX7_lays 41 = .ok (.getfield 121, 3) := by decide +kernel
theorem dX7_lays_44 : decode cX7_lays 44 = .ok (.if_icmp .eq 10, 3) := by decide +kernel
theorem dX7_lays_47 : decode cX7_lays 47 = .ok (.aload_n 0, 1) := by decide +kernel
theorem dX7_lays_48 : decode cX7_lays 48 = .ok (.bipush 6, 2) := by decide +kernel
theorem dX7_lays_50 : decode cX7_lays 50 = .ok (.invokevirtual 60, 3) := by decide +kernel
theorem dX7_lays_53 : decode cX7_lays 53 = .ok (.ireturn, 1) := by decide +kernel
theorem dX7_lays_54 : decode cX7_lays 54 = .ok (.aload_n 0, 1) := by decide +kernel
theorem dX7_lays_55 : decode cX7_lays 55 = .ok (.aload_n 2, 1) := by decide +kernel
theorem dX7_lays_56 : decode cX7_lays 56 = .ok (.invokevirtual 240, 3) := by decide +kernel
theorem dX7_lays_59 : decode cX7_lays 59 = .ok (.ifCond .ne 9, 3) := by decide +kernel
theorem dX7_lays_62 : decode cX7_lays 62 = .ok (.aload_n 0, 1) := by decide +kernel
theorem dX7_lays_63 : decode cX7_lays 63 = .ok (.iconst 4, 1) := by decide +kernel
theorem dX7_lays_64 : decode cX7_lays 64 = .ok (.invokevirtual 60, 3) := by decide +kernel
theorem dX7_lays_67 : decode cX7_lays 67 = .ok (.ireturn, 1) := by decide +kernel
theorem dX7_lays_68 : decode cX7_lays 68 = .ok (.iconst 0, 1) := by decide +kernel
theorem dX7_lays_69 : decode cX7_lays 69 = .ok (.istore_n 3, 1) := by decide +kernel
theorem dX7_lays_70 : decode cX7_lays 70 = .ok (.iload_n 3, 1) := by decide +kernel
theorem dX7_lays_71 : decode cX7_lays 71 = .ok (.aload_n 0, 1) := by decide +kernel
theorem dX7_lays_72 : decode cX7_lays 72 = .ok (.getfield 10, 3) := by decide +kernel
theorem dX7_lays_75 : decode cX7_lays 75 = .ok (.getfield 121, 3) := by decide +kernel
theorem dX7_lays_78 : decode cX7_lays 78 = .ok (.if_icmp .ge 25, 3) := by decide +kernel
theorem dX7_lays_81 : decode cX7_lays 81 = .ok (.aload_n 0, 1) := by decide +kernel
theorem dX7_lays_82 : decode cX7_lays 82 = .ok (.getfield 10, 3) := by decide +kernel
theorem dX7_lays_85 : decode cX7_lays 85 = .ok (.getfield 89, 3) := by decide +kernel
theorem dX7_lays_88 : decode cX7_lays 88 = .ok (.iload_n 3, 1) := by decide +kernel
theorem dX7_lays_89 : decode cX7_lays 89 = .ok (.aload_n 2, 1) := by decide +kernel
theorem dX7_lays_90 : decode cX7_lays 90 = .ok (.getfield 220, 3) := by decide +kernel
theorem dX7_lays_93 : decode cX7_lays 93 = .ok (.iload_n 3, 1) := by decide +kernel
theorem dX7_lays_94 : decode cX7_lays 94 = .ok (.laload, 1) := by decide +kernel
theorem dX7_lays_95 : decode cX7_lays 95 = .ok (.l2i, 1) := by decide +kernel
theorem dX7_lays_96 : decode cX7_lays 96 = .ok (.iastore, 1) := by decide +kernel
theorem dX7_lays_97 : decode cX7_lays 97 = .ok (.iinc 3 1, 3) := by decide +kernel
theorem dX7_lays_100 : decode cX7_lays 100 = .ok (.goto (-30), 3) := by decide +kernel
theorem dX7_lays_103 : decode cX7_lays 103 = .ok (.aload_n 0, 1) := by decide +kernel
theorem dX7_lays_104 : decode cX7_lays 104 = .ok (.getfield 10, 3) := by decide +kernel
theorem dX7_lays_107 : decode cX7_lays 107 = .ok (.invokevirtual 117, 3) := by decide +kernel
theorem dX7_lays_110 : decode cX7_lays 110 = .ok (.ireturn, 1) := by decide +kernel
theorem dX7_book_0 : decode cX7_book 0 = .ok (.iload_n 1, 1) := by decide +kernel
theorem dX7_book_1 : decode cX7_book 1 = .ok (.invokestatic 210, 3) := by decide +kernel
theorem dX7_book_4 : decode cX7_book 4 = .ok (.ifCond .ne 9, 3) := by decide +kernel
theorem dX7_book_7 : decode cX7_book 7 = .ok (.aload_n 0, 1) := by decide +kernel
theorem dX7_book_8 : decode cX7_book 8 = .ok (.iconst 0, 1) := by decide +kernel
theorem dX7_book_9 : decode cX7_book 9 = .ok (.invokevirtual 60, 3) := by decide +kernel
theorem dX7_book_12 : decode cX7_book 12 = .ok (.ireturn, 1) := by decide +kernel
theorem dX7_book_13 : decode cX7_book 13 = .ok (.aload_n 0, 1) := by decide +kernel
theorem dX7_book_14 : decode cX7_book 14 = .ok (.getfield 47, 3) := by decide +kernel
theorem dX7_book_17 : decode cX7_book 17 = .ok (.iload_n 1, 1) := by decide +kernel
theorem dX7_book_18 : decode cX7_book 18 = .ok (.aaload, 1) := by decide +kernel
theorem dX7_book_19 : decode cX7_book 19 = .ok (.astore_n 3, 1) := by decide +kernel
theorem dX7_book_20 : decode cX7_book 20 = .ok (.aload_n 3, 1) := by decide +kernel
theorem dX7_book_21 : decode cX7_book 21 = .ok (.invokevirtual 216, 3) := by decide +kernel
theorem dX7_book_24 : decode cX7_book 24 = .ok (.ifCond .eq 9, 3) := by decide +kernel
theorem dX7_book_27 : decode cX7_book 27 = .ok (.aload_n 0, 1) := by decide +kernel
theorem dX7_book_28 : decode cX7_book 28 = .ok (.iconst 5, 1) := by decide +kernel
theorem dX7_book_29 : decode cX7_book 29 = .ok (.invokevirtual 60, 3) := by decide +kernel
theorem dX7_book_32 : decode cX7_book 32 = .ok (.ireturn, 1) := by decide +kernel
theorem dX7_book_33 : decode cX7_book 33 = .ok (.aload_n 0, 1) := by decide +kernel
theorem dX7_book_34 : decode cX7_book 34 = .ok (.getfield 10, 3) := by decide +kernel
theorem dX7_book_37 : decode cX7_book 37 = .ok (.iload_n 2, 1) := by decide +kernel
theorem dX7_book_38 : decode cX7_book 38 = .ok (.invokevirtual 71, 3) := by decide +kernel
theorem dX7_book_41 : decode cX7_book 41 = .ok (.ifCond .ne 9, 3) := by decide +kernel
theorem dX7_book_44 : decode cX7_book 44 = .ok (.aload_n 0, 1) := by decide +kernel
theorem dX7_book_45 : decode cX7_book 45 = .ok (.iconst 0, 1) := by decide +kernel
theorem dX7_book_46 : decode cX7_book 46 = .ok (.invokevirtual 60, 3) := by decide +kernel
theorem dX7_book_49 : decode cX7_book 49 = .ok (.ireturn, 1) := by decide +kernel
theorem dX7_book_50 : decode cX7_book 50 = .ok (.aload_n 0, 1) := by decide +kernel
theorem dX7_book_51 : decode cX7_book 51 = .ok (.getfield 19, 3) := by decide +kernel
theorem dX7_book_54 : decode cX7_book 54 = .ok (.aload_n 0, 1) := by decide +kernel
theorem dX7_book_55 : decode cX7_book 55 = .ok (.getfield 10, 3) := by decide +kernel
theorem dX7_book_58 : decode cX7_book 58 = .ok (.invokevirtual 166, 3) := by decide +kernel
theorem dX7_book_61 : decode cX7_book 61 = .ok (.iconst 0, 1) := by decide +kernel
theorem dX7_book_62 : decode cX7_book 62 = .ok (.istore 4, 2) := by decide +kernel
theorem dX7_book_64 : decode cX7_book 64 = .ok (.iload 4, 2) := by decide +kernel
theorem dX7_book_66 : decode cX7_book 66 = .ok (.aload_n 3, 1) := by decide +kernel
theorem dX7_book_67 : decode cX7_book 67 = .ok (.getfield 219, 3) := by decide +kernel
theorem dX7_book_70 : decode cX7_book 70 = .ok (.if_icmp .ge 32, 3) := by decide +kernel
theorem dX7_book_73 : decode cX7_book 73 = .ok (.aload_n 3, 1) := by decide +kernel
theorem dX7_book_74 : decode cX7_book 74 = .ok (.iload 4, 2) := by decide +kernel
theorem dX7_book_76 : decode cX7_book 76 = .ok (.aload_n 0, 1) := by decide +kernel
theorem dX7_book_77 : decode cX7_book 77 = .ok (.getfield 19, 3) := by decide +kernel
theorem dX7_book_80 : decode cX7_book 80 = .ok (.getfield 80, 3) := by decide +kernel
theorem dX7_book_83 : decode cX7_book 83 = .ok (.iload_n 2, 1) := by decide +kernel
theorem dX7_book_84 : decode cX7_book 84 = .ok (.iaload, 1) := by decide +kernel
theorem dX7_book_85 : decode cX7_book 85 = .ok (.i2l, 1) := by decide +kernel
theorem dX7_book_86 : decode cX7_book 86 = .ok (.invokevirtual 224, 3) := by decide +kernel
theorem dX7_book_89 : decode cX7_book 89 = .ok (.aload_n 0, 1) := by decide +kernel
theorem dX7_book_90 : decode cX7_book 90 = .ok (.getfield 19, 3) := by decide +kernel
theorem dX7_book_93 : decode cX7_book 93 = .ok (.invokevirtual 145, 3) := by decide +kernel
theorem dX7_book_96 : decode cX7_book 96 = .ok (.iinc 4 1, 3) := by decide +kernel
theorem dX7_book_99 : decode cX7_book 99 = .ok (.goto (-35), 3) := by decide +kernel
theorem dX7_book_102 : decode cX7_book 102 = .ok (.aload_n 3, 1) := by decide +kernel
theorem dX7_book_103 : decode cX7_book 103 = .ok (.getfield 219, 3) := by decide +kernel
theorem dX7_book_106 : decode cX7_book 106 = .ok (.ireturn, 1) := by decide +kernel
theorem dX7_read_0 : decode cX7_read 0 = .ok (.iload_n 1, 1) := by decide +kernel
theorem dX7_read_1 : decode cX7_read 1 = .ok (.invokestatic 210, 3) := by decide +kernel
theorem dX7_read_4 : decode cX7_read 4 = .ok (.ifCond .ne 9, 3) := by decide +kernel
theorem dX7_read_7 : decode cX7_read 7 = .ok (.aload_n 0, 1) := by decide +kernel
theorem dX7_read_8 : decode cX7_read 8 = .ok (.iconst 0, 1) := by decide +kernel
theorem dX7_read_9 : decode cX7_read 9 = .ok (.invokevirtual 60, 3) := by decide +kernel
theorem dX7_read_12 : decode cX7_read 12 = .ok (.ireturn, 1) := by decide +kernel
theorem dX7_read_13 : decode cX7_read 13 = .ok (.aload_n 0, 1) := by decide +kernel
theorem dX7_read_14 : decode cX7_read 14 = .ok (.getfield 47, 3) := by decide +kernel
theorem dX7_read_17 : decode cX7_read 17 = .ok (.iload_n 1, 1) := by decide +kernel
theorem dX7_read_18 : decode cX7_read 18 = .ok (.aaload, 1) := by decide +kernel
theorem dX7_read_19 : decode cX7_read 19 = .ok (.astore_n 3, 1) := by decide +kernel
theorem dX7_read_20 : decode cX7_read 20 = .ok (.aload_n 3, 1) := by decide +kernel
theorem dX7_read_21 : decode cX7_read 21 = .ok (.invokevirtual 216, 3) := by decide +kernel
theorem dX7_read_24 : decode cX7_read 24 = .ok (.ifCond .eq 9, 3) := by decide +kernel
theorem dX7_read_27 : decode cX7_read 27 = .ok (.aload_n 0, 1) := by decide +kernel
theorem dX7_read_28 : decode cX7_read 28 = .ok (.iconst 5, 1) := by decide +kernel
theorem dX7_read_29 : decode cX7_read 29 = .ok (.invokevirtual 60, 3) := by decide +kernel
theorem dX7_read_32 : decode cX7_read 32 = .ok (.ireturn, 1) := by decide +kernel
theorem dX7_read_33 : decode cX7_read 33 = .ok (.aload_n 0, 1) := by decide +kernel
theorem dX7_read_34 : decode cX7_read 34 = .ok (.getfield 10, 3) := by decide +kernel
theorem dX7_read_37 : decode cX7_read 37 = .ok (.iload_n 2, 1) := by decide +kernel
theorem dX7_read_38 : decode cX7_read 38 = .ok (.invokevirtual 71, 3) := by decide +kernel
theorem dX7_read_41 : decode cX7_read 41 = .ok (.ifCond .ne 9, 3) := by decide +kernel
theorem dX7_read_44 : decode cX7_read 44 = .ok (.aload_n 0, 1) := by decide +kernel
theorem dX7_read_45 : decode cX7_read 45 = .ok (.iconst 0, 1) := by decide +kernel
theorem dX7_read_46 : decode cX7_read 46 = .ok (.invokevirtual 60, 3) := by decide +kernel
theorem dX7_read_49 : decode cX7_read 49 = .ok (.ireturn, 1) := by decide +kernel
theorem dX7_read_50 : decode cX7_read 50 = .ok (.iconst 0, 1) := by decide +kernel
theorem dX7_read_51 : decode cX7_read 51 = .ok (.istore 4, 2) := by decide +kernel
theorem dX7_read_53 : decode cX7_read 53 = .ok (.iconst 0, 1) := by decide +kernel
theorem dX7_read_54 : decode cX7_read 54 = .ok (.istore 5, 2) := by decide +kernel
theorem dX7_read_56 : decode cX7_read 56 = .ok (.iload 5, 2) := by decide +kernel
theorem dX7_read_58 : decode cX7_read 58 = .ok (.aload_n 0, 1) := by decide +kernel
theorem dX7_read_59 : decode cX7_read 59 = .ok (.getfield 10, 3) := by decide +kernel
theorem dX7_read_62 : decode cX7_read 62 = .ok (.getfield 121, 3) := by decide +kernel
theorem dX7_read_65 : decode cX7_read 65 = .ok (.if_icmp .ge 36, 3) := by decide +kernel
theorem dX7_read_68 : decode cX7_read 68 = .ok (.aload_n 0, 1) := by decide +kernel
theorem dX7_read_69 : decode cX7_read 69 = .ok (.getfield 10, 3) := by decide +kernel
theorem dX7_read_72 : decode cX7_read 72 = .ok (.iload 5, 2) := by decide +kernel
theorem dX7_read_74 : decode cX7_read 74 = .ok (.iload_n 2, 1) := by decide +kernel
theorem dX7_read_75 : decode cX7_read 75 = .ok (.invokevirtual 110, 3) := by decide +kernel
theorem dX7_read_78 : decode cX7_read 78 = .ok (.ifCond .eq 17, 3) := by decide +kernel
theorem dX7_read_81 : decode cX7_read 81 = .ok (.aload_n 0, 1) := by decide +kernel
theorem dX7_read_82 : decode cX7_read 82 = .ok (.iload_n 2, 1) := by decide +kernel
theorem dX7_read_83 : decode cX7_read 83 = .ok (.iload 5, 2) := by decide +kernel
theorem dX7_read_85 : decode cX7_read 85 = .ok (.aload_n 3, 1) := by decide +kernel
theorem dX7_read_86 : decode cX7_read 86 = .ok (.invokevirtual 244, 3) := by decide +kernel
theorem dX7_read_89 : decode cX7_read 89 = .ok (.ifCond .eq 6, 3) := by decide +kernel
theorem dX7_read_92 : decode cX7_read 92 = .ok (.iinc 4 1, 3) := by decide +kernel
theorem dX7_read_95 : decode cX7_read 95 = .ok (.iinc 5 1, 3) := by decide +kernel
theorem dX7_read_98 : decode cX7_read 98 = .ok (.goto (-42), 3) := by decide +kernel
theorem dX7_read_101 : decode cX7_read 101 = .ok (.iload 4, 2) := by decide +kernel
theorem dX7_read_103 : decode cX7_read 103 = .ok (.ireturn, 1) := by decide +kernel
theorem dX7_image_0 : decode cX7_image 0 = .ok (.aload_n 0, 1) := by decide +kernel
theorem dX7_image_1 : decode cX7_image 1 = .ok (.getfield 16, 3) := by decide +kernel
theorem dX7_image_4 : decode cX7_image 4 = .ok (.aload_n 0, 1) := by decide +kernel
theorem dX7_image_5 : decode cX7_image 5 = .ok (.getfield 10, 3) := by decide +kernel
theorem dX7_image_8 : decode cX7_image 8 = .ok (.invokevirtual 166, 3) := by decide +kernel
theorem dX7_image_11 : decode cX7_image 11 = .ok (.aload_n 0, 1) := by decide +kernel
theorem dX7_image_12 : decode cX7_image 12 = .ok (.iconst 1, 1) := by decide +kernel
theorem dX7_image_13 : decode cX7_image 13 = .ok (.putfield 248, 3) := by decide +kernel
theorem dX7_image_16 : decode cX7_image 16 = .ok (.iconst 1, 1) := by decide +kernel
theorem dX7_image_17 : decode cX7_image 17 = .ok (.ireturn, 1) := by decide +kernel
theorem dX7_undo_0 : decode cX7_undo 0 = .ok (.aload_n 0, 1) := by decide +kernel
theorem dX7_undo_1 : decode cX7_undo 1 = .ok (.getfield 248, 3) := by decide +kernel
theorem dX7_undo_4 : decode cX7_undo 4 = .ok (.ifCond .ne 9, 3) := by decide +kernel
theorem dX7_undo_7 : decode cX7_undo 7 = .ok (.aload_n 0, 1) := by decide +kernel
theorem dX7_undo_8 : decode cX7_undo 8 = .ok (.iconst 3, 1) := by decide +kernel
theorem dX7_undo_9 : decode cX7_undo 9 = .ok (.invokevirtual 60, 3) := by decide +kernel
theorem dX7_undo_12 : decode cX7_undo 12 = .ok (.ireturn, 1) := by decide +kernel
theorem dX7_undo_13 : decode cX7_undo 13 = .ok (.aload_n 0, 1) := by decide +kernel
theorem dX7_undo_14 : decode cX7_undo 14 = .ok (.getfield 10, 3) := by decide +kernel
theorem dX7_undo_17 : decode cX7_undo 17 = .ok (.aload_n 0, 1) := by decide +kernel
theorem dX7_undo_18 : decode cX7_undo 18 = .ok (.getfield 16, 3) := by decide +kernel
theorem dX7_undo_21 : decode cX7_undo 21 = .ok (.invokevirtual 166, 3) := by decide +kernel
theorem dX7_undo_24 : decode cX7_undo 24 = .ok (.aload_n 0, 1) := by decide +kernel
theorem dX7_undo_25 : decode cX7_undo 25 = .ok (.getfield 10, 3) := by decide +kernel
theorem dX7_undo_28 : decode cX7_undo 28 = .ok (.getfield 121, 3) := by decide +kernel
theorem dX7_undo_31 : decode cX7_undo 31 = .ok (.ireturn, 1) := by decide +kernel
theorem dX7_tear_0 : decode cX7_tear 0 = .ok (.aload_n 0, 1) := by decide +kernel
theorem dX7_tear_1 : decode cX7_tear 1 = .ok (.getfield 248, 3) := by decide +kernel
theorem dX7_tear_4 : decode cX7_tear 4 = .ok (.ifCond .eq 7, 3) := by decide +kernel
theorem dX7_tear_7 : decode cX7_tear 7 = .ok (.iconst 1, 1) := by decide +kernel
theorem dX7_tear_8 : decode cX7_tear 8 = .ok (.goto 4, 3) := by decide +kernel
theorem dX7_tear_11 : decode cX7_tear 11 = .ok (.iconst 0, 1) := by decide +kernel
theorem dX7_tear_12 : decode cX7_tear 12 = .ok (.istore_n 1, 1) := by decide +kernel
theorem dX7_tear_13 : decode cX7_tear 13 = .ok (.aload_n 0, 1) := by decide +kernel
theorem dX7_tear_14 : decode cX7_tear 14 = .ok (.iconst 0, 1) := by decide +kernel
theorem dX7_tear_15 : decode cX7_tear 15 = .ok (.putfield 248, 3) := by decide +kernel
theorem dX7_tear_18 : decode cX7_tear 18 = .ok (.iload_n 1, 1) := by decide +kernel
theorem dX7_tear_19 : decode cX7_tear 19 = .ok (.ireturn, 1) := by decide +kernel
theorem dX7_count_0 : decode cX7_count 0 = .ok (.iload_n 1, 1) := by decide +kernel
theorem dX7_count_1 : decode cX7_count 1 = .ok (.tableswitch 70 0 3 #[31, 39, 47, 55], 31) := by decide +kernel
theorem dX7_count_32 : decode cX7_count 32 = .ok (.aload_n 0, 1) := by decide +kernel
theorem dX7_count_33 : decode cX7_count 33 = .ok (.getfield 10, 3) := by decide +kernel
theorem dX7_count_36 : decode cX7_count 36 = .ok (.getfield 121, 3) := by decide +kernel
theorem dX7_count_39 : decode cX7_count 39 = .ok (.ireturn, 1) := by decide +kernel
theorem dX7_count_40 : decode cX7_count 40 = .ok (.aload_n 0, 1) := by decide +kernel
theorem dX7_count_41 : decode cX7_count 41 = .ok (.getfield 32, 3) := by decide +kernel
theorem dX7_count_44 : decode cX7_count 44 = .ok (.getfield 204, 3) := by decide +kernel
theorem dX7_count_47 : decode cX7_count 47 = .ok (.ireturn, 1) := by decide +kernel
theorem dX7_count_48 : decode cX7_count 48 = .ok (.aload_n 0, 1) := by decide +kernel
theorem dX7_count_49 : decode cX7_count 49 = .ok (.getfield 10, 3) := by decide +kernel
theorem dX7_count_52 : decode cX7_count 52 = .ok (.getfield 131, 3) := by decide +kernel
theorem dX7_count_55 : decode cX7_count 55 = .ok (.ireturn, 1) := by decide +kernel
theorem dX7_count_56 : decode cX7_count 56 = .ok (.aload_n 0, 1) := by decide +kernel
theorem dX7_count_57 : decode cX7_count 57 = .ok (.getfield 10, 3) := by decide +kernel
theorem dX7_count_60 : decode cX7_count 60 = .ok (.aload_n 0, 1) := by decide +kernel
theorem dX7_count_61 : decode cX7_count 61 = .ok (.getfield 10, 3) := by decide +kernel
theorem dX7_count_64 : decode cX7_count 64 = .ok (.getfield 83, 3) := by decide +kernel
theorem dX7_count_67 : decode cX7_count 67 = .ok (.invokevirtual 141, 3) := by decide +kernel
theorem dX7_count_70 : decode cX7_count 70 = .ok (.ireturn, 1) := by decide +kernel
theorem dX7_count_71 : decode cX7_count 71 = .ok (.aload_n 0, 1) := by decide +kernel
theorem dX7_count_72 : decode cX7_count 72 = .ok (.iconst 0, 1) := by decide +kernel
theorem dX7_count_73 : decode cX7_count 73 = .ok (.invokevirtual 60, 3) := by decide +kernel
theorem dX7_count_76 : decode cX7_count 76 = .ok (.ireturn, 1) := by decide +kernel
theorem dX7_status_0 : decode cX7_status 0 = .ok (.iload_n 1, 1) := by decide +kernel
theorem dX7_status_1 : decode cX7_status 1 = .ok (.iconst (-1), 1) := by decide +kernel
theorem dX7_status_2 : decode cX7_status 2 = .ok (.if_icmp .lt 9, 3) := by decide +kernel
theorem dX7_status_5 : decode cX7_status 5 = .ok (.iload_n 1, 1) := by decide +kernel
theorem dX7_status_6 : decode cX7_status 6 = .ok (.bipush 7, 2) := by decide +kernel
theorem dX7_status_8 : decode cX7_status 8 = .ok (.if_icmp .lt 9, 3) := by decide +kernel
theorem dX7_status_11 : decode cX7_status 11 = .ok (.aload_n 0, 1) := by decide +kernel
theorem dX7_status_12 : decode cX7_status 12 = .ok (.iconst 0, 1) := by decide +kernel
theorem dX7_status_13 : decode cX7_status 13 = .ok (.invokevirtual 60, 3) := by decide +kernel
theorem dX7_status_16 : decode cX7_status 16 = .ok (.ireturn, 1) := by decide +kernel
theorem dX7_status_17 : decode cX7_status 17 = .ok (.iload_n 1, 1) := by decide +kernel
theorem dX7_status_18 : decode cX7_status 18 = .ok (.ifCond .lt 10, 3) := by decide +kernel
theorem dX7_status_21 : decode cX7_status 21 = .ok (.aload_n 0, 1) := by decide +kernel
theorem dX7_status_22 : decode cX7_status 22 = .ok (.getfield 51, 3) := by decide +kernel
theorem dX7_status_25 : decode cX7_status 25 = .ok (.iload_n 1, 1) := by decide +kernel
theorem dX7_status_26 : decode cX7_status 26 = .ok (.iaload, 1) := by decide +kernel
theorem dX7_status_27 : decode cX7_status 27 = .ok (.ireturn, 1) := by decide +kernel
theorem dX7_status_28 : decode cX7_status 28 = .ok (.iconst 0, 1) := by decide +kernel
theorem dX7_status_29 : decode cX7_status 29 = .ok (.istore_n 2, 1) := by decide +kernel
theorem dX7_status_30 : decode cX7_status 30 = .ok (.iconst 0, 1) := by decide +kernel
theorem dX7_status_31 : decode cX7_status 31 = .ok (.istore_n 3, 1) := by decide +kernel
theorem dX7_status_32 : decode cX7_status 32 = .ok (.iload_n 3, 1) := by decide +kernel
theorem dX7_status_33 : decode cX7_status 33 = .ok (.bipush 7, 2) := by decide +kernel
theorem dX7_status_35 : decode cX7_status 35 = .ok (.if_icmp .ge 18, 3) := by decide +kernel
theorem dX7_status_38 : decode cX7_status 38 = .ok (.iload_n 2, 1) := by decide +kernel
theorem dX7_status_39 : decode cX7_status 39 = .ok (.aload_n 0, 1) := by decide +kernel
theorem dX7_status_40 : decode cX7_status 40 = .ok (.getfield 51, 3) := by decide +kernel
theorem dX7_status_43 : decode cX7_status 43 = .ok (.iload_n 3, 1) := by decide +kernel
theorem dX7_status_44 : decode cX7_status 44 = .ok (.iaload, 1) := by decide +kernel
theorem dX7_status_45 : decode cX7_status 45 = .ok (.iadd, 1) := by decide +kernel
theorem dX7_status_46 : decode cX7_status 46 = .ok (.istore_n 2, 1) := by decide +kernel
theorem dX7_status_47 : decode cX7_status 47 = .ok (.iinc 3 1, 3) := by decide +kernel
theorem dX7_status_50 : decode cX7_status 50 = .ok (.goto (-18), 3) := by decide +kernel
theorem dX7_status_53 : decode cX7_status 53 = .ok (.iload_n 2, 1) := by decide +kernel
theorem dX7_status_54 : decode cX7_status 54 = .ok (.ireturn, 1) := by decide +kernel
theorem dX7_finding_0 : decode cX7_finding 0 = .ok (.aload_n 0, 1) := by decide +kernel
theorem dX7_finding_1 : decode cX7_finding 1 = .ok (.getfield 51, 3) := by decide +kernel
theorem dX7_finding_4 : decode cX7_finding 4 = .ok (.iload_n 1, 1) := by decide +kernel
theorem dX7_finding_5 : decode cX7_finding 5 = .ok (.dup2, 1) := by decide +kernel
theorem dX7_finding_6 : decode cX7_finding 6 = .ok (.iaload, 1) := by decide +kernel
theorem dX7_finding_7 : decode cX7_finding 7 = .ok (.iconst 1, 1) := by decide +kernel
theorem dX7_finding_8 : decode cX7_finding 8 = .ok (.iadd, 1) := by decide +kernel
theorem dX7_finding_9 : decode cX7_finding 9 = .ok (.iastore, 1) := by decide +kernel
theorem dX7_finding_10 : decode cX7_finding 10 = .ok (.ldc 252, 2) := by decide +kernel
theorem dX7_finding_12 : decode cX7_finding 12 = .ok (.iload_n 1, 1) := by decide +kernel
theorem dX7_finding_13 : decode cX7_finding 13 = .ok (.isub, 1) := by decide +kernel
theorem dX7_finding_14 : decode cX7_finding 14 = .ok (.ireturn, 1) := by decide +kernel
theorem dX7_isKind_0 : decode cX7_isKind 0 = .ok (.iload_n 0, 1) := by decide +kernel
theorem dX7_isKind_1 : decode cX7_isKind 1 = .ok (.ifCond .lt 13, 3) := by decide +kernel
theorem dX7_isKind_4 : decode cX7_isKind 4 = .ok (.iload_n 0, 1) := by decide +kernel
theorem dX7_isKind_5 : decode cX7_isKind 5 = .ok (.bipush 6, 2) := by decide +kernel
theorem dX7_isKind_7 : decode cX7_isKind 7 = .ok (.if_icmp .ge 7, 3) := by decide +kernel
theorem dX7_isKind_10 : decode cX7_isKind 10 = .ok (.iconst 1, 1) := by decide +kernel
theorem dX7_isKind_11 : decode cX7_isKind 11 = .ok (.goto 4, 3) := by decide +kernel
theorem dX7_isKind_14 : decode cX7_isKind 14 = .ok (.iconst 0, 1) := by decide +kernel
theorem dX7_isKind_15 : decode cX7_isKind 15 = .ok (.ireturn, 1) := by decide +kernel
theorem dX7_isSheet_0 : decode cX7_isSheet 0 = .ok (.iload_n 0, 1) := by decide +kernel
theorem dX7_isSheet_1 : decode cX7_isSheet 1 = .ok (.ifCond .lt 12, 3) := by decide +kernel
theorem dX7_isSheet_4 : decode cX7_isSheet 4 = .ok (.iload_n 0, 1) := by decide +kernel
theorem dX7_isSheet_5 : decode cX7_isSheet 5 = .ok (.iconst 4, 1) := by decide +kernel
theorem dX7_isSheet_6 : decode cX7_isSheet 6 = .ok (.if_icmp .ge 7, 3) := by decide +kernel
theorem dX7_isSheet_9 : decode cX7_isSheet 9 = .ok (.iconst 1, 1) := by decide +kernel
theorem dX7_isSheet_10 : decode cX7_isSheet 10 = .ok (.goto 4, 3) := by decide +kernel
theorem dX7_isSheet_13 : decode cX7_isSheet 13 = .ok (.iconst 0, 1) := by decide +kernel
theorem dX7_isSheet_14 : decode cX7_isSheet 14 = .ok (.ireturn, 1) := by decide +kernel
theorem dX7_replace_0 : decode cX7_replace 0 = .ok (.iload_n 3, 1) := by decide +kernel
theorem dX7_replace_1 : decode cX7_replace 1 = .ok (.ifCond .lt 9, 3) := by decide +kernel
theorem dX7_replace_4 : decode cX7_replace 4 = .ok (.iload_n 3, 1) := by decide +kernel
theorem dX7_replace_5 : decode cX7_replace 5 = .ok (.iload 4, 2) := by decide +kernel
theorem dX7_replace_7 : decode cX7_replace 7 = .ok (.if_icmp .le 9, 3) := by decide +kernel
theorem dX7_replace_10 : decode cX7_replace 10 = .ok (.aload_n 0, 1) := by decide +kernel
theorem dX7_replace_11 : decode cX7_replace 11 = .ok (.iconst 0, 1) := by decide +kernel
theorem dX7_replace_12 : decode cX7_replace 12 = .ok (.invokevirtual 60, 3) := by decide +kernel
theorem dX7_replace_15 : decode cX7_replace 15 = .ok (.ireturn, 1) := by decide +kernel
theorem dX7_replace_16 : decode cX7_replace 16 = .ok (.aload_n 1, 1) := by decide +kernel
theorem dX7_replace_17 : decode cX7_replace 17 = .ok (.iload_n 2, 1) := by decide +kernel
theorem dX7_replace_18 : decode cX7_replace 18 = .ok (.iaload, 1) := by decide +kernel
theorem dX7_replace_19 : decode cX7_replace 19 = .ok (.istore 5, 2) := by decide +kernel
theorem dX7_replace_21 : decode cX7_replace 21 = .ok (.aload_n 1, 1) := by decide +kernel
theorem dX7_replace_22 : decode cX7_replace 22 = .ok (.iload_n 2, 1) := by decide +kernel
theorem dX7_replace_23 : decode cX7_replace 23 = .ok (.iload_n 3, 1) := by decide +kernel
theorem dX7_replace_24 : decode cX7_replace 24 = .ok (.iastore, 1) := by decide +kernel
theorem dX7_replace_25 : decode cX7_replace 25 = .ok (.iload 5, 2) := by decide +kernel
theorem dX7_replace_27 : decode cX7_replace 27 = .ok (.ireturn, 1) := by decide +kernel
theorem dX7_isRightLot_0 : decode cX7_isRightLot 0 = .ok (.iconst 0, 1) := by decide +kernel
theorem dX7_isRightLot_1 : decode cX7_isRightLot 1 = .ok (.istore_n 2, 1) := by decide +kernel
theorem dX7_isRightLot_2 : decode cX7_isRightLot 2 = .ok (.iconst 0, 1) := by decide +kernel
theorem dX7_isRightLot_3 : decode cX7_isRightLot 3 = .ok (.istore_n 3, 1) := by decide +kernel
theorem dX7_isRightLot_4 : decode cX7_isRightLot 4 = .ok (.iload_n 3, 1) := by decide +kernel
theorem dX7_isRightLot_5 : decode cX7_isRightLot 5 = .ok (.aload_n 0, 1) := by decide +kernel
theorem dX7_isRightLot_6 : decode cX7_isRightLot 6 = .ok (.getfield 10, 3) := by decide +kernel
theorem dX7_isRightLot_9 : decode cX7_isRightLot 9 = .ok (.getfield 121, 3) := by decide +kernel
theorem dX7_isRightLot_12 : decode cX7_isRightLot 12 = .ok (.if_icmp .ge 62, 3) := by decide +kernel
theorem dX7_isRightLot_15 : decode cX7_isRightLot 15 = .ok (.aload_n 1, 1) := by decide +kernel
theorem dX7_isRightLot_16 : decode cX7_isRightLot 16 = .ok (.getfield 220, 3) := by decide +kernel
theorem dX7_isRightLot_19 : decode cX7_isRightLot 19 = .ok (.iload_n 3, 1) := by decide +kernel
theorem dX7_isRightLot_20 : decode cX7_isRightLot 20 = .ok (.laload, 1) := by decide +kernel
theorem dX7_isRightLot_21 : decode cX7_isRightLot 21 = .ok (.lstore 4, 2) := by decide +kernel
theorem dX7_isRightLot_23 : decode cX7_isRightLot 23 = .ok (.lload 4, 2) := by decide +kernel
theorem dX7_isRightLot_25 : decode cX7_isRightLot 25 = .ok (.lconst 0, 1) := by decide +kernel
theorem dX7_isRightLot_26 : decode cX7_isRightLot 26 = .ok (.lcmp, 1) := by decide +kernel
theorem dX7_isRightLot_27 : decode cX7_isRightLot 27 = .ok (.ifCond .lt 31, 3) := by decide +kernel
theorem dX7_isRightLot_30 : decode cX7_isRightLot 30 = .ok (.lload 4, 2) := by decide +kernel
theorem dX7_isRightLot_32 : decode cX7_isRightLot 32 = .ok (.aload_n 0, 1) := by decide +kernel
theorem dX7_isRightLot_33 : decode cX7_isRightLot 33 = .ok (.getfield 10, 3) := by decide +kernel
theorem dX7_isRightLot_36 : decode cX7_isRightLot 36 = .ok (.getfield 121, 3) := by decide +kernel
theorem dX7_isRightLot_39 : decode cX7_isRightLot 39 = .ok (.i2l, 1) := by decide +kernel
theorem dX7_isRightLot_40 : decode cX7_isRightLot 40 = .ok (.lcmp, 1) := by decide +kernel
theorem dX7_isRightLot_41 : decode cX7_isRightLot 41 = .ok (.ifCond .ge 17, 3) := by decide +kernel
theorem dX7_isRightLot_44 : decode cX7_isRightLot 44 = .ok (.aload_n 0, 1) := by decide +kernel
theorem dX7_isRightLot_45 : decode cX7_isRightLot 45 = .ok (.getfield 10, 3) := by decide +kernel
theorem dX7_isRightLot_48 : decode cX7_isRightLot 48 = .ok (.iload_n 3, 1) := by decide +kernel
theorem dX7_isRightLot_49 : decode cX7_isRightLot 49 = .ok (.lload 4, 2) := by decide +kernel
theorem dX7_isRightLot_51 : decode cX7_isRightLot 51 = .ok (.l2i, 1) := by decide +kernel
theorem dX7_isRightLot_52 : decode cX7_isRightLot 52 = .ok (.invokevirtual 110, 3) := by decide +kernel
theorem dX7_isRightLot_55 : decode cX7_isRightLot 55 = .ok (.ifCond .ne 5, 3) := by decide +kernel
theorem dX7_isRightLot_58 : decode cX7_isRightLot 58 = .ok (.iconst 0, 1) := by decide +kernel
theorem dX7_isRightLot_59 : decode cX7_isRightLot 59 = .ok (.ireturn, 1) := by decide +kernel
theorem dX7_isRightLot_60 : decode cX7_isRightLot 60 = .ok (.iload_n 2, 1) := by decide +kernel
theorem dX7_isRightLot_61 : decode cX7_isRightLot 61 = .ok (.iconst 1, 1) := by decide +kernel
theorem dX7_isRightLot_62 : decode cX7_isRightLot 62 = .ok (.lload 4, 2) := by decide +kernel
theorem dX7_isRightLot_64 : decode cX7_isRightLot 64 = .ok (.l2i, 1) := by decide +kernel
theorem dX7_isRightLot_65 : decode cX7_isRightLot 65 = .ok (.ishl, 1) := by decide +kernel
theorem dX7_isRightLot_66 : decode cX7_isRightLot 66 = .ok (.ior, 1) := by decide +kernel
theorem dX7_isRightLot_67 : decode cX7_isRightLot 67 = .ok (.istore_n 2, 1) := by decide +kernel
theorem dX7_isRightLot_68 : decode cX7_isRightLot 68 = .ok (.iinc 3 1, 3) := by decide +kernel
theorem dX7_isRightLot_71 : decode cX7_isRightLot 71 = .ok (.goto (-67), 3) := by decide +kernel
theorem dX7_isRightLot_74 : decode cX7_isRightLot 74 = .ok (.iload_n 2, 1) := by decide +kernel
theorem dX7_isRightLot_75 : decode cX7_isRightLot 75 = .ok (.invokestatic 185, 3) := by decide +kernel
theorem dX7_isRightLot_78 : decode cX7_isRightLot 78 = .ok (.aload_n 0, 1) := by decide +kernel
theorem dX7_isRightLot_79 : decode cX7_isRightLot 79 = .ok (.getfield 10, 3) := by decide +kernel
theorem dX7_isRightLot_82 : decode cX7_isRightLot 82 = .ok (.getfield 121, 3) := by decide +kernel
theorem dX7_isRightLot_85 : decode cX7_isRightLot 85 = .ok (.if_icmp .ne 7, 3) := by decide +kernel
theorem dX7_isRightLot_88 : decode cX7_isRightLot 88 = .ok (.iconst 1, 1) := by decide +kernel
theorem dX7_isRightLot_89 : decode cX7_isRightLot 89 = .ok (.goto 4, 3) := by decide +kernel
theorem dX7_isRightLot_92 : decode cX7_isRightLot 92 = .ok (.iconst 0, 1) := by decide +kernel
theorem dX7_isRightLot_93 : decode cX7_isRightLot 93 = .ok (.ireturn, 1) := by decide +kernel
theorem dX7_fitsWith_0 : decode cX7_fitsWith 0 = .ok (.aload_n 0, 1) := by decide +kernel
theorem dX7_fitsWith_1 : decode cX7_fitsWith 1 = .ok (.getfield 19, 3) := by decide +kernel
theorem dX7_fitsWith_4 : decode cX7_fitsWith 4 = .ok (.aload_n 0, 1) := by decide +kernel
theorem dX7_fitsWith_5 : decode cX7_fitsWith 5 = .ok (.getfield 10, 3) := by decide +kernel
theorem dX7_fitsWith_8 : decode cX7_fitsWith 8 = .ok (.invokevirtual 166, 3) := by decide +kernel
theorem dX7_fitsWith_11 : decode cX7_fitsWith 11 = .ok (.aload_n 0, 1) := by decide +kernel
theorem dX7_fitsWith_12 : decode cX7_fitsWith 12 = .ok (.getfield 19, 3) := by decide +kernel
theorem dX7_fitsWith_15 : decode cX7_fitsWith 15 = .ok (.iload_n 1, 1) := by decide +kernel
theorem dX7_fitsWith_16 : decode cX7_fitsWith 16 = .ok (.aload_n 0, 1) := by decide +kernel
theorem dX7_fitsWith_17 : decode cX7_fitsWith 17 = .ok (.getfield 19, 3) := by decide +kernel
theorem dX7_fitsWith_20 : decode cX7_fitsWith 20 = .ok (.iload_n 2, 1) := by decide +kernel
theorem dX7_fitsWith_21 : decode cX7_fitsWith 21 = .ok (.invokevirtual 160, 3) := by decide +kernel
theorem dX7_fitsWith_24 : decode cX7_fitsWith 24 = .ok (.invokevirtual 113, 3) := by decide +kernel
theorem dX7_fitsWith_27 : decode cX7_fitsWith 27 = .ok (.aload_n 0, 1) := by decide +kernel
theorem dX7_fitsWith_28 : decode cX7_fitsWith 28 = .ok (.getfield 19, 3) := by decide +kernel
theorem dX7_fitsWith_31 : decode cX7_fitsWith 31 = .ok (.invokevirtual 145, 3) := by decide +kernel
theorem dX7_fitsWith_34 : decode cX7_fitsWith 34 = .ok (.aload_n 3, 1) := by decide +kernel
theorem dX7_fitsWith_35 : decode cX7_fitsWith 35 = .ok (.getfield 219, 3) := by decide +kernel
theorem dX7_fitsWith_38 : decode cX7_fitsWith 38 = .ok (.aload_n 0, 1) := by decide +kernel
theorem dX7_fitsWith_39 : decode cX7_fitsWith 39 = .ok (.getfield 19, 3) := by decide +kernel
theorem dX7_fitsWith_42 : decode cX7_fitsWith 42 = .ok (.getfield 121, 3) := by decide +kernel
theorem dX7_fitsWith_45 : decode cX7_fitsWith 45 = .ok (.invokestatic 253, 3) := by decide +kernel
theorem dX7_fitsWith_48 : decode cX7_fitsWith 48 = .ok (.istore 4, 2) := by decide +kernel
theorem dX7_fitsWith_50 : decode cX7_fitsWith 50 = .ok (.iconst 0, 1) := by decide +kernel
theorem dX7_fitsWith_51 : decode cX7_fitsWith 51 = .ok (.istore 5, 2) := by decide +kernel
theorem dX7_fitsWith_53 : decode cX7_fitsWith 53 = .ok (.iload 5, 2) := by decide +kernel
theorem dX7_fitsWith_55 : decode cX7_fitsWith 55 = .ok (.iload 4, 2) := by decide +kernel
theorem dX7_fitsWith_57 : decode cX7_fitsWith 57 = .ok (.if_icmp .ge 33, 3) := by decide +kernel
theorem dX7_fitsWith_60 : decode cX7_fitsWith 60 = .ok (.aload_n 3, 1) := by decide +kernel
theorem dX7_fitsWith_61 : decode cX7_fitsWith 61 = .ok (.getfield 220, 3) := by decide +kernel
theorem dX7_fitsWith_64 : decode cX7_fitsWith 64 = .ok (.iload 5, 2) := by decide +kernel
theorem dX7_fitsWith_66 : decode cX7_fitsWith 66 = .ok (.laload, 1) := by decide +kernel
theorem dX7_fitsWith_67 : decode cX7_fitsWith 67 = .ok (.aload_n 0, 1) := by decide +kernel
theorem dX7_fitsWith_68 : decode cX7_fitsWith 68 = .ok (.getfield 19, 3) := by decide +kernel
theorem dX7_fitsWith_71 : decode cX7_fitsWith 71 = .ok (.getfield 80, 3) := by decide +kernel
theorem dX7_fitsWith_74 : decode cX7_fitsWith 74 = .ok (.iload 5, 2) := by decide +kernel
theorem dX7_fitsWith_76 : decode cX7_fitsWith 76 = .ok (.iaload, 1) := by decide +kernel
theorem dX7_fitsWith_77 : decode cX7_fitsWith 77 = .ok (.i2l, 1) := by decide +kernel
theorem dX7_fitsWith_78 : decode cX7_fitsWith 78 = .ok (.lcmp, 1) := by decide +kernel
theorem dX7_fitsWith_79 : decode cX7_fitsWith 79 = .ok (.ifCond .eq 5, 3) := by decide +kernel
theorem dX7_fitsWith_82 : decode cX7_fitsWith 82 = .ok (.iconst 0, 1) := by decide +kernel
theorem dX7_fitsWith_83 : decode cX7_fitsWith 83 = .ok (.ireturn, 1) := by decide +kernel
theorem dX7_fitsWith_84 : decode cX7_fitsWith 84 = .ok (.iinc 5 1, 3) := by decide +kernel
theorem dX7_fitsWith_87 : decode cX7_fitsWith 87 = .ok (.goto (-34), 3) := by decide +kernel
theorem dX7_fitsWith_90 : decode cX7_fitsWith 90 = .ok (.iconst 1, 1) := by decide +kernel
theorem dX7_fitsWith_91 : decode cX7_fitsWith 91 = .ok (.ireturn, 1) := by decide +kernel
end
section
theorem dX8_init_0 : decode cX8_init 0 = .ok (.aload_n 0, 1) := by decide +kernel
theorem dX8_init_1 : decode cX8_init 1 = .ok (.invokespecial 1, 3) := by decide +kernel
theorem dX8_init_4 : decode cX8_init 4 = .ok (.aload_n 0, 1) := by decide +kernel
theorem dX8_init_5 : decode cX8_init 5 = .ok (.bipush 51, 2) := by decide +kernel
theorem dX8_init_7 : decode cX8_init 7 = .ok (.newarray .int, 2) := by decide +kernel
theorem dX8_init_9 : decode cX8_init 9 = .ok (.putfield 7, 3) := by decide +kernel
theorem dX8_init_12 : decode cX8_init 12 = .ok (.aload_n 0, 1) := by decide +kernel
theorem dX8_init_13 : decode cX8_init 13 = .ok (.bipush 7, 2) := by decide +kernel
theorem dX8_init_15 : decode cX8_init 15 = .ok (.newarray .int, 2) := by decide +kernel
theorem dX8_init_17 : decode cX8_init 17 = .ok (.putfield 13, 3) := by decide +kernel
theorem dX8_init_20 : decode cX8_init 20 = .ok (.aload_n 0, 1) := by decide +kernel
theorem dX8_init_21 : decode cX8_init 21 = .ok (.bipush 8, 2) := by decide +kernel
theorem dX8_init_23 : decode cX8_init 23 = .ok (.newarray .int, 2) := by decide +kernel
theorem dX8_init_25 : decode cX8_init 25 = .ok (.putfield 16, 3) := by decide +kernel
theorem dX8_init_28 : decode cX8_init 28 = .ok (.aload_n 0, 1) := by decide +kernel
theorem dX8_init_29 : decode cX8_init 29 = .ok (.bipush 8, 2) := by decide +kernel
theorem dX8_init_31 : decode cX8_init 31 = .ok (.newarray .int, 2) := by decide +kernel
theorem dX8_init_33 : decode cX8_init 33 = .ok (.putfield 19, 3) := by decide +kernel
theorem dX8_init_36 : decode cX8_init 36 = .ok (.aload_n 0, 1) := by decide +kernel
theorem dX8_init_37 : decode cX8_init 37 = .ok (.bipush 8, 2) := by decide +kernel
theorem dX8_init_39 : decode cX8_init 39 = .ok (.newarray .int, 2) := by decide +kernel
theorem dX8_init_41 : decode cX8_init 41 = .ok (.putfield 22, 3) := by decide +kernel
theorem dX8_init_44 : decode cX8_init 44 = .ok (.aload_n 0, 1) := by decide +kernel
theorem dX8_init_45 : decode cX8_init 45 = .ok (.bipush 8, 2) := by decide +kernel
theorem dX8_init_47 : decode cX8_init 47 = .ok (.newarray .int, 2) := by decide +kernel
theorem dX8_init_49 : decode cX8_init 49 = .ok (.putfield 25, 3) := by decide +kernel
theorem dX8_init_52 : decode cX8_init 52 = .ok (.aload_n 0, 1) := by decide +kernel
theorem dX8_init_53 : decode cX8_init 53 = .ok (.bipush 51, 2) := by decide +kernel
theorem dX8_init_55 : decode cX8_init 55 = .ok (.newarray .int, 2) := by decide +kernel
theorem dX8_init_57 : decode cX8_init 57 = .ok (.putfield 28, 3) := by decide +kernel
theorem dX8_init_60 : decode cX8_init 60 = .ok (.aload_n 0, 1) := by decide +kernel
theorem dX8_init_61 : decode cX8_init 61 = .ok (.sipush 256, 3) := by decide +kernel
theorem dX8_init_64 : decode cX8_init 64 = .ok (.newarray .int, 2) := by decide +kernel
theorem dX8_init_66 : decode cX8_init 66 = .ok (.putfield 31, 3) := by decide +kernel
theorem dX8_init_69 : decode cX8_init 69 = .ok (.aload_n 0, 1) := by decide +kernel
theorem dX8_init_70 : decode cX8_init 70 = .ok (.bipush 120, 2) := by decide +kernel
theorem dX8_init_72 : decode cX8_init 72 = .ok (.newarray .int, 2) := by decide +kernel
theorem dX8_init_74 : decode cX8_init 74 = .ok (.putfield 34, 3) := by decide +kernel
theorem dX8_init_77 : decode cX8_init 77 = .ok (.aload_n 0, 1) := by decide +kernel
theorem dX8_init_78 : decode cX8_init 78 = .ok (.iconst 4, 1) := by decide +kernel
theorem dX8_init_79 : decode cX8_init 79 = .ok (.newarray .int, 2) := by decide +kernel
theorem dX8_init_81 : decode cX8_init 81 = .ok (.putfield 37, 3) := by decide +kernel
theorem dX8_init_84 : decode cX8_init 84 = .ok (.aload_n 0, 1) := by decide +kernel
theorem dX8_init_85 : decode cX8_init 85 = .ok (.iconst 4, 1) := by decide +kernel
theorem dX8_init_86 : decode cX8_init 86 = .ok (.newarray .int, 2) := by decide +kernel
theorem dX8_init_88 : decode cX8_init 88 = .ok (.putfield 40, 3) := by decide +kernel
theorem dX8_init_91 : decode cX8_init 91 = .ok (.aload_n 0, 1) := by decide +kernel
theorem dX8_init_92 : decode cX8_init 92 = .ok (.sipush 160, 3) := by decide +kernel
theorem dX8_init_95 : decode cX8_init 95 = .ok (.newarray .long, 2) := by decide +kernel
theorem dX8_init_97 : decode cX8_init 97 = .ok (.putfield 43, 3) := by decide +kernel
theorem dX8_init_100 : decode cX8_init 100 = .ok (.aload_n 0, 1) := by decide +kernel
theorem dX8_init_101 : decode cX8_init 101 = .ok (.bipush 40, 2) := by decide +kernel
theorem dX8_init_103 : decode cX8_init 103 = .ok (.newarray .long, 2) := by decide +kernel
theorem dX8_init_105 : decode cX8_init 105 = .ok (.putfield 47, 3) := by decide +kernel
theorem dX8_init_108 : decode cX8_init 108 = .ok (.aload_n 0, 1) := by decide +kernel
theorem dX8_init_109 : decode cX8_init 109 = .ok (.bipush 51, 2) := by decide +kernel
theorem dX8_init_111 : decode cX8_init 111 = .ok (.newarray .int, 2) := by decide +kernel
theorem dX8_init_113 : decode cX8_init 113 = .ok (.putfield 50, 3) := by decide +kernel
theorem dX8_init_116 : decode cX8_init 116 = .ok (.aload_n 0, 1) := by decide +kernel
theorem dX8_init_117 : decode cX8_init 117 = .ok (.bipush 51, 2) := by decide +kernel
theorem dX8_init_119 : decode cX8_init 119 = .ok (.newarray .int, 2) := by decide +kernel
theorem dX8_init_121 : decode cX8_init 121 = .ok (.putfield 53, 3) := by decide +kernel
theorem dX8_init_124 : decode cX8_init 124 = .ok (.aload_n 0, 1) := by decide +kernel
theorem dX8_init_125 : decode cX8_init 125 = .ok (.getfield 7, 3) := by decide +kernel
theorem dX8_init_128 : decode cX8_init 128 = .ok (.iconst 1, 1) := by decide +kernel
theorem dX8_init_129 : decode cX8_init 129 = .ok (.iconst 1, 1) := by decide +kernel
theorem dX8_init_130 : decode cX8_init 130 = .ok (.iastore, 1) := by decide +kernel
theorem dX8_init_131 : decode cX8_init 131 = .ok (.return_, 1) := by decide +kernel
theorem dX8_in_0 : decode cX8_in 0 = .ok (.iload_n 0, 1) := by decide +kernel
theorem dX8_in_1 : decode cX8_in 1 = .ok (.iload_n 1, 1) := by decide +kernel
theorem dX8_in_2 : decode cX8_in 2 = .ok (.if_icmp .lt 12, 3) := by decide +kernel
theorem dX8_in_5 : decode cX8_in 5 = .ok (.iload_n 0, 1) := by decide +kernel
theorem dX8_in_6 : decode cX8_in 6 = .ok (.iload_n 2, 1) := by decide +kernel
theorem dX8_in_7 : decode cX8_in 7 = .ok (.if_icmp .gt 7, 3) := by decide +kernel
theorem dX8_in_10 : decode cX8_in 10 = .ok (.iconst 1, 1) := by decide +kernel
theorem dX8_in_11 : decode cX8_in 11 = .ok (.goto 4, 3) := by decide +kernel
theorem dX8_in_14 : decode cX8_in 14 = .ok (.iconst 0, 1) := by decide +kernel
theorem dX8_in_15 : decode cX8_in 15 = .ok (.ireturn, 1) := by decide +kernel
theorem dX8_finds_0 : decode cX8_finds 0 = .ok (.aload_n 0, 1) := by decide +kernel
theorem dX8_finds_1 : decode cX8_finds 1 = .ok (.getfield 13, 3) := by decide +kernel
theorem dX8_finds_4 : decode cX8_finds 4 = .ok (.ldc 56, 2) := by decide +kernel
theorem dX8_finds_6 : decode cX8_finds 6 = .ok (.iload_n 1, 1) := by decide +kernel
theorem dX8_finds_7 : decode cX8_finds 7 = .ok (.isub, 1) := by decide +kernel
theorem dX8_finds_8 : decode cX8_finds 8 = .ok (.dup2, 1) := by decide +kernel
theorem dX8_finds_9 : decode cX8_finds 9 = .ok (.iaload, 1) := by decide +kernel
theorem dX8_finds_10 : decode cX8_finds 10 = .ok (.iconst 1, 1) := by decide +kernel
theorem dX8_finds_11 : decode cX8_finds 11 = .ok (.iadd, 1) := by decide +kernel
theorem dX8_finds_12 : decode cX8_finds 12 = .ok (.iastore, 1) := by decide +kernel
theorem dX8_finds_13 : decode cX8_finds 13 = .ok (.iload_n 1, 1) := by decide +kernel
theorem dX8_finds_14 : decode cX8_finds 14 = .ok (.ireturn, 1) := by decide +kernel
theorem dX8_held_0 : decode cX8_held 0 = .ok (.iload_n 0, 1) := by decide +kernel
theorem dX8_held_1 : decode cX8_held 1 = .ok (.iload_n 1, 1) := by decide +kernel
theorem dX8_held_2 : decode cX8_held 2 = .ok (.if_icmp .ge 7, 3) := by decide +kernel
theorem dX8_held_5 : decode cX8_held 5 = .ok (.iload_n 1, 1) := by decide +kernel
theorem dX8_held_6 : decode cX8_held 6 = .ok (.goto 13, 3) := by decide +kernel
theorem dX8_held_9 : decode cX8_held 9 = .ok (.iload_n 0, 1) := by decide +kernel
theorem dX8_held_10 : decode cX8_held 10 = .ok (.iload_n 2, 1) := by decide +kernel
theorem dX8_held_11 : decode cX8_held 11 = .ok (.if_icmp .le 7, 3) := by decide +kernel
theorem dX8_held_14 : decode cX8_held 14 = .ok (.iload_n 2, 1) := by decide +kernel
theorem dX8_held_15 : decode cX8_held 15 = .ok (.goto 4, 3) := by decide +kernel
theorem dX8_held_18 : decode cX8_held 18 = .ok (.iload_n 0, 1) := by decide +kernel
theorem dX8_held_19 : decode cX8_held 19 = .ok (.ireturn, 1) := by decide +kernel
theorem dX8_its_0 : decode cX8_its 0 = .ok (.aload_n 0, 1) := by decide +kernel
theorem dX8_its_1 : decode cX8_its 1 = .ok (.getfield 7, 3) := by decide +kernel
theorem dX8_its_4 : decode cX8_its 4 = .ok (.iconst 3, 1) := by decide +kernel
theorem dX8_its_5 : decode cX8_its 5 = .ok (.bipush 6, 2) := by decide +kernel
theorem dX8_its_7 : decode cX8_its 7 = .ok (.iload_n 1, 1) := by decide +kernel
theorem dX8_its_8 : decode cX8_its 8 = .ok (.imul, 1) := by decide +kernel
theorem dX8_its_9 : decode cX8_its 9 = .ok (.iadd, 1) := by decide +kernel
theorem dX8_its_10 : decode cX8_its 10 = .ok (.iload_n 2, 1) := by decide +kernel
theorem dX8_its_11 : decode cX8_its 11 = .ok (.iadd, 1) := by decide +kernel
theorem dX8_its_12 : decode cX8_its 12 = .ok (.iaload, 1) := by decide +kernel
theorem dX8_its_13 : decode cX8_its 13 = .ok (.ireturn, 1) := by decide +kernel
theorem dX8_puts_0 : decode cX8_puts 0 = .ok (.aload_n 0, 1) := by decide +kernel
theorem dX8_puts_1 : decode cX8_puts 1 = .ok (.getfield 7, 3) := by decide +kernel
theorem dX8_puts_4 : decode cX8_puts 4 = .ok (.iconst 3, 1) := by decide +kernel
theorem dX8_puts_5 : decode cX8_puts 5 = .ok (.bipush 6, 2) := by decide +kernel
theorem dX8_puts_7 : decode cX8_puts 7 = .ok (.iload_n 1, 1) := by decide +kernel
theorem dX8_puts_8 : decode cX8_puts 8 = .ok (.imul, 1) := by decide +kernel
theorem dX8_puts_9 : decode cX8_puts 9 = .ok (.iadd, 1) := by decide +kernel
theorem dX8_puts_10 : decode cX8_puts 10 = .ok (.iload_n 2, 1) := by decide +kernel
theorem dX8_puts_11 : decode cX8_puts 11 = .ok (.iadd, 1) := by decide +kernel
theorem dX8_puts_12 : decode cX8_puts 12 = .ok (.iload_n 3, 1) := by decide +kernel
theorem dX8_puts_13 : decode cX8_puts 13 = .ok (.iastore, 1) := by decide +kernel
theorem dX8_puts_14 : decode cX8_puts 14 = .ok (.return_, 1) := by decide +kernel
theorem dX8_becomes_0 : decode cX8_becomes 0 = .ok (.aload_n 0, 1) := by decide +kernel
theorem dX8_becomes_1 : decode cX8_becomes 1 = .ok (.getfield 7, 3) := by decide +kernel
theorem dX8_becomes_4 : decode cX8_becomes 4 = .ok (.iload_n 1, 1) := by decide +kernel
theorem dX8_becomes_5 : decode cX8_becomes 5 = .ok (.iaload, 1) := by decide +kernel
theorem dX8_becomes_6 : decode cX8_becomes 6 = .ok (.istore_n 3, 1) := by decide +kernel
theorem dX8_becomes_7 : decode cX8_becomes 7 = .ok (.aload_n 0, 1) := by decide +kernel
theorem dX8_becomes_8 : decode cX8_becomes 8 = .ok (.getfield 7, 3) := by decide +kernel
theorem dX8_becomes_11 : decode cX8_becomes 11 = .ok (.iload_n 1, 1) := by decide +kernel
theorem dX8_becomes_12 : decode cX8_becomes 12 = .ok (.iload_n 2, 1) := by decide +kernel
theorem dX8_becomes_13 : decode cX8_becomes 13 = .ok (.iastore, 1) := by decide +kernel
theorem dX8_becomes_14 : decode cX8_becomes 14 = .ok (.iload_n 3, 1) := by decide +kernel
theorem dX8_becomes_15 : decode cX8_becomes 15 = .ok (.ireturn, 1) := by decide +kernel
theorem dX8_isOne_0 : decode cX8_isOne 0 = .ok (.iload_n 1, 1) := by decide +kernel
theorem dX8_isOne_1 : decode cX8_isOne 1 = .ok (.iconst 0, 1) := by decide +kernel
theorem dX8_isOne_2 : decode cX8_isOne 2 = .ok (.aload_n 0, 1) := by decide +kernel
theorem dX8_isOne_3 : decode cX8_isOne 3 = .ok (.getfield 7, 3) := by decide +kernel
theorem dX8_isOne_6 : decode cX8_isOne 6 = .ok (.iconst 2, 1) := by decide +kernel
theorem dX8_isOne_7 : decode cX8_isOne 7 = .ok (.iaload, 1) := by decide +kernel
theorem dX8_isOne_8 : decode cX8_isOne 8 = .ok (.iconst 1, 1) := by decide +kernel
theorem dX8_isOne_9 : decode cX8_isOne 9 = .ok (.isub, 1) := by decide +kernel
theorem dX8_isOne_10 : decode cX8_isOne 10 = .ok (.invokestatic 57, 3) := by decide +kernel
theorem dX8_isOne_13 : decode cX8_isOne 13 = .ok (.ireturn, 1) := by decide +kernel
theorem dX8_isKind_0 : decode cX8_isKind 0 = .ok (.iload_n 0, 1) := by decide +kernel
theorem dX8_isKind_1 : decode cX8_isKind 1 = .ok (.iconst 0, 1) := by decide +kernel
theorem dX8_isKind_2 : decode cX8_isKind 2 = .ok (.iconst 5, 1) := by decide +kernel
theorem dX8_isKind_3 : decode cX8_isKind 3 = .ok (.invokestatic 57, 3) := by decide +kernel
theorem dX8_isKind_6 : decode cX8_isKind 6 = .ok (.ireturn, 1) := by decide +kernel
theorem dX8_isChild_0 : decode cX8_isChild 0 = .ok (.aload_n 0, 1) := by decide +kernel
theorem dX8_isChild_1 : decode cX8_isChild 1 = .ok (.iload_n 1, 1) := by decide +kernel
theorem dX8_isChild_2 : decode cX8_isChild 2 = .ok (.iconst 0, 1) := by decide +kernel
theorem dX8_isChild_3 : decode cX8_isChild 3 = .ok (.invokevirtual 61, 3) := by decide +kernel
theorem dX8_isChild_6 : decode cX8_isChild 6 = .ok (.iconst 3, 1) := by decide +kernel
theorem dX8_isChild_7 : decode cX8_isChild 7 = .ok (.if_icmp .ne 7, 3) := by decide +kernel
theorem dX8_isChild_10 : decode cX8_isChild 10 = .ok (.iconst 1, 1) := by decide +kernel
theorem dX8_isChild_11 : decode cX8_isChild 11 = .ok (.goto 4, 3) := by decide +kernel
theorem dX8_isChild_14 : decode cX8_isChild 14 = .ok (.iconst 0, 1) := by decide +kernel
theorem dX8_isChild_15 : decode cX8_isChild 15 = .ok (.ireturn, 1) := by decide +kernel
theorem dX8_areAlike_0 : decode cX8_areAlike 0 = .ok (.aload_n 0, 1) := by decide +kernel
theorem dX8_areAlike_1 : decode cX8_areAlike 1 = .ok (.iload_n 1, 1) := by decide +kernel
theorem dX8_areAlike_2 : decode cX8_areAlike 2 = .ok (.invokevirtual 65, 3) := by decide +kernel
theorem dX8_areAlike_5 : decode cX8_areAlike 5 = .ok (.aload_n 0, 1) := by decide +kernel
theorem dX8_areAlike_6 : decode cX8_areAlike 6 = .ok (.iload_n 2, 1) := by decide +kernel
theorem dX8_areAlike_7 : decode cX8_areAlike 7 = .ok (.invokevirtual 65, 3) := by decide +kernel
theorem dX8_areAlike_10 : decode cX8_areAlike 10 = .ok (.if_icmp .ne 7, 3) := by decide +kernel
theorem dX8_areAlike_13 : decode cX8_areAlike 13 = .ok (.iconst 1, 1) := by decide +kernel
theorem dX8_areAlike_14 : decode cX8_areAlike 14 = .ok (.goto 4, 3) := by decide +kernel
theorem dX8_areAlike_17 : decode cX8_areAlike 17 = .ok (.iconst 0, 1) := by decide +kernel
theorem dX8_areAlike_18 : decode cX8_areAlike 18 = .ok (.ireturn, 1) := by decide +kernel
theorem dX8_earnsAs_0 : decode cX8_earnsAs 0 = .ok (.iload_n 1, 1) := by decide +kernel
theorem dX8_earnsAs_1 : decode cX8_earnsAs 1 = .ok (.iload_n 2, 1) := by decide +kernel
theorem dX8_earnsAs_2 : decode cX8_earnsAs 2 = .ok (.if_icmp .ne 5, 3) := by decide +kernel
theorem dX8_earnsAs_5 : decode cX8_earnsAs 5 = .ok (.iconst 0, 1) := by decide +kernel
theorem dX8_earnsAs_6 : decode cX8_earnsAs 6 = .ok (.ireturn, 1) := by decide +kernel
theorem dX8_earnsAs_7 : decode cX8_earnsAs 7 = .ok (.aload_n 0, 1) := by decide +kernel
theorem dX8_earnsAs_8 : decode cX8_earnsAs 8 = .ok (.iload_n 1, 1) := by decide +kernel
theorem dX8_earnsAs_9 : decode cX8_earnsAs 9 = .ok (.iconst 1, 1) := by decide +kernel
theorem dX8_earnsAs_10 : decode cX8_earnsAs 10 = .ok (.invokevirtual 61, 3) := by decide +kernel
theorem dX8_earnsAs_13 : decode cX8_earnsAs 13 = .ok (.aload_n 0, 1) := by decide +kernel
theorem dX8_earnsAs_14 : decode cX8_earnsAs 14 = .ok (.iload_n 2, 1) := by decide +kernel
theorem dX8_earnsAs_15 : decode cX8_earnsAs 15 = .ok (.iconst 1, 1) := by decide +kernel
theorem dX8_earnsAs_16 : decode cX8_earnsAs 16 = .ok (.invokevirtual 61, 3) := by decide +kernel
theorem dX8_earnsAs_19 : decode cX8_earnsAs 19 = .ok (.iadd, 1) := by decide +kernel
theorem dX8_earnsAs_20 : decode cX8_earnsAs 20 = .ok (.iconst 2, 1) := by decide +kernel
theorem dX8_earnsAs_21 : decode cX8_earnsAs 21 = .ok (.idiv, 1) := by decide +kernel
theorem dX8_earnsAs_22 : decode cX8_earnsAs 22 = .ok (.istore_n 3, 1) := by decide +kernel
theorem dX8_earnsAs_23 : decode cX8_earnsAs 23 = .ok (.aload_n 0, 1) := by decide +kernel
theorem dX8_earnsAs_24 : decode cX8_earnsAs 24 = .ok (.iload_n 1, 1) := by decide +kernel
theorem dX8_earnsAs_25 : decode cX8_earnsAs 25 = .ok (.iconst 3, 1) := by decide +kernel
theorem dX8_earnsAs_26 : decode cX8_earnsAs 26 = .ok (.invokevirtual 61, 3) := by decide +kernel
theorem dX8_earnsAs_29 : decode cX8_earnsAs 29 = .ok (.bipush 50, 2) := by decide +kernel
theorem dX8_earnsAs_31 : decode cX8_earnsAs 31 = .ok (.if_icmp .ge 9, 3) := by decide +kernel
theorem dX8_earnsAs_34 : decode cX8_earnsAs 34 = .ok (.iload_n 3, 1) := by decide +kernel
theorem dX8_earnsAs_35 : decode cX8_earnsAs 35 = .ok (.iconst 4, 1) := by decide +kernel
theorem dX8_earnsAs_36 : decode cX8_earnsAs 36 = .ok (.iadd, 1) := by decide +kernel
theorem dX8_earnsAs_37 : decode cX8_earnsAs 37 = .ok (.goto 4, 3) := by decide +kernel
theorem dX8_earnsAs_40 : decode cX8_earnsAs 40 = .ok (.iload_n 3, 1) := by decide +kernel
theorem dX8_earnsAs_41 : decode cX8_earnsAs 41 = .ok (.istore 4, 2) := by decide +kernel
theorem dX8_earnsAs_43 : decode cX8_earnsAs 43 = .ok (.iload_n 3, 1) := by decide +kernel
theorem dX8_earnsAs_44 : decode cX8_earnsAs 44 = .ok (.iconst 2, 1) := by decide +kernel
theorem dX8_earnsAs_45 : decode cX8_earnsAs 45 = .ok (.iadd, 1) := by decide +kernel
theorem dX8_earnsAs_46 : decode cX8_earnsAs 46 = .ok (.aload_n 0, 1) := by decide +kernel
theorem dX8_earnsAs_47 : decode cX8_earnsAs 47 = .ok (.iload_n 1, 1) := by decide +kernel
theorem dX8_earnsAs_48 : decode cX8_earnsAs 48 = .ok (.iconst 4, 1) := by decide +kernel
theorem dX8_earnsAs_49 : decode cX8_earnsAs 49 = .ok (.invokevirtual 61, 3) := by decide +kernel
theorem dX8_earnsAs_52 : decode cX8_earnsAs 52 = .ok (.iconst 4, 1) := by decide +kernel
theorem dX8_earnsAs_53 : decode cX8_earnsAs 53 = .ok (.idiv, 1) := by decide +kernel
theorem dX8_earnsAs_54 : decode cX8_earnsAs 54 = .ok (.isub, 1) := by decide +kernel
theorem dX8_earnsAs_55 : decode cX8_earnsAs 55 = .ok (.istore 5, 2) := by decide +kernel
theorem dX8_earnsAs_57 : decode cX8_earnsAs 57 = .ok (.aload_n 0, 1) := by decide +kernel
theorem dX8_earnsAs_58 : decode cX8_earnsAs 58 = .ok (.iload_n 1, 1) := by decide +kernel
theorem dX8_earnsAs_59 : decode cX8_earnsAs 59 = .ok (.iconst 0, 1) := by decide +kernel
theorem dX8_earnsAs_60 : decode cX8_earnsAs 60 = .ok (.invokevirtual 61, 3) := by decide +kernel
theorem dX8_earnsAs_63 : decode cX8_earnsAs 63 = .ok (.tableswitch 59 1 5 #[33, 37, 40, 42, 54], 33) := by decide +kernel
theorem dX8_earnsAs_96 : decode cX8_earnsAs 96 = .ok (.iload_n 3, 1) := by decide +kernel
theorem dX8_earnsAs_97 : decode cX8_earnsAs 97 = .ok (.iconst 2, 1) := by decide +kernel
theorem dX8_earnsAs_98 : decode cX8_earnsAs 98 = .ok (.iadd, 1) := by decide +kernel
theorem dX8_earnsAs_99 : decode cX8_earnsAs 99 = .ok (.ireturn, 1) := by decide +kernel
theorem dX8_earnsAs_100 : decode cX8_earnsAs 100 = .ok (.iload 4, 2) := by decide +kernel
theorem dX8_earnsAs_102 : decode cX8_earnsAs 102 = .ok (.ireturn, 1) := by decide +kernel
theorem dX8_earnsAs_103 : decode cX8_earnsAs 103 = .ok (.iconst 1, 1) := by decide +kernel
theorem dX8_earnsAs_104 : decode cX8_earnsAs 104 = .ok (.ireturn, 1) := by decide +kernel
theorem dX8_earnsAs_105 : decode cX8_earnsAs 105 = .ok (.iload 5, 2) := by decide +kernel
theorem dX8_earnsAs_107 : decode cX8_earnsAs 107 = .ok (.ifCond .ge 7, 3) := by decide +kernel
theorem dX8_earnsAs_110 : decode cX8_earnsAs 110 = .ok (.iconst 0, 1) := by decide +kernel
theorem dX8_earnsAs_111 : decode cX8_earnsAs 111 = .ok (.goto 5, 3) := by decide +kernel
theorem dX8_earnsAs_114 : decode cX8_earnsAs 114 = .ok (.iload 5, 2) := by decide +kernel
theorem dX8_earnsAs_116 : decode cX8_earnsAs 116 = .ok (.ireturn, 1) := by decide +kernel
theorem dX8_earnsAs_117 : decode cX8_earnsAs 117 = .ok (.iconst 2, 1) := by decide +kernel
theorem dX8_earnsAs_118 : decode cX8_earnsAs 118 = .ok (.iload 4, 2) := by decide +kernel
theorem dX8_earnsAs_120 : decode cX8_earnsAs 120 = .ok (.imul, 1) := by decide +kernel
theorem dX8_earnsAs_121 : decode cX8_earnsAs 121 = .ok (.ireturn, 1) := by decide +kernel
theorem dX8_earnsAs_122 : decode cX8_earnsAs 122 = .ok (.iload_n 3, 1) := by decide +kernel
theorem dX8_earnsAs_123 : decode cX8_earnsAs 123 = .ok (.ireturn, 1) := by decide +kernel
theorem dX8_saysAs_0 : decode cX8_saysAs 0 = .ok (.iload_n 1, 1) := by decide +kernel
theorem dX8_saysAs_1 : decode cX8_saysAs 1 = .ok (.iload_n 2, 1) := by decide +kernel
theorem dX8_saysAs_2 : decode cX8_saysAs 2 = .ok (.if_icmp .ne 5, 3) := by decide +kernel
theorem dX8_saysAs_5 : decode cX8_saysAs 5 = .ok (.iconst 0, 1) := by decide +kernel
theorem dX8_saysAs_6 : decode cX8_saysAs 6 = .ok (.ireturn, 1) := by decide +kernel
theorem dX8_saysAs_7 : decode cX8_saysAs 7 = .ok (.aload_n 0, 1) := by decide +kernel
theorem dX8_saysAs_8 : decode cX8_saysAs 8 = .ok (.iload_n 1, 1) := by decide +kernel
theorem dX8_saysAs_9 : decode cX8_saysAs 9 = .ok (.iconst 1, 1) := by decide +kernel
theorem dX8_saysAs_10 : decode cX8_saysAs 10 = .ok (.invokevirtual 61, 3) := by decide +kernel
theorem dX8_saysAs_13 : decode cX8_saysAs 13 = .ok (.aload_n 0, 1) := by decide +kernel
theorem dX8_saysAs_14 : decode cX8_saysAs 14 = .ok (.iload_n 2, 1) := by decide +kernel
theorem dX8_saysAs_15 : decode cX8_saysAs 15 = .ok (.iconst 1, 1) := by decide +kernel
theorem dX8_saysAs_16 : decode cX8_saysAs 16 = .ok (.invokevirtual 61, 3) := by decide +kernel
theorem dX8_saysAs_19 : decode cX8_saysAs 19 = .ok (.if_icmp .lt 7, 3) := by decide +kernel
theorem dX8_saysAs_22 : decode cX8_saysAs 22 = .ok (.iconst 1, 1) := by decide +kernel
theorem dX8_saysAs_23 : decode cX8_saysAs 23 = .ok (.goto 4, 3) := by decide +kernel
theorem dX8_saysAs_26 : decode cX8_saysAs 26 = .ok (.iconst (-1), 1) := by decide +kernel
theorem dX8_saysAs_27 : decode cX8_saysAs 27 = .ok (.istore_n 3, 1) := by decide +kernel
theorem dX8_saysAs_28 : decode cX8_saysAs 28 = .ok (.aload_n 0, 1) := by decide +kernel
theorem dX8_saysAs_29 : decode cX8_saysAs 29 = .ok (.iload_n 1, 1) := by decide +kernel
theorem dX8_saysAs_30 : decode cX8_saysAs 30 = .ok (.iconst 0, 1) := by decide +kernel
theorem dX8_saysAs_31 : decode cX8_saysAs 31 = .ok (.invokevirtual 61, 3) := by decide +kernel
theorem dX8_saysAs_34 : decode cX8_saysAs 34 = .ok (.tableswitch 41 2 5 #[30, 32, 34, 38], 30) := by decide +kernel
theorem dX8_saysAs_64 : decode cX8_saysAs 64 = .ok (.iconst 3, 1) := by decide +kernel
theorem dX8_saysAs_65 : decode cX8_saysAs 65 = .ok (.ireturn, 1) := by decide +kernel
theorem dX8_saysAs_66 : decode cX8_saysAs 66 = .ok (.iconst 0, 1) := by decide +kernel
theorem dX8_saysAs_67 : decode cX8_saysAs 67 = .ok (.ireturn, 1) := by decide +kernel
theorem dX8_saysAs_68 : decode cX8_saysAs 68 = .ok (.iload_n 3, 1) := by decide +kernel
theorem dX8_saysAs_69 : decode cX8_saysAs 69 = .ok (.iconst 1, 1) := by decide +kernel
theorem dX8_saysAs_70 : decode cX8_saysAs 70 = .ok (.iadd, 1) := by decide +kernel
theorem dX8_saysAs_71 : decode cX8_saysAs 71 = .ok (.ireturn, 1) := by decide +kernel
theorem dX8_saysAs_72 : decode cX8_saysAs 72 = .ok (.bipush (-2), 2) := by decide +kernel
theorem dX8_saysAs_74 : decode cX8_saysAs 74 = .ok (.ireturn, 1) := by decide +kernel
theorem dX8_saysAs_75 : decode cX8_saysAs 75 = .ok (.iload_n 3, 1) := by decide +kernel
theorem dX8_saysAs_76 : decode cX8_saysAs 76 = .ok (.ireturn, 1) := by decide +kernel
theorem dX8_hearsAs_0 : decode cX8_hearsAs 0 = .ok (.iload_n 1, 1) := by decide +kernel
theorem dX8_hearsAs_1 : decode cX8_hearsAs 1 = .ok (.iload_n 2, 1) := by decide +kernel
theorem dX8_hearsAs_2 : decode cX8_hearsAs 2 = .ok (.if_icmp .ne 5, 3) := by decide +kernel
theorem dX8_hearsAs_5 : decode cX8_hearsAs 5 = .ok (.iconst 0, 1) := by decide +kernel
theorem dX8_hearsAs_6 : decode cX8_hearsAs 6 = .ok (.ireturn, 1) := by decide +kernel
theorem dX8_hearsAs_7 : decode cX8_hearsAs 7 = .ok (.aload_n 0, 1) := by decide +kernel
theorem dX8_hearsAs_8 : decode cX8_hearsAs 8 = .ok (.iload_n 2, 1) := by decide +kernel
theorem dX8_hearsAs_9 : decode cX8_hearsAs 9 = .ok (.iconst 3, 1) := by decide +kernel
theorem dX8_hearsAs_10 : decode cX8_hearsAs 10 = .ok (.invokevirtual 61, 3) := by decide +kernel
theorem dX8_hearsAs_13 : decode cX8_hearsAs 13 = .ok (.bipush 20, 2) := by decide +kernel
theorem dX8_hearsAs_15 : decode cX8_hearsAs 15 = .ok (.if_icmp .ge 7, 3) := by decide +kernel
theorem dX8_hearsAs_18 : decode cX8_hearsAs 18 = .ok (.iconst 2, 1) := by decide +kernel
theorem dX8_hearsAs_19 : decode cX8_hearsAs 19 = .ok (.goto 4, 3) := by decide +kernel
theorem dX8_hearsAs_22 : decode cX8_hearsAs 22 = .ok (.iconst 0, 1) := by decide +kernel
theorem dX8_hearsAs_23 : decode cX8_hearsAs 23 = .ok (.istore_n 3, 1) := by decide +kernel
theorem dX8_hearsAs_24 : decode cX8_hearsAs 24 = .ok (.aload_n 0, 1) := by decide +kernel
theorem dX8_hearsAs_25 : decode cX8_hearsAs 25 = .ok (.iload_n 1, 1) := by decide +kernel
theorem dX8_hearsAs_26 : decode cX8_hearsAs 26 = .ok (.iconst 0, 1) := by decide +kernel
theorem dX8_hearsAs_27 : decode cX8_hearsAs 27 = .ok (.invokevirtual 61, 3) := by decide +kernel
theorem dX8_hearsAs_30 : decode cX8_hearsAs 30 = .ok (.tableswitch 40 2 5 #[30, 34, 36, 30], 30) := by decide +kernel
theorem dX8_hearsAs_60 : decode cX8_hearsAs 60 = .ok (.iconst 2, 1) := by decide +kernel
theorem dX8_hearsAs_61 : decode cX8_hearsAs 61 = .ok (.iload_n 3, 1) := by decide +kernel
theorem dX8_hearsAs_62 : decode cX8_hearsAs 62 = .ok (.imul, 1) := by decide +kernel
theorem dX8_hearsAs_63 : decode cX8_hearsAs 63 = .ok (.ireturn, 1) := by decide +kernel
theorem dX8_hearsAs_64 : decode cX8_hearsAs 64 = .ok (.iconst 0, 1) := by decide +kernel
theorem dX8_hearsAs_65 : decode cX8_hearsAs 65 = .ok (.ireturn, 1) := by decide +kernel
theorem dX8_hearsAs_66 : decode cX8_hearsAs 66 = .ok (.iload_n 3, 1) := by decide +kernel
theorem dX8_hearsAs_67 : decode cX8_hearsAs 67 = .ok (.iconst 1, 1) := by decide +kernel
theorem dX8_hearsAs_68 : decode cX8_hearsAs 68 = .ok (.iadd, 1) := by decide +kernel
theorem dX8_hearsAs_69 : decode cX8_hearsAs 69 = .ok (.ireturn, 1) := by decide +kernel
theorem dX8_hearsAs_70 : decode cX8_hearsAs 70 = .ok (.iload_n 3, 1) := by decide +kernel
theorem dX8_hearsAs_71 : decode cX8_hearsAs 71 = .ok (.ireturn, 1) := by decide +kernel
theorem dX8_earns_0 : decode cX8_earns 0 = .ok (.aload_n 0, 1) := by decide +kernel
theorem dX8_earns_1 : decode cX8_earns 1 = .ok (.iload_n 1, 1) := by decide +kernel
theorem dX8_earns_2 : decode cX8_earns 2 = .ok (.aload_n 0, 1) := by decide +kernel
theorem dX8_earns_3 : decode cX8_earns 3 = .ok (.iload_n 1, 1) := by decide +kernel
theorem dX8_earns_4 : decode cX8_earns 4 = .ok (.iconst 5, 1) := by decide +kernel
theorem dX8_earns_5 : decode cX8_earns 5 = .ok (.invokevirtual 61, 3) := by decide +kernel
theorem dX8_earns_8 : decode cX8_earns 8 = .ok (.invokevirtual 69, 3) := by decide +kernel
theorem dX8_earns_11 : decode cX8_earns 11 = .ok (.ireturn, 1) := by decide +kernel
theorem dX8_earnAll_0 : decode cX8_earnAll 0 = .ok (.iconst 0, 1) := by decide +kernel
theorem dX8_earnAll_1 : decode cX8_earnAll 1 = .ok (.istore_n 1, 1) := by decide +kernel
theorem dX8_earnAll_2 : decode cX8_earnAll 2 = .ok (.iconst 0, 1) := by decide +kernel
theorem dX8_earnAll_3 : decode cX8_earnAll 3 = .ok (.istore_n 2, 1) := by decide +kernel
theorem dX8_earnAll_4 : decode cX8_earnAll 4 = .ok (.iload_n 2, 1) := by decide +kernel
theorem dX8_earnAll_5 : decode cX8_earnAll 5 = .ok (.aload_n 0, 1) := by decide +kernel
theorem dX8_earnAll_6 : decode cX8_earnAll 6 = .ok (.getfield 7, 3) := by decide +kernel
theorem dX8_earnAll_9 : decode cX8_earnAll 9 = .ok (.iconst 2, 1) := by decide +kernel
theorem dX8_earnAll_10 : decode cX8_earnAll 10 = .ok (.iaload, 1) := by decide +kernel
theorem dX8_earnAll_11 : decode cX8_earnAll 11 = .ok (.if_icmp .ge 17, 3) := by decide +kernel
theorem dX8_earnAll_14 : decode cX8_earnAll 14 = .ok (.iload_n 1, 1) := by decide +kernel
theorem dX8_earnAll_15 : decode cX8_earnAll 15 = .ok (.aload_n 0, 1) := by decide +kernel
theorem dX8_earnAll_16 : decode cX8_earnAll 16 = .ok (.iload_n 2, 1) := by decide +kernel
theorem dX8_earnAll_17 : decode cX8_earnAll 17 = .ok (.invokevirtual 72, 3) := by decide +kernel
theorem dX8_earnAll_20 : decode cX8_earnAll 20 = .ok (.iadd, 1) := by decide +kernel
theorem dX8_earnAll_21 : decode cX8_earnAll 21 = .ok (.istore_n 1, 1) := by decide +kernel
theorem dX8_earnAll_22 : decode cX8_earnAll 22 = .ok (.iinc 2 1, 3) := by decide +kernel
theorem dX8_earnAll_25 : decode cX8_earnAll 25 = .ok (.goto (-21), 3) := by decide +kernel
theorem dX8_earnAll_28 : decode cX8_earnAll 28 = .ok (.iload_n 1, 1) := by decide +kernel
theorem dX8_earnAll_29 : decode cX8_earnAll 29 = .ok (.ireturn, 1) := by decide +kernel
theorem dX8_sumOf_0 : decode cX8_sumOf 0 = .ok (.iconst 0, 1) := by decide +kernel
theorem dX8_sumOf_1 : decode cX8_sumOf 1 = .ok (.istore_n 2, 1) := by decide +kernel
theorem dX8_sumOf_2 : decode cX8_sumOf 2 = .ok (.iconst 0, 1) := by decide +kernel
theorem dX8_sumOf_3 : decode cX8_sumOf 3 = .ok (.istore_n 3, 1) := by decide +kernel
theorem dX8_sumOf_4 : decode cX8_sumOf 4 = .ok (.iload_n 3, 1) := by decide +kernel
theorem dX8_sumOf_5 : decode cX8_sumOf 5 = .ok (.aload_n 0, 1) := by decide +kernel
theorem dX8_sumOf_6 : decode cX8_sumOf 6 = .ok (.getfield 7, 3) := by decide +kernel
theorem dX8_sumOf_9 : decode cX8_sumOf 9 = .ok (.iconst 2, 1) := by decide +kernel
theorem dX8_sumOf_10 : decode cX8_sumOf 10 = .ok (.iaload, 1) := by decide +kernel
theorem dX8_sumOf_11 : decode cX8_sumOf 11 = .ok (.if_icmp .ge 18, 3) := by decide +kernel
theorem dX8_sumOf_14 : decode cX8_sumOf 14 = .ok (.iload_n 2, 1) := by decide +kernel
theorem dX8_sumOf_15 : decode cX8_sumOf 15 = .ok (.aload_n 0, 1) := by decide +kernel
theorem dX8_sumOf_16 : decode cX8_sumOf 16 = .ok (.iload_n 3, 1) := by decide +kernel
theorem dX8_sumOf_17 : decode cX8_sumOf 17 = .ok (.iload_n 1, 1) := by decide +kernel
theorem dX8_sumOf_18 : decode cX8_sumOf 18 = .ok (.invokevirtual 61, 3) := by decide +kernel
theorem dX8_sumOf_21 : decode cX8_sumOf 21 = .ok (.iadd, 1) := by decide +kernel
theorem dX8_sumOf_22 : decode cX8_sumOf 22 = .ok (.istore_n 2, 1) := by decide +kernel
theorem dX8_sumOf_23 : decode cX8_sumOf 23 = .ok (.iinc 3 1, 3) := by decide +kernel
theorem dX8_sumOf_26 : decode cX8_sumOf 26 = .ok (.goto (-22), 3) := by decide +kernel
theorem dX8_sumOf_29 : decode cX8_sumOf 29 = .ok (.iload_n 2, 1) := by decide +kernel
theorem dX8_sumOf_30 : decode cX8_sumOf 30 = .ok (.ireturn, 1) := by decide +kernel
theorem dX8_adds_0 : decode cX8_adds 0 = .ok (.aload_n 0, 1) := by decide +kernel
theorem dX8_adds_1 : decode cX8_adds 1 = .ok (.getfield 7, 3) := by decide +kernel
theorem dX8_adds_4 : decode cX8_adds 4 = .ok (.iconst 2, 1) := by decide +kernel
theorem dX8_adds_5 : decode cX8_adds 5 = .ok (.iaload, 1) := by decide +kernel
theorem dX8_adds_6 : decode cX8_adds 6 = .ok (.istore 5, 2) := by decide +kernel
theorem dX8_adds_8 : decode cX8_adds 8 = .ok (.aload_n 0, 1) := by decide +kernel
theorem dX8_adds_9 : decode cX8_adds 9 = .ok (.iload 5, 2) := by decide +kernel
theorem dX8_adds_11 : decode cX8_adds 11 = .ok (.iconst 0, 1) := by decide +kernel
theorem dX8_adds_12 : decode cX8_adds 12 = .ok (.iload_n 1, 1) := by decide +kernel
theorem dX8_adds_13 : decode cX8_adds 13 = .ok (.invokevirtual 76, 3) := by decide +kernel
theorem dX8_adds_16 : decode cX8_adds 16 = .ok (.aload_n 0, 1) := by decide +kernel
theorem dX8_adds_17 : decode cX8_adds 17 = .ok (.iload 5, 2) := by decide +kernel
theorem dX8_adds_19 : decode cX8_adds 19 = .ok (.iconst 1, 1) := by decide +kernel
theorem dX8_adds_20 : decode cX8_adds 20 = .ok (.iload_n 2, 1) := by decide +kernel
theorem dX8_adds_21 : decode cX8_adds 21 = .ok (.invokevirtual 76, 3) := by decide +kernel
theorem dX8_adds_24 : decode cX8_adds 24 = .ok (.aload_n 0, 1) := by decide +kernel
theorem dX8_adds_25 : decode cX8_adds 25 = .ok (.iload 5, 2) := by decide +kernel
theorem dX8_adds_27 : decode cX8_adds 27 = .ok (.iconst 2, 1) := by decide +kernel
theorem dX8_adds_28 : decode cX8_adds 28 = .ok (.iload_n 3, 1) := by decide +kernel
theorem dX8_adds_29 : decode cX8_adds 29 = .ok (.invokevirtual 76, 3) := by decide +kernel
theorem dX8_adds_32 : decode cX8_adds 32 = .ok (.aload_n 0, 1) := by decide +kernel
theorem dX8_adds_33 : decode cX8_adds 33 = .ok (.iload 5, 2) := by decide +kernel
theorem dX8_adds_35 : decode cX8_adds 35 = .ok (.iconst 3, 1) := by decide +kernel
theorem dX8_adds_36 : decode cX8_adds 36 = .ok (.iload 4, 2) := by decide +kernel
theorem dX8_adds_38 : decode cX8_adds 38 = .ok (.invokevirtual 76, 3) := by decide +kernel
theorem dX8_adds_41 : decode cX8_adds 41 = .ok (.aload_n 0, 1) := by decide +kernel
theorem dX8_adds_42 : decode cX8_adds 42 = .ok (.iload 5, 2) := by decide +kernel
theorem dX8_adds_44 : decode cX8_adds 44 = .ok (.iconst 4, 1) := by decide +kernel
theorem dX8_adds_45 : decode cX8_adds 45 = .ok (.iconst 0, 1) := by decide +kernel
theorem dX8_adds_46 : decode cX8_adds 46 = .ok (.invokevirtual 76, 3) := by decide +kernel
theorem dX8_adds_49 : decode cX8_adds 49 = .ok (.aload_n 0, 1) := by decide +kernel
theorem dX8_adds_50 : decode cX8_adds 50 = .ok (.iload 5, 2) := by decide +kernel
theorem dX8_adds_52 : decode cX8_adds 52 = .ok (.iconst 5, 1) := by decide +kernel
theorem dX8_adds_53 : decode cX8_adds 53 = .ok (.iload 5, 2) := by decide +kernel
theorem dX8_adds_55 : decode cX8_adds 55 = .ok (.invokevirtual 76, 3) := by decide +kernel
theorem dX8_adds_58 : decode cX8_adds 58 = .ok (.aload_n 0, 1) := by decide +kernel
theorem dX8_adds_59 : decode cX8_adds 59 = .ok (.getfield 7, 3) := by decide +kernel
theorem dX8_adds_62 : decode cX8_adds 62 = .ok (.iconst 2, 1) := by decide +kernel
theorem dX8_adds_63 : decode cX8_adds 63 = .ok (.dup2, 1) := by decide +kernel
theorem dX8_adds_64 : decode cX8_adds 64 = .ok (.iaload, 1) := by decide +kernel
theorem dX8_adds_65 : decode cX8_adds 65 = .ok (.iconst 1, 1) := by decide +kernel
theorem dX8_adds_66 : decode cX8_adds 66 = .ok (.iadd, 1) := by decide +kernel
theorem dX8_adds_67 : decode cX8_adds 67 = .ok (.iastore, 1) := by decide +kernel
theorem dX8_adds_68 : decode cX8_adds 68 = .ok (.return_, 1) := by decide +kernel
theorem dX8_person_0 : decode cX8_person 0 = .ok (.iload_n 1, 1) := by decide +kernel
theorem dX8_person_1 : decode cX8_person 1 = .ok (.invokestatic 80, 3) := by decide +kernel
theorem dX8_person_4 : decode cX8_person 4 = .ok (.ifCond .ne 10, 3) := by decide +kernel
theorem dX8_person_7 : decode cX8_person 7 = .ok (.aload_n 0, 1) := by decide +kernel
theorem dX8_person_8 : decode cX8_person 8 = .ok (.ldc 56, 2) := by decide +kernel
theorem dX8_person_10 : decode cX8_person 10 = .ok (.invokevirtual 83, 3) := by decide +kernel
theorem dX8_person_13 : decode cX8_person 13 = .ok (.ireturn, 1) := by decide +kernel
theorem dX8_person_14 : decode cX8_person 14 = .ok (.aload_n 0, 1) := by decide +kernel
theorem dX8_person_15 : decode cX8_person 15 = .ok (.getfield 7, 3) := by decide +kernel
theorem dX8_person_18 : decode cX8_person 18 = .ok (.iconst 2, 1) := by decide +kernel
theorem dX8_person_19 : decode cX8_person 19 = .ok (.iaload, 1) := by decide +kernel
theorem dX8_person_20 : decode cX8_person 20 = .ok (.bipush 8, 2) := by decide +kernel
theorem dX8_person_22 : decode cX8_person 22 = .ok (.if_icmp .ne 10, 3) := by decide +kernel
theorem dX8_person_25 : decode cX8_person 25 = .ok (.aload_n 0, 1) := by decide +kernel
theorem dX8_person_26 : decode cX8_person 26 = .ok (.ldc 86, 2) := by decide +kernel
theorem dX8_person_28 : decode cX8_person 28 = .ok (.invokevirtual 83, 3) := by decide +kernel
theorem dX8_person_31 : decode cX8_person 31 = .ok (.ireturn, 1) := by decide +kernel
theorem dX8_person_32 : decode cX8_person 32 = .ok (.aload_n 0, 1) := by decide +kernel
theorem dX8_person_33 : decode cX8_person 33 = .ok (.iload_n 1, 1) := by decide +kernel
theorem dX8_person_34 : decode cX8_person 34 = .ok (.iconst 5, 1) := by decide +kernel
theorem dX8_person_35 : decode cX8_person 35 = .ok (.bipush 10, 2) := by decide +kernel
theorem dX8_person_37 : decode cX8_person 37 = .ok (.bipush 50, 2) := by decide +kernel
theorem dX8_person_39 : decode cX8_person 39 = .ok (.invokevirtual 87, 3) := by decide +kernel
theorem dX8_person_42 : decode cX8_person 42 = .ok (.aload_n 0, 1) := by decide +kernel
theorem dX8_person_43 : decode cX8_person 43 = .ok (.getfield 7, 3) := by decide +kernel
theorem dX8_person_46 : decode cX8_person 46 = .ok (.iconst 2, 1) := by decide +kernel
theorem dX8_person_47 : decode cX8_person 47 = .ok (.iaload, 1) := by decide +kernel
theorem dX8_person_48 : decode cX8_person 48 = .ok (.iconst 1, 1) := by decide +kernel
theorem dX8_person_49 : decode cX8_person 49 = .ok (.isub, 1) := by decide +kernel
theorem dX8_person_50 : decode cX8_person 50 = .ok (.ireturn, 1) := by decide +kernel
theorem dX8_of_0 : decode cX8_of 0 = .ok (.aload_n 0, 1) := by decide +kernel
theorem dX8_of_1 : decode cX8_of 1 = .ok (.iload_n 1, 1) := by decide +kernel
theorem dX8_of_2 : decode cX8_of 2 = .ok (.invokevirtual 91, 3) := by decide +kernel
theorem dX8_of_5 : decode cX8_of 5 = .ok (.ifCond .eq 13, 3) := by decide +kernel
theorem dX8_of_8 : decode cX8_of 8 = .ok (.iload_n 2, 1) := by decide +kernel
theorem dX8_of_9 : decode cX8_of 9 = .ok (.iconst 0, 1) := by decide +kernel
theorem dX8_of_10 : decode cX8_of 10 = .ok (.bipush 6, 2) := by decide +kernel
theorem dX8_of_12 : decode cX8_of 12 = .ok (.invokestatic 57, 3) := by decide +kernel
theorem dX8_of_15 : decode cX8_of 15 = .ok (.ifCond .ne 10, 3) := by decide +kernel
theorem dX8_of_18 : decode cX8_of 18 = .ok (.aload_n 0, 1) := by decide +kernel
theorem dX8_of_19 : decode cX8_of 19 = .ok (.ldc 56, 2) := by decide +kernel
theorem dX8_of_21 : decode cX8_of 21 = .ok (.invokevirtual 83, 3) := by decide +kernel
theorem dX8_of_24 : decode cX8_of 24 = .ok (.ireturn, 1) := by decide +kernel
theorem dX8_of_25 : decode cX8_of 25 = .ok (.iload_n 2, 1) := by decide +kernel
theorem dX8_of_26 : decode cX8_of 26 = .ok (.bipush 6, 2) := by decide +kernel
theorem dX8_of_28 : decode cX8_of 28 = .ok (.if_icmp .ge 12, 3) := by decide +kernel
theorem dX8_of_31 : decode cX8_of 31 = .ok (.aload_n 0, 1) := by decide +kernel
theorem dX8_of_32 : decode cX8_of 32 = .ok (.iload_n 1, 1) := by decide +kernel
theorem dX8_of_33 : decode cX8_of 33 = .ok (.iload_n 2, 1) := by decide +kernel
theorem dX8_of_34 : decode cX8_of 34 = .ok (.invokevirtual 61, 3) := by decide +kernel
theorem dX8_of_37 : decode cX8_of 37 = .ok (.goto 8, 3) := by decide +kernel
theorem dX8_of_40 : decode cX8_of 40 = .ok (.aload_n 0, 1) := by decide +kernel
theorem dX8_of_41 : decode cX8_of 41 = .ok (.iload_n 1, 1) := by decide +kernel
theorem dX8_of_42 : decode cX8_of 42 = .ok (.invokevirtual 72, 3) := by decide +kernel
theorem dX8_of_45 : decode cX8_of 45 = .ok (.ireturn, 1) := by decide +kernel
theorem dX8_says_0 : decode cX8_says 0 = .ok (.aload_n 0, 1) := by decide +kernel
theorem dX8_says_1 : decode cX8_says 1 = .ok (.iload_n 1, 1) := by decide +kernel
theorem dX8_says_2 : decode cX8_says 2 = .ok (.invokevirtual 91, 3) := by decide +kernel
theorem dX8_says_5 : decode cX8_says 5 = .ok (.ifCond .eq 20, 3) := by decide +kernel
theorem dX8_says_8 : decode cX8_says 8 = .ok (.bipush 100, 2) := by decide +kernel
theorem dX8_says_10 : decode cX8_says 10 = .ok (.aload_n 0, 1) := by decide +kernel
theorem dX8_says_11 : decode cX8_says 11 = .ok (.iload_n 1, 1) := by decide +kernel
theorem dX8_says_12 : decode cX8_says 12 = .ok (.aload_n 0, 1) := by decide +kernel
theorem dX8_says_13 : decode cX8_says 13 = .ok (.iload_n 1, 1) := by decide +kernel
theorem dX8_says_14 : decode cX8_says 14 = .ok (.iconst 5, 1) := by decide +kernel
theorem dX8_says_15 : decode cX8_says 15 = .ok (.invokevirtual 61, 3) := by decide +kernel
theorem dX8_says_18 : decode cX8_says 18 = .ok (.invokevirtual 94, 3) := by decide +kernel
theorem dX8_says_21 : decode cX8_says 21 = .ok (.iadd, 1) := by decide +kernel
theorem dX8_says_22 : decode cX8_says 22 = .ok (.goto 9, 3) := by decide +kernel
theorem dX8_says_25 : decode cX8_says 25 = .ok (.aload_n 0, 1) := by decide +kernel
theorem dX8_says_26 : decode cX8_says 26 = .ok (.ldc 56, 2) := by decide +kernel
theorem dX8_says_28 : decode cX8_says 28 = .ok (.invokevirtual 83, 3) := by decide +kernel
theorem dX8_says_31 : decode cX8_says 31 = .ok (.ireturn, 1) := by decide +kernel
theorem dX8_set_0 : decode cX8_set 0 = .ok (.iload_n 2, 1) := by decide +kernel
theorem dX8_set_1 : decode cX8_set 1 = .ok (.iconst 1, 1) := by decide +kernel
theorem dX8_set_2 : decode cX8_set 2 = .ok (.if_icmp .ne 13, 3) := by decide +kernel
theorem dX8_set_5 : decode cX8_set 5 = .ok (.iload_n 3, 1) := by decide +kernel
theorem dX8_set_6 : decode cX8_set 6 = .ok (.iconst 0, 1) := by decide +kernel
theorem dX8_set_7 : decode cX8_set 7 = .ok (.bipush 20, 2) := by decide +kernel
theorem dX8_set_9 : decode cX8_set 9 = .ok (.invokestatic 57, 3) := by decide +kernel
theorem dX8_set_12 : decode cX8_set 12 = .ok (.goto 43, 3) := by decide +kernel
theorem dX8_set_15 : decode cX8_set 15 = .ok (.iload_n 2, 1) := by decide +kernel
theorem dX8_set_16 : decode cX8_set 16 = .ok (.iconst 2, 1) := by decide +kernel
theorem dX8_set_17 : decode cX8_set 17 = .ok (.if_icmp .ne 13, 3) := by decide +kernel
theorem dX8_set_20 : decode cX8_set 20 = .ok (.iload_n 3, 1) := by decide +kernel
theorem dX8_set_21 : decode cX8_set 21 = .ok (.iconst 0, 1) := by decide +kernel
theorem dX8_set_22 : decode cX8_set 22 = .ok (.ldc 97, 2) := by decide +kernel
theorem dX8_set_24 : decode cX8_set 24 = .ok (.invokestatic 57, 3) := by decide +kernel
theorem dX8_set_27 : decode cX8_set 27 = .ok (.goto 28, 3) := by decide +kernel
theorem dX8_set_30 : decode cX8_set 30 = .ok (.iload_n 2, 1) := by decide +kernel
theorem dX8_set_31 : decode cX8_set 31 = .ok (.iconst 3, 1) := by decide +kernel
theorem dX8_set_32 : decode cX8_set 32 = .ok (.if_icmp .eq 8, 3) := by decide +kernel
theorem dX8_set_35 : decode cX8_set 35 = .ok (.iload_n 2, 1) := by decide +kernel
theorem dX8_set_36 : decode cX8_set 36 = .ok (.iconst 4, 1) := by decide +kernel
theorem dX8_set_37 : decode cX8_set 37 = .ok (.if_icmp .ne 17, 3) := by decide +kernel
theorem dX8_set_40 : decode cX8_set 40 = .ok (.iload_n 3, 1) := by decide +kernel
theorem dX8_set_41 : decode cX8_set 41 = .ok (.iconst 0, 1) := by decide +kernel
theorem dX8_set_42 : decode cX8_set 42 = .ok (.bipush 99, 2) := by decide +kernel
theorem dX8_set_44 : decode cX8_set 44 = .ok (.invokestatic 57, 3) := by decide +kernel
theorem dX8_set_47 : decode cX8_set 47 = .ok (.ifCond .eq 7, 3) := by decide +kernel
theorem dX8_set_50 : decode cX8_set 50 = .ok (.iconst 1, 1) := by decide +kernel
theorem dX8_set_51 : decode cX8_set 51 = .ok (.goto 4, 3) := by decide +kernel
theorem dX8_set_54 : decode cX8_set 54 = .ok (.iconst 0, 1) := by decide +kernel
theorem dX8_set_55 : decode cX8_set 55 = .ok (.istore 4, 2) := by decide +kernel
theorem dX8_set_57 : decode cX8_set 57 = .ok (.aload_n 0, 1) := by decide +kernel
theorem dX8_set_58 : decode cX8_set 58 = .ok (.iload_n 1, 1) := by decide +kernel
theorem dX8_set_59 : decode cX8_set 59 = .ok (.invokevirtual 91, 3) := by decide +kernel
theorem dX8_set_62 : decode cX8_set 62 = .ok (.ifCond .eq 24, 3) := by decide +kernel
theorem dX8_set_65 : decode cX8_set 65 = .ok (.iload 4, 2) := by decide +kernel
theorem dX8_set_67 : decode cX8_set 67 = .ok (.ifCond .eq 19, 3) := by decide +kernel
theorem dX8_set_70 : decode cX8_set 70 = .ok (.aload_n 0, 1) := by decide +kernel
theorem dX8_set_71 : decode cX8_set 71 = .ok (.iconst 3, 1) := by decide +kernel
theorem dX8_set_72 : decode cX8_set 72 = .ok (.bipush 6, 2) := by decide +kernel
theorem dX8_set_74 : decode cX8_set 74 = .ok (.iload_n 1, 1) := by decide +kernel
theorem dX8_set_75 : decode cX8_set 75 = .ok (.imul, 1) := by decide +kernel
theorem dX8_set_76 : decode cX8_set 76 = .ok (.iadd, 1) := by decide +kernel
theorem dX8_set_77 : decode cX8_set 77 = .ok (.iload_n 2, 1) := by decide +kernel
theorem dX8_set_78 : decode cX8_set 78 = .ok (.iadd, 1) := by decide +kernel
theorem dX8_set_79 : decode cX8_set 79 = .ok (.iload_n 3, 1) := by decide +kernel
theorem dX8_set_80 : decode cX8_set 80 = .ok (.invokevirtual 98, 3) := by decide +kernel
theorem dX8_set_83 : decode cX8_set 83 = .ok (.goto 9, 3) := by decide +kernel
theorem dX8_set_86 : decode cX8_set 86 = .ok (.aload_n 0, 1) := by decide +kernel
theorem dX8_set_87 : decode cX8_set 87 = .ok (.ldc 56, 2) := by decide +kernel
theorem dX8_set_89 : decode cX8_set 89 = .ok (.invokevirtual 83, 3) := by decide +kernel
theorem dX8_set_92 : decode cX8_set 92 = .ok (.ireturn, 1) := by decide +kernel
theorem dX8_turn_0 : decode cX8_turn 0 = .ok (.aload_n 0, 1) := by decide +kernel
theorem dX8_turn_1 : decode cX8_turn 1 = .ok (.iload_n 1, 1) := by decide +kernel
theorem dX8_turn_2 : decode cX8_turn 2 = .ok (.invokevirtual 91, 3) := by decide +kernel
theorem dX8_turn_5 : decode cX8_turn 5 = .ok (.ifCond .eq 24, 3) := by decide +kernel
theorem dX8_turn_8 : decode cX8_turn 8 = .ok (.iload_n 2, 1) := by decide +kernel
theorem dX8_turn_9 : decode cX8_turn 9 = .ok (.invokestatic 80, 3) := by decide +kernel
theorem dX8_turn_12 : decode cX8_turn 12 = .ok (.ifCond .eq 17, 3) := by decide +kernel
theorem dX8_turn_15 : decode cX8_turn 15 = .ok (.aload_n 0, 1) := by decide +kernel
theorem dX8_turn_16 : decode cX8_turn 16 = .ok (.iconst 3, 1) := by decide +kernel
theorem dX8_turn_17 : decode cX8_turn 17 = .ok (.bipush 6, 2) := by decide +kernel
theorem dX8_turn_19 : decode cX8_turn 19 = .ok (.iload_n 1, 1) := by decide +kernel
theorem dX8_turn_20 : decode cX8_turn 20 = .ok (.imul, 1) := by decide +kernel
theorem dX8_turn_21 : decode cX8_turn 21 = .ok (.iadd, 1) := by decide +kernel
theorem dX8_turn_22 : decode cX8_turn 22 = .ok (.iload_n 2, 1) := by decide +kernel
theorem dX8_turn_23 : decode cX8_turn 23 = .ok (.invokevirtual 98, 3) := by decide +kernel
theorem dX8_turn_26 : decode cX8_turn 26 = .ok (.goto 9, 3) := by decide +kernel
theorem dX8_turn_29 : decode cX8_turn 29 = .ok (.aload_n 0, 1) := by decide +kernel
theorem dX8_turn_30 : decode cX8_turn 30 = .ok (.ldc 56, 2) := by decide +kernel
theorem dX8_turn_32 : decode cX8_turn 32 = .ok (.invokevirtual 83, 3) := by decide +kernel
theorem dX8_turn_35 : decode cX8_turn 35 = .ok (.ireturn, 1) := by decide +kernel
theorem dX8_as_0 : decode cX8_as 0 = .ok (.aload_n 0, 1) := by decide +kernel
theorem dX8_as_1 : decode cX8_as 1 = .ok (.iload_n 1, 1) := by decide +kernel
theorem dX8_as_2 : decode cX8_as 2 = .ok (.invokevirtual 91, 3) := by decide +kernel
theorem dX8_as_5 : decode cX8_as 5 = .ok (.ifCond .eq 10, 3) := by decide +kernel
theorem dX8_as_8 : decode cX8_as 8 = .ok (.iload_n 2, 1) := by decide +kernel
theorem dX8_as_9 : decode cX8_as 9 = .ok (.invokestatic 80, 3) := by decide +kernel
theorem dX8_as_12 : decode cX8_as 12 = .ok (.ifCond .ne 10, 3) := by decide +kernel
theorem dX8_as_15 : decode cX8_as 15 = .ok (.aload_n 0, 1) := by decide +kernel
theorem dX8_as_16 : decode cX8_as 16 = .ok (.ldc 56, 2) := by decide +kernel
theorem dX8_as_18 : decode cX8_as 18 = .ok (.invokevirtual 83, 3) := by decide +kernel
theorem dX8_as_21 : decode cX8_as 21 = .ok (.ireturn, 1) := by decide +kernel
theorem dX8_as_22 : decode cX8_as 22 = .ok (.aload_n 0, 1) := by decide +kernel
theorem dX8_as_23 : decode cX8_as 23 = .ok (.iload_n 1, 1) := by decide +kernel
theorem dX8_as_24 : decode cX8_as 24 = .ok (.iconst 0, 1) := by decide +kernel
theorem dX8_as_25 : decode cX8_as 25 = .ok (.invokevirtual 61, 3) := by decide +kernel
theorem dX8_as_28 : decode cX8_as 28 = .ok (.istore_n 3, 1) := by decide +kernel
theorem dX8_as_29 : decode cX8_as 29 = .ok (.iload_n 2, 1) := by decide +kernel
theorem dX8_as_30 : decode cX8_as 30 = .ok (.ifCond .eq 28, 3) := by decide +kernel
theorem dX8_as_33 : decode cX8_as 33 = .ok (.iload_n 2, 1) := by decide +kernel
theorem dX8_as_34 : decode cX8_as 34 = .ok (.iload_n 3, 1) := by decide +kernel
theorem dX8_as_35 : decode cX8_as 35 = .ok (.if_icmp .eq 23, 3) := by decide +kernel
theorem dX8_as_38 : decode cX8_as 38 = .ok (.iload_n 2, 1) := by decide +kernel
theorem dX8_as_39 : decode cX8_as 39 = .ok (.iconst 1, 1) := by decide +kernel
theorem dX8_as_40 : decode cX8_as 40 = .ok (.if_icmp .ne 8, 3) := by decide +kernel
theorem dX8_as_43 : decode cX8_as 43 = .ok (.iload_n 3, 1) := by decide +kernel
theorem dX8_as_44 : decode cX8_as 44 = .ok (.iconst 4, 1) := by decide +kernel
theorem dX8_as_45 : decode cX8_as 45 = .ok (.if_icmp .eq 13, 3) := by decide +kernel
theorem dX8_as_48 : decode cX8_as 48 = .ok (.iload_n 2, 1) := by decide +kernel
theorem dX8_as_49 : decode cX8_as 49 = .ok (.iconst 2, 1) := by decide +kernel
theorem dX8_as_50 : decode cX8_as 50 = .ok (.if_icmp .ne 12, 3) := by decide +kernel
theorem dX8_as_53 : decode cX8_as 53 = .ok (.iload_n 3, 1) := by decide +kernel
theorem dX8_as_54 : decode cX8_as 54 = .ok (.iconst 5, 1) := by decide +kernel
theorem dX8_as_55 : decode cX8_as 55 = .ok (.if_icmp .ne 7, 3) := by decide +kernel
theorem dX8_as_58 : decode cX8_as 58 = .ok (.iconst 1, 1) := by decide +kernel
theorem dX8_as_59 : decode cX8_as 59 = .ok (.goto 4, 3) := by decide +kernel
theorem dX8_as_62 : decode cX8_as 62 = .ok (.iconst 0, 1) := by decide +kernel
theorem dX8_as_63 : decode cX8_as 63 = .ok (.istore 4, 2) := by decide +kernel
theorem dX8_as_65 : decode cX8_as 65 = .ok (.iload 4, 2) := by decide +kernel
theorem dX8_as_67 : decode cX8_as 67 = .ok (.ifCond .eq 12, 3) := by decide +kernel
theorem dX8_as_70 : decode cX8_as 70 = .ok (.aload_n 0, 1) := by decide +kernel
theorem dX8_as_71 : decode cX8_as 71 = .ok (.iload_n 1, 1) := by decide +kernel
theorem dX8_as_72 : decode cX8_as 72 = .ok (.iconst 3, 1) := by decide +kernel
theorem dX8_as_73 : decode cX8_as 73 = .ok (.invokevirtual 61, 3) := by decide +kernel
theorem dX8_as_76 : decode cX8_as 76 = .ok (.goto 9, 3) := by decide +kernel
theorem dX8_as_79 : decode cX8_as 79 = .ok (.aload_n 0, 1) := by decide +kernel
theorem dX8_as_80 : decode cX8_as 80 = .ok (.ldc 101, 2) := by decide +kernel
theorem dX8_as_82 : decode cX8_as 82 = .ok (.invokevirtual 83, 3) := by decide +kernel
theorem dX8_as_85 : decode cX8_as 85 = .ok (.ireturn, 1) := by decide +kernel
theorem dX8_swaps_0 : decode cX8_swaps 0 = .ok (.aload_n 0, 1) := by decide +kernel
theorem dX8_swaps_1 : decode cX8_swaps 1 = .ok (.iload_n 1, 1) := by decide +kernel
theorem dX8_swaps_2 : decode cX8_swaps 2 = .ok (.iconst 5, 1) := by decide +kernel
theorem dX8_swaps_3 : decode cX8_swaps 3 = .ok (.invokevirtual 61, 3) := by decide +kernel
theorem dX8_swaps_6 : decode cX8_swaps 6 = .ok (.istore_n 3, 1) := by decide +kernel
theorem dX8_swaps_7 : decode cX8_swaps 7 = .ok (.aload_n 0, 1) := by decide +kernel
theorem dX8_swaps_8 : decode cX8_swaps 8 = .ok (.iload_n 1, 1) := by decide +kernel
theorem dX8_swaps_9 : decode cX8_swaps 9 = .ok (.iconst 5, 1) := by decide +kernel
theorem dX8_swaps_10 : decode cX8_swaps 10 = .ok (.aload_n 0, 1) := by decide +kernel
theorem dX8_swaps_11 : decode cX8_swaps 11 = .ok (.iload_n 2, 1) := by decide +kernel
theorem dX8_swaps_12 : decode cX8_swaps 12 = .ok (.iconst 5, 1) := by decide +kernel
theorem dX8_swaps_13 : decode cX8_swaps 13 = .ok (.invokevirtual 61, 3) := by decide +kernel
theorem dX8_swaps_16 : decode cX8_swaps 16 = .ok (.invokevirtual 76, 3) := by decide +kernel
theorem dX8_swaps_19 : decode cX8_swaps 19 = .ok (.aload_n 0, 1) := by decide +kernel
theorem dX8_swaps_20 : decode cX8_swaps 20 = .ok (.iload_n 2, 1) := by decide +kernel
theorem dX8_swaps_21 : decode cX8_swaps 21 = .ok (.iconst 5, 1) := by decide +kernel
theorem dX8_swaps_22 : decode cX8_swaps 22 = .ok (.iload_n 3, 1) := by decide +kernel
theorem dX8_swaps_23 : decode cX8_swaps 23 = .ok (.invokevirtual 76, 3) := by decide +kernel
theorem dX8_swaps_26 : decode cX8_swaps 26 = .ok (.return_, 1) := by decide +kernel
theorem dX8_ownSet_0 : decode cX8_ownSet 0 = .ok (.iconst 0, 1) := by decide +kernel
theorem dX8_ownSet_1 : decode cX8_ownSet 1 = .ok (.istore_n 1, 1) := by decide +kernel
theorem dX8_ownSet_2 : decode cX8_ownSet 2 = .ok (.iconst 0, 1) := by decide +kernel
theorem dX8_ownSet_3 : decode cX8_ownSet 3 = .ok (.istore_n 2, 1) := by decide +kernel
theorem dX8_ownSet_4 : decode cX8_ownSet 4 = .ok (.iload_n 2, 1) := by decide +kernel
theorem dX8_ownSet_5 : decode cX8_ownSet 5 = .ok (.aload_n 0, 1) := by decide +kernel
theorem dX8_ownSet_6 : decode cX8_ownSet 6 = .ok (.getfield 7, 3) := by decide +kernel
theorem dX8_ownSet_9 : decode cX8_ownSet 9 = .ok (.iconst 2, 1) := by decide +kernel
theorem dX8_ownSet_10 : decode cX8_ownSet 10 = .ok (.iaload, 1) := by decide +kernel
theorem dX8_ownSet_11 : decode cX8_ownSet 11 = .ok (.if_icmp .ge 29, 3) := by decide +kernel
theorem dX8_ownSet_14 : decode cX8_ownSet 14 = .ok (.iload_n 1, 1) := by decide +kernel
theorem dX8_ownSet_15 : decode cX8_ownSet 15 = .ok (.aload_n 0, 1) := by decide +kernel
theorem dX8_ownSet_16 : decode cX8_ownSet 16 = .ok (.iload_n 2, 1) := by decide +kernel
theorem dX8_ownSet_17 : decode cX8_ownSet 17 = .ok (.iconst 5, 1) := by decide +kernel
theorem dX8_ownSet_18 : decode cX8_ownSet 18 = .ok (.invokevirtual 61, 3) := by decide +kernel
theorem dX8_ownSet_21 : decode cX8_ownSet 21 = .ok (.iload_n 2, 1) := by decide +kernel
theorem dX8_ownSet_22 : decode cX8_ownSet 22 = .ok (.if_icmp .ne 9, 3) := by decide +kernel
theorem dX8_ownSet_25 : decode cX8_ownSet 25 = .ok (.iconst 1, 1) := by decide +kernel
theorem dX8_ownSet_26 : decode cX8_ownSet 26 = .ok (.iload_n 2, 1) := by decide +kernel
theorem dX8_ownSet_27 : decode cX8_ownSet 27 = .ok (.ishl, 1) := by decide +kernel
theorem dX8_ownSet_28 : decode cX8_ownSet 28 = .ok (.goto 4, 3) := by decide +kernel
theorem dX8_ownSet_31 : decode cX8_ownSet 31 = .ok (.iconst 0, 1) := by decide +kernel
theorem dX8_ownSet_32 : decode cX8_ownSet 32 = .ok (.ior, 1) := by decide +kernel
theorem dX8_ownSet_33 : decode cX8_ownSet 33 = .ok (.istore_n 1, 1) := by decide +kernel
theorem dX8_ownSet_34 : decode cX8_ownSet 34 = .ok (.iinc 2 1, 3) := by decide +kernel
theorem dX8_ownSet_37 : decode cX8_ownSet 37 = .ok (.goto (-33), 3) := by decide +kernel
theorem dX8_ownSet_40 : decode cX8_ownSet 40 = .ok (.iload_n 1, 1) := by decide +kernel
theorem dX8_ownSet_41 : decode cX8_ownSet 41 = .ok (.ireturn, 1) := by decide +kernel
theorem dX8_bits_0 : decode cX8_bits 0 = .ok (.iconst 0, 1) := by decide +kernel
theorem dX8_bits_1 : decode cX8_bits 1 = .ok (.istore_n 1, 1) := by decide +kernel
theorem dX8_bits_2 : decode cX8_bits 2 = .ok (.iload_n 0, 1) := by decide +kernel
theorem dX8_bits_3 : decode cX8_bits 3 = .ok (.istore_n 2, 1) := by decide +kernel
theorem dX8_bits_4 : decode cX8_bits 4 = .ok (.iload_n 2, 1) := by decide +kernel
theorem dX8_bits_5 : decode cX8_bits 5 = .ok (.ifCond .eq 15, 3) := by decide +kernel
theorem dX8_bits_8 : decode cX8_bits 8 = .ok (.iinc 1 1, 3) := by decide +kernel
theorem dX8_bits_11 : decode cX8_bits 11 = .ok (.iload_n 2, 1) := by decide +kernel
theorem dX8_bits_12 : decode cX8_bits 12 = .ok (.iload_n 2, 1) := by decide +kernel
theorem dX8_bits_13 : decode cX8_bits 13 = .ok (.iconst 1, 1) := by decide +kernel
theorem dX8_bits_14 : decode cX8_bits 14 = .ok (.isub, 1) := by decide +kernel
theorem dX8_bits_15 : decode cX8_bits 15 = .ok (.iand, 1) := by decide +kernel
theorem dX8_bits_16 : decode cX8_bits 16 = .ok (.istore_n 2, 1) := by decide +kernel
theorem dX8_bits_17 : decode cX8_bits 17 = .ok (.goto (-13), 3) := by decide +kernel
theorem dX8_bits_20 : decode cX8_bits 20 = .ok (.iload_n 1, 1) := by decide +kernel
theorem dX8_bits_21 : decode cX8_bits 21 = .ok (.ireturn, 1) := by decide +kernel
theorem dX8_swap_0 : decode cX8_swap 0 = .ok (.aload_n 0, 1) := by decide +kernel
theorem dX8_swap_1 : decode cX8_swap 1 = .ok (.iload_n 1, 1) := by decide +kernel
theorem dX8_swap_2 : decode cX8_swap 2 = .ok (.invokevirtual 91, 3) := by decide +kernel
theorem dX8_swap_5 : decode cX8_swap 5 = .ok (.ifCond .eq 16, 3) := by decide +kernel
theorem dX8_swap_8 : decode cX8_swap 8 = .ok (.aload_n 0, 1) := by decide +kernel
theorem dX8_swap_9 : decode cX8_swap 9 = .ok (.iload_n 2, 1) := by decide +kernel
theorem dX8_swap_10 : decode cX8_swap 10 = .ok (.invokevirtual 91, 3) := by decide +kernel
theorem dX8_swap_13 : decode cX8_swap 13 = .ok (.ifCond .eq 8, 3) := by decide +kernel
theorem dX8_swap_16 : decode cX8_swap 16 = .ok (.iload_n 1, 1) := by decide +kernel
theorem dX8_swap_17 : decode cX8_swap 17 = .ok (.iload_n 2, 1) := by decide +kernel
theorem dX8_swap_18 : decode cX8_swap 18 = .ok (.if_icmp .ne 10, 3) := by decide +kernel
theorem dX8_swap_21 : decode cX8_swap 21 = .ok (.aload_n 0, 1) := by decide +kernel
theorem dX8_swap_22 : decode cX8_swap 22 = .ok (.ldc 56, 2) := by decide +kernel
theorem dX8_swap_24 : decode cX8_swap 24 = .ok (.invokevirtual 83, 3) := by decide +kernel
theorem dX8_swap_27 : decode cX8_swap 27 = .ok (.ireturn, 1) := by decide +kernel
theorem dX8_swap_28 : decode cX8_swap 28 = .ok (.aload_n 0, 1) := by decide +kernel
theorem dX8_swap_29 : decode cX8_swap 29 = .ok (.iload_n 1, 1) := by decide +kernel
theorem dX8_swap_30 : decode cX8_swap 30 = .ok (.iload_n 2, 1) := by decide +kernel
theorem dX8_swap_31 : decode cX8_swap 31 = .ok (.invokevirtual 102, 3) := by decide +kernel
theorem dX8_swap_34 : decode cX8_swap 34 = .ok (.ifCond .ne 10, 3) := by decide +kernel
theorem dX8_swap_37 : decode cX8_swap 37 = .ok (.aload_n 0, 1) := by decide +kernel
theorem dX8_swap_38 : decode cX8_swap 38 = .ok (.ldc 106, 2) := by decide +kernel
theorem dX8_swap_40 : decode cX8_swap 40 = .ok (.invokevirtual 83, 3) := by decide +kernel
theorem dX8_swap_43 : decode cX8_swap 43 = .ok (.ireturn, 1) := by decide +kernel
theorem dX8_swap_44 : decode cX8_swap 44 = .ok (.aload_n 0, 1) := by decide +kernel
theorem dX8_swap_45 : decode cX8_swap 45 = .ok (.iload_n 1, 1) := by decide +kernel
theorem dX8_swap_46 : decode cX8_swap 46 = .ok (.iload_n 2, 1) := by decide +kernel
theorem dX8_swap_47 : decode cX8_swap 47 = .ok (.invokevirtual 107, 3) := by decide +kernel
theorem dX8_swap_50 : decode cX8_swap 50 = .ok (.aload_n 0, 1) := by decide +kernel
theorem dX8_swap_51 : decode cX8_swap 51 = .ok (.invokevirtual 111, 3) := by decide +kernel
theorem dX8_swap_54 : decode cX8_swap 54 = .ok (.invokestatic 115, 3) := by decide +kernel
theorem dX8_swap_57 : decode cX8_swap 57 = .ok (.ireturn, 1) := by decide +kernel
theorem dX8_allOwn_0 : decode cX8_allOwn 0 = .ok (.iconst 0, 1) := by decide +kernel
theorem dX8_allOwn_1 : decode cX8_allOwn 1 = .ok (.istore_n 1, 1) := by decide +kernel
theorem dX8_allOwn_2 : decode cX8_allOwn 2 = .ok (.iload_n 1, 1) := by decide +kernel
theorem dX8_allOwn_3 : decode cX8_allOwn 3 = .ok (.aload_n 0, 1) := by decide +kernel
theorem dX8_allOwn_4 : decode cX8_allOwn 4 = .ok (.getfield 7, 3) := by decide +kernel
theorem dX8_allOwn_7 : decode cX8_allOwn 7 = .ok (.iconst 2, 1) := by decide +kernel
theorem dX8_allOwn_8 : decode cX8_allOwn 8 = .ok (.iaload, 1) := by decide +kernel
theorem dX8_allOwn_9 : decode cX8_allOwn 9 = .ok (.if_icmp .ge 16, 3) := by decide +kernel
theorem dX8_allOwn_12 : decode cX8_allOwn 12 = .ok (.aload_n 0, 1) := by decide +kernel
theorem dX8_allOwn_13 : decode cX8_allOwn 13 = .ok (.iload_n 1, 1) := by decide +kernel
theorem dX8_allOwn_14 : decode cX8_allOwn 14 = .ok (.iconst 5, 1) := by decide +kernel
theorem dX8_allOwn_15 : decode cX8_allOwn 15 = .ok (.iload_n 1, 1) := by decide +kernel
theorem dX8_allOwn_16 : decode cX8_allOwn 16 = .ok (.invokevirtual 76, 3) := by decide +kernel
theorem dX8_allOwn_19 : decode cX8_allOwn 19 = .ok (.iinc 1 1, 3) := by decide +kernel
theorem dX8_allOwn_22 : decode cX8_allOwn 22 = .ok (.goto (-20), 3) := by decide +kernel
theorem dX8_allOwn_25 : decode cX8_allOwn 25 = .ok (.return_, 1) := by decide +kernel
theorem dX8_home_0 : decode cX8_home 0 = .ok (.aload_n 0, 1) := by decide +kernel
theorem dX8_home_1 : decode cX8_home 1 = .ok (.getfield 7, 3) := by decide +kernel
theorem dX8_home_4 : decode cX8_home 4 = .ok (.iconst 2, 1) := by decide +kernel
theorem dX8_home_5 : decode cX8_home 5 = .ok (.iaload, 1) := by decide +kernel
theorem dX8_home_6 : decode cX8_home 6 = .ok (.aload_n 0, 1) := by decide +kernel
theorem dX8_home_7 : decode cX8_home 7 = .ok (.invokevirtual 111, 3) := by decide +kernel
theorem dX8_home_10 : decode cX8_home 10 = .ok (.invokestatic 115, 3) := by decide +kernel
theorem dX8_home_13 : decode cX8_home 13 = .ok (.isub, 1) := by decide +kernel
theorem dX8_home_14 : decode cX8_home 14 = .ok (.istore_n 1, 1) := by decide +kernel
theorem dX8_home_15 : decode cX8_home 15 = .ok (.aload_n 0, 1) := by decide +kernel
theorem dX8_home_16 : decode cX8_home 16 = .ok (.invokevirtual 118, 3) := by decide +kernel
theorem dX8_home_19 : decode cX8_home 19 = .ok (.iload_n 1, 1) := by decide +kernel
theorem dX8_home_20 : decode cX8_home 20 = .ok (.ireturn, 1) := by decide +kernel
theorem dX8_drawn_0 : decode cX8_drawn 0 = .ok (.aload_n 0, 1) := by decide +kernel
theorem dX8_drawn_1 : decode cX8_drawn 1 = .ok (.getfield 7, 3) := by decide +kernel
theorem dX8_drawn_4 : decode cX8_drawn 4 = .ok (.iconst 1, 1) := by decide +kernel
theorem dX8_drawn_5 : decode cX8_drawn 5 = .ok (.aload_n 0, 1) := by decide +kernel
theorem dX8_drawn_6 : decode cX8_drawn 6 = .ok (.getfield 7, 3) := by decide +kernel
theorem dX8_drawn_9 : decode cX8_drawn 9 = .ok (.iconst 1, 1) := by decide +kernel
theorem dX8_drawn_10 : decode cX8_drawn 10 = .ok (.iaload, 1) := by decide +kernel
theorem dX8_drawn_11 : decode cX8_drawn 11 = .ok (.ldc 121, 2) := by decide +kernel
theorem dX8_drawn_13 : decode cX8_drawn 13 = .ok (.imul, 1) := by decide +kernel
theorem dX8_drawn_14 : decode cX8_drawn 14 = .ok (.sipush 12345, 3) := by decide +kernel
theorem dX8_drawn_17 : decode cX8_drawn 17 = .ok (.iadd, 1) := by decide +kernel
theorem dX8_drawn_18 : decode cX8_drawn 18 = .ok (.iastore, 1) := by decide +kernel
theorem dX8_drawn_19 : decode cX8_drawn 19 = .ok (.aload_n 0, 1) := by decide +kernel
theorem dX8_drawn_20 : decode cX8_drawn 20 = .ok (.getfield 7, 3) := by decide +kernel
theorem dX8_drawn_23 : decode cX8_drawn 23 = .ok (.iconst 1, 1) := by decide +kernel
theorem dX8_drawn_24 : decode cX8_drawn 24 = .ok (.iaload, 1) := by decide +kernel
theorem dX8_drawn_25 : decode cX8_drawn 25 = .ok (.bipush 16, 2) := by decide +kernel
theorem dX8_drawn_27 : decode cX8_drawn 27 = .ok (.iushr, 1) := by decide +kernel
theorem dX8_drawn_28 : decode cX8_drawn 28 = .ok (.iload_n 1, 1) := by decide +kernel
theorem dX8_drawn_29 : decode cX8_drawn 29 = .ok (.irem, 1) := by decide +kernel
theorem dX8_drawn_30 : decode cX8_drawn 30 = .ok (.ireturn, 1) := by decide +kernel
theorem dX8_drawsOf_0 : decode cX8_drawsOf 0 = .ok (.iconst 0, 1) := by decide +kernel
theorem dX8_drawsOf_1 : decode cX8_drawsOf 1 = .ok (.istore_n 2, 1) := by decide +kernel
theorem dX8_drawsOf_2 : decode cX8_drawsOf 2 = .ok (.iconst 0, 1) := by decide +kernel
theorem dX8_drawsOf_3 : decode cX8_drawsOf 3 = .ok (.istore_n 3, 1) := by decide +kernel
theorem dX8_drawsOf_4 : decode cX8_drawsOf 4 = .ok (.iload_n 3, 1) := by decide +kernel
theorem dX8_drawsOf_5 : decode cX8_drawsOf 5 = .ok (.aload_n 0, 1) := by decide +kernel
theorem dX8_drawsOf_6 : decode cX8_drawsOf 6 = .ok (.getfield 7, 3) := by decide +kernel
theorem dX8_drawsOf_9 : decode cX8_drawsOf 9 = .ok (.iconst 2, 1) := by decide +kernel
theorem dX8_drawsOf_10 : decode cX8_drawsOf 10 = .ok (.iaload, 1) := by decide +kernel
theorem dX8_drawsOf_11 : decode cX8_drawsOf 11 = .ok (.if_icmp .ge 28, 3) := by decide +kernel
theorem dX8_drawsOf_14 : decode cX8_drawsOf 14 = .ok (.aload_n 0, 1) := by decide +kernel
theorem dX8_drawsOf_15 : decode cX8_drawsOf 15 = .ok (.iload_n 3, 1) := by decide +kernel
theorem dX8_drawsOf_16 : decode cX8_drawsOf 16 = .ok (.invokevirtual 65, 3) := by decide +kernel
theorem dX8_drawsOf_19 : decode cX8_drawsOf 19 = .ok (.iload_n 1, 1) := by decide +kernel
theorem dX8_drawsOf_20 : decode cX8_drawsOf 20 = .ok (.if_icmp .ne 13, 3) := by decide +kernel
theorem dX8_drawsOf_23 : decode cX8_drawsOf 23 = .ok (.aload_n 0, 1) := by decide +kernel
theorem dX8_drawsOf_24 : decode cX8_drawsOf 24 = .ok (.getfield 16, 3) := by decide +kernel
theorem dX8_drawsOf_27 : decode cX8_drawsOf 27 = .ok (.iload_n 2, 1) := by decide +kernel
theorem dX8_drawsOf_28 : decode cX8_drawsOf 28 = .ok (.iload_n 3, 1) := by decide +kernel
theorem dX8_drawsOf_29 : decode cX8_drawsOf 29 = .ok (.iastore, 1) := by decide +kernel
theorem dX8_drawsOf_30 : decode cX8_drawsOf 30 = .ok (.iinc 2 1, 3) := by decide +kernel
theorem dX8_drawsOf_33 : decode cX8_drawsOf 33 = .ok (.iinc 3 1, 3) := by decide +kernel
theorem dX8_drawsOf_36 : decode cX8_drawsOf 36 = .ok (.goto (-32), 3) := by decide +kernel
theorem dX8_drawsOf_39 : decode cX8_drawsOf 39 = .ok (.iload_n 2, 1) := by decide +kernel
theorem dX8_drawsOf_40 : decode cX8_drawsOf 40 = .ok (.iconst 1, 1) := by decide +kernel
theorem dX8_drawsOf_41 : decode cX8_drawsOf 41 = .ok (.isub, 1) := by decide +kernel
theorem dX8_drawsOf_42 : decode cX8_drawsOf 42 = .ok (.istore_n 3, 1) := by decide +kernel
theorem dX8_drawsOf_43 : decode cX8_drawsOf 43 = .ok (.iload_n 3, 1) := by decide +kernel
theorem dX8_drawsOf_44 : decode cX8_drawsOf 44 = .ok (.ifCond .le 31, 3) := by decide +kernel
theorem dX8_drawsOf_47 : decode cX8_drawsOf 47 = .ok (.aload_n 0, 1) := by decide +kernel
theorem dX8_drawsOf_48 : decode cX8_drawsOf 48 = .ok (.aload_n 0, 1) := by decide +kernel
theorem dX8_drawsOf_49 : decode cX8_drawsOf 49 = .ok (.getfield 16, 3) := by decide +kernel
theorem dX8_drawsOf_52 : decode cX8_drawsOf 52 = .ok (.iload_n 3, 1) := by decide +kernel
theorem dX8_drawsOf_53 : decode cX8_drawsOf 53 = .ok (.iaload, 1) := by decide +kernel
theorem dX8_drawsOf_54 : decode cX8_drawsOf 54 = .ok (.aload_n 0, 1) := by decide +kernel
theorem dX8_drawsOf_55 : decode cX8_drawsOf 55 = .ok (.getfield 16, 3) := by decide +kernel
theorem dX8_drawsOf_58 : decode cX8_drawsOf 58 = .ok (.aload_n 0, 1) := by decide +kernel
theorem dX8_drawsOf_59 : decode cX8_drawsOf 59 = .ok (.iload_n 3, 1) := by decide +kernel
theorem dX8_drawsOf_60 : decode cX8_drawsOf 60 = .ok (.iconst 1, 1) := by decide +kernel
theorem dX8_drawsOf_61 : decode cX8_drawsOf 61 = .ok (.iadd, 1) := by decide +kernel
theorem dX8_drawsOf_62 : decode cX8_drawsOf 62 = .ok (.invokevirtual 122, 3) := by decide +kernel
theorem dX8_drawsOf_65 : decode cX8_drawsOf 65 = .ok (.iaload, 1) := by decide +kernel
theorem dX8_drawsOf_66 : decode cX8_drawsOf 66 = .ok (.invokevirtual 107, 3) := by decide +kernel
theorem dX8_drawsOf_69 : decode cX8_drawsOf 69 = .ok (.iinc 3 (-1), 3) := by decide +kernel
theorem dX8_drawsOf_72 : decode cX8_drawsOf 72 = .ok (.goto (-29), 3) := by decide +kernel
theorem dX8_drawsOf_75 : decode cX8_drawsOf 75 = .ok (.return_, 1) := by decide +kernel
theorem dX8_draws_0 : decode cX8_draws 0 = .ok (.aload_n 0, 1) := by decide +kernel
theorem dX8_draws_1 : decode cX8_draws 1 = .ok (.invokevirtual 118, 3) := by decide +kernel
theorem dX8_draws_4 : decode cX8_draws 4 = .ok (.aload_n 0, 1) := by decide +kernel
theorem dX8_draws_5 : decode cX8_draws 5 = .ok (.iconst 0, 1) := by decide +kernel
theorem dX8_draws_6 : decode cX8_draws 6 = .ok (.invokevirtual 125, 3) := by decide +kernel
theorem dX8_draws_9 : decode cX8_draws 9 = .ok (.aload_n 0, 1) := by decide +kernel
theorem dX8_draws_10 : decode cX8_draws 10 = .ok (.iconst 1, 1) := by decide +kernel
theorem dX8_draws_11 : decode cX8_draws 11 = .ok (.invokevirtual 125, 3) := by decide +kernel
theorem dX8_draws_14 : decode cX8_draws 14 = .ok (.return_, 1) := by decide +kernel
theorem dX8_draw_0 : decode cX8_draw 0 = .ok (.aload_n 0, 1) := by decide +kernel
theorem dX8_draw_1 : decode cX8_draw 1 = .ok (.invokevirtual 129, 3) := by decide +kernel
theorem dX8_draw_4 : decode cX8_draw 4 = .ok (.aload_n 0, 1) := by decide +kernel
theorem dX8_draw_5 : decode cX8_draw 5 = .ok (.invokevirtual 111, 3) := by decide +kernel
theorem dX8_draw_8 : decode cX8_draw 8 = .ok (.invokestatic 115, 3) := by decide +kernel
theorem dX8_draw_11 : decode cX8_draw 11 = .ok (.ireturn, 1) := by decide +kernel
theorem dX8_seed_0 : decode cX8_seed 0 = .ok (.aload_n 0, 1) := by decide +kernel
theorem dX8_seed_1 : decode cX8_seed 1 = .ok (.iconst 1, 1) := by decide +kernel
theorem dX8_seed_2 : decode cX8_seed 2 = .ok (.iload_n 1, 1) := by decide +kernel
theorem dX8_seed_3 : decode cX8_seed 3 = .ok (.invokevirtual 98, 3) := by decide +kernel
theorem dX8_seed_6 : decode cX8_seed 6 = .ok (.ireturn, 1) := by decide +kernel
theorem dX8_oneFriday_0 : decode cX8_oneFriday 0 = .ok (.iconst 0, 1) := by decide +kernel
theorem dX8_oneFriday_1 : decode cX8_oneFriday 1 = .ok (.istore_n 1, 1) := by decide +kernel
theorem dX8_oneFriday_2 : decode cX8_oneFriday 2 = .ok (.iload_n 1, 1) := by decide +kernel
theorem dX8_oneFriday_3 : decode cX8_oneFriday 3 = .ok (.aload_n 0, 1) := by decide +kernel
theorem dX8_oneFriday_4 : decode cX8_oneFriday 4 = .ok (.getfield 7, 3) := by decide +kernel
theorem dX8_oneFriday_7 : decode cX8_oneFriday 7 = .ok (.iconst 2, 1) := by decide +kernel
theorem dX8_oneFriday_8 : decode cX8_oneFriday 8 = .ok (.iaload, 1) := by decide +kernel
theorem dX8_oneFriday_9 : decode cX8_oneFriday 9 = .ok (.if_icmp .ge 52, 3) := by decide +kernel
theorem dX8_oneFriday_12 : decode cX8_oneFriday 12 = .ok (.aload_n 0, 1) := by decide +kernel
theorem dX8_oneFriday_13 : decode cX8_oneFriday 13 = .ok (.iload_n 1, 1) := by decide +kernel
theorem dX8_oneFriday_14 : decode cX8_oneFriday 14 = .ok (.iconst 5, 1) := by decide +kernel
theorem dX8_oneFriday_15 : decode cX8_oneFriday 15 = .ok (.invokevirtual 61, 3) := by decide +kernel
theorem dX8_oneFriday_18 : decode cX8_oneFriday 18 = .ok (.istore_n 2, 1) := by decide +kernel
theorem dX8_oneFriday_19 : decode cX8_oneFriday 19 = .ok (.aload_n 0, 1) := by decide +kernel
theorem dX8_oneFriday_20 : decode cX8_oneFriday 20 = .ok (.getfield 19, 3) := by decide +kernel
theorem dX8_oneFriday_23 : decode cX8_oneFriday 23 = .ok (.iload_n 2, 1) := by decide +kernel
theorem dX8_oneFriday_24 : decode cX8_oneFriday 24 = .ok (.aload_n 0, 1) := by decide +kernel
theorem dX8_oneFriday_25 : decode cX8_oneFriday 25 = .ok (.iload_n 1, 1) := by decide +kernel
theorem dX8_oneFriday_26 : decode cX8_oneFriday 26 = .ok (.iload_n 2, 1) := by decide +kernel
theorem dX8_oneFriday_27 : decode cX8_oneFriday 27 = .ok (.invokevirtual 69, 3) := by decide +kernel
theorem dX8_oneFriday_30 : decode cX8_oneFriday 30 = .ok (.iastore, 1) := by decide +kernel
theorem dX8_oneFriday_31 : decode cX8_oneFriday 31 = .ok (.aload_n 0, 1) := by decide +kernel
theorem dX8_oneFriday_32 : decode cX8_oneFriday 32 = .ok (.getfield 22, 3) := by decide +kernel
theorem dX8_oneFriday_35 : decode cX8_oneFriday 35 = .ok (.iload_n 2, 1) := by decide +kernel
theorem dX8_oneFriday_36 : decode cX8_oneFriday 36 = .ok (.aload_n 0, 1) := by decide +kernel
theorem dX8_oneFriday_37 : decode cX8_oneFriday 37 = .ok (.iload_n 1, 1) := by decide +kernel
theorem dX8_oneFriday_38 : decode cX8_oneFriday 38 = .ok (.iload_n 2, 1) := by decide +kernel
theorem dX8_oneFriday_39 : decode cX8_oneFriday 39 = .ok (.invokevirtual 94, 3) := by decide +kernel
theorem dX8_oneFriday_42 : decode cX8_oneFriday 42 = .ok (.iastore, 1) := by decide +kernel
theorem dX8_oneFriday_43 : decode cX8_oneFriday 43 = .ok (.aload_n 0, 1) := by decide +kernel
theorem dX8_oneFriday_44 : decode cX8_oneFriday 44 = .ok (.getfield 25, 3) := by decide +kernel
theorem dX8_oneFriday_47 : decode cX8_oneFriday 47 = .ok (.iload_n 1, 1) := by decide +kernel
theorem dX8_oneFriday_48 : decode cX8_oneFriday 48 = .ok (.aload_n 0, 1) := by decide +kernel
theorem dX8_oneFriday_49 : decode cX8_oneFriday 49 = .ok (.iload_n 1, 1) := by decide +kernel
theorem dX8_oneFriday_50 : decode cX8_oneFriday 50 = .ok (.iload_n 2, 1) := by decide +kernel
theorem dX8_oneFriday_51 : decode cX8_oneFriday 51 = .ok (.invokevirtual 132, 3) := by decide +kernel
theorem dX8_oneFriday_54 : decode cX8_oneFriday 54 = .ok (.iastore, 1) := by decide +kernel
theorem dX8_oneFriday_55 : decode cX8_oneFriday 55 = .ok (.iinc 1 1, 3) := by decide +kernel
theorem dX8_oneFriday_58 : decode cX8_oneFriday 58 = .ok (.goto (-56), 3) := by decide +kernel
theorem dX8_oneFriday_61 : decode cX8_oneFriday 61 = .ok (.iconst 0, 1) := by decide +kernel
theorem dX8_oneFriday_62 : decode cX8_oneFriday 62 = .ok (.istore_n 1, 1) := by decide +kernel
theorem dX8_oneFriday_63 : decode cX8_oneFriday 63 = .ok (.iload_n 1, 1) := by decide +kernel
theorem dX8_oneFriday_64 : decode cX8_oneFriday 64 = .ok (.aload_n 0, 1) := by decide +kernel
theorem dX8_oneFriday_65 : decode cX8_oneFriday 65 = .ok (.getfield 7, 3) := by decide +kernel
theorem dX8_oneFriday_68 : decode cX8_oneFriday 68 = .ok (.iconst 2, 1) := by decide +kernel
theorem dX8_oneFriday_69 : decode cX8_oneFriday 69 = .ok (.iaload, 1) := by decide +kernel
theorem dX8_oneFriday_70 : decode cX8_oneFriday 70 = .ok (.if_icmp .ge 84, 3) := by decide +kernel
theorem dX8_oneFriday_73 : decode cX8_oneFriday 73 = .ok (.aload_n 0, 1) := by decide +kernel
theorem dX8_oneFriday_74 : decode cX8_oneFriday 74 = .ok (.iload_n 1, 1) := by decide +kernel
theorem dX8_oneFriday_75 : decode cX8_oneFriday 75 = .ok (.iconst 2, 1) := by decide +kernel
theorem dX8_oneFriday_76 : decode cX8_oneFriday 76 = .ok (.aload_n 0, 1) := by decide +kernel
theorem dX8_oneFriday_77 : decode cX8_oneFriday 77 = .ok (.iload_n 1, 1) := by decide +kernel
theorem dX8_oneFriday_78 : decode cX8_oneFriday 78 = .ok (.iconst 2, 1) := by decide +kernel
theorem dX8_oneFriday_79 : decode cX8_oneFriday 79 = .ok (.invokevirtual 61, 3) := by decide +kernel
theorem dX8_oneFriday_82 : decode cX8_oneFriday 82 = .ok (.aload_n 0, 1) := by decide +kernel
theorem dX8_oneFriday_83 : decode cX8_oneFriday 83 = .ok (.getfield 19, 3) := by decide +kernel
theorem dX8_oneFriday_86 : decode cX8_oneFriday 86 = .ok (.iload_n 1, 1) := by decide +kernel
theorem dX8_oneFriday_87 : decode cX8_oneFriday 87 = .ok (.iaload, 1) := by decide +kernel
theorem dX8_oneFriday_88 : decode cX8_oneFriday 88 = .ok (.iadd, 1) := by decide +kernel
theorem dX8_oneFriday_89 : decode cX8_oneFriday 89 = .ok (.iconst 0, 1) := by decide +kernel
theorem dX8_oneFriday_90 : decode cX8_oneFriday 90 = .ok (.ldc 97, 2) := by decide +kernel
theorem dX8_oneFriday_92 : decode cX8_oneFriday 92 = .ok (.invokestatic 135, 3) := by decide +kernel
theorem dX8_oneFriday_95 : decode cX8_oneFriday 95 = .ok (.invokevirtual 76, 3) := by decide +kernel
theorem dX8_oneFriday_98 : decode cX8_oneFriday 98 = .ok (.aload_n 0, 1) := by decide +kernel
theorem dX8_oneFriday_99 : decode cX8_oneFriday 99 = .ok (.iload_n 1, 1) := by decide +kernel
theorem dX8_oneFriday_100 : decode cX8_oneFriday 100 = .ok (.iconst 3, 1) := by decide +kernel
theorem dX8_oneFriday_101 : decode cX8_oneFriday 101 = .ok (.aload_n 0, 1) := by decide +kernel
theorem dX8_oneFriday_102 : decode cX8_oneFriday 102 = .ok (.iload_n 1, 1) := by decide +kernel
theorem dX8_oneFriday_103 : decode cX8_oneFriday 103 = .ok (.iconst 3, 1) := by decide +kernel
theorem dX8_oneFriday_104 : decode cX8_oneFriday 104 = .ok (.invokevirtual 61, 3) := by decide +kernel
theorem dX8_oneFriday_107 : decode cX8_oneFriday 107 = .ok (.aload_n 0, 1) := by decide +kernel
theorem dX8_oneFriday_108 : decode cX8_oneFriday 108 = .ok (.getfield 22, 3) := by decide +kernel
theorem dX8_oneFriday_111 : decode cX8_oneFriday 111 = .ok (.iload_n 1, 1) := by decide +kernel
theorem dX8_oneFriday_112 : decode cX8_oneFriday 112 = .ok (.iaload, 1) := by decide +kernel
theorem dX8_oneFriday_113 : decode cX8_oneFriday 113 = .ok (.iadd, 1) := by decide +kernel
theorem dX8_oneFriday_114 : decode cX8_oneFriday 114 = .ok (.iconst 0, 1) := by decide +kernel
theorem dX8_oneFriday_115 : decode cX8_oneFriday 115 = .ok (.bipush 99, 2) := by decide +kernel
theorem dX8_oneFriday_117 : decode cX8_oneFriday 117 = .ok (.invokestatic 135, 3) := by decide +kernel
theorem dX8_oneFriday_120 : decode cX8_oneFriday 120 = .ok (.invokevirtual 76, 3) := by decide +kernel
theorem dX8_oneFriday_123 : decode cX8_oneFriday 123 = .ok (.aload_n 0, 1) := by decide +kernel
theorem dX8_oneFriday_124 : decode cX8_oneFriday 124 = .ok (.iload_n 1, 1) := by decide +kernel
theorem dX8_oneFriday_125 : decode cX8_oneFriday 125 = .ok (.iconst 4, 1) := by decide +kernel
theorem dX8_oneFriday_126 : decode cX8_oneFriday 126 = .ok (.aload_n 0, 1) := by decide +kernel
theorem dX8_oneFriday_127 : decode cX8_oneFriday 127 = .ok (.iload_n 1, 1) := by decide +kernel
theorem dX8_oneFriday_128 : decode cX8_oneFriday 128 = .ok (.iconst 4, 1) := by decide +kernel
theorem dX8_oneFriday_129 : decode cX8_oneFriday 129 = .ok (.invokevirtual 61, 3) := by decide +kernel
theorem dX8_oneFriday_132 : decode cX8_oneFriday 132 = .ok (.aload_n 0, 1) := by decide +kernel
theorem dX8_oneFriday_133 : decode cX8_oneFriday 133 = .ok (.getfield 25, 3) := by decide +kernel
theorem dX8_oneFriday_136 : decode cX8_oneFriday 136 = .ok (.iload_n 1, 1) := by decide +kernel
theorem dX8_oneFriday_137 : decode cX8_oneFriday 137 = .ok (.iaload, 1) := by decide +kernel
theorem dX8_oneFriday_138 : decode cX8_oneFriday 138 = .ok (.iadd, 1) := by decide +kernel
theorem dX8_oneFriday_139 : decode cX8_oneFriday 139 = .ok (.iconst 0, 1) := by decide +kernel
theorem dX8_oneFriday_140 : decode cX8_oneFriday 140 = .ok (.bipush 99, 2) := by decide +kernel
theorem dX8_oneFriday_142 : decode cX8_oneFriday 142 = .ok (.invokestatic 135, 3) := by decide +kernel
theorem dX8_oneFriday_145 : decode cX8_oneFriday 145 = .ok (.invokevirtual 76, 3) := by decide +kernel
theorem dX8_oneFriday_148 : decode cX8_oneFriday 148 = .ok (.iinc 1 1, 3) := by decide +kernel
theorem dX8_oneFriday_151 : decode cX8_oneFriday 151 = .ok (.goto (-88), 3) := by decide +kernel
theorem dX8_oneFriday_154 : decode cX8_oneFriday 154 = .ok (.aload_n 0, 1) := by decide +kernel
theorem dX8_oneFriday_155 : decode cX8_oneFriday 155 = .ok (.getfield 7, 3) := by decide +kernel
theorem dX8_oneFriday_158 : decode cX8_oneFriday 158 = .ok (.iconst 0, 1) := by decide +kernel
theorem dX8_oneFriday_159 : decode cX8_oneFriday 159 = .ok (.dup2, 1) := by decide +kernel
theorem dX8_oneFriday_160 : decode cX8_oneFriday 160 = .ok (.iaload, 1) := by decide +kernel
theorem dX8_oneFriday_161 : decode cX8_oneFriday 161 = .ok (.iconst 1, 1) := by decide +kernel
theorem dX8_oneFriday_162 : decode cX8_oneFriday 162 = .ok (.iadd, 1) := by decide +kernel
theorem dX8_oneFriday_163 : decode cX8_oneFriday 163 = .ok (.iastore, 1) := by decide +kernel
theorem dX8_oneFriday_164 : decode cX8_oneFriday 164 = .ok (.return_, 1) := by decide +kernel
theorem dX8_fridays_0 : decode cX8_fridays 0 = .ok (.iload_n 1, 1) := by decide +kernel
theorem dX8_fridays_1 : decode cX8_fridays 1 = .ok (.iconst 1, 1) := by decide +kernel
theorem dX8_fridays_2 : decode cX8_fridays 2 = .ok (.bipush 60, 2) := by decide +kernel
theorem dX8_fridays_4 : decode cX8_fridays 4 = .ok (.invokestatic 57, 3) := by decide +kernel
theorem dX8_fridays_7 : decode cX8_fridays 7 = .ok (.ifCond .ne 10, 3) := by decide +kernel
theorem dX8_fridays_10 : decode cX8_fridays 10 = .ok (.aload_n 0, 1) := by decide +kernel
theorem dX8_fridays_11 : decode cX8_fridays 11 = .ok (.ldc 56, 2) := by decide +kernel
theorem dX8_fridays_13 : decode cX8_fridays 13 = .ok (.invokevirtual 83, 3) := by decide +kernel
theorem dX8_fridays_16 : decode cX8_fridays 16 = .ok (.ireturn, 1) := by decide +kernel
theorem dX8_fridays_17 : decode cX8_fridays 17 = .ok (.aload_n 0, 1) := by decide +kernel
theorem dX8_fridays_18 : decode cX8_fridays 18 = .ok (.getfield 7, 3) := by decide +kernel
theorem dX8_fridays_21 : decode cX8_fridays 21 = .ok (.iconst 0, 1) := by decide +kernel
theorem dX8_fridays_22 : decode cX8_fridays 22 = .ok (.iaload, 1) := by decide +kernel
theorem dX8_fridays_23 : decode cX8_fridays 23 = .ok (.iload_n 1, 1) := by decide +kernel
theorem dX8_fridays_24 : decode cX8_fridays 24 = .ok (.iadd, 1) := by decide +kernel
theorem dX8_fridays_25 : decode cX8_fridays 25 = .ok (.sipush 9999, 3) := by decide +kernel
theorem dX8_fridays_28 : decode cX8_fridays 28 = .ok (.if_icmp .le 10, 3) := by decide +kernel
theorem dX8_fridays_31 : decode cX8_fridays 31 = .ok (.aload_n 0, 1) := by decide +kernel
theorem dX8_fridays_32 : decode cX8_fridays 32 = .ok (.ldc 106, 2) := by decide +kernel
theorem dX8_fridays_34 : decode cX8_fridays 34 = .ok (.invokevirtual 83, 3) := by decide +kernel
theorem dX8_fridays_37 : decode cX8_fridays 37 = .ok (.ireturn, 1) := by decide +kernel
theorem dX8_fridays_38 : decode cX8_fridays 38 = .ok (.iconst 0, 1) := by decide +kernel
theorem dX8_fridays_39 : decode cX8_fridays 39 = .ok (.istore_n 2, 1) := by decide +kernel
theorem dX8_fridays_40 : decode cX8_fridays 40 = .ok (.iload_n 2, 1) := by decide +kernel
theorem dX8_fridays_41 : decode cX8_fridays 41 = .ok (.iload_n 1, 1) := by decide +kernel
theorem dX8_fridays_42 : decode cX8_fridays 42 = .ok (.if_icmp .ge 13, 3) := by decide +kernel
theorem dX8_fridays_45 : decode cX8_fridays 45 = .ok (.aload_n 0, 1) := by decide +kernel
theorem dX8_fridays_46 : decode cX8_fridays 46 = .ok (.invokevirtual 139, 3) := by decide +kernel
theorem dX8_fridays_49 : decode cX8_fridays 49 = .ok (.iinc 2 1, 3) := by decide +kernel
theorem dX8_fridays_52 : decode cX8_fridays 52 = .ok (.goto (-12), 3) := by decide +kernel
theorem dX8_fridays_55 : decode cX8_fridays 55 = .ok (.aload_n 0, 1) := by decide +kernel
theorem dX8_fridays_56 : decode cX8_fridays 56 = .ok (.iconst 2, 1) := by decide +kernel
theorem dX8_fridays_57 : decode cX8_fridays 57 = .ok (.invokevirtual 142, 3) := by decide +kernel
theorem dX8_fridays_60 : decode cX8_fridays 60 = .ok (.ireturn, 1) := by decide +kernel
theorem dX8_season_0 : decode cX8_season 0 = .ok (.iload_n 1, 1) := by decide +kernel
theorem dX8_season_1 : decode cX8_season 1 = .ok (.iconst 1, 1) := by decide +kernel
theorem dX8_season_2 : decode cX8_season 2 = .ok (.bipush 20, 2) := by decide +kernel
theorem dX8_season_4 : decode cX8_season 4 = .ok (.invokestatic 57, 3) := by decide +kernel
theorem dX8_season_7 : decode cX8_season 7 = .ok (.ifCond .ne 10, 3) := by decide +kernel
theorem dX8_season_10 : decode cX8_season 10 = .ok (.aload_n 0, 1) := by decide +kernel
theorem dX8_season_11 : decode cX8_season 11 = .ok (.ldc 56, 2) := by decide +kernel
theorem dX8_season_13 : decode cX8_season 13 = .ok (.invokevirtual 83, 3) := by decide +kernel
theorem dX8_season_16 : decode cX8_season 16 = .ok (.ireturn, 1) := by decide +kernel
theorem dX8_season_17 : decode cX8_season 17 = .ok (.aload_n 0, 1) := by decide +kernel
theorem dX8_season_18 : decode cX8_season 18 = .ok (.getfield 7, 3) := by decide +kernel
theorem dX8_season_21 : decode cX8_season 21 = .ok (.iconst 0, 1) := by decide +kernel
theorem dX8_season_22 : decode cX8_season 22 = .ok (.iaload, 1) := by decide +kernel
theorem dX8_season_23 : decode cX8_season 23 = .ok (.iload_n 1, 1) := by decide +kernel
theorem dX8_season_24 : decode cX8_season 24 = .ok (.iadd, 1) := by decide +kernel
theorem dX8_season_25 : decode cX8_season 25 = .ok (.sipush 9999, 3) := by decide +kernel
theorem dX8_season_28 : decode cX8_season 28 = .ok (.if_icmp .le 10, 3) := by decide +kernel
theorem dX8_season_31 : decode cX8_season 31 = .ok (.aload_n 0, 1) := by decide +kernel
theorem dX8_season_32 : decode cX8_season 32 = .ok (.ldc 106, 2) := by decide +kernel
theorem dX8_season_34 : decode cX8_season 34 = .ok (.invokevirtual 83, 3) := by decide +kernel
theorem dX8_season_37 : decode cX8_season 37 = .ok (.ireturn, 1) := by decide +kernel
theorem dX8_season_38 : decode cX8_season 38 = .ok (.iconst 0, 1) := by decide +kernel
theorem dX8_season_39 : decode cX8_season 39 = .ok (.istore_n 2, 1) := by decide +kernel
theorem dX8_season_40 : decode cX8_season 40 = .ok (.iload_n 2, 1) := by decide +kernel
theorem dX8_season_41 : decode cX8_season 41 = .ok (.iload_n 1, 1) := by decide +kernel
theorem dX8_season_42 : decode cX8_season 42 = .ok (.if_icmp .ge 17, 3) := by decide +kernel
theorem dX8_season_45 : decode cX8_season 45 = .ok (.aload_n 0, 1) := by decide +kernel
theorem dX8_season_46 : decode cX8_season 46 = .ok (.invokevirtual 129, 3) := by decide +kernel
theorem dX8_season_49 : decode cX8_season 49 = .ok (.aload_n 0, 1) := by decide +kernel
theorem dX8_season_50 : decode cX8_season 50 = .ok (.invokevirtual 139, 3) := by decide +kernel
theorem dX8_season_53 : decode cX8_season 53 = .ok (.iinc 2 1, 3) := by decide +kernel
theorem dX8_season_56 : decode cX8_season 56 = .ok (.goto (-16), 3) := by decide +kernel
theorem dX8_season_59 : decode cX8_season 59 = .ok (.aload_n 0, 1) := by decide +kernel
theorem dX8_season_60 : decode cX8_season 60 = .ok (.iconst 2, 1) := by decide +kernel
theorem dX8_season_61 : decode cX8_season 61 = .ok (.invokevirtual 142, 3) := by decide +kernel
theorem dX8_season_64 : decode cX8_season 64 = .ok (.ireturn, 1) := by decide +kernel
theorem dX8_children_0 : decode cX8_children 0 = .ok (.iconst 0, 1) := by decide +kernel
theorem dX8_children_1 : decode cX8_children 1 = .ok (.istore_n 1, 1) := by decide +kernel
theorem dX8_children_2 : decode cX8_children 2 = .ok (.iconst 0, 1) := by decide +kernel
theorem dX8_children_3 : decode cX8_children 3 = .ok (.istore_n 2, 1) := by decide +kernel
theorem dX8_children_4 : decode cX8_children 4 = .ok (.iload_n 2, 1) := by decide +kernel
theorem dX8_children_5 : decode cX8_children 5 = .ok (.aload_n 0, 1) := by decide +kernel
theorem dX8_children_6 : decode cX8_children 6 = .ok (.getfield 7, 3) := by decide +kernel
theorem dX8_children_9 : decode cX8_children 9 = .ok (.iconst 2, 1) := by decide +kernel
theorem dX8_children_10 : decode cX8_children 10 = .ok (.iaload, 1) := by decide +kernel
theorem dX8_children_11 : decode cX8_children 11 = .ok (.if_icmp .ge 27, 3) := by decide +kernel
theorem dX8_children_14 : decode cX8_children 14 = .ok (.iload_n 1, 1) := by decide +kernel
theorem dX8_children_15 : decode cX8_children 15 = .ok (.aload_n 0, 1) := by decide +kernel
theorem dX8_children_16 : decode cX8_children 16 = .ok (.iload_n 2, 1) := by decide +kernel
theorem dX8_children_17 : decode cX8_children 17 = .ok (.invokevirtual 65, 3) := by decide +kernel
theorem dX8_children_20 : decode cX8_children 20 = .ok (.ifCond .eq 9, 3) := by decide +kernel
theorem dX8_children_23 : decode cX8_children 23 = .ok (.iconst 1, 1) := by decide +kernel
theorem dX8_children_24 : decode cX8_children 24 = .ok (.iload_n 2, 1) := by decide +kernel
theorem dX8_children_25 : decode cX8_children 25 = .ok (.ishl, 1) := by decide +kernel
theorem dX8_children_26 : decode cX8_children 26 = .ok (.goto 4, 3) := by decide +kernel
theorem dX8_children_29 : decode cX8_children 29 = .ok (.iconst 0, 1) := by decide +kernel
theorem dX8_children_30 : decode cX8_children 30 = .ok (.ior, 1) := by decide +kernel
theorem dX8_children_31 : decode cX8_children 31 = .ok (.istore_n 1, 1) := by decide +kernel
theorem dX8_children_32 : decode cX8_children 32 = .ok (.iinc 2 1, 3) := by decide +kernel
theorem dX8_children_35 : decode cX8_children 35 = .ok (.goto (-31), 3) := by decide +kernel
theorem dX8_children_38 : decode cX8_children 38 = .ok (.iload_n 1, 1) := by decide +kernel
theorem dX8_children_39 : decode cX8_children 39 = .ok (.ireturn, 1) := by decide +kernel
theorem dX8_isRight_0 : decode cX8_isRight 0 = .ok (.iconst 1, 1) := by decide +kernel
theorem dX8_isRight_1 : decode cX8_isRight 1 = .ok (.istore_n 1, 1) := by decide +kernel
theorem dX8_isRight_2 : decode cX8_isRight 2 = .ok (.iconst 0, 1) := by decide +kernel
theorem dX8_isRight_3 : decode cX8_isRight 3 = .ok (.istore_n 2, 1) := by decide +kernel
theorem dX8_isRight_4 : decode cX8_isRight 4 = .ok (.iload_n 2, 1) := by decide +kernel
theorem dX8_isRight_5 : decode cX8_isRight 5 = .ok (.aload_n 0, 1) := by decide +kernel
theorem dX8_isRight_6 : decode cX8_isRight 6 = .ok (.getfield 7, 3) := by decide +kernel
theorem dX8_isRight_9 : decode cX8_isRight 9 = .ok (.iconst 2, 1) := by decide +kernel
theorem dX8_isRight_10 : decode cX8_isRight 10 = .ok (.iaload, 1) := by decide +kernel
theorem dX8_isRight_11 : decode cX8_isRight 11 = .ok (.if_icmp .ge 33, 3) := by decide +kernel
theorem dX8_isRight_14 : decode cX8_isRight 14 = .ok (.iload_n 1, 1) := by decide +kernel
theorem dX8_isRight_15 : decode cX8_isRight 15 = .ok (.ifCond .eq 21, 3) := by decide +kernel
theorem dX8_isRight_18 : decode cX8_isRight 18 = .ok (.aload_n 0, 1) := by decide +kernel
theorem dX8_isRight_19 : decode cX8_isRight 19 = .ok (.iload_n 2, 1) := by decide +kernel
theorem dX8_isRight_20 : decode cX8_isRight 20 = .ok (.aload_n 0, 1) := by decide +kernel
theorem dX8_isRight_21 : decode cX8_isRight 21 = .ok (.iload_n 2, 1) := by decide +kernel
theorem dX8_isRight_22 : decode cX8_isRight 22 = .ok (.iconst 5, 1) := by decide +kernel
theorem dX8_isRight_23 : decode cX8_isRight 23 = .ok (.invokevirtual 61, 3) := by decide +kernel
theorem dX8_isRight_26 : decode cX8_isRight 26 = .ok (.invokevirtual 102, 3) := by decide +kernel
theorem dX8_isRight_29 : decode cX8_isRight 29 = .ok (.ifCond .eq 7, 3) := by decide +kernel
theorem dX8_isRight_32 : decode cX8_isRight 32 = .ok (.iconst 1, 1) := by decide +kernel
theorem dX8_isRight_33 : decode cX8_isRight 33 = .ok (.goto 4, 3) := by decide +kernel
theorem dX8_isRight_36 : decode cX8_isRight 36 = .ok (.iconst 0, 1) := by decide +kernel
theorem dX8_isRight_37 : decode cX8_isRight 37 = .ok (.istore_n 1, 1) := by decide +kernel
theorem dX8_isRight_38 : decode cX8_isRight 38 = .ok (.iinc 2 1, 3) := by decide +kernel
theorem dX8_isRight_41 : decode cX8_isRight 41 = .ok (.goto (-37), 3) := by decide +kernel
theorem dX8_isRight_44 : decode cX8_isRight 44 = .ok (.iload_n 1, 1) := by decide +kernel
theorem dX8_isRight_45 : decode cX8_isRight 45 = .ok (.ireturn, 1) := by decide +kernel
theorem dX8_now_0 : decode cX8_now 0 = .ok (.iload_n 1, 1) := by decide +kernel
theorem dX8_now_1 : decode cX8_now 1 = .ok (.tableswitch 90 0 6 #[43, 50, 56, 61, 66, 71, 84], 43) := by decide +kernel
theorem dX8_now_44 : decode cX8_now 44 = .ok (.aload_n 0, 1) := by decide +kernel
theorem dX8_now_45 : decode cX8_now 45 = .ok (.getfield 7, 3) := by decide +kernel
theorem dX8_now_48 : decode cX8_now 48 = .ok (.iconst 0, 1) := by decide +kernel
theorem dX8_now_49 : decode cX8_now 49 = .ok (.iaload, 1) := by decide +kernel
theorem dX8_now_50 : decode cX8_now 50 = .ok (.ireturn, 1) := by decide +kernel
theorem dX8_now_51 : decode cX8_now 51 = .ok (.aload_n 0, 1) := by decide +kernel
theorem dX8_now_52 : decode cX8_now 52 = .ok (.iconst 2, 1) := by decide +kernel
theorem dX8_now_53 : decode cX8_now 53 = .ok (.invokevirtual 142, 3) := by decide +kernel
theorem dX8_now_56 : decode cX8_now 56 = .ok (.ireturn, 1) := by decide +kernel
theorem dX8_now_57 : decode cX8_now 57 = .ok (.aload_n 0, 1) := by decide +kernel
theorem dX8_now_58 : decode cX8_now 58 = .ok (.invokevirtual 145, 3) := by decide +kernel
theorem dX8_now_61 : decode cX8_now 61 = .ok (.ireturn, 1) := by decide +kernel
theorem dX8_now_62 : decode cX8_now 62 = .ok (.aload_n 0, 1) := by decide +kernel
theorem dX8_now_63 : decode cX8_now 63 = .ok (.invokevirtual 111, 3) := by decide +kernel
theorem dX8_now_66 : decode cX8_now 66 = .ok (.ireturn, 1) := by decide +kernel
theorem dX8_now_67 : decode cX8_now 67 = .ok (.aload_n 0, 1) := by decide +kernel
theorem dX8_now_68 : decode cX8_now 68 = .ok (.invokevirtual 148, 3) := by decide +kernel
theorem dX8_now_71 : decode cX8_now 71 = .ok (.ireturn, 1) := by decide +kernel
theorem dX8_now_72 : decode cX8_now 72 = .ok (.aload_n 0, 1) := by decide +kernel
theorem dX8_now_73 : decode cX8_now 73 = .ok (.invokevirtual 151, 3) := by decide +kernel
theorem dX8_now_76 : decode cX8_now 76 = .ok (.ifCond .eq 7, 3) := by decide +kernel
theorem dX8_now_79 : decode cX8_now 79 = .ok (.iconst 1, 1) := by decide +kernel
theorem dX8_now_80 : decode cX8_now 80 = .ok (.goto 4, 3) := by decide +kernel
theorem dX8_now_83 : decode cX8_now 83 = .ok (.iconst 0, 1) := by decide +kernel
theorem dX8_now_84 : decode cX8_now 84 = .ok (.ireturn, 1) := by decide +kernel
theorem dX8_now_85 : decode cX8_now 85 = .ok (.aload_n 0, 1) := by decide +kernel
theorem dX8_now_86 : decode cX8_now 86 = .ok (.iconst 4, 1) := by decide +kernel
theorem dX8_now_87 : decode cX8_now 87 = .ok (.invokevirtual 142, 3) := by decide +kernel
theorem dX8_now_90 : decode cX8_now 90 = .ok (.ireturn, 1) := by decide +kernel
theorem dX8_now_91 : decode cX8_now 91 = .ok (.aload_n 0, 1) := by decide +kernel
theorem dX8_now_92 : decode cX8_now 92 = .ok (.ldc 56, 2) := by decide +kernel
theorem dX8_now_94 : decode cX8_now 94 = .ok (.invokevirtual 83, 3) := by decide +kernel
theorem dX8_now_97 : decode cX8_now 97 = .ok (.ireturn, 1) := by decide +kernel
theorem dX8_whoHas_0 : decode cX8_whoHas 0 = .ok (.iconst 0, 1) := by decide +kernel
theorem dX8_whoHas_1 : decode cX8_whoHas 1 = .ok (.istore_n 2, 1) := by decide +kernel
theorem dX8_whoHas_2 : decode cX8_whoHas 2 = .ok (.aload_n 0, 1) := by decide +kernel
theorem dX8_whoHas_3 : decode cX8_whoHas 3 = .ok (.iload_n 2, 1) := by decide +kernel
theorem dX8_whoHas_4 : decode cX8_whoHas 4 = .ok (.iconst 5, 1) := by decide +kernel
theorem dX8_whoHas_5 : decode cX8_whoHas 5 = .ok (.invokevirtual 61, 3) := by decide +kernel
theorem dX8_whoHas_8 : decode cX8_whoHas 8 = .ok (.iload_n 1, 1) := by decide +kernel
theorem dX8_whoHas_9 : decode cX8_whoHas 9 = .ok (.if_icmp .eq 9, 3) := by decide +kernel
theorem dX8_whoHas_12 : decode cX8_whoHas 12 = .ok (.iinc 2 1, 3) := by decide +kernel
theorem dX8_whoHas_15 : decode cX8_whoHas 15 = .ok (.goto (-13), 3) := by decide +kernel
theorem dX8_whoHas_18 : decode cX8_whoHas 18 = .ok (.iload_n 2, 1) := by decide +kernel
theorem dX8_whoHas_19 : decode cX8_whoHas 19 = .ok (.ireturn, 1) := by decide +kernel
theorem dX8_who_0 : decode cX8_who 0 = .ok (.aload_n 0, 1) := by decide +kernel
theorem dX8_who_1 : decode cX8_who 1 = .ok (.iload_n 1, 1) := by decide +kernel
theorem dX8_who_2 : decode cX8_who 2 = .ok (.invokevirtual 91, 3) := by decide +kernel
theorem dX8_who_5 : decode cX8_who 5 = .ok (.ifCond .eq 11, 3) := by decide +kernel
theorem dX8_who_8 : decode cX8_who 8 = .ok (.aload_n 0, 1) := by decide +kernel
theorem dX8_who_9 : decode cX8_who 9 = .ok (.iload_n 1, 1) := by decide +kernel
theorem dX8_who_10 : decode cX8_who 10 = .ok (.invokevirtual 155, 3) := by decide +kernel
theorem dX8_who_13 : decode cX8_who 13 = .ok (.goto 9, 3) := by decide +kernel
theorem dX8_who_16 : decode cX8_who 16 = .ok (.aload_n 0, 1) := by decide +kernel
theorem dX8_who_17 : decode cX8_who 17 = .ok (.ldc 56, 2) := by decide +kernel
theorem dX8_who_19 : decode cX8_who 19 = .ok (.invokevirtual 83, 3) := by decide +kernel
theorem dX8_who_22 : decode cX8_who 22 = .ok (.ireturn, 1) := by decide +kernel
theorem dX8_ringOf_0 : decode cX8_ringOf 0 = .ok (.iconst 0, 1) := by decide +kernel
theorem dX8_ringOf_1 : decode cX8_ringOf 1 = .ok (.istore_n 2, 1) := by decide +kernel
theorem dX8_ringOf_2 : decode cX8_ringOf 2 = .ok (.iload_n 1, 1) := by decide +kernel
theorem dX8_ringOf_3 : decode cX8_ringOf 3 = .ok (.istore_n 3, 1) := by decide +kernel
theorem dX8_ringOf_4 : decode cX8_ringOf 4 = .ok (.iload_n 2, 1) := by decide +kernel
theorem dX8_ringOf_5 : decode cX8_ringOf 5 = .ok (.iload_n 3, 1) := by decide +kernel
theorem dX8_ringOf_6 : decode cX8_ringOf 6 = .ok (.ishr, 1) := by decide +kernel
theorem dX8_ringOf_7 : decode cX8_ringOf 7 = .ok (.iconst 1, 1) := by decide +kernel
theorem dX8_ringOf_8 : decode cX8_ringOf 8 = .ok (.iand, 1) := by decide +kernel
theorem dX8_ringOf_9 : decode cX8_ringOf 9 = .ok (.ifCond .ne 19, 3) := by decide +kernel
theorem dX8_ringOf_12 : decode cX8_ringOf 12 = .ok (.iload_n 2, 1) := by decide +kernel
theorem dX8_ringOf_13 : decode cX8_ringOf 13 = .ok (.iconst 1, 1) := by decide +kernel
theorem dX8_ringOf_14 : decode cX8_ringOf 14 = .ok (.iload_n 3, 1) := by decide +kernel
theorem dX8_ringOf_15 : decode cX8_ringOf 15 = .ok (.ishl, 1) := by decide +kernel
theorem dX8_ringOf_16 : decode cX8_ringOf 16 = .ok (.ior, 1) := by decide +kernel
theorem dX8_ringOf_17 : decode cX8_ringOf 17 = .ok (.istore_n 2, 1) := by decide +kernel
theorem dX8_ringOf_18 : decode cX8_ringOf 18 = .ok (.aload_n 0, 1) := by decide +kernel
theorem dX8_ringOf_19 : decode cX8_ringOf 19 = .ok (.iload_n 3, 1) := by decide +kernel
theorem dX8_ringOf_20 : decode cX8_ringOf 20 = .ok (.iconst 5, 1) := by decide +kernel
theorem dX8_ringOf_21 : decode cX8_ringOf 21 = .ok (.invokevirtual 61, 3) := by decide +kernel
theorem dX8_ringOf_24 : decode cX8_ringOf 24 = .ok (.istore_n 3, 1) := by decide +kernel
theorem dX8_ringOf_25 : decode cX8_ringOf 25 = .ok (.goto (-21), 3) := by decide +kernel
theorem dX8_ringOf_28 : decode cX8_ringOf 28 = .ok (.iload_n 2, 1) := by decide +kernel
theorem dX8_ringOf_29 : decode cX8_ringOf 29 = .ok (.ireturn, 1) := by decide +kernel
theorem dX8_ring_0 : decode cX8_ring 0 = .ok (.aload_n 0, 1) := by decide +kernel
theorem dX8_ring_1 : decode cX8_ring 1 = .ok (.iload_n 1, 1) := by decide +kernel
theorem dX8_ring_2 : decode cX8_ring 2 = .ok (.invokevirtual 91, 3) := by decide +kernel
theorem dX8_ring_5 : decode cX8_ring 5 = .ok (.ifCond .eq 11, 3) := by decide +kernel
theorem dX8_ring_8 : decode cX8_ring 8 = .ok (.aload_n 0, 1) := by decide +kernel
theorem dX8_ring_9 : decode cX8_ring 9 = .ok (.iload_n 1, 1) := by decide +kernel
theorem dX8_ring_10 : decode cX8_ring 10 = .ok (.invokevirtual 158, 3) := by decide +kernel
theorem dX8_ring_13 : decode cX8_ring 13 = .ok (.goto 9, 3) := by decide +kernel
theorem dX8_ring_16 : decode cX8_ring 16 = .ok (.aload_n 0, 1) := by decide +kernel
theorem dX8_ring_17 : decode cX8_ring 17 = .ok (.ldc 56, 2) := by decide +kernel
theorem dX8_ring_19 : decode cX8_ring 19 = .ok (.invokevirtual 83, 3) := by decide +kernel
theorem dX8_ring_22 : decode cX8_ring 22 = .ok (.ireturn, 1) := by decide +kernel
theorem dX8_rings_0 : decode cX8_rings 0 = .ok (.iconst 0, 1) := by decide +kernel
theorem dX8_rings_1 : decode cX8_rings 1 = .ok (.istore_n 1, 1) := by decide +kernel
theorem dX8_rings_2 : decode cX8_rings 2 = .ok (.iconst 0, 1) := by decide +kernel
theorem dX8_rings_3 : decode cX8_rings 3 = .ok (.istore_n 2, 1) := by decide +kernel
theorem dX8_rings_4 : decode cX8_rings 4 = .ok (.iconst 0, 1) := by decide +kernel
theorem dX8_rings_5 : decode cX8_rings 5 = .ok (.istore_n 3, 1) := by decide +kernel
theorem dX8_rings_6 : decode cX8_rings 6 = .ok (.iload_n 3, 1) := by decide +kernel
theorem dX8_rings_7 : decode cX8_rings 7 = .ok (.aload_n 0, 1) := by decide +kernel
theorem dX8_rings_8 : decode cX8_rings 8 = .ok (.getfield 7, 3) := by decide +kernel
theorem dX8_rings_11 : decode cX8_rings 11 = .ok (.iconst 2, 1) := by decide +kernel
theorem dX8_rings_12 : decode cX8_rings 12 = .ok (.iaload, 1) := by decide +kernel
theorem dX8_rings_13 : decode cX8_rings 13 = .ok (.if_icmp .ge 33, 3) := by decide +kernel
theorem dX8_rings_16 : decode cX8_rings 16 = .ok (.iload_n 1, 1) := by decide +kernel
theorem dX8_rings_17 : decode cX8_rings 17 = .ok (.iload_n 2, 1) := by decide +kernel
theorem dX8_rings_18 : decode cX8_rings 18 = .ok (.iload_n 3, 1) := by decide +kernel
theorem dX8_rings_19 : decode cX8_rings 19 = .ok (.ishr, 1) := by decide +kernel
theorem dX8_rings_20 : decode cX8_rings 20 = .ok (.iconst 1, 1) := by decide +kernel
theorem dX8_rings_21 : decode cX8_rings 21 = .ok (.iand, 1) := by decide +kernel
theorem dX8_rings_22 : decode cX8_rings 22 = .ok (.ifCond .ne 7, 3) := by decide +kernel
theorem dX8_rings_25 : decode cX8_rings 25 = .ok (.iconst 1, 1) := by decide +kernel
theorem dX8_rings_26 : decode cX8_rings 26 = .ok (.goto 4, 3) := by decide +kernel
theorem dX8_rings_29 : decode cX8_rings 29 = .ok (.iconst 0, 1) := by decide +kernel
theorem dX8_rings_30 : decode cX8_rings 30 = .ok (.iadd, 1) := by decide +kernel
theorem dX8_rings_31 : decode cX8_rings 31 = .ok (.istore_n 1, 1) := by decide +kernel
theorem dX8_rings_32 : decode cX8_rings 32 = .ok (.iload_n 2, 1) := by decide +kernel
theorem dX8_rings_33 : decode cX8_rings 33 = .ok (.aload_n 0, 1) := by decide +kernel
theorem dX8_rings_34 : decode cX8_rings 34 = .ok (.iload_n 3, 1) := by decide +kernel
theorem dX8_rings_35 : decode cX8_rings 35 = .ok (.invokevirtual 158, 3) := by decide +kernel
theorem dX8_rings_38 : decode cX8_rings 38 = .ok (.ior, 1) := by decide +kernel
theorem dX8_rings_39 : decode cX8_rings 39 = .ok (.istore_n 2, 1) := by decide +kernel
theorem dX8_rings_40 : decode cX8_rings 40 = .ok (.iinc 3 1, 3) := by decide +kernel
theorem dX8_rings_43 : decode cX8_rings 43 = .ok (.goto (-37), 3) := by decide +kernel
theorem dX8_rings_46 : decode cX8_rings 46 = .ok (.iload_n 1, 1) := by decide +kernel
theorem dX8_rings_47 : decode cX8_rings 47 = .ok (.ireturn, 1) := by decide +kernel
theorem dX8_pairs_0 : decode cX8_pairs 0 = .ok (.iconst 0, 1) := by decide +kernel
theorem dX8_pairs_1 : decode cX8_pairs 1 = .ok (.istore_n 1, 1) := by decide +kernel
theorem dX8_pairs_2 : decode cX8_pairs 2 = .ok (.iconst 0, 1) := by decide +kernel
theorem dX8_pairs_3 : decode cX8_pairs 3 = .ok (.istore_n 2, 1) := by decide +kernel
theorem dX8_pairs_4 : decode cX8_pairs 4 = .ok (.iload_n 2, 1) := by decide +kernel
theorem dX8_pairs_5 : decode cX8_pairs 5 = .ok (.aload_n 0, 1) := by decide +kernel
theorem dX8_pairs_6 : decode cX8_pairs 6 = .ok (.getfield 7, 3) := by decide +kernel
theorem dX8_pairs_9 : decode cX8_pairs 9 = .ok (.iconst 2, 1) := by decide +kernel
theorem dX8_pairs_10 : decode cX8_pairs 10 = .ok (.iaload, 1) := by decide +kernel
theorem dX8_pairs_11 : decode cX8_pairs 11 = .ok (.if_icmp .ge 42, 3) := by decide +kernel
theorem dX8_pairs_14 : decode cX8_pairs 14 = .ok (.iload_n 1, 1) := by decide +kernel
theorem dX8_pairs_15 : decode cX8_pairs 15 = .ok (.aload_n 0, 1) := by decide +kernel
theorem dX8_pairs_16 : decode cX8_pairs 16 = .ok (.iload_n 2, 1) := by decide +kernel
theorem dX8_pairs_17 : decode cX8_pairs 17 = .ok (.iconst 5, 1) := by decide +kernel
theorem dX8_pairs_18 : decode cX8_pairs 18 = .ok (.invokevirtual 61, 3) := by decide +kernel
theorem dX8_pairs_21 : decode cX8_pairs 21 = .ok (.iload_n 2, 1) := by decide +kernel
theorem dX8_pairs_22 : decode cX8_pairs 22 = .ok (.if_icmp .le 22, 3) := by decide +kernel
theorem dX8_pairs_25 : decode cX8_pairs 25 = .ok (.aload_n 0, 1) := by decide +kernel
theorem dX8_pairs_26 : decode cX8_pairs 26 = .ok (.aload_n 0, 1) := by decide +kernel
theorem dX8_pairs_27 : decode cX8_pairs 27 = .ok (.iload_n 2, 1) := by decide +kernel
theorem dX8_pairs_28 : decode cX8_pairs 28 = .ok (.iconst 5, 1) := by decide +kernel
theorem dX8_pairs_29 : decode cX8_pairs 29 = .ok (.invokevirtual 61, 3) := by decide +kernel
theorem dX8_pairs_32 : decode cX8_pairs 32 = .ok (.iconst 5, 1) := by decide +kernel
theorem dX8_pairs_33 : decode cX8_pairs 33 = .ok (.invokevirtual 61, 3) := by decide +kernel
theorem dX8_pairs_36 : decode cX8_pairs 36 = .ok (.iload_n 2, 1) := by decide +kernel
theorem dX8_pairs_37 : decode cX8_pairs 37 = .ok (.if_icmp .ne 7, 3) := by decide +kernel
theorem dX8_pairs_40 : decode cX8_pairs 40 = .ok (.iconst 1, 1) := by decide +kernel
theorem dX8_pairs_41 : decode cX8_pairs 41 = .ok (.goto 4, 3) := by decide +kernel
theorem dX8_pairs_44 : decode cX8_pairs 44 = .ok (.iconst 0, 1) := by decide +kernel
theorem dX8_pairs_45 : decode cX8_pairs 45 = .ok (.iadd, 1) := by decide +kernel
theorem dX8_pairs_46 : decode cX8_pairs 46 = .ok (.istore_n 1, 1) := by decide +kernel
theorem dX8_pairs_47 : decode cX8_pairs 47 = .ok (.iinc 2 1, 3) := by decide +kernel
theorem dX8_pairs_50 : decode cX8_pairs 50 = .ok (.goto (-46), 3) := by decide +kernel
theorem dX8_pairs_53 : decode cX8_pairs 53 = .ok (.iload_n 1, 1) := by decide +kernel
theorem dX8_pairs_54 : decode cX8_pairs 54 = .ok (.ireturn, 1) := by decide +kernel
theorem dX8_on_0 : decode cX8_on 0 = .ok (.aload_n 0, 1) := by decide +kernel
theorem dX8_on_1 : decode cX8_on 1 = .ok (.iload_n 1, 1) := by decide +kernel
theorem dX8_on_2 : decode cX8_on 2 = .ok (.invokevirtual 91, 3) := by decide +kernel
theorem dX8_on_5 : decode cX8_on 5 = .ok (.ifCond .eq 22, 3) := by decide +kernel
theorem dX8_on_8 : decode cX8_on 8 = .ok (.iload_n 2, 1) := by decide +kernel
theorem dX8_on_9 : decode cX8_on 9 = .ok (.iconst 0, 1) := by decide +kernel
theorem dX8_on_10 : decode cX8_on 10 = .ok (.bipush 60, 2) := by decide +kernel
theorem dX8_on_12 : decode cX8_on 12 = .ok (.invokestatic 57, 3) := by decide +kernel
theorem dX8_on_15 : decode cX8_on 15 = .ok (.ifCond .eq 12, 3) := by decide +kernel
theorem dX8_on_18 : decode cX8_on 18 = .ok (.iload_n 3, 1) := by decide +kernel
theorem dX8_on_19 : decode cX8_on 19 = .ok (.iconst 0, 1) := by decide +kernel
theorem dX8_on_20 : decode cX8_on 20 = .ok (.iconst 2, 1) := by decide +kernel
theorem dX8_on_21 : decode cX8_on 21 = .ok (.invokestatic 57, 3) := by decide +kernel
theorem dX8_on_24 : decode cX8_on 24 = .ok (.ifCond .ne 10, 3) := by decide +kernel
theorem dX8_on_27 : decode cX8_on 27 = .ok (.aload_n 0, 1) := by decide +kernel
theorem dX8_on_28 : decode cX8_on 28 = .ok (.ldc 56, 2) := by decide +kernel
theorem dX8_on_30 : decode cX8_on 30 = .ok (.invokevirtual 83, 3) := by decide +kernel
theorem dX8_on_33 : decode cX8_on 33 = .ok (.ireturn, 1) := by decide +kernel
theorem dX8_on_34 : decode cX8_on 34 = .ok (.aload_n 0, 1) := by decide +kernel
theorem dX8_on_35 : decode cX8_on 35 = .ok (.iconst 1, 1) := by decide +kernel
theorem dX8_on_36 : decode cX8_on 36 = .ok (.aload_n 0, 1) := by decide +kernel
theorem dX8_on_37 : decode cX8_on 37 = .ok (.getfield 28, 3) := by decide +kernel
theorem dX8_on_40 : decode cX8_on 40 = .ok (.invokevirtual 161, 3) := by decide +kernel
theorem dX8_on_43 : decode cX8_on 43 = .ok (.iconst 0, 1) := by decide +kernel
theorem dX8_on_44 : decode cX8_on 44 = .ok (.istore 4, 2) := by decide +kernel
theorem dX8_on_46 : decode cX8_on 46 = .ok (.iload 4, 2) := by decide +kernel
theorem dX8_on_48 : decode cX8_on 48 = .ok (.iload_n 2, 1) := by decide +kernel
theorem dX8_on_49 : decode cX8_on 49 = .ok (.if_icmp .ge 13, 3) := by decide +kernel
theorem dX8_on_52 : decode cX8_on 52 = .ok (.aload_n 0, 1) := by decide +kernel
theorem dX8_on_53 : decode cX8_on 53 = .ok (.invokevirtual 139, 3) := by decide +kernel
theorem dX8_on_56 : decode cX8_on 56 = .ok (.iinc 4 1, 3) := by decide +kernel
theorem dX8_on_59 : decode cX8_on 59 = .ok (.goto (-13), 3) := by decide +kernel
theorem dX8_on_62 : decode cX8_on 62 = .ok (.aload_n 0, 1) := by decide +kernel
theorem dX8_on_63 : decode cX8_on 63 = .ok (.iload_n 1, 1) := by decide +kernel
theorem dX8_on_64 : decode cX8_on 64 = .ok (.iconst 2, 1) := by decide +kernel
theorem dX8_on_65 : decode cX8_on 65 = .ok (.iload_n 3, 1) := by decide +kernel
theorem dX8_on_66 : decode cX8_on 66 = .ok (.iadd, 1) := by decide +kernel
theorem dX8_on_67 : decode cX8_on 67 = .ok (.invokevirtual 61, 3) := by decide +kernel
theorem dX8_on_70 : decode cX8_on 70 = .ok (.istore 4, 2) := by decide +kernel
theorem dX8_on_72 : decode cX8_on 72 = .ok (.aload_n 0, 1) := by decide +kernel
theorem dX8_on_73 : decode cX8_on 73 = .ok (.iconst 0, 1) := by decide +kernel
theorem dX8_on_74 : decode cX8_on 74 = .ok (.aload_n 0, 1) := by decide +kernel
theorem dX8_on_75 : decode cX8_on 75 = .ok (.getfield 28, 3) := by decide +kernel
theorem dX8_on_78 : decode cX8_on 78 = .ok (.invokevirtual 161, 3) := by decide +kernel
theorem dX8_on_81 : decode cX8_on 81 = .ok (.iload 4, 2) := by decide +kernel
theorem dX8_on_83 : decode cX8_on 83 = .ok (.ireturn, 1) := by decide +kernel
theorem dX8_itself_0 : decode cX8_itself 0 = .ok (.aload_n 0, 1) := by decide +kernel
theorem dX8_itself_1 : decode cX8_itself 1 = .ok (.iload_n 1, 1) := by decide +kernel
theorem dX8_itself_2 : decode cX8_itself 2 = .ok (.invokevirtual 91, 3) := by decide +kernel
theorem dX8_itself_5 : decode cX8_itself 5 = .ok (.ifCond .ne 10, 3) := by decide +kernel
theorem dX8_itself_8 : decode cX8_itself 8 = .ok (.aload_n 0, 1) := by decide +kernel
theorem dX8_itself_9 : decode cX8_itself 9 = .ok (.ldc 56, 2) := by decide +kernel
theorem dX8_itself_11 : decode cX8_itself 11 = .ok (.invokevirtual 83, 3) := by decide +kernel
theorem dX8_itself_14 : decode cX8_itself 14 = .ok (.ireturn, 1) := by decide +kernel
theorem dX8_itself_15 : decode cX8_itself 15 = .ok (.aload_n 0, 1) := by decide +kernel
theorem dX8_itself_16 : decode cX8_itself 16 = .ok (.iconst 1, 1) := by decide +kernel
theorem dX8_itself_17 : decode cX8_itself 17 = .ok (.aload_n 0, 1) := by decide +kernel
theorem dX8_itself_18 : decode cX8_itself 18 = .ok (.getfield 28, 3) := by decide +kernel
theorem dX8_itself_21 : decode cX8_itself 21 = .ok (.invokevirtual 161, 3) := by decide +kernel
theorem dX8_itself_24 : decode cX8_itself 24 = .ok (.iconst 0, 1) := by decide +kernel
theorem dX8_itself_25 : decode cX8_itself 25 = .ok (.istore_n 2, 1) := by decide +kernel
theorem dX8_itself_26 : decode cX8_itself 26 = .ok (.iconst 0, 1) := by decide +kernel
theorem dX8_itself_27 : decode cX8_itself 27 = .ok (.istore_n 3, 1) := by decide +kernel
theorem dX8_itself_28 : decode cX8_itself 28 = .ok (.iload_n 2, 1) := by decide +kernel
theorem dX8_itself_29 : decode cX8_itself 29 = .ok (.bipush 60, 2) := by decide +kernel
theorem dX8_itself_31 : decode cX8_itself 31 = .ok (.if_icmp .ge 33, 3) := by decide +kernel
theorem dX8_itself_34 : decode cX8_itself 34 = .ok (.iload_n 3, 1) := by decide +kernel
theorem dX8_itself_35 : decode cX8_itself 35 = .ok (.ifCond .ne 29, 3) := by decide +kernel
theorem dX8_itself_38 : decode cX8_itself 38 = .ok (.aload_n 0, 1) := by decide +kernel
theorem dX8_itself_39 : decode cX8_itself 39 = .ok (.invokevirtual 129, 3) := by decide +kernel
theorem dX8_itself_42 : decode cX8_itself 42 = .ok (.iinc 2 1, 3) := by decide +kernel
theorem dX8_itself_45 : decode cX8_itself 45 = .ok (.aload_n 0, 1) := by decide +kernel
theorem dX8_itself_46 : decode cX8_itself 46 = .ok (.iload_n 1, 1) := by decide +kernel
theorem dX8_itself_47 : decode cX8_itself 47 = .ok (.iconst 5, 1) := by decide +kernel
theorem dX8_itself_48 : decode cX8_itself 48 = .ok (.invokevirtual 61, 3) := by decide +kernel
theorem dX8_itself_51 : decode cX8_itself 51 = .ok (.iload_n 1, 1) := by decide +kernel
theorem dX8_itself_52 : decode cX8_itself 52 = .ok (.if_icmp .ne 7, 3) := by decide +kernel
theorem dX8_itself_55 : decode cX8_itself 55 = .ok (.iconst 1, 1) := by decide +kernel
theorem dX8_itself_56 : decode cX8_itself 56 = .ok (.goto 4, 3) := by decide +kernel
theorem dX8_itself_59 : decode cX8_itself 59 = .ok (.iconst 0, 1) := by decide +kernel
theorem dX8_itself_60 : decode cX8_itself 60 = .ok (.istore_n 3, 1) := by decide +kernel
theorem dX8_itself_61 : decode cX8_itself 61 = .ok (.goto (-33), 3) := by decide +kernel
theorem dX8_itself_64 : decode cX8_itself 64 = .ok (.aload_n 0, 1) := by decide +kernel
theorem dX8_itself_65 : decode cX8_itself 65 = .ok (.iconst 0, 1) := by decide +kernel
theorem dX8_itself_66 : decode cX8_itself 66 = .ok (.aload_n 0, 1) := by decide +kernel
theorem dX8_itself_67 : decode cX8_itself 67 = .ok (.getfield 28, 3) := by decide +kernel
theorem dX8_itself_70 : decode cX8_itself 70 = .ok (.invokevirtual 161, 3) := by decide +kernel
theorem dX8_itself_73 : decode cX8_itself 73 = .ok (.iload_n 3, 1) := by decide +kernel
theorem dX8_itself_74 : decode cX8_itself 74 = .ok (.ifCond .eq 7, 3) := by decide +kernel
theorem dX8_itself_77 : decode cX8_itself 77 = .ok (.iload_n 2, 1) := by decide +kernel
theorem dX8_itself_78 : decode cX8_itself 78 = .ok (.goto 9, 3) := by decide +kernel
theorem dX8_itself_81 : decode cX8_itself 81 = .ok (.aload_n 0, 1) := by decide +kernel
theorem dX8_itself_82 : decode cX8_itself 82 = .ok (.ldc 165, 2) := by decide +kernel
theorem dX8_itself_84 : decode cX8_itself 84 = .ok (.invokevirtual 83, 3) := by decide +kernel
theorem dX8_itself_87 : decode cX8_itself 87 = .ok (.ireturn, 1) := by decide +kernel
theorem dX8_findMost_0 : decode cX8_findMost 0 = .ok (.aload_n 0, 1) := by decide +kernel
theorem dX8_findMost_1 : decode cX8_findMost 1 = .ok (.getfield 7, 3) := by decide +kernel
theorem dX8_findMost_4 : decode cX8_findMost 4 = .ok (.iconst 2, 1) := by decide +kernel
theorem dX8_findMost_5 : decode cX8_findMost 5 = .ok (.iaload, 1) := by decide +kernel
theorem dX8_findMost_6 : decode cX8_findMost 6 = .ok (.istore_n 1, 1) := by decide +kernel
theorem dX8_findMost_7 : decode cX8_findMost 7 = .ok (.iconst 1, 1) := by decide +kernel
theorem dX8_findMost_8 : decode cX8_findMost 8 = .ok (.iload_n 1, 1) := by decide +kernel
theorem dX8_findMost_9 : decode cX8_findMost 9 = .ok (.ishl, 1) := by decide +kernel
theorem dX8_findMost_10 : decode cX8_findMost 10 = .ok (.iconst 1, 1) := by decide +kernel
theorem dX8_findMost_11 : decode cX8_findMost 11 = .ok (.isub, 1) := by decide +kernel
theorem dX8_findMost_12 : decode cX8_findMost 12 = .ok (.istore_n 2, 1) := by decide +kernel
theorem dX8_findMost_13 : decode cX8_findMost 13 = .ok (.aload_n 0, 1) := by decide +kernel
theorem dX8_findMost_14 : decode cX8_findMost 14 = .ok (.getfield 31, 3) := by decide +kernel
theorem dX8_findMost_17 : decode cX8_findMost 17 = .ok (.iload_n 2, 1) := by decide +kernel
theorem dX8_findMost_18 : decode cX8_findMost 18 = .ok (.iconst 0, 1) := by decide +kernel
theorem dX8_findMost_19 : decode cX8_findMost 19 = .ok (.iastore, 1) := by decide +kernel
theorem dX8_findMost_20 : decode cX8_findMost 20 = .ok (.iload_n 2, 1) := by decide +kernel
theorem dX8_findMost_21 : decode cX8_findMost 21 = .ok (.iconst 1, 1) := by decide +kernel
theorem dX8_findMost_22 : decode cX8_findMost 22 = .ok (.isub, 1) := by decide +kernel
theorem dX8_findMost_23 : decode cX8_findMost 23 = .ok (.istore_n 3, 1) := by decide +kernel
theorem dX8_findMost_24 : decode cX8_findMost 24 = .ok (.iload_n 3, 1) := by decide +kernel
theorem dX8_findMost_25 : decode cX8_findMost 25 = .ok (.ifCond .lt 121, 3) := by decide +kernel
theorem dX8_findMost_28 : decode cX8_findMost 28 = .ok (.iload_n 3, 1) := by decide +kernel
theorem dX8_findMost_29 : decode cX8_findMost 29 = .ok (.invokestatic 115, 3) := by decide +kernel
theorem dX8_findMost_32 : decode cX8_findMost 32 = .ok (.istore 4, 2) := by decide +kernel
theorem dX8_findMost_34 : decode cX8_findMost 34 = .ok (.aload_n 0, 1) := by decide +kernel
theorem dX8_findMost_35 : decode cX8_findMost 35 = .ok (.getfield 31, 3) := by decide +kernel
theorem dX8_findMost_38 : decode cX8_findMost 38 = .ok (.iload_n 3, 1) := by decide +kernel
theorem dX8_findMost_39 : decode cX8_findMost 39 = .ok (.iconst (-1), 1) := by decide +kernel
theorem dX8_findMost_40 : decode cX8_findMost 40 = .ok (.iastore, 1) := by decide +kernel
theorem dX8_findMost_41 : decode cX8_findMost 41 = .ok (.iconst 0, 1) := by decide +kernel
theorem dX8_findMost_42 : decode cX8_findMost 42 = .ok (.istore 5, 2) := by decide +kernel
theorem dX8_findMost_44 : decode cX8_findMost 44 = .ok (.iload 5, 2) := by decide +kernel
theorem dX8_findMost_46 : decode cX8_findMost 46 = .ok (.iload_n 1, 1) := by decide +kernel
theorem dX8_findMost_47 : decode cX8_findMost 47 = .ok (.if_icmp .ge 93, 3) := by decide +kernel
theorem dX8_findMost_50 : decode cX8_findMost 50 = .ok (.iload_n 3, 1) := by decide +kernel
theorem dX8_findMost_51 : decode cX8_findMost 51 = .ok (.iload 5, 2) := by decide +kernel
theorem dX8_findMost_53 : decode cX8_findMost 53 = .ok (.ishr, 1) := by decide +kernel
theorem dX8_findMost_54 : decode cX8_findMost 54 = .ok (.iconst 1, 1) := by decide +kernel
theorem dX8_findMost_55 : decode cX8_findMost 55 = .ok (.iand, 1) := by decide +kernel
theorem dX8_findMost_56 : decode cX8_findMost 56 = .ok (.ifCond .ne 78, 3) := by decide +kernel
theorem dX8_findMost_59 : decode cX8_findMost 59 = .ok (.aload_n 0, 1) := by decide +kernel
theorem dX8_findMost_60 : decode cX8_findMost 60 = .ok (.iload 4, 2) := by decide +kernel
theorem dX8_findMost_62 : decode cX8_findMost 62 = .ok (.iload 5, 2) := by decide +kernel
theorem dX8_findMost_64 : decode cX8_findMost 64 = .ok (.invokevirtual 102, 3) := by decide +kernel
theorem dX8_findMost_67 : decode cX8_findMost 67 = .ok (.ifCond .eq 67, 3) := by decide +kernel
theorem dX8_findMost_70 : decode cX8_findMost 70 = .ok (.aload_n 0, 1) := by decide +kernel
theorem dX8_findMost_71 : decode cX8_findMost 71 = .ok (.getfield 31, 3) := by decide +kernel
theorem dX8_findMost_74 : decode cX8_findMost 74 = .ok (.iload_n 3, 1) := by decide +kernel
theorem dX8_findMost_75 : decode cX8_findMost 75 = .ok (.iconst 1, 1) := by decide +kernel
theorem dX8_findMost_76 : decode cX8_findMost 76 = .ok (.iload 5, 2) := by decide +kernel
theorem dX8_findMost_78 : decode cX8_findMost 78 = .ok (.ishl, 1) := by decide +kernel
theorem dX8_findMost_79 : decode cX8_findMost 79 = .ok (.ior, 1) := by decide +kernel
theorem dX8_findMost_80 : decode cX8_findMost 80 = .ok (.iaload, 1) := by decide +kernel
theorem dX8_findMost_81 : decode cX8_findMost 81 = .ok (.ifCond .lt 53, 3) := by decide +kernel
theorem dX8_findMost_84 : decode cX8_findMost 84 = .ok (.aload_n 0, 1) := by decide +kernel
theorem dX8_findMost_85 : decode cX8_findMost 85 = .ok (.iload 4, 2) := by decide +kernel
theorem dX8_findMost_87 : decode cX8_findMost 87 = .ok (.iload 5, 2) := by decide +kernel
theorem dX8_findMost_89 : decode cX8_findMost 89 = .ok (.invokevirtual 69, 3) := by decide +kernel
theorem dX8_findMost_92 : decode cX8_findMost 92 = .ok (.aload_n 0, 1) := by decide +kernel
theorem dX8_findMost_93 : decode cX8_findMost 93 = .ok (.getfield 31, 3) := by decide +kernel
theorem dX8_findMost_96 : decode cX8_findMost 96 = .ok (.iload_n 3, 1) := by decide +kernel
theorem dX8_findMost_97 : decode cX8_findMost 97 = .ok (.iconst 1, 1) := by decide +kernel
theorem dX8_findMost_98 : decode cX8_findMost 98 = .ok (.iload 5, 2) := by decide +kernel
theorem dX8_findMost_100 : decode cX8_findMost 100 = .ok (.ishl, 1) := by decide +kernel
theorem dX8_findMost_101 : decode cX8_findMost 101 = .ok (.ior, 1) := by decide +kernel
theorem dX8_findMost_102 : decode cX8_findMost 102 = .ok (.iaload, 1) := by decide +kernel
theorem dX8_findMost_103 : decode cX8_findMost 103 = .ok (.iadd, 1) := by decide +kernel
theorem dX8_findMost_104 : decode cX8_findMost 104 = .ok (.istore 6, 2) := by decide +kernel
theorem dX8_findMost_106 : decode cX8_findMost 106 = .ok (.aload_n 0, 1) := by decide +kernel
theorem dX8_findMost_107 : decode cX8_findMost 107 = .ok (.getfield 31, 3) := by decide +kernel
theorem dX8_findMost_110 : decode cX8_findMost 110 = .ok (.iload_n 3, 1) := by decide +kernel
theorem dX8_findMost_111 : decode cX8_findMost 111 = .ok (.iload 6, 2) := by decide +kernel
theorem dX8_findMost_113 : decode cX8_findMost 113 = .ok (.aload_n 0, 1) := by decide +kernel
theorem dX8_findMost_114 : decode cX8_findMost 114 = .ok (.getfield 31, 3) := by decide +kernel
theorem dX8_findMost_117 : decode cX8_findMost 117 = .ok (.iload_n 3, 1) := by decide +kernel
theorem dX8_findMost_118 : decode cX8_findMost 118 = .ok (.iaload, 1) := by decide +kernel
theorem dX8_findMost_119 : decode cX8_findMost 119 = .ok (.if_icmp .le 8, 3) := by decide +kernel
theorem dX8_findMost_122 : decode cX8_findMost 122 = .ok (.iload 6, 2) := by decide +kernel
theorem dX8_findMost_124 : decode cX8_findMost 124 = .ok (.goto 9, 3) := by decide +kernel
theorem dX8_findMost_127 : decode cX8_findMost 127 = .ok (.aload_n 0, 1) := by decide +kernel
theorem dX8_findMost_128 : decode cX8_findMost 128 = .ok (.getfield 31, 3) := by decide +kernel
theorem dX8_findMost_131 : decode cX8_findMost 131 = .ok (.iload_n 3, 1) := by decide +kernel
theorem dX8_findMost_132 : decode cX8_findMost 132 = .ok (.iaload, 1) := by decide +kernel
theorem dX8_findMost_133 : decode cX8_findMost 133 = .ok (.iastore, 1) := by decide +kernel
theorem dX8_findMost_134 : decode cX8_findMost 134 = .ok (.iinc 5 1, 3) := by decide +kernel
theorem dX8_findMost_137 : decode cX8_findMost 137 = .ok (.goto (-93), 3) := by decide +kernel
theorem dX8_findMost_140 : decode cX8_findMost 140 = .ok (.iinc 3 (-1), 3) := by decide +kernel
theorem dX8_findMost_143 : decode cX8_findMost 143 = .ok (.goto (-119), 3) := by decide +kernel
theorem dX8_findMost_146 : decode cX8_findMost 146 = .ok (.return_, 1) := by decide +kernel
theorem dX8_most_0 : decode cX8_most 0 = .ok (.aload_n 0, 1) := by decide +kernel
theorem dX8_most_1 : decode cX8_most 1 = .ok (.invokevirtual 166, 3) := by decide +kernel
theorem dX8_most_4 : decode cX8_most 4 = .ok (.aload_n 0, 1) := by decide +kernel
theorem dX8_most_5 : decode cX8_most 5 = .ok (.getfield 31, 3) := by decide +kernel
theorem dX8_most_8 : decode cX8_most 8 = .ok (.iconst 0, 1) := by decide +kernel
theorem dX8_most_9 : decode cX8_most 9 = .ok (.iaload, 1) := by decide +kernel
theorem dX8_most_10 : decode cX8_most 10 = .ok (.ireturn, 1) := by decide +kernel
theorem dX8_slip_0 : decode cX8_slip 0 = .ok (.aload_n 0, 1) := by decide +kernel
theorem dX8_slip_1 : decode cX8_slip 1 = .ok (.iload_n 1, 1) := by decide +kernel
theorem dX8_slip_2 : decode cX8_slip 2 = .ok (.invokevirtual 91, 3) := by decide +kernel
theorem dX8_slip_5 : decode cX8_slip 5 = .ok (.ifCond .ne 10, 3) := by decide +kernel
theorem dX8_slip_8 : decode cX8_slip 8 = .ok (.aload_n 0, 1) := by decide +kernel
theorem dX8_slip_9 : decode cX8_slip 9 = .ok (.ldc 56, 2) := by decide +kernel
theorem dX8_slip_11 : decode cX8_slip 11 = .ok (.invokevirtual 83, 3) := by decide +kernel
theorem dX8_slip_14 : decode cX8_slip 14 = .ok (.ireturn, 1) := by decide +kernel
theorem dX8_slip_15 : decode cX8_slip 15 = .ok (.aload_n 0, 1) := by decide +kernel
theorem dX8_slip_16 : decode cX8_slip 16 = .ok (.invokevirtual 166, 3) := by decide +kernel
theorem dX8_slip_19 : decode cX8_slip 19 = .ok (.iconst 0, 1) := by decide +kernel
theorem dX8_slip_20 : decode cX8_slip 20 = .ok (.istore_n 2, 1) := by decide +kernel
theorem dX8_slip_21 : decode cX8_slip 21 = .ok (.iconst 0, 1) := by decide +kernel
theorem dX8_slip_22 : decode cX8_slip 22 = .ok (.istore_n 3, 1) := by decide +kernel
theorem dX8_slip_23 : decode cX8_slip 23 = .ok (.iconst 0, 1) := by decide +kernel
theorem dX8_slip_24 : decode cX8_slip 24 = .ok (.istore 4, 2) := by decide +kernel
theorem dX8_slip_26 : decode cX8_slip 26 = .ok (.iload 4, 2) := by decide +kernel
theorem dX8_slip_28 : decode cX8_slip 28 = .ok (.iload_n 1, 1) := by decide +kernel
theorem dX8_slip_29 : decode cX8_slip 29 = .ok (.if_icmp .gt 82, 3) := by decide +kernel
theorem dX8_slip_32 : decode cX8_slip 32 = .ok (.iconst 0, 1) := by decide +kernel
theorem dX8_slip_33 : decode cX8_slip 33 = .ok (.istore_n 3, 1) := by decide +kernel
theorem dX8_slip_34 : decode cX8_slip 34 = .ok (.iload_n 2, 1) := by decide +kernel
theorem dX8_slip_35 : decode cX8_slip 35 = .ok (.iload_n 3, 1) := by decide +kernel
theorem dX8_slip_36 : decode cX8_slip 36 = .ok (.ishr, 1) := by decide +kernel
theorem dX8_slip_37 : decode cX8_slip 37 = .ok (.iconst 1, 1) := by decide +kernel
theorem dX8_slip_38 : decode cX8_slip 38 = .ok (.iand, 1) := by decide +kernel
theorem dX8_slip_39 : decode cX8_slip 39 = .ok (.iconst 1, 1) := by decide +kernel
theorem dX8_slip_40 : decode cX8_slip 40 = .ok (.if_icmp .eq 53, 3) := by decide +kernel
theorem dX8_slip_43 : decode cX8_slip 43 = .ok (.aload_n 0, 1) := by decide +kernel
theorem dX8_slip_44 : decode cX8_slip 44 = .ok (.iload 4, 2) := by decide +kernel
theorem dX8_slip_46 : decode cX8_slip 46 = .ok (.iload_n 3, 1) := by decide +kernel
theorem dX8_slip_47 : decode cX8_slip 47 = .ok (.invokevirtual 102, 3) := by decide +kernel
theorem dX8_slip_50 : decode cX8_slip 50 = .ok (.ifCond .eq 43, 3) := by decide +kernel
theorem dX8_slip_53 : decode cX8_slip 53 = .ok (.aload_n 0, 1) := by decide +kernel
theorem dX8_slip_54 : decode cX8_slip 54 = .ok (.getfield 31, 3) := by decide +kernel
theorem dX8_slip_57 : decode cX8_slip 57 = .ok (.iload_n 2, 1) := by decide +kernel
theorem dX8_slip_58 : decode cX8_slip 58 = .ok (.iconst 1, 1) := by decide +kernel
theorem dX8_slip_59 : decode cX8_slip 59 = .ok (.iload_n 3, 1) := by decide +kernel
theorem dX8_slip_60 : decode cX8_slip 60 = .ok (.ishl, 1) := by decide +kernel
theorem dX8_slip_61 : decode cX8_slip 61 = .ok (.ior, 1) := by decide +kernel
theorem dX8_slip_62 : decode cX8_slip 62 = .ok (.iaload, 1) := by decide +kernel
theorem dX8_slip_63 : decode cX8_slip 63 = .ok (.ifCond .lt 30, 3) := by decide +kernel
theorem dX8_slip_66 : decode cX8_slip 66 = .ok (.aload_n 0, 1) := by decide +kernel
theorem dX8_slip_67 : decode cX8_slip 67 = .ok (.iload 4, 2) := by decide +kernel
theorem dX8_slip_69 : decode cX8_slip 69 = .ok (.iload_n 3, 1) := by decide +kernel
theorem dX8_slip_70 : decode cX8_slip 70 = .ok (.invokevirtual 69, 3) := by decide +kernel
theorem dX8_slip_73 : decode cX8_slip 73 = .ok (.aload_n 0, 1) := by decide +kernel
theorem dX8_slip_74 : decode cX8_slip 74 = .ok (.getfield 31, 3) := by decide +kernel
theorem dX8_slip_77 : decode cX8_slip 77 = .ok (.iload_n 2, 1) := by decide +kernel
theorem dX8_slip_78 : decode cX8_slip 78 = .ok (.iconst 1, 1) := by decide +kernel
theorem dX8_slip_79 : decode cX8_slip 79 = .ok (.iload_n 3, 1) := by decide +kernel
theorem dX8_slip_80 : decode cX8_slip 80 = .ok (.ishl, 1) := by decide +kernel
theorem dX8_slip_81 : decode cX8_slip 81 = .ok (.ior, 1) := by decide +kernel
theorem dX8_slip_82 : decode cX8_slip 82 = .ok (.iaload, 1) := by decide +kernel
theorem dX8_slip_83 : decode cX8_slip 83 = .ok (.iadd, 1) := by decide +kernel
theorem dX8_slip_84 : decode cX8_slip 84 = .ok (.aload_n 0, 1) := by decide +kernel
theorem dX8_slip_85 : decode cX8_slip 85 = .ok (.getfield 31, 3) := by decide +kernel
theorem dX8_slip_88 : decode cX8_slip 88 = .ok (.iload_n 2, 1) := by decide +kernel
theorem dX8_slip_89 : decode cX8_slip 89 = .ok (.iaload, 1) := by decide +kernel
theorem dX8_slip_90 : decode cX8_slip 90 = .ok (.if_icmp .eq 9, 3) := by decide +kernel
theorem dX8_slip_93 : decode cX8_slip 93 = .ok (.iinc 3 1, 3) := by decide +kernel
theorem dX8_slip_96 : decode cX8_slip 96 = .ok (.goto (-62), 3) := by decide +kernel
theorem dX8_slip_99 : decode cX8_slip 99 = .ok (.iload_n 2, 1) := by decide +kernel
theorem dX8_slip_100 : decode cX8_slip 100 = .ok (.iconst 1, 1) := by decide +kernel
theorem dX8_slip_101 : decode cX8_slip 101 = .ok (.iload_n 3, 1) := by decide +kernel
theorem dX8_slip_102 : decode cX8_slip 102 = .ok (.ishl, 1) := by decide +kernel
theorem dX8_slip_103 : decode cX8_slip 103 = .ok (.ior, 1) := by decide +kernel
theorem dX8_slip_104 : decode cX8_slip 104 = .ok (.istore_n 2, 1) := by decide +kernel
theorem dX8_slip_105 : decode cX8_slip 105 = .ok (.iinc 4 1, 3) := by decide +kernel
theorem dX8_slip_108 : decode cX8_slip 108 = .ok (.goto (-82), 3) := by decide +kernel
theorem dX8_slip_111 : decode cX8_slip 111 = .ok (.iload_n 3, 1) := by decide +kernel
theorem dX8_slip_112 : decode cX8_slip 112 = .ok (.ireturn, 1) := by decide +kernel
theorem dX8_better_0 : decode cX8_better 0 = .ok (.aload_n 0, 1) := by decide +kernel
theorem dX8_better_1 : decode cX8_better 1 = .ok (.invokevirtual 148, 3) := by decide +kernel
theorem dX8_better_4 : decode cX8_better 4 = .ok (.istore_n 1, 1) := by decide +kernel
theorem dX8_better_5 : decode cX8_better 5 = .ok (.iconst (-1), 1) := by decide +kernel
theorem dX8_better_6 : decode cX8_better 6 = .ok (.istore_n 2, 1) := by decide +kernel
theorem dX8_better_7 : decode cX8_better 7 = .ok (.iconst 0, 1) := by decide +kernel
theorem dX8_better_8 : decode cX8_better 8 = .ok (.istore_n 3, 1) := by decide +kernel
theorem dX8_better_9 : decode cX8_better 9 = .ok (.iload_n 3, 1) := by decide +kernel
theorem dX8_better_10 : decode cX8_better 10 = .ok (.aload_n 0, 1) := by decide +kernel
theorem dX8_better_11 : decode cX8_better 11 = .ok (.getfield 7, 3) := by decide +kernel
theorem dX8_better_14 : decode cX8_better 14 = .ok (.iconst 2, 1) := by decide +kernel
theorem dX8_better_15 : decode cX8_better 15 = .ok (.iaload, 1) := by decide +kernel
theorem dX8_better_16 : decode cX8_better 16 = .ok (.if_icmp .ge 92, 3) := by decide +kernel
theorem dX8_better_19 : decode cX8_better 19 = .ok (.iload_n 3, 1) := by decide +kernel
theorem dX8_better_20 : decode cX8_better 20 = .ok (.iconst 1, 1) := by decide +kernel
theorem dX8_better_21 : decode cX8_better 21 = .ok (.iadd, 1) := by decide +kernel
theorem dX8_better_22 : decode cX8_better 22 = .ok (.istore 4, 2) := by decide +kernel
theorem dX8_better_24 : decode cX8_better 24 = .ok (.iload 4, 2) := by decide +kernel
theorem dX8_better_26 : decode cX8_better 26 = .ok (.aload_n 0, 1) := by decide +kernel
theorem dX8_better_27 : decode cX8_better 27 = .ok (.getfield 7, 3) := by decide +kernel
theorem dX8_better_30 : decode cX8_better 30 = .ok (.iconst 2, 1) := by decide +kernel
theorem dX8_better_31 : decode cX8_better 31 = .ok (.iaload, 1) := by decide +kernel
theorem dX8_better_32 : decode cX8_better 32 = .ok (.if_icmp .ge 70, 3) := by decide +kernel
theorem dX8_better_35 : decode cX8_better 35 = .ok (.aload_n 0, 1) := by decide +kernel
theorem dX8_better_36 : decode cX8_better 36 = .ok (.iload_n 3, 1) := by decide +kernel
theorem dX8_better_37 : decode cX8_better 37 = .ok (.iload 4, 2) := by decide +kernel
theorem dX8_better_39 : decode cX8_better 39 = .ok (.invokevirtual 102, 3) := by decide +kernel
theorem dX8_better_42 : decode cX8_better 42 = .ok (.ifCond .eq 54, 3) := by decide +kernel
theorem dX8_better_45 : decode cX8_better 45 = .ok (.aload_n 0, 1) := by decide +kernel
theorem dX8_better_46 : decode cX8_better 46 = .ok (.iload_n 3, 1) := by decide +kernel
theorem dX8_better_47 : decode cX8_better 47 = .ok (.iload 4, 2) := by decide +kernel
theorem dX8_better_49 : decode cX8_better 49 = .ok (.invokevirtual 107, 3) := by decide +kernel
theorem dX8_better_52 : decode cX8_better 52 = .ok (.aload_n 0, 1) := by decide +kernel
theorem dX8_better_53 : decode cX8_better 53 = .ok (.invokevirtual 148, 3) := by decide +kernel
theorem dX8_better_56 : decode cX8_better 56 = .ok (.istore 5, 2) := by decide +kernel
theorem dX8_better_58 : decode cX8_better 58 = .ok (.aload_n 0, 1) := by decide +kernel
theorem dX8_better_59 : decode cX8_better 59 = .ok (.iload_n 3, 1) := by decide +kernel
theorem dX8_better_60 : decode cX8_better 60 = .ok (.iload 4, 2) := by decide +kernel
theorem dX8_better_62 : decode cX8_better 62 = .ok (.invokevirtual 107, 3) := by decide +kernel
theorem dX8_better_65 : decode cX8_better 65 = .ok (.iload 5, 2) := by decide +kernel
theorem dX8_better_67 : decode cX8_better 67 = .ok (.iload_n 1, 1) := by decide +kernel
theorem dX8_better_68 : decode cX8_better 68 = .ok (.if_icmp .le 13, 3) := by decide +kernel
theorem dX8_better_71 : decode cX8_better 71 = .ok (.bipush 10, 2) := by decide +kernel
theorem dX8_better_73 : decode cX8_better 73 = .ok (.iload_n 3, 1) := by decide +kernel
theorem dX8_better_74 : decode cX8_better 74 = .ok (.imul, 1) := by decide +kernel
theorem dX8_better_75 : decode cX8_better 75 = .ok (.iload 4, 2) := by decide +kernel
theorem dX8_better_77 : decode cX8_better 77 = .ok (.iadd, 1) := by decide +kernel
theorem dX8_better_78 : decode cX8_better 78 = .ok (.goto 4, 3) := by decide +kernel
theorem dX8_better_81 : decode cX8_better 81 = .ok (.iload_n 2, 1) := by decide +kernel
theorem dX8_better_82 : decode cX8_better 82 = .ok (.istore_n 2, 1) := by decide +kernel
theorem dX8_better_83 : decode cX8_better 83 = .ok (.iload 5, 2) := by decide +kernel
theorem dX8_better_85 : decode cX8_better 85 = .ok (.iload_n 1, 1) := by decide +kernel
theorem dX8_better_86 : decode cX8_better 86 = .ok (.if_icmp .le 8, 3) := by decide +kernel
theorem dX8_better_89 : decode cX8_better 89 = .ok (.iload 5, 2) := by decide +kernel
theorem dX8_better_91 : decode cX8_better 91 = .ok (.goto 4, 3) := by decide +kernel
theorem dX8_better_94 : decode cX8_better 94 = .ok (.iload_n 1, 1) := by decide +kernel
theorem dX8_better_95 : decode cX8_better 95 = .ok (.istore_n 1, 1) := by decide +kernel
theorem dX8_better_96 : decode cX8_better 96 = .ok (.iinc 4 1, 3) := by decide +kernel
theorem dX8_better_99 : decode cX8_better 99 = .ok (.goto (-75), 3) := by decide +kernel
theorem dX8_better_102 : decode cX8_better 102 = .ok (.iinc 3 1, 3) := by decide +kernel
theorem dX8_better_105 : decode cX8_better 105 = .ok (.goto (-96), 3) := by decide +kernel
theorem dX8_better_108 : decode cX8_better 108 = .ok (.iload_n 2, 1) := by decide +kernel
theorem dX8_better_109 : decode cX8_better 109 = .ok (.ifCond .ge 12, 3) := by decide +kernel
theorem dX8_better_112 : decode cX8_better 112 = .ok (.aload_n 0, 1) := by decide +kernel
theorem dX8_better_113 : decode cX8_better 113 = .ok (.ldc 165, 2) := by decide +kernel
theorem dX8_better_115 : decode cX8_better 115 = .ok (.invokevirtual 83, 3) := by decide +kernel
theorem dX8_better_118 : decode cX8_better 118 = .ok (.goto 4, 3) := by decide +kernel
theorem dX8_better_121 : decode cX8_better 121 = .ok (.iload_n 2, 1) := by decide +kernel
theorem dX8_better_122 : decode cX8_better 122 = .ok (.ireturn, 1) := by decide +kernel
theorem dX8_bestAs_0 : decode cX8_bestAs 0 = .ok (.aload_n 0, 1) := by decide +kernel
theorem dX8_bestAs_1 : decode cX8_bestAs 1 = .ok (.iload_n 1, 1) := by decide +kernel
theorem dX8_bestAs_2 : decode cX8_bestAs 2 = .ok (.invokevirtual 91, 3) := by decide +kernel
theorem dX8_bestAs_5 : decode cX8_bestAs 5 = .ok (.ifCond .ne 10, 3) := by decide +kernel
theorem dX8_bestAs_8 : decode cX8_bestAs 8 = .ok (.aload_n 0, 1) := by decide +kernel
theorem dX8_bestAs_9 : decode cX8_bestAs 9 = .ok (.ldc 56, 2) := by decide +kernel
theorem dX8_bestAs_11 : decode cX8_bestAs 11 = .ok (.invokevirtual 83, 3) := by decide +kernel
theorem dX8_bestAs_14 : decode cX8_bestAs 14 = .ok (.ireturn, 1) := by decide +kernel
theorem dX8_bestAs_15 : decode cX8_bestAs 15 = .ok (.iconst (-1), 1) := by decide +kernel
theorem dX8_bestAs_16 : decode cX8_bestAs 16 = .ok (.istore_n 2, 1) := by decide +kernel
theorem dX8_bestAs_17 : decode cX8_bestAs 17 = .ok (.iconst (-1), 1) := by decide +kernel
theorem dX8_bestAs_18 : decode cX8_bestAs 18 = .ok (.istore_n 3, 1) := by decide +kernel
theorem dX8_bestAs_19 : decode cX8_bestAs 19 = .ok (.iconst 0, 1) := by decide +kernel
theorem dX8_bestAs_20 : decode cX8_bestAs 20 = .ok (.istore 4, 2) := by decide +kernel
theorem dX8_bestAs_22 : decode cX8_bestAs 22 = .ok (.iload 4, 2) := by decide +kernel
theorem dX8_bestAs_24 : decode cX8_bestAs 24 = .ok (.aload_n 0, 1) := by decide +kernel
theorem dX8_bestAs_25 : decode cX8_bestAs 25 = .ok (.getfield 7, 3) := by decide +kernel
theorem dX8_bestAs_28 : decode cX8_bestAs 28 = .ok (.iconst 2, 1) := by decide +kernel
theorem dX8_bestAs_29 : decode cX8_bestAs 29 = .ok (.iaload, 1) := by decide +kernel
theorem dX8_bestAs_30 : decode cX8_bestAs 30 = .ok (.if_icmp .ge 60, 3) := by decide +kernel
theorem dX8_bestAs_33 : decode cX8_bestAs 33 = .ok (.iload 4, 2) := by decide +kernel
theorem dX8_bestAs_35 : decode cX8_bestAs 35 = .ok (.iload_n 1, 1) := by decide +kernel
theorem dX8_bestAs_36 : decode cX8_bestAs 36 = .ok (.if_icmp .eq 48, 3) := by decide +kernel
theorem dX8_bestAs_39 : decode cX8_bestAs 39 = .ok (.aload_n 0, 1) := by decide +kernel
theorem dX8_bestAs_40 : decode cX8_bestAs 40 = .ok (.iload_n 1, 1) := by decide +kernel
theorem dX8_bestAs_41 : decode cX8_bestAs 41 = .ok (.iload 4, 2) := by decide +kernel
theorem dX8_bestAs_43 : decode cX8_bestAs 43 = .ok (.invokevirtual 102, 3) := by decide +kernel
theorem dX8_bestAs_46 : decode cX8_bestAs 46 = .ok (.ifCond .eq 38, 3) := by decide +kernel
theorem dX8_bestAs_49 : decode cX8_bestAs 49 = .ok (.aload_n 0, 1) := by decide +kernel
theorem dX8_bestAs_50 : decode cX8_bestAs 50 = .ok (.iload 4, 2) := by decide +kernel
theorem dX8_bestAs_52 : decode cX8_bestAs 52 = .ok (.iload_n 1, 1) := by decide +kernel
theorem dX8_bestAs_53 : decode cX8_bestAs 53 = .ok (.invokevirtual 69, 3) := by decide +kernel
theorem dX8_bestAs_56 : decode cX8_bestAs 56 = .ok (.istore 5, 2) := by decide +kernel
theorem dX8_bestAs_58 : decode cX8_bestAs 58 = .ok (.iload 5, 2) := by decide +kernel
theorem dX8_bestAs_60 : decode cX8_bestAs 60 = .ok (.iload_n 3, 1) := by decide +kernel
theorem dX8_bestAs_61 : decode cX8_bestAs 61 = .ok (.if_icmp .le 8, 3) := by decide +kernel
theorem dX8_bestAs_64 : decode cX8_bestAs 64 = .ok (.iload 4, 2) := by decide +kernel
theorem dX8_bestAs_66 : decode cX8_bestAs 66 = .ok (.goto 4, 3) := by decide +kernel
theorem dX8_bestAs_69 : decode cX8_bestAs 69 = .ok (.iload_n 2, 1) := by decide +kernel
theorem dX8_bestAs_70 : decode cX8_bestAs 70 = .ok (.istore_n 2, 1) := by decide +kernel
theorem dX8_bestAs_71 : decode cX8_bestAs 71 = .ok (.iload 5, 2) := by decide +kernel
theorem dX8_bestAs_73 : decode cX8_bestAs 73 = .ok (.iload_n 3, 1) := by decide +kernel
theorem dX8_bestAs_74 : decode cX8_bestAs 74 = .ok (.if_icmp .le 8, 3) := by decide +kernel
theorem dX8_bestAs_77 : decode cX8_bestAs 77 = .ok (.iload 5, 2) := by decide +kernel
theorem dX8_bestAs_79 : decode cX8_bestAs 79 = .ok (.goto 4, 3) := by decide +kernel
theorem dX8_bestAs_82 : decode cX8_bestAs 82 = .ok (.iload_n 3, 1) := by decide +kernel
theorem dX8_bestAs_83 : decode cX8_bestAs 83 = .ok (.istore_n 3, 1) := by decide +kernel
theorem dX8_bestAs_84 : decode cX8_bestAs 84 = .ok (.iinc 4 1, 3) := by decide +kernel
theorem dX8_bestAs_87 : decode cX8_bestAs 87 = .ok (.goto (-65), 3) := by decide +kernel
theorem dX8_bestAs_90 : decode cX8_bestAs 90 = .ok (.iload_n 2, 1) := by decide +kernel
theorem dX8_bestAs_91 : decode cX8_bestAs 91 = .ok (.ifCond .ge 12, 3) := by decide +kernel
theorem dX8_bestAs_94 : decode cX8_bestAs 94 = .ok (.aload_n 0, 1) := by decide +kernel
theorem dX8_bestAs_95 : decode cX8_bestAs 95 = .ok (.ldc 165, 2) := by decide +kernel
theorem dX8_bestAs_97 : decode cX8_bestAs 97 = .ok (.invokevirtual 83, 3) := by decide +kernel
theorem dX8_bestAs_100 : decode cX8_bestAs 100 = .ok (.goto 4, 3) := by decide +kernel
theorem dX8_bestAs_103 : decode cX8_bestAs 103 = .ok (.iload_n 2, 1) := by decide +kernel
theorem dX8_bestAs_104 : decode cX8_bestAs 104 = .ok (.ireturn, 1) := by decide +kernel
theorem dX8_kind_0 : decode cX8_kind 0 = .ok (.aload_n 0, 1) := by decide +kernel
theorem dX8_kind_1 : decode cX8_kind 1 = .ok (.iload_n 1, 1) := by decide +kernel
theorem dX8_kind_2 : decode cX8_kind 2 = .ok (.invokevirtual 91, 3) := by decide +kernel
theorem dX8_kind_5 : decode cX8_kind 5 = .ok (.ifCond .ne 10, 3) := by decide +kernel
theorem dX8_kind_8 : decode cX8_kind 8 = .ok (.aload_n 0, 1) := by decide +kernel
theorem dX8_kind_9 : decode cX8_kind 9 = .ok (.ldc 56, 2) := by decide +kernel
theorem dX8_kind_11 : decode cX8_kind 11 = .ok (.invokevirtual 83, 3) := by decide +kernel
theorem dX8_kind_14 : decode cX8_kind 14 = .ok (.ireturn, 1) := by decide +kernel
theorem dX8_kind_15 : decode cX8_kind 15 = .ok (.aload_n 0, 1) := by decide +kernel
theorem dX8_kind_16 : decode cX8_kind 16 = .ok (.iload_n 1, 1) := by decide +kernel
theorem dX8_kind_17 : decode cX8_kind 17 = .ok (.iconst 0, 1) := by decide +kernel
theorem dX8_kind_18 : decode cX8_kind 18 = .ok (.invokevirtual 61, 3) := by decide +kernel
theorem dX8_kind_21 : decode cX8_kind 21 = .ok (.istore_n 2, 1) := by decide +kernel
theorem dX8_kind_22 : decode cX8_kind 22 = .ok (.iconst 0, 1) := by decide +kernel
theorem dX8_kind_23 : decode cX8_kind 23 = .ok (.istore_n 3, 1) := by decide +kernel
theorem dX8_kind_24 : decode cX8_kind 24 = .ok (.iconst (-1), 1) := by decide +kernel
theorem dX8_kind_25 : decode cX8_kind 25 = .ok (.istore 4, 2) := by decide +kernel
theorem dX8_kind_27 : decode cX8_kind 27 = .ok (.iconst 0, 1) := by decide +kernel
theorem dX8_kind_28 : decode cX8_kind 28 = .ok (.istore 5, 2) := by decide +kernel
theorem dX8_kind_30 : decode cX8_kind 30 = .ok (.iload 5, 2) := by decide +kernel
theorem dX8_kind_32 : decode cX8_kind 32 = .ok (.iconst 5, 1) := by decide +kernel
theorem dX8_kind_33 : decode cX8_kind 33 = .ok (.if_icmp .gt 54, 3) := by decide +kernel
theorem dX8_kind_36 : decode cX8_kind 36 = .ok (.aload_n 0, 1) := by decide +kernel
theorem dX8_kind_37 : decode cX8_kind 37 = .ok (.iload_n 1, 1) := by decide +kernel
theorem dX8_kind_38 : decode cX8_kind 38 = .ok (.iconst 0, 1) := by decide +kernel
theorem dX8_kind_39 : decode cX8_kind 39 = .ok (.iload 5, 2) := by decide +kernel
theorem dX8_kind_41 : decode cX8_kind 41 = .ok (.invokevirtual 76, 3) := by decide +kernel
theorem dX8_kind_44 : decode cX8_kind 44 = .ok (.aload_n 0, 1) := by decide +kernel
theorem dX8_kind_45 : decode cX8_kind 45 = .ok (.iload_n 1, 1) := by decide +kernel
theorem dX8_kind_46 : decode cX8_kind 46 = .ok (.invokevirtual 72, 3) := by decide +kernel
theorem dX8_kind_49 : decode cX8_kind 49 = .ok (.istore 6, 2) := by decide +kernel
theorem dX8_kind_51 : decode cX8_kind 51 = .ok (.iload 6, 2) := by decide +kernel
theorem dX8_kind_53 : decode cX8_kind 53 = .ok (.iload 4, 2) := by decide +kernel
theorem dX8_kind_55 : decode cX8_kind 55 = .ok (.if_icmp .le 8, 3) := by decide +kernel
theorem dX8_kind_58 : decode cX8_kind 58 = .ok (.iload 5, 2) := by decide +kernel
theorem dX8_kind_60 : decode cX8_kind 60 = .ok (.goto 4, 3) := by decide +kernel
theorem dX8_kind_63 : decode cX8_kind 63 = .ok (.iload_n 3, 1) := by decide +kernel
theorem dX8_kind_64 : decode cX8_kind 64 = .ok (.istore_n 3, 1) := by decide +kernel
theorem dX8_kind_65 : decode cX8_kind 65 = .ok (.iload 6, 2) := by decide +kernel
theorem dX8_kind_67 : decode cX8_kind 67 = .ok (.iload 4, 2) := by decide +kernel
theorem dX8_kind_69 : decode cX8_kind 69 = .ok (.if_icmp .le 8, 3) := by decide +kernel
theorem dX8_kind_72 : decode cX8_kind 72 = .ok (.iload 6, 2) := by decide +kernel
theorem dX8_kind_74 : decode cX8_kind 74 = .ok (.goto 5, 3) := by decide +kernel
theorem dX8_kind_77 : decode cX8_kind 77 = .ok (.iload 4, 2) := by decide +kernel
theorem dX8_kind_79 : decode cX8_kind 79 = .ok (.istore 4, 2) := by decide +kernel
theorem dX8_kind_81 : decode cX8_kind 81 = .ok (.iinc 5 1, 3) := by decide +kernel
theorem dX8_kind_84 : decode cX8_kind 84 = .ok (.goto (-54), 3) := by decide +kernel
theorem dX8_kind_87 : decode cX8_kind 87 = .ok (.aload_n 0, 1) := by decide +kernel
theorem dX8_kind_88 : decode cX8_kind 88 = .ok (.iload_n 1, 1) := by decide +kernel
theorem dX8_kind_89 : decode cX8_kind 89 = .ok (.iconst 0, 1) := by decide +kernel
theorem dX8_kind_90 : decode cX8_kind 90 = .ok (.iload_n 2, 1) := by decide +kernel
theorem dX8_kind_91 : decode cX8_kind 91 = .ok (.invokevirtual 76, 3) := by decide +kernel
theorem dX8_kind_94 : decode cX8_kind 94 = .ok (.iload_n 3, 1) := by decide +kernel
theorem dX8_kind_95 : decode cX8_kind 95 = .ok (.ireturn, 1) := by decide +kernel
theorem dX8_ways_0 : decode cX8_ways 0 = .ok (.iload_n 1, 1) := by decide +kernel
theorem dX8_ways_1 : decode cX8_ways 1 = .ok (.iload_n 0, 1) := by decide +kernel
theorem dX8_ways_2 : decode cX8_ways 2 = .ok (.if_icmp .le 5, 3) := by decide +kernel
theorem dX8_ways_5 : decode cX8_ways 5 = .ok (.iconst 0, 1) := by decide +kernel
theorem dX8_ways_6 : decode cX8_ways 6 = .ok (.ireturn, 1) := by decide +kernel
theorem dX8_ways_7 : decode cX8_ways 7 = .ok (.iconst 1, 1) := by decide +kernel
theorem dX8_ways_8 : decode cX8_ways 8 = .ok (.istore_n 2, 1) := by decide +kernel
theorem dX8_ways_9 : decode cX8_ways 9 = .ok (.iconst 0, 1) := by decide +kernel
theorem dX8_ways_10 : decode cX8_ways 10 = .ok (.istore_n 3, 1) := by decide +kernel
theorem dX8_ways_11 : decode cX8_ways 11 = .ok (.iload_n 3, 1) := by decide +kernel
theorem dX8_ways_12 : decode cX8_ways 12 = .ok (.iload_n 1, 1) := by decide +kernel
theorem dX8_ways_13 : decode cX8_ways 13 = .ok (.if_icmp .ge 19, 3) := by decide +kernel
theorem dX8_ways_16 : decode cX8_ways 16 = .ok (.iload_n 2, 1) := by decide +kernel
theorem dX8_ways_17 : decode cX8_ways 17 = .ok (.iload_n 0, 1) := by decide +kernel
theorem dX8_ways_18 : decode cX8_ways 18 = .ok (.iload_n 3, 1) := by decide +kernel
theorem dX8_ways_19 : decode cX8_ways 19 = .ok (.isub, 1) := by decide +kernel
theorem dX8_ways_20 : decode cX8_ways 20 = .ok (.imul, 1) := by decide +kernel
theorem dX8_ways_21 : decode cX8_ways 21 = .ok (.iload_n 3, 1) := by decide +kernel
theorem dX8_ways_22 : decode cX8_ways 22 = .ok (.iconst 1, 1) := by decide +kernel
theorem dX8_ways_23 : decode cX8_ways 23 = .ok (.iadd, 1) := by decide +kernel
theorem dX8_ways_24 : decode cX8_ways 24 = .ok (.idiv, 1) := by decide +kernel
theorem dX8_ways_25 : decode cX8_ways 25 = .ok (.istore_n 2, 1) := by decide +kernel
theorem dX8_ways_26 : decode cX8_ways 26 = .ok (.iinc 3 1, 3) := by decide +kernel
theorem dX8_ways_29 : decode cX8_ways 29 = .ok (.goto (-18), 3) := by decide +kernel
theorem dX8_ways_32 : decode cX8_ways 32 = .ok (.iconst 1, 1) := by decide +kernel
theorem dX8_ways_33 : decode cX8_ways 33 = .ok (.istore_n 3, 1) := by decide +kernel
theorem dX8_ways_34 : decode cX8_ways 34 = .ok (.iconst 1, 1) := by decide +kernel
theorem dX8_ways_35 : decode cX8_ways 35 = .ok (.istore 4, 2) := by decide +kernel
theorem dX8_ways_37 : decode cX8_ways 37 = .ok (.iload 4, 2) := by decide +kernel
theorem dX8_ways_39 : decode cX8_ways 39 = .ok (.iload_n 0, 1) := by decide +kernel
theorem dX8_ways_40 : decode cX8_ways 40 = .ok (.iload_n 1, 1) := by decide +kernel
theorem dX8_ways_41 : decode cX8_ways 41 = .ok (.isub, 1) := by decide +kernel
theorem dX8_ways_42 : decode cX8_ways 42 = .ok (.if_icmp .gt 27, 3) := by decide +kernel
theorem dX8_ways_45 : decode cX8_ways 45 = .ok (.iload_n 3, 1) := by decide +kernel
theorem dX8_ways_46 : decode cX8_ways 46 = .ok (.iload 4, 2) := by decide +kernel
theorem dX8_ways_48 : decode cX8_ways 48 = .ok (.imul, 1) := by decide +kernel
theorem dX8_ways_49 : decode cX8_ways 49 = .ok (.iload 4, 2) := by decide +kernel
theorem dX8_ways_51 : decode cX8_ways 51 = .ok (.iconst 2, 1) := by decide +kernel
theorem dX8_ways_52 : decode cX8_ways 52 = .ok (.irem, 1) := by decide +kernel
theorem dX8_ways_53 : decode cX8_ways 53 = .ok (.ifCond .ne 7, 3) := by decide +kernel
theorem dX8_ways_56 : decode cX8_ways 56 = .ok (.iconst 1, 1) := by decide +kernel
theorem dX8_ways_57 : decode cX8_ways 57 = .ok (.goto 4, 3) := by decide +kernel
theorem dX8_ways_60 : decode cX8_ways 60 = .ok (.iconst (-1), 1) := by decide +kernel
theorem dX8_ways_61 : decode cX8_ways 61 = .ok (.iadd, 1) := by decide +kernel
theorem dX8_ways_62 : decode cX8_ways 62 = .ok (.istore_n 3, 1) := by decide +kernel
theorem dX8_ways_63 : decode cX8_ways 63 = .ok (.iinc 4 1, 3) := by decide +kernel
theorem dX8_ways_66 : decode cX8_ways 66 = .ok (.goto (-29), 3) := by decide +kernel
theorem dX8_ways_69 : decode cX8_ways 69 = .ok (.iload_n 2, 1) := by decide +kernel
theorem dX8_ways_70 : decode cX8_ways 70 = .ok (.iload_n 3, 1) := by decide +kernel
theorem dX8_ways_71 : decode cX8_ways 71 = .ok (.imul, 1) := by decide +kernel
theorem dX8_ways_72 : decode cX8_ways 72 = .ok (.ireturn, 1) := by decide +kernel
theorem dX8_all_0 : decode cX8_all 0 = .ok (.iconst 1, 1) := by decide +kernel
theorem dX8_all_1 : decode cX8_all 1 = .ok (.istore_n 1, 1) := by decide +kernel
theorem dX8_all_2 : decode cX8_all 2 = .ok (.iconst 2, 1) := by decide +kernel
theorem dX8_all_3 : decode cX8_all 3 = .ok (.istore_n 2, 1) := by decide +kernel
theorem dX8_all_4 : decode cX8_all 4 = .ok (.iload_n 2, 1) := by decide +kernel
theorem dX8_all_5 : decode cX8_all 5 = .ok (.iload_n 0, 1) := by decide +kernel
theorem dX8_all_6 : decode cX8_all 6 = .ok (.if_icmp .gt 13, 3) := by decide +kernel
theorem dX8_all_9 : decode cX8_all 9 = .ok (.iload_n 1, 1) := by decide +kernel
theorem dX8_all_10 : decode cX8_all 10 = .ok (.iload_n 2, 1) := by decide +kernel
theorem dX8_all_11 : decode cX8_all 11 = .ok (.imul, 1) := by decide +kernel
theorem dX8_all_12 : decode cX8_all 12 = .ok (.istore_n 1, 1) := by decide +kernel
theorem dX8_all_13 : decode cX8_all 13 = .ok (.iinc 2 1, 3) := by decide +kernel
theorem dX8_all_16 : decode cX8_all 16 = .ok (.goto (-12), 3) := by decide +kernel
theorem dX8_all_19 : decode cX8_all 19 = .ok (.iload_n 1, 1) := by decide +kernel
theorem dX8_all_20 : decode cX8_all 20 = .ok (.ireturn, 1) := by decide +kernel
theorem dX8_divisor_0 : decode cX8_divisor 0 = .ok (.iload_n 0, 1) := by decide +kernel
theorem dX8_divisor_1 : decode cX8_divisor 1 = .ok (.istore_n 2, 1) := by decide +kernel
theorem dX8_divisor_2 : decode cX8_divisor 2 = .ok (.iload_n 1, 1) := by decide +kernel
theorem dX8_divisor_3 : decode cX8_divisor 3 = .ok (.istore_n 3, 1) := by decide +kernel
theorem dX8_divisor_4 : decode cX8_divisor 4 = .ok (.iload_n 3, 1) := by decide +kernel
theorem dX8_divisor_5 : decode cX8_divisor 5 = .ok (.ifCond .eq 16, 3) := by decide +kernel
theorem dX8_divisor_8 : decode cX8_divisor 8 = .ok (.iload_n 2, 1) := by decide +kernel
theorem dX8_divisor_9 : decode cX8_divisor 9 = .ok (.iload_n 3, 1) := by decide +kernel
theorem dX8_divisor_10 : decode cX8_divisor 10 = .ok (.irem, 1) := by decide +kernel
theorem dX8_divisor_11 : decode cX8_divisor 11 = .ok (.istore 4, 2) := by decide +kernel
theorem dX8_divisor_13 : decode cX8_divisor 13 = .ok (.iload_n 3, 1) := by decide +kernel
theorem dX8_divisor_14 : decode cX8_divisor 14 = .ok (.istore_n 2, 1) := by decide +kernel
theorem dX8_divisor_15 : decode cX8_divisor 15 = .ok (.iload 4, 2) := by decide +kernel
theorem dX8_divisor_17 : decode cX8_divisor 17 = .ok (.istore_n 3, 1) := by decide +kernel
theorem dX8_divisor_18 : decode cX8_divisor 18 = .ok (.goto (-14), 3) := by decide +kernel
theorem dX8_divisor_21 : decode cX8_divisor 21 = .ok (.iload_n 2, 1) := by decide +kernel
theorem dX8_divisor_22 : decode cX8_divisor 22 = .ok (.ireturn, 1) := by decide +kernel
theorem dX8_odds_0 : decode cX8_odds 0 = .ok (.iload_n 1, 1) := by decide +kernel
theorem dX8_odds_1 : decode cX8_odds 1 = .ok (.iconst 0, 1) := by decide +kernel
theorem dX8_odds_2 : decode cX8_odds 2 = .ok (.iconst 1, 1) := by decide +kernel
theorem dX8_odds_3 : decode cX8_odds 3 = .ok (.invokestatic 57, 3) := by decide +kernel
theorem dX8_odds_6 : decode cX8_odds 6 = .ok (.ifCond .ne 10, 3) := by decide +kernel
theorem dX8_odds_9 : decode cX8_odds 9 = .ok (.aload_n 0, 1) := by decide +kernel
theorem dX8_odds_10 : decode cX8_odds 10 = .ok (.ldc 56, 2) := by decide +kernel
theorem dX8_odds_12 : decode cX8_odds 12 = .ok (.invokevirtual 83, 3) := by decide +kernel
theorem dX8_odds_15 : decode cX8_odds 15 = .ok (.ireturn, 1) := by decide +kernel
theorem dX8_odds_16 : decode cX8_odds 16 = .ok (.aload_n 0, 1) := by decide +kernel
theorem dX8_odds_17 : decode cX8_odds 17 = .ok (.invokevirtual 145, 3) := by decide +kernel
theorem dX8_odds_20 : decode cX8_odds 20 = .ok (.invokestatic 115, 3) := by decide +kernel
theorem dX8_odds_23 : decode cX8_odds 23 = .ok (.istore_n 2, 1) := by decide +kernel
theorem dX8_odds_24 : decode cX8_odds 24 = .ok (.aload_n 0, 1) := by decide +kernel
theorem dX8_odds_25 : decode cX8_odds 25 = .ok (.getfield 7, 3) := by decide +kernel
theorem dX8_odds_28 : decode cX8_odds 28 = .ok (.iconst 2, 1) := by decide +kernel
theorem dX8_odds_29 : decode cX8_odds 29 = .ok (.iaload, 1) := by decide +kernel
theorem dX8_odds_30 : decode cX8_odds 30 = .ok (.iload_n 2, 1) := by decide +kernel
theorem dX8_odds_31 : decode cX8_odds 31 = .ok (.isub, 1) := by decide +kernel
theorem dX8_odds_32 : decode cX8_odds 32 = .ok (.istore_n 3, 1) := by decide +kernel
theorem dX8_odds_33 : decode cX8_odds 33 = .ok (.iload_n 3, 1) := by decide +kernel
theorem dX8_odds_34 : decode cX8_odds 34 = .ok (.iconst 0, 1) := by decide +kernel
theorem dX8_odds_35 : decode cX8_odds 35 = .ok (.invokestatic 169, 3) := by decide +kernel
theorem dX8_odds_38 : decode cX8_odds 38 = .ok (.iload_n 2, 1) := by decide +kernel
theorem dX8_odds_39 : decode cX8_odds 39 = .ok (.iconst 0, 1) := by decide +kernel
theorem dX8_odds_40 : decode cX8_odds 40 = .ok (.invokestatic 169, 3) := by decide +kernel
theorem dX8_odds_43 : decode cX8_odds 43 = .ok (.imul, 1) := by decide +kernel
theorem dX8_odds_44 : decode cX8_odds 44 = .ok (.istore 4, 2) := by decide +kernel
theorem dX8_odds_46 : decode cX8_odds 46 = .ok (.iload_n 3, 1) := by decide +kernel
theorem dX8_odds_47 : decode cX8_odds 47 = .ok (.invokestatic 172, 3) := by decide +kernel
theorem dX8_odds_50 : decode cX8_odds 50 = .ok (.iload_n 2, 1) := by decide +kernel
theorem dX8_odds_51 : decode cX8_odds 51 = .ok (.invokestatic 172, 3) := by decide +kernel
theorem dX8_odds_54 : decode cX8_odds 54 = .ok (.imul, 1) := by decide +kernel
theorem dX8_odds_55 : decode cX8_odds 55 = .ok (.istore 5, 2) := by decide +kernel
theorem dX8_odds_57 : decode cX8_odds 57 = .ok (.iload 4, 2) := by decide +kernel
theorem dX8_odds_59 : decode cX8_odds 59 = .ok (.iload 5, 2) := by decide +kernel
theorem dX8_odds_61 : decode cX8_odds 61 = .ok (.invokestatic 175, 3) := by decide +kernel
theorem dX8_odds_64 : decode cX8_odds 64 = .ok (.istore 6, 2) := by decide +kernel
theorem dX8_odds_66 : decode cX8_odds 66 = .ok (.iload_n 1, 1) := by decide +kernel
theorem dX8_odds_67 : decode cX8_odds 67 = .ok (.ifCond .ne 11, 3) := by decide +kernel
theorem dX8_odds_70 : decode cX8_odds 70 = .ok (.iload 4, 2) := by decide +kernel
theorem dX8_odds_72 : decode cX8_odds 72 = .ok (.iload 6, 2) := by decide +kernel
theorem dX8_odds_74 : decode cX8_odds 74 = .ok (.idiv, 1) := by decide +kernel
theorem dX8_odds_75 : decode cX8_odds 75 = .ok (.goto 8, 3) := by decide +kernel
theorem dX8_odds_78 : decode cX8_odds 78 = .ok (.iload 5, 2) := by decide +kernel
theorem dX8_odds_80 : decode cX8_odds 80 = .ok (.iload 6, 2) := by decide +kernel
theorem dX8_odds_82 : decode cX8_odds 82 = .ok (.idiv, 1) := by decide +kernel
theorem dX8_odds_83 : decode cX8_odds 83 = .ok (.ireturn, 1) := by decide +kernel
theorem dX8_lots_0 : decode cX8_lots 0 = .ok (.iload_n 1, 1) := by decide +kernel
theorem dX8_lots_1 : decode cX8_lots 1 = .ok (.iconst 0, 1) := by decide +kernel
theorem dX8_lots_2 : decode cX8_lots 2 = .ok (.bipush 8, 2) := by decide +kernel
theorem dX8_lots_4 : decode cX8_lots 4 = .ok (.invokestatic 57, 3) := by decide +kernel
theorem dX8_lots_7 : decode cX8_lots 7 = .ok (.ifCond .ne 10, 3) := by decide +kernel
theorem dX8_lots_10 : decode cX8_lots 10 = .ok (.aload_n 0, 1) := by decide +kernel
theorem dX8_lots_11 : decode cX8_lots 11 = .ok (.ldc 56, 2) := by decide +kernel
theorem dX8_lots_13 : decode cX8_lots 13 = .ok (.invokevirtual 83, 3) := by decide +kernel
theorem dX8_lots_16 : decode cX8_lots 16 = .ok (.ireturn, 1) := by decide +kernel
theorem dX8_lots_17 : decode cX8_lots 17 = .ok (.aload_n 0, 1) := by decide +kernel
theorem dX8_lots_18 : decode cX8_lots 18 = .ok (.invokevirtual 145, 3) := by decide +kernel
theorem dX8_lots_21 : decode cX8_lots 21 = .ok (.invokestatic 115, 3) := by decide +kernel
theorem dX8_lots_24 : decode cX8_lots 24 = .ok (.istore_n 2, 1) := by decide +kernel
theorem dX8_lots_25 : decode cX8_lots 25 = .ok (.iconst 0, 1) := by decide +kernel
theorem dX8_lots_26 : decode cX8_lots 26 = .ok (.istore_n 3, 1) := by decide +kernel
theorem dX8_lots_27 : decode cX8_lots 27 = .ok (.iconst 0, 1) := by decide +kernel
theorem dX8_lots_28 : decode cX8_lots 28 = .ok (.istore 4, 2) := by decide +kernel
theorem dX8_lots_30 : decode cX8_lots 30 = .ok (.iload 4, 2) := by decide +kernel
theorem dX8_lots_32 : decode cX8_lots 32 = .ok (.iload_n 1, 1) := by decide +kernel
theorem dX8_lots_33 : decode cX8_lots 33 = .ok (.if_icmp .gt 34, 3) := by decide +kernel
theorem dX8_lots_36 : decode cX8_lots 36 = .ok (.iload_n 3, 1) := by decide +kernel
theorem dX8_lots_37 : decode cX8_lots 37 = .ok (.iload_n 2, 1) := by decide +kernel
theorem dX8_lots_38 : decode cX8_lots 38 = .ok (.iload 4, 2) := by decide +kernel
theorem dX8_lots_40 : decode cX8_lots 40 = .ok (.invokestatic 169, 3) := by decide +kernel
theorem dX8_lots_43 : decode cX8_lots 43 = .ok (.aload_n 0, 1) := by decide +kernel
theorem dX8_lots_44 : decode cX8_lots 44 = .ok (.getfield 7, 3) := by decide +kernel
theorem dX8_lots_47 : decode cX8_lots 47 = .ok (.iconst 2, 1) := by decide +kernel
theorem dX8_lots_48 : decode cX8_lots 48 = .ok (.iaload, 1) := by decide +kernel
theorem dX8_lots_49 : decode cX8_lots 49 = .ok (.iload_n 2, 1) := by decide +kernel
theorem dX8_lots_50 : decode cX8_lots 50 = .ok (.isub, 1) := by decide +kernel
theorem dX8_lots_51 : decode cX8_lots 51 = .ok (.iload_n 1, 1) := by decide +kernel
theorem dX8_lots_52 : decode cX8_lots 52 = .ok (.iload 4, 2) := by decide +kernel
theorem dX8_lots_54 : decode cX8_lots 54 = .ok (.isub, 1) := by decide +kernel
theorem dX8_lots_55 : decode cX8_lots 55 = .ok (.invokestatic 169, 3) := by decide +kernel
theorem dX8_lots_58 : decode cX8_lots 58 = .ok (.imul, 1) := by decide +kernel
theorem dX8_lots_59 : decode cX8_lots 59 = .ok (.iadd, 1) := by decide +kernel
theorem dX8_lots_60 : decode cX8_lots 60 = .ok (.istore_n 3, 1) := by decide +kernel
theorem dX8_lots_61 : decode cX8_lots 61 = .ok (.iinc 4 1, 3) := by decide +kernel
theorem dX8_lots_64 : decode cX8_lots 64 = .ok (.goto (-34), 3) := by decide +kernel
theorem dX8_lots_67 : decode cX8_lots 67 = .ok (.iload_n 3, 1) := by decide +kernel
theorem dX8_lots_68 : decode cX8_lots 68 = .ok (.ireturn, 1) := by decide +kernel
theorem dX8_feed_0 : decode cX8_feed 0 = .ok (.iload_n 2, 1) := by decide +kernel
theorem dX8_feed_1 : decode cX8_feed 1 = .ok (.iconst 1, 1) := by decide +kernel
theorem dX8_feed_2 : decode cX8_feed 2 = .ok (.iconst 4, 1) := by decide +kernel
theorem dX8_feed_3 : decode cX8_feed 3 = .ok (.invokestatic 57, 3) := by decide +kernel
theorem dX8_feed_6 : decode cX8_feed 6 = .ok (.ifCond .ne 10, 3) := by decide +kernel
theorem dX8_feed_9 : decode cX8_feed 9 = .ok (.aload_n 0, 1) := by decide +kernel
theorem dX8_feed_10 : decode cX8_feed 10 = .ok (.ldc 56, 2) := by decide +kernel
theorem dX8_feed_12 : decode cX8_feed 12 = .ok (.invokevirtual 83, 3) := by decide +kernel
theorem dX8_feed_15 : decode cX8_feed 15 = .ok (.ireturn, 1) := by decide +kernel
theorem dX8_feed_16 : decode cX8_feed 16 = .ok (.aload_n 0, 1) := by decide +kernel
theorem dX8_feed_17 : decode cX8_feed 17 = .ok (.getfield 178, 3) := by decide +kernel
theorem dX8_feed_20 : decode cX8_feed 20 = .ok (.iload_n 2, 1) := by decide +kernel
theorem dX8_feed_21 : decode cX8_feed 21 = .ok (.iadd, 1) := by decide +kernel
theorem dX8_feed_22 : decode cX8_feed 22 = .ok (.bipush 120, 2) := by decide +kernel
theorem dX8_feed_24 : decode cX8_feed 24 = .ok (.if_icmp .le 10, 3) := by decide +kernel
theorem dX8_feed_27 : decode cX8_feed 27 = .ok (.aload_n 0, 1) := by decide +kernel
theorem dX8_feed_28 : decode cX8_feed 28 = .ok (.ldc 86, 2) := by decide +kernel
theorem dX8_feed_30 : decode cX8_feed 30 = .ok (.invokevirtual 83, 3) := by decide +kernel
theorem dX8_feed_33 : decode cX8_feed 33 = .ok (.ireturn, 1) := by decide +kernel
theorem dX8_feed_34 : decode cX8_feed 34 = .ok (.iload_n 2, 1) := by decide +kernel
theorem dX8_feed_35 : decode cX8_feed 35 = .ok (.iconst 1, 1) := by decide +kernel
theorem dX8_feed_36 : decode cX8_feed 36 = .ok (.isub, 1) := by decide +kernel
theorem dX8_feed_37 : decode cX8_feed 37 = .ok (.istore_n 3, 1) := by decide +kernel
theorem dX8_feed_38 : decode cX8_feed 38 = .ok (.iload_n 3, 1) := by decide +kernel
theorem dX8_feed_39 : decode cX8_feed 39 = .ok (.ifCond .lt 38, 3) := by decide +kernel
theorem dX8_feed_42 : decode cX8_feed 42 = .ok (.aload_n 0, 1) := by decide +kernel
theorem dX8_feed_43 : decode cX8_feed 43 = .ok (.getfield 34, 3) := by decide +kernel
theorem dX8_feed_46 : decode cX8_feed 46 = .ok (.aload_n 0, 1) := by decide +kernel
theorem dX8_feed_47 : decode cX8_feed 47 = .ok (.getfield 178, 3) := by decide +kernel
theorem dX8_feed_50 : decode cX8_feed 50 = .ok (.iload_n 1, 1) := by decide +kernel
theorem dX8_feed_51 : decode cX8_feed 51 = .ok (.bipush 8, 2) := by decide +kernel
theorem dX8_feed_53 : decode cX8_feed 53 = .ok (.iload_n 3, 1) := by decide +kernel
theorem dX8_feed_54 : decode cX8_feed 54 = .ok (.imul, 1) := by decide +kernel
theorem dX8_feed_55 : decode cX8_feed 55 = .ok (.ishr, 1) := by decide +kernel
theorem dX8_feed_56 : decode cX8_feed 56 = .ok (.sipush 255, 3) := by decide +kernel
theorem dX8_feed_59 : decode cX8_feed 59 = .ok (.iand, 1) := by decide +kernel
theorem dX8_feed_60 : decode cX8_feed 60 = .ok (.iastore, 1) := by decide +kernel
theorem dX8_feed_61 : decode cX8_feed 61 = .ok (.aload_n 0, 1) := by decide +kernel
theorem dX8_feed_62 : decode cX8_feed 62 = .ok (.dup, 1) := by decide +kernel
theorem dX8_feed_63 : decode cX8_feed 63 = .ok (.getfield 178, 3) := by decide +kernel
theorem dX8_feed_66 : decode cX8_feed 66 = .ok (.iconst 1, 1) := by decide +kernel
theorem dX8_feed_67 : decode cX8_feed 67 = .ok (.iadd, 1) := by decide +kernel
theorem dX8_feed_68 : decode cX8_feed 68 = .ok (.putfield 178, 3) := by decide +kernel
theorem dX8_feed_71 : decode cX8_feed 71 = .ok (.iinc 3 (-1), 3) := by decide +kernel
theorem dX8_feed_74 : decode cX8_feed 74 = .ok (.goto (-36), 3) := by decide +kernel
theorem dX8_feed_77 : decode cX8_feed 77 = .ok (.aload_n 0, 1) := by decide +kernel
theorem dX8_feed_78 : decode cX8_feed 78 = .ok (.getfield 178, 3) := by decide +kernel
theorem dX8_feed_81 : decode cX8_feed 81 = .ok (.ireturn, 1) := by decide +kernel
theorem dX8_wipe_0 : decode cX8_wipe 0 = .ok (.aload_n 0, 1) := by decide +kernel
theorem dX8_wipe_1 : decode cX8_wipe 1 = .ok (.getfield 178, 3) := by decide +kernel
theorem dX8_wipe_4 : decode cX8_wipe 4 = .ok (.istore_n 1, 1) := by decide +kernel
theorem dX8_wipe_5 : decode cX8_wipe 5 = .ok (.aload_n 0, 1) := by decide +kernel
theorem dX8_wipe_6 : decode cX8_wipe 6 = .ok (.iconst 0, 1) := by decide +kernel
theorem dX8_wipe_7 : decode cX8_wipe 7 = .ok (.putfield 178, 3) := by decide +kernel
theorem dX8_wipe_10 : decode cX8_wipe 10 = .ok (.iload_n 1, 1) := by decide +kernel
theorem dX8_wipe_11 : decode cX8_wipe 11 = .ok (.ireturn, 1) := by decide +kernel
theorem dX8_byteAt_0 : decode cX8_byteAt 0 = .ok (.iload_n 1, 1) := by decide +kernel
theorem dX8_byteAt_1 : decode cX8_byteAt 1 = .ok (.aload_n 0, 1) := by decide +kernel
theorem dX8_byteAt_2 : decode cX8_byteAt 2 = .ok (.getfield 178, 3) := by decide +kernel
theorem dX8_byteAt_5 : decode cX8_byteAt 5 = .ok (.if_icmp .ge 12, 3) := by decide +kernel
theorem dX8_byteAt_8 : decode cX8_byteAt 8 = .ok (.aload_n 0, 1) := by decide +kernel
theorem dX8_byteAt_9 : decode cX8_byteAt 9 = .ok (.getfield 34, 3) := by decide +kernel
theorem dX8_byteAt_12 : decode cX8_byteAt 12 = .ok (.iload_n 1, 1) := by decide +kernel
theorem dX8_byteAt_13 : decode cX8_byteAt 13 = .ok (.iaload, 1) := by decide +kernel
theorem dX8_byteAt_14 : decode cX8_byteAt 14 = .ok (.goto 4, 3) := by decide +kernel
theorem dX8_byteAt_17 : decode cX8_byteAt 17 = .ok (.iconst (-1), 1) := by decide +kernel
theorem dX8_byteAt_18 : decode cX8_byteAt 18 = .ok (.ireturn, 1) := by decide +kernel
theorem dX8_isLetter_0 : decode cX8_isLetter 0 = .ok (.iload_n 0, 1) := by decide +kernel
theorem dX8_isLetter_1 : decode cX8_isLetter 1 = .ok (.bipush 97, 2) := by decide +kernel
theorem dX8_isLetter_3 : decode cX8_isLetter 3 = .ok (.bipush 122, 2) := by decide +kernel
theorem dX8_isLetter_5 : decode cX8_isLetter 5 = .ok (.invokestatic 57, 3) := by decide +kernel
theorem dX8_isLetter_8 : decode cX8_isLetter 8 = .ok (.ireturn, 1) := by decide +kernel
theorem dX8_isDigit_0 : decode cX8_isDigit 0 = .ok (.iload_n 0, 1) := by decide +kernel
theorem dX8_isDigit_1 : decode cX8_isDigit 1 = .ok (.bipush 48, 2) := by decide +kernel
theorem dX8_isDigit_3 : decode cX8_isDigit 3 = .ok (.bipush 57, 2) := by decide +kernel
theorem dX8_isDigit_5 : decode cX8_isDigit 5 = .ok (.invokestatic 57, 3) := by decide +kernel
theorem dX8_isDigit_8 : decode cX8_isDigit 8 = .ok (.ireturn, 1) := by decide +kernel
theorem dX8_advance_0 : decode cX8_advance 0 = .ok (.aload_n 0, 1) := by decide +kernel
theorem dX8_advance_1 : decode cX8_advance 1 = .ok (.aload_n 0, 1) := by decide +kernel
theorem dX8_advance_2 : decode cX8_advance 2 = .ok (.getfield 182, 3) := by decide +kernel
theorem dX8_advance_5 : decode cX8_advance 5 = .ok (.putfield 185, 3) := by decide +kernel
theorem dX8_advance_8 : decode cX8_advance 8 = .ok (.aload_n 0, 1) := by decide +kernel
theorem dX8_advance_9 : decode cX8_advance 9 = .ok (.aload_n 0, 1) := by decide +kernel
theorem dX8_advance_10 : decode cX8_advance 10 = .ok (.getfield 185, 3) := by decide +kernel
theorem dX8_advance_13 : decode cX8_advance 13 = .ok (.invokevirtual 188, 3) := by decide +kernel
theorem dX8_advance_16 : decode cX8_advance 16 = .ok (.bipush 32, 2) := by decide +kernel
theorem dX8_advance_18 : decode cX8_advance 18 = .ok (.if_icmp .ne 16, 3) := by decide +kernel
theorem dX8_advance_21 : decode cX8_advance 21 = .ok (.aload_n 0, 1) := by decide +kernel
theorem dX8_advance_22 : decode cX8_advance 22 = .ok (.dup, 1) := by decide +kernel
theorem dX8_advance_23 : decode cX8_advance 23 = .ok (.getfield 185, 3) := by decide +kernel
theorem dX8_advance_26 : decode cX8_advance 26 = .ok (.iconst 1, 1) := by decide +kernel
theorem dX8_advance_27 : decode cX8_advance 27 = .ok (.iadd, 1) := by decide +kernel
theorem dX8_advance_28 : decode cX8_advance 28 = .ok (.putfield 185, 3) := by decide +kernel
theorem dX8_advance_31 : decode cX8_advance 31 = .ok (.goto (-23), 3) := by decide +kernel
theorem dX8_advance_34 : decode cX8_advance 34 = .ok (.aload_n 0, 1) := by decide +kernel
theorem dX8_advance_35 : decode cX8_advance 35 = .ok (.aload_n 0, 1) := by decide +kernel
theorem dX8_advance_36 : decode cX8_advance 36 = .ok (.getfield 185, 3) := by decide +kernel
theorem dX8_advance_39 : decode cX8_advance 39 = .ok (.putfield 182, 3) := by decide +kernel
theorem dX8_advance_42 : decode cX8_advance 42 = .ok (.aload_n 0, 1) := by decide +kernel
theorem dX8_advance_43 : decode cX8_advance 43 = .ok (.aload_n 0, 1) := by decide +kernel
theorem dX8_advance_44 : decode cX8_advance 44 = .ok (.getfield 185, 3) := by decide +kernel
theorem dX8_advance_47 : decode cX8_advance 47 = .ok (.invokevirtual 188, 3) := by decide +kernel
theorem dX8_advance_50 : decode cX8_advance 50 = .ok (.istore_n 1, 1) := by decide +kernel
theorem dX8_advance_51 : decode cX8_advance 51 = .ok (.aload_n 0, 1) := by decide +kernel
theorem dX8_advance_52 : decode cX8_advance 52 = .ok (.iload_n 1, 1) := by decide +kernel
theorem dX8_advance_53 : decode cX8_advance 53 = .ok (.ifCond .ge 7, 3) := by decide +kernel
theorem dX8_advance_56 : decode cX8_advance 56 = .ok (.iconst 0, 1) := by decide +kernel
theorem dX8_advance_57 : decode cX8_advance 57 = .ok (.goto 26, 3) := by decide +kernel
theorem dX8_advance_60 : decode cX8_advance 60 = .ok (.iload_n 1, 1) := by decide +kernel
theorem dX8_advance_61 : decode cX8_advance 61 = .ok (.invokestatic 191, 3) := by decide +kernel
theorem dX8_advance_64 : decode cX8_advance 64 = .ok (.ifCond .eq 7, 3) := by decide +kernel
theorem dX8_advance_67 : decode cX8_advance 67 = .ok (.iconst 1, 1) := by decide +kernel
theorem dX8_advance_68 : decode cX8_advance 68 = .ok (.goto 15, 3) := by decide +kernel
theorem dX8_advance_71 : decode cX8_advance 71 = .ok (.iload_n 1, 1) := by decide +kernel
theorem dX8_advance_72 : decode cX8_advance 72 = .ok (.invokestatic 194, 3) := by decide +kernel
theorem dX8_advance_75 : decode cX8_advance 75 = .ok (.ifCond .eq 7, 3) := by decide +kernel
theorem dX8_advance_78 : decode cX8_advance 78 = .ok (.iconst 2, 1) := by decide +kernel
theorem dX8_advance_79 : decode cX8_advance 79 = .ok (.goto 4, 3) := by decide +kernel
theorem dX8_advance_82 : decode cX8_advance 82 = .ok (.iconst 3, 1) := by decide +kernel
theorem dX8_advance_83 : decode cX8_advance 83 = .ok (.putfield 197, 3) := by decide +kernel
theorem dX8_advance_86 : decode cX8_advance 86 = .ok (.aload_n 0, 1) := by decide +kernel
theorem dX8_advance_87 : decode cX8_advance 87 = .ok (.lconst 0, 1) := by decide +kernel
theorem dX8_advance_88 : decode cX8_advance 88 = .ok (.putfield 200, 3) := by decide +kernel
theorem dX8_advance_91 : decode cX8_advance 91 = .ok (.aload_n 0, 1) := by decide +kernel
theorem dX8_advance_92 : decode cX8_advance 92 = .ok (.aload_n 0, 1) := by decide +kernel
theorem dX8_advance_93 : decode cX8_advance 93 = .ok (.getfield 197, 3) := by decide +kernel
theorem dX8_advance_96 : decode cX8_advance 96 = .ok (.iconst 2, 1) := by decide +kernel
theorem dX8_advance_97 : decode cX8_advance 97 = .ok (.if_icmp .ne 7, 3) := by decide +kernel
theorem dX8_advance_100 : decode cX8_advance 100 = .ok (.iconst 0, 1) := by decide +kernel
theorem dX8_advance_101 : decode cX8_advance 101 = .ok (.goto 4, 3) := by decide +kernel
theorem dX8_advance_104 : decode cX8_advance 104 = .ok (.iload_n 1, 1) := by decide +kernel
theorem dX8_advance_105 : decode cX8_advance 105 = .ok (.putfield 204, 3) := by decide +kernel
theorem dX8_advance_108 : decode cX8_advance 108 = .ok (.aload_n 0, 1) := by decide +kernel
theorem dX8_advance_109 : decode cX8_advance 109 = .ok (.getfield 197, 3) := by decide +kernel
theorem dX8_advance_112 : decode cX8_advance 112 = .ok (.iconst 3, 1) := by decide +kernel
theorem dX8_advance_113 : decode cX8_advance 113 = .ok (.if_icmp .ne 13, 3) := by decide +kernel
theorem dX8_advance_116 : decode cX8_advance 116 = .ok (.aload_n 0, 1) := by decide +kernel
theorem dX8_advance_117 : decode cX8_advance 117 = .ok (.dup, 1) := by decide +kernel
theorem dX8_advance_118 : decode cX8_advance 118 = .ok (.getfield 182, 3) := by decide +kernel
theorem dX8_advance_121 : decode cX8_advance 121 = .ok (.iconst 1, 1) := by decide +kernel
theorem dX8_advance_122 : decode cX8_advance 122 = .ok (.iadd, 1) := by decide +kernel
theorem dX8_advance_123 : decode cX8_advance 123 = .ok (.putfield 182, 3) := by decide +kernel
theorem dX8_advance_126 : decode cX8_advance 126 = .ok (.aload_n 0, 1) := by decide +kernel
theorem dX8_advance_127 : decode cX8_advance 127 = .ok (.getfield 197, 3) := by decide +kernel
theorem dX8_advance_130 : decode cX8_advance 130 = .ok (.iconst 1, 1) := by decide +kernel
theorem dX8_advance_131 : decode cX8_advance 131 = .ok (.if_icmp .ne 76, 3) := by decide +kernel
theorem dX8_advance_134 : decode cX8_advance 134 = .ok (.aload_n 0, 1) := by decide +kernel
theorem dX8_advance_135 : decode cX8_advance 135 = .ok (.aload_n 0, 1) := by decide +kernel
theorem dX8_advance_136 : decode cX8_advance 136 = .ok (.getfield 182, 3) := by decide +kernel
theorem dX8_advance_139 : decode cX8_advance 139 = .ok (.invokevirtual 188, 3) := by decide +kernel
theorem dX8_advance_142 : decode cX8_advance 142 = .ok (.invokestatic 191, 3) := by decide +kernel
theorem dX8_advance_145 : decode cX8_advance 145 = .ok (.ifCond .eq 62, 3) := by decide +kernel
theorem dX8_advance_148 : decode cX8_advance 148 = .ok (.aload_n 0, 1) := by decide +kernel
theorem dX8_advance_149 : decode cX8_advance 149 = .ok (.aload_n 0, 1) := by decide +kernel
theorem dX8_advance_150 : decode cX8_advance 150 = .ok (.getfield 182, 3) := by decide +kernel
theorem dX8_advance_153 : decode cX8_advance 153 = .ok (.aload_n 0, 1) := by decide +kernel
theorem dX8_advance_154 : decode cX8_advance 154 = .ok (.getfield 185, 3) := by decide +kernel
theorem dX8_advance_157 : decode cX8_advance 157 = .ok (.isub, 1) := by decide +kernel
theorem dX8_advance_158 : decode cX8_advance 158 = .ok (.bipush 12, 2) := by decide +kernel
theorem dX8_advance_160 : decode cX8_advance 160 = .ok (.if_icmp .ge 28, 3) := by decide +kernel
theorem dX8_advance_163 : decode cX8_advance 163 = .ok (.ldc2_w 207, 3) := by decide +kernel
theorem dX8_advance_166 : decode cX8_advance 166 = .ok (.aload_n 0, 1) := by decide +kernel
theorem dX8_advance_167 : decode cX8_advance 167 = .ok (.getfield 200, 3) := by decide +kernel
theorem dX8_advance_170 : decode cX8_advance 170 = .ok (.lmul, 1) := by decide +kernel
theorem dX8_advance_171 : decode cX8_advance 171 = .ok (.aload_n 0, 1) := by decide +kernel
theorem dX8_advance_172 : decode cX8_advance 172 = .ok (.aload_n 0, 1) := by decide +kernel
theorem dX8_advance_173 : decode cX8_advance 173 = .ok (.getfield 182, 3) := by decide +kernel
theorem dX8_advance_176 : decode cX8_advance 176 = .ok (.invokevirtual 188, 3) := by decide +kernel
theorem dX8_advance_179 : decode cX8_advance 179 = .ok (.i2l, 1) := by decide +kernel
theorem dX8_advance_180 : decode cX8_advance 180 = .ok (.ladd, 1) := by decide +kernel
theorem dX8_advance_181 : decode cX8_advance 181 = .ok (.ldc2_w 209, 3) := by decide +kernel
theorem dX8_advance_184 : decode cX8_advance 184 = .ok (.lsub, 1) := by decide +kernel
theorem dX8_advance_185 : decode cX8_advance 185 = .ok (.goto 6, 3) := by decide +kernel
theorem dX8_advance_188 : decode cX8_advance 188 = .ok (.ldc2_w 211, 3) := by decide +kernel
theorem dX8_advance_191 : decode cX8_advance 191 = .ok (.putfield 200, 3) := by decide +kernel
theorem dX8_advance_194 : decode cX8_advance 194 = .ok (.aload_n 0, 1) := by decide +kernel
theorem dX8_advance_195 : decode cX8_advance 195 = .ok (.dup, 1) := by decide +kernel
theorem dX8_advance_196 : decode cX8_advance 196 = .ok (.getfield 182, 3) := by decide +kernel
theorem dX8_advance_199 : decode cX8_advance 199 = .ok (.iconst 1, 1) := by decide +kernel
theorem dX8_advance_200 : decode cX8_advance 200 = .ok (.iadd, 1) := by decide +kernel
theorem dX8_advance_201 : decode cX8_advance 201 = .ok (.putfield 182, 3) := by decide +kernel
theorem dX8_advance_204 : decode cX8_advance 204 = .ok (.goto (-78), 3) := by decide +kernel
theorem dX8_advance_207 : decode cX8_advance 207 = .ok (.aload_n 0, 1) := by decide +kernel
theorem dX8_advance_208 : decode cX8_advance 208 = .ok (.getfield 197, 3) := by decide +kernel
theorem dX8_advance_211 : decode cX8_advance 211 = .ok (.iconst 2, 1) := by decide +kernel
theorem dX8_advance_212 : decode cX8_advance 212 = .ok (.if_icmp .ne 69, 3) := by decide +kernel
theorem dX8_advance_215 : decode cX8_advance 215 = .ok (.aload_n 0, 1) := by decide +kernel
theorem dX8_advance_216 : decode cX8_advance 216 = .ok (.aload_n 0, 1) := by decide +kernel
theorem dX8_advance_217 : decode cX8_advance 217 = .ok (.getfield 182, 3) := by decide +kernel
theorem dX8_advance_220 : decode cX8_advance 220 = .ok (.invokevirtual 188, 3) := by decide +kernel
theorem dX8_advance_223 : decode cX8_advance 223 = .ok (.invokestatic 194, 3) := by decide +kernel
theorem dX8_advance_226 : decode cX8_advance 226 = .ok (.ifCond .eq 55, 3) := by decide +kernel
theorem dX8_advance_229 : decode cX8_advance 229 = .ok (.aload_n 0, 1) := by decide +kernel
theorem dX8_advance_230 : decode cX8_advance 230 = .ok (.aload_n 0, 1) := by decide +kernel
theorem dX8_advance_231 : decode cX8_advance 231 = .ok (.getfield 204, 3) := by decide +kernel
theorem dX8_advance_234 : decode cX8_advance 234 = .ok (.sipush 999, 3) := by decide +kernel
theorem dX8_advance_237 : decode cX8_advance 237 = .ok (.if_icmp .le 9, 3) := by decide +kernel
theorem dX8_advance_240 : decode cX8_advance 240 = .ok (.sipush 10000, 3) := by decide +kernel
theorem dX8_advance_243 : decode cX8_advance 243 = .ok (.goto 22, 3) := by decide +kernel
theorem dX8_advance_246 : decode cX8_advance 246 = .ok (.bipush 10, 2) := by decide +kernel
theorem dX8_advance_248 : decode cX8_advance 248 = .ok (.aload_n 0, 1) := by decide +kernel
theorem dX8_advance_249 : decode cX8_advance 249 = .ok (.getfield 204, 3) := by decide +kernel
theorem dX8_advance_252 : decode cX8_advance 252 = .ok (.imul, 1) := by decide +kernel
theorem dX8_advance_253 : decode cX8_advance 253 = .ok (.aload_n 0, 1) := by decide +kernel
theorem dX8_advance_254 : decode cX8_advance 254 = .ok (.aload_n 0, 1) := by decide +kernel
theorem dX8_advance_255 : decode cX8_advance 255 = .ok (.getfield 182, 3) := by decide +kernel
theorem dX8_advance_258 : decode cX8_advance 258 = .ok (.invokevirtual 188, 3) := by decide +kernel
theorem dX8_advance_261 : decode cX8_advance 261 = .ok (.iadd, 1) := by decide +kernel
theorem dX8_advance_262 : decode cX8_advance 262 = .ok (.bipush 48, 2) := by decide +kernel
theorem dX8_advance_264 : decode cX8_advance 264 = .ok (.isub, 1) := by decide +kernel
theorem dX8_advance_265 : decode cX8_advance 265 = .ok (.putfield 204, 3) := by decide +kernel
theorem dX8_advance_268 : decode cX8_advance 268 = .ok (.aload_n 0, 1) := by decide +kernel
theorem dX8_advance_269 : decode cX8_advance 269 = .ok (.dup, 1) := by decide +kernel
theorem dX8_advance_270 : decode cX8_advance 270 = .ok (.getfield 182, 3) := by decide +kernel
theorem dX8_advance_273 : decode cX8_advance 273 = .ok (.iconst 1, 1) := by decide +kernel
theorem dX8_advance_274 : decode cX8_advance 274 = .ok (.iadd, 1) := by decide +kernel
theorem dX8_advance_275 : decode cX8_advance 275 = .ok (.putfield 182, 3) := by decide +kernel
theorem dX8_advance_278 : decode cX8_advance 278 = .ok (.goto (-71), 3) := by decide +kernel
theorem dX8_advance_281 : decode cX8_advance 281 = .ok (.return_, 1) := by decide +kernel
theorem dX8_isWord_0 : decode cX8_isWord 0 = .ok (.aload_n 0, 1) := by decide +kernel
theorem dX8_isWord_1 : decode cX8_isWord 1 = .ok (.getfield 197, 3) := by decide +kernel
theorem dX8_isWord_4 : decode cX8_isWord 4 = .ok (.iconst 1, 1) := by decide +kernel
theorem dX8_isWord_5 : decode cX8_isWord 5 = .ok (.if_icmp .ne 16, 3) := by decide +kernel
theorem dX8_isWord_8 : decode cX8_isWord 8 = .ok (.aload_n 0, 1) := by decide +kernel
theorem dX8_isWord_9 : decode cX8_isWord 9 = .ok (.getfield 200, 3) := by decide +kernel
theorem dX8_isWord_12 : decode cX8_isWord 12 = .ok (.lload_n 1, 1) := by decide +kernel
theorem dX8_isWord_13 : decode cX8_isWord 13 = .ok (.lcmp, 1) := by decide +kernel
theorem dX8_isWord_14 : decode cX8_isWord 14 = .ok (.ifCond .ne 7, 3) := by decide +kernel
theorem dX8_isWord_17 : decode cX8_isWord 17 = .ok (.iconst 1, 1) := by decide +kernel
theorem dX8_isWord_18 : decode cX8_isWord 18 = .ok (.goto 4, 3) := by decide +kernel
theorem dX8_isWord_21 : decode cX8_isWord 21 = .ok (.iconst 0, 1) := by decide +kernel
theorem dX8_isWord_22 : decode cX8_isWord 22 = .ok (.ireturn, 1) := by decide +kernel
theorem dX8_kindHere_0 : decode cX8_kindHere 0 = .ok (.aload_n 0, 1) := by decide +kernel
theorem dX8_kindHere_1 : decode cX8_kindHere 1 = .ok (.ldc2_w 213, 3) := by decide +kernel
theorem dX8_kindHere_4 : decode cX8_kindHere 4 = .ok (.invokevirtual 215, 3) := by decide +kernel
theorem dX8_kindHere_7 : decode cX8_kindHere 7 = .ok (.ifCond .eq 7, 3) := by decide +kernel
theorem dX8_kindHere_10 : decode cX8_kindHere 10 = .ok (.iconst 0, 1) := by decide +kernel
theorem dX8_kindHere_11 : decode cX8_kindHere 11 = .ok (.goto 74, 3) := by decide +kernel
theorem dX8_kindHere_14 : decode cX8_kindHere 14 = .ok (.aload_n 0, 1) := by decide +kernel
theorem dX8_kindHere_15 : decode cX8_kindHere 15 = .ok (.ldc2_w 219, 3) := by decide +kernel
theorem dX8_kindHere_18 : decode cX8_kindHere 18 = .ok (.invokevirtual 215, 3) := by decide +kernel
theorem dX8_kindHere_21 : decode cX8_kindHere 21 = .ok (.ifCond .eq 7, 3) := by decide +kernel
theorem dX8_kindHere_24 : decode cX8_kindHere 24 = .ok (.iconst 1, 1) := by decide +kernel
theorem dX8_kindHere_25 : decode cX8_kindHere 25 = .ok (.goto 60, 3) := by decide +kernel
theorem dX8_kindHere_28 : decode cX8_kindHere 28 = .ok (.aload_n 0, 1) := by decide +kernel
theorem dX8_kindHere_29 : decode cX8_kindHere 29 = .ok (.ldc2_w 221, 3) := by decide +kernel
theorem dX8_kindHere_32 : decode cX8_kindHere 32 = .ok (.invokevirtual 215, 3) := by decide +kernel
theorem dX8_kindHere_35 : decode cX8_kindHere 35 = .ok (.ifCond .eq 7, 3) := by decide +kernel
theorem dX8_kindHere_38 : decode cX8_kindHere 38 = .ok (.iconst 2, 1) := by decide +kernel
theorem dX8_kindHere_39 : decode cX8_kindHere 39 = .ok (.goto 46, 3) := by decide +kernel
theorem dX8_kindHere_42 : decode cX8_kindHere 42 = .ok (.aload_n 0, 1) := by decide +kernel
theorem dX8_kindHere_43 : decode cX8_kindHere 43 = .ok (.ldc2_w 223, 3) := by decide +kernel
theorem dX8_kindHere_46 : decode cX8_kindHere 46 = .ok (.invokevirtual 215, 3) := by decide +kernel
theorem dX8_kindHere_49 : decode cX8_kindHere 49 = .ok (.ifCond .eq 7, 3) := by decide +kernel
theorem dX8_kindHere_52 : decode cX8_kindHere 52 = .ok (.iconst 3, 1) := by decide +kernel
theorem dX8_kindHere_53 : decode cX8_kindHere 53 = .ok (.goto 32, 3) := by decide +kernel
theorem dX8_kindHere_56 : decode cX8_kindHere 56 = .ok (.aload_n 0, 1) := by decide +kernel
theorem dX8_kindHere_57 : decode cX8_kindHere 57 = .ok (.ldc2_w 225, 3) := by decide +kernel
theorem dX8_kindHere_60 : decode cX8_kindHere 60 = .ok (.invokevirtual 215, 3) := by decide +kernel
theorem dX8_kindHere_63 : decode cX8_kindHere 63 = .ok (.ifCond .eq 7, 3) := by decide +kernel
theorem dX8_kindHere_66 : decode cX8_kindHere 66 = .ok (.iconst 4, 1) := by decide +kernel
theorem dX8_kindHere_67 : decode cX8_kindHere 67 = .ok (.goto 18, 3) := by decide +kernel
theorem dX8_kindHere_70 : decode cX8_kindHere 70 = .ok (.aload_n 0, 1) := by decide +kernel
theorem dX8_kindHere_71 : decode cX8_kindHere 71 = .ok (.ldc2_w 227, 3) := by decide +kernel
theorem dX8_kindHere_74 : decode cX8_kindHere 74 = .ok (.invokevirtual 215, 3) := by decide +kernel
theorem dX8_kindHere_77 : decode cX8_kindHere 77 = .ok (.ifCond .eq 7, 3) := by decide +kernel
theorem dX8_kindHere_80 : decode cX8_kindHere 80 = .ok (.iconst 5, 1) := by decide +kernel
theorem dX8_kindHere_81 : decode cX8_kindHere 81 = .ok (.goto 4, 3) := by decide +kernel
theorem dX8_kindHere_84 : decode cX8_kindHere 84 = .ok (.iconst (-1), 1) := by decide +kernel
theorem dX8_kindHere_85 : decode cX8_kindHere 85 = .ok (.ireturn, 1) := by decide +kernel
theorem dX8_wantNumber_0 : decode cX8_wantNumber 0 = .ok (.aload_n 0, 1) := by decide +kernel
theorem dX8_wantNumber_1 : decode cX8_wantNumber 1 = .ok (.getfield 204, 3) := by decide +kernel
theorem dX8_wantNumber_4 : decode cX8_wantNumber 4 = .ok (.istore_n 3, 1) := by decide +kernel
theorem dX8_wantNumber_5 : decode cX8_wantNumber 5 = .ok (.aload_n 0, 1) := by decide +kernel
theorem dX8_wantNumber_6 : decode cX8_wantNumber 6 = .ok (.aload_n 0, 1) := by decide +kernel
theorem dX8_wantNumber_7 : decode cX8_wantNumber 7 = .ok (.getfield 229, 3) := by decide +kernel
theorem dX8_wantNumber_10 : decode cX8_wantNumber 10 = .ok (.ifCond .eq 24, 3) := by decide +kernel
theorem dX8_wantNumber_13 : decode cX8_wantNumber 13 = .ok (.aload_n 0, 1) := by decide +kernel
theorem dX8_wantNumber_14 : decode cX8_wantNumber 14 = .ok (.getfield 197, 3) := by decide +kernel
theorem dX8_wantNumber_17 : decode cX8_wantNumber 17 = .ok (.iconst 2, 1) := by decide +kernel
theorem dX8_wantNumber_18 : decode cX8_wantNumber 18 = .ok (.if_icmp .ne 16, 3) := by decide +kernel
theorem dX8_wantNumber_21 : decode cX8_wantNumber 21 = .ok (.iload_n 3, 1) := by decide +kernel
theorem dX8_wantNumber_22 : decode cX8_wantNumber 22 = .ok (.iload_n 1, 1) := by decide +kernel
theorem dX8_wantNumber_23 : decode cX8_wantNumber 23 = .ok (.iload_n 2, 1) := by decide +kernel
theorem dX8_wantNumber_24 : decode cX8_wantNumber 24 = .ok (.invokestatic 57, 3) := by decide +kernel
theorem dX8_wantNumber_27 : decode cX8_wantNumber 27 = .ok (.ifCond .eq 7, 3) := by decide +kernel
theorem dX8_wantNumber_30 : decode cX8_wantNumber 30 = .ok (.iconst 1, 1) := by decide +kernel
theorem dX8_wantNumber_31 : decode cX8_wantNumber 31 = .ok (.goto 4, 3) := by decide +kernel
theorem dX8_wantNumber_34 : decode cX8_wantNumber 34 = .ok (.iconst 0, 1) := by decide +kernel
theorem dX8_wantNumber_35 : decode cX8_wantNumber 35 = .ok (.putfield 229, 3) := by decide +kernel
theorem dX8_wantNumber_38 : decode cX8_wantNumber 38 = .ok (.aload_n 0, 1) := by decide +kernel
theorem dX8_wantNumber_39 : decode cX8_wantNumber 39 = .ok (.getfield 229, 3) := by decide +kernel
theorem dX8_wantNumber_42 : decode cX8_wantNumber 42 = .ok (.ifCond .eq 7, 3) := by decide +kernel
theorem dX8_wantNumber_45 : decode cX8_wantNumber 45 = .ok (.aload_n 0, 1) := by decide +kernel
theorem dX8_wantNumber_46 : decode cX8_wantNumber 46 = .ok (.invokevirtual 233, 3) := by decide +kernel
theorem dX8_wantNumber_49 : decode cX8_wantNumber 49 = .ok (.iload_n 3, 1) := by decide +kernel
theorem dX8_wantNumber_50 : decode cX8_wantNumber 50 = .ok (.ireturn, 1) := by decide +kernel
theorem dX8_mayWant_0 : decode cX8_mayWant 0 = .ok (.aload_n 0, 1) := by decide +kernel
theorem dX8_mayWant_1 : decode cX8_mayWant 1 = .ok (.getfield 229, 3) := by decide +kernel
theorem dX8_mayWant_4 : decode cX8_mayWant 4 = .ok (.ifCond .eq 11, 3) := by decide +kernel
theorem dX8_mayWant_7 : decode cX8_mayWant 7 = .ok (.aload_n 0, 1) := by decide +kernel
theorem dX8_mayWant_8 : decode cX8_mayWant 8 = .ok (.lload_n 1, 1) := by decide +kernel
theorem dX8_mayWant_9 : decode cX8_mayWant 9 = .ok (.invokevirtual 215, 3) := by decide +kernel
theorem dX8_mayWant_12 : decode cX8_mayWant 12 = .ok (.ifCond .ne 6, 3) := by decide +kernel
theorem dX8_mayWant_15 : decode cX8_mayWant 15 = .ok (.iload 5, 2) := by decide +kernel
theorem dX8_mayWant_17 : decode cX8_mayWant 17 = .ok (.ireturn, 1) := by decide +kernel
theorem dX8_mayWant_18 : decode cX8_mayWant 18 = .ok (.aload_n 0, 1) := by decide +kernel
theorem dX8_mayWant_19 : decode cX8_mayWant 19 = .ok (.invokevirtual 233, 3) := by decide +kernel
theorem dX8_mayWant_22 : decode cX8_mayWant 22 = .ok (.aload_n 0, 1) := by decide +kernel
theorem dX8_mayWant_23 : decode cX8_mayWant 23 = .ok (.iload_n 3, 1) := by decide +kernel
theorem dX8_mayWant_24 : decode cX8_mayWant 24 = .ok (.iload 4, 2) := by decide +kernel
theorem dX8_mayWant_26 : decode cX8_mayWant 26 = .ok (.invokevirtual 236, 3) := by decide +kernel
theorem dX8_mayWant_29 : decode cX8_mayWant 29 = .ok (.ireturn, 1) := by decide +kernel
theorem dX8_wantPerson_0 : decode cX8_wantPerson 0 = .ok (.aload_n 0, 1) := by decide +kernel
theorem dX8_wantPerson_1 : decode cX8_wantPerson 1 = .ok (.aload_n 0, 1) := by decide +kernel
theorem dX8_wantPerson_2 : decode cX8_wantPerson 2 = .ok (.getfield 7, 3) := by decide +kernel
theorem dX8_wantPerson_5 : decode cX8_wantPerson 5 = .ok (.iconst 2, 1) := by decide +kernel
theorem dX8_wantPerson_6 : decode cX8_wantPerson 6 = .ok (.iaload, 1) := by decide +kernel
theorem dX8_wantPerson_7 : decode cX8_wantPerson 7 = .ok (.bipush 8, 2) := by decide +kernel
theorem dX8_wantPerson_9 : decode cX8_wantPerson 9 = .ok (.if_icmp .ge 7, 3) := by decide +kernel
theorem dX8_wantPerson_12 : decode cX8_wantPerson 12 = .ok (.iconst 1, 1) := by decide +kernel
theorem dX8_wantPerson_13 : decode cX8_wantPerson 13 = .ok (.goto 4, 3) := by decide +kernel
theorem dX8_wantPerson_16 : decode cX8_wantPerson 16 = .ok (.iconst 0, 1) := by decide +kernel
theorem dX8_wantPerson_17 : decode cX8_wantPerson 17 = .ok (.putfield 229, 3) := by decide +kernel
theorem dX8_wantPerson_20 : decode cX8_wantPerson 20 = .ok (.aload_n 0, 1) := by decide +kernel
theorem dX8_wantPerson_21 : decode cX8_wantPerson 21 = .ok (.getfield 229, 3) := by decide +kernel
theorem dX8_wantPerson_24 : decode cX8_wantPerson 24 = .ok (.ifCond .ne 4, 3) := by decide +kernel
theorem dX8_wantPerson_27 : decode cX8_wantPerson 27 = .ok (.return_, 1) := by decide +kernel
theorem dX8_wantPerson_28 : decode cX8_wantPerson 28 = .ok (.aload_n 0, 1) := by decide +kernel
theorem dX8_wantPerson_29 : decode cX8_wantPerson 29 = .ok (.invokevirtual 233, 3) := by decide +kernel
theorem dX8_wantPerson_32 : decode cX8_wantPerson 32 = .ok (.aload_n 0, 1) := by decide +kernel
theorem dX8_wantPerson_33 : decode cX8_wantPerson 33 = .ok (.ldc2_w 239, 3) := by decide +kernel
theorem dX8_wantPerson_36 : decode cX8_wantPerson 36 = .ok (.iconst 0, 1) := by decide +kernel
theorem dX8_wantPerson_37 : decode cX8_wantPerson 37 = .ok (.bipush 20, 2) := by decide +kernel
theorem dX8_wantPerson_39 : decode cX8_wantPerson 39 = .ok (.iconst 5, 1) := by decide +kernel
theorem dX8_wantPerson_40 : decode cX8_wantPerson 40 = .ok (.invokevirtual 241, 3) := by decide +kernel
theorem dX8_wantPerson_43 : decode cX8_wantPerson 43 = .ok (.istore_n 2, 1) := by decide +kernel
theorem dX8_wantPerson_44 : decode cX8_wantPerson 44 = .ok (.aload_n 0, 1) := by decide +kernel
theorem dX8_wantPerson_45 : decode cX8_wantPerson 45 = .ok (.ldc2_w 245, 3) := by decide +kernel
theorem dX8_wantPerson_48 : decode cX8_wantPerson 48 = .ok (.iconst 0, 1) := by decide +kernel
theorem dX8_wantPerson_49 : decode cX8_wantPerson 49 = .ok (.sipush 999, 3) := by decide +kernel
theorem dX8_wantPerson_52 : decode cX8_wantPerson 52 = .ok (.bipush 10, 2) := by decide +kernel
theorem dX8_wantPerson_54 : decode cX8_wantPerson 54 = .ok (.invokevirtual 241, 3) := by decide +kernel
theorem dX8_wantPerson_57 : decode cX8_wantPerson 57 = .ok (.istore_n 3, 1) := by decide +kernel
theorem dX8_wantPerson_58 : decode cX8_wantPerson 58 = .ok (.aload_n 0, 1) := by decide +kernel
theorem dX8_wantPerson_59 : decode cX8_wantPerson 59 = .ok (.ldc2_w 247, 3) := by decide +kernel
theorem dX8_wantPerson_62 : decode cX8_wantPerson 62 = .ok (.iconst 0, 1) := by decide +kernel
theorem dX8_wantPerson_63 : decode cX8_wantPerson 63 = .ok (.bipush 99, 2) := by decide +kernel
theorem dX8_wantPerson_65 : decode cX8_wantPerson 65 = .ok (.bipush 50, 2) := by decide +kernel
theorem dX8_wantPerson_67 : decode cX8_wantPerson 67 = .ok (.invokevirtual 241, 3) := by decide +kernel
theorem dX8_wantPerson_70 : decode cX8_wantPerson 70 = .ok (.istore 4, 2) := by decide +kernel
theorem dX8_wantPerson_72 : decode cX8_wantPerson 72 = .ok (.aload_n 0, 1) := by decide +kernel
theorem dX8_wantPerson_73 : decode cX8_wantPerson 73 = .ok (.getfield 229, 3) := by decide +kernel
theorem dX8_wantPerson_76 : decode cX8_wantPerson 76 = .ok (.ifCond .eq 12, 3) := by decide +kernel
theorem dX8_wantPerson_79 : decode cX8_wantPerson 79 = .ok (.aload_n 0, 1) := by decide +kernel
theorem dX8_wantPerson_80 : decode cX8_wantPerson 80 = .ok (.iload_n 1, 1) := by decide +kernel
theorem dX8_wantPerson_81 : decode cX8_wantPerson 81 = .ok (.iload_n 2, 1) := by decide +kernel
theorem dX8_wantPerson_82 : decode cX8_wantPerson 82 = .ok (.iload_n 3, 1) := by decide +kernel
theorem dX8_wantPerson_83 : decode cX8_wantPerson 83 = .ok (.iload 4, 2) := by decide +kernel
theorem dX8_wantPerson_85 : decode cX8_wantPerson 85 = .ok (.invokevirtual 87, 3) := by decide +kernel
theorem dX8_wantPerson_88 : decode cX8_wantPerson 88 = .ok (.return_, 1) := by decide +kernel
theorem dX8_wantSlip_0 : decode cX8_wantSlip 0 = .ok (.aload_n 0, 1) := by decide +kernel
theorem dX8_wantSlip_1 : decode cX8_wantSlip 1 = .ok (.invokevirtual 233, 3) := by decide +kernel
theorem dX8_wantSlip_4 : decode cX8_wantSlip 4 = .ok (.aload_n 0, 1) := by decide +kernel
theorem dX8_wantSlip_5 : decode cX8_wantSlip 5 = .ok (.iconst 0, 1) := by decide +kernel
theorem dX8_wantSlip_6 : decode cX8_wantSlip 6 = .ok (.aload_n 0, 1) := by decide +kernel
theorem dX8_wantSlip_7 : decode cX8_wantSlip 7 = .ok (.getfield 7, 3) := by decide +kernel
theorem dX8_wantSlip_10 : decode cX8_wantSlip 10 = .ok (.iconst 2, 1) := by decide +kernel
theorem dX8_wantSlip_11 : decode cX8_wantSlip 11 = .ok (.iaload, 1) := by decide +kernel
theorem dX8_wantSlip_12 : decode cX8_wantSlip 12 = .ok (.iconst 1, 1) := by decide +kernel
theorem dX8_wantSlip_13 : decode cX8_wantSlip 13 = .ok (.isub, 1) := by decide +kernel
theorem dX8_wantSlip_14 : decode cX8_wantSlip 14 = .ok (.invokevirtual 236, 3) := by decide +kernel
theorem dX8_wantSlip_17 : decode cX8_wantSlip 17 = .ok (.istore_n 1, 1) := by decide +kernel
theorem dX8_wantSlip_18 : decode cX8_wantSlip 18 = .ok (.aload_n 0, 1) := by decide +kernel
theorem dX8_wantSlip_19 : decode cX8_wantSlip 19 = .ok (.aload_n 0, 1) := by decide +kernel
theorem dX8_wantSlip_20 : decode cX8_wantSlip 20 = .ok (.getfield 229, 3) := by decide +kernel
theorem dX8_wantSlip_23 : decode cX8_wantSlip 23 = .ok (.ifCond .eq 17, 3) := by decide +kernel
theorem dX8_wantSlip_26 : decode cX8_wantSlip 26 = .ok (.aload_n 0, 1) := by decide +kernel
theorem dX8_wantSlip_27 : decode cX8_wantSlip 27 = .ok (.ldc2_w 249, 3) := by decide +kernel
theorem dX8_wantSlip_30 : decode cX8_wantSlip 30 = .ok (.invokevirtual 215, 3) := by decide +kernel
theorem dX8_wantSlip_33 : decode cX8_wantSlip 33 = .ok (.ifCond .eq 7, 3) := by decide +kernel
theorem dX8_wantSlip_36 : decode cX8_wantSlip 36 = .ok (.iconst 1, 1) := by decide +kernel
theorem dX8_wantSlip_37 : decode cX8_wantSlip 37 = .ok (.goto 4, 3) := by decide +kernel
theorem dX8_wantSlip_40 : decode cX8_wantSlip 40 = .ok (.iconst 0, 1) := by decide +kernel
theorem dX8_wantSlip_41 : decode cX8_wantSlip 41 = .ok (.putfield 229, 3) := by decide +kernel
theorem dX8_wantSlip_44 : decode cX8_wantSlip 44 = .ok (.aload_n 0, 1) := by decide +kernel
theorem dX8_wantSlip_45 : decode cX8_wantSlip 45 = .ok (.getfield 229, 3) := by decide +kernel
theorem dX8_wantSlip_48 : decode cX8_wantSlip 48 = .ok (.ifCond .ne 4, 3) := by decide +kernel
theorem dX8_wantSlip_51 : decode cX8_wantSlip 51 = .ok (.return_, 1) := by decide +kernel
theorem dX8_wantSlip_52 : decode cX8_wantSlip 52 = .ok (.aload_n 0, 1) := by decide +kernel
theorem dX8_wantSlip_53 : decode cX8_wantSlip 53 = .ok (.invokevirtual 233, 3) := by decide +kernel
theorem dX8_wantSlip_56 : decode cX8_wantSlip 56 = .ok (.aload_n 0, 1) := by decide +kernel
theorem dX8_wantSlip_57 : decode cX8_wantSlip 57 = .ok (.iconst 0, 1) := by decide +kernel
theorem dX8_wantSlip_58 : decode cX8_wantSlip 58 = .ok (.aload_n 0, 1) := by decide +kernel
theorem dX8_wantSlip_59 : decode cX8_wantSlip 59 = .ok (.getfield 7, 3) := by decide +kernel
theorem dX8_wantSlip_62 : decode cX8_wantSlip 62 = .ok (.iconst 2, 1) := by decide +kernel
theorem dX8_wantSlip_63 : decode cX8_wantSlip 63 = .ok (.iaload, 1) := by decide +kernel
theorem dX8_wantSlip_64 : decode cX8_wantSlip 64 = .ok (.iconst 1, 1) := by decide +kernel
theorem dX8_wantSlip_65 : decode cX8_wantSlip 65 = .ok (.isub, 1) := by decide +kernel
theorem dX8_wantSlip_66 : decode cX8_wantSlip 66 = .ok (.invokevirtual 236, 3) := by decide +kernel
theorem dX8_wantSlip_69 : decode cX8_wantSlip 69 = .ok (.istore_n 2, 1) := by decide +kernel
theorem dX8_wantSlip_70 : decode cX8_wantSlip 70 = .ok (.aload_n 0, 1) := by decide +kernel
theorem dX8_wantSlip_71 : decode cX8_wantSlip 71 = .ok (.getfield 229, 3) := by decide +kernel
theorem dX8_wantSlip_74 : decode cX8_wantSlip 74 = .ok (.ifCond .eq 13, 3) := by decide +kernel
theorem dX8_wantSlip_77 : decode cX8_wantSlip 77 = .ok (.aload_n 0, 1) := by decide +kernel
theorem dX8_wantSlip_78 : decode cX8_wantSlip 78 = .ok (.iload_n 1, 1) := by decide +kernel
theorem dX8_wantSlip_79 : decode cX8_wantSlip 79 = .ok (.aload_n 0, 1) := by decide +kernel
theorem dX8_wantSlip_80 : decode cX8_wantSlip 80 = .ok (.iload_n 2, 1) := by decide +kernel
theorem dX8_wantSlip_81 : decode cX8_wantSlip 81 = .ok (.invokevirtual 155, 3) := by decide +kernel
theorem dX8_wantSlip_84 : decode cX8_wantSlip 84 = .ok (.invokevirtual 107, 3) := by decide +kernel
theorem dX8_wantSlip_87 : decode cX8_wantSlip 87 = .ok (.return_, 1) := by decide +kernel
theorem dX8_wantItem_0 : decode cX8_wantItem 0 = .ok (.aload_n 0, 1) := by decide +kernel
theorem dX8_wantItem_1 : decode cX8_wantItem 1 = .ok (.invokevirtual 251, 3) := by decide +kernel
theorem dX8_wantItem_4 : decode cX8_wantItem 4 = .ok (.ifCond .lt 14, 3) := by decide +kernel
theorem dX8_wantItem_7 : decode cX8_wantItem 7 = .ok (.aload_n 0, 1) := by decide +kernel
theorem dX8_wantItem_8 : decode cX8_wantItem 8 = .ok (.aload_n 0, 1) := by decide +kernel
theorem dX8_wantItem_9 : decode cX8_wantItem 9 = .ok (.invokevirtual 251, 3) := by decide +kernel
theorem dX8_wantItem_12 : decode cX8_wantItem 12 = .ok (.invokevirtual 254, 3) := by decide +kernel
theorem dX8_wantItem_15 : decode cX8_wantItem 15 = .ok (.goto 25, 3) := by decide +kernel
theorem dX8_wantItem_18 : decode cX8_wantItem 18 = .ok (.aload_n 0, 1) := by decide +kernel
theorem dX8_wantItem_19 : decode cX8_wantItem 19 = .ok (.ldc2_w 258, 3) := by decide +kernel
theorem dX8_wantItem_22 : decode cX8_wantItem 22 = .ok (.invokevirtual 215, 3) := by decide +kernel
theorem dX8_wantItem_25 : decode cX8_wantItem 25 = .ok (.ifCond .eq 10, 3) := by decide +kernel
theorem dX8_wantItem_28 : decode cX8_wantItem 28 = .ok (.aload_n 0, 1) := by decide +kernel
theorem dX8_wantItem_29 : decode cX8_wantItem 29 = .ok (.invokevirtual 260, 3) := by decide +kernel
theorem dX8_wantItem_32 : decode cX8_wantItem 32 = .ok (.goto 8, 3) := by decide +kernel
theorem dX8_wantItem_35 : decode cX8_wantItem 35 = .ok (.aload_n 0, 1) := by decide +kernel
theorem dX8_wantItem_36 : decode cX8_wantItem 36 = .ok (.iconst 0, 1) := by decide +kernel
theorem dX8_wantItem_37 : decode cX8_wantItem 37 = .ok (.putfield 229, 3) := by decide +kernel
theorem dX8_wantItem_40 : decode cX8_wantItem 40 = .ok (.return_, 1) := by decide +kernel
theorem dX8_village_0 : decode cX8_village 0 = .ok (.aload_n 0, 1) := by decide +kernel
theorem dX8_village_1 : decode cX8_village 1 = .ok (.iconst 1, 1) := by decide +kernel
theorem dX8_village_2 : decode cX8_village 2 = .ok (.aload_n 0, 1) := by decide +kernel
theorem dX8_village_3 : decode cX8_village 3 = .ok (.getfield 53, 3) := by decide +kernel
theorem dX8_village_6 : decode cX8_village 6 = .ok (.invokevirtual 161, 3) := by decide +kernel
theorem dX8_village_9 : decode cX8_village 9 = .ok (.aload_n 0, 1) := by decide +kernel
theorem dX8_village_10 : decode cX8_village 10 = .ok (.iconst 0, 1) := by decide +kernel
theorem dX8_village_11 : decode cX8_village 11 = .ok (.putfield 182, 3) := by decide +kernel
theorem dX8_village_14 : decode cX8_village 14 = .ok (.aload_n 0, 1) := by decide +kernel
theorem dX8_village_15 : decode cX8_village 15 = .ok (.iconst 1, 1) := by decide +kernel
theorem dX8_village_16 : decode cX8_village 16 = .ok (.putfield 229, 3) := by decide +kernel
theorem dX8_village_19 : decode cX8_village 19 = .ok (.iconst 0, 1) := by decide +kernel
theorem dX8_village_20 : decode cX8_village 20 = .ok (.istore_n 1, 1) := by decide +kernel
theorem dX8_village_21 : decode cX8_village 21 = .ok (.iconst 1, 1) := by decide +kernel
theorem dX8_village_22 : decode cX8_village 22 = .ok (.istore_n 2, 1) := by decide +kernel
theorem dX8_village_23 : decode cX8_village 23 = .ok (.iload_n 2, 1) := by decide +kernel
theorem dX8_village_24 : decode cX8_village 24 = .ok (.ifCond .eq 47, 3) := by decide +kernel
theorem dX8_village_27 : decode cX8_village 27 = .ok (.aload_n 0, 1) := by decide +kernel
theorem dX8_village_28 : decode cX8_village 28 = .ok (.invokevirtual 233, 3) := by decide +kernel
theorem dX8_village_31 : decode cX8_village 31 = .ok (.aload_n 0, 1) := by decide +kernel
theorem dX8_village_32 : decode cX8_village 32 = .ok (.invokevirtual 263, 3) := by decide +kernel
theorem dX8_village_35 : decode cX8_village 35 = .ok (.iinc 1 1, 3) := by decide +kernel
theorem dX8_village_38 : decode cX8_village 38 = .ok (.aload_n 0, 1) := by decide +kernel
theorem dX8_village_39 : decode cX8_village 39 = .ok (.getfield 229, 3) := by decide +kernel
theorem dX8_village_42 : decode cX8_village 42 = .ok (.ifCond .eq 24, 3) := by decide +kernel
theorem dX8_village_45 : decode cX8_village 45 = .ok (.aload_n 0, 1) := by decide +kernel
theorem dX8_village_46 : decode cX8_village 46 = .ok (.getfield 197, 3) := by decide +kernel
theorem dX8_village_49 : decode cX8_village 49 = .ok (.iconst 3, 1) := by decide +kernel
theorem dX8_village_50 : decode cX8_village 50 = .ok (.if_icmp .ne 16, 3) := by decide +kernel
theorem dX8_village_53 : decode cX8_village 53 = .ok (.aload_n 0, 1) := by decide +kernel
theorem dX8_village_54 : decode cX8_village 54 = .ok (.getfield 204, 3) := by decide +kernel
theorem dX8_village_57 : decode cX8_village 57 = .ok (.bipush 59, 2) := by decide +kernel
theorem dX8_village_59 : decode cX8_village 59 = .ok (.if_icmp .ne 7, 3) := by decide +kernel
theorem dX8_village_62 : decode cX8_village 62 = .ok (.iconst 1, 1) := by decide +kernel
theorem dX8_village_63 : decode cX8_village 63 = .ok (.goto 4, 3) := by decide +kernel
theorem dX8_village_66 : decode cX8_village 66 = .ok (.iconst 0, 1) := by decide +kernel
theorem dX8_village_67 : decode cX8_village 67 = .ok (.istore_n 2, 1) := by decide +kernel
theorem dX8_village_68 : decode cX8_village 68 = .ok (.goto (-45), 3) := by decide +kernel
theorem dX8_village_71 : decode cX8_village 71 = .ok (.aload_n 0, 1) := by decide +kernel
theorem dX8_village_72 : decode cX8_village 72 = .ok (.aload_n 0, 1) := by decide +kernel
theorem dX8_village_73 : decode cX8_village 73 = .ok (.getfield 229, 3) := by decide +kernel
theorem dX8_village_76 : decode cX8_village 76 = .ok (.ifCond .eq 14, 3) := by decide +kernel
theorem dX8_village_79 : decode cX8_village 79 = .ok (.aload_n 0, 1) := by decide +kernel
theorem dX8_village_80 : decode cX8_village 80 = .ok (.getfield 197, 3) := by decide +kernel
theorem dX8_village_83 : decode cX8_village 83 = .ok (.ifCond .ne 7, 3) := by decide +kernel
theorem dX8_village_86 : decode cX8_village 86 = .ok (.iconst 1, 1) := by decide +kernel
theorem dX8_village_87 : decode cX8_village 87 = .ok (.goto 4, 3) := by decide +kernel
theorem dX8_village_90 : decode cX8_village 90 = .ok (.iconst 0, 1) := by decide +kernel
theorem dX8_village_91 : decode cX8_village 91 = .ok (.putfield 229, 3) := by decide +kernel
theorem dX8_village_94 : decode cX8_village 94 = .ok (.aload_n 0, 1) := by decide +kernel
theorem dX8_village_95 : decode cX8_village 95 = .ok (.iconst 0, 1) := by decide +kernel
theorem dX8_village_96 : decode cX8_village 96 = .ok (.putfield 178, 3) := by decide +kernel
theorem dX8_village_99 : decode cX8_village 99 = .ok (.aload_n 0, 1) := by decide +kernel
theorem dX8_village_100 : decode cX8_village 100 = .ok (.getfield 229, 3) := by decide +kernel
theorem dX8_village_103 : decode cX8_village 103 = .ok (.ifCond .ne 19, 3) := by decide +kernel
theorem dX8_village_106 : decode cX8_village 106 = .ok (.aload_n 0, 1) := by decide +kernel
theorem dX8_village_107 : decode cX8_village 107 = .ok (.iconst 0, 1) := by decide +kernel
theorem dX8_village_108 : decode cX8_village 108 = .ok (.aload_n 0, 1) := by decide +kernel
theorem dX8_village_109 : decode cX8_village 109 = .ok (.getfield 53, 3) := by decide +kernel
theorem dX8_village_112 : decode cX8_village 112 = .ok (.invokevirtual 161, 3) := by decide +kernel
theorem dX8_village_115 : decode cX8_village 115 = .ok (.iconst (-1), 1) := by decide +kernel
theorem dX8_village_116 : decode cX8_village 116 = .ok (.aload_n 0, 1) := by decide +kernel
theorem dX8_village_117 : decode cX8_village 117 = .ok (.getfield 185, 3) := by decide +kernel
theorem dX8_village_120 : decode cX8_village 120 = .ok (.isub, 1) := by decide +kernel
theorem dX8_village_121 : decode cX8_village 121 = .ok (.ireturn, 1) := by decide +kernel
theorem dX8_village_122 : decode cX8_village 122 = .ok (.iload_n 1, 1) := by decide +kernel
theorem dX8_village_123 : decode cX8_village 123 = .ok (.ireturn, 1) := by decide +kernel
theorem dX8_isSheet_0 : decode cX8_isSheet 0 = .ok (.iload_n 0, 1) := by decide +kernel
theorem dX8_isSheet_1 : decode cX8_isSheet 1 = .ok (.iconst 0, 1) := by decide +kernel
theorem dX8_isSheet_2 : decode cX8_isSheet 2 = .ok (.iconst 3, 1) := by decide +kernel
theorem dX8_isSheet_3 : decode cX8_isSheet 3 = .ok (.invokestatic 57, 3) := by decide +kernel
theorem dX8_isSheet_6 : decode cX8_isSheet 6 = .ok (.ireturn, 1) := by decide +kernel
theorem dX8_narrow_0 : decode cX8_narrow 0 = .ok (.iload_n 0, 1) := by decide +kernel
theorem dX8_narrow_1 : decode cX8_narrow 1 = .ok (.bipush 8, 2) := by decide +kernel
theorem dX8_narrow_3 : decode cX8_narrow 3 = .ok (.if_icmp .ne 13, 3) := by decide +kernel
theorem dX8_narrow_6 : decode cX8_narrow 6 = .ok (.lload_n 1, 1) := by decide +kernel
theorem dX8_narrow_7 : decode cX8_narrow 7 = .ok (.bipush 56, 2) := by decide +kernel
theorem dX8_narrow_9 : decode cX8_narrow 9 = .ok (.lshl, 1) := by decide +kernel
theorem dX8_narrow_10 : decode cX8_narrow 10 = .ok (.bipush 56, 2) := by decide +kernel
theorem dX8_narrow_12 : decode cX8_narrow 12 = .ok (.lshr, 1) := by decide +kernel
theorem dX8_narrow_13 : decode cX8_narrow 13 = .ok (.goto 20, 3) := by decide +kernel
theorem dX8_narrow_16 : decode cX8_narrow 16 = .ok (.iload_n 0, 1) := by decide +kernel
theorem dX8_narrow_17 : decode cX8_narrow 17 = .ok (.bipush 16, 2) := by decide +kernel
theorem dX8_narrow_19 : decode cX8_narrow 19 = .ok (.if_icmp .ne 13, 3) := by decide +kernel
theorem dX8_narrow_22 : decode cX8_narrow 22 = .ok (.lload_n 1, 1) := by decide +kernel
theorem dX8_narrow_23 : decode cX8_narrow 23 = .ok (.bipush 48, 2) := by decide +kernel
theorem dX8_narrow_25 : decode cX8_narrow 25 = .ok (.lshl, 1) := by decide +kernel
theorem dX8_narrow_26 : decode cX8_narrow 26 = .ok (.bipush 48, 2) := by decide +kernel
theorem dX8_narrow_28 : decode cX8_narrow 28 = .ok (.lshr, 1) := by decide +kernel
theorem dX8_narrow_29 : decode cX8_narrow 29 = .ok (.goto 4, 3) := by decide +kernel
theorem dX8_narrow_32 : decode cX8_narrow 32 = .ok (.lload_n 1, 1) := by decide +kernel
theorem dX8_narrow_33 : decode cX8_narrow 33 = .ok (.lreturn, 1) := by decide +kernel
theorem dX8_sheet_0 : decode cX8_sheet 0 = .ok (.iload_n 1, 1) := by decide +kernel
theorem dX8_sheet_1 : decode cX8_sheet 1 = .ok (.invokestatic 266, 3) := by decide +kernel
theorem dX8_sheet_4 : decode cX8_sheet 4 = .ok (.ifCond .eq 25, 3) := by decide +kernel
theorem dX8_sheet_7 : decode cX8_sheet 7 = .ok (.iload_n 2, 1) := by decide +kernel
theorem dX8_sheet_8 : decode cX8_sheet 8 = .ok (.ifCond .eq 28, 3) := by decide +kernel
theorem dX8_sheet_11 : decode cX8_sheet 11 = .ok (.iload_n 2, 1) := by decide +kernel
theorem dX8_sheet_12 : decode cX8_sheet 12 = .ok (.bipush 8, 2) := by decide +kernel
theorem dX8_sheet_14 : decode cX8_sheet 14 = .ok (.if_icmp .eq 22, 3) := by decide +kernel
theorem dX8_sheet_17 : decode cX8_sheet 17 = .ok (.iload_n 2, 1) := by decide +kernel
theorem dX8_sheet_18 : decode cX8_sheet 18 = .ok (.bipush 16, 2) := by decide +kernel
theorem dX8_sheet_20 : decode cX8_sheet 20 = .ok (.if_icmp .eq 16, 3) := by decide +kernel
theorem dX8_sheet_23 : decode cX8_sheet 23 = .ok (.iload_n 2, 1) := by decide +kernel
theorem dX8_sheet_24 : decode cX8_sheet 24 = .ok (.bipush 64, 2) := by decide +kernel
theorem dX8_sheet_26 : decode cX8_sheet 26 = .ok (.if_icmp .eq 10, 3) := by decide +kernel
theorem dX8_sheet_29 : decode cX8_sheet 29 = .ok (.aload_n 0, 1) := by decide +kernel
theorem dX8_sheet_30 : decode cX8_sheet 30 = .ok (.ldc 56, 2) := by decide +kernel
theorem dX8_sheet_32 : decode cX8_sheet 32 = .ok (.invokevirtual 83, 3) := by decide +kernel
theorem dX8_sheet_35 : decode cX8_sheet 35 = .ok (.ireturn, 1) := by decide +kernel
theorem dX8_sheet_36 : decode cX8_sheet 36 = .ok (.iload_n 3, 1) := by decide +kernel
theorem dX8_sheet_37 : decode cX8_sheet 37 = .ok (.ifCond .ge 11, 3) := by decide +kernel
theorem dX8_sheet_40 : decode cX8_sheet 40 = .ok (.aload_n 0, 1) := by decide +kernel
theorem dX8_sheet_41 : decode cX8_sheet 41 = .ok (.ldc_w 269, 3) := by decide +kernel
theorem dX8_sheet_44 : decode cX8_sheet 44 = .ok (.invokevirtual 83, 3) := by decide +kernel
theorem dX8_sheet_47 : decode cX8_sheet 47 = .ok (.ireturn, 1) := by decide +kernel
theorem dX8_sheet_48 : decode cX8_sheet 48 = .ok (.iload_n 3, 1) := by decide +kernel
theorem dX8_sheet_49 : decode cX8_sheet 49 = .ok (.bipush 40, 2) := by decide +kernel
theorem dX8_sheet_51 : decode cX8_sheet 51 = .ok (.if_icmp .le 10, 3) := by decide +kernel
theorem dX8_sheet_54 : decode cX8_sheet 54 = .ok (.aload_n 0, 1) := by decide +kernel
theorem dX8_sheet_55 : decode cX8_sheet 55 = .ok (.ldc 56, 2) := by decide +kernel
theorem dX8_sheet_57 : decode cX8_sheet 57 = .ok (.invokevirtual 83, 3) := by decide +kernel
theorem dX8_sheet_60 : decode cX8_sheet 60 = .ok (.ireturn, 1) := by decide +kernel
theorem dX8_sheet_61 : decode cX8_sheet 61 = .ok (.aload_n 0, 1) := by decide +kernel
theorem dX8_sheet_62 : decode cX8_sheet 62 = .ok (.getfield 37, 3) := by decide +kernel
theorem dX8_sheet_65 : decode cX8_sheet 65 = .ok (.iload_n 1, 1) := by decide +kernel
theorem dX8_sheet_66 : decode cX8_sheet 66 = .ok (.iload_n 2, 1) := by decide +kernel
theorem dX8_sheet_67 : decode cX8_sheet 67 = .ok (.iastore, 1) := by decide +kernel
theorem dX8_sheet_68 : decode cX8_sheet 68 = .ok (.aload_n 0, 1) := by decide +kernel
theorem dX8_sheet_69 : decode cX8_sheet 69 = .ok (.getfield 40, 3) := by decide +kernel
theorem dX8_sheet_72 : decode cX8_sheet 72 = .ok (.iload_n 1, 1) := by decide +kernel
theorem dX8_sheet_73 : decode cX8_sheet 73 = .ok (.iload_n 2, 1) := by decide +kernel
theorem dX8_sheet_74 : decode cX8_sheet 74 = .ok (.ifCond .ne 7, 3) := by decide +kernel
theorem dX8_sheet_77 : decode cX8_sheet 77 = .ok (.iconst 0, 1) := by decide +kernel
theorem dX8_sheet_78 : decode cX8_sheet 78 = .ok (.goto 4, 3) := by decide +kernel
theorem dX8_sheet_81 : decode cX8_sheet 81 = .ok (.iload_n 3, 1) := by decide +kernel
theorem dX8_sheet_82 : decode cX8_sheet 82 = .ok (.iastore, 1) := by decide +kernel
theorem dX8_sheet_83 : decode cX8_sheet 83 = .ok (.iconst 0, 1) := by decide +kernel
theorem dX8_sheet_84 : decode cX8_sheet 84 = .ok (.istore 4, 2) := by decide +kernel
theorem dX8_sheet_86 : decode cX8_sheet 86 = .ok (.iload 4, 2) := by decide +kernel
theorem dX8_sheet_88 : decode cX8_sheet 88 = .ok (.bipush 40, 2) := by decide +kernel
theorem dX8_sheet_90 : decode cX8_sheet 90 = .ok (.if_icmp .ge 22, 3) := by decide +kernel
theorem dX8_sheet_93 : decode cX8_sheet 93 = .ok (.aload_n 0, 1) := by decide +kernel
theorem dX8_sheet_94 : decode cX8_sheet 94 = .ok (.getfield 43, 3) := by decide +kernel
theorem dX8_sheet_97 : decode cX8_sheet 97 = .ok (.bipush 40, 2) := by decide +kernel
theorem dX8_sheet_99 : decode cX8_sheet 99 = .ok (.iload_n 1, 1) := by decide +kernel
theorem dX8_sheet_100 : decode cX8_sheet 100 = .ok (.imul, 1) := by decide +kernel
theorem dX8_sheet_101 : decode cX8_sheet 101 = .ok (.iload 4, 2) := by decide +kernel
theorem dX8_sheet_103 : decode cX8_sheet 103 = .ok (.iadd, 1) := by decide +kernel
theorem dX8_sheet_104 : decode cX8_sheet 104 = .ok (.lconst 0, 1) := by decide +kernel
theorem dX8_sheet_105 : decode cX8_sheet 105 = .ok (.lastore, 1) := by decide +kernel
theorem dX8_sheet_106 : decode cX8_sheet 106 = .ok (.iinc 4 1, 3) := by decide +kernel
theorem dX8_sheet_109 : decode cX8_sheet 109 = .ok (.goto (-23), 3) := by decide +kernel
theorem dX8_sheet_112 : decode cX8_sheet 112 = .ok (.aload_n 0, 1) := by decide +kernel
theorem dX8_sheet_113 : decode cX8_sheet 113 = .ok (.getfield 40, 3) := by decide +kernel
theorem dX8_sheet_116 : decode cX8_sheet 116 = .ok (.iload_n 1, 1) := by decide +kernel
theorem dX8_sheet_117 : decode cX8_sheet 117 = .ok (.iaload, 1) := by decide +kernel
theorem dX8_sheet_118 : decode cX8_sheet 118 = .ok (.ireturn, 1) := by decide +kernel
theorem dX8_write_0 : decode cX8_write 0 = .ok (.iload_n 1, 1) := by decide +kernel
theorem dX8_write_1 : decode cX8_write 1 = .ok (.invokestatic 266, 3) := by decide +kernel
theorem dX8_write_4 : decode cX8_write 4 = .ok (.ifCond .ne 11, 3) := by decide +kernel
theorem dX8_write_7 : decode cX8_write 7 = .ok (.aload_n 0, 1) := by decide +kernel
theorem dX8_write_8 : decode cX8_write 8 = .ok (.ldc 56, 2) := by decide +kernel
theorem dX8_write_10 : decode cX8_write 10 = .ok (.invokevirtual 83, 3) := by decide +kernel
theorem dX8_write_13 : decode cX8_write 13 = .ok (.i2l, 1) := by decide +kernel
theorem dX8_write_14 : decode cX8_write 14 = .ok (.lreturn, 1) := by decide +kernel
theorem dX8_write_15 : decode cX8_write 15 = .ok (.aload_n 0, 1) := by decide +kernel
theorem dX8_write_16 : decode cX8_write 16 = .ok (.getfield 37, 3) := by decide +kernel
theorem dX8_write_19 : decode cX8_write 19 = .ok (.iload_n 1, 1) := by decide +kernel
theorem dX8_write_20 : decode cX8_write 20 = .ok (.iaload, 1) := by decide +kernel
theorem dX8_write_21 : decode cX8_write 21 = .ok (.ifCond .ne 12, 3) := by decide +kernel
theorem dX8_write_24 : decode cX8_write 24 = .ok (.aload_n 0, 1) := by decide +kernel
theorem dX8_write_25 : decode cX8_write 25 = .ok (.ldc_w 270, 3) := by decide +kernel
theorem dX8_write_28 : decode cX8_write 28 = .ok (.invokevirtual 83, 3) := by decide +kernel
theorem dX8_write_31 : decode cX8_write 31 = .ok (.i2l, 1) := by decide +kernel
theorem dX8_write_32 : decode cX8_write 32 = .ok (.lreturn, 1) := by decide +kernel
theorem dX8_write_33 : decode cX8_write 33 = .ok (.iload_n 2, 1) := by decide +kernel
theorem dX8_write_34 : decode cX8_write 34 = .ok (.iconst 0, 1) := by decide +kernel
theorem dX8_write_35 : decode cX8_write 35 = .ok (.aload_n 0, 1) := by decide +kernel
theorem dX8_write_36 : decode cX8_write 36 = .ok (.getfield 40, 3) := by decide +kernel
theorem dX8_write_39 : decode cX8_write 39 = .ok (.iload_n 1, 1) := by decide +kernel
theorem dX8_write_40 : decode cX8_write 40 = .ok (.iaload, 1) := by decide +kernel
theorem dX8_write_41 : decode cX8_write 41 = .ok (.iconst 1, 1) := by decide +kernel
theorem dX8_write_42 : decode cX8_write 42 = .ok (.isub, 1) := by decide +kernel
theorem dX8_write_43 : decode cX8_write 43 = .ok (.invokestatic 57, 3) := by decide +kernel
theorem dX8_write_46 : decode cX8_write 46 = .ok (.ifCond .ne 11, 3) := by decide +kernel
theorem dX8_write_49 : decode cX8_write 49 = .ok (.aload_n 0, 1) := by decide +kernel
theorem dX8_write_50 : decode cX8_write 50 = .ok (.ldc 56, 2) := by decide +kernel
theorem dX8_write_52 : decode cX8_write 52 = .ok (.invokevirtual 83, 3) := by decide +kernel
theorem dX8_write_55 : decode cX8_write 55 = .ok (.i2l, 1) := by decide +kernel
theorem dX8_write_56 : decode cX8_write 56 = .ok (.lreturn, 1) := by decide +kernel
theorem dX8_write_57 : decode cX8_write 57 = .ok (.aload_n 0, 1) := by decide +kernel
theorem dX8_write_58 : decode cX8_write 58 = .ok (.getfield 43, 3) := by decide +kernel
theorem dX8_write_61 : decode cX8_write 61 = .ok (.bipush 40, 2) := by decide +kernel
theorem dX8_write_63 : decode cX8_write 63 = .ok (.iload_n 1, 1) := by decide +kernel
theorem dX8_write_64 : decode cX8_write 64 = .ok (.imul, 1) := by decide +kernel
theorem dX8_write_65 : decode cX8_write 65 = .ok (.iload_n 2, 1) := by decide +kernel
theorem dX8_write_66 : decode cX8_write 66 = .ok (.iadd, 1) := by decide +kernel
theorem dX8_write_67 : decode cX8_write 67 = .ok (.laload, 1) := by decide +kernel
theorem dX8_write_68 : decode cX8_write 68 = .ok (.lstore 5, 2) := by decide +kernel
theorem dX8_write_70 : decode cX8_write 70 = .ok (.aload_n 0, 1) := by decide +kernel
theorem dX8_write_71 : decode cX8_write 71 = .ok (.getfield 43, 3) := by decide +kernel
theorem dX8_write_74 : decode cX8_write 74 = .ok (.bipush 40, 2) := by decide +kernel
theorem dX8_write_76 : decode cX8_write 76 = .ok (.iload_n 1, 1) := by decide +kernel
theorem dX8_write_77 : decode cX8_write 77 = .ok (.imul, 1) := by decide +kernel
theorem dX8_write_78 : decode cX8_write 78 = .ok (.iload_n 2, 1) := by decide +kernel
theorem dX8_write_79 : decode cX8_write 79 = .ok (.iadd, 1) := by decide +kernel
theorem dX8_write_80 : decode cX8_write 80 = .ok (.aload_n 0, 1) := by decide +kernel
theorem dX8_write_81 : decode cX8_write 81 = .ok (.getfield 37, 3) := by decide +kernel
theorem dX8_write_84 : decode cX8_write 84 = .ok (.iload_n 1, 1) := by decide +kernel
theorem dX8_write_85 : decode cX8_write 85 = .ok (.iaload, 1) := by decide +kernel
theorem dX8_write_86 : decode cX8_write 86 = .ok (.lload_n 3, 1) := by decide +kernel
theorem dX8_write_87 : decode cX8_write 87 = .ok (.invokestatic 271, 3) := by decide +kernel
theorem dX8_write_90 : decode cX8_write 90 = .ok (.lastore, 1) := by decide +kernel
theorem dX8_write_91 : decode cX8_write 91 = .ok (.lload 5, 2) := by decide +kernel
theorem dX8_write_93 : decode cX8_write 93 = .ok (.lreturn, 1) := by decide +kernel
theorem dX8_isPart_0 : decode cX8_isPart 0 = .ok (.iload_n 2, 1) := by decide +kernel
theorem dX8_isPart_1 : decode cX8_isPart 1 = .ok (.ifCond .lt 33, 3) := by decide +kernel
theorem dX8_isPart_4 : decode cX8_isPart 4 = .ok (.iload_n 3, 1) := by decide +kernel
theorem dX8_isPart_5 : decode cX8_isPart 5 = .ok (.ifCond .lt 29, 3) := by decide +kernel
theorem dX8_isPart_8 : decode cX8_isPart 8 = .ok (.iload_n 3, 1) := by decide +kernel
theorem dX8_isPart_9 : decode cX8_isPart 9 = .ok (.aload_n 0, 1) := by decide +kernel
theorem dX8_isPart_10 : decode cX8_isPart 10 = .ok (.getfield 40, 3) := by decide +kernel
theorem dX8_isPart_13 : decode cX8_isPart 13 = .ok (.iload_n 1, 1) := by decide +kernel
theorem dX8_isPart_14 : decode cX8_isPart 14 = .ok (.iaload, 1) := by decide +kernel
theorem dX8_isPart_15 : decode cX8_isPart 15 = .ok (.if_icmp .gt 19, 3) := by decide +kernel
theorem dX8_isPart_18 : decode cX8_isPart 18 = .ok (.iload_n 2, 1) := by decide +kernel
theorem dX8_isPart_19 : decode cX8_isPart 19 = .ok (.aload_n 0, 1) := by decide +kernel
theorem dX8_isPart_20 : decode cX8_isPart 20 = .ok (.getfield 40, 3) := by decide +kernel
theorem dX8_isPart_23 : decode cX8_isPart 23 = .ok (.iload_n 1, 1) := by decide +kernel
theorem dX8_isPart_24 : decode cX8_isPart 24 = .ok (.iaload, 1) := by decide +kernel
theorem dX8_isPart_25 : decode cX8_isPart 25 = .ok (.iload_n 3, 1) := by decide +kernel
theorem dX8_isPart_26 : decode cX8_isPart 26 = .ok (.isub, 1) := by decide +kernel
theorem dX8_isPart_27 : decode cX8_isPart 27 = .ok (.if_icmp .gt 7, 3) := by decide +kernel
theorem dX8_isPart_30 : decode cX8_isPart 30 = .ok (.iconst 1, 1) := by decide +kernel
theorem dX8_isPart_31 : decode cX8_isPart 31 = .ok (.goto 4, 3) := by decide +kernel
theorem dX8_isPart_34 : decode cX8_isPart 34 = .ok (.iconst 0, 1) := by decide +kernel
theorem dX8_isPart_35 : decode cX8_isPart 35 = .ok (.ireturn, 1) := by decide +kernel
theorem dX8_copy_0 : decode cX8_copy 0 = .ok (.iload_n 1, 1) := by decide +kernel
theorem dX8_copy_1 : decode cX8_copy 1 = .ok (.invokestatic 266, 3) := by decide +kernel
theorem dX8_copy_4 : decode cX8_copy 4 = .ok (.ifCond .eq 10, 3) := by decide +kernel
theorem dX8_copy_7 : decode cX8_copy 7 = .ok (.iload_n 3, 1) := by decide +kernel
theorem dX8_copy_8 : decode cX8_copy 8 = .ok (.invokestatic 266, 3) := by decide +kernel
theorem dX8_copy_11 : decode cX8_copy 11 = .ok (.ifCond .ne 10, 3) := by decide +kernel
theorem dX8_copy_14 : decode cX8_copy 14 = .ok (.aload_n 0, 1) := by decide +kernel
theorem dX8_copy_15 : decode cX8_copy 15 = .ok (.ldc 56, 2) := by decide +kernel
theorem dX8_copy_17 : decode cX8_copy 17 = .ok (.invokevirtual 83, 3) := by decide +kernel
theorem dX8_copy_20 : decode cX8_copy 20 = .ok (.ireturn, 1) := by decide +kernel
theorem dX8_copy_21 : decode cX8_copy 21 = .ok (.aload_n 0, 1) := by decide +kernel
theorem dX8_copy_22 : decode cX8_copy 22 = .ok (.getfield 37, 3) := by decide +kernel
theorem dX8_copy_25 : decode cX8_copy 25 = .ok (.iload_n 1, 1) := by decide +kernel
theorem dX8_copy_26 : decode cX8_copy 26 = .ok (.iaload, 1) := by decide +kernel
theorem dX8_copy_27 : decode cX8_copy 27 = .ok (.ifCond .eq 12, 3) := by decide +kernel
theorem dX8_copy_30 : decode cX8_copy 30 = .ok (.aload_n 0, 1) := by decide +kernel
theorem dX8_copy_31 : decode cX8_copy 31 = .ok (.getfield 37, 3) := by decide +kernel
theorem dX8_copy_34 : decode cX8_copy 34 = .ok (.iload_n 3, 1) := by decide +kernel
theorem dX8_copy_35 : decode cX8_copy 35 = .ok (.iaload, 1) := by decide +kernel
theorem dX8_copy_36 : decode cX8_copy 36 = .ok (.ifCond .ne 11, 3) := by decide +kernel
theorem dX8_copy_39 : decode cX8_copy 39 = .ok (.aload_n 0, 1) := by decide +kernel
theorem dX8_copy_40 : decode cX8_copy 40 = .ok (.ldc_w 270, 3) := by decide +kernel
theorem dX8_copy_43 : decode cX8_copy 43 = .ok (.invokevirtual 83, 3) := by decide +kernel
theorem dX8_copy_46 : decode cX8_copy 46 = .ok (.ireturn, 1) := by decide +kernel
theorem dX8_copy_47 : decode cX8_copy 47 = .ok (.aload_n 0, 1) := by decide +kernel
theorem dX8_copy_48 : decode cX8_copy 48 = .ok (.getfield 37, 3) := by decide +kernel
theorem dX8_copy_51 : decode cX8_copy 51 = .ok (.iload_n 1, 1) := by decide +kernel
theorem dX8_copy_52 : decode cX8_copy 52 = .ok (.iaload, 1) := by decide +kernel
theorem dX8_copy_53 : decode cX8_copy 53 = .ok (.aload_n 0, 1) := by decide +kernel
theorem dX8_copy_54 : decode cX8_copy 54 = .ok (.getfield 37, 3) := by decide +kernel
theorem dX8_copy_57 : decode cX8_copy 57 = .ok (.iload_n 3, 1) := by decide +kernel
theorem dX8_copy_58 : decode cX8_copy 58 = .ok (.iaload, 1) := by decide +kernel
theorem dX8_copy_59 : decode cX8_copy 59 = .ok (.if_icmp .eq 10, 3) := by decide +kernel
theorem dX8_copy_62 : decode cX8_copy 62 = .ok (.aload_n 0, 1) := by decide +kernel
theorem dX8_copy_63 : decode cX8_copy 63 = .ok (.ldc 101, 2) := by decide +kernel
theorem dX8_copy_65 : decode cX8_copy 65 = .ok (.invokevirtual 83, 3) := by decide +kernel
theorem dX8_copy_68 : decode cX8_copy 68 = .ok (.ireturn, 1) := by decide +kernel
theorem dX8_copy_69 : decode cX8_copy 69 = .ok (.aload_n 0, 1) := by decide +kernel
theorem dX8_copy_70 : decode cX8_copy 70 = .ok (.iload_n 1, 1) := by decide +kernel
theorem dX8_copy_71 : decode cX8_copy 71 = .ok (.iload_n 2, 1) := by decide +kernel
theorem dX8_copy_72 : decode cX8_copy 72 = .ok (.iload 5, 2) := by decide +kernel
theorem dX8_copy_74 : decode cX8_copy 74 = .ok (.invokevirtual 275, 3) := by decide +kernel
theorem dX8_copy_77 : decode cX8_copy 77 = .ok (.ifCond .eq 15, 3) := by decide +kernel
theorem dX8_copy_80 : decode cX8_copy 80 = .ok (.aload_n 0, 1) := by decide +kernel
theorem dX8_copy_81 : decode cX8_copy 81 = .ok (.iload_n 3, 1) := by decide +kernel
theorem dX8_copy_82 : decode cX8_copy 82 = .ok (.iload 4, 2) := by decide +kernel
theorem dX8_copy_84 : decode cX8_copy 84 = .ok (.iload 5, 2) := by decide +kernel
theorem dX8_copy_86 : decode cX8_copy 86 = .ok (.invokevirtual 275, 3) := by decide +kernel
theorem dX8_copy_89 : decode cX8_copy 89 = .ok (.ifCond .ne 10, 3) := by decide +kernel
theorem dX8_copy_92 : decode cX8_copy 92 = .ok (.aload_n 0, 1) := by decide +kernel
theorem dX8_copy_93 : decode cX8_copy 93 = .ok (.ldc 56, 2) := by decide +kernel
theorem dX8_copy_95 : decode cX8_copy 95 = .ok (.invokevirtual 83, 3) := by decide +kernel
theorem dX8_copy_98 : decode cX8_copy 98 = .ok (.ireturn, 1) := by decide +kernel
theorem dX8_copy_99 : decode cX8_copy 99 = .ok (.iconst 0, 1) := by decide +kernel
theorem dX8_copy_100 : decode cX8_copy 100 = .ok (.istore 6, 2) := by decide +kernel
theorem dX8_copy_102 : decode cX8_copy 102 = .ok (.iload 6, 2) := by decide +kernel
theorem dX8_copy_104 : decode cX8_copy 104 = .ok (.iload 5, 2) := by decide +kernel
theorem dX8_copy_106 : decode cX8_copy 106 = .ok (.if_icmp .ge 30, 3) := by decide +kernel
theorem dX8_copy_109 : decode cX8_copy 109 = .ok (.aload_n 0, 1) := by decide +kernel
theorem dX8_copy_110 : decode cX8_copy 110 = .ok (.getfield 47, 3) := by decide +kernel
theorem dX8_copy_113 : decode cX8_copy 113 = .ok (.iload 6, 2) := by decide +kernel
theorem dX8_copy_115 : decode cX8_copy 115 = .ok (.aload_n 0, 1) := by decide +kernel
theorem dX8_copy_116 : decode cX8_copy 116 = .ok (.getfield 43, 3) := by decide +kernel
theorem dX8_copy_119 : decode cX8_copy 119 = .ok (.bipush 40, 2) := by decide +kernel
theorem dX8_copy_121 : decode cX8_copy 121 = .ok (.iload_n 1, 1) := by decide +kernel
theorem dX8_copy_122 : decode cX8_copy 122 = .ok (.imul, 1) := by decide +kernel
theorem dX8_copy_123 : decode cX8_copy 123 = .ok (.iload_n 2, 1) := by decide +kernel
theorem dX8_copy_124 : decode cX8_copy 124 = .ok (.iadd, 1) := by decide +kernel
theorem dX8_copy_125 : decode cX8_copy 125 = .ok (.iload 6, 2) := by decide +kernel
theorem dX8_copy_127 : decode cX8_copy 127 = .ok (.iadd, 1) := by decide +kernel
theorem dX8_copy_128 : decode cX8_copy 128 = .ok (.laload, 1) := by decide +kernel
theorem dX8_copy_129 : decode cX8_copy 129 = .ok (.lastore, 1) := by decide +kernel
theorem dX8_copy_130 : decode cX8_copy 130 = .ok (.iinc 6 1, 3) := by decide +kernel
theorem dX8_copy_133 : decode cX8_copy 133 = .ok (.goto (-31), 3) := by decide +kernel
theorem dX8_copy_136 : decode cX8_copy 136 = .ok (.iconst 0, 1) := by decide +kernel
theorem dX8_copy_137 : decode cX8_copy 137 = .ok (.istore 6, 2) := by decide +kernel
theorem dX8_copy_139 : decode cX8_copy 139 = .ok (.iload 6, 2) := by decide +kernel
theorem dX8_copy_141 : decode cX8_copy 141 = .ok (.iload 5, 2) := by decide +kernel
theorem dX8_copy_143 : decode cX8_copy 143 = .ok (.if_icmp .ge 31, 3) := by decide +kernel
theorem dX8_copy_146 : decode cX8_copy 146 = .ok (.aload_n 0, 1) := by decide +kernel
theorem dX8_copy_147 : decode cX8_copy 147 = .ok (.getfield 43, 3) := by decide +kernel
theorem dX8_copy_150 : decode cX8_copy 150 = .ok (.bipush 40, 2) := by decide +kernel
theorem dX8_copy_152 : decode cX8_copy 152 = .ok (.iload_n 3, 1) := by decide +kernel
theorem dX8_copy_153 : decode cX8_copy 153 = .ok (.imul, 1) := by decide +kernel
theorem dX8_copy_154 : decode cX8_copy 154 = .ok (.iload 4, 2) := by decide +kernel
theorem dX8_copy_156 : decode cX8_copy 156 = .ok (.iadd, 1) := by decide +kernel
theorem dX8_copy_157 : decode cX8_copy 157 = .ok (.iload 6, 2) := by decide +kernel
theorem dX8_copy_159 : decode cX8_copy 159 = .ok (.iadd, 1) := by decide +kernel
theorem dX8_copy_160 : decode cX8_copy 160 = .ok (.aload_n 0, 1) := by decide +kernel
theorem dX8_copy_161 : decode cX8_copy 161 = .ok (.getfield 47, 3) := by decide +kernel
theorem dX8_copy_164 : decode cX8_copy 164 = .ok (.iload 6, 2) := by decide +kernel
theorem dX8_copy_166 : decode cX8_copy 166 = .ok (.laload, 1) := by decide +kernel
theorem dX8_copy_167 : decode cX8_copy 167 = .ok (.lastore, 1) := by decide +kernel
theorem dX8_copy_168 : decode cX8_copy 168 = .ok (.iinc 6 1, 3) := by decide +kernel
theorem dX8_copy_171 : decode cX8_copy 171 = .ok (.goto (-32), 3) := by decide +kernel
theorem dX8_copy_174 : decode cX8_copy 174 = .ok (.iload 5, 2) := by decide +kernel
theorem dX8_copy_176 : decode cX8_copy 176 = .ok (.ireturn, 1) := by decide +kernel
theorem dX8_badSheet_0 : decode cX8_badSheet 0 = .ok (.iload_n 1, 1) := by decide +kernel
theorem dX8_badSheet_1 : decode cX8_badSheet 1 = .ok (.invokestatic 266, 3) := by decide +kernel
theorem dX8_badSheet_4 : decode cX8_badSheet 4 = .ok (.ifCond .ne 8, 3) := by decide +kernel
theorem dX8_badSheet_7 : decode cX8_badSheet 7 = .ok (.ldc 56, 2) := by decide +kernel
theorem dX8_badSheet_9 : decode cX8_badSheet 9 = .ok (.goto 19, 3) := by decide +kernel
theorem dX8_badSheet_12 : decode cX8_badSheet 12 = .ok (.aload_n 0, 1) := by decide +kernel
theorem dX8_badSheet_13 : decode cX8_badSheet 13 = .ok (.getfield 37, 3) := by decide +kernel
theorem dX8_badSheet_16 : decode cX8_badSheet 16 = .ok (.iload_n 1, 1) := by decide +kernel
theorem dX8_badSheet_17 : decode cX8_badSheet 17 = .ok (.iaload, 1) := by decide +kernel
theorem dX8_badSheet_18 : decode cX8_badSheet 18 = .ok (.ifCond .ne 9, 3) := by decide +kernel
theorem dX8_badSheet_21 : decode cX8_badSheet 21 = .ok (.ldc_w 270, 3) := by decide +kernel
theorem dX8_badSheet_24 : decode cX8_badSheet 24 = .ok (.goto 4, 3) := by decide +kernel
theorem dX8_badSheet_27 : decode cX8_badSheet 27 = .ok (.iconst 0, 1) := by decide +kernel
theorem dX8_badSheet_28 : decode cX8_badSheet 28 = .ok (.ireturn, 1) := by decide +kernel
theorem dX8_lays_0 : decode cX8_lays 0 = .ok (.aload_n 0, 1) := by decide +kernel
theorem dX8_lays_1 : decode cX8_lays 1 = .ok (.iload_n 1, 1) := by decide +kernel
theorem dX8_lays_2 : decode cX8_lays 2 = .ok (.invokevirtual 278, 3) := by decide +kernel
theorem dX8_lays_5 : decode cX8_lays 5 = .ok (.istore_n 2, 1) := by decide +kernel
theorem dX8_lays_6 : decode cX8_lays 6 = .ok (.iload_n 2, 1) := by decide +kernel
theorem dX8_lays_7 : decode cX8_lays 7 = .ok (.ifCond .eq 9, 3) := by decide +kernel
theorem dX8_lays_10 : decode cX8_lays 10 = .ok (.aload_n 0, 1) := by decide +kernel
theorem dX8_lays_11 : decode cX8_lays 11 = .ok (.iload_n 2, 1) := by decide +kernel
theorem dX8_lays_12 : decode cX8_lays 12 = .ok (.invokevirtual 83, 3) := by decide +kernel
theorem dX8_lays_15 : decode cX8_lays 15 = .ok (.ireturn, 1) := by decide +kernel
theorem dX8_lays_16 : decode cX8_lays 16 = .ok (.aload_n 0, 1) := by decide +kernel
theorem dX8_lays_17 : decode cX8_lays 17 = .ok (.getfield 7, 3) := by decide +kernel
theorem dX8_lays_20 : decode cX8_lays 20 = .ok (.iconst 2, 1) := by decide +kernel
theorem dX8_lays_21 : decode cX8_lays 21 = .ok (.iaload, 1) := by decide +kernel
theorem dX8_lays_22 : decode cX8_lays 22 = .ok (.istore_n 3, 1) := by decide +kernel
theorem dX8_lays_23 : decode cX8_lays 23 = .ok (.aload_n 0, 1) := by decide +kernel
theorem dX8_lays_24 : decode cX8_lays 24 = .ok (.getfield 40, 3) := by decide +kernel
theorem dX8_lays_27 : decode cX8_lays 27 = .ok (.iload_n 1, 1) := by decide +kernel
theorem dX8_lays_28 : decode cX8_lays 28 = .ok (.iaload, 1) := by decide +kernel
theorem dX8_lays_29 : decode cX8_lays 29 = .ok (.iload_n 3, 1) := by decide +kernel
theorem dX8_lays_30 : decode cX8_lays 30 = .ok (.if_icmp .eq 11, 3) := by decide +kernel
theorem dX8_lays_33 : decode cX8_lays 33 = .ok (.aload_n 0, 1) := by decide +kernel
theorem dX8_lays_34 : decode cX8_lays 34 = .ok (.ldc_w 269, 3) := by decide +kernel
theorem dX8_lays_37 : decode cX8_lays 37 = .ok (.invokevirtual 83, 3) := by decide +kernel
theorem dX8_lays_40 : decode cX8_lays 40 = .ok (.ireturn, 1) := by decide +kernel
theorem dX8_lays_41 : decode cX8_lays 41 = .ok (.iconst 0, 1) := by decide +kernel
theorem dX8_lays_42 : decode cX8_lays 42 = .ok (.istore 4, 2) := by decide +kernel
theorem dX8_lays_44 : decode cX8_lays 44 = .ok (.iconst 1, 1) := by decide +kernel
theorem dX8_lays_45 : decode cX8_lays 45 = .ok (.istore 5, 2) := by decide +kernel
theorem dX8_lays_47 : decode cX8_lays 47 = .ok (.iconst 0, 1) := by decide +kernel
theorem dX8_lays_48 : decode cX8_lays 48 = .ok (.istore 6, 2) := by decide +kernel
theorem dX8_lays_50 : decode cX8_lays 50 = .ok (.iload 6, 2) := by decide +kernel
theorem dX8_lays_52 : decode cX8_lays 52 = .ok (.iload_n 3, 1) := by decide +kernel
theorem dX8_lays_53 : decode cX8_lays 53 = .ok (.if_icmp .ge 103, 3) := by decide +kernel
theorem dX8_lays_56 : decode cX8_lays 56 = .ok (.iload 5, 2) := by decide +kernel
theorem dX8_lays_58 : decode cX8_lays 58 = .ok (.ifCond .eq 98, 3) := by decide +kernel
theorem dX8_lays_61 : decode cX8_lays 61 = .ok (.aload_n 0, 1) := by decide +kernel
theorem dX8_lays_62 : decode cX8_lays 62 = .ok (.getfield 43, 3) := by decide +kernel
theorem dX8_lays_65 : decode cX8_lays 65 = .ok (.bipush 40, 2) := by decide +kernel
theorem dX8_lays_67 : decode cX8_lays 67 = .ok (.iload_n 1, 1) := by decide +kernel
theorem dX8_lays_68 : decode cX8_lays 68 = .ok (.imul, 1) := by decide +kernel
theorem dX8_lays_69 : decode cX8_lays 69 = .ok (.iload 6, 2) := by decide +kernel
theorem dX8_lays_71 : decode cX8_lays 71 = .ok (.iadd, 1) := by decide +kernel
theorem dX8_lays_72 : decode cX8_lays 72 = .ok (.laload, 1) := by decide +kernel
theorem dX8_lays_73 : decode cX8_lays 73 = .ok (.lstore 7, 2) := by decide +kernel
theorem dX8_lays_75 : decode cX8_lays 75 = .ok (.lload 7, 2) := by decide +kernel
theorem dX8_lays_77 : decode cX8_lays 77 = .ok (.lconst 0, 1) := by decide +kernel
theorem dX8_lays_78 : decode cX8_lays 78 = .ok (.lcmp, 1) := by decide +kernel
theorem dX8_lays_79 : decode cX8_lays 79 = .ok (.ifCond .lt 17, 3) := by decide +kernel
theorem dX8_lays_82 : decode cX8_lays 82 = .ok (.lload 7, 2) := by decide +kernel
theorem dX8_lays_84 : decode cX8_lays 84 = .ok (.iload_n 3, 1) := by decide +kernel
theorem dX8_lays_85 : decode cX8_lays 85 = .ok (.i2l, 1) := by decide +kernel
theorem dX8_lays_86 : decode cX8_lays 86 = .ok (.lcmp, 1) := by decide +kernel
theorem dX8_lays_87 : decode cX8_lays 87 = .ok (.ifCond .ge 9, 3) := by decide +kernel
theorem dX8_lays_90 : decode cX8_lays 90 = .ok (.lload 7, 2) := by decide +kernel
theorem dX8_lays_92 : decode cX8_lays 92 = .ok (.l2i, 1) := by decide +kernel
theorem dX8_lays_93 : decode cX8_lays 93 = .ok (.goto 4, 3) := by decide +kernel
theorem dX8_lays_96 : decode cX8_lays 96 = .ok (.iconst (-1), 1) := by decide +kernel
theorem dX8_lays_97 : decode cX8_lays 97 = .ok (.istore 9, 2) := by decide +kernel
theorem dX8_lays_99 : decode cX8_lays 99 = .ok (.iload 9, 2) := by decide +kernel
theorem dX8_lays_101 : decode cX8_lays 101 = .ok (.ifCond .lt 28, 3) := by decide +kernel
theorem dX8_lays_104 : decode cX8_lays 104 = .ok (.iload 4, 2) := by decide +kernel
theorem dX8_lays_106 : decode cX8_lays 106 = .ok (.iload 9, 2) := by decide +kernel
theorem dX8_lays_108 : decode cX8_lays 108 = .ok (.ishr, 1) := by decide +kernel
theorem dX8_lays_109 : decode cX8_lays 109 = .ok (.iconst 1, 1) := by decide +kernel
theorem dX8_lays_110 : decode cX8_lays 110 = .ok (.iand, 1) := by decide +kernel
theorem dX8_lays_111 : decode cX8_lays 111 = .ok (.ifCond .ne 18, 3) := by decide +kernel
theorem dX8_lays_114 : decode cX8_lays 114 = .ok (.aload_n 0, 1) := by decide +kernel
theorem dX8_lays_115 : decode cX8_lays 115 = .ok (.iload 6, 2) := by decide +kernel
theorem dX8_lays_117 : decode cX8_lays 117 = .ok (.iload 9, 2) := by decide +kernel
theorem dX8_lays_119 : decode cX8_lays 119 = .ok (.invokevirtual 102, 3) := by decide +kernel
theorem dX8_lays_122 : decode cX8_lays 122 = .ok (.ifCond .eq 7, 3) := by decide +kernel
theorem dX8_lays_125 : decode cX8_lays 125 = .ok (.iconst 1, 1) := by decide +kernel
theorem dX8_lays_126 : decode cX8_lays 126 = .ok (.goto 4, 3) := by decide +kernel
theorem dX8_lays_129 : decode cX8_lays 129 = .ok (.iconst 0, 1) := by decide +kernel
theorem dX8_lays_130 : decode cX8_lays 130 = .ok (.istore 5, 2) := by decide +kernel
theorem dX8_lays_132 : decode cX8_lays 132 = .ok (.iload 4, 2) := by decide +kernel
theorem dX8_lays_134 : decode cX8_lays 134 = .ok (.iload 5, 2) := by decide +kernel
theorem dX8_lays_136 : decode cX8_lays 136 = .ok (.ifCond .eq 10, 3) := by decide +kernel
theorem dX8_lays_139 : decode cX8_lays 139 = .ok (.iconst 1, 1) := by decide +kernel
theorem dX8_lays_140 : decode cX8_lays 140 = .ok (.iload 9, 2) := by decide +kernel
theorem dX8_lays_142 : decode cX8_lays 142 = .ok (.ishl, 1) := by decide +kernel
theorem dX8_lays_143 : decode cX8_lays 143 = .ok (.goto 4, 3) := by decide +kernel
theorem dX8_lays_146 : decode cX8_lays 146 = .ok (.iconst 0, 1) := by decide +kernel
theorem dX8_lays_147 : decode cX8_lays 147 = .ok (.ior, 1) := by decide +kernel
theorem dX8_lays_148 : decode cX8_lays 148 = .ok (.istore 4, 2) := by decide +kernel
theorem dX8_lays_150 : decode cX8_lays 150 = .ok (.iinc 6 1, 3) := by decide +kernel
theorem dX8_lays_153 : decode cX8_lays 153 = .ok (.goto (-103), 3) := by decide +kernel
theorem dX8_lays_156 : decode cX8_lays 156 = .ok (.iload 5, 2) := by decide +kernel
theorem dX8_lays_158 : decode cX8_lays 158 = .ok (.ifCond .ne 10, 3) := by decide +kernel
theorem dX8_lays_161 : decode cX8_lays 161 = .ok (.aload_n 0, 1) := by decide +kernel
theorem dX8_lays_162 : decode cX8_lays 162 = .ok (.ldc 106, 2) := by decide +kernel
theorem dX8_lays_164 : decode cX8_lays 164 = .ok (.invokevirtual 83, 3) := by decide +kernel
theorem dX8_lays_167 : decode cX8_lays 167 = .ok (.ireturn, 1) := by decide +kernel
theorem dX8_lays_168 : decode cX8_lays 168 = .ok (.iconst 0, 1) := by decide +kernel
theorem dX8_lays_169 : decode cX8_lays 169 = .ok (.istore 6, 2) := by decide +kernel
theorem dX8_lays_171 : decode cX8_lays 171 = .ok (.iload 6, 2) := by decide +kernel
theorem dX8_lays_173 : decode cX8_lays 173 = .ok (.iload_n 3, 1) := by decide +kernel
theorem dX8_lays_174 : decode cX8_lays 174 = .ok (.if_icmp .ge 29, 3) := by decide +kernel
theorem dX8_lays_177 : decode cX8_lays 177 = .ok (.aload_n 0, 1) := by decide +kernel
theorem dX8_lays_178 : decode cX8_lays 178 = .ok (.iload 6, 2) := by decide +kernel
theorem dX8_lays_180 : decode cX8_lays 180 = .ok (.iconst 5, 1) := by decide +kernel
theorem dX8_lays_181 : decode cX8_lays 181 = .ok (.aload_n 0, 1) := by decide +kernel
theorem dX8_lays_182 : decode cX8_lays 182 = .ok (.getfield 43, 3) := by decide +kernel
theorem dX8_lays_185 : decode cX8_lays 185 = .ok (.bipush 40, 2) := by decide +kernel
theorem dX8_lays_187 : decode cX8_lays 187 = .ok (.iload_n 1, 1) := by decide +kernel
theorem dX8_lays_188 : decode cX8_lays 188 = .ok (.imul, 1) := by decide +kernel
theorem dX8_lays_189 : decode cX8_lays 189 = .ok (.iload 6, 2) := by decide +kernel
theorem dX8_lays_191 : decode cX8_lays 191 = .ok (.iadd, 1) := by decide +kernel
theorem dX8_lays_192 : decode cX8_lays 192 = .ok (.laload, 1) := by decide +kernel
theorem dX8_lays_193 : decode cX8_lays 193 = .ok (.l2i, 1) := by decide +kernel
theorem dX8_lays_194 : decode cX8_lays 194 = .ok (.invokevirtual 76, 3) := by decide +kernel
theorem dX8_lays_197 : decode cX8_lays 197 = .ok (.iinc 6 1, 3) := by decide +kernel
theorem dX8_lays_200 : decode cX8_lays 200 = .ok (.goto (-29), 3) := by decide +kernel
theorem dX8_lays_203 : decode cX8_lays 203 = .ok (.aload_n 0, 1) := by decide +kernel
theorem dX8_lays_204 : decode cX8_lays 204 = .ok (.invokevirtual 111, 3) := by decide +kernel
theorem dX8_lays_207 : decode cX8_lays 207 = .ok (.invokestatic 115, 3) := by decide +kernel
theorem dX8_lays_210 : decode cX8_lays 210 = .ok (.ireturn, 1) := by decide +kernel
theorem dX8_book_0 : decode cX8_book 0 = .ok (.aload_n 0, 1) := by decide +kernel
theorem dX8_book_1 : decode cX8_book 1 = .ok (.iload_n 1, 1) := by decide +kernel
theorem dX8_book_2 : decode cX8_book 2 = .ok (.invokevirtual 278, 3) := by decide +kernel
theorem dX8_book_5 : decode cX8_book 5 = .ok (.istore_n 3, 1) := by decide +kernel
theorem dX8_book_6 : decode cX8_book 6 = .ok (.iload_n 3, 1) := by decide +kernel
theorem dX8_book_7 : decode cX8_book 7 = .ok (.ifCond .eq 9, 3) := by decide +kernel
theorem dX8_book_10 : decode cX8_book 10 = .ok (.aload_n 0, 1) := by decide +kernel
theorem dX8_book_11 : decode cX8_book 11 = .ok (.iload_n 3, 1) := by decide +kernel
theorem dX8_book_12 : decode cX8_book 12 = .ok (.invokevirtual 83, 3) := by decide +kernel
theorem dX8_book_15 : decode cX8_book 15 = .ok (.ireturn, 1) := by decide +kernel
theorem dX8_book_16 : decode cX8_book 16 = .ok (.aload_n 0, 1) := by decide +kernel
theorem dX8_book_17 : decode cX8_book 17 = .ok (.iload_n 2, 1) := by decide +kernel
theorem dX8_book_18 : decode cX8_book 18 = .ok (.invokevirtual 91, 3) := by decide +kernel
theorem dX8_book_21 : decode cX8_book 21 = .ok (.ifCond .ne 10, 3) := by decide +kernel
theorem dX8_book_24 : decode cX8_book 24 = .ok (.aload_n 0, 1) := by decide +kernel
theorem dX8_book_25 : decode cX8_book 25 = .ok (.ldc 56, 2) := by decide +kernel
theorem dX8_book_27 : decode cX8_book 27 = .ok (.invokevirtual 83, 3) := by decide +kernel
theorem dX8_book_30 : decode cX8_book 30 = .ok (.ireturn, 1) := by decide +kernel
theorem dX8_book_31 : decode cX8_book 31 = .ok (.aload_n 0, 1) := by decide +kernel
theorem dX8_book_32 : decode cX8_book 32 = .ok (.iconst 1, 1) := by decide +kernel
theorem dX8_book_33 : decode cX8_book 33 = .ok (.aload_n 0, 1) := by decide +kernel
theorem dX8_book_34 : decode cX8_book 34 = .ok (.getfield 28, 3) := by decide +kernel
theorem dX8_book_37 : decode cX8_book 37 = .ok (.invokevirtual 161, 3) := by decide +kernel
theorem dX8_book_40 : decode cX8_book 40 = .ok (.iconst 0, 1) := by decide +kernel
theorem dX8_book_41 : decode cX8_book 41 = .ok (.istore 4, 2) := by decide +kernel
theorem dX8_book_43 : decode cX8_book 43 = .ok (.iload 4, 2) := by decide +kernel
theorem dX8_book_45 : decode cX8_book 45 = .ok (.aload_n 0, 1) := by decide +kernel
theorem dX8_book_46 : decode cX8_book 46 = .ok (.getfield 40, 3) := by decide +kernel
theorem dX8_book_49 : decode cX8_book 49 = .ok (.iload_n 1, 1) := by decide +kernel
theorem dX8_book_50 : decode cX8_book 50 = .ok (.iaload, 1) := by decide +kernel
theorem dX8_book_51 : decode cX8_book 51 = .ok (.if_icmp .ge 41, 3) := by decide +kernel
theorem dX8_book_54 : decode cX8_book 54 = .ok (.aload_n 0, 1) := by decide +kernel
theorem dX8_book_55 : decode cX8_book 55 = .ok (.getfield 43, 3) := by decide +kernel
theorem dX8_book_58 : decode cX8_book 58 = .ok (.bipush 40, 2) := by decide +kernel
theorem dX8_book_60 : decode cX8_book 60 = .ok (.iload_n 1, 1) := by decide +kernel
theorem dX8_book_61 : decode cX8_book 61 = .ok (.imul, 1) := by decide +kernel
theorem dX8_book_62 : decode cX8_book 62 = .ok (.iload 4, 2) := by decide +kernel
theorem dX8_book_64 : decode cX8_book 64 = .ok (.iadd, 1) := by decide +kernel
theorem dX8_book_65 : decode cX8_book 65 = .ok (.aload_n 0, 1) := by decide +kernel
theorem dX8_book_66 : decode cX8_book 66 = .ok (.getfield 37, 3) := by decide +kernel
theorem dX8_book_69 : decode cX8_book 69 = .ok (.iload_n 1, 1) := by decide +kernel
theorem dX8_book_70 : decode cX8_book 70 = .ok (.iaload, 1) := by decide +kernel
theorem dX8_book_71 : decode cX8_book 71 = .ok (.aload_n 0, 1) := by decide +kernel
theorem dX8_book_72 : decode cX8_book 72 = .ok (.iload_n 2, 1) := by decide +kernel
theorem dX8_book_73 : decode cX8_book 73 = .ok (.iconst 2, 1) := by decide +kernel
theorem dX8_book_74 : decode cX8_book 74 = .ok (.invokevirtual 61, 3) := by decide +kernel
theorem dX8_book_77 : decode cX8_book 77 = .ok (.i2l, 1) := by decide +kernel
theorem dX8_book_78 : decode cX8_book 78 = .ok (.invokestatic 271, 3) := by decide +kernel
theorem dX8_book_81 : decode cX8_book 81 = .ok (.lastore, 1) := by decide +kernel
theorem dX8_book_82 : decode cX8_book 82 = .ok (.aload_n 0, 1) := by decide +kernel
theorem dX8_book_83 : decode cX8_book 83 = .ok (.invokevirtual 139, 3) := by decide +kernel
theorem dX8_book_86 : decode cX8_book 86 = .ok (.iinc 4 1, 3) := by decide +kernel
theorem dX8_book_89 : decode cX8_book 89 = .ok (.goto (-46), 3) := by decide +kernel
theorem dX8_book_92 : decode cX8_book 92 = .ok (.aload_n 0, 1) := by decide +kernel
theorem dX8_book_93 : decode cX8_book 93 = .ok (.iconst 0, 1) := by decide +kernel
theorem dX8_book_94 : decode cX8_book 94 = .ok (.aload_n 0, 1) := by decide +kernel
theorem dX8_book_95 : decode cX8_book 95 = .ok (.getfield 28, 3) := by decide +kernel
theorem dX8_book_98 : decode cX8_book 98 = .ok (.invokevirtual 161, 3) := by decide +kernel
theorem dX8_book_101 : decode cX8_book 101 = .ok (.aload_n 0, 1) := by decide +kernel
theorem dX8_book_102 : decode cX8_book 102 = .ok (.getfield 40, 3) := by decide +kernel
theorem dX8_book_105 : decode cX8_book 105 = .ok (.iload_n 1, 1) := by decide +kernel
theorem dX8_book_106 : decode cX8_book 106 = .ok (.iaload, 1) := by decide +kernel
theorem dX8_book_107 : decode cX8_book 107 = .ok (.ireturn, 1) := by decide +kernel
theorem dX8_isSo_0 : decode cX8_isSo 0 = .ok (.iconst 1, 1) := by decide +kernel
theorem dX8_isSo_1 : decode cX8_isSo 1 = .ok (.istore_n 2, 1) := by decide +kernel
theorem dX8_isSo_2 : decode cX8_isSo 2 = .ok (.aload_n 0, 1) := by decide +kernel
theorem dX8_isSo_3 : decode cX8_isSo 3 = .ok (.iconst 1, 1) := by decide +kernel
theorem dX8_isSo_4 : decode cX8_isSo 4 = .ok (.aload_n 0, 1) := by decide +kernel
theorem dX8_isSo_5 : decode cX8_isSo 5 = .ok (.getfield 28, 3) := by decide +kernel
theorem dX8_isSo_8 : decode cX8_isSo 8 = .ok (.invokevirtual 161, 3) := by decide +kernel
theorem dX8_isSo_11 : decode cX8_isSo 11 = .ok (.aload_n 0, 1) := by decide +kernel
theorem dX8_isSo_12 : decode cX8_isSo 12 = .ok (.invokevirtual 139, 3) := by decide +kernel
theorem dX8_isSo_15 : decode cX8_isSo 15 = .ok (.iconst 0, 1) := by decide +kernel
theorem dX8_isSo_16 : decode cX8_isSo 16 = .ok (.istore_n 3, 1) := by decide +kernel
theorem dX8_isSo_17 : decode cX8_isSo 17 = .ok (.iload_n 3, 1) := by decide +kernel
theorem dX8_isSo_18 : decode cX8_isSo 18 = .ok (.aload_n 0, 1) := by decide +kernel
theorem dX8_isSo_19 : decode cX8_isSo 19 = .ok (.getfield 7, 3) := by decide +kernel
theorem dX8_isSo_22 : decode cX8_isSo 22 = .ok (.iconst 2, 1) := by decide +kernel
theorem dX8_isSo_23 : decode cX8_isSo 23 = .ok (.iaload, 1) := by decide +kernel
theorem dX8_isSo_24 : decode cX8_isSo 24 = .ok (.if_icmp .ge 51, 3) := by decide +kernel
theorem dX8_isSo_27 : decode cX8_isSo 27 = .ok (.iload_n 3, 1) := by decide +kernel
theorem dX8_isSo_28 : decode cX8_isSo 28 = .ok (.aload_n 0, 1) := by decide +kernel
theorem dX8_isSo_29 : decode cX8_isSo 29 = .ok (.getfield 40, 3) := by decide +kernel
theorem dX8_isSo_32 : decode cX8_isSo 32 = .ok (.iload_n 1, 1) := by decide +kernel
theorem dX8_isSo_33 : decode cX8_isSo 33 = .ok (.iaload, 1) := by decide +kernel
theorem dX8_isSo_34 : decode cX8_isSo 34 = .ok (.if_icmp .ge 41, 3) := by decide +kernel
theorem dX8_isSo_37 : decode cX8_isSo 37 = .ok (.iload_n 2, 1) := by decide +kernel
theorem dX8_isSo_38 : decode cX8_isSo 38 = .ok (.ifCond .eq 37, 3) := by decide +kernel
theorem dX8_isSo_41 : decode cX8_isSo 41 = .ok (.aload_n 0, 1) := by decide +kernel
theorem dX8_isSo_42 : decode cX8_isSo 42 = .ok (.getfield 43, 3) := by decide +kernel
theorem dX8_isSo_45 : decode cX8_isSo 45 = .ok (.bipush 40, 2) := by decide +kernel
theorem dX8_isSo_47 : decode cX8_isSo 47 = .ok (.iload_n 1, 1) := by decide +kernel
theorem dX8_isSo_48 : decode cX8_isSo 48 = .ok (.imul, 1) := by decide +kernel
theorem dX8_isSo_49 : decode cX8_isSo 49 = .ok (.iload_n 3, 1) := by decide +kernel
theorem dX8_isSo_50 : decode cX8_isSo 50 = .ok (.iadd, 1) := by decide +kernel
theorem dX8_isSo_51 : decode cX8_isSo 51 = .ok (.laload, 1) := by decide +kernel
theorem dX8_isSo_52 : decode cX8_isSo 52 = .ok (.aload_n 0, 1) := by decide +kernel
theorem dX8_isSo_53 : decode cX8_isSo 53 = .ok (.iload_n 3, 1) := by decide +kernel
theorem dX8_isSo_54 : decode cX8_isSo 54 = .ok (.iconst 2, 1) := by decide +kernel
theorem dX8_isSo_55 : decode cX8_isSo 55 = .ok (.invokevirtual 61, 3) := by decide +kernel
theorem dX8_isSo_58 : decode cX8_isSo 58 = .ok (.i2l, 1) := by decide +kernel
theorem dX8_isSo_59 : decode cX8_isSo 59 = .ok (.lcmp, 1) := by decide +kernel
theorem dX8_isSo_60 : decode cX8_isSo 60 = .ok (.ifCond .ne 7, 3) := by decide +kernel
theorem dX8_isSo_63 : decode cX8_isSo 63 = .ok (.iconst 1, 1) := by decide +kernel
theorem dX8_isSo_64 : decode cX8_isSo 64 = .ok (.goto 4, 3) := by decide +kernel
theorem dX8_isSo_67 : decode cX8_isSo 67 = .ok (.iconst 0, 1) := by decide +kernel
theorem dX8_isSo_68 : decode cX8_isSo 68 = .ok (.istore_n 2, 1) := by decide +kernel
theorem dX8_isSo_69 : decode cX8_isSo 69 = .ok (.iinc 3 1, 3) := by decide +kernel
theorem dX8_isSo_72 : decode cX8_isSo 72 = .ok (.goto (-55), 3) := by decide +kernel
theorem dX8_isSo_75 : decode cX8_isSo 75 = .ok (.aload_n 0, 1) := by decide +kernel
theorem dX8_isSo_76 : decode cX8_isSo 76 = .ok (.iconst 0, 1) := by decide +kernel
theorem dX8_isSo_77 : decode cX8_isSo 77 = .ok (.aload_n 0, 1) := by decide +kernel
theorem dX8_isSo_78 : decode cX8_isSo 78 = .ok (.getfield 28, 3) := by decide +kernel
theorem dX8_isSo_81 : decode cX8_isSo 81 = .ok (.invokevirtual 161, 3) := by decide +kernel
theorem dX8_isSo_84 : decode cX8_isSo 84 = .ok (.iload_n 2, 1) := by decide +kernel
theorem dX8_isSo_85 : decode cX8_isSo 85 = .ok (.ireturn, 1) := by decide +kernel
theorem dX8_read_0 : decode cX8_read 0 = .ok (.aload_n 0, 1) := by decide +kernel
theorem dX8_read_1 : decode cX8_read 1 = .ok (.iload_n 1, 1) := by decide +kernel
theorem dX8_read_2 : decode cX8_read 2 = .ok (.invokevirtual 278, 3) := by decide +kernel
theorem dX8_read_5 : decode cX8_read 5 = .ok (.istore_n 3, 1) := by decide +kernel
theorem dX8_read_6 : decode cX8_read 6 = .ok (.iload_n 3, 1) := by decide +kernel
theorem dX8_read_7 : decode cX8_read 7 = .ok (.ifCond .eq 9, 3) := by decide +kernel
theorem dX8_read_10 : decode cX8_read 10 = .ok (.aload_n 0, 1) := by decide +kernel
theorem dX8_read_11 : decode cX8_read 11 = .ok (.iload_n 3, 1) := by decide +kernel
theorem dX8_read_12 : decode cX8_read 12 = .ok (.invokevirtual 83, 3) := by decide +kernel
theorem dX8_read_15 : decode cX8_read 15 = .ok (.ireturn, 1) := by decide +kernel
theorem dX8_read_16 : decode cX8_read 16 = .ok (.aload_n 0, 1) := by decide +kernel
theorem dX8_read_17 : decode cX8_read 17 = .ok (.iload_n 2, 1) := by decide +kernel
theorem dX8_read_18 : decode cX8_read 18 = .ok (.invokevirtual 91, 3) := by decide +kernel
theorem dX8_read_21 : decode cX8_read 21 = .ok (.ifCond .ne 10, 3) := by decide +kernel
theorem dX8_read_24 : decode cX8_read 24 = .ok (.aload_n 0, 1) := by decide +kernel
theorem dX8_read_25 : decode cX8_read 25 = .ok (.ldc 56, 2) := by decide +kernel
theorem dX8_read_27 : decode cX8_read 27 = .ok (.invokevirtual 83, 3) := by decide +kernel
theorem dX8_read_30 : decode cX8_read 30 = .ok (.ireturn, 1) := by decide +kernel
theorem dX8_read_31 : decode cX8_read 31 = .ok (.iconst 0, 1) := by decide +kernel
theorem dX8_read_32 : decode cX8_read 32 = .ok (.istore 4, 2) := by decide +kernel
theorem dX8_read_34 : decode cX8_read 34 = .ok (.iconst 0, 1) := by decide +kernel
theorem dX8_read_35 : decode cX8_read 35 = .ok (.istore 5, 2) := by decide +kernel
theorem dX8_read_37 : decode cX8_read 37 = .ok (.iload 5, 2) := by decide +kernel
theorem dX8_read_39 : decode cX8_read 39 = .ok (.aload_n 0, 1) := by decide +kernel
theorem dX8_read_40 : decode cX8_read 40 = .ok (.getfield 7, 3) := by decide +kernel
theorem dX8_read_43 : decode cX8_read 43 = .ok (.iconst 2, 1) := by decide +kernel
theorem dX8_read_44 : decode cX8_read 44 = .ok (.iaload, 1) := by decide +kernel
theorem dX8_read_45 : decode cX8_read 45 = .ok (.if_icmp .ge 59, 3) := by decide +kernel
theorem dX8_read_48 : decode cX8_read 48 = .ok (.aload_n 0, 1) := by decide +kernel
theorem dX8_read_49 : decode cX8_read 49 = .ok (.iload_n 2, 1) := by decide +kernel
theorem dX8_read_50 : decode cX8_read 50 = .ok (.iload 5, 2) := by decide +kernel
theorem dX8_read_52 : decode cX8_read 52 = .ok (.invokevirtual 102, 3) := by decide +kernel
theorem dX8_read_55 : decode cX8_read 55 = .ok (.ifCond .eq 43, 3) := by decide +kernel
theorem dX8_read_58 : decode cX8_read 58 = .ok (.aload_n 0, 1) := by decide +kernel
theorem dX8_read_59 : decode cX8_read 59 = .ok (.iload 5, 2) := by decide +kernel
theorem dX8_read_61 : decode cX8_read 61 = .ok (.invokevirtual 155, 3) := by decide +kernel
theorem dX8_read_64 : decode cX8_read 64 = .ok (.istore 6, 2) := by decide +kernel
theorem dX8_read_66 : decode cX8_read 66 = .ok (.aload_n 0, 1) := by decide +kernel
theorem dX8_read_67 : decode cX8_read 67 = .ok (.iload_n 2, 1) := by decide +kernel
theorem dX8_read_68 : decode cX8_read 68 = .ok (.iload 6, 2) := by decide +kernel
theorem dX8_read_70 : decode cX8_read 70 = .ok (.invokevirtual 107, 3) := by decide +kernel
theorem dX8_read_73 : decode cX8_read 73 = .ok (.iload 4, 2) := by decide +kernel
theorem dX8_read_75 : decode cX8_read 75 = .ok (.aload_n 0, 1) := by decide +kernel
theorem dX8_read_76 : decode cX8_read 76 = .ok (.iload_n 1, 1) := by decide +kernel
theorem dX8_read_77 : decode cX8_read 77 = .ok (.invokevirtual 281, 3) := by decide +kernel
theorem dX8_read_80 : decode cX8_read 80 = .ok (.ifCond .eq 7, 3) := by decide +kernel
theorem dX8_read_83 : decode cX8_read 83 = .ok (.iconst 1, 1) := by decide +kernel
theorem dX8_read_84 : decode cX8_read 84 = .ok (.goto 4, 3) := by decide +kernel
theorem dX8_read_87 : decode cX8_read 87 = .ok (.iconst 0, 1) := by decide +kernel
theorem dX8_read_88 : decode cX8_read 88 = .ok (.iadd, 1) := by decide +kernel
theorem dX8_read_89 : decode cX8_read 89 = .ok (.istore 4, 2) := by decide +kernel
theorem dX8_read_91 : decode cX8_read 91 = .ok (.aload_n 0, 1) := by decide +kernel
theorem dX8_read_92 : decode cX8_read 92 = .ok (.iload_n 2, 1) := by decide +kernel
theorem dX8_read_93 : decode cX8_read 93 = .ok (.iload 6, 2) := by decide +kernel
theorem dX8_read_95 : decode cX8_read 95 = .ok (.invokevirtual 107, 3) := by decide +kernel
theorem dX8_read_98 : decode cX8_read 98 = .ok (.iinc 5 1, 3) := by decide +kernel
theorem dX8_read_101 : decode cX8_read 101 = .ok (.goto (-64), 3) := by decide +kernel
theorem dX8_read_104 : decode cX8_read 104 = .ok (.iload 4, 2) := by decide +kernel
theorem dX8_read_106 : decode cX8_read 106 = .ok (.ireturn, 1) := by decide +kernel
theorem dX8_moveAll_0 : decode cX8_moveAll 0 = .ok (.iconst 0, 1) := by decide +kernel
theorem dX8_moveAll_1 : decode cX8_moveAll 1 = .ok (.istore_n 3, 1) := by decide +kernel
theorem dX8_moveAll_2 : decode cX8_moveAll 2 = .ok (.iload_n 3, 1) := by decide +kernel
theorem dX8_moveAll_3 : decode cX8_moveAll 3 = .ok (.bipush 51, 2) := by decide +kernel
theorem dX8_moveAll_5 : decode cX8_moveAll 5 = .ok (.if_icmp .ge 34, 3) := by decide +kernel
theorem dX8_moveAll_8 : decode cX8_moveAll 8 = .ok (.iload_n 1, 1) := by decide +kernel
theorem dX8_moveAll_9 : decode cX8_moveAll 9 = .ok (.ifCond .eq 15, 3) := by decide +kernel
theorem dX8_moveAll_12 : decode cX8_moveAll 12 = .ok (.aload_n 2, 1) := by decide +kernel
theorem dX8_moveAll_13 : decode cX8_moveAll 13 = .ok (.iload_n 3, 1) := by decide +kernel
theorem dX8_moveAll_14 : decode cX8_moveAll 14 = .ok (.aload_n 0, 1) := by decide +kernel
theorem dX8_moveAll_15 : decode cX8_moveAll 15 = .ok (.getfield 7, 3) := by decide +kernel
theorem dX8_moveAll_18 : decode cX8_moveAll 18 = .ok (.iload_n 3, 1) := by decide +kernel
theorem dX8_moveAll_19 : decode cX8_moveAll 19 = .ok (.iaload, 1) := by decide +kernel
theorem dX8_moveAll_20 : decode cX8_moveAll 20 = .ok (.iastore, 1) := by decide +kernel
theorem dX8_moveAll_21 : decode cX8_moveAll 21 = .ok (.goto 12, 3) := by decide +kernel
theorem dX8_moveAll_24 : decode cX8_moveAll 24 = .ok (.aload_n 0, 1) := by decide +kernel
theorem dX8_moveAll_25 : decode cX8_moveAll 25 = .ok (.getfield 7, 3) := by decide +kernel
theorem dX8_moveAll_28 : decode cX8_moveAll 28 = .ok (.iload_n 3, 1) := by decide +kernel
theorem dX8_moveAll_29 : decode cX8_moveAll 29 = .ok (.aload_n 2, 1) := by decide +kernel
theorem dX8_moveAll_30 : decode cX8_moveAll 30 = .ok (.iload_n 3, 1) := by decide +kernel
theorem dX8_moveAll_31 : decode cX8_moveAll 31 = .ok (.iaload, 1) := by decide +kernel
theorem dX8_moveAll_32 : decode cX8_moveAll 32 = .ok (.iastore, 1) := by decide +kernel
theorem dX8_moveAll_33 : decode cX8_moveAll 33 = .ok (.iinc 3 1, 3) := by decide +kernel
theorem dX8_moveAll_36 : decode cX8_moveAll 36 = .ok (.goto (-34), 3) := by decide +kernel
theorem dX8_moveAll_39 : decode cX8_moveAll 39 = .ok (.return_, 1) := by decide +kernel
theorem dX8_image_0 : decode cX8_image 0 = .ok (.aload_n 0, 1) := by decide +kernel
theorem dX8_image_1 : decode cX8_image 1 = .ok (.iconst 1, 1) := by decide +kernel
theorem dX8_image_2 : decode cX8_image 2 = .ok (.aload_n 0, 1) := by decide +kernel
theorem dX8_image_3 : decode cX8_image 3 = .ok (.getfield 50, 3) := by decide +kernel
theorem dX8_image_6 : decode cX8_image 6 = .ok (.invokevirtual 161, 3) := by decide +kernel
theorem dX8_image_9 : decode cX8_image 9 = .ok (.aload_n 0, 1) := by decide +kernel
theorem dX8_image_10 : decode cX8_image 10 = .ok (.iconst 1, 1) := by decide +kernel
theorem dX8_image_11 : decode cX8_image 11 = .ok (.putfield 284, 3) := by decide +kernel
theorem dX8_image_14 : decode cX8_image 14 = .ok (.iconst 1, 1) := by decide +kernel
theorem dX8_image_15 : decode cX8_image 15 = .ok (.ireturn, 1) := by decide +kernel
theorem dX8_undo_0 : decode cX8_undo 0 = .ok (.aload_n 0, 1) := by decide +kernel
theorem dX8_undo_1 : decode cX8_undo 1 = .ok (.getfield 284, 3) := by decide +kernel
theorem dX8_undo_4 : decode cX8_undo 4 = .ok (.ifCond .ne 10, 3) := by decide +kernel
theorem dX8_undo_7 : decode cX8_undo 7 = .ok (.aload_n 0, 1) := by decide +kernel
theorem dX8_undo_8 : decode cX8_undo 8 = .ok (.ldc 165, 2) := by decide +kernel
theorem dX8_undo_10 : decode cX8_undo 10 = .ok (.invokevirtual 83, 3) := by decide +kernel
theorem dX8_undo_13 : decode cX8_undo 13 = .ok (.ireturn, 1) := by decide +kernel
theorem dX8_undo_14 : decode cX8_undo 14 = .ok (.aload_n 0, 1) := by decide +kernel
theorem dX8_undo_15 : decode cX8_undo 15 = .ok (.iconst 0, 1) := by decide +kernel
theorem dX8_undo_16 : decode cX8_undo 16 = .ok (.aload_n 0, 1) := by decide +kernel
theorem dX8_undo_17 : decode cX8_undo 17 = .ok (.getfield 50, 3) := by decide +kernel
theorem dX8_undo_20 : decode cX8_undo 20 = .ok (.invokevirtual 161, 3) := by decide +kernel
theorem dX8_undo_23 : decode cX8_undo 23 = .ok (.aload_n 0, 1) := by decide +kernel
theorem dX8_undo_24 : decode cX8_undo 24 = .ok (.getfield 7, 3) := by decide +kernel
theorem dX8_undo_27 : decode cX8_undo 27 = .ok (.iconst 2, 1) := by decide +kernel
theorem dX8_undo_28 : decode cX8_undo 28 = .ok (.iaload, 1) := by decide +kernel
theorem dX8_undo_29 : decode cX8_undo 29 = .ok (.ireturn, 1) := by decide +kernel
theorem dX8_tear_0 : decode cX8_tear 0 = .ok (.aload_n 0, 1) := by decide +kernel
theorem dX8_tear_1 : decode cX8_tear 1 = .ok (.getfield 284, 3) := by decide +kernel
theorem dX8_tear_4 : decode cX8_tear 4 = .ok (.ifCond .eq 7, 3) := by decide +kernel
theorem dX8_tear_7 : decode cX8_tear 7 = .ok (.iconst 1, 1) := by decide +kernel
theorem dX8_tear_8 : decode cX8_tear 8 = .ok (.goto 4, 3) := by decide +kernel
theorem dX8_tear_11 : decode cX8_tear 11 = .ok (.iconst 0, 1) := by decide +kernel
theorem dX8_tear_12 : decode cX8_tear 12 = .ok (.istore_n 1, 1) := by decide +kernel
theorem dX8_tear_13 : decode cX8_tear 13 = .ok (.aload_n 0, 1) := by decide +kernel
theorem dX8_tear_14 : decode cX8_tear 14 = .ok (.iconst 0, 1) := by decide +kernel
theorem dX8_tear_15 : decode cX8_tear 15 = .ok (.putfield 284, 3) := by decide +kernel
theorem dX8_tear_18 : decode cX8_tear 18 = .ok (.iload_n 1, 1) := by decide +kernel
theorem dX8_tear_19 : decode cX8_tear 19 = .ok (.ireturn, 1) := by decide +kernel
theorem dX8_count_0 : decode cX8_count 0 = .ok (.iload_n 1, 1) := by decide +kernel
theorem dX8_count_1 : decode cX8_count 1 = .ok (.tableswitch 56 0 3 #[31, 38, 43, 50], 31) := by decide +kernel
theorem dX8_count_32 : decode cX8_count 32 = .ok (.aload_n 0, 1) := by decide +kernel
theorem dX8_count_33 : decode cX8_count 33 = .ok (.getfield 7, 3) := by decide +kernel
theorem dX8_count_36 : decode cX8_count 36 = .ok (.iconst 2, 1) := by decide +kernel
theorem dX8_count_37 : decode cX8_count 37 = .ok (.iaload, 1) := by decide +kernel
theorem dX8_count_38 : decode cX8_count 38 = .ok (.ireturn, 1) := by decide +kernel
theorem dX8_count_39 : decode cX8_count 39 = .ok (.aload_n 0, 1) := by decide +kernel
theorem dX8_count_40 : decode cX8_count 40 = .ok (.getfield 178, 3) := by decide +kernel
theorem dX8_count_43 : decode cX8_count 43 = .ok (.ireturn, 1) := by decide +kernel
theorem dX8_count_44 : decode cX8_count 44 = .ok (.aload_n 0, 1) := by decide +kernel
theorem dX8_count_45 : decode cX8_count 45 = .ok (.getfield 7, 3) := by decide +kernel
theorem dX8_count_48 : decode cX8_count 48 = .ok (.iconst 1, 1) := by decide +kernel
theorem dX8_count_49 : decode cX8_count 49 = .ok (.iaload, 1) := by decide +kernel
theorem dX8_count_50 : decode cX8_count 50 = .ok (.ireturn, 1) := by decide +kernel
theorem dX8_count_51 : decode cX8_count 51 = .ok (.aload_n 0, 1) := by decide +kernel
theorem dX8_count_52 : decode cX8_count 52 = .ok (.iconst 3, 1) := by decide +kernel
theorem dX8_count_53 : decode cX8_count 53 = .ok (.invokevirtual 142, 3) := by decide +kernel
theorem dX8_count_56 : decode cX8_count 56 = .ok (.ireturn, 1) := by decide +kernel
theorem dX8_count_57 : decode cX8_count 57 = .ok (.aload_n 0, 1) := by decide +kernel
theorem dX8_count_58 : decode cX8_count 58 = .ok (.ldc 56, 2) := by decide +kernel
theorem dX8_count_60 : decode cX8_count 60 = .ok (.invokevirtual 83, 3) := by decide +kernel
theorem dX8_count_63 : decode cX8_count 63 = .ok (.ireturn, 1) := by decide +kernel
theorem dX8_status_0 : decode cX8_status 0 = .ok (.iload_n 1, 1) := by decide +kernel
theorem dX8_status_1 : decode cX8_status 1 = .ok (.iconst (-1), 1) := by decide +kernel
theorem dX8_status_2 : decode cX8_status 2 = .ok (.bipush 6, 2) := by decide +kernel
theorem dX8_status_4 : decode cX8_status 4 = .ok (.invokestatic 57, 3) := by decide +kernel
theorem dX8_status_7 : decode cX8_status 7 = .ok (.ifCond .ne 10, 3) := by decide +kernel
theorem dX8_status_10 : decode cX8_status 10 = .ok (.aload_n 0, 1) := by decide +kernel
theorem dX8_status_11 : decode cX8_status 11 = .ok (.ldc 56, 2) := by decide +kernel
theorem dX8_status_13 : decode cX8_status 13 = .ok (.invokevirtual 83, 3) := by decide +kernel
theorem dX8_status_16 : decode cX8_status 16 = .ok (.ireturn, 1) := by decide +kernel
theorem dX8_status_17 : decode cX8_status 17 = .ok (.iconst 0, 1) := by decide +kernel
theorem dX8_status_18 : decode cX8_status 18 = .ok (.istore_n 2, 1) := by decide +kernel
theorem dX8_status_19 : decode cX8_status 19 = .ok (.iconst 0, 1) := by decide +kernel
theorem dX8_status_20 : decode cX8_status 20 = .ok (.istore_n 3, 1) := by decide +kernel
theorem dX8_status_21 : decode cX8_status 21 = .ok (.iload_n 3, 1) := by decide +kernel
theorem dX8_status_22 : decode cX8_status 22 = .ok (.bipush 7, 2) := by decide +kernel
theorem dX8_status_24 : decode cX8_status 24 = .ok (.if_icmp .ge 18, 3) := by decide +kernel
theorem dX8_status_27 : decode cX8_status 27 = .ok (.iload_n 2, 1) := by decide +kernel
theorem dX8_status_28 : decode cX8_status 28 = .ok (.aload_n 0, 1) := by decide +kernel
theorem dX8_status_29 : decode cX8_status 29 = .ok (.getfield 13, 3) := by decide +kernel
theorem dX8_status_32 : decode cX8_status 32 = .ok (.iload_n 3, 1) := by decide +kernel
theorem dX8_status_33 : decode cX8_status 33 = .ok (.iaload, 1) := by decide +kernel
theorem dX8_status_34 : decode cX8_status 34 = .ok (.iadd, 1) := by decide +kernel
theorem dX8_status_35 : decode cX8_status 35 = .ok (.istore_n 2, 1) := by decide +kernel
theorem dX8_status_36 : decode cX8_status 36 = .ok (.iinc 3 1, 3) := by decide +kernel
theorem dX8_status_39 : decode cX8_status 39 = .ok (.goto (-18), 3) := by decide +kernel
theorem dX8_status_42 : decode cX8_status 42 = .ok (.iload_n 1, 1) := by decide +kernel
theorem dX8_status_43 : decode cX8_status 43 = .ok (.ifCond .ge 7, 3) := by decide +kernel
theorem dX8_status_46 : decode cX8_status 46 = .ok (.iload_n 2, 1) := by decide +kernel
theorem dX8_status_47 : decode cX8_status 47 = .ok (.goto 17, 3) := by decide +kernel
theorem dX8_status_50 : decode cX8_status 50 = .ok (.aload_n 0, 1) := by decide +kernel
theorem dX8_status_51 : decode cX8_status 51 = .ok (.getfield 13, 3) := by decide +kernel
theorem dX8_status_54 : decode cX8_status 54 = .ok (.iload_n 1, 1) := by decide +kernel
theorem dX8_status_55 : decode cX8_status 55 = .ok (.ifCond .ge 7, 3) := by decide +kernel
theorem dX8_status_58 : decode cX8_status 58 = .ok (.iconst 0, 1) := by decide +kernel
theorem dX8_status_59 : decode cX8_status 59 = .ok (.goto 4, 3) := by decide +kernel
theorem dX8_status_62 : decode cX8_status 62 = .ok (.iload_n 1, 1) := by decide +kernel
theorem dX8_status_63 : decode cX8_status 63 = .ok (.iaload, 1) := by decide +kernel
theorem dX8_status_64 : decode cX8_status 64 = .ok (.ireturn, 1) := by decide +kernel
end
section
theorem dL_law_0 : decode cL_law 0 = .ok (.new 7, 3) := by decide +kernel
theorem dL_law_3 : decode cL_law 3 = .ok (.dup, 1) := by decide +kernel
theorem dL_law_4 : decode cL_law 4 = .ok (.invokespecial 9, 3) := by decide +kernel
theorem dL_law_7 : decode cL_law 7 = .ok (.astore_n 1, 1) := by decide +kernel
theorem dL_law_8 : decode cL_law 8 = .ok (.new 10, 3) := by decide +kernel
theorem dL_law_11 : decode cL_law 11 = .ok (.dup, 1) := by decide +kernel
theorem dL_law_12 : decode cL_law 12 = .ok (.invokespecial 12, 3) := by decide +kernel
theorem dL_law_15 : decode cL_law 15 = .ok (.astore_n 2, 1) := by decide +kernel
theorem dL_law_16 : decode cL_law 16 = .ok (.iconst 0, 1) := by decide +kernel
theorem dL_law_17 : decode cL_law 17 = .ok (.istore_n 3, 1) := by decide +kernel
theorem dL_law_18 : decode cL_law 18 = .ok (.iload_n 3, 1) := by decide +kernel
theorem dL_law_19 : decode cL_law 19 = .ok (.aload_n 0, 1) := by decide +kernel
theorem dL_law_20 : decode cL_law 20 = .ok (.arraylength, 1) := by decide +kernel
theorem dL_law_21 : decode cL_law 21 = .ok (.bipush 6, 2) := by decide +kernel
theorem dL_law_23 : decode cL_law 23 = .ok (.isub, 1) := by decide +kernel
theorem dL_law_24 : decode cL_law 24 = .ok (.if_icmp .gt 1221, 3) := by decide +kernel
theorem dL_law_27 : decode cL_law 27 = .ok (.aload_n 0, 1) := by decide +kernel
theorem dL_law_28 : decode cL_law 28 = .ok (.iload_n 3, 1) := by decide +kernel
theorem dL_law_29 : decode cL_law 29 = .ok (.iaload, 1) := by decide +kernel
theorem dL_law_30 : decode cL_law 30 = .ok (.bipush 63, 2) := by decide +kernel
theorem dL_law_32 : decode cL_law 32 = .ok (.iand, 1) := by decide +kernel
theorem dL_law_33 : decode cL_law 33 = .ok (.tableswitch 1206 0 39 #[175, 198, 231, 254, 297, 330, 363, 396, 409, 422, 445, 468, 491, 514, 537, 560, 573, 586, 629, 652, 665, 688, 701, 724, 747, 770, 793, 826, 839, 852, 895, 969, 1032, 1055, 1088, 1121, 1134, 1147, 1160, 1183], 175) := by decide +kernel
theorem dL_law_208 : decode cL_law 208 = .ok (.aload_n 1, 1) := by decide +kernel
theorem dL_law_209 : decode cL_law 209 = .ok (.aload_n 0, 1) := by decide +kernel
theorem dL_law_210 : decode cL_law 210 = .ok (.iload_n 3, 1) := by decide +kernel
theorem dL_law_211 : decode cL_law 211 = .ok (.iconst 1, 1) := by decide +kernel
theorem dL_law_212 : decode cL_law 212 = .ok (.iadd, 1) := by decide +kernel
theorem dL_law_213 : decode cL_law 213 = .ok (.iaload, 1) := by decide +kernel
theorem dL_law_214 : decode cL_law 214 = .ok (.invokevirtual 13, 3) := by decide +kernel
theorem dL_law_217 : decode cL_law 217 = .ok (.aload_n 2, 1) := by decide +kernel
theorem dL_law_218 : decode cL_law 218 = .ok (.aload_n 0, 1) := by decide +kernel
theorem dL_law_219 : decode cL_law 219 = .ok (.iload_n 3, 1) := by decide +kernel
theorem dL_law_220 : decode cL_law 220 = .ok (.iconst 1, 1) := by decide +kernel
theorem dL_law_221 : decode cL_law 221 = .ok (.iadd, 1) := by decide +kernel
theorem dL_law_222 : decode cL_law 222 = .ok (.iaload, 1) := by decide +kernel
theorem dL_law_223 : decode cL_law 223 = .ok (.invokevirtual 17, 3) := by decide +kernel
theorem dL_law_226 : decode cL_law 226 = .ok (.if_icmp .eq 1013, 3) := by decide +kernel
theorem dL_law_229 : decode cL_law 229 = .ok (.iconst 0, 1) := by decide +kernel
theorem dL_law_230 : decode cL_law 230 = .ok (.ireturn, 1) := by decide +kernel
theorem dL_law_231 : decode cL_law 231 = .ok (.aload_n 1, 1) := by decide +kernel
theorem dL_law_232 : decode cL_law 232 = .ok (.aload_n 0, 1) := by decide +kernel
theorem dL_law_233 : decode cL_law 233 = .ok (.iload_n 3, 1) := by decide +kernel
theorem dL_law_234 : decode cL_law 234 = .ok (.iconst 1, 1) := by decide +kernel
theorem dL_law_235 : decode cL_law 235 = .ok (.iadd, 1) := by decide +kernel
theorem dL_law_236 : decode cL_law 236 = .ok (.iaload, 1) := by decide +kernel
theorem dL_law_237 : decode cL_law 237 = .ok (.aload_n 0, 1) := by decide +kernel
theorem dL_law_238 : decode cL_law 238 = .ok (.iload_n 3, 1) := by decide +kernel
theorem dL_law_239 : decode cL_law 239 = .ok (.iconst 2, 1) := by decide +kernel
theorem dL_law_240 : decode cL_law 240 = .ok (.iadd, 1) := by decide +kernel
theorem dL_law_241 : decode cL_law 241 = .ok (.iaload, 1) := by decide +kernel
theorem dL_law_242 : decode cL_law 242 = .ok (.invokevirtual 18, 3) := by decide +kernel
theorem dL_law_245 : decode cL_law 245 = .ok (.aload_n 2, 1) := by decide +kernel
theorem dL_law_246 : decode cL_law 246 = .ok (.aload_n 0, 1) := by decide +kernel
theorem dL_law_247 : decode cL_law 247 = .ok (.iload_n 3, 1) := by decide +kernel
theorem dL_law_248 : decode cL_law 248 = .ok (.iconst 1, 1) := by decide +kernel
theorem dL_law_249 : decode cL_law 249 = .ok (.iadd, 1) := by decide +kernel
theorem dL_law_250 : decode cL_law 250 = .ok (.iaload, 1) := by decide +kernel
theorem dL_law_251 : decode cL_law 251 = .ok (.aload_n 0, 1) := by decide +kernel
theorem dL_law_252 : decode cL_law 252 = .ok (.iload_n 3, 1) := by decide +kernel
theorem dL_law_253 : decode cL_law 253 = .ok (.iconst 2, 1) := by decide +kernel
theorem dL_law_254 : decode cL_law 254 = .ok (.iadd, 1) := by decide +kernel
theorem dL_law_255 : decode cL_law 255 = .ok (.iaload, 1) := by decide +kernel
theorem dL_law_256 : decode cL_law 256 = .ok (.invokevirtual 22, 3) := by decide +kernel
theorem dL_law_259 : decode cL_law 259 = .ok (.if_icmp .eq 980, 3) := by decide +kernel
theorem dL_law_262 : decode cL_law 262 = .ok (.iconst 0, 1) := by decide +kernel
theorem dL_law_263 : decode cL_law 263 = .ok (.ireturn, 1) := by decide +kernel
theorem dL_law_264 : decode cL_law 264 = .ok (.aload_n 1, 1) := by decide +kernel
theorem dL_law_265 : decode cL_law 265 = .ok (.aload_n 0, 1) := by decide +kernel
theorem dL_law_266 : decode cL_law 266 = .ok (.iload_n 3, 1) := by decide +kernel
theorem dL_law_267 : decode cL_law 267 = .ok (.iconst 1, 1) := by decide +kernel
theorem dL_law_268 : decode cL_law 268 = .ok (.iadd, 1) := by decide +kernel
theorem dL_law_269 : decode cL_law 269 = .ok (.iaload, 1) := by decide +kernel
theorem dL_law_270 : decode cL_law 270 = .ok (.invokevirtual 23, 3) := by decide +kernel
theorem dL_law_273 : decode cL_law 273 = .ok (.aload_n 2, 1) := by decide +kernel
theorem dL_law_274 : decode cL_law 274 = .ok (.aload_n 0, 1) := by decide +kernel
theorem dL_law_275 : decode cL_law 275 = .ok (.iload_n 3, 1) := by decide +kernel
theorem dL_law_276 : decode cL_law 276 = .ok (.iconst 1, 1) := by decide +kernel
theorem dL_law_277 : decode cL_law 277 = .ok (.iadd, 1) := by decide +kernel
theorem dL_law_278 : decode cL_law 278 = .ok (.iaload, 1) := by decide +kernel
theorem dL_law_279 : decode cL_law 279 = .ok (.invokevirtual 26, 3) := by decide +kernel
theorem dL_law_282 : decode cL_law 282 = .ok (.if_icmp .eq 957, 3) := by decide +kernel
theorem dL_law_285 : decode cL_law 285 = .ok (.iconst 0, 1) := by decide +kernel
theorem dL_law_286 : decode cL_law 286 = .ok (.ireturn, 1) := by decide +kernel
theorem dL_law_287 : decode cL_law 287 = .ok (.aload_n 1, 1) := by decide +kernel
theorem dL_law_288 : decode cL_law 288 = .ok (.aload_n 0, 1) := by decide +kernel
theorem dL_law_289 : decode cL_law 289 = .ok (.iload_n 3, 1) := by decide +kernel
theorem dL_law_290 : decode cL_law 290 = .ok (.iconst 1, 1) := by decide +kernel
theorem dL_law_291 : decode cL_law 291 = .ok (.iadd, 1) := by decide +kernel
theorem dL_law_292 : decode cL_law 292 = .ok (.iaload, 1) := by decide +kernel
theorem dL_law_293 : decode cL_law 293 = .ok (.aload_n 0, 1) := by decide +kernel
theorem dL_law_294 : decode cL_law 294 = .ok (.iload_n 3, 1) := by decide +kernel
theorem dL_law_295 : decode cL_law 295 = .ok (.iconst 2, 1) := by decide +kernel
theorem dL_law_296 : decode cL_law 296 = .ok (.iadd, 1) := by decide +kernel
theorem dL_law_297 : decode cL_law 297 = .ok (.iaload, 1) := by decide +kernel
theorem dL_law_298 : decode cL_law 298 = .ok (.aload_n 0, 1) := by decide +kernel
theorem dL_law_299 : decode cL_law 299 = .ok (.iload_n 3, 1) := by decide +kernel
theorem dL_law_300 : decode cL_law 300 = .ok (.iconst 3, 1) := by decide +kernel
theorem dL_law_301 : decode cL_law 301 = .ok (.iadd, 1) := by decide +kernel
theorem dL_law_302 : decode cL_law 302 = .ok (.iaload, 1) := by decide +kernel
theorem dL_law_303 : decode cL_law 303 = .ok (.invokevirtual 27, 3) := by decide +kernel
theorem dL_law_306 : decode cL_law 306 = .ok (.aload_n 2, 1) := by decide +kernel
theorem dL_law_307 : decode cL_law 307 = .ok (.aload_n 0, 1) := by decide +kernel
theorem dL_law_308 : decode cL_law 308 = .ok (.iload_n 3, 1) := by decide +kernel
theorem dL_law_309 : decode cL_law 309 = .ok (.iconst 1, 1) := by decide +kernel
theorem dL_law_310 : decode cL_law 310 = .ok (.iadd, 1) := by decide +kernel
theorem dL_law_311 : decode cL_law 311 = .ok (.iaload, 1) := by decide +kernel
theorem dL_law_312 : decode cL_law 312 = .ok (.aload_n 0, 1) := by decide +kernel
theorem dL_law_313 : decode cL_law 313 = .ok (.iload_n 3, 1) := by decide +kernel
theorem dL_law_314 : decode cL_law 314 = .ok (.iconst 2, 1) := by decide +kernel
theorem dL_law_315 : decode cL_law 315 = .ok (.iadd, 1) := by decide +kernel
theorem dL_law_316 : decode cL_law 316 = .ok (.iaload, 1) := by decide +kernel
theorem dL_law_317 : decode cL_law 317 = .ok (.aload_n 0, 1) := by decide +kernel
theorem dL_law_318 : decode cL_law 318 = .ok (.iload_n 3, 1) := by decide +kernel
theorem dL_law_319 : decode cL_law 319 = .ok (.iconst 3, 1) := by decide +kernel
theorem dL_law_320 : decode cL_law 320 = .ok (.iadd, 1) := by decide +kernel
theorem dL_law_321 : decode cL_law 321 = .ok (.iaload, 1) := by decide +kernel
theorem dL_law_322 : decode cL_law 322 = .ok (.invokevirtual 31, 3) := by decide +kernel
theorem dL_law_325 : decode cL_law 325 = .ok (.if_icmp .eq 914, 3) := by decide +kernel
theorem dL_law_328 : decode cL_law 328 = .ok (.iconst 0, 1) := by decide +kernel
theorem dL_law_329 : decode cL_law 329 = .ok (.ireturn, 1) := by decide +kernel
theorem dL_law_330 : decode cL_law 330 = .ok (.aload_n 1, 1) := by decide +kernel
theorem dL_law_331 : decode cL_law 331 = .ok (.aload_n 0, 1) := by decide +kernel
theorem dL_law_332 : decode cL_law 332 = .ok (.iload_n 3, 1) := by decide +kernel
theorem dL_law_333 : decode cL_law 333 = .ok (.iconst 1, 1) := by decide +kernel
theorem dL_law_334 : decode cL_law 334 = .ok (.iadd, 1) := by decide +kernel
theorem dL_law_335 : decode cL_law 335 = .ok (.iaload, 1) := by decide +kernel
theorem dL_law_336 : decode cL_law 336 = .ok (.aload_n 0, 1) := by decide +kernel
theorem dL_law_337 : decode cL_law 337 = .ok (.iload_n 3, 1) := by decide +kernel
theorem dL_law_338 : decode cL_law 338 = .ok (.iconst 2, 1) := by decide +kernel
theorem dL_law_339 : decode cL_law 339 = .ok (.iadd, 1) := by decide +kernel
theorem dL_law_340 : decode cL_law 340 = .ok (.iaload, 1) := by decide +kernel
theorem dL_law_341 : decode cL_law 341 = .ok (.invokevirtual 32, 3) := by decide +kernel
theorem dL_law_344 : decode cL_law 344 = .ok (.aload_n 2, 1) := by decide +kernel
theorem dL_law_345 : decode cL_law 345 = .ok (.aload_n 0, 1) := by decide +kernel
theorem dL_law_346 : decode cL_law 346 = .ok (.iload_n 3, 1) := by decide +kernel
theorem dL_law_347 : decode cL_law 347 = .ok (.iconst 1, 1) := by decide +kernel
theorem dL_law_348 : decode cL_law 348 = .ok (.iadd, 1) := by decide +kernel
theorem dL_law_349 : decode cL_law 349 = .ok (.iaload, 1) := by decide +kernel
theorem dL_law_350 : decode cL_law 350 = .ok (.aload_n 0, 1) := by decide +kernel
theorem dL_law_351 : decode cL_law 351 = .ok (.iload_n 3, 1) := by decide +kernel
theorem dL_law_352 : decode cL_law 352 = .ok (.iconst 2, 1) := by decide +kernel
theorem dL_law_353 : decode cL_law 353 = .ok (.iadd, 1) := by decide +kernel
theorem dL_law_354 : decode cL_law 354 = .ok (.iaload, 1) := by decide +kernel
theorem dL_law_355 : decode cL_law 355 = .ok (.invokevirtual 35, 3) := by decide +kernel
theorem dL_law_358 : decode cL_law 358 = .ok (.if_icmp .eq 881, 3) := by decide +kernel
theorem dL_law_361 : decode cL_law 361 = .ok (.iconst 0, 1) := by decide +kernel
theorem dL_law_362 : decode cL_law 362 = .ok (.ireturn, 1) := by decide +kernel
theorem dL_law_363 : decode cL_law 363 = .ok (.aload_n 1, 1) := by decide +kernel
theorem dL_law_364 : decode cL_law 364 = .ok (.aload_n 0, 1) := by decide +kernel
theorem dL_law_365 : decode cL_law 365 = .ok (.iload_n 3, 1) := by decide +kernel
theorem dL_law_366 : decode cL_law 366 = .ok (.iconst 1, 1) := by decide +kernel
theorem dL_law_367 : decode cL_law 367 = .ok (.iadd, 1) := by decide +kernel
theorem dL_law_368 : decode cL_law 368 = .ok (.iaload, 1) := by decide +kernel
theorem dL_law_369 : decode cL_law 369 = .ok (.aload_n 0, 1) := by decide +kernel
theorem dL_law_370 : decode cL_law 370 = .ok (.iload_n 3, 1) := by decide +kernel
theorem dL_law_371 : decode cL_law 371 = .ok (.iconst 2, 1) := by decide +kernel
theorem dL_law_372 : decode cL_law 372 = .ok (.iadd, 1) := by decide +kernel
theorem dL_law_373 : decode cL_law 373 = .ok (.iaload, 1) := by decide +kernel
theorem dL_law_374 : decode cL_law 374 = .ok (.invokevirtual 36, 3) := by decide +kernel
theorem dL_law_377 : decode cL_law 377 = .ok (.aload_n 2, 1) := by decide +kernel
theorem dL_law_378 : decode cL_law 378 = .ok (.aload_n 0, 1) := by decide +kernel
theorem dL_law_379 : decode cL_law 379 = .ok (.iload_n 3, 1) := by decide +kernel
theorem dL_law_380 : decode cL_law 380 = .ok (.iconst 1, 1) := by decide +kernel
theorem dL_law_381 : decode cL_law 381 = .ok (.iadd, 1) := by decide +kernel
theorem dL_law_382 : decode cL_law 382 = .ok (.iaload, 1) := by decide +kernel
theorem dL_law_383 : decode cL_law 383 = .ok (.aload_n 0, 1) := by decide +kernel
theorem dL_law_384 : decode cL_law 384 = .ok (.iload_n 3, 1) := by decide +kernel
theorem dL_law_385 : decode cL_law 385 = .ok (.iconst 2, 1) := by decide +kernel
theorem dL_law_386 : decode cL_law 386 = .ok (.iadd, 1) := by decide +kernel
theorem dL_law_387 : decode cL_law 387 = .ok (.iaload, 1) := by decide +kernel
theorem dL_law_388 : decode cL_law 388 = .ok (.invokevirtual 39, 3) := by decide +kernel
theorem dL_law_391 : decode cL_law 391 = .ok (.if_icmp .eq 848, 3) := by decide +kernel
theorem dL_law_394 : decode cL_law 394 = .ok (.iconst 0, 1) := by decide +kernel
theorem dL_law_395 : decode cL_law 395 = .ok (.ireturn, 1) := by decide +kernel
theorem dL_law_396 : decode cL_law 396 = .ok (.aload_n 1, 1) := by decide +kernel
theorem dL_law_397 : decode cL_law 397 = .ok (.aload_n 0, 1) := by decide +kernel
theorem dL_law_398 : decode cL_law 398 = .ok (.iload_n 3, 1) := by decide +kernel
theorem dL_law_399 : decode cL_law 399 = .ok (.iconst 1, 1) := by decide +kernel
theorem dL_law_400 : decode cL_law 400 = .ok (.iadd, 1) := by decide +kernel
theorem dL_law_401 : decode cL_law 401 = .ok (.iaload, 1) := by decide +kernel
theorem dL_law_402 : decode cL_law 402 = .ok (.aload_n 0, 1) := by decide +kernel
theorem dL_law_403 : decode cL_law 403 = .ok (.iload_n 3, 1) := by decide +kernel
theorem dL_law_404 : decode cL_law 404 = .ok (.iconst 2, 1) := by decide +kernel
theorem dL_law_405 : decode cL_law 405 = .ok (.iadd, 1) := by decide +kernel
theorem dL_law_406 : decode cL_law 406 = .ok (.iaload, 1) := by decide +kernel
theorem dL_law_407 : decode cL_law 407 = .ok (.invokevirtual 40, 3) := by decide +kernel
theorem dL_law_410 : decode cL_law 410 = .ok (.aload_n 2, 1) := by decide +kernel
theorem dL_law_411 : decode cL_law 411 = .ok (.aload_n 0, 1) := by decide +kernel
theorem dL_law_412 : decode cL_law 412 = .ok (.iload_n 3, 1) := by decide +kernel
theorem dL_law_413 : decode cL_law 413 = .ok (.iconst 1, 1) := by decide +kernel
theorem dL_law_414 : decode cL_law 414 = .ok (.iadd, 1) := by decide +kernel
theorem dL_law_415 : decode cL_law 415 = .ok (.iaload, 1) := by decide +kernel
theorem dL_law_416 : decode cL_law 416 = .ok (.aload_n 0, 1) := by decide +kernel
theorem dL_law_417 : decode cL_law 417 = .ok (.iload_n 3, 1) := by decide +kernel
theorem dL_law_418 : decode cL_law 418 = .ok (.iconst 2, 1) := by decide +kernel
theorem dL_law_419 : decode cL_law 419 = .ok (.iadd, 1) := by decide +kernel
theorem dL_law_420 : decode cL_law 420 = .ok (.iaload, 1) := by decide +kernel
theorem dL_law_421 : decode cL_law 421 = .ok (.invokevirtual 43, 3) := by decide +kernel
theorem dL_law_424 : decode cL_law 424 = .ok (.if_icmp .eq 815, 3) := by decide +kernel
theorem dL_law_427 : decode cL_law 427 = .ok (.iconst 0, 1) := by decide +kernel
theorem dL_law_428 : decode cL_law 428 = .ok (.ireturn, 1) := by decide +kernel
theorem dL_law_429 : decode cL_law 429 = .ok (.aload_n 1, 1) := by decide +kernel
theorem dL_law_430 : decode cL_law 430 = .ok (.invokevirtual 44, 3) := by decide +kernel
theorem dL_law_433 : decode cL_law 433 = .ok (.aload_n 2, 1) := by decide +kernel
theorem dL_law_434 : decode cL_law 434 = .ok (.invokevirtual 48, 3) := by decide +kernel
theorem dL_law_437 : decode cL_law 437 = .ok (.if_icmp .eq 802, 3) := by decide +kernel
theorem dL_law_440 : decode cL_law 440 = .ok (.iconst 0, 1) := by decide +kernel
theorem dL_law_441 : decode cL_law 441 = .ok (.ireturn, 1) := by decide +kernel
theorem dL_law_442 : decode cL_law 442 = .ok (.aload_n 1, 1) := by decide +kernel
theorem dL_law_443 : decode cL_law 443 = .ok (.invokevirtual 49, 3) := by decide +kernel
theorem dL_law_446 : decode cL_law 446 = .ok (.aload_n 2, 1) := by decide +kernel
theorem dL_law_447 : decode cL_law 447 = .ok (.invokevirtual 52, 3) := by decide +kernel
theorem dL_law_450 : decode cL_law 450 = .ok (.if_icmp .eq 789, 3) := by decide +kernel
theorem dL_law_453 : decode cL_law 453 = .ok (.iconst 0, 1) := by decide +kernel
theorem dL_law_454 : decode cL_law 454 = .ok (.ireturn, 1) := by decide +kernel
theorem dL_law_455 : decode cL_law 455 = .ok (.aload_n 1, 1) := by decide +kernel
theorem dL_law_456 : decode cL_law 456 = .ok (.aload_n 0, 1) := by decide +kernel
theorem dL_law_457 : decode cL_law 457 = .ok (.iload_n 3, 1) := by decide +kernel
theorem dL_law_458 : decode cL_law 458 = .ok (.iconst 1, 1) := by decide +kernel
theorem dL_law_459 : decode cL_law 459 = .ok (.iadd, 1) := by decide +kernel
theorem dL_law_460 : decode cL_law 460 = .ok (.iaload, 1) := by decide +kernel
theorem dL_law_461 : decode cL_law 461 = .ok (.invokevirtual 53, 3) := by decide +kernel
theorem dL_law_464 : decode cL_law 464 = .ok (.aload_n 2, 1) := by decide +kernel
theorem dL_law_465 : decode cL_law 465 = .ok (.aload_n 0, 1) := by decide +kernel
theorem dL_law_466 : decode cL_law 466 = .ok (.iload_n 3, 1) := by decide +kernel
theorem dL_law_467 : decode cL_law 467 = .ok (.iconst 1, 1) := by decide +kernel
theorem dL_law_468 : decode cL_law 468 = .ok (.iadd, 1) := by decide +kernel
theorem dL_law_469 : decode cL_law 469 = .ok (.iaload, 1) := by decide +kernel
theorem dL_law_470 : decode cL_law 470 = .ok (.invokevirtual 56, 3) := by decide +kernel
theorem dL_law_473 : decode cL_law 473 = .ok (.if_icmp .eq 766, 3) := by decide +kernel
theorem dL_law_476 : decode cL_law 476 = .ok (.iconst 0, 1) := by decide +kernel
theorem dL_law_477 : decode cL_law 477 = .ok (.ireturn, 1) := by decide +kernel
theorem dL_law_478 : decode cL_law 478 = .ok (.aload_n 1, 1) := by decide +kernel
theorem dL_law_479 : decode cL_law 479 = .ok (.aload_n 0, 1) := by decide +kernel
theorem dL_law_480 : decode cL_law 480 = .ok (.iload_n 3, 1) := by decide +kernel
theorem dL_law_481 : decode cL_law 481 = .ok (.iconst 1, 1) := by decide +kernel
theorem dL_law_482 : decode cL_law 482 = .ok (.iadd, 1) := by decide +kernel
theorem dL_law_483 : decode cL_law 483 = .ok (.iaload, 1) := by decide +kernel
theorem dL_law_484 : decode cL_law 484 = .ok (.invokevirtual 57, 3) := by decide +kernel
theorem dL_law_487 : decode cL_law 487 = .ok (.aload_n 2, 1) := by decide +kernel
theorem dL_law_488 : decode cL_law 488 = .ok (.aload_n 0, 1) := by decide +kernel
theorem dL_law_489 : decode cL_law 489 = .ok (.iload_n 3, 1) := by decide +kernel
theorem dL_law_490 : decode cL_law 490 = .ok (.iconst 1, 1) := by decide +kernel
theorem dL_law_491 : decode cL_law 491 = .ok (.iadd, 1) := by decide +kernel
theorem dL_law_492 : decode cL_law 492 = .ok (.iaload, 1) := by decide +kernel
theorem dL_law_493 : decode cL_law 493 = .ok (.invokevirtual 60, 3) := by decide +kernel
theorem dL_law_496 : decode cL_law 496 = .ok (.if_icmp .eq 743, 3) := by decide +kernel
theorem dL_law_499 : decode cL_law 499 = .ok (.iconst 0, 1) := by decide +kernel
theorem dL_law_500 : decode cL_law 500 = .ok (.ireturn, 1) := by decide +kernel
theorem dL_law_501 : decode cL_law 501 = .ok (.aload_n 1, 1) := by decide +kernel
theorem dL_law_502 : decode cL_law 502 = .ok (.aload_n 0, 1) := by decide +kernel
theorem dL_law_503 : decode cL_law 503 = .ok (.iload_n 3, 1) := by decide +kernel
theorem dL_law_504 : decode cL_law 504 = .ok (.iconst 1, 1) := by decide +kernel
theorem dL_law_505 : decode cL_law 505 = .ok (.iadd, 1) := by decide +kernel
theorem dL_law_506 : decode cL_law 506 = .ok (.iaload, 1) := by decide +kernel
theorem dL_law_507 : decode cL_law 507 = .ok (.invokevirtual 61, 3) := by decide +kernel
theorem dL_law_510 : decode cL_law 510 = .ok (.aload_n 2, 1) := by decide +kernel
theorem dL_law_511 : decode cL_law 511 = .ok (.aload_n 0, 1) := by decide +kernel
theorem dL_law_512 : decode cL_law 512 = .ok (.iload_n 3, 1) := by decide +kernel
theorem dL_law_513 : decode cL_law 513 = .ok (.iconst 1, 1) := by decide +kernel
theorem dL_law_514 : decode cL_law 514 = .ok (.iadd, 1) := by decide +kernel
theorem dL_law_515 : decode cL_law 515 = .ok (.iaload, 1) := by decide +kernel
theorem dL_law_516 : decode cL_law 516 = .ok (.invokevirtual 64, 3) := by decide +kernel
theorem dL_law_519 : decode cL_law 519 = .ok (.if_icmp .eq 720, 3) := by decide +kernel
theorem dL_law_522 : decode cL_law 522 = .ok (.iconst 0, 1) := by decide +kernel
theorem dL_law_523 : decode cL_law 523 = .ok (.ireturn, 1) := by decide +kernel
theorem dL_law_524 : decode cL_law 524 = .ok (.aload_n 1, 1) := by decide +kernel
theorem dL_law_525 : decode cL_law 525 = .ok (.aload_n 0, 1) := by decide +kernel
theorem dL_law_526 : decode cL_law 526 = .ok (.iload_n 3, 1) := by decide +kernel
theorem dL_law_527 : decode cL_law 527 = .ok (.iconst 1, 1) := by decide +kernel
theorem dL_law_528 : decode cL_law 528 = .ok (.iadd, 1) := by decide +kernel
theorem dL_law_529 : decode cL_law 529 = .ok (.iaload, 1) := by decide +kernel
theorem dL_law_530 : decode cL_law 530 = .ok (.invokevirtual 65, 3) := by decide +kernel
theorem dL_law_533 : decode cL_law 533 = .ok (.aload_n 2, 1) := by decide +kernel
theorem dL_law_534 : decode cL_law 534 = .ok (.aload_n 0, 1) := by decide +kernel
theorem dL_law_535 : decode cL_law 535 = .ok (.iload_n 3, 1) := by decide +kernel
theorem dL_law_536 : decode cL_law 536 = .ok (.iconst 1, 1) := by decide +kernel
theorem dL_law_537 : decode cL_law 537 = .ok (.iadd, 1) := by decide +kernel
theorem dL_law_538 : decode cL_law 538 = .ok (.iaload, 1) := by decide +kernel
theorem dL_law_539 : decode cL_law 539 = .ok (.invokevirtual 68, 3) := by decide +kernel
theorem dL_law_542 : decode cL_law 542 = .ok (.if_icmp .eq 697, 3) := by decide +kernel
theorem dL_law_545 : decode cL_law 545 = .ok (.iconst 0, 1) := by decide +kernel
theorem dL_law_546 : decode cL_law 546 = .ok (.ireturn, 1) := by decide +kernel
theorem dL_law_547 : decode cL_law 547 = .ok (.aload_n 1, 1) := by decide +kernel
theorem dL_law_548 : decode cL_law 548 = .ok (.aload_n 0, 1) := by decide +kernel
theorem dL_law_549 : decode cL_law 549 = .ok (.iload_n 3, 1) := by decide +kernel
theorem dL_law_550 : decode cL_law 550 = .ok (.iconst 1, 1) := by decide +kernel
theorem dL_law_551 : decode cL_law 551 = .ok (.iadd, 1) := by decide +kernel
theorem dL_law_552 : decode cL_law 552 = .ok (.iaload, 1) := by decide +kernel
theorem dL_law_553 : decode cL_law 553 = .ok (.invokevirtual 69, 3) := by decide +kernel
theorem dL_law_556 : decode cL_law 556 = .ok (.aload_n 2, 1) := by decide +kernel
theorem dL_law_557 : decode cL_law 557 = .ok (.aload_n 0, 1) := by decide +kernel
theorem dL_law_558 : decode cL_law 558 = .ok (.iload_n 3, 1) := by decide +kernel
theorem dL_law_559 : decode cL_law 559 = .ok (.iconst 1, 1) := by decide +kernel
theorem dL_law_560 : decode cL_law 560 = .ok (.iadd, 1) := by decide +kernel
theorem dL_law_561 : decode cL_law 561 = .ok (.iaload, 1) := by decide +kernel
theorem dL_law_562 : decode cL_law 562 = .ok (.invokevirtual 72, 3) := by decide +kernel
theorem dL_law_565 : decode cL_law 565 = .ok (.if_icmp .eq 674, 3) := by decide +kernel
theorem dL_law_568 : decode cL_law 568 = .ok (.iconst 0, 1) := by decide +kernel
theorem dL_law_569 : decode cL_law 569 = .ok (.ireturn, 1) := by decide +kernel
theorem dL_law_570 : decode cL_law 570 = .ok (.aload_n 1, 1) := by decide +kernel
theorem dL_law_571 : decode cL_law 571 = .ok (.aload_n 0, 1) := by decide +kernel
theorem dL_law_572 : decode cL_law 572 = .ok (.iload_n 3, 1) := by decide +kernel
theorem dL_law_573 : decode cL_law 573 = .ok (.iconst 1, 1) := by decide +kernel
theorem dL_law_574 : decode cL_law 574 = .ok (.iadd, 1) := by decide +kernel
theorem dL_law_575 : decode cL_law 575 = .ok (.iaload, 1) := by decide +kernel
theorem dL_law_576 : decode cL_law 576 = .ok (.invokevirtual 73, 3) := by decide +kernel
theorem dL_law_579 : decode cL_law 579 = .ok (.aload_n 2, 1) := by decide +kernel
theorem dL_law_580 : decode cL_law 580 = .ok (.aload_n 0, 1) := by decide +kernel
theorem dL_law_581 : decode cL_law 581 = .ok (.iload_n 3, 1) := by decide +kernel
theorem dL_law_582 : decode cL_law 582 = .ok (.iconst 1, 1) := by decide +kernel
theorem dL_law_583 : decode cL_law 583 = .ok (.iadd, 1) := by decide +kernel
theorem dL_law_584 : decode cL_law 584 = .ok (.iaload, 1) := by decide +kernel
theorem dL_law_585 : decode cL_law 585 = .ok (.invokevirtual 76, 3) := by decide +kernel
theorem dL_law_588 : decode cL_law 588 = .ok (.if_icmp .eq 651, 3) := by decide +kernel
theorem dL_law_591 : decode cL_law 591 = .ok (.iconst 0, 1) := by decide +kernel
theorem dL_law_592 : decode cL_law 592 = .ok (.ireturn, 1) := by decide +kernel
theorem dL_law_593 : decode cL_law 593 = .ok (.aload_n 1, 1) := by decide +kernel
theorem dL_law_594 : decode cL_law 594 = .ok (.invokevirtual 77, 3) := by decide +kernel
theorem dL_law_597 : decode cL_law 597 = .ok (.aload_n 2, 1) := by decide +kernel
theorem dL_law_598 : decode cL_law 598 = .ok (.invokevirtual 80, 3) := by decide +kernel
theorem dL_law_601 : decode cL_law 601 = .ok (.if_icmp .eq 638, 3) := by decide +kernel
theorem dL_law_604 : decode cL_law 604 = .ok (.iconst 0, 1) := by decide +kernel
theorem dL_law_605 : decode cL_law 605 = .ok (.ireturn, 1) := by decide +kernel
theorem dL_law_606 : decode cL_law 606 = .ok (.aload_n 1, 1) := by decide +kernel
theorem dL_law_607 : decode cL_law 607 = .ok (.invokevirtual 81, 3) := by decide +kernel
theorem dL_law_610 : decode cL_law 610 = .ok (.aload_n 2, 1) := by decide +kernel
theorem dL_law_611 : decode cL_law 611 = .ok (.invokevirtual 84, 3) := by decide +kernel
theorem dL_law_614 : decode cL_law 614 = .ok (.if_icmp .eq 625, 3) := by decide +kernel
theorem dL_law_617 : decode cL_law 617 = .ok (.iconst 0, 1) := by decide +kernel
theorem dL_law_618 : decode cL_law 618 = .ok (.ireturn, 1) := by decide +kernel
theorem dL_law_619 : decode cL_law 619 = .ok (.aload_n 1, 1) := by decide +kernel
theorem dL_law_620 : decode cL_law 620 = .ok (.aload_n 0, 1) := by decide +kernel
theorem dL_law_621 : decode cL_law 621 = .ok (.iload_n 3, 1) := by decide +kernel
theorem dL_law_622 : decode cL_law 622 = .ok (.iconst 1, 1) := by decide +kernel
theorem dL_law_623 : decode cL_law 623 = .ok (.iadd, 1) := by decide +kernel
theorem dL_law_624 : decode cL_law 624 = .ok (.iaload, 1) := by decide +kernel
theorem dL_law_625 : decode cL_law 625 = .ok (.aload_n 0, 1) := by decide +kernel
theorem dL_law_626 : decode cL_law 626 = .ok (.iload_n 3, 1) := by decide +kernel
theorem dL_law_627 : decode cL_law 627 = .ok (.iconst 2, 1) := by decide +kernel
theorem dL_law_628 : decode cL_law 628 = .ok (.iadd, 1) := by decide +kernel
theorem dL_law_629 : decode cL_law 629 = .ok (.iaload, 1) := by decide +kernel
theorem dL_law_630 : decode cL_law 630 = .ok (.aload_n 0, 1) := by decide +kernel
theorem dL_law_631 : decode cL_law 631 = .ok (.iload_n 3, 1) := by decide +kernel
theorem dL_law_632 : decode cL_law 632 = .ok (.iconst 3, 1) := by decide +kernel
theorem dL_law_633 : decode cL_law 633 = .ok (.iadd, 1) := by decide +kernel
theorem dL_law_634 : decode cL_law 634 = .ok (.iaload, 1) := by decide +kernel
theorem dL_law_635 : decode cL_law 635 = .ok (.invokevirtual 85, 3) := by decide +kernel
theorem dL_law_638 : decode cL_law 638 = .ok (.aload_n 2, 1) := by decide +kernel
theorem dL_law_639 : decode cL_law 639 = .ok (.aload_n 0, 1) := by decide +kernel
theorem dL_law_640 : decode cL_law 640 = .ok (.iload_n 3, 1) := by decide +kernel
theorem dL_law_641 : decode cL_law 641 = .ok (.iconst 1, 1) := by decide +kernel
theorem dL_law_642 : decode cL_law 642 = .ok (.iadd, 1) := by decide +kernel
theorem dL_law_643 : decode cL_law 643 = .ok (.iaload, 1) := by decide +kernel
theorem dL_law_644 : decode cL_law 644 = .ok (.aload_n 0, 1) := by decide +kernel
theorem dL_law_645 : decode cL_law 645 = .ok (.iload_n 3, 1) := by decide +kernel
theorem dL_law_646 : decode cL_law 646 = .ok (.iconst 2, 1) := by decide +kernel
theorem dL_law_647 : decode cL_law 647 = .ok (.iadd, 1) := by decide +kernel
theorem dL_law_648 : decode cL_law 648 = .ok (.iaload, 1) := by decide +kernel
theorem dL_law_649 : decode cL_law 649 = .ok (.aload_n 0, 1) := by decide +kernel
theorem dL_law_650 : decode cL_law 650 = .ok (.iload_n 3, 1) := by decide +kernel
theorem dL_law_651 : decode cL_law 651 = .ok (.iconst 3, 1) := by decide +kernel
theorem dL_law_652 : decode cL_law 652 = .ok (.iadd, 1) := by decide +kernel
theorem dL_law_653 : decode cL_law 653 = .ok (.iaload, 1) := by decide +kernel
theorem dL_law_654 : decode cL_law 654 = .ok (.invokevirtual 88, 3) := by decide +kernel
theorem dL_law_657 : decode cL_law 657 = .ok (.if_icmp .eq 582, 3) := by decide +kernel
theorem dL_law_660 : decode cL_law 660 = .ok (.iconst 0, 1) := by decide +kernel
theorem dL_law_661 : decode cL_law 661 = .ok (.ireturn, 1) := by decide +kernel
theorem dL_law_662 : decode cL_law 662 = .ok (.aload_n 1, 1) := by decide +kernel
theorem dL_law_663 : decode cL_law 663 = .ok (.aload_n 0, 1) := by decide +kernel
theorem dL_law_664 : decode cL_law 664 = .ok (.iload_n 3, 1) := by decide +kernel
theorem dL_law_665 : decode cL_law 665 = .ok (.iconst 1, 1) := by decide +kernel
theorem dL_law_666 : decode cL_law 666 = .ok (.iadd, 1) := by decide +kernel
theorem dL_law_667 : decode cL_law 667 = .ok (.iaload, 1) := by decide +kernel
theorem dL_law_668 : decode cL_law 668 = .ok (.invokevirtual 89, 3) := by decide +kernel
theorem dL_law_671 : decode cL_law 671 = .ok (.aload_n 2, 1) := by decide +kernel
theorem dL_law_672 : decode cL_law 672 = .ok (.aload_n 0, 1) := by decide +kernel
theorem dL_law_673 : decode cL_law 673 = .ok (.iload_n 3, 1) := by decide +kernel
theorem dL_law_674 : decode cL_law 674 = .ok (.iconst 1, 1) := by decide +kernel
theorem dL_law_675 : decode cL_law 675 = .ok (.iadd, 1) := by decide +kernel
theorem dL_law_676 : decode cL_law 676 = .ok (.iaload, 1) := by decide +kernel
theorem dL_law_677 : decode cL_law 677 = .ok (.invokevirtual 92, 3) := by decide +kernel
theorem dL_law_680 : decode cL_law 680 = .ok (.if_icmp .eq 559, 3) := by decide +kernel
theorem dL_law_683 : decode cL_law 683 = .ok (.iconst 0, 1) := by decide +kernel
theorem dL_law_684 : decode cL_law 684 = .ok (.ireturn, 1) := by decide +kernel
theorem dL_law_685 : decode cL_law 685 = .ok (.aload_n 1, 1) := by decide +kernel
theorem dL_law_686 : decode cL_law 686 = .ok (.invokevirtual 93, 3) := by decide +kernel
theorem dL_law_689 : decode cL_law 689 = .ok (.aload_n 2, 1) := by decide +kernel
theorem dL_law_690 : decode cL_law 690 = .ok (.invokevirtual 96, 3) := by decide +kernel
theorem dL_law_693 : decode cL_law 693 = .ok (.if_icmp .eq 546, 3) := by decide +kernel
theorem dL_law_696 : decode cL_law 696 = .ok (.iconst 0, 1) := by decide +kernel
theorem dL_law_697 : decode cL_law 697 = .ok (.ireturn, 1) := by decide +kernel
theorem dL_law_698 : decode cL_law 698 = .ok (.aload_n 1, 1) := by decide +kernel
theorem dL_law_699 : decode cL_law 699 = .ok (.aload_n 0, 1) := by decide +kernel
theorem dL_law_700 : decode cL_law 700 = .ok (.iload_n 3, 1) := by decide +kernel
theorem dL_law_701 : decode cL_law 701 = .ok (.iconst 1, 1) := by decide +kernel
theorem dL_law_702 : decode cL_law 702 = .ok (.iadd, 1) := by decide +kernel
theorem dL_law_703 : decode cL_law 703 = .ok (.iaload, 1) := by decide +kernel
theorem dL_law_704 : decode cL_law 704 = .ok (.invokevirtual 97, 3) := by decide +kernel
theorem dL_law_707 : decode cL_law 707 = .ok (.aload_n 2, 1) := by decide +kernel
theorem dL_law_708 : decode cL_law 708 = .ok (.aload_n 0, 1) := by decide +kernel
theorem dL_law_709 : decode cL_law 709 = .ok (.iload_n 3, 1) := by decide +kernel
theorem dL_law_710 : decode cL_law 710 = .ok (.iconst 1, 1) := by decide +kernel
theorem dL_law_711 : decode cL_law 711 = .ok (.iadd, 1) := by decide +kernel
theorem dL_law_712 : decode cL_law 712 = .ok (.iaload, 1) := by decide +kernel
theorem dL_law_713 : decode cL_law 713 = .ok (.invokevirtual 100, 3) := by decide +kernel
theorem dL_law_716 : decode cL_law 716 = .ok (.if_icmp .eq 523, 3) := by decide +kernel
theorem dL_law_719 : decode cL_law 719 = .ok (.iconst 0, 1) := by decide +kernel
theorem dL_law_720 : decode cL_law 720 = .ok (.ireturn, 1) := by decide +kernel
theorem dL_law_721 : decode cL_law 721 = .ok (.aload_n 1, 1) := by decide +kernel
theorem dL_law_722 : decode cL_law 722 = .ok (.invokevirtual 101, 3) := by decide +kernel
theorem dL_law_725 : decode cL_law 725 = .ok (.aload_n 2, 1) := by decide +kernel
theorem dL_law_726 : decode cL_law 726 = .ok (.invokevirtual 104, 3) := by decide +kernel
theorem dL_law_729 : decode cL_law 729 = .ok (.if_icmp .eq 510, 3) := by decide +kernel
theorem dL_law_732 : decode cL_law 732 = .ok (.iconst 0, 1) := by decide +kernel
theorem dL_law_733 : decode cL_law 733 = .ok (.ireturn, 1) := by decide +kernel
theorem dL_law_734 : decode cL_law 734 = .ok (.aload_n 1, 1) := by decide +kernel
theorem dL_law_735 : decode cL_law 735 = .ok (.aload_n 0, 1) := by decide +kernel
theorem dL_law_736 : decode cL_law 736 = .ok (.iload_n 3, 1) := by decide +kernel
theorem dL_law_737 : decode cL_law 737 = .ok (.iconst 1, 1) := by decide +kernel
theorem dL_law_738 : decode cL_law 738 = .ok (.iadd, 1) := by decide +kernel
theorem dL_law_739 : decode cL_law 739 = .ok (.iaload, 1) := by decide +kernel
theorem dL_law_740 : decode cL_law 740 = .ok (.invokevirtual 105, 3) := by decide +kernel
theorem dL_law_743 : decode cL_law 743 = .ok (.aload_n 2, 1) := by decide +kernel
theorem dL_law_744 : decode cL_law 744 = .ok (.aload_n 0, 1) := by decide +kernel
theorem dL_law_745 : decode cL_law 745 = .ok (.iload_n 3, 1) := by decide +kernel
theorem dL_law_746 : decode cL_law 746 = .ok (.iconst 1, 1) := by decide +kernel
theorem dL_law_747 : decode cL_law 747 = .ok (.iadd, 1) := by decide +kernel
theorem dL_law_748 : decode cL_law 748 = .ok (.iaload, 1) := by decide +kernel
theorem dL_law_749 : decode cL_law 749 = .ok (.invokevirtual 108, 3) := by decide +kernel
theorem dL_law_752 : decode cL_law 752 = .ok (.if_icmp .eq 487, 3) := by decide +kernel
theorem dL_law_755 : decode cL_law 755 = .ok (.iconst 0, 1) := by decide +kernel
theorem dL_law_756 : decode cL_law 756 = .ok (.ireturn, 1) := by decide +kernel
theorem dL_law_757 : decode cL_law 757 = .ok (.aload_n 1, 1) := by decide +kernel
theorem dL_law_758 : decode cL_law 758 = .ok (.aload_n 0, 1) := by decide +kernel
theorem dL_law_759 : decode cL_law 759 = .ok (.iload_n 3, 1) := by decide +kernel
theorem dL_law_760 : decode cL_law 760 = .ok (.iconst 1, 1) := by decide +kernel
theorem dL_law_761 : decode cL_law 761 = .ok (.iadd, 1) := by decide +kernel
theorem dL_law_762 : decode cL_law 762 = .ok (.iaload, 1) := by decide +kernel
theorem dL_law_763 : decode cL_law 763 = .ok (.invokevirtual 109, 3) := by decide +kernel
theorem dL_law_766 : decode cL_law 766 = .ok (.aload_n 2, 1) := by decide +kernel
theorem dL_law_767 : decode cL_law 767 = .ok (.aload_n 0, 1) := by decide +kernel
theorem dL_law_768 : decode cL_law 768 = .ok (.iload_n 3, 1) := by decide +kernel
theorem dL_law_769 : decode cL_law 769 = .ok (.iconst 1, 1) := by decide +kernel
theorem dL_law_770 : decode cL_law 770 = .ok (.iadd, 1) := by decide +kernel
theorem dL_law_771 : decode cL_law 771 = .ok (.iaload, 1) := by decide +kernel
theorem dL_law_772 : decode cL_law 772 = .ok (.invokevirtual 112, 3) := by decide +kernel
theorem dL_law_775 : decode cL_law 775 = .ok (.if_icmp .eq 464, 3) := by decide +kernel
theorem dL_law_778 : decode cL_law 778 = .ok (.iconst 0, 1) := by decide +kernel
theorem dL_law_779 : decode cL_law 779 = .ok (.ireturn, 1) := by decide +kernel
theorem dL_law_780 : decode cL_law 780 = .ok (.aload_n 1, 1) := by decide +kernel
theorem dL_law_781 : decode cL_law 781 = .ok (.aload_n 0, 1) := by decide +kernel
theorem dL_law_782 : decode cL_law 782 = .ok (.iload_n 3, 1) := by decide +kernel
theorem dL_law_783 : decode cL_law 783 = .ok (.iconst 1, 1) := by decide +kernel
theorem dL_law_784 : decode cL_law 784 = .ok (.iadd, 1) := by decide +kernel
theorem dL_law_785 : decode cL_law 785 = .ok (.iaload, 1) := by decide +kernel
theorem dL_law_786 : decode cL_law 786 = .ok (.invokevirtual 113, 3) := by decide +kernel
theorem dL_law_789 : decode cL_law 789 = .ok (.aload_n 2, 1) := by decide +kernel
theorem dL_law_790 : decode cL_law 790 = .ok (.aload_n 0, 1) := by decide +kernel
theorem dL_law_791 : decode cL_law 791 = .ok (.iload_n 3, 1) := by decide +kernel
theorem dL_law_792 : decode cL_law 792 = .ok (.iconst 1, 1) := by decide +kernel
theorem dL_law_793 : decode cL_law 793 = .ok (.iadd, 1) := by decide +kernel
theorem dL_law_794 : decode cL_law 794 = .ok (.iaload, 1) := by decide +kernel
theorem dL_law_795 : decode cL_law 795 = .ok (.invokevirtual 116, 3) := by decide +kernel
theorem dL_law_798 : decode cL_law 798 = .ok (.if_icmp .eq 441, 3) := by decide +kernel
theorem dL_law_801 : decode cL_law 801 = .ok (.iconst 0, 1) := by decide +kernel
theorem dL_law_802 : decode cL_law 802 = .ok (.ireturn, 1) := by decide +kernel
theorem dL_law_803 : decode cL_law 803 = .ok (.aload_n 1, 1) := by decide +kernel
theorem dL_law_804 : decode cL_law 804 = .ok (.aload_n 0, 1) := by decide +kernel
theorem dL_law_805 : decode cL_law 805 = .ok (.iload_n 3, 1) := by decide +kernel
theorem dL_law_806 : decode cL_law 806 = .ok (.iconst 1, 1) := by decide +kernel
theorem dL_law_807 : decode cL_law 807 = .ok (.iadd, 1) := by decide +kernel
theorem dL_law_808 : decode cL_law 808 = .ok (.iaload, 1) := by decide +kernel
theorem dL_law_809 : decode cL_law 809 = .ok (.invokevirtual 117, 3) := by decide +kernel
theorem dL_law_812 : decode cL_law 812 = .ok (.aload_n 2, 1) := by decide +kernel
theorem dL_law_813 : decode cL_law 813 = .ok (.aload_n 0, 1) := by decide +kernel
theorem dL_law_814 : decode cL_law 814 = .ok (.iload_n 3, 1) := by decide +kernel
theorem dL_law_815 : decode cL_law 815 = .ok (.iconst 1, 1) := by decide +kernel
theorem dL_law_816 : decode cL_law 816 = .ok (.iadd, 1) := by decide +kernel
theorem dL_law_817 : decode cL_law 817 = .ok (.iaload, 1) := by decide +kernel
theorem dL_law_818 : decode cL_law 818 = .ok (.invokevirtual 120, 3) := by decide +kernel
theorem dL_law_821 : decode cL_law 821 = .ok (.if_icmp .eq 418, 3) := by decide +kernel
theorem dL_law_824 : decode cL_law 824 = .ok (.iconst 0, 1) := by decide +kernel
theorem dL_law_825 : decode cL_law 825 = .ok (.ireturn, 1) := by decide +kernel
theorem dL_law_826 : decode cL_law 826 = .ok (.aload_n 1, 1) := by decide +kernel
theorem dL_law_827 : decode cL_law 827 = .ok (.aload_n 0, 1) := by decide +kernel
theorem dL_law_828 : decode cL_law 828 = .ok (.iload_n 3, 1) := by decide +kernel
theorem dL_law_829 : decode cL_law 829 = .ok (.iconst 1, 1) := by decide +kernel
theorem dL_law_830 : decode cL_law 830 = .ok (.iadd, 1) := by decide +kernel
theorem dL_law_831 : decode cL_law 831 = .ok (.iaload, 1) := by decide +kernel
theorem dL_law_832 : decode cL_law 832 = .ok (.aload_n 0, 1) := by decide +kernel
theorem dL_law_833 : decode cL_law 833 = .ok (.iload_n 3, 1) := by decide +kernel
theorem dL_law_834 : decode cL_law 834 = .ok (.iconst 2, 1) := by decide +kernel
theorem dL_law_835 : decode cL_law 835 = .ok (.iadd, 1) := by decide +kernel
theorem dL_law_836 : decode cL_law 836 = .ok (.iaload, 1) := by decide +kernel
theorem dL_law_837 : decode cL_law 837 = .ok (.invokevirtual 121, 3) := by decide +kernel
theorem dL_law_840 : decode cL_law 840 = .ok (.aload_n 2, 1) := by decide +kernel
theorem dL_law_841 : decode cL_law 841 = .ok (.aload_n 0, 1) := by decide +kernel
theorem dL_law_842 : decode cL_law 842 = .ok (.iload_n 3, 1) := by decide +kernel
theorem dL_law_843 : decode cL_law 843 = .ok (.iconst 1, 1) := by decide +kernel
theorem dL_law_844 : decode cL_law 844 = .ok (.iadd, 1) := by decide +kernel
theorem dL_law_845 : decode cL_law 845 = .ok (.iaload, 1) := by decide +kernel
theorem dL_law_846 : decode cL_law 846 = .ok (.aload_n 0, 1) := by decide +kernel
theorem dL_law_847 : decode cL_law 847 = .ok (.iload_n 3, 1) := by decide +kernel
theorem dL_law_848 : decode cL_law 848 = .ok (.iconst 2, 1) := by decide +kernel
theorem dL_law_849 : decode cL_law 849 = .ok (.iadd, 1) := by decide +kernel
theorem dL_law_850 : decode cL_law 850 = .ok (.iaload, 1) := by decide +kernel
theorem dL_law_851 : decode cL_law 851 = .ok (.invokevirtual 124, 3) := by decide +kernel
theorem dL_law_854 : decode cL_law 854 = .ok (.if_icmp .eq 385, 3) := by decide +kernel
theorem dL_law_857 : decode cL_law 857 = .ok (.iconst 0, 1) := by decide +kernel
theorem dL_law_858 : decode cL_law 858 = .ok (.ireturn, 1) := by decide +kernel
theorem dL_law_859 : decode cL_law 859 = .ok (.aload_n 1, 1) := by decide +kernel
theorem dL_law_860 : decode cL_law 860 = .ok (.invokevirtual 125, 3) := by decide +kernel
theorem dL_law_863 : decode cL_law 863 = .ok (.aload_n 2, 1) := by decide +kernel
theorem dL_law_864 : decode cL_law 864 = .ok (.invokevirtual 128, 3) := by decide +kernel
theorem dL_law_867 : decode cL_law 867 = .ok (.if_icmp .eq 372, 3) := by decide +kernel
theorem dL_law_870 : decode cL_law 870 = .ok (.iconst 0, 1) := by decide +kernel
theorem dL_law_871 : decode cL_law 871 = .ok (.ireturn, 1) := by decide +kernel
theorem dL_law_872 : decode cL_law 872 = .ok (.aload_n 1, 1) := by decide +kernel
theorem dL_law_873 : decode cL_law 873 = .ok (.invokevirtual 129, 3) := by decide +kernel
theorem dL_law_876 : decode cL_law 876 = .ok (.aload_n 2, 1) := by decide +kernel
theorem dL_law_877 : decode cL_law 877 = .ok (.invokevirtual 132, 3) := by decide +kernel
theorem dL_law_880 : decode cL_law 880 = .ok (.if_icmp .eq 359, 3) := by decide +kernel
theorem dL_law_883 : decode cL_law 883 = .ok (.iconst 0, 1) := by decide +kernel
theorem dL_law_884 : decode cL_law 884 = .ok (.ireturn, 1) := by decide +kernel
theorem dL_law_885 : decode cL_law 885 = .ok (.aload_n 1, 1) := by decide +kernel
theorem dL_law_886 : decode cL_law 886 = .ok (.aload_n 0, 1) := by decide +kernel
theorem dL_law_887 : decode cL_law 887 = .ok (.iload_n 3, 1) := by decide +kernel
theorem dL_law_888 : decode cL_law 888 = .ok (.iconst 1, 1) := by decide +kernel
theorem dL_law_889 : decode cL_law 889 = .ok (.iadd, 1) := by decide +kernel
theorem dL_law_890 : decode cL_law 890 = .ok (.iaload, 1) := by decide +kernel
theorem dL_law_891 : decode cL_law 891 = .ok (.aload_n 0, 1) := by decide +kernel
theorem dL_law_892 : decode cL_law 892 = .ok (.iload_n 3, 1) := by decide +kernel
theorem dL_law_893 : decode cL_law 893 = .ok (.iconst 2, 1) := by decide +kernel
theorem dL_law_894 : decode cL_law 894 = .ok (.iadd, 1) := by decide +kernel
theorem dL_law_895 : decode cL_law 895 = .ok (.iaload, 1) := by decide +kernel
theorem dL_law_896 : decode cL_law 896 = .ok (.aload_n 0, 1) := by decide +kernel
theorem dL_law_897 : decode cL_law 897 = .ok (.iload_n 3, 1) := by decide +kernel
theorem dL_law_898 : decode cL_law 898 = .ok (.iconst 3, 1) := by decide +kernel
theorem dL_law_899 : decode cL_law 899 = .ok (.iadd, 1) := by decide +kernel
theorem dL_law_900 : decode cL_law 900 = .ok (.iaload, 1) := by decide +kernel
theorem dL_law_901 : decode cL_law 901 = .ok (.invokevirtual 133, 3) := by decide +kernel
theorem dL_law_904 : decode cL_law 904 = .ok (.aload_n 2, 1) := by decide +kernel
theorem dL_law_905 : decode cL_law 905 = .ok (.aload_n 0, 1) := by decide +kernel
theorem dL_law_906 : decode cL_law 906 = .ok (.iload_n 3, 1) := by decide +kernel
theorem dL_law_907 : decode cL_law 907 = .ok (.iconst 1, 1) := by decide +kernel
theorem dL_law_908 : decode cL_law 908 = .ok (.iadd, 1) := by decide +kernel
theorem dL_law_909 : decode cL_law 909 = .ok (.iaload, 1) := by decide +kernel
theorem dL_law_910 : decode cL_law 910 = .ok (.aload_n 0, 1) := by decide +kernel
theorem dL_law_911 : decode cL_law 911 = .ok (.iload_n 3, 1) := by decide +kernel
theorem dL_law_912 : decode cL_law 912 = .ok (.iconst 2, 1) := by decide +kernel
theorem dL_law_913 : decode cL_law 913 = .ok (.iadd, 1) := by decide +kernel
theorem dL_law_914 : decode cL_law 914 = .ok (.iaload, 1) := by decide +kernel
theorem dL_law_915 : decode cL_law 915 = .ok (.aload_n 0, 1) := by decide +kernel
theorem dL_law_916 : decode cL_law 916 = .ok (.iload_n 3, 1) := by decide +kernel
theorem dL_law_917 : decode cL_law 917 = .ok (.iconst 3, 1) := by decide +kernel
theorem dL_law_918 : decode cL_law 918 = .ok (.iadd, 1) := by decide +kernel
theorem dL_law_919 : decode cL_law 919 = .ok (.iaload, 1) := by decide +kernel
theorem dL_law_920 : decode cL_law 920 = .ok (.invokevirtual 136, 3) := by decide +kernel
theorem dL_law_923 : decode cL_law 923 = .ok (.if_icmp .eq 316, 3) := by decide +kernel
theorem dL_law_926 : decode cL_law 926 = .ok (.iconst 0, 1) := by decide +kernel
theorem dL_law_927 : decode cL_law 927 = .ok (.ireturn, 1) := by decide +kernel
theorem dL_law_928 : decode cL_law 928 = .ok (.aload_n 1, 1) := by decide +kernel
theorem dL_law_929 : decode cL_law 929 = .ok (.aload_n 0, 1) := by decide +kernel
theorem dL_law_930 : decode cL_law 930 = .ok (.iload_n 3, 1) := by decide +kernel
theorem dL_law_931 : decode cL_law 931 = .ok (.iconst 1, 1) := by decide +kernel
theorem dL_law_932 : decode cL_law 932 = .ok (.iadd, 1) := by decide +kernel
theorem dL_law_933 : decode cL_law 933 = .ok (.iaload, 1) := by decide +kernel
theorem dL_law_934 : decode cL_law 934 = .ok (.aload_n 0, 1) := by decide +kernel
theorem dL_law_935 : decode cL_law 935 = .ok (.iload_n 3, 1) := by decide +kernel
theorem dL_law_936 : decode cL_law 936 = .ok (.iconst 2, 1) := by decide +kernel
theorem dL_law_937 : decode cL_law 937 = .ok (.iadd, 1) := by decide +kernel
theorem dL_law_938 : decode cL_law 938 = .ok (.iaload, 1) := by decide +kernel
theorem dL_law_939 : decode cL_law 939 = .ok (.aload_n 0, 1) := by decide +kernel
theorem dL_law_940 : decode cL_law 940 = .ok (.iload_n 3, 1) := by decide +kernel
theorem dL_law_941 : decode cL_law 941 = .ok (.iconst 3, 1) := by decide +kernel
theorem dL_law_942 : decode cL_law 942 = .ok (.iadd, 1) := by decide +kernel
theorem dL_law_943 : decode cL_law 943 = .ok (.iaload, 1) := by decide +kernel
theorem dL_law_944 : decode cL_law 944 = .ok (.i2l, 1) := by decide +kernel
theorem dL_law_945 : decode cL_law 945 = .ok (.bipush 32, 2) := by decide +kernel
theorem dL_law_947 : decode cL_law 947 = .ok (.lshl, 1) := by decide +kernel
theorem dL_law_948 : decode cL_law 948 = .ok (.aload_n 0, 1) := by decide +kernel
theorem dL_law_949 : decode cL_law 949 = .ok (.iload_n 3, 1) := by decide +kernel
theorem dL_law_950 : decode cL_law 950 = .ok (.iconst 4, 1) := by decide +kernel
theorem dL_law_951 : decode cL_law 951 = .ok (.iadd, 1) := by decide +kernel
theorem dL_law_952 : decode cL_law 952 = .ok (.iaload, 1) := by decide +kernel
theorem dL_law_953 : decode cL_law 953 = .ok (.i2l, 1) := by decide +kernel
theorem dL_law_954 : decode cL_law 954 = .ok (.ldc2_w 137, 3) := by decide +kernel
theorem dL_law_957 : decode cL_law 957 = .ok (.land, 1) := by decide +kernel
theorem dL_law_958 : decode cL_law 958 = .ok (.lor, 1) := by decide +kernel
theorem dL_law_959 : decode cL_law 959 = .ok (.invokevirtual 139, 3) := by decide +kernel
theorem dL_law_962 : decode cL_law 962 = .ok (.aload_n 2, 1) := by decide +kernel
theorem dL_law_963 : decode cL_law 963 = .ok (.aload_n 0, 1) := by decide +kernel
theorem dL_law_964 : decode cL_law 964 = .ok (.iload_n 3, 1) := by decide +kernel
theorem dL_law_965 : decode cL_law 965 = .ok (.iconst 1, 1) := by decide +kernel
theorem dL_law_966 : decode cL_law 966 = .ok (.iadd, 1) := by decide +kernel
theorem dL_law_967 : decode cL_law 967 = .ok (.iaload, 1) := by decide +kernel
theorem dL_law_968 : decode cL_law 968 = .ok (.aload_n 0, 1) := by decide +kernel
theorem dL_law_969 : decode cL_law 969 = .ok (.iload_n 3, 1) := by decide +kernel
theorem dL_law_970 : decode cL_law 970 = .ok (.iconst 2, 1) := by decide +kernel
theorem dL_law_971 : decode cL_law 971 = .ok (.iadd, 1) := by decide +kernel
theorem dL_law_972 : decode cL_law 972 = .ok (.iaload, 1) := by decide +kernel
theorem dL_law_973 : decode cL_law 973 = .ok (.aload_n 0, 1) := by decide +kernel
theorem dL_law_974 : decode cL_law 974 = .ok (.iload_n 3, 1) := by decide +kernel
theorem dL_law_975 : decode cL_law 975 = .ok (.iconst 3, 1) := by decide +kernel
theorem dL_law_976 : decode cL_law 976 = .ok (.iadd, 1) := by decide +kernel
theorem dL_law_977 : decode cL_law 977 = .ok (.iaload, 1) := by decide +kernel
theorem dL_law_978 : decode cL_law 978 = .ok (.i2l, 1) := by decide +kernel
theorem dL_law_979 : decode cL_law 979 = .ok (.bipush 32, 2) := by decide +kernel
theorem dL_law_981 : decode cL_law 981 = .ok (.lshl, 1) := by decide +kernel
theorem dL_law_982 : decode cL_law 982 = .ok (.aload_n 0, 1) := by decide +kernel
theorem dL_law_983 : decode cL_law 983 = .ok (.iload_n 3, 1) := by decide +kernel
theorem dL_law_984 : decode cL_law 984 = .ok (.iconst 4, 1) := by decide +kernel
theorem dL_law_985 : decode cL_law 985 = .ok (.iadd, 1) := by decide +kernel
theorem dL_law_986 : decode cL_law 986 = .ok (.iaload, 1) := by decide +kernel
theorem dL_law_987 : decode cL_law 987 = .ok (.i2l, 1) := by decide +kernel
theorem dL_law_988 : decode cL_law 988 = .ok (.ldc2_w 137, 3) := by decide +kernel
theorem dL_law_991 : decode cL_law 991 = .ok (.land, 1) := by decide +kernel
theorem dL_law_992 : decode cL_law 992 = .ok (.lor, 1) := by decide +kernel
theorem dL_law_993 : decode cL_law 993 = .ok (.invokevirtual 143, 3) := by decide +kernel
theorem dL_law_996 : decode cL_law 996 = .ok (.lcmp, 1) := by decide +kernel
theorem dL_law_997 : decode cL_law 997 = .ok (.ifCond .eq 242, 3) := by decide +kernel
theorem dL_law_1000 : decode cL_law 1000 = .ok (.iconst 0, 1) := by decide +kernel
theorem dL_law_1001 : decode cL_law 1001 = .ok (.ireturn, 1) := by decide +kernel
theorem dL_law_1002 : decode cL_law 1002 = .ok (.aload_n 1, 1) := by decide +kernel
theorem dL_law_1003 : decode cL_law 1003 = .ok (.aload_n 0, 1) := by decide +kernel
theorem dL_law_1004 : decode cL_law 1004 = .ok (.iload_n 3, 1) := by decide +kernel
theorem dL_law_1005 : decode cL_law 1005 = .ok (.iconst 1, 1) := by decide +kernel
theorem dL_law_1006 : decode cL_law 1006 = .ok (.iadd, 1) := by decide +kernel
theorem dL_law_1007 : decode cL_law 1007 = .ok (.iaload, 1) := by decide +kernel
theorem dL_law_1008 : decode cL_law 1008 = .ok (.aload_n 0, 1) := by decide +kernel
theorem dL_law_1009 : decode cL_law 1009 = .ok (.iload_n 3, 1) := by decide +kernel
theorem dL_law_1010 : decode cL_law 1010 = .ok (.iconst 2, 1) := by decide +kernel
theorem dL_law_1011 : decode cL_law 1011 = .ok (.iadd, 1) := by decide +kernel
theorem dL_law_1012 : decode cL_law 1012 = .ok (.iaload, 1) := by decide +kernel
theorem dL_law_1013 : decode cL_law 1013 = .ok (.aload_n 0, 1) := by decide +kernel
theorem dL_law_1014 : decode cL_law 1014 = .ok (.iload_n 3, 1) := by decide +kernel
theorem dL_law_1015 : decode cL_law 1015 = .ok (.iconst 3, 1) := by decide +kernel
theorem dL_law_1016 : decode cL_law 1016 = .ok (.iadd, 1) := by decide +kernel
theorem dL_law_1017 : decode cL_law 1017 = .ok (.iaload, 1) := by decide +kernel
theorem dL_law_1018 : decode cL_law 1018 = .ok (.aload_n 0, 1) := by decide +kernel
theorem dL_law_1019 : decode cL_law 1019 = .ok (.iload_n 3, 1) := by decide +kernel
theorem dL_law_1020 : decode cL_law 1020 = .ok (.iconst 4, 1) := by decide +kernel
theorem dL_law_1021 : decode cL_law 1021 = .ok (.iadd, 1) := by decide +kernel
theorem dL_law_1022 : decode cL_law 1022 = .ok (.iaload, 1) := by decide +kernel
theorem dL_law_1023 : decode cL_law 1023 = .ok (.aload_n 0, 1) := by decide +kernel
theorem dL_law_1024 : decode cL_law 1024 = .ok (.iload_n 3, 1) := by decide +kernel
theorem dL_law_1025 : decode cL_law 1025 = .ok (.iconst 5, 1) := by decide +kernel
theorem dL_law_1026 : decode cL_law 1026 = .ok (.iadd, 1) := by decide +kernel
theorem dL_law_1027 : decode cL_law 1027 = .ok (.iaload, 1) := by decide +kernel
theorem dL_law_1028 : decode cL_law 1028 = .ok (.invokevirtual 144, 3) := by decide +kernel
theorem dL_law_1031 : decode cL_law 1031 = .ok (.aload_n 2, 1) := by decide +kernel
theorem dL_law_1032 : decode cL_law 1032 = .ok (.aload_n 0, 1) := by decide +kernel
theorem dL_law_1033 : decode cL_law 1033 = .ok (.iload_n 3, 1) := by decide +kernel
theorem dL_law_1034 : decode cL_law 1034 = .ok (.iconst 1, 1) := by decide +kernel
theorem dL_law_1035 : decode cL_law 1035 = .ok (.iadd, 1) := by decide +kernel
theorem dL_law_1036 : decode cL_law 1036 = .ok (.iaload, 1) := by decide +kernel
theorem dL_law_1037 : decode cL_law 1037 = .ok (.aload_n 0, 1) := by decide +kernel
theorem dL_law_1038 : decode cL_law 1038 = .ok (.iload_n 3, 1) := by decide +kernel
theorem dL_law_1039 : decode cL_law 1039 = .ok (.iconst 2, 1) := by decide +kernel
theorem dL_law_1040 : decode cL_law 1040 = .ok (.iadd, 1) := by decide +kernel
theorem dL_law_1041 : decode cL_law 1041 = .ok (.iaload, 1) := by decide +kernel
theorem dL_law_1042 : decode cL_law 1042 = .ok (.aload_n 0, 1) := by decide +kernel
theorem dL_law_1043 : decode cL_law 1043 = .ok (.iload_n 3, 1) := by decide +kernel
theorem dL_law_1044 : decode cL_law 1044 = .ok (.iconst 3, 1) := by decide +kernel
theorem dL_law_1045 : decode cL_law 1045 = .ok (.iadd, 1) := by decide +kernel
theorem dL_law_1046 : decode cL_law 1046 = .ok (.iaload, 1) := by decide +kernel
theorem dL_law_1047 : decode cL_law 1047 = .ok (.aload_n 0, 1) := by decide +kernel
theorem dL_law_1048 : decode cL_law 1048 = .ok (.iload_n 3, 1) := by decide +kernel
theorem dL_law_1049 : decode cL_law 1049 = .ok (.iconst 4, 1) := by decide +kernel
theorem dL_law_1050 : decode cL_law 1050 = .ok (.iadd, 1) := by decide +kernel
theorem dL_law_1051 : decode cL_law 1051 = .ok (.iaload, 1) := by decide +kernel
theorem dL_law_1052 : decode cL_law 1052 = .ok (.aload_n 0, 1) := by decide +kernel
theorem dL_law_1053 : decode cL_law 1053 = .ok (.iload_n 3, 1) := by decide +kernel
theorem dL_law_1054 : decode cL_law 1054 = .ok (.iconst 5, 1) := by decide +kernel
theorem dL_law_1055 : decode cL_law 1055 = .ok (.iadd, 1) := by decide +kernel
theorem dL_law_1056 : decode cL_law 1056 = .ok (.iaload, 1) := by decide +kernel
theorem dL_law_1057 : decode cL_law 1057 = .ok (.invokevirtual 148, 3) := by decide +kernel
theorem dL_law_1060 : decode cL_law 1060 = .ok (.if_icmp .eq 179, 3) := by decide +kernel
theorem dL_law_1063 : decode cL_law 1063 = .ok (.iconst 0, 1) := by decide +kernel
theorem dL_law_1064 : decode cL_law 1064 = .ok (.ireturn, 1) := by decide +kernel
theorem dL_law_1065 : decode cL_law 1065 = .ok (.aload_n 1, 1) := by decide +kernel
theorem dL_law_1066 : decode cL_law 1066 = .ok (.aload_n 0, 1) := by decide +kernel
theorem dL_law_1067 : decode cL_law 1067 = .ok (.iload_n 3, 1) := by decide +kernel
theorem dL_law_1068 : decode cL_law 1068 = .ok (.iconst 1, 1) := by decide +kernel
theorem dL_law_1069 : decode cL_law 1069 = .ok (.iadd, 1) := by decide +kernel
theorem dL_law_1070 : decode cL_law 1070 = .ok (.iaload, 1) := by decide +kernel
theorem dL_law_1071 : decode cL_law 1071 = .ok (.invokevirtual 149, 3) := by decide +kernel
theorem dL_law_1074 : decode cL_law 1074 = .ok (.aload_n 2, 1) := by decide +kernel
theorem dL_law_1075 : decode cL_law 1075 = .ok (.aload_n 0, 1) := by decide +kernel
theorem dL_law_1076 : decode cL_law 1076 = .ok (.iload_n 3, 1) := by decide +kernel
theorem dL_law_1077 : decode cL_law 1077 = .ok (.iconst 1, 1) := by decide +kernel
theorem dL_law_1078 : decode cL_law 1078 = .ok (.iadd, 1) := by decide +kernel
theorem dL_law_1079 : decode cL_law 1079 = .ok (.iaload, 1) := by decide +kernel
theorem dL_law_1080 : decode cL_law 1080 = .ok (.invokevirtual 152, 3) := by decide +kernel
theorem dL_law_1083 : decode cL_law 1083 = .ok (.if_icmp .eq 156, 3) := by decide +kernel
theorem dL_law_1086 : decode cL_law 1086 = .ok (.iconst 0, 1) := by decide +kernel
theorem dL_law_1087 : decode cL_law 1087 = .ok (.ireturn, 1) := by decide +kernel
theorem dL_law_1088 : decode cL_law 1088 = .ok (.aload_n 1, 1) := by decide +kernel
theorem dL_law_1089 : decode cL_law 1089 = .ok (.aload_n 0, 1) := by decide +kernel
theorem dL_law_1090 : decode cL_law 1090 = .ok (.iload_n 3, 1) := by decide +kernel
theorem dL_law_1091 : decode cL_law 1091 = .ok (.iconst 1, 1) := by decide +kernel
theorem dL_law_1092 : decode cL_law 1092 = .ok (.iadd, 1) := by decide +kernel
theorem dL_law_1093 : decode cL_law 1093 = .ok (.iaload, 1) := by decide +kernel
theorem dL_law_1094 : decode cL_law 1094 = .ok (.aload_n 0, 1) := by decide +kernel
theorem dL_law_1095 : decode cL_law 1095 = .ok (.iload_n 3, 1) := by decide +kernel
theorem dL_law_1096 : decode cL_law 1096 = .ok (.iconst 2, 1) := by decide +kernel
theorem dL_law_1097 : decode cL_law 1097 = .ok (.iadd, 1) := by decide +kernel
theorem dL_law_1098 : decode cL_law 1098 = .ok (.iaload, 1) := by decide +kernel
theorem dL_law_1099 : decode cL_law 1099 = .ok (.invokevirtual 153, 3) := by decide +kernel
theorem dL_law_1102 : decode cL_law 1102 = .ok (.aload_n 2, 1) := by decide +kernel
theorem dL_law_1103 : decode cL_law 1103 = .ok (.aload_n 0, 1) := by decide +kernel
theorem dL_law_1104 : decode cL_law 1104 = .ok (.iload_n 3, 1) := by decide +kernel
theorem dL_law_1105 : decode cL_law 1105 = .ok (.iconst 1, 1) := by decide +kernel
theorem dL_law_1106 : decode cL_law 1106 = .ok (.iadd, 1) := by decide +kernel
theorem dL_law_1107 : decode cL_law 1107 = .ok (.iaload, 1) := by decide +kernel
theorem dL_law_1108 : decode cL_law 1108 = .ok (.aload_n 0, 1) := by decide +kernel
theorem dL_law_1109 : decode cL_law 1109 = .ok (.iload_n 3, 1) := by decide +kernel
theorem dL_law_1110 : decode cL_law 1110 = .ok (.iconst 2, 1) := by decide +kernel
theorem dL_law_1111 : decode cL_law 1111 = .ok (.iadd, 1) := by decide +kernel
theorem dL_law_1112 : decode cL_law 1112 = .ok (.iaload, 1) := by decide +kernel
theorem dL_law_1113 : decode cL_law 1113 = .ok (.invokevirtual 156, 3) := by decide +kernel
theorem dL_law_1116 : decode cL_law 1116 = .ok (.if_icmp .eq 123, 3) := by decide +kernel
theorem dL_law_1119 : decode cL_law 1119 = .ok (.iconst 0, 1) := by decide +kernel
theorem dL_law_1120 : decode cL_law 1120 = .ok (.ireturn, 1) := by decide +kernel
theorem dL_law_1121 : decode cL_law 1121 = .ok (.aload_n 1, 1) := by decide +kernel
theorem dL_law_1122 : decode cL_law 1122 = .ok (.aload_n 0, 1) := by decide +kernel
theorem dL_law_1123 : decode cL_law 1123 = .ok (.iload_n 3, 1) := by decide +kernel
theorem dL_law_1124 : decode cL_law 1124 = .ok (.iconst 1, 1) := by decide +kernel
theorem dL_law_1125 : decode cL_law 1125 = .ok (.iadd, 1) := by decide +kernel
theorem dL_law_1126 : decode cL_law 1126 = .ok (.iaload, 1) := by decide +kernel
theorem dL_law_1127 : decode cL_law 1127 = .ok (.aload_n 0, 1) := by decide +kernel
theorem dL_law_1128 : decode cL_law 1128 = .ok (.iload_n 3, 1) := by decide +kernel
theorem dL_law_1129 : decode cL_law 1129 = .ok (.iconst 2, 1) := by decide +kernel
theorem dL_law_1130 : decode cL_law 1130 = .ok (.iadd, 1) := by decide +kernel
theorem dL_law_1131 : decode cL_law 1131 = .ok (.iaload, 1) := by decide +kernel
theorem dL_law_1132 : decode cL_law 1132 = .ok (.invokevirtual 157, 3) := by decide +kernel
theorem dL_law_1135 : decode cL_law 1135 = .ok (.aload_n 2, 1) := by decide +kernel
theorem dL_law_1136 : decode cL_law 1136 = .ok (.aload_n 0, 1) := by decide +kernel
theorem dL_law_1137 : decode cL_law 1137 = .ok (.iload_n 3, 1) := by decide +kernel
theorem dL_law_1138 : decode cL_law 1138 = .ok (.iconst 1, 1) := by decide +kernel
theorem dL_law_1139 : decode cL_law 1139 = .ok (.iadd, 1) := by decide +kernel
theorem dL_law_1140 : decode cL_law 1140 = .ok (.iaload, 1) := by decide +kernel
theorem dL_law_1141 : decode cL_law 1141 = .ok (.aload_n 0, 1) := by decide +kernel
theorem dL_law_1142 : decode cL_law 1142 = .ok (.iload_n 3, 1) := by decide +kernel
theorem dL_law_1143 : decode cL_law 1143 = .ok (.iconst 2, 1) := by decide +kernel
theorem dL_law_1144 : decode cL_law 1144 = .ok (.iadd, 1) := by decide +kernel
theorem dL_law_1145 : decode cL_law 1145 = .ok (.iaload, 1) := by decide +kernel
theorem dL_law_1146 : decode cL_law 1146 = .ok (.invokevirtual 160, 3) := by decide +kernel
theorem dL_law_1149 : decode cL_law 1149 = .ok (.if_icmp .eq 90, 3) := by decide +kernel
theorem dL_law_1152 : decode cL_law 1152 = .ok (.iconst 0, 1) := by decide +kernel
theorem dL_law_1153 : decode cL_law 1153 = .ok (.ireturn, 1) := by decide +kernel
theorem dL_law_1154 : decode cL_law 1154 = .ok (.aload_n 1, 1) := by decide +kernel
theorem dL_law_1155 : decode cL_law 1155 = .ok (.invokevirtual 161, 3) := by decide +kernel
theorem dL_law_1158 : decode cL_law 1158 = .ok (.aload_n 2, 1) := by decide +kernel
theorem dL_law_1159 : decode cL_law 1159 = .ok (.invokevirtual 164, 3) := by decide +kernel
theorem dL_law_1162 : decode cL_law 1162 = .ok (.if_icmp .eq 77, 3) := by decide +kernel
theorem dL_law_1165 : decode cL_law 1165 = .ok (.iconst 0, 1) := by decide +kernel
theorem dL_law_1166 : decode cL_law 1166 = .ok (.ireturn, 1) := by decide +kernel
theorem dL_law_1167 : decode cL_law 1167 = .ok (.aload_n 1, 1) := by decide +kernel
theorem dL_law_1168 : decode cL_law 1168 = .ok (.invokevirtual 165, 3) := by decide +kernel
theorem dL_law_1171 : decode cL_law 1171 = .ok (.aload_n 2, 1) := by decide +kernel
theorem dL_law_1172 : decode cL_law 1172 = .ok (.invokevirtual 168, 3) := by decide +kernel
theorem dL_law_1175 : decode cL_law 1175 = .ok (.if_icmp .eq 64, 3) := by decide +kernel
theorem dL_law_1178 : decode cL_law 1178 = .ok (.iconst 0, 1) := by decide +kernel
theorem dL_law_1179 : decode cL_law 1179 = .ok (.ireturn, 1) := by decide +kernel
theorem dL_law_1180 : decode cL_law 1180 = .ok (.aload_n 1, 1) := by decide +kernel
theorem dL_law_1181 : decode cL_law 1181 = .ok (.invokevirtual 169, 3) := by decide +kernel
theorem dL_law_1184 : decode cL_law 1184 = .ok (.aload_n 2, 1) := by decide +kernel
theorem dL_law_1185 : decode cL_law 1185 = .ok (.invokevirtual 172, 3) := by decide +kernel
theorem dL_law_1188 : decode cL_law 1188 = .ok (.if_icmp .eq 51, 3) := by decide +kernel
theorem dL_law_1191 : decode cL_law 1191 = .ok (.iconst 0, 1) := by decide +kernel
theorem dL_law_1192 : decode cL_law 1192 = .ok (.ireturn, 1) := by decide +kernel
theorem dL_law_1193 : decode cL_law 1193 = .ok (.aload_n 1, 1) := by decide +kernel
theorem dL_law_1194 : decode cL_law 1194 = .ok (.aload_n 0, 1) := by decide +kernel
theorem dL_law_1195 : decode cL_law 1195 = .ok (.iload_n 3, 1) := by decide +kernel
theorem dL_law_1196 : decode cL_law 1196 = .ok (.iconst 1, 1) := by decide +kernel
theorem dL_law_1197 : decode cL_law 1197 = .ok (.iadd, 1) := by decide +kernel
theorem dL_law_1198 : decode cL_law 1198 = .ok (.iaload, 1) := by decide +kernel
theorem dL_law_1199 : decode cL_law 1199 = .ok (.invokevirtual 173, 3) := by decide +kernel
theorem dL_law_1202 : decode cL_law 1202 = .ok (.aload_n 2, 1) := by decide +kernel
theorem dL_law_1203 : decode cL_law 1203 = .ok (.aload_n 0, 1) := by decide +kernel
theorem dL_law_1204 : decode cL_law 1204 = .ok (.iload_n 3, 1) := by decide +kernel
theorem dL_law_1205 : decode cL_law 1205 = .ok (.iconst 1, 1) := by decide +kernel
theorem dL_law_1206 : decode cL_law 1206 = .ok (.iadd, 1) := by decide +kernel
theorem dL_law_1207 : decode cL_law 1207 = .ok (.iaload, 1) := by decide +kernel
theorem dL_law_1208 : decode cL_law 1208 = .ok (.invokevirtual 176, 3) := by decide +kernel
theorem dL_law_1211 : decode cL_law 1211 = .ok (.if_icmp .eq 28, 3) := by decide +kernel
theorem dL_law_1214 : decode cL_law 1214 = .ok (.iconst 0, 1) := by decide +kernel
theorem dL_law_1215 : decode cL_law 1215 = .ok (.ireturn, 1) := by decide +kernel
theorem dL_law_1216 : decode cL_law 1216 = .ok (.aload_n 1, 1) := by decide +kernel
theorem dL_law_1217 : decode cL_law 1217 = .ok (.aload_n 0, 1) := by decide +kernel
theorem dL_law_1218 : decode cL_law 1218 = .ok (.iload_n 3, 1) := by decide +kernel
theorem dL_law_1219 : decode cL_law 1219 = .ok (.iconst 1, 1) := by decide +kernel
theorem dL_law_1220 : decode cL_law 1220 = .ok (.iadd, 1) := by decide +kernel
theorem dL_law_1221 : decode cL_law 1221 = .ok (.iaload, 1) := by decide +kernel
theorem dL_law_1222 : decode cL_law 1222 = .ok (.invokevirtual 177, 3) := by decide +kernel
theorem dL_law_1225 : decode cL_law 1225 = .ok (.aload_n 2, 1) := by decide +kernel
theorem dL_law_1226 : decode cL_law 1226 = .ok (.aload_n 0, 1) := by decide +kernel
theorem dL_law_1227 : decode cL_law 1227 = .ok (.iload_n 3, 1) := by decide +kernel
theorem dL_law_1228 : decode cL_law 1228 = .ok (.iconst 1, 1) := by decide +kernel
theorem dL_law_1229 : decode cL_law 1229 = .ok (.iadd, 1) := by decide +kernel
theorem dL_law_1230 : decode cL_law 1230 = .ok (.iaload, 1) := by decide +kernel
theorem dL_law_1231 : decode cL_law 1231 = .ok (.invokevirtual 180, 3) := by decide +kernel
theorem dL_law_1234 : decode cL_law 1234 = .ok (.if_icmp .eq 5, 3) := by decide +kernel
theorem dL_law_1237 : decode cL_law 1237 = .ok (.iconst 0, 1) := by decide +kernel
theorem dL_law_1238 : decode cL_law 1238 = .ok (.ireturn, 1) := by decide +kernel
theorem dL_law_1239 : decode cL_law 1239 = .ok (.iinc 3 6, 3) := by decide +kernel
theorem dL_law_1242 : decode cL_law 1242 = .ok (.goto (-1224), 3) := by decide +kernel
theorem dL_law_1245 : decode cL_law 1245 = .ok (.iconst 1, 1) := by decide +kernel
theorem dL_law_1246 : decode cL_law 1246 = .ok (.ireturn, 1) := by decide +kernel
end
section
/-! ===== MEMORY: all numbers of the system's and the reference's cells, by the number of the cell ===== -/
abbrev Mem : Type := (Nat → Nat → Int32) × (Nat → Nat → Int64)
def m_I (M : Mem) (o k : Nat) : Int32 := M.1 o k
def m_J (M : Mem) (o k : Nat) : Int64 := M.2 o k
def w_I (M : Mem) (o k : Nat) (x : Int32) : Mem := (fun a b => if a = o ∧ b = k then x else M.1 a b, M.2)
def w_J (M : Mem) (o k : Nat) (x : Int64) : Mem := (M.1, fun a b => if a = o ∧ b = k then x else M.2 a b)
/-- n places of cell o from i on come to cell q from j on -/
def y_I (M : Mem) (o i q j n : Nat) : Mem := (fun a b => if a = q ∧ j ≤ b ∧ b < j + n then M.1 o (i + (b - j)) else M.1 a b, M.2)
def y_J (M : Mem) (o i q j n : Nat) : Mem := (M.1, fun a b => if a = q ∧ j ≤ b ∧ b < j + n then M.2 o (i + (b - j)) else M.2 a b)
/-- an index is tested, then used -/
def ix {α : Type} (n : Nat) (i : Int32) (k : Nat → Option α) : Option α := if 0 ≤ i.toInt ∧ i.toInt < n then k i.toNatClampNeg else none
/-- a value gets a name -/
def pin {β α : Type} (x : β) (k : β → Option α) : Option α := k x
/-- a boolean -/
def zb {α : Type} (x : Int32) (k : Option α) : Option α := if x = 0 ∨ x = 1 then k else none
/-- a divisor -/
def dv {α : Type} (x : Int32) (k : Option α) : Option α := if x = 0 then none else k
/-- a text's place -/
def sg {α : Type} (x : Nat) (k : Option α) : Option α := if x < 11 then k else none
theorem sg_e {α : Type} {x : Nat} {k : Option α} {R : α} (h : sg x k = some R) : x < 11 ∧ k = some R := by
  unfold sg at h
  by_cases q : x < 11
  · rw [if_pos q] at h
    exact ⟨q, h⟩
  · rw [if_neg q] at h
    cases h
/-- an answer and what there is behind it -/
def bn {β α : Type} (x : Option (β × Mem)) (k : β → Mem → Option α) : Option α := match x with
  | none => none
  | some q => k q.1 q.2
theorem ix_e {α : Type} {n : Nat} {i : Int32} {k : Nat → Option α} {R : α} (h : ix n i k = some R) : ∃ j, i.toNatClampNeg = j ∧ vp_in i n ∧ k j = some R := by
  unfold ix at h
  by_cases q : 0 ≤ i.toInt ∧ i.toInt < n
  · rw [if_pos q] at h
    exact ⟨_, rfl, vp_in_iff.mpr q, h⟩
  · rw [if_neg q] at h
    cases h
theorem pin_e {β α : Type} {x : β} {k : β → Option α} {R : Option α} (h : pin x k = R) : ∃ y, y = x ∧ k y = R := ⟨x, rfl, h⟩
theorem zb_e {α : Type} {x : Int32} {k : Option α} {R : α} (h : zb x k = some R) : (x = 0 ∨ x = 1) ∧ k = some R := by
  unfold zb at h
  by_cases q : x = 0 ∨ x = 1
  · rw [if_pos q] at h
    exact ⟨q, h⟩
  · rw [if_neg q] at h
    cases h
theorem dv_e {α : Type} {x : Int32} {k : Option α} {R : α} (h : dv x k = some R) : ¬ x = 0 ∧ k = some R := by
  unfold dv at h
  by_cases q : x = 0
  · rw [if_pos q] at h
    cases h
  · rw [if_neg q] at h
    exact ⟨q, h⟩
theorem bn_e {β α : Type} {x : Option (β × Mem)} {k : β → Mem → Option α} {R : α} (h : bn x k = some R) : ∃ a M, x = some (a, M) ∧ k a M = some R := by
  cases x with
  | none => cases h
  | some q => exact ⟨q.1, q.2, rfl, h⟩
theorem bi_e {β α : Type} {x : Option β} {k : β → Option α} {R : α} (h : x.bind k = some R) : ∃ a, x = some a ∧ k a = some R := by
  cases x with
  | none => cases h
  | some q => exact ⟨q, rfl, h⟩
theorem it_p {α : Type} {c : Prop} [Decidable c] {a b R : α} (h : c) (e : (if c then a else b) = R) : a = R := by rw [if_pos h] at e; exact e
theorem it_n {α : Type} {c : Prop} [Decidable c] {a b R : α} (h : ¬ c) (e : (if c then a else b) = R) : b = R := by rw [if_neg h] at e; exact e
/-! ===== THE CELLS: which cell is what ===== -/
def kdL : List Nat := [5, 107,
  3, 108, 108, 108, 108, 108, 108, 108, 108, 108, 108,
  3, 108, 108, 108, 108, 108, 108, 108, 108, 108, 108,
  3, 108, 108, 108, 108, 108, 108, 108, 108, 108, 108,
  0, 356, 2, 220, 4, 2004, 1, 1040, 1, 1040, 1, 1040, 1, 1040,
  6, 151, 107, 108, 108, 108, 108, 151, 356, 220, 104, 104, 1160, 1040, 151, 151]
/-- objects: their class in cls7; 100 + n: n ints; 1000 + n: n longs; 2004: the sheets -/
def kd (o : Nat) : Nat := kdL.getD o 9999
abbrev cls7 : List vw_C := [(RX0, TX0, 1), (RX2, TX2, 3), (RX3, TX3, 2), (RX4, TX4, 13), (RX5, TX5, 5), (RX7, TX7, 9), (RX8, TX8, 23)]
/-- classes and slots; array classes; addresses; where new cells begin; static arrays; texts and their bytes; the JDK's formatter -/
abbrev GG : Type := va_G × (Nat → ClassId) × (Nat → Nat) × Nat × (Nat → Nat) × (Nat → Nat) × (Nat → Nat) × Value
def g_D (G : GG) : va_G := G.1
def g_cy (G : GG) : Nat → ClassId := G.2.1
def g_ad (G : GG) : Nat → Nat := G.2.2.1
def g_b (G : GG) : Nat := G.2.2.2.1
def g_sa (G : GG) : Nat → Nat := G.2.2.2.2.1
def g_ak (G : GG) : Nat → Nat := G.2.2.2.2.2.1
def g_av (G : GG) : Nat → Nat := G.2.2.2.2.2.2.1
def g_fm (G : GG) : Value := G.2.2.2.2.2.2.2
def g_A (G : GG) : Nat → Prop := fun q => g_b G ≤ q
def fl (G : GG) (M : Mem) (o : Nat) : Nat → List Value
  | 0 => [.ref (g_ad G (o + 1))]
  | 1 => [.ref (g_ad G (o + 1)), .int (m_I M o 1), .int (m_I M o 2)]
  | 2 => [.ref (g_ad G (o + 1)), .int (m_I M o 1)]
  | 3 => [.int (m_I M o 0), .int (m_I M o 1), .int (m_I M o 2), .ref (g_ad G (o + 1)), .ref (g_ad G (o + 2)), .ref (g_ad G (o + 3)), .ref (g_ad G (o + 4)), .ref (g_ad G (o + 5)), .ref (g_ad G (o + 6)), .ref (g_ad G (o + 7)), .ref (g_ad G (o + 8)), .ref (g_ad G (o + 9)), .ref (g_ad G (o + 10))]
  | 4 => [.ref (g_ad G 37), .int (m_I M o 1), .int (m_I M o 2), .int (m_I M o 3), .int (m_I M o 4)]
  | 5 => [.ref (g_ad G 2), .ref (g_ad G 13), .ref (g_ad G 24), .ref (g_ad G 35), .ref (g_ad G 37), .ref (g_ad G 39), .ref (g_ad G 40), .ref (g_ad G 1), .int (m_I M o 8)]
  | 6 => [.ref (g_ad G 50), .ref (g_ad G 51), .ref (g_ad G 52), .ref (g_ad G 53), .ref (g_ad G 54), .ref (g_ad G 55), .ref (g_ad G 56), .ref (g_ad G 57), .ref (g_ad G 58), .int (m_I M o 9), .int (m_I M o 10), .int (m_I M o 11), .int (m_I M o 12), .long (m_J M o 13), .int (m_I M o 14), .int (m_I M o 15), .ref (g_ad G 59), .ref (g_ad G 60), .ref (g_ad G 61), .ref (g_ad G 62), .ref (g_ad G 63), .ref (g_ad G 64), .int (m_I M o 22)]
  | _ => []
def ct (G : GG) (M : Mem) (o : Nat) : va_E :=
  if kd o < 10 then .inr (kd o, fl G M o (kd o))
  else if kd o < 1000 then .inl (g_cy G 0, kd o - 100, .inl (m_I M o))
  else if kd o < 2000 then .inl (g_cy G 1, kd o - 1000, .inr (.inl (m_J M o)))
  else .inl (g_cy G 2, 4, .inr (.inr (.inr (.inr (fun j => some (g_ad G (41 + 2 * j)))))))
def wl (G : GG) (M : Mem) : va_W := (List.range 65).map (fun o => (g_ad G o, ct G M o))
theorem kd_lt {o : Nat} (h : kd o < 9999) : o < 65 := by
  rcases Nat.lt_or_ge o 65 with q | q
  · exact q
  · have e : kd o = 9999 := by
      unfold kd
      rw [List.getD_eq_getElem?_getD, List.getElem?_eq_none (by exact q)]
      rfl
    omega
theorem wl_get {G : GG} {M : Mem} {o : Nat} (h : o < 65) : (wl G M)[o]? = some (g_ad G o, ct G M o) := by
  unfold wl
  rw [List.getElem?_map, List.getElem?_range h]
  rfl
theorem wl_len {G : GG} {M : Mem} : (wl G M).length = 65 := by unfold wl; simp
theorem wl_set {G : GG} {M M' : Mem} {o : Nat} (h : o < 65) (hk : ∀ a, a ≠ o → ct G M' a = ct G M a) : (wl G M).set o (g_ad G o, ct G M' o) = wl G M' := by
  apply List.ext_getElem?
  intro i
  rcases Nat.lt_or_ge i 65 with q | q
  · by_cases e : i = o
    · subst e
      rw [List.getElem?_set_self (by rw [wl_len]; exact q), wl_get q]
    · rw [List.getElem?_set_ne (Ne.symm e), wl_get q, wl_get q, hk i e]
  · rw [List.getElem?_eq_none (by rw [List.length_set, wl_len]; exact q), List.getElem?_eq_none (by rw [wl_len]; exact q)]
theorem ct_o {G : GG} {M : Mem} {o ci : Nat} (h : kd o = ci) (hc : ci < 10) : ct G M o = .inr (ci, fl G M o ci) := by unfold ct; rw [h, if_pos hc]
theorem ct_i {G : GG} {M : Mem} {o n : Nat} (h : kd o = 100 + n) (hn : n < 900) : ct G M o = .inl (g_cy G 0, n, .inl (m_I M o)) := by
  unfold ct; rw [h, if_neg (by omega), if_pos (by omega), Nat.add_sub_cancel_left]
theorem ct_j {G : GG} {M : Mem} {o n : Nat} (h : kd o = 1000 + n) (hn : n < 1000) : ct G M o = .inl (g_cy G 1, n, .inr (.inl (m_J M o))) := by
  unfold ct; rw [h, if_neg (by omega), if_neg (by omega), if_pos (by omega), Nat.add_sub_cancel_left]
theorem ct_q {G : GG} {M : Mem} {o : Nat} (h : kd o = 2004) : ct G M o = .inl (g_cy G 2, 4, .inr (.inr (.inr (.inr (fun j => some (g_ad G (41 + 2 * j))))))) := by
  unfold ct; rw [h]; rfl
/-- a cell's contents hang on its own numbers alone -/
theorem ct_eq {G : GG} {M M' : Mem} {o : Nat} (h1 : ∀ k, M'.1 o k = M.1 o k) (h2 : ∀ k, M'.2 o k = M.2 o k) : ct G M' o = ct G M o := by
  have e1 : m_I M' o = m_I M o := funext h1
  have e2 : m_J M' o = m_J M o := funext h2
  have e3 : ∀ c, fl G M' o c = fl G M o c := by
    intro c
    unfold fl
    simp only [e1, e2]
  unfold ct
  rw [e1, e2, e3]
def WH (G : GG) (M : Mem) (H : Heap) : Prop := va_P (g_D G) cls7 (wl G M) H
def DD (G : GG) : Prop := (∀ i j, i < 65 → j < 65 → g_ad G i = g_ad G j → i = j) ∧ ∀ i, i < 65 → g_b G ≤ g_ad G i
theorem DD.d {G : GG} (h : DD G) (M : Mem) : va_D (g_A G) (wl G M) := by
  have key : ∀ (k : Nat) (q : Nat × va_E), (wl G M)[k]? = some q → k < 65 ∧ q.1 = g_ad G k := by
    intro k q hk
    have hl : k < 65 := by
      have := (List.getElem?_eq_some_iff.mp hk).1
      rw [wl_len] at this
      exact this
    rw [wl_get hl] at hk
    cases hk
    exact ⟨hl, rfl⟩
  refine ⟨fun i j p q hi hj e => ?_, fun k q hk => ?_⟩
  · obtain ⟨a1, a2⟩ := key i p hi
    obtain ⟨b1, b2⟩ := key j q hj
    exact h.1 i j a1 b1 (by rw [← a2, ← b2]; exact e)
  · obtain ⟨a1, a2⟩ := key k q hk
    rw [a2]
    exact h.2 k a1
/-! ===== WORDS ===== -/
def WL : List Cond := lw_tbl.filter goodWord
theorem wl_of {w : Cond} (i : Nat) (h : lw_tbl[i]? = some w) (hg : goodWord w = true) : w ∈ WL := List.mem_filter.mpr ⟨List.mem_of_getElem? h, hg⟩
def isNest : Cond → Bool
  | .fieldLinkNest _ _ _ _ _ _ => true
  | .methodLinkNest _ _ _ _ => true
  | _ => false
def NL : List Cond := lw_tbl.filter isNest
theorem nl_of {w : Cond} (i : Nat) (h : lw_tbl[i]? = some w) (hg : isNest w = true) : w ∈ NL := List.mem_filter.mpr ⟨List.mem_of_getElem? h, hg⟩
theorem nl_warm {w : Cond} (hw : w ∈ NL) {s U : State} (hW : s.WarmedH U.vm) (h : va_Nw w s) : va_Nw w U := by
  have h2 := (List.mem_filter.mp hw).2
  cases w <;> first | exact va_Nw.warmF hW h | exact va_Nw.warmM hW h | cases h2
theorem nl_tab {w : Cond} (hw : w ∈ NL) : w.onTables = true := by
  have h2 := (List.mem_filter.mp hw).2
  cases w <;> first | rfl | cases h2
theorem wl_good : ∀ w ∈ WL, ((w.onTables && w.keeps) = true ∨ ∃ ty, w = .arrayClass ty) := fun w h => good_of_word (List.mem_filter.mp h).2
abbrev wz (y : MethodName) (cc : ByteArray) (n : Nat) (r : Option FieldType) : List Cond := Cond.code y cc n r :: WL
def tysG (G : GG) : List (ClassId × FieldType) := [(g_cy G 0, .int), (g_cy G 1, .long), (g_cy G 2, .object "FridaySlips$Sheet")]
def KK (G : GG) (U : State) : Prop := va_K (g_D G) cls7 (tysG G) U ∧ (∀ w ∈ NL, va_Nw w U) ∧ DD G
theorem KK.warm {G : GG} {s U : State} (hW : s.WarmedH U.vm) (h : KK G s) : KK G U := ⟨va_K.moved hW.alike h.1, fun w hw => nl_warm hw hW (h.2.1 w hw), h.2.2⟩
theorem KK.call {G : GG} {U : State} (g : JFrame) (mk : MethodId) (a : Array Value) (h : KK G U) : KK G (U.calling g mk a) := ⟨va_K.moved (u := U) (U := U.calling g mk a) (Vm.Alike.refl U.vm) h.1, fun w hw => va_Nw.same (nl_tab hw) (u := U) (U := U.calling g mk a) rfl (h.2.1 w hw), h.2.2⟩
/-! ===== STATICS AND TEXTS ===== -/
def s_A : Nat → Int32 := fun j => ([-1, 0, 0, 0, 1, 2] : List Int32).getD j 0
def s_O : Nat → Int32 := fun j => ([1, 1, 2, 6, 24, 120, 720, 5040, 40320] : List Int32).getD j 0
def s_R : Nat → Int32 := fun j => ([1, 0, 1, 2, 9, 44, 265, 1854, 14833] : List Int32).getD j 0
def txL : List (Nat × String) := [(22, "slip"), (82, "is"), (95, "smith"), (97, "shy"), (99, "child"), (101, "priest"), (103, "thief"), (105, "villager"), (55, "work"), (65, "purse"), (70, "name")]
def lenL : List Nat := [4, 2, 5, 3, 5, 6, 5, 8, 4, 5, 4]
def bytL : List (List Int32) := [[115, 108, 105, 112], [105, 115], [115, 109, 105, 116, 104], [115, 104, 121], [99, 104, 105, 108, 100], [112, 114, 105, 101, 115, 116], [116, 104, 105, 101, 102], [118, 105, 108, 108, 97, 103, 101, 114], [119, 111, 114, 107], [112, 117, 114, 115, 101], [110, 97, 109, 101]]
def SS (G : GG) (U : State) (H : Heap) : Prop :=
  (va_Z "FridaySlips$Ways" "ABOVE" "[I" (.ref (g_sa G 0)) (g_A G) U H ∧ va_T .int (g_sa G 0) 6 (fun j => .int (s_A j)) (g_A G) U H) ∧
  (va_Z "FridaySlips$Chances" "ORDERED" "[I" (.ref (g_sa G 1)) (g_A G) U H ∧ va_T .int (g_sa G 1) 9 (fun j => .int (s_O j)) (g_A G) U H) ∧
  (va_Z "FridaySlips$Chances" "DERANGED" "[I" (.ref (g_sa G 2)) (g_A G) U H ∧ va_T .int (g_sa G 2) 9 (fun j => .int (s_R j)) (g_A G) U H) ∧
  va_Z "java/lang/String" "COMPACT_STRINGS" "Z" (.int 1) (g_A G) U H ∧
  va_Z "jdk/internal/util/Preconditions" "SIOOBE_FORMATTER" "Ljava/util/function/BiFunction;" (g_fm G) (g_A G) U H ∧
  vk_S 11 lenL bytL (g_ak G) (g_av G) (g_A G) U H ∧
  (∀ i, i < 11 → vk_R RX5 (txL.getD i (0, "")).1 (txL.getD i (0, "")).2 (g_ak G i) U)
theorem SS.go {G : GG} {s U : State} {H0 H : Heap} (hW : s.WarmedH U.vm) (hq : ∀ a : Nat, a < H0.size → ¬ g_A G a → H[a]? = H0[a]?) (h : SS G s H0) : SS G U H := by
  obtain ⟨⟨a1, a2⟩, ⟨b1, b2⟩, ⟨c1, c2⟩, d1, d2, d3, d4⟩ := h
  have al := hW.alike
  exact ⟨⟨(a1.kept hq).moved al, (a2.kept hq).moved al⟩, ⟨(b1.kept hq).moved al, (b2.kept hq).moved al⟩, ⟨(c1.kept hq).moved al, (c2.kept hq).moved al⟩, (d1.kept hq).moved al, (d2.kept hq).moved al, (d3.kept hq).moved al, fun i hi => (d4 i hi).warm hW⟩
theorem SS.call {G : GG} {U : State} {H : Heap} (g : JFrame) (mk : MethodId) (a : Array Value) (h : SS G U H) : SS G (U.calling g mk a) H := by
  obtain ⟨⟨a1, a2⟩, ⟨b1, b2⟩, ⟨c1, c2⟩, d1, d2, d3, d4⟩ := h
  have al : U.vm.Alike (U.calling g mk a).vm := Vm.Alike.refl U.vm
  exact ⟨⟨a1.moved al, a2.moved al⟩, ⟨b1.moved al, b2.moved al⟩, ⟨c1.moved al, c2.moved al⟩, d1.moved al, d2.moved al, d3.moved al, fun i hi => vk_R.same (u := U) (U := U.calling g mk a) rfl (d4 i hi)⟩
/-! ===== CONTRACTS ===== -/
def PreC (G : GG) (av : List Value) (M : Mem) : Array Value → State → Prop := va_Pc av (fun U => KK G U ∧ SS G U U.heap ∧ WH G M U.heap)
def QcI (G : GG) (r : Int32) (M : Mem) : Array Value → State → Outcome → State → Prop := va_Qi (fun (a : Int32) (u : Mem) => a = r ∧ u = M) (fun u t => WH G u t.heap) (g_A G)
def QcL (G : GG) (r : Int64) (M : Mem) : Array Value → State → Outcome → State → Prop := va_Ql (fun (a : Int64) (u : Mem) => a = r ∧ u = M) (fun u t => WH G u t.heap) (g_A G)
def QcV (G : GG) (M : Mem) : Array Value → State → Outcome → State → Prop := va_Qv (fun (u : Mem) => u = M) (fun u t => WH G u t.heap) (g_A G)
def QcS (G : GG) (r : Nat) (M : Mem) : Array Value → State → Outcome → State → Prop := va_Qr (fun (u : Mem × Nat) => u = (M, r)) (fun u a t => WH G u.1 t.heap ∧ a = g_ak G u.2) (g_A G)
theorem PreC.blind {G : GG} {av : List Value} {M : Mem} : FrameBlind (PreC G av M) := fun a _ g mk q => ⟨q.1, q.2.1.call g mk a, q.2.2.1.call g mk a, q.2.2.2⟩
def Cx (G : GG) (cc : ByteArray) (own : String) (nL : Nat) (p : Program) (s : State) (m : MethodId) (args : Array Value) (meth : Method) (c : Code) : Prop :=
  p.tables.exec = Jvm.exec ∧ c.code = cc ∧ c.maxLocals = nL ∧ s.vm.findClass own = some m.cls ∧ (∀ w ∈ WL, w.before args s = true) ∧ KK G s ∧ SS G s s.heap ∧ meth.locks = false
section XS
variable {p : Program} {l : Launch} {e : Env} {R : Room} {s : State} {m : MethodId} {args : Array Value} {below : List Frame} {meth : Method} {c : Code} {H : Heap} {locs : List Loc} {Q : State → Prop}
variable {cc : ByteArray} {pc nL : Nat} {ls : Array Slot} {rest : List Value} {G : GG} {M : Mem} {own : String}
theorem x_start {y : MethodName} {maxL : Nat} {ret : Option FieldType} {rm : Room} {av : List Value} {Qc : Array Value → State → Outcome → State → Prop} (hy : plainName y.cls = true) (hlen : (lg_sl av).length ≤ maxL) {lv : List (Nat × Value)} (hlv : lv_args 0 av = lv)
    (body : ∀ p e s m below meth c, Cx G cc y.cls maxL p s m av.toArray meth c → meth.sig.returnType = ret → WH G M s.heap → va_S (g_A G) s.heap s.heap [] → ∀ ls, lv_has ls maxL lv → W p l e rm s m av.toArray below meth c s.heap [] 0 0 (MQ below Qc av.toArray s 0 0 (g_A G)) (F0 m 0 ls [])) :
    Met l y (wz y cc maxL ret) rm (PreC G av M) Qc 0 0 (g_A G) := by
  refine Met.ofW (cc := cc) (maxL := maxL) (ret := ret) hy rfl ?_
  intro p e s m args below meth c s₁ B hml hv
  obtain ⟨rfl, hK, hS, hW⟩ := hv
  have hts := atoms_spec (ws := wz y cc maxL ret) B.pre
  have hl := lv_entry av (n := maxL) hlen
  rw [lg_entry_eq]
  rw [hlv] at hl
  exact body p e s m below meth c ⟨B.exec, B.bytes, hml, findClass_of_methodNamed B.named, fun w hw => hts w (List.mem_cons_of_mem _ hw), hK, hS, B.notSynchronized⟩ B.returns hW va_S.rf _ hl
/-- a field's link, its object's class, its place -/
def FL (own : String) (index ci k : Nat) : Prop := ∃ (C : String) (T : u_T) (N : Nat), cls7[ci]? = some (C, T, N) ∧ k < N ∧ ci < 10 ∧ (Cond.fieldLink own index (T k).1 (T k).2.1 (T k).2.2.1 ∈ WL ∨ ∃ h, Cond.fieldLinkNest own index (T k).1 (T k).2.1 (T k).2.2.1 h ∈ NL) ∧ ∀ w ∈ u_ws C T N, w ∈ WL
theorem x_get {index ci o k : Nat} {v : Value} (cx : Cx G cc own nL p s m args meth c) (hW : WH G M H) (ho : kd o = ci) (hf : FL own index ci k) (hv : (fl G M o ci)[k]? = some v) (hdg : decode cc pc = .ok (.getfield index, 3))
    (kk : W p l e R s m args below meth c H locs 0 0 Q (F0 m (pc + 3) ls (v :: rest))) : W p l e R s m args below meth c H locs 0 0 Q (F0 m pc ls (.ref (g_ad G o) :: rest)) := by
  obtain ⟨hx, hb, hml, hown, hts, hK, hSS, hlk⟩ := cx
  obtain ⟨C, T, N, h1, h2, h3, h4, h5⟩ := hf
  have hl : o < 65 := kd_lt (by omega)
  have he : (wl G M)[o]? = some (g_ad G o, .inr (ci, fl G M o ci)) := by rw [wl_get hl, ct_o ho h3]
  rcases h4 with h4 | ⟨h, h4⟩
  · exact va_get (D := g_D G) (C := C) (T := T) (N := N) (index := index) (ref := (T k).1) hx hb hts h5 hown hK.1 hW o he h1 k h2 (hts _ h4) (fun _ q => q) hv hdg kk
  · exact va_getN (D := g_D G) (C := C) (T := T) (N := N) (index := index) (ref := (T k).1) (host := h) hx hb hts h5 hown hK.1 hW o he h1 k h2 (va_Nw.use (nl_tab h4) (hK.2.1 _ h4)) (fun _ q => q) hv hdg kk
/-- a field that may be written: its type, and that nothing else is written -/
def FT (index ci k : Nat) (ty : FieldType) : Prop := ∃ (C : String) (T : u_T) (N : Nat) (ty0 : Nat → FieldType), cls7[ci]? = some (C, T, N) ∧ (T k).2.2.2 = false ∧ parseFieldDescriptor (T k).2.2.1 = some ty ∧ (∀ k, k < N → parseFieldDescriptor (T k).2.2.1 = some (ty0 k)) ∧ (∀ a, a < N → ∀ b, b < N → a ≠ b → (T a).2.1 ≠ (T b).2.1)
theorem x_put {index ci o k : Nat} {ty : FieldType} {v : Value} {M' : Mem} (cx : Cx G cc own nL p s m args meth c) (hW : WH G M H) (hS : va_S (g_A G) s.heap H locs) (ho : kd o = ci) (hf : FL own index ci k) (ht : FT index ci k ty) (hn : narrow ty v = v) (hfit : fits ty v = true) (hl : k < (fl G M o ci).length)
    (hset : (fl G M o ci).set k v = fl G M' o ci) (hoth : ∀ a, a ≠ o → ct G M' a = ct G M a) (hdg : decode cc pc = .ok (.putfield index, 3))
    (kk : ∀ (H1 : Heap) (locs1 : List Loc), WH G M' H1 → va_S (g_A G) s.heap H1 locs1 → W p l e R s m args below meth c H1 locs1 0 0 Q (F0 m (pc + 3) ls rest)) : W p l e R s m args below meth c H locs 0 0 Q (F0 m pc ls (v :: .ref (g_ad G o) :: rest)) := by
  obtain ⟨hx, hb, hml, hown, hts, hK, hSS, hlk⟩ := cx
  obtain ⟨C, T, N, h1, h2, h3, h4, h5⟩ := hf
  obtain ⟨C', T', N', ty0, g1, g2, g3, g4, g5⟩ := ht
  cases h1.symm.trans g1
  have hlt : o < 65 := kd_lt (by omega)
  have he : (wl G M)[o]? = some (g_ad G o, .inr (ci, fl G M o ci)) := by rw [wl_get hlt, ct_o ho h3]
  have hw : (wl G M).set o (g_ad G o, .inr (ci, (fl G M o ci).set k v)) = wl G M' := by
    rw [hset, ← ct_o (G := G) (M := M') ho h3]
    exact wl_set hlt hoth
  rcases h4 with h4 | ⟨h, h4⟩
  · refine va_put (D := g_D G) (C := C) (T := T) (N := N) (index := index) (ref := (T k).1) hx hb hts h5 ty0 g4 g5 hown hK.1 hW (hK.2.2.d M) hS o he h1 k h2 (hts _ h4) (fun _ q => q) g2 g3 hn hfit hl hdg (fun H1 locs1 q1 q2 q3 => ?_)
    rw [hw] at q1
    exact kk H1 locs1 q1 q3
  · refine va_putN (D := g_D G) (C := C) (T := T) (N := N) (index := index) (ref := (T k).1) (host := h) hx hb hts h5 ty0 g4 g5 hown hK.1 hW (hK.2.2.d M) hS o he h1 k h2 (va_Nw.use (nl_tab h4) (hK.2.1 _ h4)) (fun _ q => q) g2 g3 hn hfit hl hdg (fun H1 locs1 q1 q2 q3 => ?_)
    rw [hw] at q1
    exact kk H1 locs1 q1 q3
theorem ct_wI {G : GG} {M : Mem} {o k : Nat} {x : Int32} : ∀ a, a ≠ o → ct G (w_I M o k x) a = ct G M a := fun a h => ct_eq (fun b => if_neg (fun q => h q.1)) (fun _ => rfl)
theorem ct_wJ {G : GG} {M : Mem} {o k : Nat} {x : Int64} : ∀ a, a ≠ o → ct G (w_J M o k x) a = ct G M a := fun a h => ct_eq (fun _ => rfl) (fun b => if_neg (fun q => h q.1))
theorem x_puti {index ci o k : Nat} {x : Int32} (cx : Cx G cc own nL p s m args meth c) (hW : WH G M H) (hS : va_S (g_A G) s.heap H locs) (ho : kd o = ci) (hf : FL own index ci k) (ht : FT index ci k .int) (hl : k < (fl G M o ci).length) (hset : (fl G M o ci).set k (.int x) = fl G (w_I M o k x) o ci) {M' : Mem} (hM : M' = w_I M o k x) (hdg : decode cc pc = .ok (.putfield index, 3))
    (kk : ∀ (H1 : Heap) (locs1 : List Loc), WH G M' H1 → va_S (g_A G) s.heap H1 locs1 → W p l e R s m args below meth c H1 locs1 0 0 Q (F0 m (pc + 3) ls rest)) : W p l e R s m args below meth c H locs 0 0 Q (F0 m pc ls (.int x :: .ref (g_ad G o) :: rest)) := by
  subst hM
  exact x_put cx hW hS ho hf ht rfl rfl hl hset ct_wI hdg kk
theorem x_putz {index ci o k : Nat} {x : Int32} (cx : Cx G cc own nL p s m args meth c) (hW : WH G M H) (hS : va_S (g_A G) s.heap H locs) (ho : kd o = ci) (hf : FL own index ci k) (ht : FT index ci k .boolean) (hz : x = 0 ∨ x = 1) (hl : k < (fl G M o ci).length) (hset : (fl G M o ci).set k (.int x) = fl G (w_I M o k x) o ci) {M' : Mem} (hM : M' = w_I M o k x) (hdg : decode cc pc = .ok (.putfield index, 3))
    (kk : ∀ (H1 : Heap) (locs1 : List Loc), WH G M' H1 → va_S (g_A G) s.heap H1 locs1 → W p l e R s m args below meth c H1 locs1 0 0 Q (F0 m (pc + 3) ls rest)) : W p l e R s m args below meth c H locs 0 0 Q (F0 m pc ls (.int x :: .ref (g_ad G o) :: rest)) := by
  subst hM
  exact x_put cx hW hS ho hf ht (by rcases hz with rfl | rfl <;> decide) (by rcases hz with rfl | rfl <;> decide) hl hset ct_wI hdg kk
theorem x_putl {index ci o k : Nat} {x : Int64} (cx : Cx G cc own nL p s m args meth c) (hW : WH G M H) (hS : va_S (g_A G) s.heap H locs) (ho : kd o = ci) (hf : FL own index ci k) (ht : FT index ci k .long) (hl : k < (fl G M o ci).length) (hset : (fl G M o ci).set k (.long x) = fl G (w_J M o k x) o ci) {M' : Mem} (hM : M' = w_J M o k x) (hdg : decode cc pc = .ok (.putfield index, 3))
    (kk : ∀ (H1 : Heap) (locs1 : List Loc), WH G M' H1 → va_S (g_A G) s.heap H1 locs1 → W p l e R s m args below meth c H1 locs1 0 0 Q (F0 m (pc + 3) ls rest)) : W p l e R s m args below meth c H locs 0 0 Q (F0 m pc ls (.long x :: .ref (g_ad G o) :: rest)) := by
  subst hM
  exact x_put cx hW hS ho hf ht rfl rfl hl hset ct_wJ hdg kk
/-- arrays -/
theorem x_iald {o n : Nat} {i : Int32} (cx : Cx G cc own nL p s m args meth c) (hW : WH G M H) (ho : kd o = 100 + n) (hn : n < 900) {j : Nat} (hj : i.toNatClampNeg = j) (hin : vp_in i n) (hdg : decode cc pc = .ok (.iaload, 1))
    (kk : W p l e R s m args below meth c H locs 0 0 Q (F0 m (pc + 1) ls (.int (m_I M o j) :: rest))) : W p l e R s m args below meth c H locs 0 0 Q (F0 m pc ls (.int i :: .ref (g_ad G o) :: rest)) := by
  subst hj
  obtain ⟨hx, hb, hml, hown, hts, hK, hSS, hlk⟩ := cx
  exact va_iald (D := g_D G) hx hb hK.1 hW o 0 (by rw [wl_get (kd_lt (by omega)), ct_i ho hn]) rfl hin hdg kk
theorem x_lald {o n : Nat} {i : Int32} (cx : Cx G cc own nL p s m args meth c) (hW : WH G M H) (ho : kd o = 1000 + n) (hn : n < 900) {j : Nat} (hj : i.toNatClampNeg = j) (hin : vp_in i n) (hdg : decode cc pc = .ok (.laload, 1))
    (kk : W p l e R s m args below meth c H locs 0 0 Q (F0 m (pc + 1) ls (.long (m_J M o j) :: rest))) : W p l e R s m args below meth c H locs 0 0 Q (F0 m pc ls (.int i :: .ref (g_ad G o) :: rest)) := by
  subst hj
  obtain ⟨hx, hb, hml, hown, hts, hK, hSS, hlk⟩ := cx
  exact va_lald (D := g_D G) hx hb hK.1 hW o 1 (by rw [wl_get (kd_lt (by omega)), ct_j ho (by omega)]) rfl hin hdg kk
theorem x_aald {o : Nat} {i : Int32} (cx : Cx G cc own nL p s m args meth c) (hW : WH G M H) (ho : kd o = 2004) {j : Nat} (hj : i.toNatClampNeg = j) (hin : vp_in i 4) (hdg : decode cc pc = .ok (.aaload, 1))
    (kk : W p l e R s m args below meth c H locs 0 0 Q (F0 m (pc + 1) ls (.ref (g_ad G (41 + 2 * j)) :: rest))) : W p l e R s m args below meth c H locs 0 0 Q (F0 m pc ls (.int i :: .ref (g_ad G o) :: rest)) := by
  subst hj
  obtain ⟨hx, hb, hml, hown, hts, hK, hSS, hlk⟩ := cx
  exact va_aldq (D := g_D G) (f := fun j => some (g_ad G (41 + 2 * j))) hx hb hK.1 hW o 2 (by rw [wl_get (kd_lt (by omega)), ct_q ho]) rfl hin hdg kk
theorem x_iast {o n : Nat} {i x : Int32} (cx : Cx G cc own nL p s m args meth c) (hW : WH G M H) (hS : va_S (g_A G) s.heap H locs) (ho : kd o = 100 + n) (hn : n < 900) {j : Nat} (hj : i.toNatClampNeg = j) (hin : vp_in i n) {M' : Mem} (hM : M' = w_I M o j x) (hdg : decode cc pc = .ok (.iastore, 1))
    (kk : ∀ (H1 : Heap) (locs1 : List Loc), WH G M' H1 → va_S (g_A G) s.heap H1 locs1 → W p l e R s m args below meth c H1 locs1 0 0 Q (F0 m (pc + 1) ls rest)) : W p l e R s m args below meth c H locs 0 0 Q (F0 m pc ls (.int x :: .int i :: .ref (g_ad G o) :: rest)) := by
  subst hM
  subst hj
  obtain ⟨hx, hb, hml, hown, hts, hK, hSS, hlk⟩ := cx
  have hlt : o < 65 := kd_lt (by omega)
  refine va_iast (D := g_D G) hx hb hK.1 hW (hK.2.2.d M) hS o 0 (by rw [wl_get hlt, ct_i ho hn]) rfl hin hdg (fun H1 locs1 q1 q2 q3 => ?_)
  have hw : (wl G M).set o (g_ad G o, .inl (g_cy G 0, n, .inl (upd (m_I M o) i.toNatClampNeg x))) = wl G (w_I M o i.toNatClampNeg x) := by
    have e : m_I (w_I M o i.toNatClampNeg x) o = upd (m_I M o) i.toNatClampNeg x := by
      funext b
      show (if o = o ∧ b = _ then x else M.1 o b) = if b = _ then x else M.1 o b
      simp
    rw [← e, ← ct_i (G := G) (M := w_I M o i.toNatClampNeg x) ho hn]
    exact wl_set hlt ct_wI
  rw [hw] at q1
  exact kk H1 locs1 q1 q3
theorem x_last {o n : Nat} {i : Int32} {x : Int64} (cx : Cx G cc own nL p s m args meth c) (hW : WH G M H) (hS : va_S (g_A G) s.heap H locs) (ho : kd o = 1000 + n) (hn : n < 900) {j : Nat} (hj : i.toNatClampNeg = j) (hin : vp_in i n) {M' : Mem} (hM : M' = w_J M o j x) (hdg : decode cc pc = .ok (.lastore, 1))
    (kk : ∀ (H1 : Heap) (locs1 : List Loc), WH G M' H1 → va_S (g_A G) s.heap H1 locs1 → W p l e R s m args below meth c H1 locs1 0 0 Q (F0 m (pc + 1) ls rest)) : W p l e R s m args below meth c H locs 0 0 Q (F0 m pc ls (.long x :: .int i :: .ref (g_ad G o) :: rest)) := by
  subst hM
  subst hj
  obtain ⟨hx, hb, hml, hown, hts, hK, hSS, hlk⟩ := cx
  have hlt : o < 65 := kd_lt (by omega)
  refine va_last (D := g_D G) hx hb hK.1 hW (hK.2.2.d M) hS o 1 (by rw [wl_get hlt, ct_j ho (by omega)]) rfl hin hdg (fun H1 locs1 q1 q2 q3 => ?_)
  have hw : (wl G M).set o (g_ad G o, .inl (g_cy G 1, n, .inr (.inl (vp_updL (m_J M o) i.toNatClampNeg x)))) = wl G (w_J M o i.toNatClampNeg x) := by
    have e : m_J (w_J M o i.toNatClampNeg x) o = vp_updL (m_J M o) i.toNatClampNeg x := by
      funext b
      show (if o = o ∧ b = _ then x else M.2 o b) = if b = _ then x else M.2 o b
      simp
    rw [← e, ← ct_j (G := G) (M := w_J M o i.toNatClampNeg x) ho (by omega)]
    exact wl_set hlt ct_wJ
  rw [hw] at q1
  exact kk H1 locs1 q1 q3
end XS
/-! ===== CALLS ===== -/
def CV (own : String) (index : Nat) (C : String) (y : MethodName) (bytes : ByteArray) (maxL : Nat) (ret : Option FieldType) (n : Nat) : Prop :=
  Cond.methodLink own index y ∈ WL ∧ Cond.instanceMethod y ∈ WL ∧ Cond.selects C y y ∈ WL ∧ Cond.initialized C ∈ WL ∧ Cond.code y bytes maxL ret ∈ WL ∧ (y.cls = C ∧ y.cls ≠ "java/lang/invoke/MethodHandle" ∧ y.cls ≠ "java/lang/invoke/VarHandle" ∧ (parseMethodDescriptor y.desc).map (fun d => d.parameters.length) = some n)
def CS (own : String) (index : Nat) (y : MethodName) (bytes : ByteArray) (maxL : Nat) (ret : Option FieldType) (n : Nat) : Prop :=
  Cond.methodLink own index y ∈ WL ∧ Cond.static y ∈ WL ∧ Cond.initialized y.cls ∈ WL ∧ Cond.code y bytes maxL ret ∈ WL ∧ (y.cls ≠ "java/lang/invoke/MethodHandle" ∧ y.cls ≠ "java/lang/invoke/VarHandle" ∧ (parseMethodDescriptor y.desc).map (fun d => d.parameters.length) = some n)
def RM (f n : Nat) : Room := { frames := f, cells := 0, slots := 0, locals := n }
theorem wz_good {y : MethodName} {bytes : ByteArray} {maxL : Nat} {ret : Option FieldType} (h : Cond.code y bytes maxL ret ∈ WL) : GoodIn WL (wz y bytes maxL ret) := by
  intro w hw
  rcases List.mem_cons.mp hw with rfl | hw
  · exact ⟨h, wl_good _ h⟩
  · exact ⟨hw, wl_good _ hw⟩
section XC
variable {p : Program} {l : Launch} {e : Env} {R : Room} {s : State} {m : MethodId} {args : Array Value} {below : List Frame} {meth : Method} {c : Code} {H : Heap} {locs : List Loc} {Q : State → Prop} {cells slots : Nat}
variable {cc bytes : ByteArray} {pc nL maxL index n o ci f0 n0 : Nat} {ls : Array Slot} {rest As st0 : List Value} {G : GG} {M M1 : Mem} {own C : String} {y : MethodName} {ret : Option FieldType} {Qc : Array Value → State → Outcome → State → Prop}
theorem x_runV (cx : Cx G cc own nL p s m args meth c) (hW : WH G M H) (hS : va_S (g_A G) s.heap H locs) (hM : Met l y (wz y bytes maxL ret) (RM f0 n0) (PreC G (.ref (g_ad G o) :: As) M) Qc 0 0 (g_A G)) (hq : CV own index C y bytes maxL ret n) (ho : kd o = ci) (hc : (cls7[ci]?).map (fun q => q.1) = some C)
    (hR : f0 + 1 ≤ R.frames ∧ 8 + (maxL + 11) + n0 ≤ R.locals) (hls : ls.size = nL) (hn : As.length = n) (hst : st0 = As.reverse ++ .ref (g_ad G o) :: rest) (hw : (rest.map fun v => v.category).sum ≤ 8) (hf : cells ≤ R.cells ∧ slots ≤ R.slots) (hdg : decode cc pc = .ok (.invokevirtual index, 3)) :
    va_Run p l e R s m args below meth c H locs cells slots 0 0 (F0 m pc ls st0) rest (Qc (Value.ref (g_ad G o) :: As).toArray) (g_A G) := by
  obtain ⟨hx, hb, hml, hown, hts, hK, hSS, hlk⟩ := cx
  obtain ⟨q1, q2, q3, q4, q5, q6, q7⟩ := hq
  subst q6
  refine va_runV (Ts := WL) (C := y.cls) (n := n) ⟨hx, hb, hml, hown, hts⟩ hM ⟨callB_of n hts (wz_good q5) rfl rfl rfl (hts _ q4) (hts _ q1) q7 hR, hts _ q2, hts _ q3⟩ ⟨PreC.blind, ?_, fun U hU hWm => ⟨rfl, hK.warm hWm, ?_, ?_⟩⟩ rfl hn hls hst (lv_room hw) hdg hf
  · cases hcc : cls7[ci]? with
    | none => rw [hcc] at hc; cases hc
    | some q =>
      rw [hcc] at hc
      have hl : ci < 7 := (List.getElem?_eq_some_iff.mp hcc).1
      have he : (wl G M)[o]? = some (g_ad G o, .inr (ci, fl G M o ci)) := by rw [wl_get (kd_lt (by omega)), ct_o ho (by omega)]
      have h9 := va_recv (D := g_D G) hK.1 hW hcc he
      rw [show q.1 = y.cls from Option.some.inj hc] at h9
      exact h9
  · rw [hU]
    exact hSS.go hWm hS.2.1
  · rw [hU]
    exact hW
theorem x_runS (cx : Cx G cc own nL p s m args meth c) (hW : WH G M H) (hS : va_S (g_A G) s.heap H locs) (hM : Met l y (wz y bytes maxL ret) (RM f0 n0) (PreC G As M) Qc 0 0 (g_A G)) (hq : CS own index y bytes maxL ret n)
    (hR : f0 + 1 ≤ R.frames ∧ 8 + (maxL + 11) + n0 ≤ R.locals) (hls : ls.size = nL) (hn : As.length = n) (hst : st0 = As.reverse ++ rest) (hw : (rest.map fun v => v.category).sum ≤ 8) (hf : cells ≤ R.cells ∧ slots ≤ R.slots) (hdg : decode cc pc = .ok (.invokestatic index, 3)) :
    va_Run p l e R s m args below meth c H locs cells slots 0 0 (F0 m pc ls st0) rest (Qc As.toArray) (g_A G) := by
  obtain ⟨hx, hb, hml, hown, hts, hK, hSS, hlk⟩ := cx
  obtain ⟨q1, q2, q4, q5, q7⟩ := hq
  refine va_runS (Ts := WL) (n := n) ⟨hx, hb, hml, hown, hts⟩ hM ⟨callB_of n hts (wz_good q5) rfl rfl rfl (hts _ q4) (hts _ q1) q7 hR, hts _ q2⟩ ⟨PreC.blind, fun U hU hWm => ⟨rfl, hK.warm hWm, ?_, ?_⟩⟩ rfl hn hls hst (lv_room hw) hdg hf
  · rw [hU]
    exact hSS.go hWm hS.2.1
  · rw [hU]
    exact hW
theorem x_goi {r : Int32} {a : Array Value} (hr : va_Run p l e R s m args below meth c H locs cells slots 0 0 (F0 m pc ls st0) rest (QcI G r M1 a) (g_A G)) (hS : va_S (g_A G) s.heap H locs)
    (kk : ∀ (H1 : Heap) (locs1 : List Loc), WH G M1 H1 → va_S (g_A G) s.heap H1 locs1 → W p l e R s m args below meth c H1 locs1 cells slots Q (F0 m (pc + 3) ls (.int r :: rest))) : W p l e R s m args below meth c H locs cells slots Q (F0 m pc ls st0) := by
  refine va_calli hr hS (fun _ _ h => h) (fun _ h => h) (fun r' u t H1 locs1 ht hvm hw hB hz1 hk1 hS1 => ?_)
  obtain ⟨rfl, rfl⟩ := hw
  rw [ht] at hB
  exact kk H1 locs1 hB hS1
theorem x_gol {r : Int64} {a : Array Value} (hr : va_Run p l e R s m args below meth c H locs cells slots 0 0 (F0 m pc ls st0) rest (QcL G r M1 a) (g_A G)) (hS : va_S (g_A G) s.heap H locs)
    (kk : ∀ (H1 : Heap) (locs1 : List Loc), WH G M1 H1 → va_S (g_A G) s.heap H1 locs1 → W p l e R s m args below meth c H1 locs1 cells slots Q (F0 m (pc + 3) ls (.long r :: rest))) : W p l e R s m args below meth c H locs cells slots Q (F0 m pc ls st0) := by
  refine va_calll hr hS (fun _ _ h => h) (fun _ h => h) (fun r' u t H1 locs1 ht hvm hw hB hz1 hk1 hS1 => ?_)
  obtain ⟨rfl, rfl⟩ := hw
  rw [ht] at hB
  exact kk H1 locs1 hB hS1
theorem x_gov {a : Array Value} (hr : va_Run p l e R s m args below meth c H locs cells slots 0 0 (F0 m pc ls st0) rest (QcV G M1 a) (g_A G)) (hS : va_S (g_A G) s.heap H locs)
    (kk : ∀ (H1 : Heap) (locs1 : List Loc), WH G M1 H1 → va_S (g_A G) s.heap H1 locs1 → W p l e R s m args below meth c H1 locs1 cells slots Q (F0 m (pc + 3) ls rest)) : W p l e R s m args below meth c H locs cells slots Q (F0 m pc ls st0) := by
  refine va_callv hr hS (fun _ _ h => h) (fun _ h => h) (fun u t H1 locs1 ht hvm hw hB hz1 hk1 hS1 => ?_)
  obtain rfl := hw
  rw [ht] at hB
  exact kk H1 locs1 hB hS1
theorem x_gos {r : Nat} {a : Array Value} (hr : va_Run p l e R s m args below meth c H locs cells slots 0 0 (F0 m pc ls st0) rest (QcS G r M1 a) (g_A G)) (hS : va_S (g_A G) s.heap H locs)
    (kk : ∀ (H1 : Heap) (locs1 : List Loc), WH G M1 H1 → va_S (g_A G) s.heap H1 locs1 → W p l e R s m args below meth c H1 locs1 cells slots Q (F0 m (pc + 3) ls (.ref (g_ak G r) :: rest))) : W p l e R s m args below meth c H locs cells slots Q (F0 m pc ls st0) := by
  refine va_callr hr hS (fun _ _ h => h) (fun _ h => h) (fun u r' t H1 locs1 ht hvm hw hB hz1 hk1 hS1 => ?_)
  subst hw
  obtain ⟨hB, rfl⟩ := hB
  rw [ht] at hB
  exact kk H1 locs1 hB hS1
end XC
section XR
variable {p : Program} {l : Launch} {e : Env} {R : Room} {s : State} {m : MethodId} {args : Array Value} {below : List Frame} {meth : Method} {c : Code} {H : Heap} {locs : List Loc} {Q : State → Prop}
variable {cc : ByteArray} {pc nL : Nat} {ls : Array Slot} {rest : List Value} {G : GG} {M M1 : Mem} {own : String}
/-! ends -/
theorem x_iret {v r : Int32} (cx : Cx G cc own nL p s m args meth c) (hr : meth.sig.returnType = some .int) (hW : WH G M H) (hS : va_S (g_A G) s.heap H locs) (h1 : v = r) (h2 : M = M1) (hdg : decode cc pc = .ok (.ireturn, 1)) : W p l e R s m args below meth c H locs 0 0 (MQ below (QcI G r M1) args s 0 0 (g_A G)) (F0 m pc ls [.int v]) := by
  subst h1; subst h2
  exact W.iret cx.1 cx.2.1 hr (fun t ht hW9 => ⟨⟨v, M, rfl, ⟨rfl, rfl⟩, by show WH G M t.heap; rw [ht]; exact hW⟩, hS.F ht⟩) hS.2.2 hdg cx.2.2.2.2.2.2.2
theorem x_zret {v r : Int32} {ty : FieldType} (cx : Cx G cc own nL p s m args meth c) (hr : meth.sig.returnType = some ty) (hz : narrow ty (.int v) = .int v) (hW : WH G M H) (hS : va_S (g_A G) s.heap H locs) (h1 : v = r) (h2 : M = M1) (hdg : decode cc pc = .ok (.ireturn, 1)) : W p l e R s m args below meth c H locs 0 0 (MQ below (QcI G r M1) args s 0 0 (g_A G)) (F0 m pc ls [.int v]) := by
  subst h1; subst h2
  exact W.zret cx.1 cx.2.1 hr hz (fun t ht hW9 => ⟨⟨v, M, rfl, ⟨rfl, rfl⟩, by show WH G M t.heap; rw [ht]; exact hW⟩, hS.F ht⟩) hS.2.2 hdg cx.2.2.2.2.2.2.2
theorem x_lret {v r : Int64} (cx : Cx G cc own nL p s m args meth c) (hr : meth.sig.returnType = some .long) (hW : WH G M H) (hS : va_S (g_A G) s.heap H locs) (h1 : v = r) (h2 : M = M1) (hdg : decode cc pc = .ok (.lreturn, 1)) : W p l e R s m args below meth c H locs 0 0 (MQ below (QcL G r M1) args s 0 0 (g_A G)) (F0 m pc ls [.long v]) := by
  subst h1; subst h2
  exact W.lret cx.1 cx.2.1 hr (fun t ht hW9 => ⟨⟨v, M, rfl, ⟨rfl, rfl⟩, by show WH G M t.heap; rw [ht]; exact hW⟩, hS.F ht⟩) hS.2.2 hdg cx.2.2.2.2.2.2.2
theorem x_vret (cx : Cx G cc own nL p s m args meth c) (hr : meth.sig.returnType = none) (hW : WH G M H) (hS : va_S (g_A G) s.heap H locs) (h2 : M = M1) (hdg : decode cc pc = .ok (.return_, 1)) : W p l e R s m args below meth c H locs 0 0 (MQ below (QcV G M1) args s 0 0 (g_A G)) (F0 m pc ls []) := by
  subst h2
  exact W.vret cx.1 cx.2.1 hr (fun t ht hW9 => ⟨⟨M, rfl, rfl, by show WH G M t.heap; rw [ht]; exact hW⟩, hS.F ht⟩) hS.2.2 hdg cx.2.2.2.2.2.2.2
theorem x_sret {v r : Nat} (cx : Cx G cc own nL p s m args meth c) (hr : meth.sig.returnType = some (.object "java/lang/String")) (hW : WH G M H) (hS : va_S (g_A G) s.heap H locs) (h1 : v = r) (h2 : M = M1) (hdg : decode cc pc = .ok (.areturn, 1)) : W p l e R s m args below meth c H locs 0 0 (MQ below (QcS G r M1) args s 0 0 (g_A G)) (F0 m pc ls [.ref (g_ak G v)]) := by
  subst h1; subst h2
  exact W.aret cx.1 cx.2.1 hr (Or.inl ⟨_, rfl⟩) (Or.inr ⟨_, rfl⟩) (fun t ht hW9 => ⟨⟨(M, v), g_ak G v, rfl, rfl, by show WH G M t.heap; rw [ht]; exact hW, rfl⟩, hS.F ht⟩) hS.2.2 hdg cx.2.2.2.2.2.2.2
/-! static arrays -/
theorem x_sald {t N : Nat} {f : Nat → Int32} {i : Int32} (cx : Cx G cc own nL p s m args meth c) (hT : va_T .int t N (fun j => .int (f j)) (g_A G) s s.heap) (hS : va_S (g_A G) s.heap H locs) {j : Nat} (hj : i.toNatClampNeg = j) (hin : vp_in i N) (hdg : decode cc pc = .ok (.iaload, 1))
    (kk : W p l e R s m args below meth c H locs 0 0 Q (F0 m (pc + 1) ls (.int (f j) :: rest))) : W p l e R s m args below meth c H locs 0 0 Q (F0 m pc ls (.int i :: .ref t :: rest)) :=
  va_ti cx.1 cx.2.1 hT hS hin (by rw [hj]) hdg kk
theorem x_gets {C n d : String} {v : Value} {index : Nat} (cx : Cx G cc own nL p s m args meth c) (hZ : va_Z C n d v (g_A G) s s.heap) (hS : va_S (g_A G) s.heap H locs) (hlink : Cond.fieldLink own index C n d ∈ WL) (hdg : decode cc pc = .ok (.getstatic index, 3))
    (kk : W p l e R s m args below meth c H locs 0 0 Q (F0 m (pc + 3) ls (v :: rest))) : W p l e R s m args below meth c H locs 0 0 Q (F0 m pc ls rest) :=
  va_gets cx.1 cx.2.1 hZ hS cx.2.2.2.1 (cx.2.2.2.2.1 _ hlink) (fun _ q => q) hdg kk
/-! constants -/
theorem x_ldc {index : Nat} {v : Int32} (cx : Cx G cc own nL p s m args meth c) (h : Cond.constant own index v ∈ WL) (hdg : decode cc pc = .ok (.ldc index, 2)) (kk : W p l e R s m args below meth c H locs 0 0 Q (F0 m (pc + 2) ls (.int v :: rest))) : W p l e R s m args below meth c H locs 0 0 Q (F0 m pc ls rest) :=
  lv_ldc cx.1 cx.2.1 cx.2.2.2.1 (cx.2.2.2.2.1 _ h) hdg kk
theorem x_ldc2 {index : Nat} {v : Int64} (cx : Cx G cc own nL p s m args meth c) (h : Cond.constantLong own index v ∈ WL) (hdg : decode cc pc = .ok (.ldc2_w index, 3)) (kk : W p l e R s m args below meth c H locs 0 0 Q (F0 m (pc + 3) ls (.long v :: rest))) : W p l e R s m args below meth c H locs 0 0 Q (F0 m pc ls rest) :=
  lv_ldc2 cx.1 cx.2.1 cx.2.2.2.1 (cx.2.2.2.2.1 _ h) hdg kk
theorem x_ldcS {index i : Nat} {tx : String} (cx : Cx G cc RX5 nL p s m args meth c) (hi : i < 11) (h : txL.getD i (0, "") = (index, tx)) (hdg : decode cc pc = .ok (.ldc index, 2)) (kk : W p l e R s m args below meth c H locs 0 0 Q (F0 m (pc + 2) ls (.ref (g_ak G i) :: rest))) : W p l e R s m args below meth c H locs 0 0 Q (F0 m pc ls rest) := by
  have h9 := cx.2.2.2.2.2.2.1.2.2.2.2.2.2 i hi
  rw [h] at h9
  exact va_ldcS cx.1 cx.2.1 cx.2.2.2.1 h9 hdg kk
/-! Math.max, Math.min -/
def CM (own : String) (index : Nat) (y : MethodName) (bytes : ByteArray) : Prop := Cond.methodLink own index y ∈ WL ∧ Cond.static y ∈ WL ∧ Cond.initialized "java/lang/Math" ∈ WL ∧ Cond.code y bytes 2 (some .int) ∈ WL
theorem x_max {index : Nat} {x y : Int32} (cx : Cx G cc own nL p s m args meth c) (h : CM own index Lib.Math.max.name Lib.Math.max.code) (hls : ls.size = nL) (hR : 1 ≤ R.frames) (hL : (rest.map fun v => v.category).sum + 13 ≤ R.locals) (hdg : decode cc pc = .ok (.invokestatic index, 3))
    (kk : W p l e R s m args below meth c H locs 0 0 Q (F0 m (pc + 3) ls (.int (if x < y then y else x) :: rest))) : W p l e R s m args below meth c H locs 0 0 Q (F0 m pc ls (.int y :: .int x :: rest)) :=
  va_mmax cx.1 cx.2.1 (cx.2.2.1.trans hls.symm) cx.2.2.2.1 (cx.2.2.2.2.1 _ h.1) (cx.2.2.2.2.1 _ h.2.1) (cx.2.2.2.2.1 _ h.2.2.1) (cx.2.2.2.2.1 _ h.2.2.2) hR hL (Nat.zero_le _) (Nat.zero_le _) hdg kk
theorem x_min {index : Nat} {x y : Int32} (cx : Cx G cc own nL p s m args meth c) (h : CM own index Lib.Math.min.name Lib.Math.min.code) (hls : ls.size = nL) (hR : 1 ≤ R.frames) (hL : (rest.map fun v => v.category).sum + 13 ≤ R.locals) (hdg : decode cc pc = .ok (.invokestatic index, 3))
    (kk : W p l e R s m args below meth c H locs 0 0 Q (F0 m (pc + 3) ls (.int (if y < x then y else x) :: rest))) : W p l e R s m args below meth c H locs 0 0 Q (F0 m pc ls (.int y :: .int x :: rest)) :=
  va_mmin cx.1 cx.2.1 (cx.2.2.1.trans hls.symm) cx.2.2.2.1 (cx.2.2.2.2.1 _ h.1) (cx.2.2.2.2.1 _ h.2.1) (cx.2.2.2.2.1 _ h.2.2.1) (cx.2.2.2.2.1 _ h.2.2.2) hR hL (Nat.zero_le _) (Nat.zero_le _) hdg kk
/-! System.arraycopy -/
def CA (own : String) (index : Nat) : Prop := Cond.methodLink own index arraycopyName ∈ WL ∧ Cond.native arraycopyName ∈ WL ∧ Cond.static arraycopyName ∈ WL ∧ Cond.initialized "java/lang/System" ∈ WL
/-- a copy is within both rows -/
def cp {α : Type} (n0 n1 : Nat) (sp dp n : Int32) (k : Nat → Nat → Nat → Option α) : Option α := if 0 ≤ sp.toInt ∧ 0 ≤ dp.toInt ∧ 0 ≤ n.toInt ∧ sp.toNatClampNeg + n.toNatClampNeg ≤ n0 ∧ dp.toNatClampNeg + n.toNatClampNeg ≤ n1 then k sp.toNatClampNeg dp.toNatClampNeg n.toNatClampNeg else none
theorem nn_of {x : Int32} (h : 0 ≤ x.toInt) : ¬ x < 0 := by
  rw [Int32.lt_iff_toInt_lt]
  have : (0 : Int32).toInt = 0 := by decide
  omega
theorem cp_e {α : Type} {n0 n1 : Nat} {sp dp n : Int32} {k : Nat → Nat → Nat → Option α} {r : α} (h : cp n0 n1 sp dp n k = some r) : ∃ i j z, (sp.toNatClampNeg = i ∧ dp.toNatClampNeg = j ∧ n.toNatClampNeg = z) ∧ (¬ sp < 0 ∧ ¬ dp < 0 ∧ ¬ n < 0 ∧ sp.toNatClampNeg + n.toNatClampNeg ≤ n0 ∧ dp.toNatClampNeg + n.toNatClampNeg ≤ n1) ∧ k i j z = some r := by
  unfold cp at h
  by_cases q : 0 ≤ sp.toInt ∧ 0 ≤ dp.toInt ∧ 0 ≤ n.toInt ∧ sp.toNatClampNeg + n.toNatClampNeg ≤ n0 ∧ dp.toNatClampNeg + n.toNatClampNeg ≤ n1
  · rw [if_pos q] at h
    exact ⟨_, _, _, ⟨rfl, rfl, rfl⟩, ⟨nn_of q.1, nn_of q.2.1, nn_of q.2.2.1, q.2.2.2⟩, h⟩
  · rw [if_neg q] at h
    cases h
theorem x_copyi {index o q n0 n1 : Nat} {sp dp n : Int32} (cx : Cx G cc own nL p s m args meth c) (h : CA own index) (hls : ls.size = nL) (hW : WH G M H) (hS : va_S (g_A G) s.heap H locs) (ho : kd o = 100 + n0) (hn0 : n0 < 900) (hq : kd q = 100 + n1) (hn1 : n1 < 900)
    {i j z : Nat} (hj : sp.toNatClampNeg = i ∧ dp.toNatClampNeg = j ∧ n.toNatClampNeg = z) (hb : ¬ sp < 0 ∧ ¬ dp < 0 ∧ ¬ n < 0 ∧ sp.toNatClampNeg + n.toNatClampNeg ≤ n0 ∧ dp.toNatClampNeg + n.toNatClampNeg ≤ n1) (hR : 1 ≤ R.frames) (hL : (rest.map fun v => v.category).sum + (nativeFrameWords "java/lang/System" "arraycopy" 5 + 11) ≤ R.locals) {M' : Mem} (hM : M' = y_I M o i q j z) (hdg : decode cc pc = .ok (.invokestatic index, 3))
    (kk : ∀ (H1 : Heap) (locs1 : List Loc), WH G M' H1 → va_S (g_A G) s.heap H1 locs1 → W p l e R s m args below meth c H1 locs1 0 0 Q (F0 m (pc + 3) ls rest)) : W p l e R s m args below meth c H locs 0 0 Q (F0 m pc ls (.int n :: .int dp :: .ref (g_ad G q) :: .int sp :: .ref (g_ad G o) :: rest)) := by
  subst hM
  obtain ⟨rfl, rfl, rfl⟩ := hj
  obtain ⟨hx, hb', hml, hown, hts, hK, hSS, hlk⟩ := cx
  have hlt : q < 65 := kd_lt (by omega)
  refine va_copyi (D := g_D G) hx hb' (hml.trans hls.symm) hown (hts _ h.1) (hts _ h.2.1) (hts _ h.2.2.1) (hts _ h.2.2.2) hK.1 hW (hK.2.2.d M) hS o q 0 0 (by rw [wl_get (kd_lt (by omega)), ct_i ho hn0]) (by rw [wl_get hlt, ct_i hq hn1]) rfl rfl rfl hb.1 hb.2.1 hb.2.2.1 hb.2.2.2.1 hb.2.2.2.2 (fun _ _ => rfl) hR hL hdg (fun H1 locs1 q1 q2 q3 => ?_)
  have hw : (wl G M).set q (g_ad G q, .inl (g_cy G 0, n1, .inl (va_cpy (m_I M o) (m_I M q) sp.toNatClampNeg dp.toNatClampNeg n.toNatClampNeg))) = wl G (y_I M o sp.toNatClampNeg q dp.toNatClampNeg n.toNatClampNeg) := by
    have e : m_I (y_I M o sp.toNatClampNeg q dp.toNatClampNeg n.toNatClampNeg) q = va_cpy (m_I M o) (m_I M q) sp.toNatClampNeg dp.toNatClampNeg n.toNatClampNeg := by
      funext b
      show (if q = q ∧ _ ≤ b ∧ b < _ then M.1 o _ else M.1 q b) = if _ ≤ b ∧ b < _ then M.1 o _ else M.1 q b
      simp
    rw [← e, ← ct_i (G := G) (M := y_I M o sp.toNatClampNeg q dp.toNatClampNeg n.toNatClampNeg) hq hn1]
    exact wl_set hlt (fun a h => ct_eq (fun b => if_neg (fun q => h q.1)) (fun _ => rfl))
  rw [hw] at q1
  exact kk H1 locs1 q1 q3
theorem x_copyl {index o q n0 n1 : Nat} {sp dp n : Int32} (cx : Cx G cc own nL p s m args meth c) (h : CA own index) (hls : ls.size = nL) (hW : WH G M H) (hS : va_S (g_A G) s.heap H locs) (ho : kd o = 1000 + n0) (hn0 : n0 < 900) (hq : kd q = 1000 + n1) (hn1 : n1 < 900)
    {i j z : Nat} (hj : sp.toNatClampNeg = i ∧ dp.toNatClampNeg = j ∧ n.toNatClampNeg = z) (hb : ¬ sp < 0 ∧ ¬ dp < 0 ∧ ¬ n < 0 ∧ sp.toNatClampNeg + n.toNatClampNeg ≤ n0 ∧ dp.toNatClampNeg + n.toNatClampNeg ≤ n1) (hR : 1 ≤ R.frames) (hL : (rest.map fun v => v.category).sum + (nativeFrameWords "java/lang/System" "arraycopy" 5 + 11) ≤ R.locals) {M' : Mem} (hM : M' = y_J M o i q j z) (hdg : decode cc pc = .ok (.invokestatic index, 3))
    (kk : ∀ (H1 : Heap) (locs1 : List Loc), WH G M' H1 → va_S (g_A G) s.heap H1 locs1 → W p l e R s m args below meth c H1 locs1 0 0 Q (F0 m (pc + 3) ls rest)) : W p l e R s m args below meth c H locs 0 0 Q (F0 m pc ls (.int n :: .int dp :: .ref (g_ad G q) :: .int sp :: .ref (g_ad G o) :: rest)) := by
  subst hM
  obtain ⟨rfl, rfl, rfl⟩ := hj
  obtain ⟨hx, hb', hml, hown, hts, hK, hSS, hlk⟩ := cx
  have hlt : q < 65 := kd_lt (by omega)
  refine va_copyl (D := g_D G) hx hb' (hml.trans hls.symm) hown (hts _ h.1) (hts _ h.2.1) (hts _ h.2.2.1) (hts _ h.2.2.2) hK.1 hW (hK.2.2.d M) hS o q 1 1 (by rw [wl_get (kd_lt (by omega)), ct_j ho (by omega)]) (by rw [wl_get hlt, ct_j hq (by omega)]) rfl rfl rfl hb.1 hb.2.1 hb.2.2.1 hb.2.2.2.1 hb.2.2.2.2 (fun _ _ => rfl) hR hL hdg (fun H1 locs1 q1 q2 q3 => ?_)
  have hw : (wl G M).set q (g_ad G q, .inl (g_cy G 1, n1, .inr (.inl (va_cpy (m_J M o) (m_J M q) sp.toNatClampNeg dp.toNatClampNeg n.toNatClampNeg)))) = wl G (y_J M o sp.toNatClampNeg q dp.toNatClampNeg n.toNatClampNeg) := by
    have e : m_J (y_J M o sp.toNatClampNeg q dp.toNatClampNeg n.toNatClampNeg) q = va_cpy (m_J M o) (m_J M q) sp.toNatClampNeg dp.toNatClampNeg n.toNatClampNeg := by
      funext b
      show (if q = q ∧ _ ≤ b ∧ b < _ then M.2 o _ else M.2 q b) = if _ ≤ b ∧ b < _ then M.2 o _ else M.2 q b
      simp
    rw [← e, ← ct_j (G := G) (M := y_J M o sp.toNatClampNeg q dp.toNatClampNeg n.toNatClampNeg) hq (by omega)]
    exact wl_set hlt (fun a h => ct_eq (fun _ => rfl) (fun b => if_neg (fun q => h q.1)))
  rw [hw] at q1
  exact kk H1 locs1 q1 q3
theorem x_pini {x : Int32} {α : Type} {k : Int32 → Option α} {r : Option α} (hF : pin x k = r) (kk : ∀ y, k y = r → W p l e R s m args below meth c H locs 0 0 Q (F0 m pc ls (.int y :: rest))) : W p l e R s m args below meth c H locs 0 0 Q (F0 m pc ls (.int x :: rest)) := kk x hF
theorem x_pinl {x : Int64} {α : Type} {k : Int64 → Option α} {r : Option α} (hF : pin x k = r) (kk : ∀ y, k y = r → W p l e R s m args below meth c H locs 0 0 Q (F0 m pc ls (.long y :: rest))) : W p l e R s m args below meth c H locs 0 0 Q (F0 m pc ls (.long x :: rest)) := kk x hF
/-! switches: one case, the rest -/
theorem x_tab {dflt lo hi : Int} {offs : Array Int} {len : Nat} {x k : Int32} {off : Int} {tgt : Nat} (cx : Cx G cc own nL p s m args meth c) (hdg : decode cc pc = .ok (.tableswitch dflt lo hi offs, len)) (h : x = k) (h1 : ¬ k.toInt < lo) (h2 : ¬ hi < k.toInt) (ho : offs[(k.toInt - lo).toNat]? = some off) (ht : (pc : Int) + off = (tgt : Int))
    (kk : W p l e R s m args below meth c H locs 0 0 Q (F0 m tgt ls rest)) : W p l e R s m args below meth c H locs 0 0 Q (F0 m pc ls (.int x :: rest)) := by
  subst h
  exact lv_tableIn cx.1 cx.2.1 hdg h1 h2 ho ht kk
theorem x_lkp {dflt : Int} {ps : Array (Int × Int)} {len : Nat} {x k : Int32} {off : Int} {tgt : Nat} (cx : Cx G cc own nL p s m args meth c) (hdg : decode cc pc = .ok (.lookupswitch dflt ps, len)) (hp : (ps.toList.zip (ps.toList.drop 1)).all (fun (a, next) => a.1 < next.1) = true) (h : x = k) (ho : Op.lookupswitch.offset ps.toList dflt k.toInt = off) (ht : (pc : Int) + off = (tgt : Int))
    (kk : W p l e R s m args below meth c H locs 0 0 Q (F0 m tgt ls rest)) : W p l e R s m args below meth c H locs 0 0 Q (F0 m pc ls (.int x :: rest)) := by
  subst h
  exact lv_lookup cx.1 cx.2.1 hdg hp ho ht kk
theorem x_ldcw {index : Nat} {v : Int32} (cx : Cx G cc own nL p s m args meth c) (h : Cond.constant own index v ∈ WL) (hdg : decode cc pc = .ok (.ldc_w index, 3)) (kk : W p l e R s m args below meth c H locs 0 0 Q (F0 m (pc + 3) ls (.int v :: rest))) : W p l e R s m args below meth c H locs 0 0 Q (F0 m pc ls rest) :=
  lv_ldcw cx.1 cx.2.1 cx.2.2.2.1 (cx.2.2.2.2.1 _ h) hdg kk
theorem x_alenJ {o n : Nat} {v : Int32} (cx : Cx G cc own nL p s m args meth c) (hW : WH G M H) (ho : kd o = 1000 + n) (hn : n < 900) (hv : Int32.ofNat n = v) (hdg : decode cc pc = .ok (.arraylength, 1))
    (kk : W p l e R s m args below meth c H locs 0 0 Q (F0 m (pc + 1) ls (.int v :: rest))) : W p l e R s m args below meth c H locs 0 0 Q (F0 m pc ls (.ref (g_ad G o) :: rest)) := by
  obtain ⟨hx, hb, hml, hown, hts, hK, hSS, hlk⟩ := cx
  exact va_alen (D := g_D G) hx hb hK.1 hW o 1 (by rw [wl_get (kd_lt (by omega)), ct_j ho (by omega)]) rfl hv hdg kk
theorem x_sw {x : Int32} (k : Int32) (a : x = k → W p l e R s m args below meth c H locs 0 0 Q (F0 m pc ls (.int x :: rest))) (b : ¬ x = k → W p l e R s m args below meth c H locs 0 0 Q (F0 m pc ls (.int x :: rest))) : W p l e R s m args below meth c H locs 0 0 Q (F0 m pc ls (.int x :: rest)) := by
  by_cases h : x = k
  · exact a h
  · exact b h
end XR
/-! ===== what a Village's and a Sheet's cells are ===== -/
theorem kd_3 {v : Nat} (h : kd v = 3) : v = 2 ∨ v = 13 ∨ v = 24 := by
  have hl : v < 65 := kd_lt (by omega)
  have : ∀ v, v < 65 → kd v = 3 → v = 2 ∨ v = 13 ∨ v = 24 := by decide
  exact this v hl h
theorem kd_1 {v : Nat} (h : kd v = 1) : v = 41 ∨ v = 43 ∨ v = 45 ∨ v = 47 := by
  have hl : v < 65 := kd_lt (by omega)
  have : ∀ v, v < 65 → kd v = 1 → v = 41 ∨ v = 43 ∨ v = 45 ∨ v = 47 := by decide
  exact this v hl h
theorem kd_v {v j : Nat} (h : kd v = 3) (h1 : 1 ≤ j) (h2 : j ≤ 10) : kd (v + j) = 100 + 8 := by
  have : ∀ j, j < 11 → 1 ≤ j → kd (2 + j) = 108 ∧ kd (13 + j) = 108 ∧ kd (24 + j) = 108 := by decide
  obtain ⟨a, b, c⟩ := this j (by omega) h1
  rcases kd_3 h with rfl | rfl | rfl
  · exact a
  · exact b
  · exact c
theorem kd_s {v : Nat} (h : kd v = 1) : kd (v + 1) = 1000 + 40 := by
  rcases kd_1 h with rfl | rfl | rfl | rfl <;> rfl
theorem nz_b {x : Int32} (h : x = 0 ∨ x = 1) : narrow .boolean (.int x) = .int x := by rcases h with rfl | rfl <;> decide
def FU : Nat := 1000
theorem kd_sh {i : Int32} {j : Nat} (hj : i.toNatClampNeg = j) (h : vp_in i 4) : kd (41 + 2 * j) = 1 := by
  subst hj
  obtain ⟨j, hj, rfl⟩ := vp_in_of h (by omega)
  rw [nI_clamp (by omega)]
  have : ∀ j, j < 4 → kd (41 + 2 * j) = 1 := by decide
  exact this j hj
end
section
theorem tb_1 {w : Cond} (h : w ∈ tables_1_1) : w ∈ lw_tbl := List.mem_append_right _ (List.mem_append_left _ h)
theorem wl_1 {w : Cond} (i : Nat) (h : tables_1_1[i]? = some w) (hg : goodWord w = true) : w ∈ WL := List.mem_filter.mpr ⟨tb_1 (List.mem_of_getElem? h), hg⟩
theorem nl_1 {w : Cond} (i : Nat) (h : tables_1_1[i]? = some w) (hg : isNest w = true) : w ∈ NL := List.mem_filter.mpr ⟨tb_1 (List.mem_of_getElem? h), hg⟩
theorem tb_2 {w : Cond} (h : w ∈ tables_1_2) : w ∈ lw_tbl := List.mem_append_right _ (List.mem_append_right _ (List.mem_append_left _ h))
theorem wl_2 {w : Cond} (i : Nat) (h : tables_1_2[i]? = some w) (hg : goodWord w = true) : w ∈ WL := List.mem_filter.mpr ⟨tb_2 (List.mem_of_getElem? h), hg⟩
theorem nl_2 {w : Cond} (i : Nat) (h : tables_1_2[i]? = some w) (hg : isNest w = true) : w ∈ NL := List.mem_filter.mpr ⟨tb_2 (List.mem_of_getElem? h), hg⟩
theorem tb_3 {w : Cond} (h : w ∈ tables_1_3) : w ∈ lw_tbl := List.mem_append_right _ (List.mem_append_right _ (List.mem_append_right _ (List.mem_append_left _ h)))
theorem wl_3 {w : Cond} (i : Nat) (h : tables_1_3[i]? = some w) (hg : goodWord w = true) : w ∈ WL := List.mem_filter.mpr ⟨tb_3 (List.mem_of_getElem? h), hg⟩
theorem nl_3 {w : Cond} (i : Nat) (h : tables_1_3[i]? = some w) (hg : isNest w = true) : w ∈ NL := List.mem_filter.mpr ⟨tb_3 (List.mem_of_getElem? h), hg⟩
theorem tb_4 {w : Cond} (h : w ∈ tables_1_4) : w ∈ lw_tbl := List.mem_append_right _ (List.mem_append_right _ (List.mem_append_right _ (List.mem_append_right _ (List.mem_append_left _ h))))
theorem wl_4 {w : Cond} (i : Nat) (h : tables_1_4[i]? = some w) (hg : goodWord w = true) : w ∈ WL := List.mem_filter.mpr ⟨tb_4 (List.mem_of_getElem? h), hg⟩
theorem nl_4 {w : Cond} (i : Nat) (h : tables_1_4[i]? = some w) (hg : isNest w = true) : w ∈ NL := List.mem_filter.mpr ⟨tb_4 (List.mem_of_getElem? h), hg⟩
theorem tb_5 {w : Cond} (h : w ∈ tables_1_5) : w ∈ lw_tbl := List.mem_append_right _ (List.mem_append_right _ (List.mem_append_right _ (List.mem_append_right _ (List.mem_append_right _ h))))
theorem wl_5 {w : Cond} (i : Nat) (h : tables_1_5[i]? = some w) (hg : goodWord w = true) : w ∈ WL := List.mem_filter.mpr ⟨tb_5 (List.mem_of_getElem? h), hg⟩
theorem nl_5 {w : Cond} (i : Nat) (h : tables_1_5[i]? = some w) (hg : isNest w = true) : w ∈ NL := List.mem_filter.mpr ⟨tb_5 (List.mem_of_getElem? h), hg⟩
theorem wl_p {w : Cond} (i : Nat) (h : (k2_sels lw_privs)[i]? = some w) (hg : goodWord w = true) : w ∈ WL := List.mem_filter.mpr ⟨List.mem_append_left _ (List.mem_of_getElem? h), hg⟩
theorem uX0 : ∀ w ∈ u_ws RX0 TX0 1, w ∈ WL := by decide +kernel
theorem uX2 : ∀ w ∈ u_ws RX2 TX2 3, w ∈ WL := by decide +kernel
theorem uX3 : ∀ w ∈ u_ws RX3 TX3 2, w ∈ WL := by decide +kernel
theorem uX4 : ∀ w ∈ u_ws RX4 TX4 13, w ∈ WL := by decide +kernel
theorem uX5 : ∀ w ∈ u_ws RX5 TX5 5, w ∈ WL := by decide +kernel
theorem uX7 : ∀ w ∈ u_ws RX7 TX7 9, w ∈ WL := by decide +kernel
theorem uX8 : ∀ w ∈ u_ws RX8 TX8 23, w ∈ WL := by decide +kernel
theorem kc_0 : kd 0 = 5 := rfl
theorem kc_1 : kd 1 = 100 + 7 := rfl
theorem kc_2 : kd 2 = 3 := rfl
theorem kc_3 : kd 3 = 100 + 8 := rfl
theorem kc_4 : kd 4 = 100 + 8 := rfl
theorem kc_5 : kd 5 = 100 + 8 := rfl
theorem kc_6 : kd 6 = 100 + 8 := rfl
theorem kc_7 : kd 7 = 100 + 8 := rfl
theorem kc_8 : kd 8 = 100 + 8 := rfl
theorem kc_9 : kd 9 = 100 + 8 := rfl
theorem kc_10 : kd 10 = 100 + 8 := rfl
theorem kc_11 : kd 11 = 100 + 8 := rfl
theorem kc_12 : kd 12 = 100 + 8 := rfl
theorem kc_13 : kd 13 = 3 := rfl
theorem kc_14 : kd 14 = 100 + 8 := rfl
theorem kc_15 : kd 15 = 100 + 8 := rfl
theorem kc_16 : kd 16 = 100 + 8 := rfl
theorem kc_17 : kd 17 = 100 + 8 := rfl
theorem kc_18 : kd 18 = 100 + 8 := rfl
theorem kc_19 : kd 19 = 100 + 8 := rfl
theorem kc_20 : kd 20 = 100 + 8 := rfl
theorem kc_21 : kd 21 = 100 + 8 := rfl
theorem kc_22 : kd 22 = 100 + 8 := rfl
theorem kc_23 : kd 23 = 100 + 8 := rfl
theorem kc_24 : kd 24 = 3 := rfl
theorem kc_25 : kd 25 = 100 + 8 := rfl
theorem kc_26 : kd 26 = 100 + 8 := rfl
theorem kc_27 : kd 27 = 100 + 8 := rfl
theorem kc_28 : kd 28 = 100 + 8 := rfl
theorem kc_29 : kd 29 = 100 + 8 := rfl
theorem kc_30 : kd 30 = 100 + 8 := rfl
theorem kc_31 : kd 31 = 100 + 8 := rfl
theorem kc_32 : kd 32 = 100 + 8 := rfl
theorem kc_33 : kd 33 = 100 + 8 := rfl
theorem kc_34 : kd 34 = 100 + 8 := rfl
theorem kc_35 : kd 35 = 0 := rfl
theorem kc_36 : kd 36 = 100 + 256 := rfl
theorem kc_37 : kd 37 = 2 := rfl
theorem kc_38 : kd 38 = 100 + 120 := rfl
theorem kc_39 : kd 39 = 4 := rfl
theorem kc_40 : kd 40 = 2004 := rfl
theorem kc_41 : kd 41 = 1 := rfl
theorem kc_42 : kd 42 = 1000 + 40 := rfl
theorem kc_43 : kd 43 = 1 := rfl
theorem kc_44 : kd 44 = 1000 + 40 := rfl
theorem kc_45 : kd 45 = 1 := rfl
theorem kc_46 : kd 46 = 1000 + 40 := rfl
theorem kc_47 : kd 47 = 1 := rfl
theorem kc_48 : kd 48 = 1000 + 40 := rfl
theorem kc_49 : kd 49 = 6 := rfl
theorem kc_50 : kd 50 = 100 + 51 := rfl
theorem kc_51 : kd 51 = 100 + 7 := rfl
theorem kc_52 : kd 52 = 100 + 8 := rfl
theorem kc_53 : kd 53 = 100 + 8 := rfl
theorem kc_54 : kd 54 = 100 + 8 := rfl
theorem kc_55 : kd 55 = 100 + 8 := rfl
theorem kc_56 : kd 56 = 100 + 51 := rfl
theorem kc_57 : kd 57 = 100 + 256 := rfl
theorem kc_58 : kd 58 = 100 + 120 := rfl
theorem kc_59 : kd 59 = 100 + 4 := rfl
theorem kc_60 : kd 60 = 100 + 4 := rfl
theorem kc_61 : kd 61 = 1000 + 160 := rfl
theorem kc_62 : kd 62 = 1000 + 40 := rfl
theorem kc_63 : kd 63 = 100 + 51 := rfl
theorem kc_64 : kd 64 = 100 + 51 := rfl
theorem q_k_J6_265 : Cond.constant RJ6 265 (1431655765) ∈ WL := wl_2 44 rfl rfl
theorem q_k_J6_266 : Cond.constant RJ6 266 (858993459) ∈ WL := wl_2 45 rfl rfl
theorem q_k_J6_267 : Cond.constant RJ6 267 (252645135) ∈ WL := wl_2 46 rfl rfl
theorem q_fl_X4_15 : Cond.fieldLink RX4 15 (TX4 3).1 (TX4 3).2.1 (TX4 3).2.2.1 ∈ WL := wl_1 39 rfl rfl
theorem q_ml_X4_58 : Cond.methodLink RX4 58 yX4_isChild ∈ WL := wl_2 25 rfl rfl
theorem q_instanceMethod_X4_isChild : Cond.instanceMethod yX4_isChild ∈ WL := wl_2 26 rfl rfl
theorem q_sel_X4_isChild : Cond.selects RX4 yX4_isChild yX4_isChild ∈ WL := wl_2 27 rfl rfl
theorem q_ini_FridaySlips_Village : Cond.initialized "FridaySlips$Village" ∈ WL := wl_1 2 rfl rfl
theorem q_code_X4_isChild : Cond.code yX4_isChild cX4_isChild 2 (some .boolean) ∈ WL := wl_2 28 rfl rfl
theorem q_ml_X6_15 : Cond.methodLink RX6 15 Lib.Math.max.name ∈ WL := wl_1 221 rfl rfl
theorem q_static_Mmax : Cond.static Lib.Math.max.name ∈ WL := wl_1 222 rfl rfl
theorem q_ini_java_lang_Math : Cond.initialized "java/lang/Math" ∈ WL := wl_1 9 rfl rfl
theorem q_code_Mmax : Cond.code Lib.Math.max.name Lib.Math.max.code 2 (some .int) ∈ WL := wl_1 223 rfl rfl
theorem q_fl_X4_19 : Cond.fieldLink RX4 19 (TX4 4).1 (TX4 4).2.1 (TX4 4).2.2.1 ∈ WL := wl_1 41 rfl rfl
theorem q_fl_X4_25 : Cond.fieldLink RX4 25 (TX4 6).1 (TX4 6).2.1 (TX4 6).2.2.1 ∈ WL := wl_1 47 rfl rfl
theorem q_fl_X4_28 : Cond.fieldLink RX4 28 (TX4 7).1 (TX4 7).2.1 (TX4 7).2.2.1 ∈ WL := wl_1 50 rfl rfl
theorem q_ml_X4_66 : Cond.methodLink RX4 66 yX6_earned ∈ WL := wl_1 218 rfl rfl
theorem q_static_X6_earned : Cond.static yX6_earned ∈ WL := wl_1 219 rfl rfl
theorem q_ini_FridaySlips_Ways : Cond.initialized "FridaySlips$Ways" ∈ WL := wl_1 8 rfl rfl
theorem q_code_X6_earned : Cond.code yX6_earned cX6_earned 8 (some .int) ∈ WL := wl_1 220 rfl rfl
theorem q_ml_X4_62 : Cond.methodLink RX4 62 yX4_earningAs ∈ WL := wl_1 214 rfl rfl
theorem q_instanceMethod_X4_earningAs : Cond.instanceMethod yX4_earningAs ∈ WL := wl_1 215 rfl rfl
theorem q_sel_X4_earningAs : Cond.selects RX4 yX4_earningAs yX4_earningAs ∈ WL := wl_1 216 rfl rfl
theorem q_code_X4_earningAs : Cond.code yX4_earningAs cX4_earningAs 4 (some .int) ∈ WL := wl_1 217 rfl rfl
theorem q_ml_X0_37 : Cond.methodLink RX0 37 yX4_areAlike ∈ WL := wl_2 183 rfl rfl
theorem q_instanceMethod_X4_areAlike : Cond.instanceMethod yX4_areAlike ∈ WL := wl_2 22 rfl rfl
theorem q_sel_X4_areAlike : Cond.selects RX4 yX4_areAlike yX4_areAlike ∈ WL := wl_2 23 rfl rfl
theorem q_code_X4_areAlike : Cond.code yX4_areAlike cX4_areAlike 3 (some .boolean) ∈ WL := wl_2 24 rfl rfl
theorem q_fl_X0_9 : Cond.fieldLink RX0 9 (TX0 0).1 (TX0 0).2.1 (TX0 0).2.2.1 ∈ WL := wl_1 92 rfl rfl
theorem q_ml_X0_41 : Cond.methodLink RX0 41 yX4_earning ∈ WL := wl_2 184 rfl rfl
theorem q_instanceMethod_X4_earning : Cond.instanceMethod yX4_earning ∈ WL := wl_1 211 rfl rfl
theorem q_sel_X4_earning : Cond.selects RX4 yX4_earning yX4_earning ∈ WL := wl_1 212 rfl rfl
theorem q_code_X4_earning : Cond.code yX4_earning cX4_earning 3 (some .int) ∈ WL := wl_1 213 rfl rfl
theorem q_fn_X0_15 : Cond.fieldLinkNest RX0 15 (TX4 2).1 (TX4 2).2.1 (TX4 2).2.2.1 "FridaySlips" ∈ NL := nl_1 36 rfl rfl
theorem q_ml_X0_21 : Cond.methodLink RX0 21 yJ6_bitCount_0f7a4 ∈ WL := wl_2 178 rfl rfl
theorem q_static_J6_bitCount_0f7a4 : Cond.static yJ6_bitCount_0f7a4 ∈ WL := wl_2 42 rfl rfl
theorem q_ini_java_lang_Integer : Cond.initialized "java/lang/Integer" ∈ WL := wl_1 10 rfl rfl
theorem q_code_J6_bitCount_0f7a4 : Cond.code yJ6_bitCount_0f7a4 cJ6_bitCount_0f7a4 1 (some .int) ∈ WL := wl_2 43 rfl rfl
theorem q_ml_X0_27 : Cond.methodLink RX0 27 yX0_mostWith ∈ WL := wl_2 179 rfl rfl
theorem q_instanceMethod_X0_mostWith : Cond.instanceMethod yX0_mostWith ∈ WL := wl_2 181 rfl rfl
theorem q_sel_X0_mostWith : Cond.selects RX0 yX0_mostWith yX0_mostWith ∈ WL := wl_p 4 rfl rfl
theorem q_ini_FridaySlips_BestLot : Cond.initialized "FridaySlips$BestLot" ∈ WL := wl_1 3 rfl rfl
theorem q_code_X0_mostWith : Cond.code yX0_mostWith cX0_mostWith 6 (some .int) ∈ WL := wl_2 182 rfl rfl
theorem q_ml_X0_31 : Cond.methodLink RX0 31 Lib.Math.max.name ∈ WL := wl_2 185 rfl rfl
theorem q_ml_X0_44 : Cond.methodLink RX0 44 yX0_leastBest ∈ WL := wl_2 194 rfl rfl
theorem q_instanceMethod_X0_leastBest : Cond.instanceMethod yX0_leastBest ∈ WL := wl_2 196 rfl rfl
theorem q_sel_X0_leastBest : Cond.selects RX0 yX0_leastBest yX0_leastBest ∈ WL := wl_p 5 rfl rfl
theorem q_code_X0_leastBest : Cond.code yX0_leastBest cX0_leastBest 5 (some .int) ∈ WL := wl_2 197 rfl rfl
theorem q_gs_X1_7 : Cond.fieldLink RX1 7 "FridaySlips$Chances" "ORDERED" "[I" ∈ WL := wl_2 228 rfl rfl
theorem q_gs_X1_13 : Cond.fieldLink RX1 13 "FridaySlips$Chances" "DERANGED" "[I" ∈ WL := wl_2 223 rfl rfl
theorem q_ml_X1_16 : Cond.methodLink RX1 16 Lib.Math.max.name ∈ WL := wl_2 233 rfl rfl
theorem q_fl_X2_15 : Cond.fieldLink RX2 15 (TX2 1).1 (TX2 1).2.1 (TX2 1).2.2.1 ∈ WL := wl_1 142 rfl rfl
theorem q_fl_X2_19 : Cond.fieldLink RX2 19 (TX2 2).1 (TX2 2).2.1 (TX2 2).2.2.1 ∈ WL := wl_1 144 rfl rfl
theorem q_fl_X2_9 : Cond.fieldLink RX2 9 (TX2 0).1 (TX2 0).2.1 (TX2 0).2.2.1 ∈ WL := wl_1 140 rfl rfl
theorem q_ml_X2_22 : Cond.methodLink RX2 22 yJ7_fill_d0a16 ∈ WL := wl_3 143 rfl rfl
theorem q_static_J7_fill_d0a16 : Cond.static yJ7_fill_d0a16 ∈ WL := wl_3 144 rfl rfl
theorem q_ini_java_util_Arrays : Cond.initialized "java/util/Arrays" ∈ WL := wl_1 17 rfl rfl
theorem q_code_J7_fill_d0a16 : Cond.code yJ7_fill_d0a16 cJ7_fill_d0a16 5 none ∈ WL := wl_3 145 rfl rfl
theorem q_fl_X3_9 : Cond.fieldLink RX3 9 (TX3 0).1 (TX3 0).2.1 (TX3 0).2.2.1 ∈ WL := wl_1 102 rfl rfl
theorem q_fl_X3_15 : Cond.fieldLink RX3 15 (TX3 1).1 (TX3 1).2.1 (TX3 1).2.2.1 ∈ WL := wl_1 103 rfl rfl
theorem q_fl_X4_46 : Cond.fieldLink RX4 46 (TX4 0).1 (TX4 0).2.1 (TX4 0).2.2.1 ∈ WL := wl_1 32 rfl rfl
theorem q_fl_X4_9 : Cond.fieldLink RX4 9 (TX4 1).1 (TX4 1).2.1 (TX4 1).2.2.1 ∈ WL := wl_1 34 rfl rfl
theorem q_fl_X4_49 : Cond.fieldLink RX4 49 (TX4 2).1 (TX4 2).2.1 (TX4 2).2.2.1 ∈ WL := wl_1 37 rfl rfl
theorem q_ml_X4_52 : Cond.methodLink RX4 52 arraycopyName ∈ WL := wl_2 163 rfl rfl
theorem q_native_SA : Cond.native arraycopyName ∈ WL := wl_2 165 rfl rfl
theorem q_static_SA : Cond.static arraycopyName ∈ WL := wl_2 164 rfl rfl
theorem q_ini_java_lang_System : Cond.initialized "java/lang/System" ∈ WL := wl_1 11 rfl rfl
theorem q_fl_X4_22 : Cond.fieldLink RX4 22 (TX4 5).1 (TX4 5).2.1 (TX4 5).2.2.1 ∈ WL := wl_1 44 rfl rfl
theorem q_fl_X4_31 : Cond.fieldLink RX4 31 (TX4 8).1 (TX4 8).2.1 (TX4 8).2.2.1 ∈ WL := wl_1 52 rfl rfl
theorem q_ml_X4_71 : Cond.methodLink RX4 71 yX6_said ∈ WL := wl_1 232 rfl rfl
theorem q_static_X6_said : Cond.static yX6_said ∈ WL := wl_1 233 rfl rfl
theorem q_code_X6_said : Cond.code yX6_said cX6_said 4 (some .int) ∈ WL := wl_1 234 rfl rfl
theorem q_ml_X4_73 : Cond.methodLink RX4 73 yX6_heard ∈ WL := wl_2 96 rfl rfl
theorem q_static_X6_heard : Cond.static yX6_heard ∈ WL := wl_2 97 rfl rfl
theorem q_code_X6_heard : Cond.code yX6_heard cX6_heard 3 (some .int) ∈ WL := wl_2 98 rfl rfl
theorem q_ml_X4_76 : Cond.methodLink RX4 76 yX4_earning ∈ WL := wl_2 90 rfl rfl
theorem q_ml_X4_79 : Cond.methodLink RX4 79 yX4_ownSet ∈ WL := wl_2 37 rfl rfl
theorem q_instanceMethod_X4_ownSet : Cond.instanceMethod yX4_ownSet ∈ WL := wl_2 38 rfl rfl
theorem q_sel_X4_ownSet : Cond.selects RX4 yX4_ownSet yX4_ownSet ∈ WL := wl_2 39 rfl rfl
theorem q_code_X4_ownSet : Cond.code yX4_ownSet cX4_ownSet 3 (some .int) ∈ WL := wl_2 40 rfl rfl
theorem q_ml_X4_83 : Cond.methodLink RX4 83 yJ6_bitCount_0f7a4 ∈ WL := wl_2 41 rfl rfl
theorem q_ml_X4_89 : Cond.methodLink RX4 89 yX4_areAlike ∈ WL := wl_2 130 rfl rfl
theorem q_k_X4_107 : Cond.constant RX4 107 (1103515245) ∈ WL := wl_2 72 rfl rfl
theorem q_fl_X4_43 : Cond.fieldLink RX4 43 (TX4 12).1 (TX4 12).2.1 (TX4 12).2.2.1 ∈ WL := wl_1 57 rfl rfl
theorem q_ml_X4_100 : Cond.methodLink RX4 100 yX4_drawAmong ∈ WL := wl_2 68 rfl rfl
theorem q_instanceMethod_X4_drawAmong : Cond.instanceMethod yX4_drawAmong ∈ WL := wl_2 70 rfl rfl
theorem q_sel_X4_drawAmong : Cond.selects RX4 yX4_drawAmong yX4_drawAmong ∈ WL := wl_p 3 rfl rfl
theorem q_code_X4_drawAmong : Cond.code yX4_drawAmong cX4_drawAmong 2 (some .int) ∈ WL := wl_2 71 rfl rfl
theorem q_ml_X4_103 : Cond.methodLink RX4 103 yX4_exchange ∈ WL := wl_2 73 rfl rfl
theorem q_instanceMethod_X4_exchange : Cond.instanceMethod yX4_exchange ∈ WL := wl_2 30 rfl rfl
theorem q_sel_X4_exchange : Cond.selects RX4 yX4_exchange yX4_exchange ∈ WL := wl_2 31 rfl rfl
theorem q_code_X4_exchange : Cond.code yX4_exchange cX4_exchange 4 none ∈ WL := wl_2 32 rfl rfl
theorem q_ml_X4_93 : Cond.methodLink RX4 93 yX4_goHome ∈ WL := wl_2 63 rfl rfl
theorem q_instanceMethod_X4_goHome : Cond.instanceMethod yX4_goHome ∈ WL := wl_2 52 rfl rfl
theorem q_sel_X4_goHome : Cond.selects RX4 yX4_goHome yX4_goHome ∈ WL := wl_2 53 rfl rfl
theorem q_code_X4_goHome : Cond.code yX4_goHome cX4_goHome 2 none ∈ WL := wl_2 54 rfl rfl
theorem q_ml_X4_96 : Cond.methodLink RX4 96 yX4_shuffle ∈ WL := wl_2 64 rfl rfl
theorem q_instanceMethod_X4_shuffle : Cond.instanceMethod yX4_shuffle ∈ WL := wl_2 66 rfl rfl
theorem q_sel_X4_shuffle : Cond.selects RX4 yX4_shuffle yX4_shuffle ∈ WL := wl_p 2 rfl rfl
theorem q_code_X4_shuffle : Cond.code yX4_shuffle cX4_shuffle 4 none ∈ WL := wl_2 67 rfl rfl
theorem q_k_X4_117 : Cond.constant RX4 117 (99999) ∈ WL := wl_2 99 rfl rfl
theorem q_fl_X4_34 : Cond.fieldLink RX4 34 (TX4 9).1 (TX4 9).2.1 (TX4 9).2.2.1 ∈ WL := wl_1 54 rfl rfl
theorem q_ml_X4_118 : Cond.methodLink RX4 118 Lib.Math.min.name ∈ WL := wl_2 100 rfl rfl
theorem q_static_Mmin : Cond.static Lib.Math.min.name ∈ WL := wl_2 101 rfl rfl
theorem q_code_Mmin : Cond.code Lib.Math.min.name Lib.Math.min.code 2 (some .int) ∈ WL := wl_2 102 rfl rfl
theorem q_fl_X4_37 : Cond.fieldLink RX4 37 (TX4 10).1 (TX4 10).2.1 (TX4 10).2.2.1 ∈ WL := wl_1 55 rfl rfl
theorem q_ml_X4_123 : Cond.methodLink RX4 123 Lib.Math.max.name ∈ WL := wl_2 103 rfl rfl
theorem q_fl_X4_40 : Cond.fieldLink RX4 40 (TX4 11).1 (TX4 11).2.1 (TX4 11).2.2.1 ∈ WL := wl_1 56 rfl rfl
theorem q_ml_X4_111 : Cond.methodLink RX4 111 yX4_saying ∈ WL := wl_2 91 rfl rfl
theorem q_instanceMethod_X4_saying : Cond.instanceMethod yX4_saying ∈ WL := wl_1 229 rfl rfl
theorem q_sel_X4_saying : Cond.selects RX4 yX4_saying yX4_saying ∈ WL := wl_1 230 rfl rfl
theorem q_code_X4_saying : Cond.code yX4_saying cX4_saying 3 (some .int) ∈ WL := wl_1 231 rfl rfl
theorem q_ml_X4_114 : Cond.methodLink RX4 114 yX4_hearing ∈ WL := wl_2 92 rfl rfl
theorem q_instanceMethod_X4_hearing : Cond.instanceMethod yX4_hearing ∈ WL := wl_2 93 rfl rfl
theorem q_sel_X4_hearing : Cond.selects RX4 yX4_hearing yX4_hearing ∈ WL := wl_2 94 rfl rfl
theorem q_code_X4_hearing : Cond.code yX4_hearing cX4_hearing 3 (some .int) ∈ WL := wl_2 95 rfl rfl
theorem q_ml_X4_108 : Cond.methodLink RX4 108 yX4_passFriday ∈ WL := wl_2 86 rfl rfl
theorem q_instanceMethod_X4_passFriday : Cond.instanceMethod yX4_passFriday ∈ WL := wl_2 87 rfl rfl
theorem q_sel_X4_passFriday : Cond.selects RX4 yX4_passFriday yX4_passFriday ∈ WL := wl_2 88 rfl rfl
theorem q_code_X4_passFriday : Cond.code yX4_passFriday cX4_passFriday 3 none ∈ WL := wl_2 89 rfl rfl
theorem q_fl_X5_15 : Cond.fieldLink RX5 15 (TX5 2).1 (TX5 2).2.1 (TX5 2).2.2.1 ∈ WL := wl_1 119 rfl rfl
theorem q_fl_X5_9 : Cond.fieldLink RX5 9 (TX5 0).1 (TX5 0).2.1 (TX5 0).2.2.1 ∈ WL := wl_1 117 rfl rfl
theorem q_fn_X5_121 : Cond.fieldLinkNest RX5 121 (TX3 1).1 (TX3 1).2.1 (TX3 1).2.2.1 "FridaySlips" ∈ NL := nl_1 104 rfl rfl
theorem q_ml_X5_112 : Cond.methodLink RX5 112 yX3_at ∈ WL := wl_3 25 rfl rfl
theorem q_instanceMethod_X3_at : Cond.instanceMethod yX3_at ∈ WL := wl_3 26 rfl rfl
theorem q_sel_X3_at : Cond.selects RX3 yX3_at yX3_at ∈ WL := wl_3 27 rfl rfl
theorem q_ini_FridaySlips_Tape : Cond.initialized "FridaySlips$Tape" ∈ WL := wl_1 4 rfl rfl
theorem q_code_X3_at : Cond.code yX3_at cX3_at 2 (some .int) ∈ WL := wl_3 28 rfl rfl
theorem q_ml_X5_124 : Cond.methodLink RX5 124 yX5_isLetter ∈ WL := wl_3 29 rfl rfl
theorem q_static_X5_isLetter : Cond.static yX5_isLetter ∈ WL := wl_3 30 rfl rfl
theorem q_ini_FridaySlips_VillageText : Cond.initialized "FridaySlips$VillageText" ∈ WL := wl_1 5 rfl rfl
theorem q_code_X5_isLetter : Cond.code yX5_isLetter cX5_isLetter 1 (some .boolean) ∈ WL := wl_3 31 rfl rfl
theorem q_fl_X5_75 : Cond.fieldLink RX5 75 (TX5 4).1 (TX5 4).2.1 (TX5 4).2.2.1 ∈ WL := wl_1 121 rfl rfl
theorem q_ml_X5_130 : Cond.methodLink RX5 130 yX5_isDigit ∈ WL := wl_3 36 rfl rfl
theorem q_static_X5_isDigit : Cond.static yX5_isDigit ∈ WL := wl_3 37 rfl rfl
theorem q_code_X5_isDigit : Cond.code yX5_isDigit cX5_isDigit 1 (some .boolean) ∈ WL := wl_3 38 rfl rfl
theorem q_ml_X5_136 : Cond.methodLink RX5 136 Lib.Math.min.name ∈ WL := wl_3 43 rfl rfl
theorem q_fl_X5_38 : Cond.fieldLink RX5 38 (TX5 1).1 (TX5 1).2.1 (TX5 1).2.2.1 ∈ WL := wl_1 118 rfl rfl
theorem q_fl_X5_35 : Cond.fieldLink RX5 35 (TX5 3).1 (TX5 3).2.1 (TX5 3).2.2.1 ∈ WL := wl_1 120 rfl rfl
theorem q_ml_X5_133 : Cond.methodLink RX5 133 yX5_passDigits ∈ WL := wl_3 39 rfl rfl
theorem q_instanceMethod_X5_passDigits : Cond.instanceMethod yX5_passDigits ∈ WL := wl_3 41 rfl rfl
theorem q_sel_X5_passDigits : Cond.selects RX5 yX5_passDigits yX5_passDigits ∈ WL := wl_p 8 rfl rfl
theorem q_code_X5_passDigits : Cond.code yX5_passDigits cX5_passDigits 1 none ∈ WL := wl_3 42 rfl rfl
theorem q_ml_X5_127 : Cond.methodLink RX5 127 yX5_passLetters ∈ WL := wl_3 32 rfl rfl
theorem q_instanceMethod_X5_passLetters : Cond.instanceMethod yX5_passLetters ∈ WL := wl_3 34 rfl rfl
theorem q_sel_X5_passLetters : Cond.selects RX5 yX5_passLetters yX5_passLetters ∈ WL := wl_p 7 rfl rfl
theorem q_code_X5_passLetters : Cond.code yX5_passLetters cX5_passLetters 1 none ∈ WL := wl_3 35 rfl rfl
theorem q_ml_X5_107 : Cond.methodLink RX5 107 yJ0_length_8abf5 ∈ WL := wl_3 49 rfl rfl
theorem q_instanceMethod_J0_length_8abf5 : Cond.instanceMethod yJ0_length_8abf5 ∈ WL := wl_3 50 rfl rfl
theorem q_sel_J0_length_8abf5 : Cond.selects RJ0 yJ0_length_8abf5 yJ0_length_8abf5 ∈ WL := wl_3 51 rfl rfl
theorem q_ini_java_lang_String : Cond.initialized "java/lang/String" ∈ WL := wl_1 13 rfl rfl
theorem q_code_J0_length_8abf5 : Cond.code yJ0_length_8abf5 cJ0_length_8abf5 1 (some .int) ∈ WL := wl_3 52 rfl rfl
theorem q_ml_X5_117 : Cond.methodLink RX5 117 yJ0_charAt_5068e ∈ WL := wl_3 59 rfl rfl
theorem q_instanceMethod_J0_charAt_5068e : Cond.instanceMethod yJ0_charAt_5068e ∈ WL := wl_3 60 rfl rfl
theorem q_sel_J0_charAt_5068e : Cond.selects RJ0 yJ0_charAt_5068e yJ0_charAt_5068e ∈ WL := wl_3 61 rfl rfl
theorem q_code_J0_charAt_5068e : Cond.code yJ0_charAt_5068e cJ0_charAt_5068e 2 (some .char) ∈ WL := wl_3 62 rfl rfl
theorem q_ml_X5_19 : Cond.methodLink RX5 19 yX5_step ∈ WL := wl_3 21 rfl rfl
theorem q_instanceMethod_X5_step : Cond.instanceMethod yX5_step ∈ WL := wl_3 23 rfl rfl
theorem q_sel_X5_step : Cond.selects RX5 yX5_step yX5_step ∈ WL := wl_p 6 rfl rfl
theorem q_code_X5_step : Cond.code yX5_step cX5_step 2 none ∈ WL := wl_3 24 rfl rfl
theorem q_ml_X5_78 : Cond.methodLink RX5 78 yX4_has ∈ WL := wl_3 101 rfl rfl
theorem q_instanceMethod_X4_has : Cond.instanceMethod yX4_has ∈ WL := wl_1 207 rfl rfl
theorem q_sel_X4_has : Cond.selects RX4 yX4_has yX4_has ∈ WL := wl_1 208 rfl rfl
theorem q_code_X4_has : Cond.code yX4_has cX4_has 2 (some .boolean) ∈ WL := wl_1 209 rfl rfl
theorem q_ml_X5_24 : Cond.methodLink RX5 24 yX5_isWord ∈ WL := wl_3 45 rfl rfl
theorem q_instanceMethod_X5_isWord : Cond.instanceMethod yX5_isWord ∈ WL := wl_3 47 rfl rfl
theorem q_sel_X5_isWord : Cond.selects RX5 yX5_isWord yX5_isWord ∈ WL := wl_p 9 rfl rfl
theorem q_code_X5_isWord : Cond.code yX5_isWord cX5_isWord 3 (some .boolean) ∈ WL := wl_3 48 rfl rfl
theorem q_ml_X5_84 : Cond.methodLink RX5 84 yX4_holder ∈ WL := wl_3 103 rfl rfl
theorem q_instanceMethod_X4_holder : Cond.instanceMethod yX4_holder ∈ WL := wl_2 136 rfl rfl
theorem q_sel_X4_holder : Cond.selects RX4 yX4_holder yX4_holder ∈ WL := wl_2 137 rfl rfl
theorem q_code_X4_holder : Cond.code yX4_holder cX4_holder 3 (some .int) ∈ WL := wl_2 138 rfl rfl
theorem q_ml_X5_87 : Cond.methodLink RX5 87 yX4_exchange ∈ WL := wl_3 104 rfl rfl
theorem q_ml_X5_91 : Cond.methodLink RX5 91 yX5_nameOf ∈ WL := wl_3 113 rfl rfl
theorem q_static_X5_nameOf : Cond.static yX5_nameOf ∈ WL := wl_3 114 rfl rfl
theorem q_code_X5_nameOf : Cond.code yX5_nameOf cX5_nameOf 1 (some (.object "java/lang/String")) ∈ WL := wl_3 115 rfl rfl
theorem q_ml_X5_41 : Cond.methodLink RX5 41 yX5_namedKind ∈ WL := wl_3 109 rfl rfl
theorem q_instanceMethod_X5_namedKind : Cond.instanceMethod yX5_namedKind ∈ WL := wl_3 111 rfl rfl
theorem q_sel_X5_namedKind : Cond.selects RX5 yX5_namedKind yX5_namedKind ∈ WL := wl_p 12 rfl rfl
theorem q_code_X5_namedKind : Cond.code yX5_namedKind cX5_namedKind 2 (some .int) ∈ WL := wl_3 112 rfl rfl
theorem q_ml_X5_45 : Cond.methodLink RX5 45 yX4_isFull ∈ WL := wl_3 122 rfl rfl
theorem q_instanceMethod_X4_isFull : Cond.instanceMethod yX4_isFull ∈ WL := wl_1 195 rfl rfl
theorem q_sel_X4_isFull : Cond.selects RX4 yX4_isFull yX4_isFull ∈ WL := wl_1 196 rfl rfl
theorem q_code_X4_isFull : Cond.code yX4_isFull cX4_isFull 1 (some .boolean) ∈ WL := wl_1 197 rfl rfl
theorem q_ml_X5_51 : Cond.methodLink RX5 51 yX4_add ∈ WL := wl_3 123 rfl rfl
theorem q_instanceMethod_X4_add : Cond.instanceMethod yX4_add ∈ WL := wl_1 199 rfl rfl
theorem q_sel_X4_add : Cond.selects RX4 yX4_add yX4_add ∈ WL := wl_1 200 rfl rfl
theorem q_code_X4_add : Cond.code yX4_add cX4_add 3 (some .int) ∈ WL := wl_1 201 rfl rfl
theorem q_fn_X5_57 : Cond.fieldLinkNest RX5 57 (TX4 4).1 (TX4 4).2.1 (TX4 4).2.2.1 "FridaySlips" ∈ NL := nl_1 42 rfl rfl
theorem q_ml_X5_61 : Cond.methodLink RX5 61 yX5_takePart ∈ WL := wl_3 125 rfl rfl
theorem q_instanceMethod_X5_takePart : Cond.instanceMethod yX5_takePart ∈ WL := wl_3 127 rfl rfl
theorem q_sel_X5_takePart : Cond.selects RX5 yX5_takePart yX5_takePart ∈ WL := wl_p 13 rfl rfl
theorem q_code_X5_takePart : Cond.code yX5_takePart cX5_takePart 5 (some .boolean) ∈ WL := wl_3 128 rfl rfl
theorem q_fn_X5_67 : Cond.fieldLinkNest RX5 67 (TX4 5).1 (TX4 5).2.1 (TX4 5).2.2.1 "FridaySlips" ∈ NL := nl_1 45 rfl rfl
theorem q_fn_X5_72 : Cond.fieldLinkNest RX5 72 (TX4 6).1 (TX4 6).2.1 (TX4 6).2.2.1 "FridaySlips" ∈ NL := nl_1 48 rfl rfl
theorem q_ml_X5_32 : Cond.methodLink RX5 32 yX5_takePerson ∈ WL := wl_3 105 rfl rfl
theorem q_instanceMethod_X5_takePerson : Cond.instanceMethod yX5_takePerson ∈ WL := wl_3 107 rfl rfl
theorem q_sel_X5_takePerson : Cond.selects RX5 yX5_takePerson yX5_takePerson ∈ WL := wl_p 11 rfl rfl
theorem q_code_X5_takePerson : Cond.code yX5_takePerson cX5_takePerson 4 (some .boolean) ∈ WL := wl_3 108 rfl rfl
theorem q_ml_X5_28 : Cond.methodLink RX5 28 yX5_takeSlip ∈ WL := wl_3 97 rfl rfl
theorem q_instanceMethod_X5_takeSlip : Cond.instanceMethod yX5_takeSlip ∈ WL := wl_3 99 rfl rfl
theorem q_sel_X5_takeSlip : Cond.selects RX5 yX5_takeSlip yX5_takeSlip ∈ WL := wl_p 10 rfl rfl
theorem q_code_X5_takeSlip : Cond.code yX5_takeSlip cX5_takeSlip 3 (some .boolean) ∈ WL := wl_3 100 rfl rfl
theorem q_gs_X6_9 : Cond.fieldLink RX6 9 "FridaySlips$Ways" "ABOVE" "[I" ∈ WL := wl_2 15 rfl rfl
theorem q_fl_X7_51 : Cond.fieldLink RX7 51 (TX7 7).1 (TX7 7).2.1 (TX7 7).2.2.1 ∈ WL := wl_1 161 rfl rfl
theorem q_k_X7_252 : Cond.constant RX7 252 (-1000000001) ∈ WL := wl_1 193 rfl rfl
theorem q_ml_X7_56 : Cond.methodLink RX7 56 yX7_isKind ∈ WL := wl_1 186 rfl rfl
theorem q_static_X7_isKind : Cond.static yX7_isKind ∈ WL := wl_1 187 rfl rfl
theorem q_ini_FridaySlips : Cond.initialized "FridaySlips" ∈ WL := wl_1 1 rfl rfl
theorem q_code_X7_isKind : Cond.code yX7_isKind cX7_isKind 1 (some .boolean) ∈ WL := wl_1 188 rfl rfl
theorem q_fl_X7_10 : Cond.fieldLink RX7 10 (TX7 0).1 (TX7 0).2.1 (TX7 0).2.2.1 ∈ WL := wl_1 154 rfl rfl
theorem q_ml_X7_64 : Cond.methodLink RX7 64 yX4_isFull ∈ WL := wl_1 194 rfl rfl
theorem q_ml_X7_68 : Cond.methodLink RX7 68 yX4_add ∈ WL := wl_1 198 rfl rfl
theorem q_ml_X7_60 : Cond.methodLink RX7 60 yX7_finding ∈ WL := wl_1 189 rfl rfl
theorem q_instanceMethod_X7_finding : Cond.instanceMethod yX7_finding ∈ WL := wl_1 191 rfl rfl
theorem q_sel_X7_finding : Cond.selects RX7 yX7_finding yX7_finding ∈ WL := wl_p 0 rfl rfl
theorem q_code_X7_finding : Cond.code yX7_finding cX7_finding 2 (some .int) ∈ WL := wl_1 192 rfl rfl
theorem q_ml_X7_71 : Cond.methodLink RX7 71 yX4_has ∈ WL := wl_1 206 rfl rfl
theorem q_fn_X7_74 : Cond.fieldLinkNest RX7 74 (TX4 3).1 (TX4 3).2.1 (TX4 3).2.2.1 "FridaySlips" ∈ NL := nl_1 40 rfl rfl
theorem q_fn_X7_77 : Cond.fieldLinkNest RX7 77 (TX4 4).1 (TX4 4).2.1 (TX4 4).2.2.1 "FridaySlips" ∈ NL := nl_1 43 rfl rfl
theorem q_fn_X7_80 : Cond.fieldLinkNest RX7 80 (TX4 5).1 (TX4 5).2.1 (TX4 5).2.2.1 "FridaySlips" ∈ NL := nl_1 46 rfl rfl
theorem q_fn_X7_83 : Cond.fieldLinkNest RX7 83 (TX4 6).1 (TX4 6).2.1 (TX4 6).2.2.1 "FridaySlips" ∈ NL := nl_1 49 rfl rfl
theorem q_fn_X7_86 : Cond.fieldLinkNest RX7 86 (TX4 7).1 (TX4 7).2.1 (TX4 7).2.2.1 "FridaySlips" ∈ NL := nl_1 51 rfl rfl
theorem q_fn_X7_89 : Cond.fieldLinkNest RX7 89 (TX4 8).1 (TX4 8).2.1 (TX4 8).2.2.1 "FridaySlips" ∈ NL := nl_1 53 rfl rfl
theorem q_ml_X7_92 : Cond.methodLink RX7 92 yX4_earning ∈ WL := wl_1 210 rfl rfl
theorem q_ml_X7_96 : Cond.methodLink RX7 96 yX4_saying ∈ WL := wl_1 228 rfl rfl
theorem q_ml_X7_99 : Cond.methodLink RX7 99 yX7_replace ∈ WL := wl_1 239 rfl rfl
theorem q_instanceMethod_X7_replace : Cond.instanceMethod yX7_replace ∈ WL := wl_2 1 rfl rfl
theorem q_sel_X7_replace : Cond.selects RX7 yX7_replace yX7_replace ∈ WL := wl_p 1 rfl rfl
theorem q_code_X7_replace : Cond.code yX7_replace cX7_replace 6 (some .int) ∈ WL := wl_2 2 rfl rfl
theorem q_k_X7_103 : Cond.constant RX7 103 (99999) ∈ WL := wl_2 3 rfl rfl
theorem q_ml_X7_104 : Cond.methodLink RX7 104 yX6_isUnder ∈ WL := wl_2 12 rfl rfl
theorem q_static_X6_isUnder : Cond.static yX6_isUnder ∈ WL := wl_2 13 rfl rfl
theorem q_code_X6_isUnder : Cond.code yX6_isUnder cX6_isUnder 4 (some .boolean) ∈ WL := wl_2 14 rfl rfl
theorem q_ml_X7_110 : Cond.methodLink RX7 110 yX4_areAlike ∈ WL := wl_2 21 rfl rfl
theorem q_ml_X7_113 : Cond.methodLink RX7 113 yX4_exchange ∈ WL := wl_2 29 rfl rfl
theorem q_ml_X7_117 : Cond.methodLink RX7 117 yX4_ownCount ∈ WL := wl_2 33 rfl rfl
theorem q_instanceMethod_X4_ownCount : Cond.instanceMethod yX4_ownCount ∈ WL := wl_2 34 rfl rfl
theorem q_sel_X4_ownCount : Cond.selects RX4 yX4_ownCount yX4_ownCount ∈ WL := wl_2 35 rfl rfl
theorem q_code_X4_ownCount : Cond.code yX4_ownCount cX4_ownCount 1 (some .int) ∈ WL := wl_2 36 rfl rfl
theorem q_fn_X7_121 : Cond.fieldLinkNest RX7 121 (TX4 2).1 (TX4 2).2.1 (TX4 2).2.2.1 "FridaySlips" ∈ NL := nl_1 38 rfl rfl
theorem q_ml_X7_125 : Cond.methodLink RX7 125 yX4_goHome ∈ WL := wl_2 51 rfl rfl
theorem q_ml_X7_128 : Cond.methodLink RX7 128 yX4_drawLot ∈ WL := wl_2 59 rfl rfl
theorem q_instanceMethod_X4_drawLot : Cond.instanceMethod yX4_drawLot ∈ WL := wl_2 60 rfl rfl
theorem q_sel_X4_drawLot : Cond.selects RX4 yX4_drawLot yX4_drawLot ∈ WL := wl_2 61 rfl rfl
theorem q_code_X4_drawLot : Cond.code yX4_drawLot cX4_drawLot 1 none ∈ WL := wl_2 62 rfl rfl
theorem q_fn_X7_131 : Cond.fieldLinkNest RX7 131 (TX4 1).1 (TX4 1).2.1 (TX4 1).2.2.1 "FridaySlips" ∈ NL := nl_1 35 rfl rfl
theorem q_fn_X7_134 : Cond.fieldLinkNest RX7 134 (TX4 0).1 (TX4 0).2.1 (TX4 0).2.2.1 "FridaySlips" ∈ NL := nl_1 33 rfl rfl
theorem q_ml_X7_137 : Cond.methodLink RX7 137 yX4_passFridays ∈ WL := wl_2 82 rfl rfl
theorem q_instanceMethod_X4_passFridays : Cond.instanceMethod yX4_passFridays ∈ WL := wl_2 83 rfl rfl
theorem q_sel_X4_passFridays : Cond.selects RX4 yX4_passFridays yX4_passFridays ∈ WL := wl_2 84 rfl rfl
theorem q_code_X4_passFridays : Cond.code yX4_passFridays cX4_passFridays 3 none ∈ WL := wl_2 85 rfl rfl
theorem q_ml_X7_141 : Cond.methodLink RX7 141 yX4_total ∈ WL := wl_2 104 rfl rfl
theorem q_instanceMethod_X4_total : Cond.instanceMethod yX4_total ∈ WL := wl_2 105 rfl rfl
theorem q_sel_X4_total : Cond.selects RX4 yX4_total yX4_total ∈ WL := wl_2 106 rfl rfl
theorem q_code_X4_total : Cond.code yX4_total cX4_total 4 (some .int) ∈ WL := wl_2 107 rfl rfl
theorem q_ml_X7_145 : Cond.methodLink RX7 145 yX4_passFriday ∈ WL := wl_2 112 rfl rfl
theorem q_ml_X7_148 : Cond.methodLink RX7 148 yX4_childrenSet ∈ WL := wl_2 117 rfl rfl
theorem q_instanceMethod_X4_childrenSet : Cond.instanceMethod yX4_childrenSet ∈ WL := wl_2 118 rfl rfl
theorem q_sel_X4_childrenSet : Cond.selects RX4 yX4_childrenSet yX4_childrenSet ∈ WL := wl_2 119 rfl rfl
theorem q_code_X4_childrenSet : Cond.code yX4_childrenSet cX4_childrenSet 3 (some .int) ∈ WL := wl_2 120 rfl rfl
theorem q_ml_X7_151 : Cond.methodLink RX7 151 yX4_ownSet ∈ WL := wl_2 121 rfl rfl
theorem q_ml_X7_154 : Cond.methodLink RX7 154 yX4_earnings ∈ WL := wl_2 122 rfl rfl
theorem q_instanceMethod_X4_earnings : Cond.instanceMethod yX4_earnings ∈ WL := wl_2 123 rfl rfl
theorem q_sel_X4_earnings : Cond.selects RX4 yX4_earnings yX4_earnings ∈ WL := wl_2 124 rfl rfl
theorem q_code_X4_earnings : Cond.code yX4_earnings cX4_earnings 3 (some .int) ∈ WL := wl_2 125 rfl rfl
theorem q_ml_X7_157 : Cond.methodLink RX7 157 yX4_isLotRight ∈ WL := wl_2 126 rfl rfl
theorem q_instanceMethod_X4_isLotRight : Cond.instanceMethod yX4_isLotRight ∈ WL := wl_2 127 rfl rfl
theorem q_sel_X4_isLotRight : Cond.selects RX4 yX4_isLotRight yX4_isLotRight ∈ WL := wl_2 128 rfl rfl
theorem q_code_X4_isLotRight : Cond.code yX4_isLotRight cX4_isLotRight 2 (some .boolean) ∈ WL := wl_2 129 rfl rfl
theorem q_ml_X7_160 : Cond.methodLink RX7 160 yX4_holder ∈ WL := wl_2 135 rfl rfl
theorem q_ml_X7_163 : Cond.methodLink RX7 163 yX4_ringSet ∈ WL := wl_2 143 rfl rfl
theorem q_instanceMethod_X4_ringSet : Cond.instanceMethod yX4_ringSet ∈ WL := wl_2 144 rfl rfl
theorem q_sel_X4_ringSet : Cond.selects RX4 yX4_ringSet yX4_ringSet ∈ WL := wl_2 145 rfl rfl
theorem q_code_X4_ringSet : Cond.code yX4_ringSet cX4_ringSet 5 (some .int) ∈ WL := wl_2 146 rfl rfl
theorem q_fl_X7_19 : Cond.fieldLink RX7 19 (TX7 2).1 (TX7 2).2.1 (TX7 2).2.2.1 ∈ WL := wl_1 156 rfl rfl
theorem q_ml_X7_166 : Cond.methodLink RX7 166 yX4_become ∈ WL := wl_2 159 rfl rfl
theorem q_instanceMethod_X4_become : Cond.instanceMethod yX4_become ∈ WL := wl_2 160 rfl rfl
theorem q_sel_X4_become : Cond.selects RX4 yX4_become yX4_become ∈ WL := wl_2 161 rfl rfl
theorem q_code_X4_become : Cond.code yX4_become cX4_become 2 none ∈ WL := wl_2 162 rfl rfl
theorem q_fl_X7_25 : Cond.fieldLink RX7 25 (TX7 3).1 (TX7 3).2.1 (TX7 3).2.2.1 ∈ WL := wl_1 157 rfl rfl
theorem q_ml_X7_170 : Cond.methodLink RX7 170 yX0_search ∈ WL := wl_2 174 rfl rfl
theorem q_instanceMethod_X0_search : Cond.instanceMethod yX0_search ∈ WL := wl_2 175 rfl rfl
theorem q_sel_X0_search : Cond.selects RX0 yX0_search yX0_search ∈ WL := wl_2 176 rfl rfl
theorem q_code_X0_search : Cond.code yX0_search cX0_search 7 (some .int) ∈ WL := wl_2 177 rfl rfl
theorem q_ml_X7_174 : Cond.methodLink RX7 174 yX0_slipOf ∈ WL := wl_2 190 rfl rfl
theorem q_instanceMethod_X0_slipOf : Cond.instanceMethod yX0_slipOf ∈ WL := wl_2 191 rfl rfl
theorem q_sel_X0_slipOf : Cond.selects RX0 yX0_slipOf yX0_slipOf ∈ WL := wl_2 192 rfl rfl
theorem q_code_X0_slipOf : Cond.code yX0_slipOf cX0_slipOf 6 (some .int) ∈ WL := wl_2 193 rfl rfl
theorem q_ml_X7_178 : Cond.methodLink RX7 178 yX4_gainOfExchange ∈ WL := wl_2 202 rfl rfl
theorem q_instanceMethod_X4_gainOfExchange : Cond.instanceMethod yX4_gainOfExchange ∈ WL := wl_2 203 rfl rfl
theorem q_sel_X4_gainOfExchange : Cond.selects RX4 yX4_gainOfExchange yX4_gainOfExchange ∈ WL := wl_2 204 rfl rfl
theorem q_code_X4_gainOfExchange : Cond.code yX4_gainOfExchange cX4_gainOfExchange 4 (some .int) ∈ WL := wl_2 205 rfl rfl
theorem q_ml_X7_181 : Cond.methodLink RX7 181 yX4_earningAs ∈ WL := wl_2 214 rfl rfl
theorem q_ml_X7_185 : Cond.methodLink RX7 185 yJ6_bitCount_0f7a4 ∈ WL := wl_2 219 rfl rfl
theorem q_ml_X7_190 : Cond.methodLink RX7 190 yX1_deranged ∈ WL := wl_2 220 rfl rfl
theorem q_static_X1_deranged : Cond.static yX1_deranged ∈ WL := wl_2 221 rfl rfl
theorem q_ini_FridaySlips_Chances : Cond.initialized "FridaySlips$Chances" ∈ WL := wl_1 12 rfl rfl
theorem q_code_X1_deranged : Cond.code yX1_deranged cX1_deranged 1 (some .int) ∈ WL := wl_2 222 rfl rfl
theorem q_ml_X7_195 : Cond.methodLink RX7 195 yX1_ordered ∈ WL := wl_2 225 rfl rfl
theorem q_static_X1_ordered : Cond.static yX1_ordered ∈ WL := wl_2 226 rfl rfl
theorem q_code_X1_ordered : Cond.code yX1_ordered cX1_ordered 1 (some .int) ∈ WL := wl_2 227 rfl rfl
theorem q_ml_X7_198 : Cond.methodLink RX7 198 yX1_commonDivisor ∈ WL := wl_2 230 rfl rfl
theorem q_static_X1_commonDivisor : Cond.static yX1_commonDivisor ∈ WL := wl_2 231 rfl rfl
theorem q_code_X1_commonDivisor : Cond.code yX1_commonDivisor cX1_commonDivisor 6 (some .int) ∈ WL := wl_2 232 rfl rfl
theorem q_ml_X7_201 : Cond.methodLink RX7 201 yX1_withOwn ∈ WL := wl_2 238 rfl rfl
theorem q_static_X1_withOwn : Cond.static yX1_withOwn ∈ WL := wl_2 239 rfl rfl
theorem q_code_X1_withOwn : Cond.code yX1_withOwn cX1_withOwn 3 (some .int) ∈ WL := wl_3 0 rfl rfl
theorem q_fl_X7_32 : Cond.fieldLink RX7 32 (TX7 4).1 (TX7 4).2.1 (TX7 4).2.2.1 ∈ WL := wl_1 158 rfl rfl
theorem q_fn_X7_204 : Cond.fieldLinkNest RX7 204 (TX3 1).1 (TX3 1).2.1 (TX3 1).2.2.1 "FridaySlips" ∈ NL := nl_1 105 rfl rfl
theorem q_ml_X7_205 : Cond.methodLink RX7 205 yX3_add ∈ WL := wl_3 5 rfl rfl
theorem q_instanceMethod_X3_add : Cond.instanceMethod yX3_add ∈ WL := wl_3 6 rfl rfl
theorem q_sel_X3_add : Cond.selects RX3 yX3_add yX3_add ∈ WL := wl_3 7 rfl rfl
theorem q_code_X3_add : Cond.code yX3_add cX3_add 2 none ∈ WL := wl_3 8 rfl rfl
theorem q_fl_X7_41 : Cond.fieldLink RX7 41 (TX7 5).1 (TX7 5).2.1 (TX7 5).2.2.1 ∈ WL := wl_1 159 rfl rfl
theorem q_ml_X7_207 : Cond.methodLink RX7 207 yX5_tell ∈ WL := wl_3 17 rfl rfl
theorem q_instanceMethod_X5_tell : Cond.instanceMethod yX5_tell ∈ WL := wl_3 18 rfl rfl
theorem q_sel_X5_tell : Cond.selects RX5 yX5_tell yX5_tell ∈ WL := wl_3 19 rfl rfl
theorem q_code_X5_tell : Cond.code yX5_tell cX5_tell 4 (some .int) ∈ WL := wl_3 20 rfl rfl
theorem q_ml_X7_210 : Cond.methodLink RX7 210 yX7_isSheet ∈ WL := wl_3 136 rfl rfl
theorem q_static_X7_isSheet : Cond.static yX7_isSheet ∈ WL := wl_3 137 rfl rfl
theorem q_code_X7_isSheet : Cond.code yX7_isSheet cX7_isSheet 1 (some .boolean) ∈ WL := wl_3 138 rfl rfl
theorem q_fl_X7_47 : Cond.fieldLink RX7 47 (TX7 6).1 (TX7 6).2.1 (TX7 6).2.2.1 ∈ WL := wl_1 160 rfl rfl
theorem q_ml_X7_213 : Cond.methodLink RX7 213 yX2_begin ∈ WL := wl_3 139 rfl rfl
theorem q_instanceMethod_X2_begin : Cond.instanceMethod yX2_begin ∈ WL := wl_3 140 rfl rfl
theorem q_sel_X2_begin : Cond.selects RX2 yX2_begin yX2_begin ∈ WL := wl_3 141 rfl rfl
theorem q_ini_FridaySlips_Sheet : Cond.initialized "FridaySlips$Sheet" ∈ WL := wl_1 6 rfl rfl
theorem q_code_X2_begin : Cond.code yX2_begin cX2_begin 3 (some .int) ∈ WL := wl_3 142 rfl rfl
theorem q_ml_X7_216 : Cond.methodLink RX7 216 yX2_isMissing ∈ WL := wl_3 150 rfl rfl
theorem q_instanceMethod_X2_isMissing : Cond.instanceMethod yX2_isMissing ∈ WL := wl_3 151 rfl rfl
theorem q_sel_X2_isMissing : Cond.selects RX2 yX2_isMissing yX2_isMissing ∈ WL := wl_3 152 rfl rfl
theorem q_code_X2_isMissing : Cond.code yX2_isMissing cX2_isMissing 1 (some .boolean) ∈ WL := wl_3 153 rfl rfl
theorem q_fn_X7_219 : Cond.fieldLinkNest RX7 219 (TX2 2).1 (TX2 2).2.1 (TX2 2).2.2.1 "FridaySlips" ∈ NL := nl_1 145 rfl rfl
theorem q_fn_X7_220 : Cond.fieldLinkNest RX7 220 (TX2 0).1 (TX2 0).2.1 (TX2 0).2.2.1 "FridaySlips" ∈ NL := nl_1 141 rfl rfl
theorem q_ml_X7_224 : Cond.methodLink RX7 224 yX2_put ∈ WL := wl_3 154 rfl rfl
theorem q_instanceMethod_X2_put : Cond.instanceMethod yX2_put ∈ WL := wl_3 155 rfl rfl
theorem q_sel_X2_put : Cond.selects RX2 yX2_put yX2_put ∈ WL := wl_3 156 rfl rfl
theorem q_code_X2_put : Cond.code yX2_put cX2_put 4 none ∈ WL := wl_3 157 rfl rfl
theorem q_fn_X7_228 : Cond.fieldLinkNest RX7 228 (TX2 1).1 (TX2 1).2.1 (TX2 1).2.2.1 "FridaySlips" ∈ NL := nl_1 143 rfl rfl
theorem q_ml_X7_231 : Cond.methodLink RX7 231 yX2_hasRun ∈ WL := wl_3 162 rfl rfl
theorem q_instanceMethod_X2_hasRun : Cond.instanceMethod yX2_hasRun ∈ WL := wl_3 163 rfl rfl
theorem q_sel_X2_hasRun : Cond.selects RX2 yX2_hasRun yX2_hasRun ∈ WL := wl_3 164 rfl rfl
theorem q_code_X2_hasRun : Cond.code yX2_hasRun cX2_hasRun 3 (some .boolean) ∈ WL := wl_3 165 rfl rfl
theorem q_ml_X7_234 : Cond.methodLink RX7 234 arraycopyName ∈ WL := wl_3 166 rfl rfl
theorem q_ml_X7_240 : Cond.methodLink RX7 240 yX7_isRightLot ∈ WL := wl_3 171 rfl rfl
theorem q_instanceMethod_X7_isRightLot : Cond.instanceMethod yX7_isRightLot ∈ WL := wl_3 173 rfl rfl
theorem q_sel_X7_isRightLot : Cond.selects RX7 yX7_isRightLot yX7_isRightLot ∈ WL := wl_p 14 rfl rfl
theorem q_code_X7_isRightLot : Cond.code yX7_isRightLot cX7_isRightLot 6 (some .boolean) ∈ WL := wl_3 174 rfl rfl
theorem q_ml_X7_253 : Cond.methodLink RX7 253 Lib.Math.min.name ∈ WL := wl_3 187 rfl rfl
theorem q_ml_X7_244 : Cond.methodLink RX7 244 yX7_fitsWith ∈ WL := wl_3 183 rfl rfl
theorem q_instanceMethod_X7_fitsWith : Cond.instanceMethod yX7_fitsWith ∈ WL := wl_3 185 rfl rfl
theorem q_sel_X7_fitsWith : Cond.selects RX7 yX7_fitsWith yX7_fitsWith ∈ WL := wl_p 15 rfl rfl
theorem q_code_X7_fitsWith : Cond.code yX7_fitsWith cX7_fitsWith 6 (some .boolean) ∈ WL := wl_3 186 rfl rfl
theorem q_fl_X7_16 : Cond.fieldLink RX7 16 (TX7 1).1 (TX7 1).2.1 (TX7 1).2.2.1 ∈ WL := wl_1 155 rfl rfl
theorem q_fl_X7_248 : Cond.fieldLink RX7 248 (TX7 8).1 (TX7 8).2.1 (TX7 8).2.2.1 ∈ WL := wl_1 162 rfl rfl
theorem q_fl_X8_13 : Cond.fieldLink RX8 13 (TX8 1).1 (TX8 1).2.1 (TX8 1).2.2.1 ∈ WL := wl_3 215 rfl rfl
theorem q_k_X8_56 : Cond.constant RX8 56 (-1000000001) ∈ WL := wl_4 54 rfl rfl
theorem q_fl_X8_7 : Cond.fieldLink RX8 7 (TX8 0).1 (TX8 0).2.1 (TX8 0).2.2.1 ∈ WL := wl_3 214 rfl rfl
theorem q_ml_X8_57 : Cond.methodLink RX8 57 yX8_in ∈ WL := wl_4 51 rfl rfl
theorem q_static_X8_in : Cond.static yX8_in ∈ WL := wl_4 52 rfl rfl
theorem q_ini_FridaySlipsModel : Cond.initialized "FridaySlipsModel" ∈ WL := wl_1 7 rfl rfl
theorem q_code_X8_in : Cond.code yX8_in cX8_in 3 (some .boolean) ∈ WL := wl_4 53 rfl rfl
theorem q_ml_X8_61 : Cond.methodLink RX8 61 yX8_its ∈ WL := wl_4 76 rfl rfl
theorem q_instanceMethod_X8_its : Cond.instanceMethod yX8_its ∈ WL := wl_4 78 rfl rfl
theorem q_sel_X8_its : Cond.selects RX8 yX8_its yX8_its ∈ WL := wl_p 20 rfl rfl
theorem q_code_X8_its : Cond.code yX8_its cX8_its 3 (some .int) ∈ WL := wl_4 79 rfl rfl
theorem q_ml_X8_65 : Cond.methodLink RX8 65 yX8_isChild ∈ WL := wl_4 122 rfl rfl
theorem q_instanceMethod_X8_isChild : Cond.instanceMethod yX8_isChild ∈ WL := wl_4 124 rfl rfl
theorem q_sel_X8_isChild : Cond.selects RX8 yX8_isChild yX8_isChild ∈ WL := wl_p 26 rfl rfl
theorem q_code_X8_isChild : Cond.code yX8_isChild cX8_isChild 2 (some .boolean) ∈ WL := wl_4 125 rfl rfl
theorem q_ml_X8_69 : Cond.methodLink RX8 69 yX8_earnsAs ∈ WL := wl_4 84 rfl rfl
theorem q_instanceMethod_X8_earnsAs : Cond.instanceMethod yX8_earnsAs ∈ WL := wl_4 86 rfl rfl
theorem q_sel_X8_earnsAs : Cond.selects RX8 yX8_earnsAs yX8_earnsAs ∈ WL := wl_p 22 rfl rfl
theorem q_code_X8_earnsAs : Cond.code yX8_earnsAs cX8_earnsAs 6 (some .int) ∈ WL := wl_4 87 rfl rfl
theorem q_ml_X8_72 : Cond.methodLink RX8 72 yX8_earns ∈ WL := wl_4 80 rfl rfl
theorem q_instanceMethod_X8_earns : Cond.instanceMethod yX8_earns ∈ WL := wl_4 82 rfl rfl
theorem q_sel_X8_earns : Cond.selects RX8 yX8_earns yX8_earns ∈ WL := wl_p 21 rfl rfl
theorem q_code_X8_earns : Cond.code yX8_earns cX8_earns 2 (some .int) ∈ WL := wl_4 83 rfl rfl
theorem q_ml_X8_76 : Cond.methodLink RX8 76 yX8_puts ∈ WL := wl_4 64 rfl rfl
theorem q_instanceMethod_X8_puts : Cond.instanceMethod yX8_puts ∈ WL := wl_4 66 rfl rfl
theorem q_sel_X8_puts : Cond.selects RX8 yX8_puts yX8_puts ∈ WL := wl_p 18 rfl rfl
theorem q_code_X8_puts : Cond.code yX8_puts cX8_puts 4 none ∈ WL := wl_4 67 rfl rfl
theorem q_ml_X8_80 : Cond.methodLink RX8 80 yX8_isKind ∈ WL := wl_4 48 rfl rfl
theorem q_static_X8_isKind : Cond.static yX8_isKind ∈ WL := wl_4 49 rfl rfl
theorem q_code_X8_isKind : Cond.code yX8_isKind cX8_isKind 1 (some .boolean) ∈ WL := wl_4 50 rfl rfl
theorem q_ml_X8_87 : Cond.methodLink RX8 87 yX8_adds ∈ WL := wl_4 60 rfl rfl
theorem q_instanceMethod_X8_adds : Cond.instanceMethod yX8_adds ∈ WL := wl_4 62 rfl rfl
theorem q_sel_X8_adds : Cond.selects RX8 yX8_adds yX8_adds ∈ WL := wl_p 17 rfl rfl
theorem q_code_X8_adds : Cond.code yX8_adds cX8_adds 6 none ∈ WL := wl_4 63 rfl rfl
theorem q_k_X8_86 : Cond.constant RX8 86 (-1000000002) ∈ WL := wl_4 59 rfl rfl
theorem q_ml_X8_83 : Cond.methodLink RX8 83 yX8_finds ∈ WL := wl_4 55 rfl rfl
theorem q_instanceMethod_X8_finds : Cond.instanceMethod yX8_finds ∈ WL := wl_4 57 rfl rfl
theorem q_sel_X8_finds : Cond.selects RX8 yX8_finds yX8_finds ∈ WL := wl_p 16 rfl rfl
theorem q_code_X8_finds : Cond.code yX8_finds cX8_finds 2 (some .int) ∈ WL := wl_4 58 rfl rfl
theorem q_ml_X8_91 : Cond.methodLink RX8 91 yX8_isOne ∈ WL := wl_4 72 rfl rfl
theorem q_instanceMethod_X8_isOne : Cond.instanceMethod yX8_isOne ∈ WL := wl_4 74 rfl rfl
theorem q_sel_X8_isOne : Cond.selects RX8 yX8_isOne yX8_isOne ∈ WL := wl_p 19 rfl rfl
theorem q_code_X8_isOne : Cond.code yX8_isOne cX8_isOne 2 (some .boolean) ∈ WL := wl_4 75 rfl rfl
theorem q_ml_X8_94 : Cond.methodLink RX8 94 yX8_saysAs ∈ WL := wl_4 92 rfl rfl
theorem q_instanceMethod_X8_saysAs : Cond.instanceMethod yX8_saysAs ∈ WL := wl_4 94 rfl rfl
theorem q_sel_X8_saysAs : Cond.selects RX8 yX8_saysAs yX8_saysAs ∈ WL := wl_p 23 rfl rfl
theorem q_code_X8_saysAs : Cond.code yX8_saysAs cX8_saysAs 4 (some .int) ∈ WL := wl_4 95 rfl rfl
theorem q_ml_X8_98 : Cond.methodLink RX8 98 yX8_becomes ∈ WL := wl_4 101 rfl rfl
theorem q_instanceMethod_X8_becomes : Cond.instanceMethod yX8_becomes ∈ WL := wl_4 103 rfl rfl
theorem q_sel_X8_becomes : Cond.selects RX8 yX8_becomes yX8_becomes ∈ WL := wl_p 24 rfl rfl
theorem q_code_X8_becomes : Cond.code yX8_becomes cX8_becomes 4 (some .int) ∈ WL := wl_4 104 rfl rfl
theorem q_k_X8_97 : Cond.constant RX8 97 (99999) ∈ WL := wl_4 100 rfl rfl
theorem q_k_X8_101 : Cond.constant RX8 101 (-1000000003) ∈ WL := wl_4 113 rfl rfl
theorem q_ml_X8_102 : Cond.methodLink RX8 102 yX8_areAlike ∈ WL := wl_4 118 rfl rfl
theorem q_instanceMethod_X8_areAlike : Cond.instanceMethod yX8_areAlike ∈ WL := wl_4 120 rfl rfl
theorem q_sel_X8_areAlike : Cond.selects RX8 yX8_areAlike yX8_areAlike ∈ WL := wl_p 25 rfl rfl
theorem q_code_X8_areAlike : Cond.code yX8_areAlike cX8_areAlike 3 (some .boolean) ∈ WL := wl_4 121 rfl rfl
theorem q_ml_X8_107 : Cond.methodLink RX8 107 yX8_swaps ∈ WL := wl_4 127 rfl rfl
theorem q_instanceMethod_X8_swaps : Cond.instanceMethod yX8_swaps ∈ WL := wl_4 129 rfl rfl
theorem q_sel_X8_swaps : Cond.selects RX8 yX8_swaps yX8_swaps ∈ WL := wl_p 27 rfl rfl
theorem q_code_X8_swaps : Cond.code yX8_swaps cX8_swaps 4 none ∈ WL := wl_4 130 rfl rfl
theorem q_ml_X8_111 : Cond.methodLink RX8 111 yX8_ownSet ∈ WL := wl_4 131 rfl rfl
theorem q_instanceMethod_X8_ownSet : Cond.instanceMethod yX8_ownSet ∈ WL := wl_4 133 rfl rfl
theorem q_sel_X8_ownSet : Cond.selects RX8 yX8_ownSet yX8_ownSet ∈ WL := wl_p 28 rfl rfl
theorem q_code_X8_ownSet : Cond.code yX8_ownSet cX8_ownSet 3 (some .int) ∈ WL := wl_4 134 rfl rfl
theorem q_ml_X8_115 : Cond.methodLink RX8 115 yX8_bits ∈ WL := wl_4 135 rfl rfl
theorem q_static_X8_bits : Cond.static yX8_bits ∈ WL := wl_4 136 rfl rfl
theorem q_code_X8_bits : Cond.code yX8_bits cX8_bits 3 (some .int) ∈ WL := wl_4 137 rfl rfl
theorem q_k_X8_106 : Cond.constant RX8 106 (-1000000005) ∈ WL := wl_4 126 rfl rfl
theorem q_ml_X8_118 : Cond.methodLink RX8 118 yX8_allOwn ∈ WL := wl_4 142 rfl rfl
theorem q_instanceMethod_X8_allOwn : Cond.instanceMethod yX8_allOwn ∈ WL := wl_4 144 rfl rfl
theorem q_sel_X8_allOwn : Cond.selects RX8 yX8_allOwn yX8_allOwn ∈ WL := wl_p 29 rfl rfl
theorem q_code_X8_allOwn : Cond.code yX8_allOwn cX8_allOwn 2 none ∈ WL := wl_4 145 rfl rfl
theorem q_k_X8_121 : Cond.constant RX8 121 (1103515245) ∈ WL := wl_4 162 rfl rfl
theorem q_fl_X8_16 : Cond.fieldLink RX8 16 (TX8 2).1 (TX8 2).2.1 (TX8 2).2.2.1 ∈ WL := wl_3 216 rfl rfl
theorem q_ml_X8_122 : Cond.methodLink RX8 122 yX8_drawn ∈ WL := wl_4 158 rfl rfl
theorem q_instanceMethod_X8_drawn : Cond.instanceMethod yX8_drawn ∈ WL := wl_4 160 rfl rfl
theorem q_sel_X8_drawn : Cond.selects RX8 yX8_drawn yX8_drawn ∈ WL := wl_p 32 rfl rfl
theorem q_code_X8_drawn : Cond.code yX8_drawn cX8_drawn 2 (some .int) ∈ WL := wl_4 161 rfl rfl
theorem q_ml_X8_125 : Cond.methodLink RX8 125 yX8_drawsOf ∈ WL := wl_4 154 rfl rfl
theorem q_instanceMethod_X8_drawsOf : Cond.instanceMethod yX8_drawsOf ∈ WL := wl_4 156 rfl rfl
theorem q_sel_X8_drawsOf : Cond.selects RX8 yX8_drawsOf yX8_drawsOf ∈ WL := wl_p 31 rfl rfl
theorem q_code_X8_drawsOf : Cond.code yX8_drawsOf cX8_drawsOf 4 none ∈ WL := wl_4 157 rfl rfl
theorem q_ml_X8_129 : Cond.methodLink RX8 129 yX8_draws ∈ WL := wl_4 150 rfl rfl
theorem q_instanceMethod_X8_draws : Cond.instanceMethod yX8_draws ∈ WL := wl_4 152 rfl rfl
theorem q_sel_X8_draws : Cond.selects RX8 yX8_draws yX8_draws ∈ WL := wl_p 30 rfl rfl
theorem q_code_X8_draws : Cond.code yX8_draws cX8_draws 1 none ∈ WL := wl_4 153 rfl rfl
theorem q_fl_X8_19 : Cond.fieldLink RX8 19 (TX8 3).1 (TX8 3).2.1 (TX8 3).2.2.1 ∈ WL := wl_3 217 rfl rfl
theorem q_ml_X8_135 : Cond.methodLink RX8 135 yX8_held ∈ WL := wl_4 179 rfl rfl
theorem q_static_X8_held : Cond.static yX8_held ∈ WL := wl_4 180 rfl rfl
theorem q_code_X8_held : Cond.code yX8_held cX8_held 3 (some .int) ∈ WL := wl_4 181 rfl rfl
theorem q_fl_X8_22 : Cond.fieldLink RX8 22 (TX8 4).1 (TX8 4).2.1 (TX8 4).2.2.1 ∈ WL := wl_3 218 rfl rfl
theorem q_fl_X8_25 : Cond.fieldLink RX8 25 (TX8 5).1 (TX8 5).2.1 (TX8 5).2.2.1 ∈ WL := wl_3 219 rfl rfl
theorem q_ml_X8_132 : Cond.methodLink RX8 132 yX8_hearsAs ∈ WL := wl_4 175 rfl rfl
theorem q_instanceMethod_X8_hearsAs : Cond.instanceMethod yX8_hearsAs ∈ WL := wl_4 177 rfl rfl
theorem q_sel_X8_hearsAs : Cond.selects RX8 yX8_hearsAs yX8_hearsAs ∈ WL := wl_p 34 rfl rfl
theorem q_code_X8_hearsAs : Cond.code yX8_hearsAs cX8_hearsAs 4 (some .int) ∈ WL := wl_4 178 rfl rfl
theorem q_ml_X8_142 : Cond.methodLink RX8 142 yX8_sumOf ∈ WL := wl_4 182 rfl rfl
theorem q_instanceMethod_X8_sumOf : Cond.instanceMethod yX8_sumOf ∈ WL := wl_4 184 rfl rfl
theorem q_sel_X8_sumOf : Cond.selects RX8 yX8_sumOf yX8_sumOf ∈ WL := wl_p 35 rfl rfl
theorem q_code_X8_sumOf : Cond.code yX8_sumOf cX8_sumOf 4 (some .int) ∈ WL := wl_4 185 rfl rfl
theorem q_ml_X8_139 : Cond.methodLink RX8 139 yX8_oneFriday ∈ WL := wl_4 171 rfl rfl
theorem q_instanceMethod_X8_oneFriday : Cond.instanceMethod yX8_oneFriday ∈ WL := wl_4 173 rfl rfl
theorem q_sel_X8_oneFriday : Cond.selects RX8 yX8_oneFriday yX8_oneFriday ∈ WL := wl_p 33 rfl rfl
theorem q_code_X8_oneFriday : Cond.code yX8_oneFriday cX8_oneFriday 3 none ∈ WL := wl_4 174 rfl rfl
theorem q_ml_X8_145 : Cond.methodLink RX8 145 yX8_children ∈ WL := wl_4 194 rfl rfl
theorem q_instanceMethod_X8_children : Cond.instanceMethod yX8_children ∈ WL := wl_4 196 rfl rfl
theorem q_sel_X8_children : Cond.selects RX8 yX8_children yX8_children ∈ WL := wl_p 36 rfl rfl
theorem q_code_X8_children : Cond.code yX8_children cX8_children 3 (some .int) ∈ WL := wl_4 197 rfl rfl
theorem q_ml_X8_148 : Cond.methodLink RX8 148 yX8_earnAll ∈ WL := wl_4 198 rfl rfl
theorem q_instanceMethod_X8_earnAll : Cond.instanceMethod yX8_earnAll ∈ WL := wl_4 200 rfl rfl
theorem q_sel_X8_earnAll : Cond.selects RX8 yX8_earnAll yX8_earnAll ∈ WL := wl_p 37 rfl rfl
theorem q_code_X8_earnAll : Cond.code yX8_earnAll cX8_earnAll 3 (some .int) ∈ WL := wl_4 201 rfl rfl
theorem q_ml_X8_151 : Cond.methodLink RX8 151 yX8_isRight ∈ WL := wl_4 202 rfl rfl
theorem q_instanceMethod_X8_isRight : Cond.instanceMethod yX8_isRight ∈ WL := wl_4 204 rfl rfl
theorem q_sel_X8_isRight : Cond.selects RX8 yX8_isRight yX8_isRight ∈ WL := wl_p 38 rfl rfl
theorem q_code_X8_isRight : Cond.code yX8_isRight cX8_isRight 3 (some .boolean) ∈ WL := wl_4 205 rfl rfl
theorem q_ml_X8_155 : Cond.methodLink RX8 155 yX8_whoHas ∈ WL := wl_4 210 rfl rfl
theorem q_instanceMethod_X8_whoHas : Cond.instanceMethod yX8_whoHas ∈ WL := wl_4 212 rfl rfl
theorem q_sel_X8_whoHas : Cond.selects RX8 yX8_whoHas yX8_whoHas ∈ WL := wl_p 39 rfl rfl
theorem q_code_X8_whoHas : Cond.code yX8_whoHas cX8_whoHas 3 (some .int) ∈ WL := wl_4 213 rfl rfl
theorem q_ml_X8_158 : Cond.methodLink RX8 158 yX8_ringOf ∈ WL := wl_4 218 rfl rfl
theorem q_instanceMethod_X8_ringOf : Cond.instanceMethod yX8_ringOf ∈ WL := wl_4 220 rfl rfl
theorem q_sel_X8_ringOf : Cond.selects RX8 yX8_ringOf yX8_ringOf ∈ WL := wl_p 40 rfl rfl
theorem q_code_X8_ringOf : Cond.code yX8_ringOf cX8_ringOf 4 (some .int) ∈ WL := wl_4 221 rfl rfl
theorem q_fl_X8_28 : Cond.fieldLink RX8 28 (TX8 6).1 (TX8 6).2.1 (TX8 6).2.2.1 ∈ WL := wl_3 220 rfl rfl
theorem q_ml_X8_161 : Cond.methodLink RX8 161 yX8_moveAll ∈ WL := wl_4 234 rfl rfl
theorem q_instanceMethod_X8_moveAll : Cond.instanceMethod yX8_moveAll ∈ WL := wl_4 236 rfl rfl
theorem q_sel_X8_moveAll : Cond.selects RX8 yX8_moveAll yX8_moveAll ∈ WL := wl_p 41 rfl rfl
theorem q_code_X8_moveAll : Cond.code yX8_moveAll cX8_moveAll 4 none ∈ WL := wl_4 237 rfl rfl
theorem q_k_X8_165 : Cond.constant RX8 165 (-1000000004) ∈ WL := wl_5 2 rfl rfl
theorem q_fl_X8_31 : Cond.fieldLink RX8 31 (TX8 7).1 (TX8 7).2.1 (TX8 7).2.2.1 ∈ WL := wl_3 221 rfl rfl
theorem q_ml_X8_166 : Cond.methodLink RX8 166 yX8_findMost ∈ WL := wl_5 7 rfl rfl
theorem q_instanceMethod_X8_findMost : Cond.instanceMethod yX8_findMost ∈ WL := wl_5 9 rfl rfl
theorem q_sel_X8_findMost : Cond.selects RX8 yX8_findMost yX8_findMost ∈ WL := wl_p 42 rfl rfl
theorem q_code_X8_findMost : Cond.code yX8_findMost cX8_findMost 7 none ∈ WL := wl_5 10 rfl rfl
theorem q_ml_X8_169 : Cond.methodLink RX8 169 yX8_ways ∈ WL := wl_5 31 rfl rfl
theorem q_static_X8_ways : Cond.static yX8_ways ∈ WL := wl_5 32 rfl rfl
theorem q_code_X8_ways : Cond.code yX8_ways cX8_ways 5 (some .int) ∈ WL := wl_5 33 rfl rfl
theorem q_ml_X8_172 : Cond.methodLink RX8 172 yX8_all ∈ WL := wl_5 34 rfl rfl
theorem q_static_X8_all : Cond.static yX8_all ∈ WL := wl_5 35 rfl rfl
theorem q_code_X8_all : Cond.code yX8_all cX8_all 3 (some .int) ∈ WL := wl_5 36 rfl rfl
theorem q_ml_X8_175 : Cond.methodLink RX8 175 yX8_divisor ∈ WL := wl_5 37 rfl rfl
theorem q_static_X8_divisor : Cond.static yX8_divisor ∈ WL := wl_5 38 rfl rfl
theorem q_code_X8_divisor : Cond.code yX8_divisor cX8_divisor 5 (some .int) ∈ WL := wl_5 39 rfl rfl
theorem q_fl_X8_178 : Cond.fieldLink RX8 178 (TX8 9).1 (TX8 9).2.1 (TX8 9).2.2.1 ∈ WL := wl_3 223 rfl rfl
theorem q_fl_X8_34 : Cond.fieldLink RX8 34 (TX8 8).1 (TX8 8).2.1 (TX8 8).2.2.1 ∈ WL := wl_3 222 rfl rfl
theorem q_fl_X8_182 : Cond.fieldLink RX8 182 (TX8 12).1 (TX8 12).2.1 (TX8 12).2.2.1 ∈ WL := wl_3 226 rfl rfl
theorem q_fl_X8_185 : Cond.fieldLink RX8 185 (TX8 11).1 (TX8 11).2.1 (TX8 11).2.2.1 ∈ WL := wl_3 225 rfl rfl
theorem q_ml_X8_188 : Cond.methodLink RX8 188 yX8_byteAt ∈ WL := wl_5 60 rfl rfl
theorem q_instanceMethod_X8_byteAt : Cond.instanceMethod yX8_byteAt ∈ WL := wl_5 62 rfl rfl
theorem q_sel_X8_byteAt : Cond.selects RX8 yX8_byteAt yX8_byteAt ∈ WL := wl_p 44 rfl rfl
theorem q_code_X8_byteAt : Cond.code yX8_byteAt cX8_byteAt 2 (some .int) ∈ WL := wl_5 63 rfl rfl
theorem q_ml_X8_191 : Cond.methodLink RX8 191 yX8_isLetter ∈ WL := wl_5 64 rfl rfl
theorem q_static_X8_isLetter : Cond.static yX8_isLetter ∈ WL := wl_5 65 rfl rfl
theorem q_code_X8_isLetter : Cond.code yX8_isLetter cX8_isLetter 1 (some .boolean) ∈ WL := wl_5 66 rfl rfl
theorem q_ml_X8_194 : Cond.methodLink RX8 194 yX8_isDigit ∈ WL := wl_5 67 rfl rfl
theorem q_static_X8_isDigit : Cond.static yX8_isDigit ∈ WL := wl_5 68 rfl rfl
theorem q_code_X8_isDigit : Cond.code yX8_isDigit cX8_isDigit 1 (some .boolean) ∈ WL := wl_5 69 rfl rfl
theorem q_fl_X8_197 : Cond.fieldLink RX8 197 (TX8 10).1 (TX8 10).2.1 (TX8 10).2.2.1 ∈ WL := wl_3 224 rfl rfl
theorem q_fl_X8_200 : Cond.fieldLink RX8 200 (TX8 13).1 (TX8 13).2.1 (TX8 13).2.2.1 ∈ WL := wl_3 227 rfl rfl
theorem q_fl_X8_204 : Cond.fieldLink RX8 204 (TX8 14).1 (TX8 14).2.1 (TX8 14).2.2.1 ∈ WL := wl_3 228 rfl rfl
theorem q_l_X8_211 : Cond.constantLong RX8 211 (-1) ∈ WL := wl_5 72 rfl rfl
theorem q_l_X8_207 : Cond.constantLong RX8 207 (27) ∈ WL := wl_5 70 rfl rfl
theorem q_l_X8_209 : Cond.constantLong RX8 209 (96) ∈ WL := wl_5 71 rfl rfl
theorem q_l_X8_213 : Cond.constantLong RX8 213 (233793143982) ∈ WL := wl_5 81 rfl rfl
theorem q_ml_X8_215 : Cond.methodLink RX8 215 yX8_isWord ∈ WL := wl_5 82 rfl rfl
theorem q_instanceMethod_X8_isWord : Cond.instanceMethod yX8_isWord ∈ WL := wl_5 84 rfl rfl
theorem q_sel_X8_isWord : Cond.selects RX8 yX8_isWord yX8_isWord ∈ WL := wl_p 47 rfl rfl
theorem q_code_X8_isWord : Cond.code yX8_isWord cX8_isWord 3 (some .boolean) ∈ WL := wl_5 85 rfl rfl
theorem q_l_X8_219 : Cond.constantLong RX8 219 (10360367) ∈ WL := wl_5 86 rfl rfl
theorem q_l_X8_221 : Cond.constantLong RX8 221 (14092) ∈ WL := wl_5 87 rfl rfl
theorem q_l_X8_223 : Cond.constantLong RX8 223 (1758676) ∈ WL := wl_5 88 rfl rfl
theorem q_l_X8_225 : Cond.constantLong RX8 225 (239329775) ∈ WL := wl_5 89 rfl rfl
theorem q_l_X8_227 : Cond.constantLong RX8 227 (10792986) ∈ WL := wl_5 90 rfl rfl
theorem q_fl_X8_229 : Cond.fieldLink RX8 229 (TX8 15).1 (TX8 15).2.1 (TX8 15).2.2.1 ∈ WL := wl_3 229 rfl rfl
theorem q_ml_X8_233 : Cond.methodLink RX8 233 yX8_advance ∈ WL := wl_5 56 rfl rfl
theorem q_instanceMethod_X8_advance : Cond.instanceMethod yX8_advance ∈ WL := wl_5 58 rfl rfl
theorem q_sel_X8_advance : Cond.selects RX8 yX8_advance yX8_advance ∈ WL := wl_p 43 rfl rfl
theorem q_code_X8_advance : Cond.code yX8_advance cX8_advance 2 none ∈ WL := wl_5 59 rfl rfl
theorem q_ml_X8_236 : Cond.methodLink RX8 236 yX8_wantNumber ∈ WL := wl_5 100 rfl rfl
theorem q_instanceMethod_X8_wantNumber : Cond.instanceMethod yX8_wantNumber ∈ WL := wl_5 102 rfl rfl
theorem q_sel_X8_wantNumber : Cond.selects RX8 yX8_wantNumber yX8_wantNumber ∈ WL := wl_p 50 rfl rfl
theorem q_code_X8_wantNumber : Cond.code yX8_wantNumber cX8_wantNumber 4 (some .int) ∈ WL := wl_5 103 rfl rfl
theorem q_l_X8_239 : Cond.constantLong RX8 239 (464141) ∈ WL := wl_5 95 rfl rfl
theorem q_ml_X8_241 : Cond.methodLink RX8 241 yX8_mayWant ∈ WL := wl_5 96 rfl rfl
theorem q_instanceMethod_X8_mayWant : Cond.instanceMethod yX8_mayWant ∈ WL := wl_5 98 rfl rfl
theorem q_sel_X8_mayWant : Cond.selects RX8 yX8_mayWant yX8_mayWant ∈ WL := wl_p 49 rfl rfl
theorem q_code_X8_mayWant : Cond.code yX8_mayWant cX8_mayWant 6 (some .int) ∈ WL := wl_5 99 rfl rfl
theorem q_l_X8_245 : Cond.constantLong RX8 245 (8930039) ∈ WL := wl_5 104 rfl rfl
theorem q_l_X8_247 : Cond.constantLong RX8 247 (276647) ∈ WL := wl_5 105 rfl rfl
theorem q_l_X8_249 : Cond.constantLong RX8 249 (262) ∈ WL := wl_5 111 rfl rfl
theorem q_ml_X8_251 : Cond.methodLink RX8 251 yX8_kindHere ∈ WL := wl_5 77 rfl rfl
theorem q_instanceMethod_X8_kindHere : Cond.instanceMethod yX8_kindHere ∈ WL := wl_5 79 rfl rfl
theorem q_sel_X8_kindHere : Cond.selects RX8 yX8_kindHere yX8_kindHere ∈ WL := wl_p 46 rfl rfl
theorem q_code_X8_kindHere : Cond.code yX8_kindHere cX8_kindHere 1 (some .int) ∈ WL := wl_5 80 rfl rfl
theorem q_l_X8_258 : Cond.constantLong RX8 258 (382984) ∈ WL := wl_5 106 rfl rfl
theorem q_ml_X8_260 : Cond.methodLink RX8 260 yX8_wantSlip ∈ WL := wl_5 107 rfl rfl
theorem q_instanceMethod_X8_wantSlip : Cond.instanceMethod yX8_wantSlip ∈ WL := wl_5 109 rfl rfl
theorem q_sel_X8_wantSlip : Cond.selects RX8 yX8_wantSlip yX8_wantSlip ∈ WL := wl_p 51 rfl rfl
theorem q_code_X8_wantSlip : Cond.code yX8_wantSlip cX8_wantSlip 3 none ∈ WL := wl_5 110 rfl rfl
theorem q_ml_X8_254 : Cond.methodLink RX8 254 yX8_wantPerson ∈ WL := wl_5 91 rfl rfl
theorem q_instanceMethod_X8_wantPerson : Cond.instanceMethod yX8_wantPerson ∈ WL := wl_5 93 rfl rfl
theorem q_sel_X8_wantPerson : Cond.selects RX8 yX8_wantPerson yX8_wantPerson ∈ WL := wl_p 48 rfl rfl
theorem q_code_X8_wantPerson : Cond.code yX8_wantPerson cX8_wantPerson 5 none ∈ WL := wl_5 94 rfl rfl
theorem q_fl_X8_53 : Cond.fieldLink RX8 53 (TX8 21).1 (TX8 21).2.1 (TX8 21).2.2.1 ∈ WL := wl_3 235 rfl rfl
theorem q_ml_X8_263 : Cond.methodLink RX8 263 yX8_wantItem ∈ WL := wl_5 73 rfl rfl
theorem q_instanceMethod_X8_wantItem : Cond.instanceMethod yX8_wantItem ∈ WL := wl_5 75 rfl rfl
theorem q_sel_X8_wantItem : Cond.selects RX8 yX8_wantItem yX8_wantItem ∈ WL := wl_p 45 rfl rfl
theorem q_code_X8_wantItem : Cond.code yX8_wantItem cX8_wantItem 1 none ∈ WL := wl_5 76 rfl rfl
theorem q_ml_X8_266 : Cond.methodLink RX8 266 yX8_isSheet ∈ WL := wl_5 116 rfl rfl
theorem q_static_X8_isSheet : Cond.static yX8_isSheet ∈ WL := wl_5 117 rfl rfl
theorem q_code_X8_isSheet : Cond.code yX8_isSheet cX8_isSheet 1 (some .boolean) ∈ WL := wl_5 118 rfl rfl
theorem q_fl_X8_37 : Cond.fieldLink RX8 37 (TX8 16).1 (TX8 16).2.1 (TX8 16).2.2.1 ∈ WL := wl_3 230 rfl rfl
theorem q_fl_X8_40 : Cond.fieldLink RX8 40 (TX8 17).1 (TX8 17).2.1 (TX8 17).2.2.1 ∈ WL := wl_3 231 rfl rfl
theorem q_fl_X8_43 : Cond.fieldLink RX8 43 (TX8 18).1 (TX8 18).2.1 (TX8 18).2.2.1 ∈ WL := wl_3 232 rfl rfl
theorem q_k_X8_269 : Cond.constant RX8 269 (-1000000007) ∈ WL := wl_5 119 rfl rfl
theorem q_ml_X8_271 : Cond.methodLink RX8 271 yX8_narrow ∈ WL := wl_5 125 rfl rfl
theorem q_static_X8_narrow : Cond.static yX8_narrow ∈ WL := wl_5 126 rfl rfl
theorem q_code_X8_narrow : Cond.code yX8_narrow cX8_narrow 3 (some .long) ∈ WL := wl_5 127 rfl rfl
theorem q_k_X8_270 : Cond.constant RX8 270 (-1000000006) ∈ WL := wl_5 124 rfl rfl
theorem q_ml_X8_275 : Cond.methodLink RX8 275 yX8_isPart ∈ WL := wl_5 132 rfl rfl
theorem q_instanceMethod_X8_isPart : Cond.instanceMethod yX8_isPart ∈ WL := wl_5 134 rfl rfl
theorem q_sel_X8_isPart : Cond.selects RX8 yX8_isPart yX8_isPart ∈ WL := wl_p 52 rfl rfl
theorem q_code_X8_isPart : Cond.code yX8_isPart cX8_isPart 4 (some .boolean) ∈ WL := wl_5 135 rfl rfl
theorem q_fl_X8_47 : Cond.fieldLink RX8 47 (TX8 19).1 (TX8 19).2.1 (TX8 19).2.2.1 ∈ WL := wl_3 233 rfl rfl
theorem q_ml_X8_278 : Cond.methodLink RX8 278 yX8_badSheet ∈ WL := wl_5 140 rfl rfl
theorem q_instanceMethod_X8_badSheet : Cond.instanceMethod yX8_badSheet ∈ WL := wl_5 142 rfl rfl
theorem q_sel_X8_badSheet : Cond.selects RX8 yX8_badSheet yX8_badSheet ∈ WL := wl_p 53 rfl rfl
theorem q_code_X8_badSheet : Cond.code yX8_badSheet cX8_badSheet 2 (some .int) ∈ WL := wl_5 143 rfl rfl
theorem q_ml_X8_281 : Cond.methodLink RX8 281 yX8_isSo ∈ WL := wl_5 152 rfl rfl
theorem q_instanceMethod_X8_isSo : Cond.instanceMethod yX8_isSo ∈ WL := wl_5 154 rfl rfl
theorem q_sel_X8_isSo : Cond.selects RX8 yX8_isSo yX8_isSo ∈ WL := wl_p 54 rfl rfl
theorem q_code_X8_isSo : Cond.code yX8_isSo cX8_isSo 4 (some .boolean) ∈ WL := wl_5 155 rfl rfl
theorem q_fl_X8_50 : Cond.fieldLink RX8 50 (TX8 20).1 (TX8 20).2.1 (TX8 20).2.2.1 ∈ WL := wl_3 234 rfl rfl
theorem q_fl_X8_284 : Cond.fieldLink RX8 284 (TX8 22).1 (TX8 22).2.1 (TX8 22).2.2.1 ∈ WL := wl_3 236 rfl rfl
theorem fk_X4_15 : FL RX4 15 3 3 := ⟨RX4, TX4, 13, rfl, by decide, by decide, Or.inl q_fl_X4_15, uX4⟩
theorem cv_X4_58 : CV RX4 58 RX4 yX4_isChild cX4_isChild 2 (some .boolean) 1 := ⟨q_ml_X4_58, q_instanceMethod_X4_isChild, q_sel_X4_isChild, q_ini_FridaySlips_Village, q_code_X4_isChild, ⟨by decide +kernel, by decide +kernel, by decide +kernel, by decide +kernel⟩⟩
theorem cm_X6_15 : CM RX6 15 Lib.Math.max.name Lib.Math.max.code := ⟨q_ml_X6_15, q_static_Mmax, q_ini_java_lang_Math, q_code_Mmax⟩
theorem fk_X4_19 : FL RX4 19 3 4 := ⟨RX4, TX4, 13, rfl, by decide, by decide, Or.inl q_fl_X4_19, uX4⟩
theorem fk_X4_25 : FL RX4 25 3 6 := ⟨RX4, TX4, 13, rfl, by decide, by decide, Or.inl q_fl_X4_25, uX4⟩
theorem fk_X4_28 : FL RX4 28 3 7 := ⟨RX4, TX4, 13, rfl, by decide, by decide, Or.inl q_fl_X4_28, uX4⟩
theorem cs_X4_66 : CS RX4 66 yX6_earned cX6_earned 8 (some .int) 5 := ⟨q_ml_X4_66, q_static_X6_earned, q_ini_FridaySlips_Ways, q_code_X6_earned, ⟨by decide +kernel, by decide +kernel, by decide +kernel⟩⟩
theorem cv_X4_62 : CV RX4 62 RX4 yX4_earningAs cX4_earningAs 4 (some .int) 3 := ⟨q_ml_X4_62, q_instanceMethod_X4_earningAs, q_sel_X4_earningAs, q_ini_FridaySlips_Village, q_code_X4_earningAs, ⟨by decide +kernel, by decide +kernel, by decide +kernel, by decide +kernel⟩⟩
theorem cv_X0_37 : CV RX0 37 RX4 yX4_areAlike cX4_areAlike 3 (some .boolean) 2 := ⟨q_ml_X0_37, q_instanceMethod_X4_areAlike, q_sel_X4_areAlike, q_ini_FridaySlips_Village, q_code_X4_areAlike, ⟨by decide +kernel, by decide +kernel, by decide +kernel, by decide +kernel⟩⟩
theorem fk_X0_9 : FL RX0 9 0 0 := ⟨RX0, TX0, 1, rfl, by decide, by decide, Or.inl q_fl_X0_9, uX0⟩
theorem cv_X0_41 : CV RX0 41 RX4 yX4_earning cX4_earning 3 (some .int) 2 := ⟨q_ml_X0_41, q_instanceMethod_X4_earning, q_sel_X4_earning, q_ini_FridaySlips_Village, q_code_X4_earning, ⟨by decide +kernel, by decide +kernel, by decide +kernel, by decide +kernel⟩⟩
theorem fk_X0_15 : FL RX0 15 3 2 := ⟨RX4, TX4, 13, rfl, by decide, by decide, Or.inr ⟨_, q_fn_X0_15⟩, uX4⟩
theorem cs_X0_21 : CS RX0 21 yJ6_bitCount_0f7a4 cJ6_bitCount_0f7a4 1 (some .int) 1 := ⟨q_ml_X0_21, q_static_J6_bitCount_0f7a4, q_ini_java_lang_Integer, q_code_J6_bitCount_0f7a4, ⟨by decide +kernel, by decide +kernel, by decide +kernel⟩⟩
theorem cv_X0_27 : CV RX0 27 RX0 yX0_mostWith cX0_mostWith 6 (some .int) 4 := ⟨q_ml_X0_27, q_instanceMethod_X0_mostWith, q_sel_X0_mostWith, q_ini_FridaySlips_BestLot, q_code_X0_mostWith, ⟨by decide +kernel, by decide +kernel, by decide +kernel, by decide +kernel⟩⟩
theorem cm_X0_31 : CM RX0 31 Lib.Math.max.name Lib.Math.max.code := ⟨q_ml_X0_31, q_static_Mmax, q_ini_java_lang_Math, q_code_Mmax⟩
theorem cv_X0_44 : CV RX0 44 RX0 yX0_leastBest cX0_leastBest 5 (some .int) 3 := ⟨q_ml_X0_44, q_instanceMethod_X0_leastBest, q_sel_X0_leastBest, q_ini_FridaySlips_BestLot, q_code_X0_leastBest, ⟨by decide +kernel, by decide +kernel, by decide +kernel, by decide +kernel⟩⟩
theorem cm_X1_16 : CM RX1 16 Lib.Math.max.name Lib.Math.max.code := ⟨q_ml_X1_16, q_static_Mmax, q_ini_java_lang_Math, q_code_Mmax⟩
theorem fk_X2_15 : FL RX2 15 1 1 := ⟨RX2, TX2, 3, rfl, by decide, by decide, Or.inl q_fl_X2_15, uX2⟩
theorem ft_1_1 {i : Nat} : FT i 1 1 .int := ⟨RX2, TX2, 3, tyX2, rfl, rfl, by decide +kernel, tyX2_ok, nmX2⟩
theorem fs_1_1 {G : GG} {M : Mem} {o : Nat} {x : Int32} : (fl G M o 1).set 1 (.int x) = fl G (w_I M o 1 x) o 1 := by simp [fl, m_I, m_J, w_I, w_J]
theorem fk_X2_19 : FL RX2 19 1 2 := ⟨RX2, TX2, 3, rfl, by decide, by decide, Or.inl q_fl_X2_19, uX2⟩
theorem ft_1_2 {i : Nat} : FT i 1 2 .int := ⟨RX2, TX2, 3, tyX2, rfl, rfl, by decide +kernel, tyX2_ok, nmX2⟩
theorem fs_1_2 {G : GG} {M : Mem} {o : Nat} {x : Int32} : (fl G M o 1).set 2 (.int x) = fl G (w_I M o 2 x) o 1 := by simp [fl, m_I, m_J, w_I, w_J]
theorem fk_X2_9 : FL RX2 9 1 0 := ⟨RX2, TX2, 3, rfl, by decide, by decide, Or.inl q_fl_X2_9, uX2⟩
theorem cs_X2_22 : CS RX2 22 yJ7_fill_d0a16 cJ7_fill_d0a16 5 none 2 := ⟨q_ml_X2_22, q_static_J7_fill_d0a16, q_ini_java_util_Arrays, q_code_J7_fill_d0a16, ⟨by decide +kernel, by decide +kernel, by decide +kernel⟩⟩
theorem fk_X3_9 : FL RX3 9 2 0 := ⟨RX3, TX3, 2, rfl, by decide, by decide, Or.inl q_fl_X3_9, uX3⟩
theorem fk_X3_15 : FL RX3 15 2 1 := ⟨RX3, TX3, 2, rfl, by decide, by decide, Or.inl q_fl_X3_15, uX3⟩
theorem ft_2_1 {i : Nat} : FT i 2 1 .int := ⟨RX3, TX3, 2, tyX3, rfl, rfl, by decide +kernel, tyX3_ok, nmX3⟩
theorem fs_2_1 {G : GG} {M : Mem} {o : Nat} {x : Int32} : (fl G M o 2).set 1 (.int x) = fl G (w_I M o 1 x) o 2 := by simp [fl, m_I, m_J, w_I, w_J]
theorem fk_X4_46 : FL RX4 46 3 0 := ⟨RX4, TX4, 13, rfl, by decide, by decide, Or.inl q_fl_X4_46, uX4⟩
theorem ft_3_0 {i : Nat} : FT i 3 0 .int := ⟨RX4, TX4, 13, tyX4, rfl, rfl, by decide +kernel, tyX4_ok, nmX4⟩
theorem fs_3_0 {G : GG} {M : Mem} {o : Nat} {x : Int32} : (fl G M o 3).set 0 (.int x) = fl G (w_I M o 0 x) o 3 := by simp [fl, m_I, m_J, w_I, w_J]
theorem fk_X4_9 : FL RX4 9 3 1 := ⟨RX4, TX4, 13, rfl, by decide, by decide, Or.inl q_fl_X4_9, uX4⟩
theorem ft_3_1 {i : Nat} : FT i 3 1 .int := ⟨RX4, TX4, 13, tyX4, rfl, rfl, by decide +kernel, tyX4_ok, nmX4⟩
theorem fs_3_1 {G : GG} {M : Mem} {o : Nat} {x : Int32} : (fl G M o 3).set 1 (.int x) = fl G (w_I M o 1 x) o 3 := by simp [fl, m_I, m_J, w_I, w_J]
theorem fk_X4_49 : FL RX4 49 3 2 := ⟨RX4, TX4, 13, rfl, by decide, by decide, Or.inl q_fl_X4_49, uX4⟩
theorem ft_3_2 {i : Nat} : FT i 3 2 .int := ⟨RX4, TX4, 13, tyX4, rfl, rfl, by decide +kernel, tyX4_ok, nmX4⟩
theorem fs_3_2 {G : GG} {M : Mem} {o : Nat} {x : Int32} : (fl G M o 3).set 2 (.int x) = fl G (w_I M o 2 x) o 3 := by simp [fl, m_I, m_J, w_I, w_J]
theorem ca_X4_52 : CA RX4 52 := ⟨q_ml_X4_52, q_native_SA, q_static_SA, q_ini_java_lang_System⟩
theorem fk_X4_22 : FL RX4 22 3 5 := ⟨RX4, TX4, 13, rfl, by decide, by decide, Or.inl q_fl_X4_22, uX4⟩
theorem fk_X4_31 : FL RX4 31 3 8 := ⟨RX4, TX4, 13, rfl, by decide, by decide, Or.inl q_fl_X4_31, uX4⟩
theorem cs_X4_71 : CS RX4 71 yX6_said cX6_said 4 (some .int) 3 := ⟨q_ml_X4_71, q_static_X6_said, q_ini_FridaySlips_Ways, q_code_X6_said, ⟨by decide +kernel, by decide +kernel, by decide +kernel⟩⟩
theorem cs_X4_73 : CS RX4 73 yX6_heard cX6_heard 3 (some .int) 2 := ⟨q_ml_X4_73, q_static_X6_heard, q_ini_FridaySlips_Ways, q_code_X6_heard, ⟨by decide +kernel, by decide +kernel, by decide +kernel⟩⟩
theorem cv_X4_76 : CV RX4 76 RX4 yX4_earning cX4_earning 3 (some .int) 2 := ⟨q_ml_X4_76, q_instanceMethod_X4_earning, q_sel_X4_earning, q_ini_FridaySlips_Village, q_code_X4_earning, ⟨by decide +kernel, by decide +kernel, by decide +kernel, by decide +kernel⟩⟩
theorem cv_X4_79 : CV RX4 79 RX4 yX4_ownSet cX4_ownSet 3 (some .int) 0 := ⟨q_ml_X4_79, q_instanceMethod_X4_ownSet, q_sel_X4_ownSet, q_ini_FridaySlips_Village, q_code_X4_ownSet, ⟨by decide +kernel, by decide +kernel, by decide +kernel, by decide +kernel⟩⟩
theorem cs_X4_83 : CS RX4 83 yJ6_bitCount_0f7a4 cJ6_bitCount_0f7a4 1 (some .int) 1 := ⟨q_ml_X4_83, q_static_J6_bitCount_0f7a4, q_ini_java_lang_Integer, q_code_J6_bitCount_0f7a4, ⟨by decide +kernel, by decide +kernel, by decide +kernel⟩⟩
theorem cv_X4_89 : CV RX4 89 RX4 yX4_areAlike cX4_areAlike 3 (some .boolean) 2 := ⟨q_ml_X4_89, q_instanceMethod_X4_areAlike, q_sel_X4_areAlike, q_ini_FridaySlips_Village, q_code_X4_areAlike, ⟨by decide +kernel, by decide +kernel, by decide +kernel, by decide +kernel⟩⟩
theorem fk_X4_43 : FL RX4 43 3 12 := ⟨RX4, TX4, 13, rfl, by decide, by decide, Or.inl q_fl_X4_43, uX4⟩
theorem cv_X4_100 : CV RX4 100 RX4 yX4_drawAmong cX4_drawAmong 2 (some .int) 1 := ⟨q_ml_X4_100, q_instanceMethod_X4_drawAmong, q_sel_X4_drawAmong, q_ini_FridaySlips_Village, q_code_X4_drawAmong, ⟨by decide +kernel, by decide +kernel, by decide +kernel, by decide +kernel⟩⟩
theorem cv_X4_103 : CV RX4 103 RX4 yX4_exchange cX4_exchange 4 none 2 := ⟨q_ml_X4_103, q_instanceMethod_X4_exchange, q_sel_X4_exchange, q_ini_FridaySlips_Village, q_code_X4_exchange, ⟨by decide +kernel, by decide +kernel, by decide +kernel, by decide +kernel⟩⟩
theorem cv_X4_93 : CV RX4 93 RX4 yX4_goHome cX4_goHome 2 none 0 := ⟨q_ml_X4_93, q_instanceMethod_X4_goHome, q_sel_X4_goHome, q_ini_FridaySlips_Village, q_code_X4_goHome, ⟨by decide +kernel, by decide +kernel, by decide +kernel, by decide +kernel⟩⟩
theorem cv_X4_96 : CV RX4 96 RX4 yX4_shuffle cX4_shuffle 4 none 1 := ⟨q_ml_X4_96, q_instanceMethod_X4_shuffle, q_sel_X4_shuffle, q_ini_FridaySlips_Village, q_code_X4_shuffle, ⟨by decide +kernel, by decide +kernel, by decide +kernel, by decide +kernel⟩⟩
theorem fk_X4_34 : FL RX4 34 3 9 := ⟨RX4, TX4, 13, rfl, by decide, by decide, Or.inl q_fl_X4_34, uX4⟩
theorem cm_X4_118 : CM RX4 118 Lib.Math.min.name Lib.Math.min.code := ⟨q_ml_X4_118, q_static_Mmin, q_ini_java_lang_Math, q_code_Mmin⟩
theorem fk_X4_37 : FL RX4 37 3 10 := ⟨RX4, TX4, 13, rfl, by decide, by decide, Or.inl q_fl_X4_37, uX4⟩
theorem cm_X4_123 : CM RX4 123 Lib.Math.max.name Lib.Math.max.code := ⟨q_ml_X4_123, q_static_Mmax, q_ini_java_lang_Math, q_code_Mmax⟩
theorem fk_X4_40 : FL RX4 40 3 11 := ⟨RX4, TX4, 13, rfl, by decide, by decide, Or.inl q_fl_X4_40, uX4⟩
theorem cv_X4_111 : CV RX4 111 RX4 yX4_saying cX4_saying 3 (some .int) 2 := ⟨q_ml_X4_111, q_instanceMethod_X4_saying, q_sel_X4_saying, q_ini_FridaySlips_Village, q_code_X4_saying, ⟨by decide +kernel, by decide +kernel, by decide +kernel, by decide +kernel⟩⟩
theorem cv_X4_114 : CV RX4 114 RX4 yX4_hearing cX4_hearing 3 (some .int) 2 := ⟨q_ml_X4_114, q_instanceMethod_X4_hearing, q_sel_X4_hearing, q_ini_FridaySlips_Village, q_code_X4_hearing, ⟨by decide +kernel, by decide +kernel, by decide +kernel, by decide +kernel⟩⟩
theorem cv_X4_108 : CV RX4 108 RX4 yX4_passFriday cX4_passFriday 3 none 0 := ⟨q_ml_X4_108, q_instanceMethod_X4_passFriday, q_sel_X4_passFriday, q_ini_FridaySlips_Village, q_code_X4_passFriday, ⟨by decide +kernel, by decide +kernel, by decide +kernel, by decide +kernel⟩⟩
theorem fk_X5_15 : FL RX5 15 4 2 := ⟨RX5, TX5, 5, rfl, by decide, by decide, Or.inl q_fl_X5_15, uX5⟩
theorem fk_X5_9 : FL RX5 9 4 0 := ⟨RX5, TX5, 5, rfl, by decide, by decide, Or.inl q_fl_X5_9, uX5⟩
theorem fk_X5_121 : FL RX5 121 2 1 := ⟨RX3, TX3, 2, rfl, by decide, by decide, Or.inr ⟨_, q_fn_X5_121⟩, uX3⟩
theorem cv_X5_112 : CV RX5 112 RX3 yX3_at cX3_at 2 (some .int) 1 := ⟨q_ml_X5_112, q_instanceMethod_X3_at, q_sel_X3_at, q_ini_FridaySlips_Tape, q_code_X3_at, ⟨by decide +kernel, by decide +kernel, by decide +kernel, by decide +kernel⟩⟩
theorem cs_X5_124 : CS RX5 124 yX5_isLetter cX5_isLetter 1 (some .boolean) 1 := ⟨q_ml_X5_124, q_static_X5_isLetter, q_ini_FridaySlips_VillageText, q_code_X5_isLetter, ⟨by decide +kernel, by decide +kernel, by decide +kernel⟩⟩
theorem ft_4_2 {i : Nat} : FT i 4 2 .int := ⟨RX5, TX5, 5, tyX5, rfl, rfl, by decide +kernel, tyX5_ok, nmX5⟩
theorem fs_4_2 {G : GG} {M : Mem} {o : Nat} {x : Int32} : (fl G M o 4).set 2 (.int x) = fl G (w_I M o 2 x) o 4 := by simp [fl, m_I, m_J, w_I, w_J]
theorem fk_X5_75 : FL RX5 75 4 4 := ⟨RX5, TX5, 5, rfl, by decide, by decide, Or.inl q_fl_X5_75, uX5⟩
theorem ft_4_4 {i : Nat} : FT i 4 4 .int := ⟨RX5, TX5, 5, tyX5, rfl, rfl, by decide +kernel, tyX5_ok, nmX5⟩
theorem fs_4_4 {G : GG} {M : Mem} {o : Nat} {x : Int32} : (fl G M o 4).set 4 (.int x) = fl G (w_I M o 4 x) o 4 := by simp [fl, m_I, m_J, w_I, w_J]
theorem cs_X5_130 : CS RX5 130 yX5_isDigit cX5_isDigit 1 (some .boolean) 1 := ⟨q_ml_X5_130, q_static_X5_isDigit, q_ini_FridaySlips_VillageText, q_code_X5_isDigit, ⟨by decide +kernel, by decide +kernel, by decide +kernel⟩⟩
theorem cm_X5_136 : CM RX5 136 Lib.Math.min.name Lib.Math.min.code := ⟨q_ml_X5_136, q_static_Mmin, q_ini_java_lang_Math, q_code_Mmin⟩
theorem fk_X5_38 : FL RX5 38 4 1 := ⟨RX5, TX5, 5, rfl, by decide, by decide, Or.inl q_fl_X5_38, uX5⟩
theorem ft_4_1 {i : Nat} : FT i 4 1 .int := ⟨RX5, TX5, 5, tyX5, rfl, rfl, by decide +kernel, tyX5_ok, nmX5⟩
theorem fs_4_1 {G : GG} {M : Mem} {o : Nat} {x : Int32} : (fl G M o 4).set 1 (.int x) = fl G (w_I M o 1 x) o 4 := by simp [fl, m_I, m_J, w_I, w_J]
theorem fk_X5_35 : FL RX5 35 4 3 := ⟨RX5, TX5, 5, rfl, by decide, by decide, Or.inl q_fl_X5_35, uX5⟩
theorem ft_4_3 {i : Nat} : FT i 4 3 .int := ⟨RX5, TX5, 5, tyX5, rfl, rfl, by decide +kernel, tyX5_ok, nmX5⟩
theorem fs_4_3 {G : GG} {M : Mem} {o : Nat} {x : Int32} : (fl G M o 4).set 3 (.int x) = fl G (w_I M o 3 x) o 4 := by simp [fl, m_I, m_J, w_I, w_J]
theorem cv_X5_133 : CV RX5 133 RX5 yX5_passDigits cX5_passDigits 1 none 0 := ⟨q_ml_X5_133, q_instanceMethod_X5_passDigits, q_sel_X5_passDigits, q_ini_FridaySlips_VillageText, q_code_X5_passDigits, ⟨by decide +kernel, by decide +kernel, by decide +kernel, by decide +kernel⟩⟩
theorem cv_X5_127 : CV RX5 127 RX5 yX5_passLetters cX5_passLetters 1 none 0 := ⟨q_ml_X5_127, q_instanceMethod_X5_passLetters, q_sel_X5_passLetters, q_ini_FridaySlips_VillageText, q_code_X5_passLetters, ⟨by decide +kernel, by decide +kernel, by decide +kernel, by decide +kernel⟩⟩
theorem cv_X5_107 : CV RX5 107 RJ0 yJ0_length_8abf5 cJ0_length_8abf5 1 (some .int) 0 := ⟨q_ml_X5_107, q_instanceMethod_J0_length_8abf5, q_sel_J0_length_8abf5, q_ini_java_lang_String, q_code_J0_length_8abf5, ⟨by decide +kernel, by decide +kernel, by decide +kernel, by decide +kernel⟩⟩
theorem cv_X5_117 : CV RX5 117 RJ0 yJ0_charAt_5068e cJ0_charAt_5068e 2 (some .char) 1 := ⟨q_ml_X5_117, q_instanceMethod_J0_charAt_5068e, q_sel_J0_charAt_5068e, q_ini_java_lang_String, q_code_J0_charAt_5068e, ⟨by decide +kernel, by decide +kernel, by decide +kernel, by decide +kernel⟩⟩
theorem cv_X5_19 : CV RX5 19 RX5 yX5_step cX5_step 2 none 0 := ⟨q_ml_X5_19, q_instanceMethod_X5_step, q_sel_X5_step, q_ini_FridaySlips_VillageText, q_code_X5_step, ⟨by decide +kernel, by decide +kernel, by decide +kernel, by decide +kernel⟩⟩
theorem cv_X5_78 : CV RX5 78 RX4 yX4_has cX4_has 2 (some .boolean) 1 := ⟨q_ml_X5_78, q_instanceMethod_X4_has, q_sel_X4_has, q_ini_FridaySlips_Village, q_code_X4_has, ⟨by decide +kernel, by decide +kernel, by decide +kernel, by decide +kernel⟩⟩
theorem cv_X5_24 : CV RX5 24 RX5 yX5_isWord cX5_isWord 3 (some .boolean) 1 := ⟨q_ml_X5_24, q_instanceMethod_X5_isWord, q_sel_X5_isWord, q_ini_FridaySlips_VillageText, q_code_X5_isWord, ⟨by decide +kernel, by decide +kernel, by decide +kernel, by decide +kernel⟩⟩
theorem cv_X5_84 : CV RX5 84 RX4 yX4_holder cX4_holder 3 (some .int) 1 := ⟨q_ml_X5_84, q_instanceMethod_X4_holder, q_sel_X4_holder, q_ini_FridaySlips_Village, q_code_X4_holder, ⟨by decide +kernel, by decide +kernel, by decide +kernel, by decide +kernel⟩⟩
theorem cv_X5_87 : CV RX5 87 RX4 yX4_exchange cX4_exchange 4 none 2 := ⟨q_ml_X5_87, q_instanceMethod_X4_exchange, q_sel_X4_exchange, q_ini_FridaySlips_Village, q_code_X4_exchange, ⟨by decide +kernel, by decide +kernel, by decide +kernel, by decide +kernel⟩⟩
theorem cs_X5_91 : CS RX5 91 yX5_nameOf cX5_nameOf 1 (some (.object "java/lang/String")) 1 := ⟨q_ml_X5_91, q_static_X5_nameOf, q_ini_FridaySlips_VillageText, q_code_X5_nameOf, ⟨by decide +kernel, by decide +kernel, by decide +kernel⟩⟩
theorem cv_X5_41 : CV RX5 41 RX5 yX5_namedKind cX5_namedKind 2 (some .int) 0 := ⟨q_ml_X5_41, q_instanceMethod_X5_namedKind, q_sel_X5_namedKind, q_ini_FridaySlips_VillageText, q_code_X5_namedKind, ⟨by decide +kernel, by decide +kernel, by decide +kernel, by decide +kernel⟩⟩
theorem cv_X5_45 : CV RX5 45 RX4 yX4_isFull cX4_isFull 1 (some .boolean) 0 := ⟨q_ml_X5_45, q_instanceMethod_X4_isFull, q_sel_X4_isFull, q_ini_FridaySlips_Village, q_code_X4_isFull, ⟨by decide +kernel, by decide +kernel, by decide +kernel, by decide +kernel⟩⟩
theorem cv_X5_51 : CV RX5 51 RX4 yX4_add cX4_add 3 (some .int) 1 := ⟨q_ml_X5_51, q_instanceMethod_X4_add, q_sel_X4_add, q_ini_FridaySlips_Village, q_code_X4_add, ⟨by decide +kernel, by decide +kernel, by decide +kernel, by decide +kernel⟩⟩
theorem fk_X5_57 : FL RX5 57 3 4 := ⟨RX4, TX4, 13, rfl, by decide, by decide, Or.inr ⟨_, q_fn_X5_57⟩, uX4⟩
theorem cv_X5_61 : CV RX5 61 RX5 yX5_takePart cX5_takePart 5 (some .boolean) 4 := ⟨q_ml_X5_61, q_instanceMethod_X5_takePart, q_sel_X5_takePart, q_ini_FridaySlips_VillageText, q_code_X5_takePart, ⟨by decide +kernel, by decide +kernel, by decide +kernel, by decide +kernel⟩⟩
theorem fk_X5_67 : FL RX5 67 3 5 := ⟨RX4, TX4, 13, rfl, by decide, by decide, Or.inr ⟨_, q_fn_X5_67⟩, uX4⟩
theorem fk_X5_72 : FL RX5 72 3 6 := ⟨RX4, TX4, 13, rfl, by decide, by decide, Or.inr ⟨_, q_fn_X5_72⟩, uX4⟩
theorem cv_X5_32 : CV RX5 32 RX5 yX5_takePerson cX5_takePerson 4 (some .boolean) 1 := ⟨q_ml_X5_32, q_instanceMethod_X5_takePerson, q_sel_X5_takePerson, q_ini_FridaySlips_VillageText, q_code_X5_takePerson, ⟨by decide +kernel, by decide +kernel, by decide +kernel, by decide +kernel⟩⟩
theorem cv_X5_28 : CV RX5 28 RX5 yX5_takeSlip cX5_takeSlip 3 (some .boolean) 1 := ⟨q_ml_X5_28, q_instanceMethod_X5_takeSlip, q_sel_X5_takeSlip, q_ini_FridaySlips_VillageText, q_code_X5_takeSlip, ⟨by decide +kernel, by decide +kernel, by decide +kernel, by decide +kernel⟩⟩
theorem fk_X7_51 : FL RX7 51 5 7 := ⟨RX7, TX7, 9, rfl, by decide, by decide, Or.inl q_fl_X7_51, uX7⟩
theorem cs_X7_56 : CS RX7 56 yX7_isKind cX7_isKind 1 (some .boolean) 1 := ⟨q_ml_X7_56, q_static_X7_isKind, q_ini_FridaySlips, q_code_X7_isKind, ⟨by decide +kernel, by decide +kernel, by decide +kernel⟩⟩
theorem fk_X7_10 : FL RX7 10 5 0 := ⟨RX7, TX7, 9, rfl, by decide, by decide, Or.inl q_fl_X7_10, uX7⟩
theorem cv_X7_64 : CV RX7 64 RX4 yX4_isFull cX4_isFull 1 (some .boolean) 0 := ⟨q_ml_X7_64, q_instanceMethod_X4_isFull, q_sel_X4_isFull, q_ini_FridaySlips_Village, q_code_X4_isFull, ⟨by decide +kernel, by decide +kernel, by decide +kernel, by decide +kernel⟩⟩
theorem cv_X7_68 : CV RX7 68 RX4 yX4_add cX4_add 3 (some .int) 1 := ⟨q_ml_X7_68, q_instanceMethod_X4_add, q_sel_X4_add, q_ini_FridaySlips_Village, q_code_X4_add, ⟨by decide +kernel, by decide +kernel, by decide +kernel, by decide +kernel⟩⟩
theorem cv_X7_60 : CV RX7 60 RX7 yX7_finding cX7_finding 2 (some .int) 1 := ⟨q_ml_X7_60, q_instanceMethod_X7_finding, q_sel_X7_finding, q_ini_FridaySlips, q_code_X7_finding, ⟨by decide +kernel, by decide +kernel, by decide +kernel, by decide +kernel⟩⟩
theorem cv_X7_71 : CV RX7 71 RX4 yX4_has cX4_has 2 (some .boolean) 1 := ⟨q_ml_X7_71, q_instanceMethod_X4_has, q_sel_X4_has, q_ini_FridaySlips_Village, q_code_X4_has, ⟨by decide +kernel, by decide +kernel, by decide +kernel, by decide +kernel⟩⟩
theorem fk_X7_74 : FL RX7 74 3 3 := ⟨RX4, TX4, 13, rfl, by decide, by decide, Or.inr ⟨_, q_fn_X7_74⟩, uX4⟩
theorem fk_X7_77 : FL RX7 77 3 4 := ⟨RX4, TX4, 13, rfl, by decide, by decide, Or.inr ⟨_, q_fn_X7_77⟩, uX4⟩
theorem fk_X7_80 : FL RX7 80 3 5 := ⟨RX4, TX4, 13, rfl, by decide, by decide, Or.inr ⟨_, q_fn_X7_80⟩, uX4⟩
theorem fk_X7_83 : FL RX7 83 3 6 := ⟨RX4, TX4, 13, rfl, by decide, by decide, Or.inr ⟨_, q_fn_X7_83⟩, uX4⟩
theorem fk_X7_86 : FL RX7 86 3 7 := ⟨RX4, TX4, 13, rfl, by decide, by decide, Or.inr ⟨_, q_fn_X7_86⟩, uX4⟩
theorem fk_X7_89 : FL RX7 89 3 8 := ⟨RX4, TX4, 13, rfl, by decide, by decide, Or.inr ⟨_, q_fn_X7_89⟩, uX4⟩
theorem cv_X7_92 : CV RX7 92 RX4 yX4_earning cX4_earning 3 (some .int) 2 := ⟨q_ml_X7_92, q_instanceMethod_X4_earning, q_sel_X4_earning, q_ini_FridaySlips_Village, q_code_X4_earning, ⟨by decide +kernel, by decide +kernel, by decide +kernel, by decide +kernel⟩⟩
theorem cv_X7_96 : CV RX7 96 RX4 yX4_saying cX4_saying 3 (some .int) 2 := ⟨q_ml_X7_96, q_instanceMethod_X4_saying, q_sel_X4_saying, q_ini_FridaySlips_Village, q_code_X4_saying, ⟨by decide +kernel, by decide +kernel, by decide +kernel, by decide +kernel⟩⟩
theorem cv_X7_99 : CV RX7 99 RX7 yX7_replace cX7_replace 6 (some .int) 4 := ⟨q_ml_X7_99, q_instanceMethod_X7_replace, q_sel_X7_replace, q_ini_FridaySlips, q_code_X7_replace, ⟨by decide +kernel, by decide +kernel, by decide +kernel, by decide +kernel⟩⟩
theorem cs_X7_104 : CS RX7 104 yX6_isUnder cX6_isUnder 4 (some .boolean) 2 := ⟨q_ml_X7_104, q_static_X6_isUnder, q_ini_FridaySlips_Ways, q_code_X6_isUnder, ⟨by decide +kernel, by decide +kernel, by decide +kernel⟩⟩
theorem cv_X7_110 : CV RX7 110 RX4 yX4_areAlike cX4_areAlike 3 (some .boolean) 2 := ⟨q_ml_X7_110, q_instanceMethod_X4_areAlike, q_sel_X4_areAlike, q_ini_FridaySlips_Village, q_code_X4_areAlike, ⟨by decide +kernel, by decide +kernel, by decide +kernel, by decide +kernel⟩⟩
theorem cv_X7_113 : CV RX7 113 RX4 yX4_exchange cX4_exchange 4 none 2 := ⟨q_ml_X7_113, q_instanceMethod_X4_exchange, q_sel_X4_exchange, q_ini_FridaySlips_Village, q_code_X4_exchange, ⟨by decide +kernel, by decide +kernel, by decide +kernel, by decide +kernel⟩⟩
theorem cv_X7_117 : CV RX7 117 RX4 yX4_ownCount cX4_ownCount 1 (some .int) 0 := ⟨q_ml_X7_117, q_instanceMethod_X4_ownCount, q_sel_X4_ownCount, q_ini_FridaySlips_Village, q_code_X4_ownCount, ⟨by decide +kernel, by decide +kernel, by decide +kernel, by decide +kernel⟩⟩
theorem fk_X7_121 : FL RX7 121 3 2 := ⟨RX4, TX4, 13, rfl, by decide, by decide, Or.inr ⟨_, q_fn_X7_121⟩, uX4⟩
theorem cv_X7_125 : CV RX7 125 RX4 yX4_goHome cX4_goHome 2 none 0 := ⟨q_ml_X7_125, q_instanceMethod_X4_goHome, q_sel_X4_goHome, q_ini_FridaySlips_Village, q_code_X4_goHome, ⟨by decide +kernel, by decide +kernel, by decide +kernel, by decide +kernel⟩⟩
theorem cv_X7_128 : CV RX7 128 RX4 yX4_drawLot cX4_drawLot 1 none 0 := ⟨q_ml_X7_128, q_instanceMethod_X4_drawLot, q_sel_X4_drawLot, q_ini_FridaySlips_Village, q_code_X4_drawLot, ⟨by decide +kernel, by decide +kernel, by decide +kernel, by decide +kernel⟩⟩
theorem fk_X7_131 : FL RX7 131 3 1 := ⟨RX4, TX4, 13, rfl, by decide, by decide, Or.inr ⟨_, q_fn_X7_131⟩, uX4⟩
theorem fk_X7_134 : FL RX7 134 3 0 := ⟨RX4, TX4, 13, rfl, by decide, by decide, Or.inr ⟨_, q_fn_X7_134⟩, uX4⟩
theorem cv_X7_137 : CV RX7 137 RX4 yX4_passFridays cX4_passFridays 3 none 1 := ⟨q_ml_X7_137, q_instanceMethod_X4_passFridays, q_sel_X4_passFridays, q_ini_FridaySlips_Village, q_code_X4_passFridays, ⟨by decide +kernel, by decide +kernel, by decide +kernel, by decide +kernel⟩⟩
theorem cv_X7_141 : CV RX7 141 RX4 yX4_total cX4_total 4 (some .int) 1 := ⟨q_ml_X7_141, q_instanceMethod_X4_total, q_sel_X4_total, q_ini_FridaySlips_Village, q_code_X4_total, ⟨by decide +kernel, by decide +kernel, by decide +kernel, by decide +kernel⟩⟩
theorem cv_X7_145 : CV RX7 145 RX4 yX4_passFriday cX4_passFriday 3 none 0 := ⟨q_ml_X7_145, q_instanceMethod_X4_passFriday, q_sel_X4_passFriday, q_ini_FridaySlips_Village, q_code_X4_passFriday, ⟨by decide +kernel, by decide +kernel, by decide +kernel, by decide +kernel⟩⟩
theorem cv_X7_148 : CV RX7 148 RX4 yX4_childrenSet cX4_childrenSet 3 (some .int) 0 := ⟨q_ml_X7_148, q_instanceMethod_X4_childrenSet, q_sel_X4_childrenSet, q_ini_FridaySlips_Village, q_code_X4_childrenSet, ⟨by decide +kernel, by decide +kernel, by decide +kernel, by decide +kernel⟩⟩
theorem cv_X7_151 : CV RX7 151 RX4 yX4_ownSet cX4_ownSet 3 (some .int) 0 := ⟨q_ml_X7_151, q_instanceMethod_X4_ownSet, q_sel_X4_ownSet, q_ini_FridaySlips_Village, q_code_X4_ownSet, ⟨by decide +kernel, by decide +kernel, by decide +kernel, by decide +kernel⟩⟩
theorem cv_X7_154 : CV RX7 154 RX4 yX4_earnings cX4_earnings 3 (some .int) 0 := ⟨q_ml_X7_154, q_instanceMethod_X4_earnings, q_sel_X4_earnings, q_ini_FridaySlips_Village, q_code_X4_earnings, ⟨by decide +kernel, by decide +kernel, by decide +kernel, by decide +kernel⟩⟩
theorem cv_X7_157 : CV RX7 157 RX4 yX4_isLotRight cX4_isLotRight 2 (some .boolean) 0 := ⟨q_ml_X7_157, q_instanceMethod_X4_isLotRight, q_sel_X4_isLotRight, q_ini_FridaySlips_Village, q_code_X4_isLotRight, ⟨by decide +kernel, by decide +kernel, by decide +kernel, by decide +kernel⟩⟩
theorem cv_X7_160 : CV RX7 160 RX4 yX4_holder cX4_holder 3 (some .int) 1 := ⟨q_ml_X7_160, q_instanceMethod_X4_holder, q_sel_X4_holder, q_ini_FridaySlips_Village, q_code_X4_holder, ⟨by decide +kernel, by decide +kernel, by decide +kernel, by decide +kernel⟩⟩
theorem cv_X7_163 : CV RX7 163 RX4 yX4_ringSet cX4_ringSet 5 (some .int) 1 := ⟨q_ml_X7_163, q_instanceMethod_X4_ringSet, q_sel_X4_ringSet, q_ini_FridaySlips_Village, q_code_X4_ringSet, ⟨by decide +kernel, by decide +kernel, by decide +kernel, by decide +kernel⟩⟩
theorem fk_X7_19 : FL RX7 19 5 2 := ⟨RX7, TX7, 9, rfl, by decide, by decide, Or.inl q_fl_X7_19, uX7⟩
theorem cv_X7_166 : CV RX7 166 RX4 yX4_become cX4_become 2 none 1 := ⟨q_ml_X7_166, q_instanceMethod_X4_become, q_sel_X4_become, q_ini_FridaySlips_Village, q_code_X4_become, ⟨by decide +kernel, by decide +kernel, by decide +kernel, by decide +kernel⟩⟩
theorem fk_X7_25 : FL RX7 25 5 3 := ⟨RX7, TX7, 9, rfl, by decide, by decide, Or.inl q_fl_X7_25, uX7⟩
theorem cv_X7_170 : CV RX7 170 RX0 yX0_search cX0_search 7 (some .int) 1 := ⟨q_ml_X7_170, q_instanceMethod_X0_search, q_sel_X0_search, q_ini_FridaySlips_BestLot, q_code_X0_search, ⟨by decide +kernel, by decide +kernel, by decide +kernel, by decide +kernel⟩⟩
theorem cv_X7_174 : CV RX7 174 RX0 yX0_slipOf cX0_slipOf 6 (some .int) 2 := ⟨q_ml_X7_174, q_instanceMethod_X0_slipOf, q_sel_X0_slipOf, q_ini_FridaySlips_BestLot, q_code_X0_slipOf, ⟨by decide +kernel, by decide +kernel, by decide +kernel, by decide +kernel⟩⟩
theorem cv_X7_178 : CV RX7 178 RX4 yX4_gainOfExchange cX4_gainOfExchange 4 (some .int) 2 := ⟨q_ml_X7_178, q_instanceMethod_X4_gainOfExchange, q_sel_X4_gainOfExchange, q_ini_FridaySlips_Village, q_code_X4_gainOfExchange, ⟨by decide +kernel, by decide +kernel, by decide +kernel, by decide +kernel⟩⟩
theorem cv_X7_181 : CV RX7 181 RX4 yX4_earningAs cX4_earningAs 4 (some .int) 3 := ⟨q_ml_X7_181, q_instanceMethod_X4_earningAs, q_sel_X4_earningAs, q_ini_FridaySlips_Village, q_code_X4_earningAs, ⟨by decide +kernel, by decide +kernel, by decide +kernel, by decide +kernel⟩⟩
theorem cs_X7_185 : CS RX7 185 yJ6_bitCount_0f7a4 cJ6_bitCount_0f7a4 1 (some .int) 1 := ⟨q_ml_X7_185, q_static_J6_bitCount_0f7a4, q_ini_java_lang_Integer, q_code_J6_bitCount_0f7a4, ⟨by decide +kernel, by decide +kernel, by decide +kernel⟩⟩
theorem cs_X7_190 : CS RX7 190 yX1_deranged cX1_deranged 1 (some .int) 1 := ⟨q_ml_X7_190, q_static_X1_deranged, q_ini_FridaySlips_Chances, q_code_X1_deranged, ⟨by decide +kernel, by decide +kernel, by decide +kernel⟩⟩
theorem cs_X7_195 : CS RX7 195 yX1_ordered cX1_ordered 1 (some .int) 1 := ⟨q_ml_X7_195, q_static_X1_ordered, q_ini_FridaySlips_Chances, q_code_X1_ordered, ⟨by decide +kernel, by decide +kernel, by decide +kernel⟩⟩
theorem cs_X7_198 : CS RX7 198 yX1_commonDivisor cX1_commonDivisor 6 (some .int) 2 := ⟨q_ml_X7_198, q_static_X1_commonDivisor, q_ini_FridaySlips_Chances, q_code_X1_commonDivisor, ⟨by decide +kernel, by decide +kernel, by decide +kernel⟩⟩
theorem cs_X7_201 : CS RX7 201 yX1_withOwn cX1_withOwn 3 (some .int) 2 := ⟨q_ml_X7_201, q_static_X1_withOwn, q_ini_FridaySlips_Chances, q_code_X1_withOwn, ⟨by decide +kernel, by decide +kernel, by decide +kernel⟩⟩
theorem fk_X7_32 : FL RX7 32 5 4 := ⟨RX7, TX7, 9, rfl, by decide, by decide, Or.inl q_fl_X7_32, uX7⟩
theorem fk_X7_204 : FL RX7 204 2 1 := ⟨RX3, TX3, 2, rfl, by decide, by decide, Or.inr ⟨_, q_fn_X7_204⟩, uX3⟩
theorem cv_X7_205 : CV RX7 205 RX3 yX3_add cX3_add 2 none 1 := ⟨q_ml_X7_205, q_instanceMethod_X3_add, q_sel_X3_add, q_ini_FridaySlips_Tape, q_code_X3_add, ⟨by decide +kernel, by decide +kernel, by decide +kernel, by decide +kernel⟩⟩
theorem fk_X7_41 : FL RX7 41 5 5 := ⟨RX7, TX7, 9, rfl, by decide, by decide, Or.inl q_fl_X7_41, uX7⟩
theorem cv_X7_207 : CV RX7 207 RX5 yX5_tell cX5_tell 4 (some .int) 1 := ⟨q_ml_X7_207, q_instanceMethod_X5_tell, q_sel_X5_tell, q_ini_FridaySlips_VillageText, q_code_X5_tell, ⟨by decide +kernel, by decide +kernel, by decide +kernel, by decide +kernel⟩⟩
theorem cs_X7_210 : CS RX7 210 yX7_isSheet cX7_isSheet 1 (some .boolean) 1 := ⟨q_ml_X7_210, q_static_X7_isSheet, q_ini_FridaySlips, q_code_X7_isSheet, ⟨by decide +kernel, by decide +kernel, by decide +kernel⟩⟩
theorem fk_X7_47 : FL RX7 47 5 6 := ⟨RX7, TX7, 9, rfl, by decide, by decide, Or.inl q_fl_X7_47, uX7⟩
theorem cv_X7_213 : CV RX7 213 RX2 yX2_begin cX2_begin 3 (some .int) 2 := ⟨q_ml_X7_213, q_instanceMethod_X2_begin, q_sel_X2_begin, q_ini_FridaySlips_Sheet, q_code_X2_begin, ⟨by decide +kernel, by decide +kernel, by decide +kernel, by decide +kernel⟩⟩
theorem cv_X7_216 : CV RX7 216 RX2 yX2_isMissing cX2_isMissing 1 (some .boolean) 0 := ⟨q_ml_X7_216, q_instanceMethod_X2_isMissing, q_sel_X2_isMissing, q_ini_FridaySlips_Sheet, q_code_X2_isMissing, ⟨by decide +kernel, by decide +kernel, by decide +kernel, by decide +kernel⟩⟩
theorem fk_X7_219 : FL RX7 219 1 2 := ⟨RX2, TX2, 3, rfl, by decide, by decide, Or.inr ⟨_, q_fn_X7_219⟩, uX2⟩
theorem fk_X7_220 : FL RX7 220 1 0 := ⟨RX2, TX2, 3, rfl, by decide, by decide, Or.inr ⟨_, q_fn_X7_220⟩, uX2⟩
theorem cv_X7_224 : CV RX7 224 RX2 yX2_put cX2_put 4 none 2 := ⟨q_ml_X7_224, q_instanceMethod_X2_put, q_sel_X2_put, q_ini_FridaySlips_Sheet, q_code_X2_put, ⟨by decide +kernel, by decide +kernel, by decide +kernel, by decide +kernel⟩⟩
theorem fk_X7_228 : FL RX7 228 1 1 := ⟨RX2, TX2, 3, rfl, by decide, by decide, Or.inr ⟨_, q_fn_X7_228⟩, uX2⟩
theorem cv_X7_231 : CV RX7 231 RX2 yX2_hasRun cX2_hasRun 3 (some .boolean) 2 := ⟨q_ml_X7_231, q_instanceMethod_X2_hasRun, q_sel_X2_hasRun, q_ini_FridaySlips_Sheet, q_code_X2_hasRun, ⟨by decide +kernel, by decide +kernel, by decide +kernel, by decide +kernel⟩⟩
theorem ca_X7_234 : CA RX7 234 := ⟨q_ml_X7_234, q_native_SA, q_static_SA, q_ini_java_lang_System⟩
theorem cv_X7_240 : CV RX7 240 RX7 yX7_isRightLot cX7_isRightLot 6 (some .boolean) 1 := ⟨q_ml_X7_240, q_instanceMethod_X7_isRightLot, q_sel_X7_isRightLot, q_ini_FridaySlips, q_code_X7_isRightLot, ⟨by decide +kernel, by decide +kernel, by decide +kernel, by decide +kernel⟩⟩
theorem cm_X7_253 : CM RX7 253 Lib.Math.min.name Lib.Math.min.code := ⟨q_ml_X7_253, q_static_Mmin, q_ini_java_lang_Math, q_code_Mmin⟩
theorem cv_X7_244 : CV RX7 244 RX7 yX7_fitsWith cX7_fitsWith 6 (some .boolean) 3 := ⟨q_ml_X7_244, q_instanceMethod_X7_fitsWith, q_sel_X7_fitsWith, q_ini_FridaySlips, q_code_X7_fitsWith, ⟨by decide +kernel, by decide +kernel, by decide +kernel, by decide +kernel⟩⟩
theorem fk_X7_16 : FL RX7 16 5 1 := ⟨RX7, TX7, 9, rfl, by decide, by decide, Or.inl q_fl_X7_16, uX7⟩
theorem fk_X7_248 : FL RX7 248 5 8 := ⟨RX7, TX7, 9, rfl, by decide, by decide, Or.inl q_fl_X7_248, uX7⟩
theorem ft_5_8 {i : Nat} : FT i 5 8 .boolean := ⟨RX7, TX7, 9, tyX7, rfl, rfl, by decide +kernel, tyX7_ok, nmX7⟩
theorem fs_5_8 {G : GG} {M : Mem} {o : Nat} {x : Int32} : (fl G M o 5).set 8 (.int x) = fl G (w_I M o 8 x) o 5 := by simp [fl, m_I, m_J, w_I, w_J]
theorem fk_X8_13 : FL RX8 13 6 1 := ⟨RX8, TX8, 23, rfl, by decide, by decide, Or.inl q_fl_X8_13, uX8⟩
theorem fk_X8_7 : FL RX8 7 6 0 := ⟨RX8, TX8, 23, rfl, by decide, by decide, Or.inl q_fl_X8_7, uX8⟩
theorem cs_X8_57 : CS RX8 57 yX8_in cX8_in 3 (some .boolean) 3 := ⟨q_ml_X8_57, q_static_X8_in, q_ini_FridaySlipsModel, q_code_X8_in, ⟨by decide +kernel, by decide +kernel, by decide +kernel⟩⟩
theorem cv_X8_61 : CV RX8 61 RX8 yX8_its cX8_its 3 (some .int) 2 := ⟨q_ml_X8_61, q_instanceMethod_X8_its, q_sel_X8_its, q_ini_FridaySlipsModel, q_code_X8_its, ⟨by decide +kernel, by decide +kernel, by decide +kernel, by decide +kernel⟩⟩
theorem cv_X8_65 : CV RX8 65 RX8 yX8_isChild cX8_isChild 2 (some .boolean) 1 := ⟨q_ml_X8_65, q_instanceMethod_X8_isChild, q_sel_X8_isChild, q_ini_FridaySlipsModel, q_code_X8_isChild, ⟨by decide +kernel, by decide +kernel, by decide +kernel, by decide +kernel⟩⟩
theorem cv_X8_69 : CV RX8 69 RX8 yX8_earnsAs cX8_earnsAs 6 (some .int) 2 := ⟨q_ml_X8_69, q_instanceMethod_X8_earnsAs, q_sel_X8_earnsAs, q_ini_FridaySlipsModel, q_code_X8_earnsAs, ⟨by decide +kernel, by decide +kernel, by decide +kernel, by decide +kernel⟩⟩
theorem cv_X8_72 : CV RX8 72 RX8 yX8_earns cX8_earns 2 (some .int) 1 := ⟨q_ml_X8_72, q_instanceMethod_X8_earns, q_sel_X8_earns, q_ini_FridaySlipsModel, q_code_X8_earns, ⟨by decide +kernel, by decide +kernel, by decide +kernel, by decide +kernel⟩⟩
theorem cv_X8_76 : CV RX8 76 RX8 yX8_puts cX8_puts 4 none 3 := ⟨q_ml_X8_76, q_instanceMethod_X8_puts, q_sel_X8_puts, q_ini_FridaySlipsModel, q_code_X8_puts, ⟨by decide +kernel, by decide +kernel, by decide +kernel, by decide +kernel⟩⟩
theorem cs_X8_80 : CS RX8 80 yX8_isKind cX8_isKind 1 (some .boolean) 1 := ⟨q_ml_X8_80, q_static_X8_isKind, q_ini_FridaySlipsModel, q_code_X8_isKind, ⟨by decide +kernel, by decide +kernel, by decide +kernel⟩⟩
theorem cv_X8_87 : CV RX8 87 RX8 yX8_adds cX8_adds 6 none 4 := ⟨q_ml_X8_87, q_instanceMethod_X8_adds, q_sel_X8_adds, q_ini_FridaySlipsModel, q_code_X8_adds, ⟨by decide +kernel, by decide +kernel, by decide +kernel, by decide +kernel⟩⟩
theorem cv_X8_83 : CV RX8 83 RX8 yX8_finds cX8_finds 2 (some .int) 1 := ⟨q_ml_X8_83, q_instanceMethod_X8_finds, q_sel_X8_finds, q_ini_FridaySlipsModel, q_code_X8_finds, ⟨by decide +kernel, by decide +kernel, by decide +kernel, by decide +kernel⟩⟩
theorem cv_X8_91 : CV RX8 91 RX8 yX8_isOne cX8_isOne 2 (some .boolean) 1 := ⟨q_ml_X8_91, q_instanceMethod_X8_isOne, q_sel_X8_isOne, q_ini_FridaySlipsModel, q_code_X8_isOne, ⟨by decide +kernel, by decide +kernel, by decide +kernel, by decide +kernel⟩⟩
theorem cv_X8_94 : CV RX8 94 RX8 yX8_saysAs cX8_saysAs 4 (some .int) 2 := ⟨q_ml_X8_94, q_instanceMethod_X8_saysAs, q_sel_X8_saysAs, q_ini_FridaySlipsModel, q_code_X8_saysAs, ⟨by decide +kernel, by decide +kernel, by decide +kernel, by decide +kernel⟩⟩
theorem cv_X8_98 : CV RX8 98 RX8 yX8_becomes cX8_becomes 4 (some .int) 2 := ⟨q_ml_X8_98, q_instanceMethod_X8_becomes, q_sel_X8_becomes, q_ini_FridaySlipsModel, q_code_X8_becomes, ⟨by decide +kernel, by decide +kernel, by decide +kernel, by decide +kernel⟩⟩
theorem cv_X8_102 : CV RX8 102 RX8 yX8_areAlike cX8_areAlike 3 (some .boolean) 2 := ⟨q_ml_X8_102, q_instanceMethod_X8_areAlike, q_sel_X8_areAlike, q_ini_FridaySlipsModel, q_code_X8_areAlike, ⟨by decide +kernel, by decide +kernel, by decide +kernel, by decide +kernel⟩⟩
theorem cv_X8_107 : CV RX8 107 RX8 yX8_swaps cX8_swaps 4 none 2 := ⟨q_ml_X8_107, q_instanceMethod_X8_swaps, q_sel_X8_swaps, q_ini_FridaySlipsModel, q_code_X8_swaps, ⟨by decide +kernel, by decide +kernel, by decide +kernel, by decide +kernel⟩⟩
theorem cv_X8_111 : CV RX8 111 RX8 yX8_ownSet cX8_ownSet 3 (some .int) 0 := ⟨q_ml_X8_111, q_instanceMethod_X8_ownSet, q_sel_X8_ownSet, q_ini_FridaySlipsModel, q_code_X8_ownSet, ⟨by decide +kernel, by decide +kernel, by decide +kernel, by decide +kernel⟩⟩
theorem cs_X8_115 : CS RX8 115 yX8_bits cX8_bits 3 (some .int) 1 := ⟨q_ml_X8_115, q_static_X8_bits, q_ini_FridaySlipsModel, q_code_X8_bits, ⟨by decide +kernel, by decide +kernel, by decide +kernel⟩⟩
theorem cv_X8_118 : CV RX8 118 RX8 yX8_allOwn cX8_allOwn 2 none 0 := ⟨q_ml_X8_118, q_instanceMethod_X8_allOwn, q_sel_X8_allOwn, q_ini_FridaySlipsModel, q_code_X8_allOwn, ⟨by decide +kernel, by decide +kernel, by decide +kernel, by decide +kernel⟩⟩
theorem fk_X8_16 : FL RX8 16 6 2 := ⟨RX8, TX8, 23, rfl, by decide, by decide, Or.inl q_fl_X8_16, uX8⟩
theorem cv_X8_122 : CV RX8 122 RX8 yX8_drawn cX8_drawn 2 (some .int) 1 := ⟨q_ml_X8_122, q_instanceMethod_X8_drawn, q_sel_X8_drawn, q_ini_FridaySlipsModel, q_code_X8_drawn, ⟨by decide +kernel, by decide +kernel, by decide +kernel, by decide +kernel⟩⟩
theorem cv_X8_125 : CV RX8 125 RX8 yX8_drawsOf cX8_drawsOf 4 none 1 := ⟨q_ml_X8_125, q_instanceMethod_X8_drawsOf, q_sel_X8_drawsOf, q_ini_FridaySlipsModel, q_code_X8_drawsOf, ⟨by decide +kernel, by decide +kernel, by decide +kernel, by decide +kernel⟩⟩
theorem cv_X8_129 : CV RX8 129 RX8 yX8_draws cX8_draws 1 none 0 := ⟨q_ml_X8_129, q_instanceMethod_X8_draws, q_sel_X8_draws, q_ini_FridaySlipsModel, q_code_X8_draws, ⟨by decide +kernel, by decide +kernel, by decide +kernel, by decide +kernel⟩⟩
theorem fk_X8_19 : FL RX8 19 6 3 := ⟨RX8, TX8, 23, rfl, by decide, by decide, Or.inl q_fl_X8_19, uX8⟩
theorem cs_X8_135 : CS RX8 135 yX8_held cX8_held 3 (some .int) 3 := ⟨q_ml_X8_135, q_static_X8_held, q_ini_FridaySlipsModel, q_code_X8_held, ⟨by decide +kernel, by decide +kernel, by decide +kernel⟩⟩
theorem fk_X8_22 : FL RX8 22 6 4 := ⟨RX8, TX8, 23, rfl, by decide, by decide, Or.inl q_fl_X8_22, uX8⟩
theorem fk_X8_25 : FL RX8 25 6 5 := ⟨RX8, TX8, 23, rfl, by decide, by decide, Or.inl q_fl_X8_25, uX8⟩
theorem cv_X8_132 : CV RX8 132 RX8 yX8_hearsAs cX8_hearsAs 4 (some .int) 2 := ⟨q_ml_X8_132, q_instanceMethod_X8_hearsAs, q_sel_X8_hearsAs, q_ini_FridaySlipsModel, q_code_X8_hearsAs, ⟨by decide +kernel, by decide +kernel, by decide +kernel, by decide +kernel⟩⟩
theorem cv_X8_142 : CV RX8 142 RX8 yX8_sumOf cX8_sumOf 4 (some .int) 1 := ⟨q_ml_X8_142, q_instanceMethod_X8_sumOf, q_sel_X8_sumOf, q_ini_FridaySlipsModel, q_code_X8_sumOf, ⟨by decide +kernel, by decide +kernel, by decide +kernel, by decide +kernel⟩⟩
theorem cv_X8_139 : CV RX8 139 RX8 yX8_oneFriday cX8_oneFriday 3 none 0 := ⟨q_ml_X8_139, q_instanceMethod_X8_oneFriday, q_sel_X8_oneFriday, q_ini_FridaySlipsModel, q_code_X8_oneFriday, ⟨by decide +kernel, by decide +kernel, by decide +kernel, by decide +kernel⟩⟩
theorem cv_X8_145 : CV RX8 145 RX8 yX8_children cX8_children 3 (some .int) 0 := ⟨q_ml_X8_145, q_instanceMethod_X8_children, q_sel_X8_children, q_ini_FridaySlipsModel, q_code_X8_children, ⟨by decide +kernel, by decide +kernel, by decide +kernel, by decide +kernel⟩⟩
theorem cv_X8_148 : CV RX8 148 RX8 yX8_earnAll cX8_earnAll 3 (some .int) 0 := ⟨q_ml_X8_148, q_instanceMethod_X8_earnAll, q_sel_X8_earnAll, q_ini_FridaySlipsModel, q_code_X8_earnAll, ⟨by decide +kernel, by decide +kernel, by decide +kernel, by decide +kernel⟩⟩
theorem cv_X8_151 : CV RX8 151 RX8 yX8_isRight cX8_isRight 3 (some .boolean) 0 := ⟨q_ml_X8_151, q_instanceMethod_X8_isRight, q_sel_X8_isRight, q_ini_FridaySlipsModel, q_code_X8_isRight, ⟨by decide +kernel, by decide +kernel, by decide +kernel, by decide +kernel⟩⟩
theorem cv_X8_155 : CV RX8 155 RX8 yX8_whoHas cX8_whoHas 3 (some .int) 1 := ⟨q_ml_X8_155, q_instanceMethod_X8_whoHas, q_sel_X8_whoHas, q_ini_FridaySlipsModel, q_code_X8_whoHas, ⟨by decide +kernel, by decide +kernel, by decide +kernel, by decide +kernel⟩⟩
theorem cv_X8_158 : CV RX8 158 RX8 yX8_ringOf cX8_ringOf 4 (some .int) 1 := ⟨q_ml_X8_158, q_instanceMethod_X8_ringOf, q_sel_X8_ringOf, q_ini_FridaySlipsModel, q_code_X8_ringOf, ⟨by decide +kernel, by decide +kernel, by decide +kernel, by decide +kernel⟩⟩
theorem fk_X8_28 : FL RX8 28 6 6 := ⟨RX8, TX8, 23, rfl, by decide, by decide, Or.inl q_fl_X8_28, uX8⟩
theorem cv_X8_161 : CV RX8 161 RX8 yX8_moveAll cX8_moveAll 4 none 2 := ⟨q_ml_X8_161, q_instanceMethod_X8_moveAll, q_sel_X8_moveAll, q_ini_FridaySlipsModel, q_code_X8_moveAll, ⟨by decide +kernel, by decide +kernel, by decide +kernel, by decide +kernel⟩⟩
theorem fk_X8_31 : FL RX8 31 6 7 := ⟨RX8, TX8, 23, rfl, by decide, by decide, Or.inl q_fl_X8_31, uX8⟩
theorem cv_X8_166 : CV RX8 166 RX8 yX8_findMost cX8_findMost 7 none 0 := ⟨q_ml_X8_166, q_instanceMethod_X8_findMost, q_sel_X8_findMost, q_ini_FridaySlipsModel, q_code_X8_findMost, ⟨by decide +kernel, by decide +kernel, by decide +kernel, by decide +kernel⟩⟩
theorem cs_X8_169 : CS RX8 169 yX8_ways cX8_ways 5 (some .int) 2 := ⟨q_ml_X8_169, q_static_X8_ways, q_ini_FridaySlipsModel, q_code_X8_ways, ⟨by decide +kernel, by decide +kernel, by decide +kernel⟩⟩
theorem cs_X8_172 : CS RX8 172 yX8_all cX8_all 3 (some .int) 1 := ⟨q_ml_X8_172, q_static_X8_all, q_ini_FridaySlipsModel, q_code_X8_all, ⟨by decide +kernel, by decide +kernel, by decide +kernel⟩⟩
theorem cs_X8_175 : CS RX8 175 yX8_divisor cX8_divisor 5 (some .int) 2 := ⟨q_ml_X8_175, q_static_X8_divisor, q_ini_FridaySlipsModel, q_code_X8_divisor, ⟨by decide +kernel, by decide +kernel, by decide +kernel⟩⟩
theorem fk_X8_178 : FL RX8 178 6 9 := ⟨RX8, TX8, 23, rfl, by decide, by decide, Or.inl q_fl_X8_178, uX8⟩
theorem fk_X8_34 : FL RX8 34 6 8 := ⟨RX8, TX8, 23, rfl, by decide, by decide, Or.inl q_fl_X8_34, uX8⟩
theorem ft_6_9 {i : Nat} : FT i 6 9 .int := ⟨RX8, TX8, 23, tyX8, rfl, rfl, by decide +kernel, tyX8_ok, nmX8⟩
theorem fs_6_9 {G : GG} {M : Mem} {o : Nat} {x : Int32} : (fl G M o 6).set 9 (.int x) = fl G (w_I M o 9 x) o 6 := by simp [fl, m_I, m_J, w_I, w_J]
theorem fk_X8_182 : FL RX8 182 6 12 := ⟨RX8, TX8, 23, rfl, by decide, by decide, Or.inl q_fl_X8_182, uX8⟩
theorem fk_X8_185 : FL RX8 185 6 11 := ⟨RX8, TX8, 23, rfl, by decide, by decide, Or.inl q_fl_X8_185, uX8⟩
theorem ft_6_11 {i : Nat} : FT i 6 11 .int := ⟨RX8, TX8, 23, tyX8, rfl, rfl, by decide +kernel, tyX8_ok, nmX8⟩
theorem fs_6_11 {G : GG} {M : Mem} {o : Nat} {x : Int32} : (fl G M o 6).set 11 (.int x) = fl G (w_I M o 11 x) o 6 := by simp [fl, m_I, m_J, w_I, w_J]
theorem cv_X8_188 : CV RX8 188 RX8 yX8_byteAt cX8_byteAt 2 (some .int) 1 := ⟨q_ml_X8_188, q_instanceMethod_X8_byteAt, q_sel_X8_byteAt, q_ini_FridaySlipsModel, q_code_X8_byteAt, ⟨by decide +kernel, by decide +kernel, by decide +kernel, by decide +kernel⟩⟩
theorem ft_6_12 {i : Nat} : FT i 6 12 .int := ⟨RX8, TX8, 23, tyX8, rfl, rfl, by decide +kernel, tyX8_ok, nmX8⟩
theorem fs_6_12 {G : GG} {M : Mem} {o : Nat} {x : Int32} : (fl G M o 6).set 12 (.int x) = fl G (w_I M o 12 x) o 6 := by simp [fl, m_I, m_J, w_I, w_J]
theorem cs_X8_191 : CS RX8 191 yX8_isLetter cX8_isLetter 1 (some .boolean) 1 := ⟨q_ml_X8_191, q_static_X8_isLetter, q_ini_FridaySlipsModel, q_code_X8_isLetter, ⟨by decide +kernel, by decide +kernel, by decide +kernel⟩⟩
theorem cs_X8_194 : CS RX8 194 yX8_isDigit cX8_isDigit 1 (some .boolean) 1 := ⟨q_ml_X8_194, q_static_X8_isDigit, q_ini_FridaySlipsModel, q_code_X8_isDigit, ⟨by decide +kernel, by decide +kernel, by decide +kernel⟩⟩
theorem fk_X8_197 : FL RX8 197 6 10 := ⟨RX8, TX8, 23, rfl, by decide, by decide, Or.inl q_fl_X8_197, uX8⟩
theorem ft_6_10 {i : Nat} : FT i 6 10 .int := ⟨RX8, TX8, 23, tyX8, rfl, rfl, by decide +kernel, tyX8_ok, nmX8⟩
theorem fs_6_10 {G : GG} {M : Mem} {o : Nat} {x : Int32} : (fl G M o 6).set 10 (.int x) = fl G (w_I M o 10 x) o 6 := by simp [fl, m_I, m_J, w_I, w_J]
theorem fk_X8_200 : FL RX8 200 6 13 := ⟨RX8, TX8, 23, rfl, by decide, by decide, Or.inl q_fl_X8_200, uX8⟩
theorem ft_6_13 {i : Nat} : FT i 6 13 .long := ⟨RX8, TX8, 23, tyX8, rfl, rfl, by decide +kernel, tyX8_ok, nmX8⟩
theorem fs_6_13 {G : GG} {M : Mem} {o : Nat} {x : Int64} : (fl G M o 6).set 13 (.long x) = fl G (w_J M o 13 x) o 6 := by simp [fl, m_I, m_J, w_I, w_J]
theorem fk_X8_204 : FL RX8 204 6 14 := ⟨RX8, TX8, 23, rfl, by decide, by decide, Or.inl q_fl_X8_204, uX8⟩
theorem ft_6_14 {i : Nat} : FT i 6 14 .int := ⟨RX8, TX8, 23, tyX8, rfl, rfl, by decide +kernel, tyX8_ok, nmX8⟩
theorem fs_6_14 {G : GG} {M : Mem} {o : Nat} {x : Int32} : (fl G M o 6).set 14 (.int x) = fl G (w_I M o 14 x) o 6 := by simp [fl, m_I, m_J, w_I, w_J]
theorem cv_X8_215 : CV RX8 215 RX8 yX8_isWord cX8_isWord 3 (some .boolean) 1 := ⟨q_ml_X8_215, q_instanceMethod_X8_isWord, q_sel_X8_isWord, q_ini_FridaySlipsModel, q_code_X8_isWord, ⟨by decide +kernel, by decide +kernel, by decide +kernel, by decide +kernel⟩⟩
theorem fk_X8_229 : FL RX8 229 6 15 := ⟨RX8, TX8, 23, rfl, by decide, by decide, Or.inl q_fl_X8_229, uX8⟩
theorem ft_6_15 {i : Nat} : FT i 6 15 .boolean := ⟨RX8, TX8, 23, tyX8, rfl, rfl, by decide +kernel, tyX8_ok, nmX8⟩
theorem fs_6_15 {G : GG} {M : Mem} {o : Nat} {x : Int32} : (fl G M o 6).set 15 (.int x) = fl G (w_I M o 15 x) o 6 := by simp [fl, m_I, m_J, w_I, w_J]
theorem cv_X8_233 : CV RX8 233 RX8 yX8_advance cX8_advance 2 none 0 := ⟨q_ml_X8_233, q_instanceMethod_X8_advance, q_sel_X8_advance, q_ini_FridaySlipsModel, q_code_X8_advance, ⟨by decide +kernel, by decide +kernel, by decide +kernel, by decide +kernel⟩⟩
theorem cv_X8_236 : CV RX8 236 RX8 yX8_wantNumber cX8_wantNumber 4 (some .int) 2 := ⟨q_ml_X8_236, q_instanceMethod_X8_wantNumber, q_sel_X8_wantNumber, q_ini_FridaySlipsModel, q_code_X8_wantNumber, ⟨by decide +kernel, by decide +kernel, by decide +kernel, by decide +kernel⟩⟩
theorem cv_X8_241 : CV RX8 241 RX8 yX8_mayWant cX8_mayWant 6 (some .int) 4 := ⟨q_ml_X8_241, q_instanceMethod_X8_mayWant, q_sel_X8_mayWant, q_ini_FridaySlipsModel, q_code_X8_mayWant, ⟨by decide +kernel, by decide +kernel, by decide +kernel, by decide +kernel⟩⟩
theorem cv_X8_251 : CV RX8 251 RX8 yX8_kindHere cX8_kindHere 1 (some .int) 0 := ⟨q_ml_X8_251, q_instanceMethod_X8_kindHere, q_sel_X8_kindHere, q_ini_FridaySlipsModel, q_code_X8_kindHere, ⟨by decide +kernel, by decide +kernel, by decide +kernel, by decide +kernel⟩⟩
theorem cv_X8_260 : CV RX8 260 RX8 yX8_wantSlip cX8_wantSlip 3 none 0 := ⟨q_ml_X8_260, q_instanceMethod_X8_wantSlip, q_sel_X8_wantSlip, q_ini_FridaySlipsModel, q_code_X8_wantSlip, ⟨by decide +kernel, by decide +kernel, by decide +kernel, by decide +kernel⟩⟩
theorem cv_X8_254 : CV RX8 254 RX8 yX8_wantPerson cX8_wantPerson 5 none 1 := ⟨q_ml_X8_254, q_instanceMethod_X8_wantPerson, q_sel_X8_wantPerson, q_ini_FridaySlipsModel, q_code_X8_wantPerson, ⟨by decide +kernel, by decide +kernel, by decide +kernel, by decide +kernel⟩⟩
theorem fk_X8_53 : FL RX8 53 6 21 := ⟨RX8, TX8, 23, rfl, by decide, by decide, Or.inl q_fl_X8_53, uX8⟩
theorem cv_X8_263 : CV RX8 263 RX8 yX8_wantItem cX8_wantItem 1 none 0 := ⟨q_ml_X8_263, q_instanceMethod_X8_wantItem, q_sel_X8_wantItem, q_ini_FridaySlipsModel, q_code_X8_wantItem, ⟨by decide +kernel, by decide +kernel, by decide +kernel, by decide +kernel⟩⟩
theorem cs_X8_266 : CS RX8 266 yX8_isSheet cX8_isSheet 1 (some .boolean) 1 := ⟨q_ml_X8_266, q_static_X8_isSheet, q_ini_FridaySlipsModel, q_code_X8_isSheet, ⟨by decide +kernel, by decide +kernel, by decide +kernel⟩⟩
theorem fk_X8_37 : FL RX8 37 6 16 := ⟨RX8, TX8, 23, rfl, by decide, by decide, Or.inl q_fl_X8_37, uX8⟩
theorem fk_X8_40 : FL RX8 40 6 17 := ⟨RX8, TX8, 23, rfl, by decide, by decide, Or.inl q_fl_X8_40, uX8⟩
theorem fk_X8_43 : FL RX8 43 6 18 := ⟨RX8, TX8, 23, rfl, by decide, by decide, Or.inl q_fl_X8_43, uX8⟩
theorem cs_X8_271 : CS RX8 271 yX8_narrow cX8_narrow 3 (some .long) 2 := ⟨q_ml_X8_271, q_static_X8_narrow, q_ini_FridaySlipsModel, q_code_X8_narrow, ⟨by decide +kernel, by decide +kernel, by decide +kernel⟩⟩
theorem cv_X8_275 : CV RX8 275 RX8 yX8_isPart cX8_isPart 4 (some .boolean) 3 := ⟨q_ml_X8_275, q_instanceMethod_X8_isPart, q_sel_X8_isPart, q_ini_FridaySlipsModel, q_code_X8_isPart, ⟨by decide +kernel, by decide +kernel, by decide +kernel, by decide +kernel⟩⟩
theorem fk_X8_47 : FL RX8 47 6 19 := ⟨RX8, TX8, 23, rfl, by decide, by decide, Or.inl q_fl_X8_47, uX8⟩
theorem cv_X8_278 : CV RX8 278 RX8 yX8_badSheet cX8_badSheet 2 (some .int) 1 := ⟨q_ml_X8_278, q_instanceMethod_X8_badSheet, q_sel_X8_badSheet, q_ini_FridaySlipsModel, q_code_X8_badSheet, ⟨by decide +kernel, by decide +kernel, by decide +kernel, by decide +kernel⟩⟩
theorem cv_X8_281 : CV RX8 281 RX8 yX8_isSo cX8_isSo 4 (some .boolean) 1 := ⟨q_ml_X8_281, q_instanceMethod_X8_isSo, q_sel_X8_isSo, q_ini_FridaySlipsModel, q_code_X8_isSo, ⟨by decide +kernel, by decide +kernel, by decide +kernel, by decide +kernel⟩⟩
theorem fk_X8_50 : FL RX8 50 6 20 := ⟨RX8, TX8, 23, rfl, by decide, by decide, Or.inl q_fl_X8_50, uX8⟩
theorem fk_X8_284 : FL RX8 284 6 22 := ⟨RX8, TX8, 23, rfl, by decide, by decide, Or.inl q_fl_X8_284, uX8⟩
theorem ft_6_22 {i : Nat} : FT i 6 22 .boolean := ⟨RX8, TX8, 23, tyX8, rfl, rfl, by decide +kernel, tyX8_ok, nmX8⟩
theorem fs_6_22 {G : GG} {M : Mem} {o : Nat} {x : Int32} : (fl G M o 6).set 22 (.int x) = fl G (w_I M o 22 x) o 6 := by simp [fl, m_I, m_J, w_I, w_J]
end
section
def F_J6_bitCount_0f7a4 (a0 : Int32) (M : Mem) : Option Int32 := pin (a0 - (((a0.toUInt32 >>> ((1 : Int32).toUInt32 &&& Int32.toUInt32 31)).toInt32) &&& (1431655765 : Int32))) (fun y1 => pin ((y1 &&& (858993459 : Int32)) + (((y1.toUInt32 >>> ((2 : Int32).toUInt32 &&& Int32.toUInt32 31)).toInt32) &&& (858993459 : Int32))) (fun y2 => pin ((y2 + ((y2.toUInt32 >>> ((4 : Int32).toUInt32 &&& Int32.toUInt32 31)).toInt32)) &&& (252645135 : Int32)) (fun y3 => pin ((y3 + ((y3.toUInt32 >>> ((8 : Int32).toUInt32 &&& Int32.toUInt32 31)).toInt32)) + (((y3 + ((y3.toUInt32 >>> ((8 : Int32).toUInt32 &&& Int32.toUInt32 31)).toInt32)).toUInt32 >>> ((16 : Int32).toUInt32 &&& Int32.toUInt32 31)).toInt32)) (fun y4 => some (y4 &&& (63 : Int32))))))
set_option maxHeartbeats 4000000 in
set_option maxRecDepth 100000 in
theorem c_J6_bitCount_0f7a4 {l : Launch} {G : GG} {a0 : Int32}  {M : Mem} {r : Int32} (hF : F_J6_bitCount_0f7a4 a0 M = some r) : Met l yJ6_bitCount_0f7a4 (wz yJ6_bitCount_0f7a4 cJ6_bitCount_0f7a4 1 (some .int)) (RM 0 0) (PreC G [.int a0] M) (QcI G r M) 0 0 (g_A G) := by
  rw [F_J6_bitCount_0f7a4] at hF
  refine x_start (by decide) (Nat.le_of_ble_eq_true rfl) (lv := [(0, .int a0)]) rfl ?_
  intro p e s m below meth c cx hr hW hS ls hl
  obtain ⟨hx, hb, hml, hown, hts, hKK, hSS, hlk⟩ := id cx
  refine lv_iload_n hx hb dJ6_bitCount_0f7a4_0 rfl (lv_at hl 0 rfl) ?_
  refine lv_iload_n hx hb dJ6_bitCount_0f7a4_1 rfl (lv_at hl 0 rfl) ?_
  refine lv_iconst (v := (1 : Int32)) hx hb dJ6_bitCount_0f7a4_2 (by decide) ?_
  refine lv_iushr hx hb dJ6_bitCount_0f7a4_3 rfl ?_
  refine x_ldcw cx q_k_J6_265 dJ6_bitCount_0f7a4_4 ?_
  refine lv_iand hx hb dJ6_bitCount_0f7a4_7 ?_
  refine lv_isub hx hb dJ6_bitCount_0f7a4_8 ?_
  refine x_pini hF (fun y1 hF => ?_)
  refine lv_istore_n (lv' := [(0, .int y1)]) hx hb dJ6_bitCount_0f7a4_9 rfl hl (by decide) rfl (fun ls hl => ?_)
  refine lv_iload_n hx hb dJ6_bitCount_0f7a4_10 rfl (lv_at hl 0 rfl) ?_
  refine x_ldcw cx q_k_J6_266 dJ6_bitCount_0f7a4_11 ?_
  refine lv_iand hx hb dJ6_bitCount_0f7a4_14 ?_
  refine lv_iload_n hx hb dJ6_bitCount_0f7a4_15 rfl (lv_at hl 0 rfl) ?_
  refine lv_iconst (v := (2 : Int32)) hx hb dJ6_bitCount_0f7a4_16 (by decide) ?_
  refine lv_iushr hx hb dJ6_bitCount_0f7a4_17 rfl ?_
  refine x_ldcw cx q_k_J6_266 dJ6_bitCount_0f7a4_18 ?_
  refine lv_iand hx hb dJ6_bitCount_0f7a4_21 ?_
  refine lv_iadd hx hb dJ6_bitCount_0f7a4_22 ?_
  refine x_pini hF (fun y2 hF => ?_)
  refine lv_istore_n (lv' := [(0, .int y2)]) hx hb dJ6_bitCount_0f7a4_23 rfl hl (by decide) rfl (fun ls hl => ?_)
  refine lv_iload_n hx hb dJ6_bitCount_0f7a4_24 rfl (lv_at hl 0 rfl) ?_
  refine lv_iload_n hx hb dJ6_bitCount_0f7a4_25 rfl (lv_at hl 0 rfl) ?_
  refine lv_iconst (v := (4 : Int32)) hx hb dJ6_bitCount_0f7a4_26 (by decide) ?_
  refine lv_iushr hx hb dJ6_bitCount_0f7a4_27 rfl ?_
  refine lv_iadd hx hb dJ6_bitCount_0f7a4_28 ?_
  refine x_ldcw cx q_k_J6_267 dJ6_bitCount_0f7a4_29 ?_
  refine lv_iand hx hb dJ6_bitCount_0f7a4_32 ?_
  refine x_pini hF (fun y3 hF => ?_)
  refine lv_istore_n (lv' := [(0, .int y3)]) hx hb dJ6_bitCount_0f7a4_33 rfl hl (by decide) rfl (fun ls hl => ?_)
  refine lv_iload_n hx hb dJ6_bitCount_0f7a4_34 rfl (lv_at hl 0 rfl) ?_
  refine lv_iload_n hx hb dJ6_bitCount_0f7a4_35 rfl (lv_at hl 0 rfl) ?_
  refine lv_bipush (v := (8 : Int32)) hx hb dJ6_bitCount_0f7a4_36 (by decide) ?_
  refine lv_iushr hx hb dJ6_bitCount_0f7a4_38 rfl ?_
  refine lv_iadd hx hb dJ6_bitCount_0f7a4_39 ?_
  refine lv_istore_n (lv' := [(0, .int (y3 + ((y3.toUInt32 >>> ((8 : Int32).toUInt32 &&& Int32.toUInt32 31)).toInt32)))]) hx hb dJ6_bitCount_0f7a4_40 rfl hl (by decide) rfl (fun ls hl => ?_)
  refine lv_iload_n hx hb dJ6_bitCount_0f7a4_41 rfl (lv_at hl 0 rfl) ?_
  refine lv_iload_n hx hb dJ6_bitCount_0f7a4_42 rfl (lv_at hl 0 rfl) ?_
  refine lv_bipush (v := (16 : Int32)) hx hb dJ6_bitCount_0f7a4_43 (by decide) ?_
  refine lv_iushr hx hb dJ6_bitCount_0f7a4_45 rfl ?_
  refine lv_iadd hx hb dJ6_bitCount_0f7a4_46 ?_
  refine x_pini hF (fun y4 hF => ?_)
  refine lv_istore_n (lv' := [(0, .int y4)]) hx hb dJ6_bitCount_0f7a4_47 rfl hl (by decide) rfl (fun ls hl => ?_)
  refine lv_iload_n hx hb dJ6_bitCount_0f7a4_48 rfl (lv_at hl 0 rfl) ?_
  refine lv_bipush (v := (63 : Int32)) hx hb dJ6_bitCount_0f7a4_49 (by decide) ?_
  refine lv_iand hx hb dJ6_bitCount_0f7a4_51 ?_
  exact x_iret cx hr hW hS (Option.some.inj hF) rfl dJ6_bitCount_0f7a4_52
def F_J7_fill_d0a16_6 (a0 : Nat) (a1 : Int64) : Nat → Int32 → Int32 → Mem → Option Mem
  | 0, _, _, _ => none
  | n + 1, x3, x4, M => (if x4 ≤ x3 then some M else ix 40 x3 (fun j2 => pin (w_J M a0 j2 a1) (fun M3 => F_J7_fill_d0a16_6 a0 a1 n (x3 + 1) x4 M3)))
set_option maxHeartbeats 4000000 in
set_option maxRecDepth 100000 in
theorem t_J7_fill_d0a16_6 {p : Program} {l : Launch} {e : Env} {s : State} {m : MethodId} {args : Array Value} {below : List Frame} {meth : Method} {c : Code} {G : GG} {a0 : Nat} {a1 : Int64} (cx : Cx G cJ7_fill_d0a16 RJ7 5 p s m args meth c) (hr : meth.sig.returnType = none) (h0 : kd a0 = 1000 + 40)  {M1 : Mem} : ∀ (n : Nat) (x3 : Int32) (x4 : Int32) (M : Mem), F_J7_fill_d0a16_6 a0 a1 n x3 x4 M = some M1 → ∀ (H : Heap) (locs : List Loc) (ls : Array Slot), WH G M H → va_S (g_A G) s.heap H locs → lv_has ls 5 [(0, .ref (g_ad G a0)), (1, .long a1), (3, .int x3), (4, .int x4)] → W p l e (RM 0 0) s m args below meth c H locs 0 0 (MQ below (QcV G M1) args s 0 0 (g_A G)) (F0 m 6 ls []) := by
  obtain ⟨hx, hb, hml, hown, hts, hKK, hSS, hlk⟩ := id cx
  intro n
  induction n with
  | zero =>
    intro x3 x4 M hF H locs ls hW hS hl
    rw [F_J7_fill_d0a16_6] at hF
    cases hF
  | succ n ih =>
    intro x3 x4 M hF H locs ls hW hS hl
    rw [F_J7_fill_d0a16_6] at hF
    refine lv_iload_n hx hb dJ7_fill_d0a16_6 rfl (lv_at hl 2 rfl) ?_
    refine lv_iload hx hb dJ7_fill_d0a16_7 (lv_at hl 3 rfl) ?_
    refine lv_icmp_ge (tgt := 22) hx hb dJ7_fill_d0a16_9 (by decide) (fun c1 => ?_) (fun c1 => ?_)
    · have hF := it_p c1 hF
      exact x_vret cx hr hW hS (Option.some.inj hF) dJ7_fill_d0a16_22
    · have hF := it_n c1 hF
      refine lv_aload_n hx hb dJ7_fill_d0a16_12 rfl (lv_at hl 0 rfl) ?_
      refine lv_iload_n hx hb dJ7_fill_d0a16_13 rfl (lv_at hl 2 rfl) ?_
      refine lv_lload_n hx hb dJ7_fill_d0a16_14 rfl (lv_at hl 1 rfl) ?_
      obtain ⟨j2, hj2, gj2, hF⟩ := ix_e hF
      obtain ⟨M3, eM3, hF⟩ := pin_e hF
      refine x_last cx hW hS h0 (by decide) hj2 gj2 eM3 dJ7_fill_d0a16_15 (fun H locs hW hS => ?_)
      refine lv_iinc (v := (x3 + 1)) (lv' := [(3, .int (x3 + 1)), (0, .ref (g_ad G a0)), (1, .long a1), (4, .int x4)]) hx hb dJ7_fill_d0a16_16 hl (k := 2) rfl rfl (by decide) rfl (fun ls hl => ?_)
      refine lv_goto (tgt := 6) hx hb dJ7_fill_d0a16_19 (by decide) ?_
      exact ih (x3 + 1) x4 M3 hF _ _ _ hW hS (lv_sub hl [1, 2, 0, 3] rfl)
def F_J7_fill_d0a16 (a0 : Nat) (a1 : Int64) (M : Mem) : Option Mem := F_J7_fill_d0a16_6 a0 a1 FU (0 : Int32) (40 : Int32) M
set_option maxHeartbeats 4000000 in
set_option maxRecDepth 100000 in
theorem c_J7_fill_d0a16 {l : Launch} {G : GG} {a0 : Nat} {a1 : Int64} (h0 : kd a0 = 1000 + 40) {M : Mem} {M1 : Mem} (hF : F_J7_fill_d0a16 a0 a1 M = some M1) : Met l yJ7_fill_d0a16 (wz yJ7_fill_d0a16 cJ7_fill_d0a16 5 none) (RM 0 0) (PreC G [.ref (g_ad G a0), .long a1] M) (QcV G M1) 0 0 (g_A G) := by
  rw [F_J7_fill_d0a16] at hF
  refine x_start (by decide) (Nat.le_of_ble_eq_true rfl) (lv := [(0, .ref (g_ad G a0)), (1, .long a1)]) rfl ?_
  intro p e s m below meth c cx hr hW hS ls hl
  obtain ⟨hx, hb, hml, hown, hts, hKK, hSS, hlk⟩ := id cx
  refine lv_iconst (v := (0 : Int32)) hx hb dJ7_fill_d0a16_0 (by decide) ?_
  refine lv_istore_n (lv' := [(3, .int (0 : Int32)), (0, .ref (g_ad G a0)), (1, .long a1)]) hx hb dJ7_fill_d0a16_1 rfl hl (by decide) rfl (fun ls hl => ?_)
  refine lv_aload_n hx hb dJ7_fill_d0a16_2 rfl (lv_at hl 1 rfl) ?_
  refine x_alenJ (v := (40 : Int32)) cx hW h0 (by decide) (by decide) dJ7_fill_d0a16_3 ?_
  refine lv_istore (lv' := [(4, .int (40 : Int32)), (3, .int (0 : Int32)), (0, .ref (g_ad G a0)), (1, .long a1)]) hx hb dJ7_fill_d0a16_4 hl (by decide) rfl (fun ls hl => ?_)
  exact t_J7_fill_d0a16_6 cx hr h0 FU (0 : Int32) (40 : Int32) M hF _ _ _ hW hS (lv_sub hl [2, 3, 1, 0] rfl)
def F_X6_earned_28 (a0 : Int32) (a1 : Int32) (a2 : Int32) (a3 : Int32) (a4 : Int32) (M : Mem) (x5 : Int32) (x6 : Int32) (t0 : Int32) : Option Int32 := (if a0 = (1 : Int32) then some x6 else (if a0 = (2 : Int32) then some t0 else (if a0 = (3 : Int32) then some (1 : Int32) else (if a0 = (4 : Int32) then some (if (0 : Int32) < (x6 - (a4 / (4 : Int32))) then (x6 - (a4 / (4 : Int32))) else (0 : Int32)) else (if a0 = (5 : Int32) then some ((2 : Int32) * t0) else some x5)))))
set_option maxHeartbeats 4000000 in
set_option maxRecDepth 100000 in
theorem t_X6_earned_28 {p : Program} {l : Launch} {e : Env} {s : State} {m : MethodId} {args : Array Value} {below : List Frame} {meth : Method} {c : Code} {G : GG} {a0 : Int32} {a1 : Int32} {a2 : Int32} {a3 : Int32} {a4 : Int32} (cx : Cx G cX6_earned RX6 8 p s m args meth c) (hr : meth.sig.returnType = (some .int))   {M : Mem} {r : Int32} : ∀ (x5 : Int32) (x6 : Int32) (t0 : Int32), F_X6_earned_28 a0 a1 a2 a3 a4 M x5 x6 t0 = some r → ∀ (H : Heap) (locs : List Loc) (ls : Array Slot), WH G M H → va_S (g_A G) s.heap H locs → lv_has ls 8 [(0, .int a0), (4, .int a4), (5, .int x5), (6, .int x6)] → W p l e (RM 1 21) s m args below meth c H locs 0 0 (MQ below (QcI G r M) args s 0 0 (g_A G)) (F0 m 28 ls [.int t0]) := by
  obtain ⟨hx, hb, hml, hown, hts, hKK, hSS, hlk⟩ := id cx
  intro x5 x6 t0 hF H locs ls hW hS hl
  rw [F_X6_earned_28] at hF
  refine lv_istore (lv' := [(7, .int t0), (0, .int a0), (4, .int a4), (5, .int x5), (6, .int x6)]) hx hb dX6_earned_28 hl (by decide) rfl (fun ls hl => ?_)
  refine lv_iload_n hx hb dX6_earned_30 rfl (lv_at hl 1 rfl) ?_
  refine x_sw (1 : Int32) (fun c2 => ?_) (fun c2 => ?_)
  · have hF := it_p c2 hF
    refine x_tab (tgt := 64) cx dX6_earned_31 c2 (by decide) (by decide) rfl (by decide) ?_
    refine lv_iload hx hb dX6_earned_64 (lv_at hl 4 rfl) ?_
    exact x_iret cx hr hW hS (Option.some.inj hF) rfl dX6_earned_66
  · have hF := it_n c2 hF
    refine x_sw (2 : Int32) (fun c3 => ?_) (fun c3 => ?_)
    · have hF := it_p c3 hF
      refine x_tab (tgt := 67) cx dX6_earned_31 c3 (by decide) (by decide) rfl (by decide) ?_
      refine lv_iload hx hb dX6_earned_67 (lv_at hl 0 rfl) ?_
      exact x_iret cx hr hW hS (Option.some.inj hF) rfl dX6_earned_69
    · have hF := it_n c3 hF
      refine x_sw (3 : Int32) (fun c4 => ?_) (fun c4 => ?_)
      · have hF := it_p c4 hF
        refine x_tab (tgt := 70) cx dX6_earned_31 c4 (by decide) (by decide) rfl (by decide) ?_
        refine lv_iconst (v := (1 : Int32)) hx hb dX6_earned_70 (by decide) ?_
        exact x_iret cx hr hW hS (Option.some.inj hF) rfl dX6_earned_71
      · have hF := it_n c4 hF
        refine x_sw (4 : Int32) (fun c5 => ?_) (fun c5 => ?_)
        · have hF := it_p c5 hF
          refine x_tab (tgt := 72) cx dX6_earned_31 c5 (by decide) (by decide) rfl (by decide) ?_
          refine lv_iconst (v := (0 : Int32)) hx hb dX6_earned_72 (by decide) ?_
          refine lv_iload hx hb dX6_earned_73 (lv_at hl 4 rfl) ?_
          refine lv_iload hx hb dX6_earned_75 (lv_at hl 2 rfl) ?_
          refine lv_iconst (v := (4 : Int32)) hx hb dX6_earned_77 (by decide) ?_
          refine lv_idiv hx hb dX6_earned_78 (by decide) ?_
          refine lv_isub hx hb dX6_earned_79 ?_
          refine x_max cx cm_X6_15 hl.1 (Nat.le_of_ble_eq_true rfl) (Nat.le_of_ble_eq_true rfl) dX6_earned_80 ?_
          exact x_iret cx hr hW hS (Option.some.inj hF) rfl dX6_earned_83
        · have hF := it_n c5 hF
          refine x_sw (5 : Int32) (fun c6 => ?_) (fun c6 => ?_)
          · have hF := it_p c6 hF
            refine x_tab (tgt := 84) cx dX6_earned_31 c6 (by decide) (by decide) rfl (by decide) ?_
            refine lv_iconst (v := (2 : Int32)) hx hb dX6_earned_84 (by decide) ?_
            refine lv_iload hx hb dX6_earned_85 (lv_at hl 0 rfl) ?_
            refine lv_imul hx hb dX6_earned_87 ?_
            exact x_iret cx hr hW hS (Option.some.inj hF) rfl dX6_earned_88
          · have hF := it_n c6 hF
            refine lv_tableOut (tgt := 89) hx hb dX6_earned_31 (by have z0 := lv_neT c2 (a := 1) (by decide); have z1 := lv_neT c3 (a := 2) (by decide); have z2 := lv_neT c4 (a := 3) (by decide); have z3 := lv_neT c5 (a := 4) (by decide); have z4 := lv_neT c6 (a := 5) (by decide); omega) (by decide) ?_
            refine lv_iload hx hb dX6_earned_89 (lv_at hl 3 rfl) ?_
            exact x_iret cx hr hW hS (Option.some.inj hF) rfl dX6_earned_91
def F_X6_earned (a0 : Int32) (a1 : Int32) (a2 : Int32) (a3 : Int32) (a4 : Int32) (M : Mem) : Option Int32 := (if (50 : Int32) ≤ a3 then F_X6_earned_28 a0 a1 a2 a3 a4 M ((a1 + a2) / (2 : Int32)) (((a1 + a2) / (2 : Int32)) + (2 : Int32)) ((a1 + a2) / (2 : Int32)) else F_X6_earned_28 a0 a1 a2 a3 a4 M ((a1 + a2) / (2 : Int32)) (((a1 + a2) / (2 : Int32)) + (2 : Int32)) (((a1 + a2) / (2 : Int32)) + (4 : Int32)))
set_option maxHeartbeats 4000000 in
set_option maxRecDepth 100000 in
theorem c_X6_earned {l : Launch} {G : GG} {a0 : Int32} {a1 : Int32} {a2 : Int32} {a3 : Int32} {a4 : Int32}  {M : Mem} {r : Int32} (hF : F_X6_earned a0 a1 a2 a3 a4 M = some r) : Met l yX6_earned (wz yX6_earned cX6_earned 8 (some .int)) (RM 1 21) (PreC G [.int a0, .int a1, .int a2, .int a3, .int a4] M) (QcI G r M) 0 0 (g_A G) := by
  rw [F_X6_earned] at hF
  refine x_start (by decide) (Nat.le_of_ble_eq_true rfl) (lv := [(0, .int a0), (1, .int a1), (2, .int a2), (3, .int a3), (4, .int a4)]) rfl ?_
  intro p e s m below meth c cx hr hW hS ls hl
  obtain ⟨hx, hb, hml, hown, hts, hKK, hSS, hlk⟩ := id cx
  refine lv_iload_n hx hb dX6_earned_0 rfl (lv_at hl 1 rfl) ?_
  refine lv_iload_n hx hb dX6_earned_1 rfl (lv_at hl 2 rfl) ?_
  refine lv_iadd hx hb dX6_earned_2 ?_
  refine lv_iconst (v := (2 : Int32)) hx hb dX6_earned_3 (by decide) ?_
  refine lv_idiv hx hb dX6_earned_4 (by decide) ?_
  refine lv_istore (lv' := [(5, .int ((a1 + a2) / (2 : Int32))), (0, .int a0), (1, .int a1), (2, .int a2), (3, .int a3), (4, .int a4)]) hx hb dX6_earned_5 hl (by decide) rfl (fun ls hl => ?_)
  refine lv_iload hx hb dX6_earned_7 (lv_at hl 0 rfl) ?_
  refine lv_iconst (v := (2 : Int32)) hx hb dX6_earned_9 (by decide) ?_
  refine lv_iadd hx hb dX6_earned_10 ?_
  refine lv_istore (lv' := [(6, .int (((a1 + a2) / (2 : Int32)) + (2 : Int32))), (5, .int ((a1 + a2) / (2 : Int32))), (0, .int a0), (1, .int a1), (2, .int a2), (3, .int a3), (4, .int a4)]) hx hb dX6_earned_11 hl (by decide) rfl (fun ls hl => ?_)
  refine lv_iload_n hx hb dX6_earned_13 rfl (lv_at hl 5 rfl) ?_
  refine lv_bipush (v := (50 : Int32)) hx hb dX6_earned_14 (by decide) ?_
  refine lv_icmp_ge (tgt := 26) hx hb dX6_earned_16 (by decide) (fun c1 => ?_) (fun c1 => ?_)
  · have hF := it_p c1 hF
    refine lv_iload hx hb dX6_earned_26 (lv_at hl 1 rfl) ?_
    exact t_X6_earned_28 cx hr ((a1 + a2) / (2 : Int32)) (((a1 + a2) / (2 : Int32)) + (2 : Int32)) ((a1 + a2) / (2 : Int32)) hF _ _ _ hW hS (lv_sub hl [2, 6, 1, 0] rfl)
  · have hF := it_n c1 hF
    refine lv_iload hx hb dX6_earned_19 (lv_at hl 1 rfl) ?_
    refine lv_iconst (v := (4 : Int32)) hx hb dX6_earned_21 (by decide) ?_
    refine lv_iadd hx hb dX6_earned_22 ?_
    refine lv_goto (tgt := 28) hx hb dX6_earned_23 (by decide) ?_
    exact t_X6_earned_28 cx hr ((a1 + a2) / (2 : Int32)) (((a1 + a2) / (2 : Int32)) + (2 : Int32)) (((a1 + a2) / (2 : Int32)) + (4 : Int32)) hF _ _ _ hW hS (lv_sub hl [2, 6, 1, 0] rfl)
def F_X1_ordered (a0 : Int32) (M : Mem) : Option Int32 := ix 9 a0 (fun j1 => some (s_O j1))
set_option maxHeartbeats 4000000 in
set_option maxRecDepth 100000 in
theorem c_X1_ordered {l : Launch} {G : GG} {a0 : Int32}  {M : Mem} {r : Int32} (hF : F_X1_ordered a0 M = some r) : Met l yX1_ordered (wz yX1_ordered cX1_ordered 1 (some .int)) (RM 0 0) (PreC G [.int a0] M) (QcI G r M) 0 0 (g_A G) := by
  rw [F_X1_ordered] at hF
  refine x_start (by decide) (Nat.le_of_ble_eq_true rfl) (lv := [(0, .int a0)]) rfl ?_
  intro p e s m below meth c cx hr hW hS ls hl
  obtain ⟨hx, hb, hml, hown, hts, hKK, hSS, hlk⟩ := id cx
  refine x_gets cx hSS.2.1.1 hS q_gs_X1_7 dX1_ordered_0 ?_
  refine lv_iload_n hx hb dX1_ordered_3 rfl (lv_at hl 0 rfl) ?_
  obtain ⟨j1, hj1, gj1, hF⟩ := ix_e hF
  refine x_sald cx hSS.2.1.2 hS hj1 gj1 dX1_ordered_4 ?_
  exact x_iret cx hr hW hS (Option.some.inj hF) rfl dX1_ordered_5
def F_X1_deranged (a0 : Int32) (M : Mem) : Option Int32 := ix 9 a0 (fun j1 => some (s_R j1))
set_option maxHeartbeats 4000000 in
set_option maxRecDepth 100000 in
theorem c_X1_deranged {l : Launch} {G : GG} {a0 : Int32}  {M : Mem} {r : Int32} (hF : F_X1_deranged a0 M = some r) : Met l yX1_deranged (wz yX1_deranged cX1_deranged 1 (some .int)) (RM 0 0) (PreC G [.int a0] M) (QcI G r M) 0 0 (g_A G) := by
  rw [F_X1_deranged] at hF
  refine x_start (by decide) (Nat.le_of_ble_eq_true rfl) (lv := [(0, .int a0)]) rfl ?_
  intro p e s m below meth c cx hr hW hS ls hl
  obtain ⟨hx, hb, hml, hown, hts, hKK, hSS, hlk⟩ := id cx
  refine x_gets cx hSS.2.2.1.1 hS q_gs_X1_13 dX1_deranged_0 ?_
  refine lv_iload_n hx hb dX1_deranged_3 rfl (lv_at hl 0 rfl) ?_
  obtain ⟨j1, hj1, gj1, hF⟩ := ix_e hF
  refine x_sald cx hSS.2.2.1.2 hS hj1 gj1 dX1_deranged_4 ?_
  exact x_iret cx hr hW hS (Option.some.inj hF) rfl dX1_deranged_5
def F_X1_withOwn (a0 : Int32) (a1 : Int32) (M : Mem) : Option Int32 := (if a1 ≤ a0 then ix 9 a0 (fun j2 => ix 9 a1 (fun j3 => ix 9 (a0 - a1) (fun j4 => dv ((s_O j3) * (s_O j4)) (ix 9 (a0 - a1) (fun j6 => some (((s_O j2) / ((s_O j3) * (s_O j4))) * (s_R j6))))))) else some (0 : Int32))
set_option maxHeartbeats 4000000 in
set_option maxRecDepth 100000 in
theorem c_X1_withOwn {l : Launch} {G : GG} {a0 : Int32} {a1 : Int32}  {M : Mem} {r : Int32} (hF : F_X1_withOwn a0 a1 M = some r) : Met l yX1_withOwn (wz yX1_withOwn cX1_withOwn 3 (some .int)) (RM 0 0) (PreC G [.int a0, .int a1] M) (QcI G r M) 0 0 (g_A G) := by
  rw [F_X1_withOwn] at hF
  refine x_start (by decide) (Nat.le_of_ble_eq_true rfl) (lv := [(0, .int a0), (1, .int a1)]) rfl ?_
  intro p e s m below meth c cx hr hW hS ls hl
  obtain ⟨hx, hb, hml, hown, hts, hKK, hSS, hlk⟩ := id cx
  refine lv_iload_n hx hb dX1_withOwn_0 rfl (lv_at hl 1 rfl) ?_
  refine lv_iload_n hx hb dX1_withOwn_1 rfl (lv_at hl 0 rfl) ?_
  refine lv_icmp_le (tgt := 7) hx hb dX1_withOwn_2 (by decide) (fun c1 => ?_) (fun c1 => ?_)
  · have hF := it_p c1 hF
    refine x_gets cx hSS.2.1.1 hS q_gs_X1_7 dX1_withOwn_7 ?_
    refine lv_iload_n hx hb dX1_withOwn_10 rfl (lv_at hl 0 rfl) ?_
    obtain ⟨j2, hj2, gj2, hF⟩ := ix_e hF
    refine x_sald cx hSS.2.1.2 hS hj2 gj2 dX1_withOwn_11 ?_
    refine x_gets cx hSS.2.1.1 hS q_gs_X1_7 dX1_withOwn_12 ?_
    refine lv_iload_n hx hb dX1_withOwn_15 rfl (lv_at hl 1 rfl) ?_
    obtain ⟨j3, hj3, gj3, hF⟩ := ix_e hF
    refine x_sald cx hSS.2.1.2 hS hj3 gj3 dX1_withOwn_16 ?_
    refine x_gets cx hSS.2.1.1 hS q_gs_X1_7 dX1_withOwn_17 ?_
    refine lv_iload_n hx hb dX1_withOwn_20 rfl (lv_at hl 0 rfl) ?_
    refine lv_iload_n hx hb dX1_withOwn_21 rfl (lv_at hl 1 rfl) ?_
    refine lv_isub hx hb dX1_withOwn_22 ?_
    obtain ⟨j4, hj4, gj4, hF⟩ := ix_e hF
    refine x_sald cx hSS.2.1.2 hS hj4 gj4 dX1_withOwn_23 ?_
    refine lv_imul hx hb dX1_withOwn_24 ?_
    obtain ⟨d5, hF⟩ := dv_e hF
    refine lv_idiv hx hb dX1_withOwn_25 d5 ?_
    refine lv_istore_n (lv' := [(2, .int ((s_O j2) / ((s_O j3) * (s_O j4)))), (0, .int a0), (1, .int a1)]) hx hb dX1_withOwn_26 rfl hl (by decide) rfl (fun ls hl => ?_)
    refine lv_iload_n hx hb dX1_withOwn_27 rfl (lv_at hl 0 rfl) ?_
    refine x_gets cx hSS.2.2.1.1 hS q_gs_X1_13 dX1_withOwn_28 ?_
    refine lv_iload_n hx hb dX1_withOwn_31 rfl (lv_at hl 1 rfl) ?_
    refine lv_iload_n hx hb dX1_withOwn_32 rfl (lv_at hl 2 rfl) ?_
    refine lv_isub hx hb dX1_withOwn_33 ?_
    obtain ⟨j6, hj6, gj6, hF⟩ := ix_e hF
    refine x_sald cx hSS.2.2.1.2 hS hj6 gj6 dX1_withOwn_34 ?_
    refine lv_imul hx hb dX1_withOwn_35 ?_
    exact x_iret cx hr hW hS (Option.some.inj hF) rfl dX1_withOwn_36
  · have hF := it_n c1 hF
    refine lv_iconst (v := (0 : Int32)) hx hb dX1_withOwn_5 (by decide) ?_
    exact x_iret cx hr hW hS (Option.some.inj hF) rfl dX1_withOwn_6
def F_X1_commonDivisor_7 (a0 : Int32) (a1 : Int32) (M : Mem) : Nat → Int32 → Int32 → Int32 → Option Int32
  | 0, _, _, _ => none
  | n + 1, x2, x3, x4 => (if (64 : Int32) ≤ x4 then some (if (1 : Int32) < x2 then x2 else (1 : Int32)) else (if x3 = 0 then some (if (1 : Int32) < x2 then x2 else (1 : Int32)) else dv x3 (F_X1_commonDivisor_7 a0 a1 M n x3 (x2 - x2 / x3 * x3) (x4 + 1))))
set_option maxHeartbeats 4000000 in
set_option maxRecDepth 100000 in
theorem t_X1_commonDivisor_7 {p : Program} {l : Launch} {e : Env} {s : State} {m : MethodId} {args : Array Value} {below : List Frame} {meth : Method} {c : Code} {G : GG} {a0 : Int32} {a1 : Int32} (cx : Cx G cX1_commonDivisor RX1 6 p s m args meth c) (hr : meth.sig.returnType = (some .int))   {M : Mem} {r : Int32} : ∀ (n : Nat) (x2 : Int32) (x3 : Int32) (x4 : Int32), F_X1_commonDivisor_7 a0 a1 M n x2 x3 x4 = some r → ∀ (H : Heap) (locs : List Loc) (ls : Array Slot), WH G M H → va_S (g_A G) s.heap H locs → lv_has ls 6 [(2, .int x2), (3, .int x3), (4, .int x4)] → W p l e (RM 1 21) s m args below meth c H locs 0 0 (MQ below (QcI G r M) args s 0 0 (g_A G)) (F0 m 7 ls []) := by
  obtain ⟨hx, hb, hml, hown, hts, hKK, hSS, hlk⟩ := id cx
  intro n
  induction n with
  | zero =>
    intro x2 x3 x4 hF H locs ls hW hS hl
    rw [F_X1_commonDivisor_7] at hF
    cases hF
  | succ n ih =>
    intro x2 x3 x4 hF H locs ls hW hS hl
    rw [F_X1_commonDivisor_7] at hF
    refine lv_iload hx hb dX1_commonDivisor_7 (lv_at hl 2 rfl) ?_
    refine lv_bipush (v := (64 : Int32)) hx hb dX1_commonDivisor_9 (by decide) ?_
    refine lv_icmp_ge (tgt := 34) hx hb dX1_commonDivisor_11 (by decide) (fun c1 => ?_) (fun c1 => ?_)
    · have hF := it_p c1 hF
      refine lv_iconst (v := (1 : Int32)) hx hb dX1_commonDivisor_34 (by decide) ?_
      refine lv_iload_n hx hb dX1_commonDivisor_35 rfl (lv_at hl 0 rfl) ?_
      refine x_max cx cm_X1_16 hl.1 (Nat.le_of_ble_eq_true rfl) (Nat.le_of_ble_eq_true rfl) dX1_commonDivisor_36 ?_
      exact x_iret cx hr hW hS (Option.some.inj hF) rfl dX1_commonDivisor_39
    · have hF := it_n c1 hF
      refine lv_iload_n hx hb dX1_commonDivisor_14 rfl (lv_at hl 1 rfl) ?_
      refine lv_if_eq (tgt := 34) hx hb dX1_commonDivisor_15 (by decide) (fun c2 => ?_) (fun c2 => ?_)
      · have hF := it_p c2 hF
        refine lv_iconst (v := (1 : Int32)) hx hb dX1_commonDivisor_34 (by decide) ?_
        refine lv_iload_n hx hb dX1_commonDivisor_35 rfl (lv_at hl 0 rfl) ?_
        refine x_max cx cm_X1_16 hl.1 (Nat.le_of_ble_eq_true rfl) (Nat.le_of_ble_eq_true rfl) dX1_commonDivisor_36 ?_
        exact x_iret cx hr hW hS (Option.some.inj hF) rfl dX1_commonDivisor_39
      · have hF := it_n c2 hF
        refine lv_iload_n hx hb dX1_commonDivisor_18 rfl (lv_at hl 0 rfl) ?_
        refine lv_iload_n hx hb dX1_commonDivisor_19 rfl (lv_at hl 1 rfl) ?_
        obtain ⟨d3, hF⟩ := dv_e hF
        refine lv_irem hx hb dX1_commonDivisor_20 d3 ?_
        refine lv_istore (lv' := [(5, .int (x2 - x2 / x3 * x3)), (2, .int x2), (3, .int x3), (4, .int x4)]) hx hb dX1_commonDivisor_21 hl (by decide) rfl (fun ls hl => ?_)
        refine lv_iload_n hx hb dX1_commonDivisor_23 rfl (lv_at hl 2 rfl) ?_
        refine lv_istore_n (lv' := [(2, .int x3), (5, .int (x2 - x2 / x3 * x3)), (3, .int x3), (4, .int x4)]) hx hb dX1_commonDivisor_24 rfl hl (by decide) rfl (fun ls hl => ?_)
        refine lv_iload hx hb dX1_commonDivisor_25 (lv_at hl 1 rfl) ?_
        refine lv_istore_n (lv' := [(3, .int (x2 - x2 / x3 * x3)), (2, .int x3), (5, .int (x2 - x2 / x3 * x3)), (4, .int x4)]) hx hb dX1_commonDivisor_27 rfl hl (by decide) rfl (fun ls hl => ?_)
        refine lv_iinc (v := (x4 + 1)) (lv' := [(4, .int (x4 + 1)), (3, .int (x2 - x2 / x3 * x3)), (2, .int x3), (5, .int (x2 - x2 / x3 * x3))]) hx hb dX1_commonDivisor_28 hl (k := 3) rfl rfl (by decide) rfl (fun ls hl => ?_)
        refine lv_goto (tgt := 7) hx hb dX1_commonDivisor_31 (by decide) ?_
        exact ih x3 (x2 - x2 / x3 * x3) (x4 + 1) hF _ _ _ hW hS (lv_sub hl [2, 1, 0] rfl)
def F_X1_commonDivisor (a0 : Int32) (a1 : Int32) (M : Mem) : Option Int32 := F_X1_commonDivisor_7 a0 a1 M FU a0 a1 (0 : Int32)
set_option maxHeartbeats 4000000 in
set_option maxRecDepth 100000 in
theorem c_X1_commonDivisor {l : Launch} {G : GG} {a0 : Int32} {a1 : Int32}  {M : Mem} {r : Int32} (hF : F_X1_commonDivisor a0 a1 M = some r) : Met l yX1_commonDivisor (wz yX1_commonDivisor cX1_commonDivisor 6 (some .int)) (RM 1 21) (PreC G [.int a0, .int a1] M) (QcI G r M) 0 0 (g_A G) := by
  rw [F_X1_commonDivisor] at hF
  refine x_start (by decide) (Nat.le_of_ble_eq_true rfl) (lv := [(0, .int a0), (1, .int a1)]) rfl ?_
  intro p e s m below meth c cx hr hW hS ls hl
  obtain ⟨hx, hb, hml, hown, hts, hKK, hSS, hlk⟩ := id cx
  refine lv_iload_n hx hb dX1_commonDivisor_0 rfl (lv_at hl 0 rfl) ?_
  refine lv_istore_n (lv' := [(2, .int a0), (0, .int a0), (1, .int a1)]) hx hb dX1_commonDivisor_1 rfl hl (by decide) rfl (fun ls hl => ?_)
  refine lv_iload_n hx hb dX1_commonDivisor_2 rfl (lv_at hl 2 rfl) ?_
  refine lv_istore_n (lv' := [(3, .int a1), (2, .int a0), (0, .int a0), (1, .int a1)]) hx hb dX1_commonDivisor_3 rfl hl (by decide) rfl (fun ls hl => ?_)
  refine lv_iconst (v := (0 : Int32)) hx hb dX1_commonDivisor_4 (by decide) ?_
  refine lv_istore (lv' := [(4, .int (0 : Int32)), (3, .int a1), (2, .int a0), (0, .int a0), (1, .int a1)]) hx hb dX1_commonDivisor_5 hl (by decide) rfl (fun ls hl => ?_)
  exact t_X1_commonDivisor_7 cx hr FU a0 a1 (0 : Int32) hF _ _ _ hW hS (lv_sub hl [2, 1, 0] rfl)
def F_X2_isMissing (a0 : Nat) (M : Mem) : Option Int32 := (if (m_I M a0 1) = 0 then some (1 : Int32) else some (0 : Int32))
set_option maxHeartbeats 4000000 in
set_option maxRecDepth 100000 in
theorem c_X2_isMissing {l : Launch} {G : GG} {a0 : Nat} (h0 : kd a0 = 1) {M : Mem} {r : Int32} (hF : F_X2_isMissing a0 M = some r) : Met l yX2_isMissing (wz yX2_isMissing cX2_isMissing 1 (some .boolean)) (RM 0 0) (PreC G [.ref (g_ad G a0)] M) (QcI G r M) 0 0 (g_A G) := by
  rw [F_X2_isMissing] at hF
  refine x_start (by decide) (Nat.le_of_ble_eq_true rfl) (lv := [(0, .ref (g_ad G a0))]) rfl ?_
  intro p e s m below meth c cx hr hW hS ls hl
  obtain ⟨hx, hb, hml, hown, hts, hKK, hSS, hlk⟩ := id cx
  refine lv_aload_n hx hb dX2_isMissing_0 rfl (lv_at hl 0 rfl) ?_
  refine x_get cx hW h0 fk_X2_15 (v := .int (m_I M a0 1)) rfl dX2_isMissing_1 ?_
  refine lv_if_ne (tgt := 11) hx hb dX2_isMissing_4 (by decide) (fun c1 => ?_) (fun c1 => ?_)
  · have hF := it_n c1 hF
    refine lv_iconst (v := (0 : Int32)) hx hb dX2_isMissing_11 (by decide) ?_
    exact x_zret cx hr (by decide) hW hS (Option.some.inj hF) rfl dX2_isMissing_12
  · have hF := it_p c1 hF
    refine lv_iconst (v := (1 : Int32)) hx hb dX2_isMissing_7 (by decide) ?_
    refine lv_goto (tgt := 12) hx hb dX2_isMissing_8 (by decide) ?_
    exact x_zret cx hr (by decide) hW hS (Option.some.inj hF) rfl dX2_isMissing_12
def F_X2_begin (a0 : Nat) (a1 : Int32) (a2 : Int32) (M : Mem) : Option (Int32 × Mem) := pin (w_I M a0 1 a1) (fun M1 => (if a1 = 0 then pin (w_I M1 a0 2 (0 : Int32)) (fun M6 => (F_J7_fill_d0a16 (a0 + 1) (0 : Int64) M6).bind (fun M8 => some ((m_I M8 a0 2), M8))) else pin (w_I M1 a0 2 a2) (fun M3 => (F_J7_fill_d0a16 (a0 + 1) (0 : Int64) M3).bind (fun M5 => some ((m_I M5 a0 2), M5)))))
set_option maxHeartbeats 4000000 in
set_option maxRecDepth 100000 in
theorem c_X2_begin {l : Launch} {G : GG} {a0 : Nat} {a1 : Int32} {a2 : Int32} (h0 : kd a0 = 1) {M : Mem} {r : Int32} {M1 : Mem} (hF : F_X2_begin a0 a1 a2 M = some (r, M1)) : Met l yX2_begin (wz yX2_begin cX2_begin 3 (some .int)) (RM 1 24) (PreC G [.ref (g_ad G a0), .int a1, .int a2] M) (QcI G r M1) 0 0 (g_A G) := by
  rw [F_X2_begin] at hF
  refine x_start (by decide) (Nat.le_of_ble_eq_true rfl) (lv := [(0, .ref (g_ad G a0)), (1, .int a1), (2, .int a2)]) rfl ?_
  intro p e s m below meth c cx hr hW hS ls hl
  obtain ⟨hx, hb, hml, hown, hts, hKK, hSS, hlk⟩ := id cx
  refine lv_aload_n hx hb dX2_begin_0 rfl (lv_at hl 0 rfl) ?_
  refine lv_iload_n hx hb dX2_begin_1 rfl (lv_at hl 1 rfl) ?_
  obtain ⟨M1, eM1, hF⟩ := pin_e hF
  refine x_puti cx hW hS h0 fk_X2_15 ft_1_1 (Nat.le_of_ble_eq_true rfl) fs_1_1 eM1 dX2_begin_2 (fun H locs hW hS => ?_)
  refine lv_aload_n hx hb dX2_begin_5 rfl (lv_at hl 0 rfl) ?_
  refine lv_iload_n hx hb dX2_begin_6 rfl (lv_at hl 1 rfl) ?_
  refine lv_if_ne (tgt := 14) hx hb dX2_begin_7 (by decide) (fun c2 => ?_) (fun c2 => ?_)
  · have hF := it_n c2 hF
    refine lv_iload_n hx hb dX2_begin_14 rfl (lv_at hl 2 rfl) ?_
    obtain ⟨M3, eM3, hF⟩ := pin_e hF
    refine x_puti cx hW hS h0 fk_X2_19 ft_1_2 (Nat.le_of_ble_eq_true rfl) fs_1_2 eM3 dX2_begin_15 (fun H locs hW hS => ?_)
    refine lv_aload_n hx hb dX2_begin_18 rfl (lv_at hl 0 rfl) ?_
    refine x_get cx hW h0 fk_X2_9 (v := .ref (g_ad G (a0 + 1))) rfl dX2_begin_19 ?_
    refine lv_lconst (v := (0 : Int64)) hx hb dX2_begin_22 (by decide) ?_
    obtain ⟨M5, hc4, hF⟩ := bi_e hF
    refine x_gov (x_runS cx hW hS (c_J7_fill_d0a16 (l := l) (G := G) (kd_s h0) hc4) cs_X2_22 (rest := []) ⟨Nat.le_of_ble_eq_true rfl, Nat.le_of_ble_eq_true rfl⟩ hl.1 rfl rfl (Nat.le_of_ble_eq_true rfl) ⟨Nat.zero_le _, Nat.zero_le _⟩ dX2_begin_23) hS (fun H locs hW hS => ?_)
    refine lv_aload_n hx hb dX2_begin_26 rfl (lv_at hl 0 rfl) ?_
    refine x_get cx hW h0 fk_X2_19 (v := .int (m_I M5 a0 2)) rfl dX2_begin_27 ?_
    exact x_iret cx hr hW hS (congrArg Prod.fst (Option.some.inj hF)) (congrArg Prod.snd (Option.some.inj hF)) dX2_begin_30
  · have hF := it_p c2 hF
    refine lv_iconst (v := (0 : Int32)) hx hb dX2_begin_10 (by decide) ?_
    refine lv_goto (tgt := 15) hx hb dX2_begin_11 (by decide) ?_
    obtain ⟨M6, eM6, hF⟩ := pin_e hF
    refine x_puti cx hW hS h0 fk_X2_19 ft_1_2 (Nat.le_of_ble_eq_true rfl) fs_1_2 eM6 dX2_begin_15 (fun H locs hW hS => ?_)
    refine lv_aload_n hx hb dX2_begin_18 rfl (lv_at hl 0 rfl) ?_
    refine x_get cx hW h0 fk_X2_9 (v := .ref (g_ad G (a0 + 1))) rfl dX2_begin_19 ?_
    refine lv_lconst (v := (0 : Int64)) hx hb dX2_begin_22 (by decide) ?_
    obtain ⟨M8, hc7, hF⟩ := bi_e hF
    refine x_gov (x_runS cx hW hS (c_J7_fill_d0a16 (l := l) (G := G) (kd_s h0) hc7) cs_X2_22 (rest := []) ⟨Nat.le_of_ble_eq_true rfl, Nat.le_of_ble_eq_true rfl⟩ hl.1 rfl rfl (Nat.le_of_ble_eq_true rfl) ⟨Nat.zero_le _, Nat.zero_le _⟩ dX2_begin_23) hS (fun H locs hW hS => ?_)
    refine lv_aload_n hx hb dX2_begin_26 rfl (lv_at hl 0 rfl) ?_
    refine x_get cx hW h0 fk_X2_19 (v := .int (m_I M8 a0 2)) rfl dX2_begin_27 ?_
    exact x_iret cx hr hW hS (congrArg Prod.fst (Option.some.inj hF)) (congrArg Prod.snd (Option.some.inj hF)) dX2_begin_30
def F_X2_put (a0 : Nat) (a1 : Int32) (a2 : Int64) (M : Mem) : Option Mem := (if (m_I M a0 1) = (8 : Int32) then ix 40 a1 (fun j2 => pin (w_J M (a0 + 1) j2 (((a2.toInt32).toInt8.toInt32).toInt64)) (fun M3 => some M3)) else (if (m_I M a0 1) = (16 : Int32) then ix 40 a1 (fun j5 => pin (w_J M (a0 + 1) j5 (((a2.toInt32).toInt16.toInt32).toInt64)) (fun M6 => some M6)) else ix 40 a1 (fun j7 => pin (w_J M (a0 + 1) j7 a2) (fun M8 => some M8))))
set_option maxHeartbeats 4000000 in
set_option maxRecDepth 100000 in
theorem c_X2_put {l : Launch} {G : GG} {a0 : Nat} {a1 : Int32} {a2 : Int64} (h0 : kd a0 = 1) {M : Mem} {M1 : Mem} (hF : F_X2_put a0 a1 a2 M = some M1) : Met l yX2_put (wz yX2_put cX2_put 4 none) (RM 0 0) (PreC G [.ref (g_ad G a0), .int a1, .long a2] M) (QcV G M1) 0 0 (g_A G) := by
  rw [F_X2_put] at hF
  refine x_start (by decide) (Nat.le_of_ble_eq_true rfl) (lv := [(0, .ref (g_ad G a0)), (1, .int a1), (2, .long a2)]) rfl ?_
  intro p e s m below meth c cx hr hW hS ls hl
  obtain ⟨hx, hb, hml, hown, hts, hKK, hSS, hlk⟩ := id cx
  refine lv_aload_n hx hb dX2_put_0 rfl (lv_at hl 0 rfl) ?_
  refine x_get cx hW h0 fk_X2_15 (v := .int (m_I M a0 1)) rfl dX2_put_1 ?_
  refine x_sw (8 : Int32) (fun c1 => ?_) (fun c1 => ?_)
  · have hF := it_p c1 hF
    refine x_lkp (tgt := 32) (off := 28) cx dX2_put_4 (by decide) c1 (by decide) (by decide) ?_
    refine lv_aload_n hx hb dX2_put_32 rfl (lv_at hl 0 rfl) ?_
    refine x_get cx hW h0 fk_X2_9 (v := .ref (g_ad G (a0 + 1))) rfl dX2_put_33 ?_
    refine lv_iload_n hx hb dX2_put_36 rfl (lv_at hl 1 rfl) ?_
    refine lv_lload_n hx hb dX2_put_37 rfl (lv_at hl 2 rfl) ?_
    refine lv_l2i hx hb dX2_put_38 rfl ?_
    refine lv_i2b hx hb dX2_put_39 rfl ?_
    refine lv_i2l hx hb dX2_put_40 rfl ?_
    obtain ⟨j2, hj2, gj2, hF⟩ := ix_e hF
    obtain ⟨M3, eM3, hF⟩ := pin_e hF
    refine x_last cx hW hS (kd_s h0) (by decide) hj2 gj2 eM3 dX2_put_41 (fun H locs hW hS => ?_)
    refine lv_goto (tgt := 65) hx hb dX2_put_42 (by decide) ?_
    exact x_vret cx hr hW hS (Option.some.inj hF) dX2_put_65
  · have hF := it_n c1 hF
    refine x_sw (16 : Int32) (fun c4 => ?_) (fun c4 => ?_)
    · have hF := it_p c4 hF
      refine x_lkp (tgt := 45) (off := 41) cx dX2_put_4 (by decide) c4 (by decide) (by decide) ?_
      refine lv_aload_n hx hb dX2_put_45 rfl (lv_at hl 0 rfl) ?_
      refine x_get cx hW h0 fk_X2_9 (v := .ref (g_ad G (a0 + 1))) rfl dX2_put_46 ?_
      refine lv_iload_n hx hb dX2_put_49 rfl (lv_at hl 1 rfl) ?_
      refine lv_lload_n hx hb dX2_put_50 rfl (lv_at hl 2 rfl) ?_
      refine lv_l2i hx hb dX2_put_51 rfl ?_
      refine lv_i2s hx hb dX2_put_52 rfl ?_
      refine lv_i2l hx hb dX2_put_53 rfl ?_
      obtain ⟨j5, hj5, gj5, hF⟩ := ix_e hF
      obtain ⟨M6, eM6, hF⟩ := pin_e hF
      refine x_last cx hW hS (kd_s h0) (by decide) hj5 gj5 eM6 dX2_put_54 (fun H locs hW hS => ?_)
      refine lv_goto (tgt := 65) hx hb dX2_put_55 (by decide) ?_
      exact x_vret cx hr hW hS (Option.some.inj hF) dX2_put_65
    · have hF := it_n c4 hF
      refine lv_lookup (tgt := 58) (off := 54) hx hb dX2_put_4 (by decide) ((lv_osw (k := 8) c1 (by decide)).trans ((lv_osw (k := 16) c4 (by decide)).trans rfl)) (by decide) ?_
      refine lv_aload_n hx hb dX2_put_58 rfl (lv_at hl 0 rfl) ?_
      refine x_get cx hW h0 fk_X2_9 (v := .ref (g_ad G (a0 + 1))) rfl dX2_put_59 ?_
      refine lv_iload_n hx hb dX2_put_62 rfl (lv_at hl 1 rfl) ?_
      refine lv_lload_n hx hb dX2_put_63 rfl (lv_at hl 2 rfl) ?_
      obtain ⟨j7, hj7, gj7, hF⟩ := ix_e hF
      obtain ⟨M8, eM8, hF⟩ := pin_e hF
      refine x_last cx hW hS (kd_s h0) (by decide) hj7 gj7 eM8 dX2_put_64 (fun H locs hW hS => ?_)
      exact x_vret cx hr hW hS (Option.some.inj hF) dX2_put_65
def F_X2_hasRun (a0 : Nat) (a1 : Int32) (a2 : Int32) (M : Mem) : Option Int32 := (if a1 < 0 then some (0 : Int32) else (if a2 < 0 then some (0 : Int32) else (if (m_I M a0 2) < a1 then some (0 : Int32) else (if ((m_I M a0 2) - a1) < a2 then some (0 : Int32) else some (1 : Int32)))))
set_option maxHeartbeats 4000000 in
set_option maxRecDepth 100000 in
theorem c_X2_hasRun {l : Launch} {G : GG} {a0 : Nat} {a1 : Int32} {a2 : Int32} (h0 : kd a0 = 1) {M : Mem} {r : Int32} (hF : F_X2_hasRun a0 a1 a2 M = some r) : Met l yX2_hasRun (wz yX2_hasRun cX2_hasRun 3 (some .boolean)) (RM 0 0) (PreC G [.ref (g_ad G a0), .int a1, .int a2] M) (QcI G r M) 0 0 (g_A G) := by
  rw [F_X2_hasRun] at hF
  refine x_start (by decide) (Nat.le_of_ble_eq_true rfl) (lv := [(0, .ref (g_ad G a0)), (1, .int a1), (2, .int a2)]) rfl ?_
  intro p e s m below meth c cx hr hW hS ls hl
  obtain ⟨hx, hb, hml, hown, hts, hKK, hSS, hlk⟩ := id cx
  refine lv_iload_n hx hb dX2_hasRun_0 rfl (lv_at hl 1 rfl) ?_
  refine lv_if_lt (tgt := 30) hx hb dX2_hasRun_1 (by decide) (fun c1 => ?_) (fun c1 => ?_)
  · have hF := it_p c1 hF
    refine lv_iconst (v := (0 : Int32)) hx hb dX2_hasRun_30 (by decide) ?_
    exact x_zret cx hr (by decide) hW hS (Option.some.inj hF) rfl dX2_hasRun_31
  · have hF := it_n c1 hF
    refine lv_iload_n hx hb dX2_hasRun_4 rfl (lv_at hl 2 rfl) ?_
    refine lv_if_lt (tgt := 30) hx hb dX2_hasRun_5 (by decide) (fun c2 => ?_) (fun c2 => ?_)
    · have hF := it_p c2 hF
      refine lv_iconst (v := (0 : Int32)) hx hb dX2_hasRun_30 (by decide) ?_
      exact x_zret cx hr (by decide) hW hS (Option.some.inj hF) rfl dX2_hasRun_31
    · have hF := it_n c2 hF
      refine lv_iload_n hx hb dX2_hasRun_8 rfl (lv_at hl 1 rfl) ?_
      refine lv_aload_n hx hb dX2_hasRun_9 rfl (lv_at hl 0 rfl) ?_
      refine x_get cx hW h0 fk_X2_19 (v := .int (m_I M a0 2)) rfl dX2_hasRun_10 ?_
      refine lv_icmp_gt (tgt := 30) hx hb dX2_hasRun_13 (by decide) (fun c3 => ?_) (fun c3 => ?_)
      · have hF := it_p c3 hF
        refine lv_iconst (v := (0 : Int32)) hx hb dX2_hasRun_30 (by decide) ?_
        exact x_zret cx hr (by decide) hW hS (Option.some.inj hF) rfl dX2_hasRun_31
      · have hF := it_n c3 hF
        refine lv_iload_n hx hb dX2_hasRun_16 rfl (lv_at hl 2 rfl) ?_
        refine lv_aload_n hx hb dX2_hasRun_17 rfl (lv_at hl 0 rfl) ?_
        refine x_get cx hW h0 fk_X2_19 (v := .int (m_I M a0 2)) rfl dX2_hasRun_18 ?_
        refine lv_iload_n hx hb dX2_hasRun_21 rfl (lv_at hl 1 rfl) ?_
        refine lv_isub hx hb dX2_hasRun_22 ?_
        refine lv_icmp_gt (tgt := 30) hx hb dX2_hasRun_23 (by decide) (fun c4 => ?_) (fun c4 => ?_)
        · have hF := it_p c4 hF
          refine lv_iconst (v := (0 : Int32)) hx hb dX2_hasRun_30 (by decide) ?_
          exact x_zret cx hr (by decide) hW hS (Option.some.inj hF) rfl dX2_hasRun_31
        · have hF := it_n c4 hF
          refine lv_iconst (v := (1 : Int32)) hx hb dX2_hasRun_26 (by decide) ?_
          refine lv_goto (tgt := 31) hx hb dX2_hasRun_27 (by decide) ?_
          exact x_zret cx hr (by decide) hW hS (Option.some.inj hF) rfl dX2_hasRun_31
def F_X3_add (a1 : Int32) (M : Mem) : Option Mem := ix 120 (m_I M 37 1) (fun j1 => pin (w_I M 38 j1 a1) (fun M2 => pin (w_I M2 37 1 ((m_I M2 37 1) + (1 : Int32))) (fun M3 => some M3)))
set_option maxHeartbeats 4000000 in
set_option maxRecDepth 100000 in
theorem c_X3_add {l : Launch} {G : GG} {a1 : Int32}  {M : Mem} {M1 : Mem} (hF : F_X3_add a1 M = some M1) : Met l yX3_add (wz yX3_add cX3_add 2 none) (RM 0 0) (PreC G [.ref (g_ad G 37), .int a1] M) (QcV G M1) 0 0 (g_A G) := by
  rw [F_X3_add] at hF
  refine x_start (by decide) (Nat.le_of_ble_eq_true rfl) (lv := [(0, .ref (g_ad G 37)), (1, .int a1)]) rfl ?_
  intro p e s m below meth c cx hr hW hS ls hl
  obtain ⟨hx, hb, hml, hown, hts, hKK, hSS, hlk⟩ := id cx
  refine lv_aload_n hx hb dX3_add_0 rfl (lv_at hl 0 rfl) ?_
  refine x_get cx hW kc_37 fk_X3_9 (v := .ref (g_ad G 38)) rfl dX3_add_1 ?_
  refine lv_aload_n hx hb dX3_add_4 rfl (lv_at hl 0 rfl) ?_
  refine x_get cx hW kc_37 fk_X3_15 (v := .int (m_I M 37 1)) rfl dX3_add_5 ?_
  refine lv_iload_n hx hb dX3_add_8 rfl (lv_at hl 1 rfl) ?_
  obtain ⟨j1, hj1, gj1, hF⟩ := ix_e hF
  obtain ⟨M2, eM2, hF⟩ := pin_e hF
  refine x_iast cx hW hS kc_38 (by decide) hj1 gj1 eM2 dX3_add_9 (fun H locs hW hS => ?_)
  refine lv_aload_n hx hb dX3_add_10 rfl (lv_at hl 0 rfl) ?_
  refine lv_dup hx hb dX3_add_11 rfl ?_
  refine x_get cx hW kc_37 fk_X3_15 (v := .int (m_I M2 37 1)) rfl dX3_add_12 ?_
  refine lv_iconst (v := (1 : Int32)) hx hb dX3_add_15 (by decide) ?_
  refine lv_iadd hx hb dX3_add_16 ?_
  obtain ⟨M3, eM3, hF⟩ := pin_e hF
  refine x_puti cx hW hS kc_37 fk_X3_15 ft_2_1 (Nat.le_of_ble_eq_true rfl) fs_2_1 eM3 dX3_add_17 (fun H locs hW hS => ?_)
  exact x_vret cx hr hW hS (Option.some.inj hF) dX3_add_20
def F_X3_at (a1 : Int32) (M : Mem) : Option Int32 := (if a1 < 0 then some (-1 : Int32) else (if (m_I M 37 1) ≤ a1 then some (-1 : Int32) else ix 120 a1 (fun j3 => some (m_I M 38 j3))))
set_option maxHeartbeats 4000000 in
set_option maxRecDepth 100000 in
theorem c_X3_at {l : Launch} {G : GG} {a1 : Int32}  {M : Mem} {r : Int32} (hF : F_X3_at a1 M = some r) : Met l yX3_at (wz yX3_at cX3_at 2 (some .int)) (RM 0 0) (PreC G [.ref (g_ad G 37), .int a1] M) (QcI G r M) 0 0 (g_A G) := by
  rw [F_X3_at] at hF
  refine x_start (by decide) (Nat.le_of_ble_eq_true rfl) (lv := [(0, .ref (g_ad G 37)), (1, .int a1)]) rfl ?_
  intro p e s m below meth c cx hr hW hS ls hl
  obtain ⟨hx, hb, hml, hown, hts, hKK, hSS, hlk⟩ := id cx
  refine lv_iload_n hx hb dX3_at_0 rfl (lv_at hl 1 rfl) ?_
  refine lv_if_lt (tgt := 21) hx hb dX3_at_1 (by decide) (fun c1 => ?_) (fun c1 => ?_)
  · have hF := it_p c1 hF
    refine lv_iconst (v := (-1 : Int32)) hx hb dX3_at_21 (by decide) ?_
    exact x_iret cx hr hW hS (Option.some.inj hF) rfl dX3_at_22
  · have hF := it_n c1 hF
    refine lv_iload_n hx hb dX3_at_4 rfl (lv_at hl 1 rfl) ?_
    refine lv_aload_n hx hb dX3_at_5 rfl (lv_at hl 0 rfl) ?_
    refine x_get cx hW kc_37 fk_X3_15 (v := .int (m_I M 37 1)) rfl dX3_at_6 ?_
    refine lv_icmp_ge (tgt := 21) hx hb dX3_at_9 (by decide) (fun c2 => ?_) (fun c2 => ?_)
    · have hF := it_p c2 hF
      refine lv_iconst (v := (-1 : Int32)) hx hb dX3_at_21 (by decide) ?_
      exact x_iret cx hr hW hS (Option.some.inj hF) rfl dX3_at_22
    · have hF := it_n c2 hF
      refine lv_aload_n hx hb dX3_at_12 rfl (lv_at hl 0 rfl) ?_
      refine x_get cx hW kc_37 fk_X3_9 (v := .ref (g_ad G 38)) rfl dX3_at_13 ?_
      refine lv_iload_n hx hb dX3_at_16 rfl (lv_at hl 1 rfl) ?_
      obtain ⟨j3, hj3, gj3, hF⟩ := ix_e hF
      refine x_iald cx hW kc_38 (by decide) hj3 gj3 dX3_at_17 ?_
      refine lv_goto (tgt := 22) hx hb dX3_at_18 (by decide) ?_
      exact x_iret cx hr hW hS (Option.some.inj hF) rfl dX3_at_22
def F_X6_said_10 (a0 : Int32) (a1 : Int32) (a2 : Int32) (M : Mem) (t0 : Int32) : Option Int32 := (if a0 = (2 : Int32) then some (3 : Int32) else (if a0 = (3 : Int32) then some (0 : Int32) else (if a0 = (4 : Int32) then some (t0 + (1 : Int32)) else (if a0 = (5 : Int32) then some (-2 : Int32) else some t0))))
set_option maxHeartbeats 4000000 in
set_option maxRecDepth 100000 in
theorem t_X6_said_10 {p : Program} {l : Launch} {e : Env} {s : State} {m : MethodId} {args : Array Value} {below : List Frame} {meth : Method} {c : Code} {G : GG} {a0 : Int32} {a1 : Int32} {a2 : Int32} (cx : Cx G cX6_said RX6 4 p s m args meth c) (hr : meth.sig.returnType = (some .int))   {M : Mem} {r : Int32} : ∀ (t0 : Int32), F_X6_said_10 a0 a1 a2 M t0 = some r → ∀ (H : Heap) (locs : List Loc) (ls : Array Slot), WH G M H → va_S (g_A G) s.heap H locs → lv_has ls 4 [(0, .int a0)] → W p l e (RM 0 0) s m args below meth c H locs 0 0 (MQ below (QcI G r M) args s 0 0 (g_A G)) (F0 m 10 ls [.int t0]) := by
  obtain ⟨hx, hb, hml, hown, hts, hKK, hSS, hlk⟩ := id cx
  intro t0 hF H locs ls hW hS hl
  rw [F_X6_said_10] at hF
  refine lv_istore_n (lv' := [(3, .int t0), (0, .int a0)]) hx hb dX6_said_10 rfl hl (by decide) rfl (fun ls hl => ?_)
  refine lv_iload_n hx hb dX6_said_11 rfl (lv_at hl 1 rfl) ?_
  refine x_sw (2 : Int32) (fun c2 => ?_) (fun c2 => ?_)
  · have hF := it_p c2 hF
    refine x_tab (tgt := 44) cx dX6_said_12 c2 (by decide) (by decide) rfl (by decide) ?_
    refine lv_iconst (v := (3 : Int32)) hx hb dX6_said_44 (by decide) ?_
    exact x_iret cx hr hW hS (Option.some.inj hF) rfl dX6_said_45
  · have hF := it_n c2 hF
    refine x_sw (3 : Int32) (fun c3 => ?_) (fun c3 => ?_)
    · have hF := it_p c3 hF
      refine x_tab (tgt := 46) cx dX6_said_12 c3 (by decide) (by decide) rfl (by decide) ?_
      refine lv_iconst (v := (0 : Int32)) hx hb dX6_said_46 (by decide) ?_
      exact x_iret cx hr hW hS (Option.some.inj hF) rfl dX6_said_47
    · have hF := it_n c3 hF
      refine x_sw (4 : Int32) (fun c4 => ?_) (fun c4 => ?_)
      · have hF := it_p c4 hF
        refine x_tab (tgt := 48) cx dX6_said_12 c4 (by decide) (by decide) rfl (by decide) ?_
        refine lv_iload_n hx hb dX6_said_48 rfl (lv_at hl 0 rfl) ?_
        refine lv_iconst (v := (1 : Int32)) hx hb dX6_said_49 (by decide) ?_
        refine lv_iadd hx hb dX6_said_50 ?_
        exact x_iret cx hr hW hS (Option.some.inj hF) rfl dX6_said_51
      · have hF := it_n c4 hF
        refine x_sw (5 : Int32) (fun c5 => ?_) (fun c5 => ?_)
        · have hF := it_p c5 hF
          refine x_tab (tgt := 52) cx dX6_said_12 c5 (by decide) (by decide) rfl (by decide) ?_
          refine lv_bipush (v := (-2 : Int32)) hx hb dX6_said_52 (by decide) ?_
          exact x_iret cx hr hW hS (Option.some.inj hF) rfl dX6_said_54
        · have hF := it_n c5 hF
          refine lv_tableOut (tgt := 55) hx hb dX6_said_12 (by have z0 := lv_neT c2 (a := 2) (by decide); have z1 := lv_neT c3 (a := 3) (by decide); have z2 := lv_neT c4 (a := 4) (by decide); have z3 := lv_neT c5 (a := 5) (by decide); omega) (by decide) ?_
          refine lv_iload_n hx hb dX6_said_55 rfl (lv_at hl 0 rfl) ?_
          exact x_iret cx hr hW hS (Option.some.inj hF) rfl dX6_said_56
def F_X6_said (a0 : Int32) (a1 : Int32) (a2 : Int32) (M : Mem) : Option Int32 := (if a1 < a2 then F_X6_said_10 a0 a1 a2 M (-1 : Int32) else F_X6_said_10 a0 a1 a2 M (1 : Int32))
set_option maxHeartbeats 4000000 in
set_option maxRecDepth 100000 in
theorem c_X6_said {l : Launch} {G : GG} {a0 : Int32} {a1 : Int32} {a2 : Int32}  {M : Mem} {r : Int32} (hF : F_X6_said a0 a1 a2 M = some r) : Met l yX6_said (wz yX6_said cX6_said 4 (some .int)) (RM 0 0) (PreC G [.int a0, .int a1, .int a2] M) (QcI G r M) 0 0 (g_A G) := by
  rw [F_X6_said] at hF
  refine x_start (by decide) (Nat.le_of_ble_eq_true rfl) (lv := [(0, .int a0), (1, .int a1), (2, .int a2)]) rfl ?_
  intro p e s m below meth c cx hr hW hS ls hl
  obtain ⟨hx, hb, hml, hown, hts, hKK, hSS, hlk⟩ := id cx
  refine lv_iload_n hx hb dX6_said_0 rfl (lv_at hl 1 rfl) ?_
  refine lv_iload_n hx hb dX6_said_1 rfl (lv_at hl 2 rfl) ?_
  refine lv_icmp_lt (tgt := 9) hx hb dX6_said_2 (by decide) (fun c1 => ?_) (fun c1 => ?_)
  · have hF := it_p c1 hF
    refine lv_iconst (v := (-1 : Int32)) hx hb dX6_said_9 (by decide) ?_
    exact t_X6_said_10 cx hr (-1 : Int32) hF _ _ _ hW hS (lv_sub hl [0] rfl)
  · have hF := it_n c1 hF
    refine lv_iconst (v := (1 : Int32)) hx hb dX6_said_5 (by decide) ?_
    refine lv_goto (tgt := 10) hx hb dX6_said_6 (by decide) ?_
    exact t_X6_said_10 cx hr (1 : Int32) hF _ _ _ hW hS (lv_sub hl [0] rfl)
def F_X6_heard_11 (a0 : Int32) (a1 : Int32) (M : Mem) (t0 : Int32) : Option Int32 := (if a0 = (2 : Int32) then some ((2 : Int32) * t0) else (if a0 = (3 : Int32) then some (0 : Int32) else (if a0 = (4 : Int32) then some (t0 + (1 : Int32)) else (if a0 = (5 : Int32) then some ((2 : Int32) * t0) else some t0))))
set_option maxHeartbeats 4000000 in
set_option maxRecDepth 100000 in
theorem t_X6_heard_11 {p : Program} {l : Launch} {e : Env} {s : State} {m : MethodId} {args : Array Value} {below : List Frame} {meth : Method} {c : Code} {G : GG} {a0 : Int32} {a1 : Int32} (cx : Cx G cX6_heard RX6 3 p s m args meth c) (hr : meth.sig.returnType = (some .int))   {M : Mem} {r : Int32} : ∀ (t0 : Int32), F_X6_heard_11 a0 a1 M t0 = some r → ∀ (H : Heap) (locs : List Loc) (ls : Array Slot), WH G M H → va_S (g_A G) s.heap H locs → lv_has ls 3 [(0, .int a0)] → W p l e (RM 0 0) s m args below meth c H locs 0 0 (MQ below (QcI G r M) args s 0 0 (g_A G)) (F0 m 11 ls [.int t0]) := by
  obtain ⟨hx, hb, hml, hown, hts, hKK, hSS, hlk⟩ := id cx
  intro t0 hF H locs ls hW hS hl
  rw [F_X6_heard_11] at hF
  refine lv_istore_n (lv' := [(2, .int t0), (0, .int a0)]) hx hb dX6_heard_11 rfl hl (by decide) rfl (fun ls hl => ?_)
  refine lv_iload_n hx hb dX6_heard_12 rfl (lv_at hl 1 rfl) ?_
  refine x_sw (2 : Int32) (fun c2 => ?_) (fun c2 => ?_)
  · have hF := it_p c2 hF
    refine x_tab (tgt := 44) cx dX6_heard_13 c2 (by decide) (by decide) rfl (by decide) ?_
    refine lv_iconst (v := (2 : Int32)) hx hb dX6_heard_44 (by decide) ?_
    refine lv_iload_n hx hb dX6_heard_45 rfl (lv_at hl 0 rfl) ?_
    refine lv_imul hx hb dX6_heard_46 ?_
    exact x_iret cx hr hW hS (Option.some.inj hF) rfl dX6_heard_47
  · have hF := it_n c2 hF
    refine x_sw (3 : Int32) (fun c3 => ?_) (fun c3 => ?_)
    · have hF := it_p c3 hF
      refine x_tab (tgt := 48) cx dX6_heard_13 c3 (by decide) (by decide) rfl (by decide) ?_
      refine lv_iconst (v := (0 : Int32)) hx hb dX6_heard_48 (by decide) ?_
      exact x_iret cx hr hW hS (Option.some.inj hF) rfl dX6_heard_49
    · have hF := it_n c3 hF
      refine x_sw (4 : Int32) (fun c4 => ?_) (fun c4 => ?_)
      · have hF := it_p c4 hF
        refine x_tab (tgt := 50) cx dX6_heard_13 c4 (by decide) (by decide) rfl (by decide) ?_
        refine lv_iload_n hx hb dX6_heard_50 rfl (lv_at hl 0 rfl) ?_
        refine lv_iconst (v := (1 : Int32)) hx hb dX6_heard_51 (by decide) ?_
        refine lv_iadd hx hb dX6_heard_52 ?_
        exact x_iret cx hr hW hS (Option.some.inj hF) rfl dX6_heard_53
      · have hF := it_n c4 hF
        refine x_sw (5 : Int32) (fun c5 => ?_) (fun c5 => ?_)
        · have hF := it_p c5 hF
          refine x_tab (tgt := 44) cx dX6_heard_13 c5 (by decide) (by decide) rfl (by decide) ?_
          refine lv_iconst (v := (2 : Int32)) hx hb dX6_heard_44 (by decide) ?_
          refine lv_iload_n hx hb dX6_heard_45 rfl (lv_at hl 0 rfl) ?_
          refine lv_imul hx hb dX6_heard_46 ?_
          exact x_iret cx hr hW hS (Option.some.inj hF) rfl dX6_heard_47
        · have hF := it_n c5 hF
          refine lv_tableOut (tgt := 54) hx hb dX6_heard_13 (by have z0 := lv_neT c2 (a := 2) (by decide); have z1 := lv_neT c3 (a := 3) (by decide); have z2 := lv_neT c4 (a := 4) (by decide); have z3 := lv_neT c5 (a := 5) (by decide); omega) (by decide) ?_
          refine lv_iload_n hx hb dX6_heard_54 rfl (lv_at hl 0 rfl) ?_
          exact x_iret cx hr hW hS (Option.some.inj hF) rfl dX6_heard_55
def F_X6_heard (a0 : Int32) (a1 : Int32) (M : Mem) : Option Int32 := (if (20 : Int32) ≤ a1 then F_X6_heard_11 a0 a1 M (0 : Int32) else F_X6_heard_11 a0 a1 M (2 : Int32))
set_option maxHeartbeats 4000000 in
set_option maxRecDepth 100000 in
theorem c_X6_heard {l : Launch} {G : GG} {a0 : Int32} {a1 : Int32}  {M : Mem} {r : Int32} (hF : F_X6_heard a0 a1 M = some r) : Met l yX6_heard (wz yX6_heard cX6_heard 3 (some .int)) (RM 0 0) (PreC G [.int a0, .int a1] M) (QcI G r M) 0 0 (g_A G) := by
  rw [F_X6_heard] at hF
  refine x_start (by decide) (Nat.le_of_ble_eq_true rfl) (lv := [(0, .int a0), (1, .int a1)]) rfl ?_
  intro p e s m below meth c cx hr hW hS ls hl
  obtain ⟨hx, hb, hml, hown, hts, hKK, hSS, hlk⟩ := id cx
  refine lv_iload_n hx hb dX6_heard_0 rfl (lv_at hl 1 rfl) ?_
  refine lv_bipush (v := (20 : Int32)) hx hb dX6_heard_1 (by decide) ?_
  refine lv_icmp_ge (tgt := 10) hx hb dX6_heard_3 (by decide) (fun c1 => ?_) (fun c1 => ?_)
  · have hF := it_p c1 hF
    refine lv_iconst (v := (0 : Int32)) hx hb dX6_heard_10 (by decide) ?_
    exact t_X6_heard_11 cx hr (0 : Int32) hF _ _ _ hW hS (lv_sub hl [0] rfl)
  · have hF := it_n c1 hF
    refine lv_iconst (v := (2 : Int32)) hx hb dX6_heard_6 (by decide) ?_
    refine lv_goto (tgt := 11) hx hb dX6_heard_7 (by decide) ?_
    exact t_X6_heard_11 cx hr (2 : Int32) hF _ _ _ hW hS (lv_sub hl [0] rfl)
def F_X6_isUnder_4 (a0 : Int32) (a1 : Int32) (M : Mem) : Nat → Int32 → Int32 → Option Int32
  | 0, _, _ => none
  | n + 1, x2, x3 => (if (6 : Int32) ≤ x3 then some (0 : Int32) else (if x2 < 0 then some (0 : Int32) else (if x2 = a1 then some (1 : Int32) else ix 6 x2 (fun j4 => F_X6_isUnder_4 a0 a1 M n (s_A j4) (x3 + 1)))))
set_option maxHeartbeats 4000000 in
set_option maxRecDepth 100000 in
theorem t_X6_isUnder_4 {p : Program} {l : Launch} {e : Env} {s : State} {m : MethodId} {args : Array Value} {below : List Frame} {meth : Method} {c : Code} {G : GG} {a0 : Int32} {a1 : Int32} (cx : Cx G cX6_isUnder RX6 4 p s m args meth c) (hr : meth.sig.returnType = (some .boolean))   {M : Mem} {r : Int32} : ∀ (n : Nat) (x2 : Int32) (x3 : Int32), F_X6_isUnder_4 a0 a1 M n x2 x3 = some r → ∀ (H : Heap) (locs : List Loc) (ls : Array Slot), WH G M H → va_S (g_A G) s.heap H locs → lv_has ls 4 [(1, .int a1), (2, .int x2), (3, .int x3)] → W p l e (RM 0 0) s m args below meth c H locs 0 0 (MQ below (QcI G r M) args s 0 0 (g_A G)) (F0 m 4 ls []) := by
  obtain ⟨hx, hb, hml, hown, hts, hKK, hSS, hlk⟩ := id cx
  intro n
  induction n with
  | zero =>
    intro x2 x3 hF H locs ls hW hS hl
    rw [F_X6_isUnder_4] at hF
    cases hF
  | succ n ih =>
    intro x2 x3 hF H locs ls hW hS hl
    rw [F_X6_isUnder_4] at hF
    refine lv_iload_n hx hb dX6_isUnder_4 rfl (lv_at hl 2 rfl) ?_
    refine lv_bipush (v := (6 : Int32)) hx hb dX6_isUnder_5 (by decide) ?_
    refine lv_icmp_ge (tgt := 33) hx hb dX6_isUnder_7 (by decide) (fun c1 => ?_) (fun c1 => ?_)
    · have hF := it_p c1 hF
      refine lv_iconst (v := (0 : Int32)) hx hb dX6_isUnder_33 (by decide) ?_
      exact x_zret cx hr (by decide) hW hS (Option.some.inj hF) rfl dX6_isUnder_34
    · have hF := it_n c1 hF
      refine lv_iload_n hx hb dX6_isUnder_10 rfl (lv_at hl 1 rfl) ?_
      refine lv_if_lt (tgt := 33) hx hb dX6_isUnder_11 (by decide) (fun c2 => ?_) (fun c2 => ?_)
      · have hF := it_p c2 hF
        refine lv_iconst (v := (0 : Int32)) hx hb dX6_isUnder_33 (by decide) ?_
        exact x_zret cx hr (by decide) hW hS (Option.some.inj hF) rfl dX6_isUnder_34
      · have hF := it_n c2 hF
        refine lv_iload_n hx hb dX6_isUnder_14 rfl (lv_at hl 1 rfl) ?_
        refine lv_iload_n hx hb dX6_isUnder_15 rfl (lv_at hl 0 rfl) ?_
        refine lv_icmp_ne (tgt := 21) hx hb dX6_isUnder_16 (by decide) (fun c3 => ?_) (fun c3 => ?_)
        · have hF := it_n c3 hF
          refine x_gets cx hSS.1.1 hS q_gs_X6_9 dX6_isUnder_21 ?_
          refine lv_iload_n hx hb dX6_isUnder_24 rfl (lv_at hl 1 rfl) ?_
          obtain ⟨j4, hj4, gj4, hF⟩ := ix_e hF
          refine x_sald cx hSS.1.2 hS hj4 gj4 dX6_isUnder_25 ?_
          refine lv_istore_n (lv' := [(2, .int (s_A j4)), (1, .int a1), (3, .int x3)]) hx hb dX6_isUnder_26 rfl hl (by decide) rfl (fun ls hl => ?_)
          refine lv_iinc (v := (x3 + 1)) (lv' := [(3, .int (x3 + 1)), (2, .int (s_A j4)), (1, .int a1)]) hx hb dX6_isUnder_27 hl (k := 2) rfl rfl (by decide) rfl (fun ls hl => ?_)
          refine lv_goto (tgt := 4) hx hb dX6_isUnder_30 (by decide) ?_
          exact ih (s_A j4) (x3 + 1) hF _ _ _ hW hS (lv_sub hl [2, 1, 0] rfl)
        · have hF := it_p c3 hF
          refine lv_iconst (v := (1 : Int32)) hx hb dX6_isUnder_19 (by decide) ?_
          exact x_zret cx hr (by decide) hW hS (Option.some.inj hF) rfl dX6_isUnder_20
def F_X6_isUnder (a0 : Int32) (a1 : Int32) (M : Mem) : Option Int32 := F_X6_isUnder_4 a0 a1 M FU a0 (0 : Int32)
set_option maxHeartbeats 4000000 in
set_option maxRecDepth 100000 in
theorem c_X6_isUnder {l : Launch} {G : GG} {a0 : Int32} {a1 : Int32}  {M : Mem} {r : Int32} (hF : F_X6_isUnder a0 a1 M = some r) : Met l yX6_isUnder (wz yX6_isUnder cX6_isUnder 4 (some .boolean)) (RM 0 0) (PreC G [.int a0, .int a1] M) (QcI G r M) 0 0 (g_A G) := by
  rw [F_X6_isUnder] at hF
  refine x_start (by decide) (Nat.le_of_ble_eq_true rfl) (lv := [(0, .int a0), (1, .int a1)]) rfl ?_
  intro p e s m below meth c cx hr hW hS ls hl
  obtain ⟨hx, hb, hml, hown, hts, hKK, hSS, hlk⟩ := id cx
  refine lv_iload_n hx hb dX6_isUnder_0 rfl (lv_at hl 0 rfl) ?_
  refine lv_istore_n (lv' := [(2, .int a0), (0, .int a0), (1, .int a1)]) hx hb dX6_isUnder_1 rfl hl (by decide) rfl (fun ls hl => ?_)
  refine lv_iconst (v := (0 : Int32)) hx hb dX6_isUnder_2 (by decide) ?_
  refine lv_istore_n (lv' := [(3, .int (0 : Int32)), (2, .int a0), (0, .int a0), (1, .int a1)]) hx hb dX6_isUnder_3 rfl hl (by decide) rfl (fun ls hl => ?_)
  exact t_X6_isUnder_4 cx hr FU a0 (0 : Int32) hF _ _ _ hW hS (lv_sub hl [3, 1, 0] rfl)
end
