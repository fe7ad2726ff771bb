section
-- ===== PART A: goes FIRST, ahead of the names: the tables' words, and 'selects' of the private methods out of them =====
/-- a private method of a class that the tables say can be made, by its rows of tables_1 -/
def lw_okq (q : MethodName × Nat) : Prop := (q.1.cls ≠ "java/lang/invoke/MethodHandle" ∧ q.1.cls ≠ "java/lang/invoke/VarHandle") ∧ Cond.instantiable q.1.cls q.2 ∈ tables_1 ∧ Cond.privateMethod q.1 ∈ tables_1 ∧ Cond.instanceMethod q.1 ∈ tables_1
theorem lw_p0 : lw_okq (⟨"EvenStride", "isHere", "(I)Z"⟩, 15) := ⟨⟨by decide +kernel, by decide +kernel⟩, List.mem_of_getElem? (i := 14) (by decide +kernel), List.mem_of_getElem? (i := 290) (by decide +kernel), List.mem_of_getElem? (i := 291) (by decide +kernel)⟩
theorem lw_p1 : lw_okq (⟨"EvenStride$Runner", "turnTo", "(II)I"⟩, 8) := ⟨⟨by decide +kernel, by decide +kernel⟩, List.mem_of_getElem? (i := 29) (by decide +kernel), List.mem_of_getElem? (i := 303) (by decide +kernel), List.mem_of_getElem? (i := 304) (by decide +kernel)⟩
theorem lw_p2 : lw_okq (⟨"EvenStride$RuleText", "next", "()V"⟩, 7) := ⟨⟨by decide +kernel, by decide +kernel⟩, List.mem_of_getElem? (i := 90) (by decide +kernel), List.mem_of_getElem? (i := 348) (by decide +kernel), List.mem_of_getElem? (i := 349) (by decide +kernel)⟩
theorem lw_p3 : lw_okq (⟨"EvenStride$RuleText", "wordToken", "()I"⟩, 7) := ⟨⟨by decide +kernel, by decide +kernel⟩, List.mem_of_getElem? (i := 90) (by decide +kernel), List.mem_of_getElem? (i := 355) (by decide +kernel), List.mem_of_getElem? (i := 356) (by decide +kernel)⟩
theorem lw_p4 : lw_okq (⟨"EvenStride$RuleText", "numberToken", "()I"⟩, 7) := ⟨⟨by decide +kernel, by decide +kernel⟩, List.mem_of_getElem? (i := 90) (by decide +kernel), List.mem_of_getElem? (i := 362) (by decide +kernel), List.mem_of_getElem? (i := 363) (by decide +kernel)⟩
theorem lw_p5 : lw_okq (⟨"EvenStride$RuleText", "item", "([I)Z"⟩, 7) := ⟨⟨by decide +kernel, by decide +kernel⟩, List.mem_of_getElem? (i := 90) (by decide +kernel), List.mem_of_getElem? (i := 369) (by decide +kernel), List.mem_of_getElem? (i := 370) (by decide +kernel)⟩
theorem lw_p6 : lw_okq (⟨"EvenStride$RuleText", "numeral", "([IIII)Z"⟩, 7) := ⟨⟨by decide +kernel, by decide +kernel⟩, List.mem_of_getElem? (i := 90) (by decide +kernel), List.mem_of_getElem? (i := 376) (by decide +kernel), List.mem_of_getElem? (i := 377) (by decide +kernel)⟩
theorem lw_p7 : lw_okq (⟨"EvenStride$RuleText", "sign", "(I)Z"⟩, 7) := ⟨⟨by decide +kernel, by decide +kernel⟩, List.mem_of_getElem? (i := 90) (by decide +kernel), List.mem_of_getElem? (i := 381) (by decide +kernel), List.mem_of_getElem? (i := 382) (by decide +kernel)⟩
theorem lw_p8 : lw_okq (⟨"EvenStride", "canRace", "(II)Z"⟩, 15) := ⟨⟨by decide +kernel, by decide +kernel⟩, List.mem_of_getElem? (i := 14) (by decide +kernel), List.mem_of_getElem? (i := 397) (by decide +kernel), List.mem_of_getElem? (i := 398) (by decide +kernel)⟩
theorem lw_p9 : lw_okq (⟨"EvenStride", "leastMark", "(I)I"⟩, 15) := ⟨⟨by decide +kernel, by decide +kernel⟩, List.mem_of_getElem? (i := 14) (by decide +kernel), List.mem_of_getElem? (i := 407) (by decide +kernel), List.mem_of_getElem? (i := 408) (by decide +kernel)⟩
theorem lw_p10 : lw_okq (⟨"EvenStride", "runOne", "(III)V"⟩, 15) := ⟨⟨by decide +kernel, by decide +kernel⟩, List.mem_of_getElem? (i := 14) (by decide +kernel), List.mem_of_getElem? (i := 413) (by decide +kernel), List.mem_of_getElem? (i := 414) (by decide +kernel)⟩
theorem lw_p11 : lw_okq (⟨"EvenStride", "bareLevel", "(LEvenStride$Runner;I)I"⟩, 15) := ⟨⟨by decide +kernel, by decide +kernel⟩, List.mem_of_getElem? (i := 14) (by decide +kernel), List.mem_of_getElem? (i := 422) (by decide +kernel), List.mem_of_getElem? (i := 423) (by decide +kernel)⟩
theorem lw_p12 : lw_okq (⟨"EvenStride$Runner", "bestSum", "(III)I"⟩, 8) := ⟨⟨by decide +kernel, by decide +kernel⟩, List.mem_of_getElem? (i := 29) (by decide +kernel), List.mem_of_getElem? (i := 445) (by decide +kernel), List.mem_of_getElem? (i := 446) (by decide +kernel)⟩
theorem lw_p13 : lw_okq (⟨"EvenStride$Runner", "betterThan", "(II)I"⟩, 8) := ⟨⟨by decide +kernel, by decide +kernel⟩, List.mem_of_getElem? (i := 29) (by decide +kernel), List.mem_of_getElem? (i := 449) (by decide +kernel), List.mem_of_getElem? (i := 450) (by decide +kernel)⟩
theorem lw_p14 : lw_okq (⟨"EvenStride", "canAsk", "(III)Z"⟩, 15) := ⟨⟨by decide +kernel, by decide +kernel⟩, List.mem_of_getElem? (i := 14) (by decide +kernel), List.mem_of_getElem? (i := 476) (by decide +kernel), List.mem_of_getElem? (i := 477) (by decide +kernel)⟩
theorem lw_p15 : lw_okq (⟨"EvenStride", "enter", "(II)V"⟩, 15) := ⟨⟨by decide +kernel, by decide +kernel⟩, List.mem_of_getElem? (i := 14) (by decide +kernel), List.mem_of_getElem? (i := 481) (by decide +kernel), List.mem_of_getElem? (i := 482) (by decide +kernel)⟩
def lw_privs_1 : List (MethodName × Nat) := [(⟨"EvenStride", "isHere", "(I)Z"⟩, 15), (⟨"EvenStride$Runner", "turnTo", "(II)I"⟩, 8), (⟨"EvenStride$RuleText", "next", "()V"⟩, 7), (⟨"EvenStride$RuleText", "wordToken", "()I"⟩, 7), (⟨"EvenStride$RuleText", "numberToken", "()I"⟩, 7), (⟨"EvenStride$RuleText", "item", "([I)Z"⟩, 7), (⟨"EvenStride$RuleText", "numeral", "([IIII)Z"⟩, 7), (⟨"EvenStride$RuleText", "sign", "(I)Z"⟩, 7), (⟨"EvenStride", "canRace", "(II)Z"⟩, 15), (⟨"EvenStride", "leastMark", "(I)I"⟩, 15), (⟨"EvenStride", "runOne", "(III)V"⟩, 15), (⟨"EvenStride", "bareLevel", "(LEvenStride$Runner;I)I"⟩, 15), (⟨"EvenStride$Runner", "bestSum", "(III)I"⟩, 8), (⟨"EvenStride$Runner", "betterThan", "(II)I"⟩, 8), (⟨"EvenStride", "canAsk", "(III)Z"⟩, 15), (⟨"EvenStride", "enter", "(II)V"⟩, 15)]
theorem lw_r1 : ∀ q ∈ lw_privs_1, lw_okq q := List.forall_mem_cons.mpr ⟨lw_p0, List.forall_mem_cons.mpr ⟨lw_p1, List.forall_mem_cons.mpr ⟨lw_p2, List.forall_mem_cons.mpr ⟨lw_p3, List.forall_mem_cons.mpr ⟨lw_p4, List.forall_mem_cons.mpr ⟨lw_p5, List.forall_mem_cons.mpr ⟨lw_p6, List.forall_mem_cons.mpr ⟨lw_p7, List.forall_mem_cons.mpr ⟨lw_p8, List.forall_mem_cons.mpr ⟨lw_p9, List.forall_mem_cons.mpr ⟨lw_p10, List.forall_mem_cons.mpr ⟨lw_p11, List.forall_mem_cons.mpr ⟨lw_p12, List.forall_mem_cons.mpr ⟨lw_p13, List.forall_mem_cons.mpr ⟨lw_p14, List.forall_mem_cons.mpr ⟨lw_p15, fun _ h => absurd h List.not_mem_nil⟩⟩⟩⟩⟩⟩⟩⟩⟩⟩⟩⟩⟩⟩⟩⟩
theorem lw_p16 : lw_okq (⟨"EvenStride$Field", "waysOfOthers", "(II)J"⟩, 6) := ⟨⟨by decide +kernel, by decide +kernel⟩, List.mem_of_getElem? (i := 142) (by decide +kernel), List.mem_of_getElem? (i := 504) (by decide +kernel), List.mem_of_getElem? (i := 505) (by decide +kernel)⟩
theorem lw_p17 : lw_okq (⟨"EvenStride$Field", "thirdWeights", "(Z)I"⟩, 6) := ⟨⟨by decide +kernel, by decide +kernel⟩, List.mem_of_getElem? (i := 142) (by decide +kernel), List.mem_of_getElem? (i := 533) (by decide +kernel), List.mem_of_getElem? (i := 534) (by decide +kernel)⟩
theorem lw_p18 : lw_okq (⟨"EvenStride$Field", "tryWeights", "(III)V"⟩, 6) := ⟨⟨by decide +kernel, by decide +kernel⟩, List.mem_of_getElem? (i := 142) (by decide +kernel), List.mem_of_getElem? (i := 537) (by decide +kernel), List.mem_of_getElem? (i := 538) (by decide +kernel)⟩
theorem lw_p19 : lw_okq (⟨"EvenStride$Stable", "bestFrom", "(IIII)I"⟩, 8) := ⟨⟨by decide +kernel, by decide +kernel⟩, List.mem_of_getElem? (i := 169) (by decide +kernel), List.mem_of_getElem? (i := 579) (by decide +kernel), List.mem_of_getElem? (i := 580) (by decide +kernel)⟩
theorem lw_p20 : lw_okq (⟨"EvenStride$Stable", "markAfter", "(III)I"⟩, 8) := ⟨⟨by decide +kernel, by decide +kernel⟩, List.mem_of_getElem? (i := 169) (by decide +kernel), List.mem_of_getElem? (i := 583) (by decide +kernel), List.mem_of_getElem? (i := 584) (by decide +kernel)⟩
theorem lw_p21 : lw_okq (⟨"EvenStride$Stable", "wonAt", "(II)I"⟩, 8) := ⟨⟨by decide +kernel, by decide +kernel⟩, List.mem_of_getElem? (i := 169) (by decide +kernel), List.mem_of_getElem? (i := 592) (by decide +kernel), List.mem_of_getElem? (i := 593) (by decide +kernel)⟩
theorem lw_p22 : lw_okq (⟨"EvenStride$Hulls", "sum", "(IIII)I"⟩, 5) := ⟨⟨by decide +kernel, by decide +kernel⟩, List.mem_of_getElem? (i := 202) (by decide +kernel), List.mem_of_getElem? (i := 618) (by decide +kernel), List.mem_of_getElem? (i := 619) (by decide +kernel)⟩
theorem lw_p23 : lw_okq (⟨"EvenStride$Hulls", "hold", "(IIII)V"⟩, 5) := ⟨⟨by decide +kernel, by decide +kernel⟩, List.mem_of_getElem? (i := 202) (by decide +kernel), List.mem_of_getElem? (i := 622) (by decide +kernel), List.mem_of_getElem? (i := 623) (by decide +kernel)⟩
theorem lw_p24 : lw_okq (⟨"EvenStride", "readAs", "(ILEvenStride$Runner;)I"⟩, 15) := ⟨⟨by decide +kernel, by decide +kernel⟩, List.mem_of_getElem? (i := 14) (by decide +kernel), List.mem_of_getElem? (i := 630) (by decide +kernel), List.mem_of_getElem? (i := 631) (by decide +kernel)⟩
theorem lw_p25 : lw_okq (⟨"EvenStrideModel", "begins", "()V"⟩, 25) := ⟨⟨by decide +kernel, by decide +kernel⟩, List.mem_of_getElem? (i := 662) (by decide +kernel), List.mem_of_getElem? (i := 668) (by decide +kernel), List.mem_of_getElem? (i := 669) (by decide +kernel)⟩
theorem lw_p26 : lw_okq (⟨"EvenStrideModel", "isRunner", "(I)Z"⟩, 25) := ⟨⟨by decide +kernel, by decide +kernel⟩, List.mem_of_getElem? (i := 662) (by decide +kernel), List.mem_of_getElem? (i := 761) (by decide +kernel), List.mem_of_getElem? (i := 762) (by decide +kernel)⟩
theorem lw_p27 : lw_okq (⟨"EvenStrideModel", "advances", "()V"⟩, 25) := ⟨⟨by decide +kernel, by decide +kernel⟩, List.mem_of_getElem? (i := 662) (by decide +kernel), List.mem_of_getElem? (i := 795) (by decide +kernel), List.mem_of_getElem? (i := 796) (by decide +kernel)⟩
theorem lw_p28 : lw_okq (⟨"EvenStrideModel", "byteAt", "(I)I"⟩, 25) := ⟨⟨by decide +kernel, by decide +kernel⟩, List.mem_of_getElem? (i := 662) (by decide +kernel), List.mem_of_getElem? (i := 799) (by decide +kernel), List.mem_of_getElem? (i := 800) (by decide +kernel)⟩
theorem lw_p29 : lw_okq (⟨"EvenStrideModel", "isWell", "()Z"⟩, 25) := ⟨⟨by decide +kernel, by decide +kernel⟩, List.mem_of_getElem? (i := 662) (by decide +kernel), List.mem_of_getElem? (i := 810) (by decide +kernel), List.mem_of_getElem? (i := 811) (by decide +kernel)⟩
theorem lw_p30 : lw_okq (⟨"EvenStrideModel", "takes", "(Z)I"⟩, 25) := ⟨⟨by decide +kernel, by decide +kernel⟩, List.mem_of_getElem? (i := 662) (by decide +kernel), List.mem_of_getElem? (i := 814) (by decide +kernel), List.mem_of_getElem? (i := 815) (by decide +kernel)⟩
theorem lw_p31 : lw_okq (⟨"EvenStrideModel", "takesNumber", "(II)I"⟩, 25) := ⟨⟨by decide +kernel, by decide +kernel⟩, List.mem_of_getElem? (i := 662) (by decide +kernel), List.mem_of_getElem? (i := 818) (by decide +kernel), List.mem_of_getElem? (i := 819) (by decide +kernel)⟩
def lw_privs_2 : List (MethodName × Nat) := [(⟨"EvenStride$Field", "waysOfOthers", "(II)J"⟩, 6), (⟨"EvenStride$Field", "thirdWeights", "(Z)I"⟩, 6), (⟨"EvenStride$Field", "tryWeights", "(III)V"⟩, 6), (⟨"EvenStride$Stable", "bestFrom", "(IIII)I"⟩, 8), (⟨"EvenStride$Stable", "markAfter", "(III)I"⟩, 8), (⟨"EvenStride$Stable", "wonAt", "(II)I"⟩, 8), (⟨"EvenStride$Hulls", "sum", "(IIII)I"⟩, 5), (⟨"EvenStride$Hulls", "hold", "(IIII)V"⟩, 5), (⟨"EvenStride", "readAs", "(ILEvenStride$Runner;)I"⟩, 15), (⟨"EvenStrideModel", "begins", "()V"⟩, 25), (⟨"EvenStrideModel", "isRunner", "(I)Z"⟩, 25), (⟨"EvenStrideModel", "advances", "()V"⟩, 25), (⟨"EvenStrideModel", "byteAt", "(I)I"⟩, 25), (⟨"EvenStrideModel", "isWell", "()Z"⟩, 25), (⟨"EvenStrideModel", "takes", "(Z)I"⟩, 25), (⟨"EvenStrideModel", "takesNumber", "(II)I"⟩, 25)]
theorem lw_r2 : ∀ q ∈ lw_privs_2, lw_okq q := List.forall_mem_cons.mpr ⟨lw_p16, List.forall_mem_cons.mpr ⟨lw_p17, List.forall_mem_cons.mpr ⟨lw_p18, List.forall_mem_cons.mpr ⟨lw_p19, List.forall_mem_cons.mpr ⟨lw_p20, List.forall_mem_cons.mpr ⟨lw_p21, List.forall_mem_cons.mpr ⟨lw_p22, List.forall_mem_cons.mpr ⟨lw_p23, List.forall_mem_cons.mpr ⟨lw_p24, List.forall_mem_cons.mpr ⟨lw_p25, List.forall_mem_cons.mpr ⟨lw_p26, List.forall_mem_cons.mpr ⟨lw_p27, List.forall_mem_cons.mpr ⟨lw_p28, List.forall_mem_cons.mpr ⟨lw_p29, List.forall_mem_cons.mpr ⟨lw_p30, List.forall_mem_cons.mpr ⟨lw_p31, fun _ h => absurd h List.not_mem_nil⟩⟩⟩⟩⟩⟩⟩⟩⟩⟩⟩⟩⟩⟩⟩⟩
theorem lw_p32 : lw_okq (⟨"EvenStrideModel", "isField", "(I)Z"⟩, 25) := ⟨⟨by decide +kernel, by decide +kernel⟩, List.mem_of_getElem? (i := 662) (by decide +kernel), List.mem_of_getElem? (i := 830) (by decide +kernel), List.mem_of_getElem? (i := 831) (by decide +kernel)⟩
theorem lw_p33 : lw_okq (⟨"EvenStrideModel", "weighs", "(I)V"⟩, 25) := ⟨⟨by decide +kernel, by decide +kernel⟩, List.mem_of_getElem? (i := 662) (by decide +kernel), List.mem_of_getElem? (i := 837) (by decide +kernel), List.mem_of_getElem? (i := 838) (by decide +kernel)⟩
theorem lw_p34 : lw_okq (⟨"EvenStrideModel", "bare", "(II)I"⟩, 25) := ⟨⟨by decide +kernel, by decide +kernel⟩, List.mem_of_getElem? (i := 662) (by decide +kernel), List.mem_of_getElem? (i := 846) (by decide +kernel), List.mem_of_getElem? (i := 847) (by decide +kernel)⟩
theorem lw_p35 : lw_okq (⟨"EvenStrideModel", "moved", "(II)I"⟩, 25) := ⟨⟨by decide +kernel, by decide +kernel⟩, List.mem_of_getElem? (i := 662) (by decide +kernel), List.mem_of_getElem? (i := 850) (by decide +kernel), List.mem_of_getElem? (i := 851) (by decide +kernel)⟩
theorem lw_p36 : lw_okq (⟨"EvenStrideModel", "races", "(II)V"⟩, 25) := ⟨⟨by decide +kernel, by decide +kernel⟩, List.mem_of_getElem? (i := 662) (by decide +kernel), List.mem_of_getElem? (i := 873) (by decide +kernel), List.mem_of_getElem? (i := 874) (by decide +kernel)⟩
theorem lw_p37 : lw_okq (⟨"EvenStrideModel", "allRows", "(I)J"⟩, 25) := ⟨⟨by decide +kernel, by decide +kernel⟩, List.mem_of_getElem? (i := 662) (by decide +kernel), List.mem_of_getElem? (i := 877) (by decide +kernel), List.mem_of_getElem? (i := 878) (by decide +kernel)⟩
theorem lw_p38 : lw_okq (⟨"EvenStrideModel", "closeness", "(I)J"⟩, 25) := ⟨⟨by decide +kernel, by decide +kernel⟩, List.mem_of_getElem? (i := 662) (by decide +kernel), List.mem_of_getElem? (i := 885) (by decide +kernel), List.mem_of_getElem? (i := 886) (by decide +kernel)⟩
theorem lw_p39 : lw_okq (⟨"EvenStrideModel", "evens", "(II)V"⟩, 25) := ⟨⟨by decide +kernel, by decide +kernel⟩, List.mem_of_getElem? (i := 662) (by decide +kernel), List.mem_of_getElem? (i := 894) (by decide +kernel), List.mem_of_getElem? (i := 895) (by decide +kernel)⟩
theorem lw_p40 : lw_okq (⟨"EvenStrideModel", "wins", "(III)I"⟩, 25) := ⟨⟨by decide +kernel, by decide +kernel⟩, List.mem_of_getElem? (i := 662) (by decide +kernel), List.mem_of_getElem? (i := 914) (by decide +kernel), List.mem_of_getElem? (i := 915) (by decide +kernel)⟩
def lw_privs_3 : List (MethodName × Nat) := [(⟨"EvenStrideModel", "isField", "(I)Z"⟩, 25), (⟨"EvenStrideModel", "weighs", "(I)V"⟩, 25), (⟨"EvenStrideModel", "bare", "(II)I"⟩, 25), (⟨"EvenStrideModel", "moved", "(II)I"⟩, 25), (⟨"EvenStrideModel", "races", "(II)V"⟩, 25), (⟨"EvenStrideModel", "allRows", "(I)J"⟩, 25), (⟨"EvenStrideModel", "closeness", "(I)J"⟩, 25), (⟨"EvenStrideModel", "evens", "(II)V"⟩, 25), (⟨"EvenStrideModel", "wins", "(III)I"⟩, 25)]
theorem lw_r3 : ∀ q ∈ lw_privs_3, lw_okq q := List.forall_mem_cons.mpr ⟨lw_p32, List.forall_mem_cons.mpr ⟨lw_p33, List.forall_mem_cons.mpr ⟨lw_p34, List.forall_mem_cons.mpr ⟨lw_p35, List.forall_mem_cons.mpr ⟨lw_p36, List.forall_mem_cons.mpr ⟨lw_p37, List.forall_mem_cons.mpr ⟨lw_p38, List.forall_mem_cons.mpr ⟨lw_p39, List.forall_mem_cons.mpr ⟨lw_p40, fun _ h => absurd h List.not_mem_nil⟩⟩⟩⟩⟩⟩⟩⟩⟩
def lw_privs : List (MethodName × Nat) := lw_privs_1 ++ (lw_privs_2 ++ (lw_privs_3))
def lw_tbl : List Cond := k2_sels lw_privs ++ tables_1
theorem lw_privs_ok : ∀ q ∈ lw_privs, lw_okq q := by
  show ∀ q ∈ lw_privs_1 ++ (lw_privs_2 ++ (lw_privs_3)), lw_okq q
  exact List.forall_mem_append.mpr ⟨lw_r1, List.forall_mem_append.mpr ⟨lw_r2, lw_r3⟩⟩
end
section
def RX0 : String := "EvenStride$Field"
def TX0 : u_T := fun k => match k with
  | 0 => ("EvenStride$Field", "bare", "[I", true)
  | 1 => ("EvenStride$Field", "levels", "[I", true)
  | 2 => ("EvenStride$Field", "evenWeights", "[I", true)
  | 3 => ("EvenStride$Field", "nearest", "J", false)
  | 4 => ("EvenStride$Field", "size", "I", false)
  | _ => ("EvenStride$Field", "spread", "I", false)
def tyX0 : Nat → FieldType := fun k => match k with
  | 0 => .array .int
  | 1 => .array .int
  | 2 => .array .int
  | 3 => .long
  | 4 => .int
  | _ => .int
theorem nmX0 : ∀ a, a < 6 → ∀ b, b < 6 → a ≠ b → (TX0 a).2.1 ≠ (TX0 b).2.1 := by decide +kernel
theorem tyX0_ok : ∀ k, k < 6 → parseFieldDescriptor (TX0 k).2.2.1 = some (tyX0 k) := by decide +kernel
abbrev cX0_init : ByteArray := prog_2_method_1_code
def yX0_init : MethodName := ⟨RX0, "<init>", "()V"⟩
abbrev cX0_begin : ByteArray := prog_2_method_2_code
def yX0_begin : MethodName := ⟨RX0, "begin", "(I)V"⟩
abbrev cX0_add : ByteArray := prog_2_method_3_code
def yX0_add : MethodName := ⟨RX0, "add", "(II)V"⟩
abbrev cX0_allRows : ByteArray := prog_2_method_4_code
def yX0_allRows : MethodName := ⟨RX0, "allRows", "()J"⟩
abbrev cX0_rowsFirst : ByteArray := prog_2_method_5_code
def yX0_rowsFirst : MethodName := ⟨RX0, "rowsFirst", "(I)J"⟩
abbrev cX0_waysOfOthers : ByteArray := prog_2_method_6_code
def yX0_waysOfOthers : MethodName := ⟨RX0, "waysOfOthers", "(II)J"⟩
abbrev cX0_distance : ByteArray := prog_2_method_7_code
def yX0_distance : MethodName := ⟨RX0, "distance", "(J)J"⟩
abbrev cX0_seekEven : ByteArray := prog_2_method_8_code
def yX0_seekEven : MethodName := ⟨RX0, "seekEven", "()V"⟩
abbrev cX0_thirdWeights : ByteArray := prog_2_method_9_code
def yX0_thirdWeights : MethodName := ⟨RX0, "thirdWeights", "(Z)I"⟩
abbrev cX0_tryWeights : ByteArray := prog_2_method_10_code
def yX0_tryWeights : MethodName := ⟨RX0, "tryWeights", "(III)V"⟩
def RX1 : String := "EvenStride$Hulls"
def TX1 : u_T := fun k => match k with
  | 0 => ("EvenStride$Hulls", "numbers", "[I", true)
  | 1 => ("EvenStride$Hulls", "a", "I", false)
  | 2 => ("EvenStride$Hulls", "b", "I", false)
  | 3 => ("EvenStride$Hulls", "c", "I", false)
  | _ => ("EvenStride$Hulls", "speed", "I", false)
def tyX1 : Nat → FieldType := fun k => match k with
  | 0 => .array .int
  | 1 => .int
  | 2 => .int
  | 3 => .int
  | _ => .int
theorem nmX1 : ∀ a, a < 5 → ∀ b, b < 5 → a ≠ b → (TX1 a).2.1 ≠ (TX1 b).2.1 := by decide +kernel
theorem tyX1_ok : ∀ k, k < 5 → parseFieldDescriptor (TX1 k).2.2.1 = some (tyX1 k) := by decide +kernel
abbrev cX1_init : ByteArray := prog_3_method_1_code
def yX1_init : MethodName := ⟨RX1, "<init>", "()V"⟩
abbrev cX1_seek : ByteArray := prog_3_method_2_code
def yX1_seek : MethodName := ⟨RX1, "seek", "(I)Z"⟩
abbrev cX1_sum : ByteArray := prog_3_method_3_code
def yX1_sum : MethodName := ⟨RX1, "sum", "(IIII)I"⟩
abbrev cX1_hold : ByteArray := prog_3_method_4_code
def yX1_hold : MethodName := ⟨RX1, "hold", "(IIII)V"⟩
def RX2 : String := "EvenStride$Rule"
def TX2 : u_T := fun k => match k with
  | _ => ("EvenStride$Rule", "numbers", "[I", true)
def tyX2 : Nat → FieldType := fun k => match k with
  | _ => .array .int
theorem nmX2 : ∀ a, a < 1 → ∀ b, b < 1 → a ≠ b → (TX2 a).2.1 ≠ (TX2 b).2.1 := by decide +kernel
theorem tyX2_ok : ∀ k, k < 1 → parseFieldDescriptor (TX2 k).2.2.1 = some (tyX2 k) := by decide +kernel
abbrev cX2_init : ByteArray := prog_4_method_1_code
def yX2_init : MethodName := ⟨RX2, "<init>", "()V"⟩
abbrev cX2_forget : ByteArray := prog_4_method_2_code
def yX2_forget : MethodName := ⟨RX2, "forget", "()V"⟩
abbrev cX2_become : ByteArray := prog_4_method_3_code
def yX2_become : MethodName := ⟨RX2, "become", "(LEvenStride$Rule;)V"⟩
abbrev cX2_lastOf : ByteArray := prog_4_method_4_code
def yX2_lastOf : MethodName := ⟨RX2, "lastOf", "(I)I"⟩
abbrev cX2_bestOf : ByteArray := prog_4_method_5_code
def yX2_bestOf : MethodName := ⟨RX2, "bestOf", "(I)I"⟩
abbrev cX2_ceiling : ByteArray := prog_4_method_6_code
def yX2_ceiling : MethodName := ⟨RX2, "ceiling", "(I)I"⟩
abbrev cX2_moved : ByteArray := prog_4_method_7_code
def yX2_moved : MethodName := ⟨RX2, "moved", "(III)I"⟩
def RX3 : String := "EvenStride$RuleText"
def TX3 : u_T := fun k => match k with
  | 0 => ("EvenStride$RuleText", "bytes", "[I", true)
  | 1 => ("EvenStride$RuleText", "length", "I", false)
  | 2 => ("EvenStride$RuleText", "at", "I", false)
  | 3 => ("EvenStride$RuleText", "start", "I", false)
  | 4 => ("EvenStride$RuleText", "token", "I", false)
  | 5 => ("EvenStride$RuleText", "number", "I", false)
  | _ => ("EvenStride$RuleText", "told", "I", false)
def tyX3 : Nat → FieldType := fun k => match k with
  | 0 => .array .int
  | 1 => .int
  | 2 => .int
  | 3 => .int
  | 4 => .int
  | 5 => .int
  | _ => .int
theorem nmX3 : ∀ a, a < 7 → ∀ b, b < 7 → a ≠ b → (TX3 a).2.1 ≠ (TX3 b).2.1 := by decide +kernel
theorem tyX3_ok : ∀ k, k < 7 → parseFieldDescriptor (TX3 k).2.2.1 = some (tyX3 k) := by decide +kernel
abbrev cX3_init : ByteArray := prog_5_method_1_code
def yX3_init : MethodName := ⟨RX3, "<init>", "()V"⟩
abbrev cX3_append : ByteArray := prog_5_method_2_code
def yX3_append : MethodName := ⟨RX3, "append", "(I)V"⟩
abbrev cX3_readInto : ByteArray := prog_5_method_3_code
def yX3_readInto : MethodName := ⟨RX3, "readInto", "(LEvenStride$Rule;)I"⟩
abbrev cX3_item : ByteArray := prog_5_method_4_code
def yX3_item : MethodName := ⟨RX3, "item", "([I)Z"⟩
abbrev cX3_sign : ByteArray := prog_5_method_5_code
def yX3_sign : MethodName := ⟨RX3, "sign", "(I)Z"⟩
abbrev cX3_numeral : ByteArray := prog_5_method_6_code
def yX3_numeral : MethodName := ⟨RX3, "numeral", "([IIII)Z"⟩
abbrev cX3_next : ByteArray := prog_5_method_7_code
def yX3_next : MethodName := ⟨RX3, "next", "()V"⟩
abbrev cX3_wordToken : ByteArray := prog_5_method_8_code
def yX3_wordToken : MethodName := ⟨RX3, "wordToken", "()I"⟩
abbrev cX3_numberToken : ByteArray := prog_5_method_9_code
def yX3_numberToken : MethodName := ⟨RX3, "numberToken", "()I"⟩
abbrev cX3_isLetter : ByteArray := prog_5_method_10_code
def yX3_isLetter : MethodName := ⟨RX3, "isLetter", "(I)Z"⟩
abbrev cX3_isDigit : ByteArray := prog_5_method_11_code
def yX3_isDigit : MethodName := ⟨RX3, "isDigit", "(I)Z"⟩
def RX4 : String := "EvenStride$Runner"
def TX4 : u_T := fun k => match k with
  | 0 => ("EvenStride$Runner", "turn", "[I", true)
  | 1 => ("EvenStride$Runner", "figures", "[I", true)
  | 2 => ("EvenStride$Runner", "strength", "I", false)
  | 3 => ("EvenStride$Runner", "mark", "I", false)
  | 4 => ("EvenStride$Runner", "habit", "I", false)
  | 5 => ("EvenStride$Runner", "grow", "I", false)
  | 6 => ("EvenStride$Runner", "ran", "I", false)
  | _ => ("EvenStride$Runner", "kept", "I", false)
def tyX4 : Nat → FieldType := fun k => match k with
  | 0 => .array .int
  | 1 => .array .int
  | 2 => .int
  | 3 => .int
  | 4 => .int
  | 5 => .int
  | 6 => .int
  | _ => .int
theorem nmX4 : ∀ a, a < 8 → ∀ b, b < 8 → a ≠ b → (TX4 a).2.1 ≠ (TX4 b).2.1 := by decide +kernel
theorem tyX4_ok : ∀ k, k < 8 → parseFieldDescriptor (TX4 k).2.2.1 = some (tyX4 k) := by decide +kernel
abbrev cX4_init : ByteArray := prog_6_method_1_code
def yX4_init : MethodName := ⟨RX4, "<init>", "()V"⟩
abbrev cX4_begin : ByteArray := prog_6_method_2_code
def yX4_begin : MethodName := ⟨RX4, "begin", "(I)V"⟩
abbrev cX4_become : ByteArray := prog_6_method_3_code
def yX4_become : MethodName := ⟨RX4, "become", "(LEvenStride$Runner;)V"⟩
abbrev cX4_change : ByteArray := prog_6_method_4_code
def yX4_change : MethodName := ⟨RX4, "change", "(II)I"⟩
abbrev cX4_turnTo : ByteArray := prog_6_method_5_code
def yX4_turnTo : MethodName := ⟨RX4, "turnTo", "(II)I"⟩
abbrev cX4_finish : ByteArray := prog_6_method_6_code
def yX4_finish : MethodName := ⟨RX4, "finish", "(ILEvenStride$Rule;)V"⟩
abbrev cX4_bestSum : ByteArray := prog_6_method_7_code
def yX4_bestSum : MethodName := ⟨RX4, "bestSum", "(III)I"⟩
abbrev cX4_betterThan : ByteArray := prog_6_method_8_code
def yX4_betterThan : MethodName := ⟨RX4, "betterThan", "(II)I"⟩
def RX5 : String := "EvenStride$Stable"
def TX5 : u_T := fun k => match k with
  | 0 => ("EvenStride$Stable", "bars", "[I", true)
  | 1 => ("EvenStride$Stable", "prizes", "[I", true)
  | 2 => ("EvenStride$Stable", "mayPull", "Z", false)
  | 3 => ("EvenStride$Stable", "strength", "I", false)
  | 4 => ("EvenStride$Stable", "races", "I", false)
  | 5 => ("EvenStride$Stable", "spread", "I", false)
  | 6 => ("EvenStride$Stable", "pullLoss", "I", false)
  | _ => ("EvenStride$Stable", "by", "LEvenStride$Rule;", false)
def tyX5 : Nat → FieldType := fun k => match k with
  | 0 => .array .int
  | 1 => .array .int
  | 2 => .boolean
  | 3 => .int
  | 4 => .int
  | 5 => .int
  | 6 => .int
  | _ => .object "EvenStride$Rule"
theorem nmX5 : ∀ a, a < 8 → ∀ b, b < 8 → a ≠ b → (TX5 a).2.1 ≠ (TX5 b).2.1 := by decide +kernel
theorem tyX5_ok : ∀ k, k < 8 → parseFieldDescriptor (TX5 k).2.2.1 = some (tyX5 k) := by decide +kernel
abbrev cX5_init : ByteArray := prog_7_method_1_code
def yX5_init : MethodName := ⟨RX5, "<init>", "()V"⟩
abbrev cX5_begin : ByteArray := prog_7_method_2_code
def yX5_begin : MethodName := ⟨RX5, "begin", "(IIIILEvenStride$Rule;)V"⟩
abbrev cX5_bestScore : ByteArray := prog_7_method_3_code
def yX5_bestScore : MethodName := ⟨RX5, "bestScore", "(Z)I"⟩
abbrev cX5_bestFrom : ByteArray := prog_7_method_4_code
def yX5_bestFrom : MethodName := ⟨RX5, "bestFrom", "(IIII)I"⟩
abbrev cX5_wonOf : ByteArray := prog_7_method_5_code
def yX5_wonOf : MethodName := ⟨RX5, "wonOf", "(I)I"⟩
abbrev cX5_pullsOf : ByteArray := prog_7_method_6_code
def yX5_pullsOf : MethodName := ⟨RX5, "pullsOf", "(I)I"⟩
abbrev cX5_wonAt : ByteArray := prog_7_method_7_code
def yX5_wonAt : MethodName := ⟨RX5, "wonAt", "(II)I"⟩
abbrev cX5_markAfter : ByteArray := prog_7_method_8_code
def yX5_markAfter : MethodName := ⟨RX5, "markAfter", "(III)I"⟩
def RX6 : String := "EvenStride$Yard"
def TX6 : u_T := fun k => match k with
  | 0 => ("EvenStride$Yard", "runners", "[LEvenStride$Runner;", true)
  | 1 => ("EvenStride$Yard", "size", "I", false)
  | 2 => ("EvenStride$Yard", "lot", "I", false)
  | 3 => ("EvenStride$Yard", "races", "I", false)
  | _ => ("EvenStride$Yard", "kept", "Z", false)
def tyX6 : Nat → FieldType := fun k => match k with
  | 0 => .array (.object "EvenStride$Runner")
  | 1 => .int
  | 2 => .int
  | 3 => .int
  | _ => .boolean
theorem nmX6 : ∀ a, a < 5 → ∀ b, b < 5 → a ≠ b → (TX6 a).2.1 ≠ (TX6 b).2.1 := by decide +kernel
theorem tyX6_ok : ∀ k, k < 5 → parseFieldDescriptor (TX6 k).2.2.1 = some (tyX6 k) := by decide +kernel
abbrev cX6_init : ByteArray := prog_8_method_1_code
def yX6_init : MethodName := ⟨RX6, "<init>", "()V"⟩
abbrev cX6_become : ByteArray := prog_8_method_2_code
def yX6_become : MethodName := ⟨RX6, "become", "(LEvenStride$Yard;)V"⟩
abbrev cX6_nextLot : ByteArray := prog_8_method_3_code
def yX6_nextLot : MethodName := ⟨RX6, "nextLot", "()I"⟩
def RX7 : String := "EvenStride"
def TX7 : u_T := fun k => match k with
  | 0 => ("EvenStride", "yard", "LEvenStride$Yard;", true)
  | 1 => ("EvenStride", "images", "[LEvenStride$Yard;", true)
  | 2 => ("EvenStride", "tuned", "[I", true)
  | 3 => ("EvenStride", "text", "LEvenStride$RuleText;", true)
  | 4 => ("EvenStride", "law", "LEvenStride$Rule;", true)
  | 5 => ("EvenStride", "draft", "LEvenStride$Rule;", true)
  | 6 => ("EvenStride", "lone", "LEvenStride$Runner;", true)
  | 7 => ("EvenStride", "field", "LEvenStride$Field;", true)
  | 8 => ("EvenStride", "stable", "LEvenStride$Stable;", true)
  | 9 => ("EvenStride", "hulls", "LEvenStride$Hulls;", true)
  | 10 => ("EvenStride", "lastShown", "[I", true)
  | 11 => ("EvenStride", "lastWeight", "[I", true)
  | 12 => ("EvenStride", "lastLuck", "[I", true)
  | 13 => ("EvenStride", "lastSet", "I", false)
  | _ => ("EvenStride", "traced", "J", false)
def tyX7 : Nat → FieldType := fun k => match k with
  | 0 => .object "EvenStride$Yard"
  | 1 => .array (.object "EvenStride$Yard")
  | 2 => .array .int
  | 3 => .object "EvenStride$RuleText"
  | 4 => .object "EvenStride$Rule"
  | 5 => .object "EvenStride$Rule"
  | 6 => .object "EvenStride$Runner"
  | 7 => .object "EvenStride$Field"
  | 8 => .object "EvenStride$Stable"
  | 9 => .object "EvenStride$Hulls"
  | 10 => .array .int
  | 11 => .array .int
  | 12 => .array .int
  | 13 => .int
  | _ => .long
theorem nmX7 : ∀ a, a < 15 → ∀ b, b < 15 → a ≠ b → (TX7 a).2.1 ≠ (TX7 b).2.1 := by decide +kernel
theorem tyX7_ok : ∀ k, k < 15 → parseFieldDescriptor (TX7 k).2.2.1 = some (tyX7 k) := by decide +kernel
abbrev cX7_init : ByteArray := prog_1_method_1_code
def yX7_init : MethodName := ⟨RX7, "<init>", "()V"⟩
abbrev cX7_runner : ByteArray := prog_1_method_2_code
def yX7_runner : MethodName := ⟨RX7, "runner", "(I)I"⟩
abbrev cX7_set : ByteArray := prog_1_method_3_code
def yX7_set : MethodName := ⟨RX7, "set", "(III)I"⟩
abbrev cX7_about : ByteArray := prog_1_method_4_code
def yX7_about : MethodName := ⟨RX7, "about", "(II)I"⟩
abbrev cX7_figure : ByteArray := prog_1_method_5_code
def yX7_figure : MethodName := ⟨RX7, "figure", "(II)I"⟩
abbrev cX7_tune : ByteArray := prog_1_method_6_code
def yX7_tune : MethodName := ⟨RX7, "tune", "(II)I"⟩
abbrev cX7_lot : ByteArray := prog_1_method_7_code
def yX7_lot : MethodName := ⟨RX7, "lot", "(I)I"⟩
abbrev cX7_type : ByteArray := prog_1_method_8_code
def yX7_type : MethodName := ⟨RX7, "type", "(JI)I"⟩
abbrev cX7_clear : ByteArray := prog_1_method_9_code
def yX7_clear : MethodName := ⟨RX7, "clear", "()I"⟩
abbrev cX7_rule : ByteArray := prog_1_method_10_code
def yX7_rule : MethodName := ⟨RX7, "rule", "()I"⟩
abbrev cX7_told : ByteArray := prog_1_method_11_code
def yX7_told : MethodName := ⟨RX7, "told", "(I)I"⟩
abbrev cX7_race : ByteArray := prog_1_method_12_code
def yX7_race : MethodName := ⟨RX7, "race", "(II)I"⟩
abbrev cX7_shown : ByteArray := prog_1_method_13_code
def yX7_shown : MethodName := ⟨RX7, "shown", "(II)I"⟩
abbrev cX7_weight : ByteArray := prog_1_method_14_code
def yX7_weight : MethodName := ⟨RX7, "weight", "(II)I"⟩
abbrev cX7_odds : ByteArray := prog_1_method_15_code
def yX7_odds : MethodName := ⟨RX7, "odds", "(III)J"⟩
abbrev cX7_close : ByteArray := prog_1_method_16_code
def yX7_close : MethodName := ⟨RX7, "close", "(II)J"⟩
abbrev cX7_even : ByteArray := prog_1_method_17_code
def yX7_even : MethodName := ⟨RX7, "even", "(III)J"⟩
abbrev cX7_good : ByteArray := prog_1_method_18_code
def yX7_good : MethodName := ⟨RX7, "good", "(III)I"⟩
abbrev cX7_behind : ByteArray := prog_1_method_19_code
def yX7_behind : MethodName := ⟨RX7, "behind", "(III)I"⟩
abbrev cX7_card : ByteArray := prog_1_method_20_code
def yX7_card : MethodName := ⟨RX7, "card", "(III)I"⟩
abbrev cX7_plan : ByteArray := prog_1_method_21_code
def yX7_plan : MethodName := ⟨RX7, "plan", "(III)I"⟩
abbrev cX7_hull : ByteArray := prog_1_method_22_code
def yX7_hull : MethodName := ⟨RX7, "hull", "(II)I"⟩
abbrev cX7_beats : ByteArray := prog_1_method_23_code
def yX7_beats : MethodName := ⟨RX7, "beats", "(II)I"⟩
abbrev cX7_reading : ByteArray := prog_1_method_24_code
def yX7_reading : MethodName := ⟨RX7, "reading", "(II)I"⟩
abbrev cX7_keep : ByteArray := prog_1_method_25_code
def yX7_keep : MethodName := ⟨RX7, "keep", "(I)I"⟩
abbrev cX7_back : ByteArray := prog_1_method_26_code
def yX7_back : MethodName := ⟨RX7, "back", "(I)I"⟩
abbrev cX7_count : ByteArray := prog_1_method_27_code
def yX7_count : MethodName := ⟨RX7, "count", "(I)I"⟩
abbrev cX7_trace : ByteArray := prog_1_method_28_code
def yX7_trace : MethodName := ⟨RX7, "trace", "()J"⟩
abbrev cX7_within : ByteArray := prog_1_method_29_code
def yX7_within : MethodName := ⟨RX7, "within", "(III)Z"⟩
abbrev cX7_clamp : ByteArray := prog_1_method_30_code
def yX7_clamp : MethodName := ⟨RX7, "clamp", "(III)I"⟩
abbrev cX7_isHere : ByteArray := prog_1_method_31_code
def yX7_isHere : MethodName := ⟨RX7, "isHere", "(I)Z"⟩
abbrev cX7_isOf : ByteArray := prog_1_method_32_code
def yX7_isOf : MethodName := ⟨RX7, "isOf", "(II)Z"⟩
abbrev cX7_canRace : ByteArray := prog_1_method_33_code
def yX7_canRace : MethodName := ⟨RX7, "canRace", "(II)Z"⟩
abbrev cX7_canAsk : ByteArray := prog_1_method_34_code
def yX7_canAsk : MethodName := ⟨RX7, "canAsk", "(III)Z"⟩
abbrev cX7_leastMark : ByteArray := prog_1_method_35_code
def yX7_leastMark : MethodName := ⟨RX7, "leastMark", "(I)I"⟩
abbrev cX7_bareLevel : ByteArray := prog_1_method_36_code
def yX7_bareLevel : MethodName := ⟨RX7, "bareLevel", "(LEvenStride$Runner;I)I"⟩
abbrev cX7_runOne : ByteArray := prog_1_method_37_code
def yX7_runOne : MethodName := ⟨RX7, "runOne", "(III)V"⟩
abbrev cX7_enter : ByteArray := prog_1_method_38_code
def yX7_enter : MethodName := ⟨RX7, "enter", "(II)V"⟩
abbrev cX7_placeIn : ByteArray := prog_1_method_39_code
def yX7_placeIn : MethodName := ⟨RX7, "placeIn", "(II)I"⟩
abbrev cX7_rowsTooGood : ByteArray := prog_1_method_40_code
def yX7_rowsTooGood : MethodName := ⟨RX7, "rowsTooGood", "(III)I"⟩
abbrev cX7_rowsWithMiddle : ByteArray := prog_1_method_41_code
def yX7_rowsWithMiddle : MethodName := ⟨RX7, "rowsWithMiddle", "(III)I"⟩
abbrev cX7_rowsMiddleUpTo : ByteArray := prog_1_method_42_code
def yX7_rowsMiddleUpTo : MethodName := ⟨RX7, "rowsMiddleUpTo", "(III)I"⟩
abbrev cX7_power : ByteArray := prog_1_method_43_code
def yX7_power : MethodName := ⟨RX7, "power", "(II)I"⟩
abbrev cX7_readAs : ByteArray := prog_1_method_44_code
def yX7_readAs : MethodName := ⟨RX7, "readAs", "(ILEvenStride$Runner;)I"⟩
def RX8 : String := "EvenStrideModel"
def TX8 : u_T := fun k => match k with
  | 0 => ("EvenStrideModel", "thrown", "I", false)
  | 1 => ("EvenStrideModel", "trace", "J", false)
  | 2 => ("EvenStrideModel", "s", "[I", true)
  | 3 => ("EvenStrideModel", "kept", "[I", true)
  | 4 => ("EvenStrideModel", "isKept", "[Z", true)
  | 5 => ("EvenStrideModel", "tunes", "[I", true)
  | 6 => ("EvenStrideModel", "rules", "[I", true)
  | 7 => ("EvenStrideModel", "text", "[I", true)
  | 8 => ("EvenStrideModel", "typed", "I", false)
  | 9 => ("EvenStrideModel", "next", "I", false)
  | 10 => ("EvenStrideModel", "token", "I", false)
  | 11 => ("EvenStrideModel", "place", "I", false)
  | 12 => ("EvenStrideModel", "value", "I", false)
  | 13 => ("EvenStrideModel", "fault", "I", false)
  | 14 => ("EvenStrideModel", "lastSet", "I", false)
  | 15 => ("EvenStrideModel", "shown", "[I", true)
  | 16 => ("EvenStrideModel", "cards", "[I", true)
  | 17 => ("EvenStrideModel", "hulls", "[I", true)
  | 18 => ("EvenStrideModel", "figures", "[I", true)
  | 19 => ("EvenStrideModel", "figureMany", "I", false)
  | 20 => ("EvenStrideModel", "sorted", "[I", true)
  | 21 => ("EvenStrideModel", "weights", "[I", true)
  | 22 => ("EvenStrideModel", "firsts", "[J", true)
  | 23 => ("EvenStrideModel", "bestWeights", "[I", true)
  | _ => ("EvenStrideModel", "bestClose", "J", false)
def tyX8 : Nat → FieldType := fun k => match k with
  | 0 => .int
  | 1 => .long
  | 2 => .array .int
  | 3 => .array .int
  | 4 => .array .boolean
  | 5 => .array .int
  | 6 => .array .int
  | 7 => .array .int
  | 8 => .int
  | 9 => .int
  | 10 => .int
  | 11 => .int
  | 12 => .int
  | 13 => .int
  | 14 => .int
  | 15 => .array .int
  | 16 => .array .int
  | 17 => .array .int
  | 18 => .array .int
  | 19 => .int
  | 20 => .array .int
  | 21 => .array .int
  | 22 => .array .long
  | 23 => .array .int
  | _ => .long
theorem nmX8 : ∀ a, a < 25 → ∀ b, b < 25 → a ≠ b → (TX8 a).2.1 ≠ (TX8 b).2.1 := by decide +kernel
theorem tyX8_ok : ∀ k, k < 25 → parseFieldDescriptor (TX8 k).2.2.1 = some (tyX8 k) := by decide +kernel
abbrev cX8_init : ByteArray := prog_10_method_1_code
def yX8_init : MethodName := ⟨RX8, "<init>", "()V"⟩
abbrev cX8_in : ByteArray := prog_10_method_3_code
def yX8_in : MethodName := ⟨RX8, "in", "(III)Z"⟩
abbrev cX8_within : ByteArray := prog_10_method_4_code
def yX8_within : MethodName := ⟨RX8, "within", "(III)I"⟩
abbrev cX8_begins : ByteArray := prog_10_method_5_code
def yX8_begins : MethodName := ⟨RX8, "begins", "()V"⟩
abbrev cX8_isRunner : ByteArray := prog_10_method_6_code
def yX8_isRunner : MethodName := ⟨RX8, "isRunner", "(I)Z"⟩
abbrev cX8_runner : ByteArray := prog_10_method_7_code
def yX8_runner : MethodName := ⟨RX8, "runner", "(I)I"⟩
abbrev cX8_set : ByteArray := prog_10_method_8_code
def yX8_set : MethodName := ⟨RX8, "set", "(III)I"⟩
abbrev cX8_about : ByteArray := prog_10_method_9_code
def yX8_about : MethodName := ⟨RX8, "about", "(II)I"⟩
abbrev cX8_figure : ByteArray := prog_10_method_10_code
def yX8_figure : MethodName := ⟨RX8, "figure", "(II)I"⟩
abbrev cX8_tune : ByteArray := prog_10_method_11_code
def yX8_tune : MethodName := ⟨RX8, "tune", "(II)I"⟩
abbrev cX8_lot : ByteArray := prog_10_method_12_code
def yX8_lot : MethodName := ⟨RX8, "lot", "(I)I"⟩
abbrev cX8_type : ByteArray := prog_10_method_13_code
def yX8_type : MethodName := ⟨RX8, "type", "(JI)I"⟩
abbrev cX8_clear : ByteArray := prog_10_method_14_code
def yX8_clear : MethodName := ⟨RX8, "clear", "()I"⟩
abbrev cX8_byteAt : ByteArray := prog_10_method_15_code
def yX8_byteAt : MethodName := ⟨RX8, "byteAt", "(I)I"⟩
abbrev cX8_wordOf : ByteArray := prog_10_method_16_code
def yX8_wordOf : MethodName := ⟨RX8, "wordOf", "(J)I"⟩
abbrev cX8_named : ByteArray := prog_10_method_17_code
def yX8_named : MethodName := ⟨RX8, "named", "(IIII)J"⟩
abbrev cX8_advances : ByteArray := prog_10_method_18_code
def yX8_advances : MethodName := ⟨RX8, "advances", "()V"⟩
abbrev cX8_isWell : ByteArray := prog_10_method_19_code
def yX8_isWell : MethodName := ⟨RX8, "isWell", "()Z"⟩
abbrev cX8_takes : ByteArray := prog_10_method_20_code
def yX8_takes : MethodName := ⟨RX8, "takes", "(Z)I"⟩
abbrev cX8_takesNumber : ByteArray := prog_10_method_21_code
def yX8_takesNumber : MethodName := ⟨RX8, "takesNumber", "(II)I"⟩
abbrev cX8_rule : ByteArray := prog_10_method_22_code
def yX8_rule : MethodName := ⟨RX8, "rule", "()I"⟩
abbrev cX8_told : ByteArray := prog_10_method_23_code
def yX8_told : MethodName := ⟨RX8, "told", "(I)I"⟩
abbrev cX8_floor : ByteArray := prog_10_method_24_code
def yX8_floor : MethodName := ⟨RX8, "floor", "(II)I"⟩
abbrev cX8_moved : ByteArray := prog_10_method_25_code
def yX8_moved : MethodName := ⟨RX8, "moved", "(II)I"⟩
abbrev cX8_ones : ByteArray := prog_10_method_26_code
def yX8_ones : MethodName := ⟨RX8, "ones", "(I)I"⟩
abbrev cX8_isField : ByteArray := prog_10_method_27_code
def yX8_isField : MethodName := ⟨RX8, "isField", "(I)Z"⟩
abbrev cX8_has : ByteArray := prog_10_method_28_code
def yX8_has : MethodName := ⟨RX8, "has", "(II)Z"⟩
abbrev cX8_weighs : ByteArray := prog_10_method_29_code
def yX8_weighs : MethodName := ⟨RX8, "weighs", "(I)V"⟩
abbrev cX8_bare : ByteArray := prog_10_method_30_code
def yX8_bare : MethodName := ⟨RX8, "bare", "(II)I"⟩
abbrev cX8_race : ByteArray := prog_10_method_31_code
def yX8_race : MethodName := ⟨RX8, "race", "(II)I"⟩
abbrev cX8_shown : ByteArray := prog_10_method_32_code
def yX8_shown : MethodName := ⟨RX8, "shown", "(II)I"⟩
abbrev cX8_weight : ByteArray := prog_10_method_33_code
def yX8_weight : MethodName := ⟨RX8, "weight", "(II)I"⟩
abbrev cX8_races : ByteArray := prog_10_method_34_code
def yX8_races : MethodName := ⟨RX8, "races", "(II)V"⟩
abbrev cX8_allRows : ByteArray := prog_10_method_35_code
def yX8_allRows : MethodName := ⟨RX8, "allRows", "(I)J"⟩
abbrev cX8_closeness : ByteArray := prog_10_method_36_code
def yX8_closeness : MethodName := ⟨RX8, "closeness", "(I)J"⟩
abbrev cX8_odds : ByteArray := prog_10_method_37_code
def yX8_odds : MethodName := ⟨RX8, "odds", "(III)J"⟩
abbrev cX8_close : ByteArray := prog_10_method_38_code
def yX8_close : MethodName := ⟨RX8, "close", "(II)J"⟩
abbrev cX8_evens : ByteArray := prog_10_method_39_code
def yX8_evens : MethodName := ⟨RX8, "evens", "(II)V"⟩
abbrev cX8_even : ByteArray := prog_10_method_40_code
def yX8_even : MethodName := ⟨RX8, "even", "(III)J"⟩
abbrev cX8_good : ByteArray := prog_10_method_41_code
def yX8_good : MethodName := ⟨RX8, "good", "(III)I"⟩
abbrev cX8_behind : ByteArray := prog_10_method_42_code
def yX8_behind : MethodName := ⟨RX8, "behind", "(III)I"⟩
abbrev cX8_card : ByteArray := prog_10_method_43_code
def yX8_card : MethodName := ⟨RX8, "card", "(III)I"⟩
abbrev cX8_wins : ByteArray := prog_10_method_44_code
def yX8_wins : MethodName := ⟨RX8, "wins", "(III)I"⟩
abbrev cX8_plan : ByteArray := prog_10_method_45_code
def yX8_plan : MethodName := ⟨RX8, "plan", "(III)I"⟩
abbrev cX8_hull : ByteArray := prog_10_method_46_code
def yX8_hull : MethodName := ⟨RX8, "hull", "(II)I"⟩
abbrev cX8_beats : ByteArray := prog_10_method_47_code
def yX8_beats : MethodName := ⟨RX8, "beats", "(II)I"⟩
abbrev cX8_reading : ByteArray := prog_10_method_48_code
def yX8_reading : MethodName := ⟨RX8, "reading", "(II)I"⟩
abbrev cX8_keep : ByteArray := prog_10_method_49_code
def yX8_keep : MethodName := ⟨RX8, "keep", "(I)I"⟩
abbrev cX8_back : ByteArray := prog_10_method_50_code
def yX8_back : MethodName := ⟨RX8, "back", "(I)I"⟩
abbrev cX8_count : ByteArray := prog_10_method_51_code
def yX8_count : MethodName := ⟨RX8, "count", "(I)I"⟩
abbrev cX8_trace : ByteArray := prog_10_method_52_code
def yX8_trace : MethodName := ⟨RX8, "trace", "()J"⟩
def RJ6 : String := "java/lang/Integer"
def TJ6 : u_T := fun k => match k with
  | _ => ("", "", "", false)
def tyJ6 : Nat → FieldType := fun k => match k with
  | _ => .int
theorem nmJ6 : ∀ a, a < 0 → ∀ b, b < 0 → a ≠ b → (TJ6 a).2.1 ≠ (TJ6 b).2.1 := by decide +kernel
theorem tyJ6_ok : ∀ k, k < 0 → parseFieldDescriptor (TJ6 k).2.2.1 = some (tyJ6 k) := by decide +kernel
abbrev cJ6_bitCount_0f7a4 : ByteArray := prog_11_method_49_code
def yJ6_bitCount_0f7a4 : MethodName := ⟨RJ6, "bitCount", "(I)I"⟩
def RJ9 : String := "java/lang/Math"
def TJ9 : u_T := fun k => match k with
  | _ => ("", "", "", false)
def tyJ9 : Nat → FieldType := fun k => match k with
  | _ => .int
theorem nmJ9 : ∀ a, a < 0 → ∀ b, b < 0 → a ≠ b → (TJ9 a).2.1 ≠ (TJ9 b).2.1 := by decide +kernel
theorem tyJ9_ok : ∀ k, k < 0 → parseFieldDescriptor (TJ9 k).2.2.1 = some (tyJ9 k) := by decide +kernel
abbrev cJ9_floorDiv_7cf53 : ByteArray := prog_12_method_47_code
def yJ9_floorDiv_7cf53 : MethodName := ⟨RJ9, "floorDiv", "(II)I"⟩
abbrev cJ9_abs_067f4 : ByteArray := prog_12_method_61_code
def yJ9_abs_067f4 : MethodName := ⟨RJ9, "abs", "(J)J"⟩
abbrev cJ9_max_7cf53 : ByteArray := prog_12_method_65_code
def yJ9_max_7cf53 : MethodName := ⟨RJ9, "max", "(II)I"⟩
abbrev cJ9_min_7cf53 : ByteArray := prog_12_method_69_code
def yJ9_min_7cf53 : MethodName := ⟨RJ9, "min", "(II)I"⟩
def RJ10 : String := "java/lang/System"
def TJ10 : u_T := fun k => match k with
  | _ => ("", "", "", false)
def tyJ10 : Nat → FieldType := fun k => match k with
  | _ => .int
theorem nmJ10 : ∀ a, a < 0 → ∀ b, b < 0 → a ≠ b → (TJ10 a).2.1 ≠ (TJ10 b).2.1 := by decide +kernel
theorem tyJ10_ok : ∀ k, k < 0 → parseFieldDescriptor (TJ10 k).2.2.1 = some (tyJ10 k) := by decide +kernel
def RL : String := "EvenStrideLaw"
abbrev cL_law : ByteArray := code
def yL_law : MethodName := ⟨RL, "law", "([I)Z"⟩
abbrev vwCl : List vw_C := [(RX0, TX0, 6), (RX1, TX1, 5), (RX2, TX2, 1), (RX3, TX3, 7), (RX4, TX4, 8), (RX5, TX5, 8), (RX6, TX6, 5), (RX7, TX7, 15), (RX8, TX8, 25)]
end
section
theorem dX0_init_0 : decode cX0_init 0 = .ok (.aload_n 0, 1) := by decide +kernel
theorem dX0_init_1 : decode cX0_init 1 = .ok (.invokespecial 3, 3) := by decide +kernel
theorem dX0_init_4 : decode cX0_init 4 = .ok (.aload_n 0, 1) := by decide +kernel
theorem dX0_init_5 : decode cX0_init 5 = .ok (.bipush 8, 2) := by decide +kernel
theorem dX0_init_7 : decode cX0_init 7 = .ok (.newarray .int, 2) := by decide +kernel
theorem dX0_init_9 : decode cX0_init 9 = .ok (.putfield 9, 3) := by decide +kernel
theorem dX0_init_12 : decode cX0_init 12 = .ok (.aload_n 0, 1) := by decide +kernel
theorem dX0_init_13 : decode cX0_init 13 = .ok (.bipush 8, 2) := by decide +kernel
theorem dX0_init_15 : decode cX0_init 15 = .ok (.newarray .int, 2) := by decide +kernel
theorem dX0_init_17 : decode cX0_init 17 = .ok (.putfield 15, 3) := by decide +kernel
theorem dX0_init_20 : decode cX0_init 20 = .ok (.aload_n 0, 1) := by decide +kernel
theorem dX0_init_21 : decode cX0_init 21 = .ok (.iconst 3, 1) := by decide +kernel
theorem dX0_init_22 : decode cX0_init 22 = .ok (.newarray .int, 2) := by decide +kernel
theorem dX0_init_24 : decode cX0_init 24 = .ok (.putfield 18, 3) := by decide +kernel
theorem dX0_init_27 : decode cX0_init 27 = .ok (.return_, 1) := by decide +kernel
theorem dX0_begin_0 : decode cX0_begin 0 = .ok (.aload_n 0, 1) := by decide +kernel
theorem dX0_begin_1 : decode cX0_begin 1 = .ok (.iconst 0, 1) := by decide +kernel
theorem dX0_begin_2 : decode cX0_begin 2 = .ok (.putfield 21, 3) := by decide +kernel
theorem dX0_begin_5 : decode cX0_begin 5 = .ok (.aload_n 0, 1) := by decide +kernel
theorem dX0_begin_6 : decode cX0_begin 6 = .ok (.iload_n 1, 1) := by decide +kernel
theorem dX0_begin_7 : decode cX0_begin 7 = .ok (.putfield 25, 3) := by decide +kernel
theorem dX0_begin_10 : decode cX0_begin 10 = .ok (.return_, 1) := by decide +kernel
theorem dX0_add_0 : decode cX0_add 0 = .ok (.aload_n 0, 1) := by decide +kernel
theorem dX0_add_1 : decode cX0_add 1 = .ok (.getfield 21, 3) := by decide +kernel
theorem dX0_add_4 : decode cX0_add 4 = .ok (.bipush 8, 2) := by decide +kernel
theorem dX0_add_6 : decode cX0_add 6 = .ok (.if_icmp .ge 35, 3) := by decide +kernel
theorem dX0_add_9 : decode cX0_add 9 = .ok (.aload_n 0, 1) := by decide +kernel
theorem dX0_add_10 : decode cX0_add 10 = .ok (.getfield 9, 3) := by decide +kernel
theorem dX0_add_13 : decode cX0_add 13 = .ok (.aload_n 0, 1) := by decide +kernel
theorem dX0_add_14 : decode cX0_add 14 = .ok (.getfield 21, 3) := by decide +kernel
theorem dX0_add_17 : decode cX0_add 17 = .ok (.iload_n 1, 1) := by decide +kernel
theorem dX0_add_18 : decode cX0_add 18 = .ok (.iastore, 1) := by decide +kernel
theorem dX0_add_19 : decode cX0_add 19 = .ok (.aload_n 0, 1) := by decide +kernel
theorem dX0_add_20 : decode cX0_add 20 = .ok (.getfield 15, 3) := by decide +kernel
theorem dX0_add_23 : decode cX0_add 23 = .ok (.aload_n 0, 1) := by decide +kernel
theorem dX0_add_24 : decode cX0_add 24 = .ok (.getfield 21, 3) := by decide +kernel
theorem dX0_add_27 : decode cX0_add 27 = .ok (.iload_n 1, 1) := by decide +kernel
theorem dX0_add_28 : decode cX0_add 28 = .ok (.iload_n 2, 1) := by decide +kernel
theorem dX0_add_29 : decode cX0_add 29 = .ok (.isub, 1) := by decide +kernel
theorem dX0_add_30 : decode cX0_add 30 = .ok (.iastore, 1) := by decide +kernel
theorem dX0_add_31 : decode cX0_add 31 = .ok (.aload_n 0, 1) := by decide +kernel
theorem dX0_add_32 : decode cX0_add 32 = .ok (.dup, 1) := by decide +kernel
theorem dX0_add_33 : decode cX0_add 33 = .ok (.getfield 21, 3) := by decide +kernel
theorem dX0_add_36 : decode cX0_add 36 = .ok (.iconst 1, 1) := by decide +kernel
theorem dX0_add_37 : decode cX0_add 37 = .ok (.iadd, 1) := by decide +kernel
theorem dX0_add_38 : decode cX0_add 38 = .ok (.putfield 21, 3) := by decide +kernel
theorem dX0_add_41 : decode cX0_add 41 = .ok (.return_, 1) := by decide +kernel
theorem dX0_allRows_0 : decode cX0_allRows 0 = .ok (.lconst 1, 1) := by decide +kernel
theorem dX0_allRows_1 : decode cX0_allRows 1 = .ok (.lstore_n 1, 1) := by decide +kernel
theorem dX0_allRows_2 : decode cX0_allRows 2 = .ok (.iconst 0, 1) := by decide +kernel
theorem dX0_allRows_3 : decode cX0_allRows 3 = .ok (.istore_n 3, 1) := by decide +kernel
theorem dX0_allRows_4 : decode cX0_allRows 4 = .ok (.iload_n 3, 1) := by decide +kernel
theorem dX0_allRows_5 : decode cX0_allRows 5 = .ok (.aload_n 0, 1) := by decide +kernel
theorem dX0_allRows_6 : decode cX0_allRows 6 = .ok (.getfield 21, 3) := by decide +kernel
theorem dX0_allRows_9 : decode cX0_allRows 9 = .ok (.if_icmp .ge 21, 3) := by decide +kernel
theorem dX0_allRows_12 : decode cX0_allRows 12 = .ok (.lload_n 1, 1) := by decide +kernel
theorem dX0_allRows_13 : decode cX0_allRows 13 = .ok (.iconst 2, 1) := by decide +kernel
theorem dX0_allRows_14 : decode cX0_allRows 14 = .ok (.aload_n 0, 1) := by decide +kernel
theorem dX0_allRows_15 : decode cX0_allRows 15 = .ok (.getfield 25, 3) := by decide +kernel
theorem dX0_allRows_18 : decode cX0_allRows 18 = .ok (.imul, 1) := by decide +kernel
theorem dX0_allRows_19 : decode cX0_allRows 19 = .ok (.iconst 1, 1) := by decide +kernel
theorem dX0_allRows_20 : decode cX0_allRows 20 = .ok (.iadd, 1) := by decide +kernel
theorem dX0_allRows_21 : decode cX0_allRows 21 = .ok (.i2l, 1) := by decide +kernel
theorem dX0_allRows_22 : decode cX0_allRows 22 = .ok (.lmul, 1) := by decide +kernel
theorem dX0_allRows_23 : decode cX0_allRows 23 = .ok (.lstore_n 1, 1) := by decide +kernel
theorem dX0_allRows_24 : decode cX0_allRows 24 = .ok (.iinc 3 1, 3) := by decide +kernel
theorem dX0_allRows_27 : decode cX0_allRows 27 = .ok (.goto (-23), 3) := by decide +kernel
theorem dX0_allRows_30 : decode cX0_allRows 30 = .ok (.lload_n 1, 1) := by decide +kernel
theorem dX0_allRows_31 : decode cX0_allRows 31 = .ok (.lreturn, 1) := by decide +kernel
theorem dX0_rowsFirst_0 : decode cX0_rowsFirst 0 = .ok (.lconst 0, 1) := by decide +kernel
theorem dX0_rowsFirst_1 : decode cX0_rowsFirst 1 = .ok (.lstore_n 2, 1) := by decide +kernel
theorem dX0_rowsFirst_2 : decode cX0_rowsFirst 2 = .ok (.aload_n 0, 1) := by decide +kernel
theorem dX0_rowsFirst_3 : decode cX0_rowsFirst 3 = .ok (.getfield 25, 3) := by decide +kernel
theorem dX0_rowsFirst_6 : decode cX0_rowsFirst 6 = .ok (.istore 4, 2) := by decide +kernel
theorem dX0_rowsFirst_8 : decode cX0_rowsFirst 8 = .ok (.iload 4, 2) := by decide +kernel
theorem dX0_rowsFirst_10 : decode cX0_rowsFirst 10 = .ok (.aload_n 0, 1) := by decide +kernel
theorem dX0_rowsFirst_11 : decode cX0_rowsFirst 11 = .ok (.getfield 25, 3) := by decide +kernel
theorem dX0_rowsFirst_14 : decode cX0_rowsFirst 14 = .ok (.ineg, 1) := by decide +kernel
theorem dX0_rowsFirst_15 : decode cX0_rowsFirst 15 = .ok (.if_icmp .lt 39, 3) := by decide +kernel
theorem dX0_rowsFirst_18 : decode cX0_rowsFirst 18 = .ok (.aload_n 0, 1) := by decide +kernel
theorem dX0_rowsFirst_19 : decode cX0_rowsFirst 19 = .ok (.iload_n 1, 1) := by decide +kernel
theorem dX0_rowsFirst_20 : decode cX0_rowsFirst 20 = .ok (.aload_n 0, 1) := by decide +kernel
theorem dX0_rowsFirst_21 : decode cX0_rowsFirst 21 = .ok (.getfield 15, 3) := by decide +kernel
theorem dX0_rowsFirst_24 : decode cX0_rowsFirst 24 = .ok (.iload_n 1, 1) := by decide +kernel
theorem dX0_rowsFirst_25 : decode cX0_rowsFirst 25 = .ok (.iaload, 1) := by decide +kernel
theorem dX0_rowsFirst_26 : decode cX0_rowsFirst 26 = .ok (.iload 4, 2) := by decide +kernel
theorem dX0_rowsFirst_28 : decode cX0_rowsFirst 28 = .ok (.iadd, 1) := by decide +kernel
theorem dX0_rowsFirst_29 : decode cX0_rowsFirst 29 = .ok (.invokevirtual 28, 3) := by decide +kernel
theorem dX0_rowsFirst_32 : decode cX0_rowsFirst 32 = .ok (.lstore 5, 2) := by decide +kernel
theorem dX0_rowsFirst_34 : decode cX0_rowsFirst 34 = .ok (.lload 5, 2) := by decide +kernel
theorem dX0_rowsFirst_36 : decode cX0_rowsFirst 36 = .ok (.lconst 0, 1) := by decide +kernel
theorem dX0_rowsFirst_37 : decode cX0_rowsFirst 37 = .ok (.lcmp, 1) := by decide +kernel
theorem dX0_rowsFirst_38 : decode cX0_rowsFirst 38 = .ok (.ifCond .ne 5, 3) := by decide +kernel
theorem dX0_rowsFirst_41 : decode cX0_rowsFirst 41 = .ok (.lload_n 2, 1) := by decide +kernel
theorem dX0_rowsFirst_42 : decode cX0_rowsFirst 42 = .ok (.lreturn, 1) := by decide +kernel
theorem dX0_rowsFirst_43 : decode cX0_rowsFirst 43 = .ok (.lload_n 2, 1) := by decide +kernel
theorem dX0_rowsFirst_44 : decode cX0_rowsFirst 44 = .ok (.lload 5, 2) := by decide +kernel
theorem dX0_rowsFirst_46 : decode cX0_rowsFirst 46 = .ok (.ladd, 1) := by decide +kernel
theorem dX0_rowsFirst_47 : decode cX0_rowsFirst 47 = .ok (.lstore_n 2, 1) := by decide +kernel
theorem dX0_rowsFirst_48 : decode cX0_rowsFirst 48 = .ok (.iinc 4 (-1), 3) := by decide +kernel
theorem dX0_rowsFirst_51 : decode cX0_rowsFirst 51 = .ok (.goto (-43), 3) := by decide +kernel
theorem dX0_rowsFirst_54 : decode cX0_rowsFirst 54 = .ok (.lload_n 2, 1) := by decide +kernel
theorem dX0_rowsFirst_55 : decode cX0_rowsFirst 55 = .ok (.lreturn, 1) := by decide +kernel
theorem dX0_waysOfOthers_0 : decode cX0_waysOfOthers 0 = .ok (.lconst 1, 1) := by decide +kernel
theorem dX0_waysOfOthers_1 : decode cX0_waysOfOthers 1 = .ok (.lstore_n 3, 1) := by decide +kernel
theorem dX0_waysOfOthers_2 : decode cX0_waysOfOthers 2 = .ok (.iconst 0, 1) := by decide +kernel
theorem dX0_waysOfOthers_3 : decode cX0_waysOfOthers 3 = .ok (.istore 5, 2) := by decide +kernel
theorem dX0_waysOfOthers_5 : decode cX0_waysOfOthers 5 = .ok (.iload 5, 2) := by decide +kernel
theorem dX0_waysOfOthers_7 : decode cX0_waysOfOthers 7 = .ok (.aload_n 0, 1) := by decide +kernel
theorem dX0_waysOfOthers_8 : decode cX0_waysOfOthers 8 = .ok (.getfield 21, 3) := by decide +kernel
theorem dX0_waysOfOthers_11 : decode cX0_waysOfOthers 11 = .ok (.if_icmp .ge 67, 3) := by decide +kernel
theorem dX0_waysOfOthers_14 : decode cX0_waysOfOthers 14 = .ok (.lload_n 3, 1) := by decide +kernel
theorem dX0_waysOfOthers_15 : decode cX0_waysOfOthers 15 = .ok (.lconst 0, 1) := by decide +kernel
theorem dX0_waysOfOthers_16 : decode cX0_waysOfOthers 16 = .ok (.lcmp, 1) := by decide +kernel
theorem dX0_waysOfOthers_17 : decode cX0_waysOfOthers 17 = .ok (.ifCond .le 61, 3) := by decide +kernel
theorem dX0_waysOfOthers_20 : decode cX0_waysOfOthers 20 = .ok (.iload 5, 2) := by decide +kernel
theorem dX0_waysOfOthers_22 : decode cX0_waysOfOthers 22 = .ok (.iload_n 1, 1) := by decide +kernel
theorem dX0_waysOfOthers_23 : decode cX0_waysOfOthers 23 = .ok (.if_icmp .eq 49, 3) := by decide +kernel
theorem dX0_waysOfOthers_26 : decode cX0_waysOfOthers 26 = .ok (.iload 5, 2) := by decide +kernel
theorem dX0_waysOfOthers_28 : decode cX0_waysOfOthers 28 = .ok (.iload_n 1, 1) := by decide +kernel
theorem dX0_waysOfOthers_29 : decode cX0_waysOfOthers 29 = .ok (.if_icmp .le 7, 3) := by decide +kernel
theorem dX0_waysOfOthers_32 : decode cX0_waysOfOthers 32 = .ok (.iconst 1, 1) := by decide +kernel
theorem dX0_waysOfOthers_33 : decode cX0_waysOfOthers 33 = .ok (.goto 4, 3) := by decide +kernel
theorem dX0_waysOfOthers_36 : decode cX0_waysOfOthers 36 = .ok (.iconst 0, 1) := by decide +kernel
theorem dX0_waysOfOthers_37 : decode cX0_waysOfOthers 37 = .ok (.istore 6, 2) := by decide +kernel
theorem dX0_waysOfOthers_39 : decode cX0_waysOfOthers 39 = .ok (.lload_n 3, 1) := by decide +kernel
theorem dX0_waysOfOthers_40 : decode cX0_waysOfOthers 40 = .ok (.iload_n 2, 1) := by decide +kernel
theorem dX0_waysOfOthers_41 : decode cX0_waysOfOthers 41 = .ok (.aload_n 0, 1) := by decide +kernel
theorem dX0_waysOfOthers_42 : decode cX0_waysOfOthers 42 = .ok (.getfield 15, 3) := by decide +kernel
theorem dX0_waysOfOthers_45 : decode cX0_waysOfOthers 45 = .ok (.iload 5, 2) := by decide +kernel
theorem dX0_waysOfOthers_47 : decode cX0_waysOfOthers 47 = .ok (.iaload, 1) := by decide +kernel
theorem dX0_waysOfOthers_48 : decode cX0_waysOfOthers 48 = .ok (.isub, 1) := by decide +kernel
theorem dX0_waysOfOthers_49 : decode cX0_waysOfOthers 49 = .ok (.aload_n 0, 1) := by decide +kernel
theorem dX0_waysOfOthers_50 : decode cX0_waysOfOthers 50 = .ok (.getfield 25, 3) := by decide +kernel
theorem dX0_waysOfOthers_53 : decode cX0_waysOfOthers 53 = .ok (.iadd, 1) := by decide +kernel
theorem dX0_waysOfOthers_54 : decode cX0_waysOfOthers 54 = .ok (.iload 6, 2) := by decide +kernel
theorem dX0_waysOfOthers_56 : decode cX0_waysOfOthers 56 = .ok (.iadd, 1) := by decide +kernel
theorem dX0_waysOfOthers_57 : decode cX0_waysOfOthers 57 = .ok (.iconst 0, 1) := by decide +kernel
theorem dX0_waysOfOthers_58 : decode cX0_waysOfOthers 58 = .ok (.iconst 2, 1) := by decide +kernel
theorem dX0_waysOfOthers_59 : decode cX0_waysOfOthers 59 = .ok (.aload_n 0, 1) := by decide +kernel
theorem dX0_waysOfOthers_60 : decode cX0_waysOfOthers 60 = .ok (.getfield 25, 3) := by decide +kernel
theorem dX0_waysOfOthers_63 : decode cX0_waysOfOthers 63 = .ok (.imul, 1) := by decide +kernel
theorem dX0_waysOfOthers_64 : decode cX0_waysOfOthers 64 = .ok (.iconst 1, 1) := by decide +kernel
theorem dX0_waysOfOthers_65 : decode cX0_waysOfOthers 65 = .ok (.iadd, 1) := by decide +kernel
theorem dX0_waysOfOthers_66 : decode cX0_waysOfOthers 66 = .ok (.invokestatic 32, 3) := by decide +kernel
theorem dX0_waysOfOthers_69 : decode cX0_waysOfOthers 69 = .ok (.i2l, 1) := by decide +kernel
theorem dX0_waysOfOthers_70 : decode cX0_waysOfOthers 70 = .ok (.lmul, 1) := by decide +kernel
theorem dX0_waysOfOthers_71 : decode cX0_waysOfOthers 71 = .ok (.lstore_n 3, 1) := by decide +kernel
theorem dX0_waysOfOthers_72 : decode cX0_waysOfOthers 72 = .ok (.iinc 5 1, 3) := by decide +kernel
theorem dX0_waysOfOthers_75 : decode cX0_waysOfOthers 75 = .ok (.goto (-70), 3) := by decide +kernel
theorem dX0_waysOfOthers_78 : decode cX0_waysOfOthers 78 = .ok (.lload_n 3, 1) := by decide +kernel
theorem dX0_waysOfOthers_79 : decode cX0_waysOfOthers 79 = .ok (.lreturn, 1) := by decide +kernel
theorem dX0_distance_0 : decode cX0_distance 0 = .ok (.aload_n 0, 1) := by decide +kernel
theorem dX0_distance_1 : decode cX0_distance 1 = .ok (.invokevirtual 36, 3) := by decide +kernel
theorem dX0_distance_4 : decode cX0_distance 4 = .ok (.lstore_n 3, 1) := by decide +kernel
theorem dX0_distance_5 : decode cX0_distance 5 = .ok (.lload_n 3, 1) := by decide +kernel
theorem dX0_distance_6 : decode cX0_distance 6 = .ok (.lstore 5, 2) := by decide +kernel
theorem dX0_distance_8 : decode cX0_distance 8 = .ok (.lconst 0, 1) := by decide +kernel
theorem dX0_distance_9 : decode cX0_distance 9 = .ok (.lstore 7, 2) := by decide +kernel
theorem dX0_distance_11 : decode cX0_distance 11 = .ok (.iconst 0, 1) := by decide +kernel
theorem dX0_distance_12 : decode cX0_distance 12 = .ok (.istore 9, 2) := by decide +kernel
theorem dX0_distance_14 : decode cX0_distance 14 = .ok (.iload 9, 2) := by decide +kernel
theorem dX0_distance_16 : decode cX0_distance 16 = .ok (.aload_n 0, 1) := by decide +kernel
theorem dX0_distance_17 : decode cX0_distance 17 = .ok (.getfield 21, 3) := by decide +kernel
theorem dX0_distance_20 : decode cX0_distance 20 = .ok (.if_icmp .ge 65, 3) := by decide +kernel
theorem dX0_distance_23 : decode cX0_distance 23 = .ok (.lload 7, 2) := by decide +kernel
theorem dX0_distance_25 : decode cX0_distance 25 = .ok (.lload_n 1, 1) := by decide +kernel
theorem dX0_distance_26 : decode cX0_distance 26 = .ok (.lcmp, 1) := by decide +kernel
theorem dX0_distance_27 : decode cX0_distance 27 = .ok (.ifCond .ge 58, 3) := by decide +kernel
theorem dX0_distance_30 : decode cX0_distance 30 = .ok (.iload 9, 2) := by decide +kernel
theorem dX0_distance_32 : decode cX0_distance 32 = .ok (.aload_n 0, 1) := by decide +kernel
theorem dX0_distance_33 : decode cX0_distance 33 = .ok (.getfield 21, 3) := by decide +kernel
theorem dX0_distance_36 : decode cX0_distance 36 = .ok (.iconst 1, 1) := by decide +kernel
theorem dX0_distance_37 : decode cX0_distance 37 = .ok (.isub, 1) := by decide +kernel
theorem dX0_distance_38 : decode cX0_distance 38 = .ok (.if_icmp .ne 8, 3) := by decide +kernel
theorem dX0_distance_41 : decode cX0_distance 41 = .ok (.lload 5, 2) := by decide +kernel
theorem dX0_distance_43 : decode cX0_distance 43 = .ok (.goto 9, 3) := by decide +kernel
theorem dX0_distance_46 : decode cX0_distance 46 = .ok (.aload_n 0, 1) := by decide +kernel
theorem dX0_distance_47 : decode cX0_distance 47 = .ok (.iload 9, 2) := by decide +kernel
theorem dX0_distance_49 : decode cX0_distance 49 = .ok (.invokevirtual 40, 3) := by decide +kernel
theorem dX0_distance_52 : decode cX0_distance 52 = .ok (.lstore 10, 2) := by decide +kernel
theorem dX0_distance_54 : decode cX0_distance 54 = .ok (.lload 5, 2) := by decide +kernel
theorem dX0_distance_56 : decode cX0_distance 56 = .ok (.lload 10, 2) := by decide +kernel
theorem dX0_distance_58 : decode cX0_distance 58 = .ok (.lsub, 1) := by decide +kernel
theorem dX0_distance_59 : decode cX0_distance 59 = .ok (.lstore 5, 2) := by decide +kernel
theorem dX0_distance_61 : decode cX0_distance 61 = .ok (.lload 7, 2) := by decide +kernel
theorem dX0_distance_63 : decode cX0_distance 63 = .ok (.aload_n 0, 1) := by decide +kernel
theorem dX0_distance_64 : decode cX0_distance 64 = .ok (.getfield 21, 3) := by decide +kernel
theorem dX0_distance_67 : decode cX0_distance 67 = .ok (.i2l, 1) := by decide +kernel
theorem dX0_distance_68 : decode cX0_distance 68 = .ok (.lload 10, 2) := by decide +kernel
theorem dX0_distance_70 : decode cX0_distance 70 = .ok (.lmul, 1) := by decide +kernel
theorem dX0_distance_71 : decode cX0_distance 71 = .ok (.lload_n 3, 1) := by decide +kernel
theorem dX0_distance_72 : decode cX0_distance 72 = .ok (.lsub, 1) := by decide +kernel
theorem dX0_distance_73 : decode cX0_distance 73 = .ok (.invokestatic 44, 3) := by decide +kernel
theorem dX0_distance_76 : decode cX0_distance 76 = .ok (.ladd, 1) := by decide +kernel
theorem dX0_distance_77 : decode cX0_distance 77 = .ok (.lstore 7, 2) := by decide +kernel
theorem dX0_distance_79 : decode cX0_distance 79 = .ok (.iinc 9 1, 3) := by decide +kernel
theorem dX0_distance_82 : decode cX0_distance 82 = .ok (.goto (-68), 3) := by decide +kernel
theorem dX0_distance_85 : decode cX0_distance 85 = .ok (.lload 7, 2) := by decide +kernel
theorem dX0_distance_87 : decode cX0_distance 87 = .ok (.lreturn, 1) := by decide +kernel
theorem dX0_seekEven_0 : decode cX0_seekEven 0 = .ok (.aload_n 0, 1) := by decide +kernel
theorem dX0_seekEven_1 : decode cX0_seekEven 1 = .ok (.ldc2_w 50, 3) := by decide +kernel
theorem dX0_seekEven_4 : decode cX0_seekEven 4 = .ok (.putfield 52, 3) := by decide +kernel
theorem dX0_seekEven_7 : decode cX0_seekEven 7 = .ok (.iconst 0, 1) := by decide +kernel
theorem dX0_seekEven_8 : decode cX0_seekEven 8 = .ok (.istore_n 1, 1) := by decide +kernel
theorem dX0_seekEven_9 : decode cX0_seekEven 9 = .ok (.iload_n 1, 1) := by decide +kernel
theorem dX0_seekEven_10 : decode cX0_seekEven 10 = .ok (.bipush 20, 2) := by decide +kernel
theorem dX0_seekEven_12 : decode cX0_seekEven 12 = .ok (.if_icmp .gt 64, 3) := by decide +kernel
theorem dX0_seekEven_15 : decode cX0_seekEven 15 = .ok (.iconst 0, 1) := by decide +kernel
theorem dX0_seekEven_16 : decode cX0_seekEven 16 = .ok (.istore_n 2, 1) := by decide +kernel
theorem dX0_seekEven_17 : decode cX0_seekEven 17 = .ok (.iload_n 2, 1) := by decide +kernel
theorem dX0_seekEven_18 : decode cX0_seekEven 18 = .ok (.bipush 20, 2) := by decide +kernel
theorem dX0_seekEven_20 : decode cX0_seekEven 20 = .ok (.if_icmp .gt 50, 3) := by decide +kernel
theorem dX0_seekEven_23 : decode cX0_seekEven 23 = .ok (.aload_n 0, 1) := by decide +kernel
theorem dX0_seekEven_24 : decode cX0_seekEven 24 = .ok (.iload_n 1, 1) := by decide +kernel
theorem dX0_seekEven_25 : decode cX0_seekEven 25 = .ok (.ifCond .eq 7, 3) := by decide +kernel
theorem dX0_seekEven_28 : decode cX0_seekEven 28 = .ok (.iload_n 2, 1) := by decide +kernel
theorem dX0_seekEven_29 : decode cX0_seekEven 29 = .ok (.ifCond .ne 7, 3) := by decide +kernel
theorem dX0_seekEven_32 : decode cX0_seekEven 32 = .ok (.iconst 1, 1) := by decide +kernel
theorem dX0_seekEven_33 : decode cX0_seekEven 33 = .ok (.goto 4, 3) := by decide +kernel
theorem dX0_seekEven_36 : decode cX0_seekEven 36 = .ok (.iconst 0, 1) := by decide +kernel
theorem dX0_seekEven_37 : decode cX0_seekEven 37 = .ok (.invokevirtual 56, 3) := by decide +kernel
theorem dX0_seekEven_40 : decode cX0_seekEven 40 = .ok (.istore_n 3, 1) := by decide +kernel
theorem dX0_seekEven_41 : decode cX0_seekEven 41 = .ok (.iconst 0, 1) := by decide +kernel
theorem dX0_seekEven_42 : decode cX0_seekEven 42 = .ok (.istore 4, 2) := by decide +kernel
theorem dX0_seekEven_44 : decode cX0_seekEven 44 = .ok (.iload 4, 2) := by decide +kernel
theorem dX0_seekEven_46 : decode cX0_seekEven 46 = .ok (.iload_n 3, 1) := by decide +kernel
theorem dX0_seekEven_47 : decode cX0_seekEven 47 = .ok (.if_icmp .ge 17, 3) := by decide +kernel
theorem dX0_seekEven_50 : decode cX0_seekEven 50 = .ok (.aload_n 0, 1) := by decide +kernel
theorem dX0_seekEven_51 : decode cX0_seekEven 51 = .ok (.iload_n 1, 1) := by decide +kernel
theorem dX0_seekEven_52 : decode cX0_seekEven 52 = .ok (.iload_n 2, 1) := by decide +kernel
theorem dX0_seekEven_53 : decode cX0_seekEven 53 = .ok (.iload 4, 2) := by decide +kernel
theorem dX0_seekEven_55 : decode cX0_seekEven 55 = .ok (.invokevirtual 60, 3) := by decide +kernel
theorem dX0_seekEven_58 : decode cX0_seekEven 58 = .ok (.iinc 4 1, 3) := by decide +kernel
theorem dX0_seekEven_61 : decode cX0_seekEven 61 = .ok (.goto (-17), 3) := by decide +kernel
theorem dX0_seekEven_64 : decode cX0_seekEven 64 = .ok (.iinc 2 1, 3) := by decide +kernel
theorem dX0_seekEven_67 : decode cX0_seekEven 67 = .ok (.goto (-50), 3) := by decide +kernel
theorem dX0_seekEven_70 : decode cX0_seekEven 70 = .ok (.iinc 1 1, 3) := by decide +kernel
theorem dX0_seekEven_73 : decode cX0_seekEven 73 = .ok (.goto (-64), 3) := by decide +kernel
theorem dX0_seekEven_76 : decode cX0_seekEven 76 = .ok (.return_, 1) := by decide +kernel
theorem dX0_thirdWeights_0 : decode cX0_thirdWeights 0 = .ok (.aload_n 0, 1) := by decide +kernel
theorem dX0_thirdWeights_1 : decode cX0_thirdWeights 1 = .ok (.getfield 21, 3) := by decide +kernel
theorem dX0_thirdWeights_4 : decode cX0_thirdWeights 4 = .ok (.iconst 2, 1) := by decide +kernel
theorem dX0_thirdWeights_5 : decode cX0_thirdWeights 5 = .ok (.if_icmp .le 14, 3) := by decide +kernel
theorem dX0_thirdWeights_8 : decode cX0_thirdWeights 8 = .ok (.iload_n 1, 1) := by decide +kernel
theorem dX0_thirdWeights_9 : decode cX0_thirdWeights 9 = .ok (.ifCond .eq 8, 3) := by decide +kernel
theorem dX0_thirdWeights_12 : decode cX0_thirdWeights 12 = .ok (.bipush 21, 2) := by decide +kernel
theorem dX0_thirdWeights_14 : decode cX0_thirdWeights 14 = .ok (.goto 4, 3) := by decide +kernel
theorem dX0_thirdWeights_17 : decode cX0_thirdWeights 17 = .ok (.iconst 1, 1) := by decide +kernel
theorem dX0_thirdWeights_18 : decode cX0_thirdWeights 18 = .ok (.ireturn, 1) := by decide +kernel
theorem dX0_thirdWeights_19 : decode cX0_thirdWeights 19 = .ok (.iload_n 1, 1) := by decide +kernel
theorem dX0_thirdWeights_20 : decode cX0_thirdWeights 20 = .ok (.ifCond .eq 7, 3) := by decide +kernel
theorem dX0_thirdWeights_23 : decode cX0_thirdWeights 23 = .ok (.iconst 1, 1) := by decide +kernel
theorem dX0_thirdWeights_24 : decode cX0_thirdWeights 24 = .ok (.goto 4, 3) := by decide +kernel
theorem dX0_thirdWeights_27 : decode cX0_thirdWeights 27 = .ok (.iconst 0, 1) := by decide +kernel
theorem dX0_thirdWeights_28 : decode cX0_thirdWeights 28 = .ok (.ireturn, 1) := by decide +kernel
theorem dX0_tryWeights_0 : decode cX0_tryWeights 0 = .ok (.aload_n 0, 1) := by decide +kernel
theorem dX0_tryWeights_1 : decode cX0_tryWeights 1 = .ok (.getfield 15, 3) := by decide +kernel
theorem dX0_tryWeights_4 : decode cX0_tryWeights 4 = .ok (.iconst 0, 1) := by decide +kernel
theorem dX0_tryWeights_5 : decode cX0_tryWeights 5 = .ok (.aload_n 0, 1) := by decide +kernel
theorem dX0_tryWeights_6 : decode cX0_tryWeights 6 = .ok (.getfield 9, 3) := by decide +kernel
theorem dX0_tryWeights_9 : decode cX0_tryWeights 9 = .ok (.iconst 0, 1) := by decide +kernel
theorem dX0_tryWeights_10 : decode cX0_tryWeights 10 = .ok (.iaload, 1) := by decide +kernel
theorem dX0_tryWeights_11 : decode cX0_tryWeights 11 = .ok (.iload_n 1, 1) := by decide +kernel
theorem dX0_tryWeights_12 : decode cX0_tryWeights 12 = .ok (.isub, 1) := by decide +kernel
theorem dX0_tryWeights_13 : decode cX0_tryWeights 13 = .ok (.iastore, 1) := by decide +kernel
theorem dX0_tryWeights_14 : decode cX0_tryWeights 14 = .ok (.aload_n 0, 1) := by decide +kernel
theorem dX0_tryWeights_15 : decode cX0_tryWeights 15 = .ok (.getfield 15, 3) := by decide +kernel
theorem dX0_tryWeights_18 : decode cX0_tryWeights 18 = .ok (.iconst 1, 1) := by decide +kernel
theorem dX0_tryWeights_19 : decode cX0_tryWeights 19 = .ok (.aload_n 0, 1) := by decide +kernel
theorem dX0_tryWeights_20 : decode cX0_tryWeights 20 = .ok (.getfield 9, 3) := by decide +kernel
theorem dX0_tryWeights_23 : decode cX0_tryWeights 23 = .ok (.iconst 1, 1) := by decide +kernel
theorem dX0_tryWeights_24 : decode cX0_tryWeights 24 = .ok (.iaload, 1) := by decide +kernel
theorem dX0_tryWeights_25 : decode cX0_tryWeights 25 = .ok (.iload_n 2, 1) := by decide +kernel
theorem dX0_tryWeights_26 : decode cX0_tryWeights 26 = .ok (.isub, 1) := by decide +kernel
theorem dX0_tryWeights_27 : decode cX0_tryWeights 27 = .ok (.iastore, 1) := by decide +kernel
theorem dX0_tryWeights_28 : decode cX0_tryWeights 28 = .ok (.aload_n 0, 1) := by decide +kernel
theorem dX0_tryWeights_29 : decode cX0_tryWeights 29 = .ok (.getfield 15, 3) := by decide +kernel
theorem dX0_tryWeights_32 : decode cX0_tryWeights 32 = .ok (.iconst 2, 1) := by decide +kernel
theorem dX0_tryWeights_33 : decode cX0_tryWeights 33 = .ok (.aload_n 0, 1) := by decide +kernel
theorem dX0_tryWeights_34 : decode cX0_tryWeights 34 = .ok (.getfield 9, 3) := by decide +kernel
theorem dX0_tryWeights_37 : decode cX0_tryWeights 37 = .ok (.iconst 2, 1) := by decide +kernel
theorem dX0_tryWeights_38 : decode cX0_tryWeights 38 = .ok (.iaload, 1) := by decide +kernel
theorem dX0_tryWeights_39 : decode cX0_tryWeights 39 = .ok (.iload_n 3, 1) := by decide +kernel
theorem dX0_tryWeights_40 : decode cX0_tryWeights 40 = .ok (.isub, 1) := by decide +kernel
theorem dX0_tryWeights_41 : decode cX0_tryWeights 41 = .ok (.iastore, 1) := by decide +kernel
theorem dX0_tryWeights_42 : decode cX0_tryWeights 42 = .ok (.aload_n 0, 1) := by decide +kernel
theorem dX0_tryWeights_43 : decode cX0_tryWeights 43 = .ok (.aload_n 0, 1) := by decide +kernel
theorem dX0_tryWeights_44 : decode cX0_tryWeights 44 = .ok (.getfield 52, 3) := by decide +kernel
theorem dX0_tryWeights_47 : decode cX0_tryWeights 47 = .ok (.invokevirtual 64, 3) := by decide +kernel
theorem dX0_tryWeights_50 : decode cX0_tryWeights 50 = .ok (.lstore 4, 2) := by decide +kernel
theorem dX0_tryWeights_52 : decode cX0_tryWeights 52 = .ok (.lload 4, 2) := by decide +kernel
theorem dX0_tryWeights_54 : decode cX0_tryWeights 54 = .ok (.aload_n 0, 1) := by decide +kernel
theorem dX0_tryWeights_55 : decode cX0_tryWeights 55 = .ok (.getfield 52, 3) := by decide +kernel
theorem dX0_tryWeights_58 : decode cX0_tryWeights 58 = .ok (.lcmp, 1) := by decide +kernel
theorem dX0_tryWeights_59 : decode cX0_tryWeights 59 = .ok (.ifCond .ge 30, 3) := by decide +kernel
theorem dX0_tryWeights_62 : decode cX0_tryWeights 62 = .ok (.aload_n 0, 1) := by decide +kernel
theorem dX0_tryWeights_63 : decode cX0_tryWeights 63 = .ok (.lload 4, 2) := by decide +kernel
theorem dX0_tryWeights_65 : decode cX0_tryWeights 65 = .ok (.putfield 52, 3) := by decide +kernel
theorem dX0_tryWeights_68 : decode cX0_tryWeights 68 = .ok (.aload_n 0, 1) := by decide +kernel
theorem dX0_tryWeights_69 : decode cX0_tryWeights 69 = .ok (.getfield 18, 3) := by decide +kernel
theorem dX0_tryWeights_72 : decode cX0_tryWeights 72 = .ok (.iconst 0, 1) := by decide +kernel
theorem dX0_tryWeights_73 : decode cX0_tryWeights 73 = .ok (.iload_n 1, 1) := by decide +kernel
theorem dX0_tryWeights_74 : decode cX0_tryWeights 74 = .ok (.iastore, 1) := by decide +kernel
theorem dX0_tryWeights_75 : decode cX0_tryWeights 75 = .ok (.aload_n 0, 1) := by decide +kernel
theorem dX0_tryWeights_76 : decode cX0_tryWeights 76 = .ok (.getfield 18, 3) := by decide +kernel
theorem dX0_tryWeights_79 : decode cX0_tryWeights 79 = .ok (.iconst 1, 1) := by decide +kernel
theorem dX0_tryWeights_80 : decode cX0_tryWeights 80 = .ok (.iload_n 2, 1) := by decide +kernel
theorem dX0_tryWeights_81 : decode cX0_tryWeights 81 = .ok (.iastore, 1) := by decide +kernel
theorem dX0_tryWeights_82 : decode cX0_tryWeights 82 = .ok (.aload_n 0, 1) := by decide +kernel
theorem dX0_tryWeights_83 : decode cX0_tryWeights 83 = .ok (.getfield 18, 3) := by decide +kernel
theorem dX0_tryWeights_86 : decode cX0_tryWeights 86 = .ok (.iconst 2, 1) := by decide +kernel
theorem dX0_tryWeights_87 : decode cX0_tryWeights 87 = .ok (.iload_n 3, 1) := by decide +kernel
theorem dX0_tryWeights_88 : decode cX0_tryWeights 88 = .ok (.iastore, 1) := by decide +kernel
theorem dX0_tryWeights_89 : decode cX0_tryWeights 89 = .ok (.return_, 1) := by decide +kernel
theorem dX1_init_0 : decode cX1_init 0 = .ok (.aload_n 0, 1) := by decide +kernel
theorem dX1_init_1 : decode cX1_init 1 = .ok (.invokespecial 1, 3) := by decide +kernel
theorem dX1_init_4 : decode cX1_init 4 = .ok (.aload_n 0, 1) := by decide +kernel
theorem dX1_init_5 : decode cX1_init 5 = .ok (.bipush 6, 2) := by decide +kernel
theorem dX1_init_7 : decode cX1_init 7 = .ok (.newarray .int, 2) := by decide +kernel
theorem dX1_init_9 : decode cX1_init 9 = .ok (.dup, 1) := by decide +kernel
theorem dX1_init_10 : decode cX1_init 10 = .ok (.iconst 0, 1) := by decide +kernel
theorem dX1_init_11 : decode cX1_init 11 = .ok (.iconst 1, 1) := by decide +kernel
theorem dX1_init_12 : decode cX1_init 12 = .ok (.iastore, 1) := by decide +kernel
theorem dX1_init_13 : decode cX1_init 13 = .ok (.dup, 1) := by decide +kernel
theorem dX1_init_14 : decode cX1_init 14 = .ok (.iconst 1, 1) := by decide +kernel
theorem dX1_init_15 : decode cX1_init 15 = .ok (.iconst 0, 1) := by decide +kernel
theorem dX1_init_16 : decode cX1_init 16 = .ok (.iastore, 1) := by decide +kernel
theorem dX1_init_17 : decode cX1_init 17 = .ok (.dup, 1) := by decide +kernel
theorem dX1_init_18 : decode cX1_init 18 = .ok (.iconst 2, 1) := by decide +kernel
theorem dX1_init_19 : decode cX1_init 19 = .ok (.iconst 0, 1) := by decide +kernel
theorem dX1_init_20 : decode cX1_init 20 = .ok (.iastore, 1) := by decide +kernel
theorem dX1_init_21 : decode cX1_init 21 = .ok (.dup, 1) := by decide +kernel
theorem dX1_init_22 : decode cX1_init 22 = .ok (.iconst 3, 1) := by decide +kernel
theorem dX1_init_23 : decode cX1_init 23 = .ok (.iconst 0, 1) := by decide +kernel
theorem dX1_init_24 : decode cX1_init 24 = .ok (.iastore, 1) := by decide +kernel
theorem dX1_init_25 : decode cX1_init 25 = .ok (.dup, 1) := by decide +kernel
theorem dX1_init_26 : decode cX1_init 26 = .ok (.iconst 4, 1) := by decide +kernel
theorem dX1_init_27 : decode cX1_init 27 = .ok (.iconst 0, 1) := by decide +kernel
theorem dX1_init_28 : decode cX1_init 28 = .ok (.iastore, 1) := by decide +kernel
theorem dX1_init_29 : decode cX1_init 29 = .ok (.dup, 1) := by decide +kernel
theorem dX1_init_30 : decode cX1_init 30 = .ok (.iconst 5, 1) := by decide +kernel
theorem dX1_init_31 : decode cX1_init 31 = .ok (.iconst 1, 1) := by decide +kernel
theorem dX1_init_32 : decode cX1_init 32 = .ok (.iastore, 1) := by decide +kernel
theorem dX1_init_33 : decode cX1_init 33 = .ok (.putfield 7, 3) := by decide +kernel
theorem dX1_init_36 : decode cX1_init 36 = .ok (.return_, 1) := by decide +kernel
theorem dX1_seek_0 : decode cX1_seek 0 = .ok (.iconst 0, 1) := by decide +kernel
theorem dX1_seek_1 : decode cX1_seek 1 = .ok (.istore_n 2, 1) := by decide +kernel
theorem dX1_seek_2 : decode cX1_seek 2 = .ok (.iconst 1, 1) := by decide +kernel
theorem dX1_seek_3 : decode cX1_seek 3 = .ok (.istore_n 3, 1) := by decide +kernel
theorem dX1_seek_4 : decode cX1_seek 4 = .ok (.iload_n 3, 1) := by decide +kernel
theorem dX1_seek_5 : decode cX1_seek 5 = .ok (.bipush 12, 2) := by decide +kernel
theorem dX1_seek_7 : decode cX1_seek 7 = .ok (.if_icmp .gt 93, 3) := by decide +kernel
theorem dX1_seek_10 : decode cX1_seek 10 = .ok (.iconst 1, 1) := by decide +kernel
theorem dX1_seek_11 : decode cX1_seek 11 = .ok (.istore 4, 2) := by decide +kernel
theorem dX1_seek_13 : decode cX1_seek 13 = .ok (.iload 4, 2) := by decide +kernel
theorem dX1_seek_15 : decode cX1_seek 15 = .ok (.bipush 12, 2) := by decide +kernel
theorem dX1_seek_17 : decode cX1_seek 17 = .ok (.if_icmp .gt 77, 3) := by decide +kernel
theorem dX1_seek_20 : decode cX1_seek 20 = .ok (.iconst 1, 1) := by decide +kernel
theorem dX1_seek_21 : decode cX1_seek 21 = .ok (.istore 5, 2) := by decide +kernel
theorem dX1_seek_23 : decode cX1_seek 23 = .ok (.iload 5, 2) := by decide +kernel
theorem dX1_seek_25 : decode cX1_seek 25 = .ok (.bipush 12, 2) := by decide +kernel
theorem dX1_seek_27 : decode cX1_seek 27 = .ok (.if_icmp .gt 61, 3) := by decide +kernel
theorem dX1_seek_30 : decode cX1_seek 30 = .ok (.aload_n 0, 1) := by decide +kernel
theorem dX1_seek_31 : decode cX1_seek 31 = .ok (.iconst 3, 1) := by decide +kernel
theorem dX1_seek_32 : decode cX1_seek 32 = .ok (.iload_n 3, 1) := by decide +kernel
theorem dX1_seek_33 : decode cX1_seek 33 = .ok (.iload 4, 2) := by decide +kernel
theorem dX1_seek_35 : decode cX1_seek 35 = .ok (.iload 5, 2) := by decide +kernel
theorem dX1_seek_37 : decode cX1_seek 37 = .ok (.invokevirtual 13, 3) := by decide +kernel
theorem dX1_seek_40 : decode cX1_seek 40 = .ok (.istore 6, 2) := by decide +kernel
theorem dX1_seek_42 : decode cX1_seek 42 = .ok (.aload_n 0, 1) := by decide +kernel
theorem dX1_seek_43 : decode cX1_seek 43 = .ok (.iconst 0, 1) := by decide +kernel
theorem dX1_seek_44 : decode cX1_seek 44 = .ok (.iload_n 3, 1) := by decide +kernel
theorem dX1_seek_45 : decode cX1_seek 45 = .ok (.iload 4, 2) := by decide +kernel
theorem dX1_seek_47 : decode cX1_seek 47 = .ok (.iload 5, 2) := by decide +kernel
theorem dX1_seek_49 : decode cX1_seek 49 = .ok (.invokevirtual 13, 3) := by decide +kernel
theorem dX1_seek_52 : decode cX1_seek 52 = .ok (.iload_n 1, 1) := by decide +kernel
theorem dX1_seek_53 : decode cX1_seek 53 = .ok (.if_icmp .gt 29, 3) := by decide +kernel
theorem dX1_seek_56 : decode cX1_seek 56 = .ok (.iload_n 2, 1) := by decide +kernel
theorem dX1_seek_57 : decode cX1_seek 57 = .ok (.ifCond .eq 12, 3) := by decide +kernel
theorem dX1_seek_60 : decode cX1_seek 60 = .ok (.iload 6, 2) := by decide +kernel
theorem dX1_seek_62 : decode cX1_seek 62 = .ok (.aload_n 0, 1) := by decide +kernel
theorem dX1_seek_63 : decode cX1_seek 63 = .ok (.getfield 17, 3) := by decide +kernel
theorem dX1_seek_66 : decode cX1_seek 66 = .ok (.if_icmp .le 16, 3) := by decide +kernel
theorem dX1_seek_69 : decode cX1_seek 69 = .ok (.iconst 1, 1) := by decide +kernel
theorem dX1_seek_70 : decode cX1_seek 70 = .ok (.istore_n 2, 1) := by decide +kernel
theorem dX1_seek_71 : decode cX1_seek 71 = .ok (.aload_n 0, 1) := by decide +kernel
theorem dX1_seek_72 : decode cX1_seek 72 = .ok (.iload_n 3, 1) := by decide +kernel
theorem dX1_seek_73 : decode cX1_seek 73 = .ok (.iload 4, 2) := by decide +kernel
theorem dX1_seek_75 : decode cX1_seek 75 = .ok (.iload 5, 2) := by decide +kernel
theorem dX1_seek_77 : decode cX1_seek 77 = .ok (.iload 6, 2) := by decide +kernel
theorem dX1_seek_79 : decode cX1_seek 79 = .ok (.invokevirtual 21, 3) := by decide +kernel
theorem dX1_seek_82 : decode cX1_seek 82 = .ok (.iinc 5 1, 3) := by decide +kernel
theorem dX1_seek_85 : decode cX1_seek 85 = .ok (.goto (-62), 3) := by decide +kernel
theorem dX1_seek_88 : decode cX1_seek 88 = .ok (.iinc 4 1, 3) := by decide +kernel
theorem dX1_seek_91 : decode cX1_seek 91 = .ok (.goto (-78), 3) := by decide +kernel
theorem dX1_seek_94 : decode cX1_seek 94 = .ok (.iinc 3 1, 3) := by decide +kernel
theorem dX1_seek_97 : decode cX1_seek 97 = .ok (.goto (-93), 3) := by decide +kernel
theorem dX1_seek_100 : decode cX1_seek 100 = .ok (.iload_n 2, 1) := by decide +kernel
theorem dX1_seek_101 : decode cX1_seek 101 = .ok (.ireturn, 1) := by decide +kernel
theorem dX1_sum_0 : decode cX1_sum 0 = .ok (.aload_n 0, 1) := by decide +kernel
theorem dX1_sum_1 : decode cX1_sum 1 = .ok (.getfield 7, 3) := by decide +kernel
theorem dX1_sum_4 : decode cX1_sum 4 = .ok (.iload_n 1, 1) := by decide +kernel
theorem dX1_sum_5 : decode cX1_sum 5 = .ok (.iaload, 1) := by decide +kernel
theorem dX1_sum_6 : decode cX1_sum 6 = .ok (.iload_n 2, 1) := by decide +kernel
theorem dX1_sum_7 : decode cX1_sum 7 = .ok (.imul, 1) := by decide +kernel
theorem dX1_sum_8 : decode cX1_sum 8 = .ok (.aload_n 0, 1) := by decide +kernel
theorem dX1_sum_9 : decode cX1_sum 9 = .ok (.getfield 7, 3) := by decide +kernel
theorem dX1_sum_12 : decode cX1_sum 12 = .ok (.iload_n 1, 1) := by decide +kernel
theorem dX1_sum_13 : decode cX1_sum 13 = .ok (.iconst 1, 1) := by decide +kernel
theorem dX1_sum_14 : decode cX1_sum 14 = .ok (.iadd, 1) := by decide +kernel
theorem dX1_sum_15 : decode cX1_sum 15 = .ok (.iaload, 1) := by decide +kernel
theorem dX1_sum_16 : decode cX1_sum 16 = .ok (.iload_n 3, 1) := by decide +kernel
theorem dX1_sum_17 : decode cX1_sum 17 = .ok (.imul, 1) := by decide +kernel
theorem dX1_sum_18 : decode cX1_sum 18 = .ok (.iadd, 1) := by decide +kernel
theorem dX1_sum_19 : decode cX1_sum 19 = .ok (.aload_n 0, 1) := by decide +kernel
theorem dX1_sum_20 : decode cX1_sum 20 = .ok (.getfield 7, 3) := by decide +kernel
theorem dX1_sum_23 : decode cX1_sum 23 = .ok (.iload_n 1, 1) := by decide +kernel
theorem dX1_sum_24 : decode cX1_sum 24 = .ok (.iconst 2, 1) := by decide +kernel
theorem dX1_sum_25 : decode cX1_sum 25 = .ok (.iadd, 1) := by decide +kernel
theorem dX1_sum_26 : decode cX1_sum 26 = .ok (.iaload, 1) := by decide +kernel
theorem dX1_sum_27 : decode cX1_sum 27 = .ok (.iload 4, 2) := by decide +kernel
theorem dX1_sum_29 : decode cX1_sum 29 = .ok (.imul, 1) := by decide +kernel
theorem dX1_sum_30 : decode cX1_sum 30 = .ok (.iadd, 1) := by decide +kernel
theorem dX1_sum_31 : decode cX1_sum 31 = .ok (.ireturn, 1) := by decide +kernel
theorem dX1_hold_0 : decode cX1_hold 0 = .ok (.aload_n 0, 1) := by decide +kernel
theorem dX1_hold_1 : decode cX1_hold 1 = .ok (.iload_n 1, 1) := by decide +kernel
theorem dX1_hold_2 : decode cX1_hold 2 = .ok (.putfield 25, 3) := by decide +kernel
theorem dX1_hold_5 : decode cX1_hold 5 = .ok (.aload_n 0, 1) := by decide +kernel
theorem dX1_hold_6 : decode cX1_hold 6 = .ok (.iload_n 2, 1) := by decide +kernel
theorem dX1_hold_7 : decode cX1_hold 7 = .ok (.putfield 28, 3) := by decide +kernel
theorem dX1_hold_10 : decode cX1_hold 10 = .ok (.aload_n 0, 1) := by decide +kernel
theorem dX1_hold_11 : decode cX1_hold 11 = .ok (.iload_n 3, 1) := by decide +kernel
theorem dX1_hold_12 : decode cX1_hold 12 = .ok (.putfield 31, 3) := by decide +kernel
theorem dX1_hold_15 : decode cX1_hold 15 = .ok (.aload_n 0, 1) := by decide +kernel
theorem dX1_hold_16 : decode cX1_hold 16 = .ok (.iload 4, 2) := by decide +kernel
theorem dX1_hold_18 : decode cX1_hold 18 = .ok (.putfield 17, 3) := by decide +kernel
theorem dX1_hold_21 : decode cX1_hold 21 = .ok (.return_, 1) := by decide +kernel
theorem dX2_init_0 : decode cX2_init 0 = .ok (.aload_n 0, 1) := by decide +kernel
theorem dX2_init_1 : decode cX2_init 1 = .ok (.invokespecial 3, 3) := by decide +kernel
theorem dX2_init_4 : decode cX2_init 4 = .ok (.aload_n 0, 1) := by decide +kernel
theorem dX2_init_5 : decode cX2_init 5 = .ok (.bipush 6, 2) := by decide +kernel
theorem dX2_init_7 : decode cX2_init 7 = .ok (.newarray .int, 2) := by decide +kernel
theorem dX2_init_9 : decode cX2_init 9 = .ok (.putfield 11, 3) := by decide +kernel
theorem dX2_init_12 : decode cX2_init 12 = .ok (.aload_n 0, 1) := by decide +kernel
theorem dX2_init_13 : decode cX2_init 13 = .ok (.invokevirtual 15, 3) := by decide +kernel
theorem dX2_init_16 : decode cX2_init 16 = .ok (.return_, 1) := by decide +kernel
theorem dX2_forget_0 : decode cX2_forget 0 = .ok (.getstatic 18, 3) := by decide +kernel
theorem dX2_forget_3 : decode cX2_forget 3 = .ok (.iconst 0, 1) := by decide +kernel
theorem dX2_forget_4 : decode cX2_forget 4 = .ok (.aload_n 0, 1) := by decide +kernel
theorem dX2_forget_5 : decode cX2_forget 5 = .ok (.getfield 11, 3) := by decide +kernel
theorem dX2_forget_8 : decode cX2_forget 8 = .ok (.iconst 0, 1) := by decide +kernel
theorem dX2_forget_9 : decode cX2_forget 9 = .ok (.bipush 6, 2) := by decide +kernel
theorem dX2_forget_11 : decode cX2_forget 11 = .ok (.invokestatic 21, 3) := by decide +kernel
theorem dX2_forget_14 : decode cX2_forget 14 = .ok (.return_, 1) := by decide +kernel
theorem dX2_become_0 : decode cX2_become 0 = .ok (.aload_n 1, 1) := by decide +kernel
theorem dX2_become_1 : decode cX2_become 1 = .ok (.getfield 11, 3) := by decide +kernel
theorem dX2_become_4 : decode cX2_become 4 = .ok (.iconst 0, 1) := by decide +kernel
theorem dX2_become_5 : decode cX2_become 5 = .ok (.aload_n 0, 1) := by decide +kernel
theorem dX2_become_6 : decode cX2_become 6 = .ok (.getfield 11, 3) := by decide +kernel
theorem dX2_become_9 : decode cX2_become 9 = .ok (.iconst 0, 1) := by decide +kernel
theorem dX2_become_10 : decode cX2_become 10 = .ok (.bipush 6, 2) := by decide +kernel
theorem dX2_become_12 : decode cX2_become 12 = .ok (.invokestatic 21, 3) := by decide +kernel
theorem dX2_become_15 : decode cX2_become 15 = .ok (.return_, 1) := by decide +kernel
theorem dX2_lastOf_0 : decode cX2_lastOf 0 = .ok (.aload_n 0, 1) := by decide +kernel
theorem dX2_lastOf_1 : decode cX2_lastOf 1 = .ok (.getfield 11, 3) := by decide +kernel
theorem dX2_lastOf_4 : decode cX2_lastOf 4 = .ok (.iconst 1, 1) := by decide +kernel
theorem dX2_lastOf_5 : decode cX2_lastOf 5 = .ok (.iaload, 1) := by decide +kernel
theorem dX2_lastOf_6 : decode cX2_lastOf 6 = .ok (.iload_n 1, 1) := by decide +kernel
theorem dX2_lastOf_7 : decode cX2_lastOf 7 = .ok (.invokestatic 27, 3) := by decide +kernel
theorem dX2_lastOf_10 : decode cX2_lastOf 10 = .ok (.ireturn, 1) := by decide +kernel
theorem dX2_bestOf_0 : decode cX2_bestOf 0 = .ok (.aload_n 0, 1) := by decide +kernel
theorem dX2_bestOf_1 : decode cX2_bestOf 1 = .ok (.getfield 11, 3) := by decide +kernel
theorem dX2_bestOf_4 : decode cX2_bestOf 4 = .ok (.iconst 0, 1) := by decide +kernel
theorem dX2_bestOf_5 : decode cX2_bestOf 5 = .ok (.iaload, 1) := by decide +kernel
theorem dX2_bestOf_6 : decode cX2_bestOf 6 = .ok (.iload_n 1, 1) := by decide +kernel
theorem dX2_bestOf_7 : decode cX2_bestOf 7 = .ok (.invokestatic 27, 3) := by decide +kernel
theorem dX2_bestOf_10 : decode cX2_bestOf 10 = .ok (.ireturn, 1) := by decide +kernel
theorem dX2_ceiling_0 : decode cX2_ceiling 0 = .ok (.iload_n 1, 1) := by decide +kernel
theorem dX2_ceiling_1 : decode cX2_ceiling 1 = .ok (.aload_n 0, 1) := by decide +kernel
theorem dX2_ceiling_2 : decode cX2_ceiling 2 = .ok (.getfield 11, 3) := by decide +kernel
theorem dX2_ceiling_5 : decode cX2_ceiling 5 = .ok (.iconst 5, 1) := by decide +kernel
theorem dX2_ceiling_6 : decode cX2_ceiling 6 = .ok (.iaload, 1) := by decide +kernel
theorem dX2_ceiling_7 : decode cX2_ceiling 7 = .ok (.iadd, 1) := by decide +kernel
theorem dX2_ceiling_8 : decode cX2_ceiling 8 = .ok (.ireturn, 1) := by decide +kernel
theorem dX2_moved_0 : decode cX2_moved 0 = .ok (.iload_n 3, 1) := by decide +kernel
theorem dX2_moved_1 : decode cX2_moved 1 = .ok (.iconst 1, 1) := by decide +kernel
theorem dX2_moved_2 : decode cX2_moved 2 = .ok (.if_icmp .lt 13, 3) := by decide +kernel
theorem dX2_moved_5 : decode cX2_moved 5 = .ok (.aload_n 0, 1) := by decide +kernel
theorem dX2_moved_6 : decode cX2_moved 6 = .ok (.getfield 11, 3) := by decide +kernel
theorem dX2_moved_9 : decode cX2_moved 9 = .ok (.iconst 3, 1) := by decide +kernel
theorem dX2_moved_10 : decode cX2_moved 10 = .ok (.iaload, 1) := by decide +kernel
theorem dX2_moved_11 : decode cX2_moved 11 = .ok (.iconst 1, 1) := by decide +kernel
theorem dX2_moved_12 : decode cX2_moved 12 = .ok (.if_icmp .ge 5, 3) := by decide +kernel
theorem dX2_moved_15 : decode cX2_moved 15 = .ok (.iload_n 1, 1) := by decide +kernel
theorem dX2_moved_16 : decode cX2_moved 16 = .ok (.ireturn, 1) := by decide +kernel
theorem dX2_moved_17 : decode cX2_moved 17 = .ok (.iload_n 2, 1) := by decide +kernel
theorem dX2_moved_18 : decode cX2_moved 18 = .ok (.iload_n 3, 1) := by decide +kernel
theorem dX2_moved_19 : decode cX2_moved 19 = .ok (.invokestatic 33, 3) := by decide +kernel
theorem dX2_moved_22 : decode cX2_moved 22 = .ok (.istore 4, 2) := by decide +kernel
theorem dX2_moved_24 : decode cX2_moved 24 = .ok (.aload_n 0, 1) := by decide +kernel
theorem dX2_moved_25 : decode cX2_moved 25 = .ok (.getfield 11, 3) := by decide +kernel
theorem dX2_moved_28 : decode cX2_moved 28 = .ok (.iconst 2, 1) := by decide +kernel
theorem dX2_moved_29 : decode cX2_moved 29 = .ok (.iaload, 1) := by decide +kernel
theorem dX2_moved_30 : decode cX2_moved 30 = .ok (.iload 4, 2) := by decide +kernel
theorem dX2_moved_32 : decode cX2_moved 32 = .ok (.iload_n 1, 1) := by decide +kernel
theorem dX2_moved_33 : decode cX2_moved 33 = .ok (.isub, 1) := by decide +kernel
theorem dX2_moved_34 : decode cX2_moved 34 = .ok (.imul, 1) := by decide +kernel
theorem dX2_moved_35 : decode cX2_moved 35 = .ok (.aload_n 0, 1) := by decide +kernel
theorem dX2_moved_36 : decode cX2_moved 36 = .ok (.getfield 11, 3) := by decide +kernel
theorem dX2_moved_39 : decode cX2_moved 39 = .ok (.iconst 3, 1) := by decide +kernel
theorem dX2_moved_40 : decode cX2_moved 40 = .ok (.iaload, 1) := by decide +kernel
theorem dX2_moved_41 : decode cX2_moved 41 = .ok (.idiv, 1) := by decide +kernel
theorem dX2_moved_42 : decode cX2_moved 42 = .ok (.istore 5, 2) := by decide +kernel
theorem dX2_moved_44 : decode cX2_moved 44 = .ok (.iload_n 1, 1) := by decide +kernel
theorem dX2_moved_45 : decode cX2_moved 45 = .ok (.iload 5, 2) := by decide +kernel
theorem dX2_moved_47 : decode cX2_moved 47 = .ok (.aload_n 0, 1) := by decide +kernel
theorem dX2_moved_48 : decode cX2_moved 48 = .ok (.getfield 11, 3) := by decide +kernel
theorem dX2_moved_51 : decode cX2_moved 51 = .ok (.iconst 4, 1) := by decide +kernel
theorem dX2_moved_52 : decode cX2_moved 52 = .ok (.iaload, 1) := by decide +kernel
theorem dX2_moved_53 : decode cX2_moved 53 = .ok (.ineg, 1) := by decide +kernel
theorem dX2_moved_54 : decode cX2_moved 54 = .ok (.aload_n 0, 1) := by decide +kernel
theorem dX2_moved_55 : decode cX2_moved 55 = .ok (.getfield 11, 3) := by decide +kernel
theorem dX2_moved_58 : decode cX2_moved 58 = .ok (.iconst 4, 1) := by decide +kernel
theorem dX2_moved_59 : decode cX2_moved 59 = .ok (.iaload, 1) := by decide +kernel
theorem dX2_moved_60 : decode cX2_moved 60 = .ok (.invokestatic 36, 3) := by decide +kernel
theorem dX2_moved_63 : decode cX2_moved 63 = .ok (.iadd, 1) := by decide +kernel
theorem dX2_moved_64 : decode cX2_moved 64 = .ok (.iconst 0, 1) := by decide +kernel
theorem dX2_moved_65 : decode cX2_moved 65 = .ok (.sipush 200, 3) := by decide +kernel
theorem dX2_moved_68 : decode cX2_moved 68 = .ok (.invokestatic 36, 3) := by decide +kernel
theorem dX2_moved_71 : decode cX2_moved 71 = .ok (.ireturn, 1) := by decide +kernel
theorem dX3_init_0 : decode cX3_init 0 = .ok (.aload_n 0, 1) := by decide +kernel
theorem dX3_init_1 : decode cX3_init 1 = .ok (.invokespecial 3, 3) := by decide +kernel
theorem dX3_init_4 : decode cX3_init 4 = .ok (.aload_n 0, 1) := by decide +kernel
theorem dX3_init_5 : decode cX3_init 5 = .ok (.sipush 200, 3) := by decide +kernel
theorem dX3_init_8 : decode cX3_init 8 = .ok (.newarray .int, 2) := by decide +kernel
theorem dX3_init_10 : decode cX3_init 10 = .ok (.putfield 11, 3) := by decide +kernel
theorem dX3_init_13 : decode cX3_init 13 = .ok (.return_, 1) := by decide +kernel
theorem dX3_append_0 : decode cX3_append 0 = .ok (.aload_n 0, 1) := by decide +kernel
theorem dX3_append_1 : decode cX3_append 1 = .ok (.getfield 15, 3) := by decide +kernel
theorem dX3_append_4 : decode cX3_append 4 = .ok (.sipush 200, 3) := by decide +kernel
theorem dX3_append_7 : decode cX3_append 7 = .ok (.if_icmp .ge 23, 3) := by decide +kernel
theorem dX3_append_10 : decode cX3_append 10 = .ok (.aload_n 0, 1) := by decide +kernel
theorem dX3_append_11 : decode cX3_append 11 = .ok (.getfield 11, 3) := by decide +kernel
theorem dX3_append_14 : decode cX3_append 14 = .ok (.aload_n 0, 1) := by decide +kernel
theorem dX3_append_15 : decode cX3_append 15 = .ok (.getfield 15, 3) := by decide +kernel
theorem dX3_append_18 : decode cX3_append 18 = .ok (.iload_n 1, 1) := by decide +kernel
theorem dX3_append_19 : decode cX3_append 19 = .ok (.iastore, 1) := by decide +kernel
theorem dX3_append_20 : decode cX3_append 20 = .ok (.aload_n 0, 1) := by decide +kernel
theorem dX3_append_21 : decode cX3_append 21 = .ok (.dup, 1) := by decide +kernel
theorem dX3_append_22 : decode cX3_append 22 = .ok (.getfield 15, 3) := by decide +kernel
theorem dX3_append_25 : decode cX3_append 25 = .ok (.iconst 1, 1) := by decide +kernel
theorem dX3_append_26 : decode cX3_append 26 = .ok (.iadd, 1) := by decide +kernel
theorem dX3_append_27 : decode cX3_append 27 = .ok (.putfield 15, 3) := by decide +kernel
theorem dX3_append_30 : decode cX3_append 30 = .ok (.return_, 1) := by decide +kernel
theorem dX3_readInto_0 : decode cX3_readInto 0 = .ok (.aload_n 1, 1) := by decide +kernel
theorem dX3_readInto_1 : decode cX3_readInto 1 = .ok (.invokevirtual 19, 3) := by decide +kernel
theorem dX3_readInto_4 : decode cX3_readInto 4 = .ok (.aload_n 0, 1) := by decide +kernel
theorem dX3_readInto_5 : decode cX3_readInto 5 = .ok (.iconst 0, 1) := by decide +kernel
theorem dX3_readInto_6 : decode cX3_readInto 6 = .ok (.putfield 24, 3) := by decide +kernel
theorem dX3_readInto_9 : decode cX3_readInto 9 = .ok (.aload_n 0, 1) := by decide +kernel
theorem dX3_readInto_10 : decode cX3_readInto 10 = .ok (.iconst 0, 1) := by decide +kernel
theorem dX3_readInto_11 : decode cX3_readInto 11 = .ok (.putfield 27, 3) := by decide +kernel
theorem dX3_readInto_14 : decode cX3_readInto 14 = .ok (.aload_n 0, 1) := by decide +kernel
theorem dX3_readInto_15 : decode cX3_readInto 15 = .ok (.invokevirtual 30, 3) := by decide +kernel
theorem dX3_readInto_18 : decode cX3_readInto 18 = .ok (.iconst 0, 1) := by decide +kernel
theorem dX3_readInto_19 : decode cX3_readInto 19 = .ok (.istore_n 2, 1) := by decide +kernel
theorem dX3_readInto_20 : decode cX3_readInto 20 = .ok (.iload_n 2, 1) := by decide +kernel
theorem dX3_readInto_21 : decode cX3_readInto 21 = .ok (.iconst 4, 1) := by decide +kernel
theorem dX3_readInto_22 : decode cX3_readInto 22 = .ok (.if_icmp .gt 35, 3) := by decide +kernel
theorem dX3_readInto_25 : decode cX3_readInto 25 = .ok (.aload_n 0, 1) := by decide +kernel
theorem dX3_readInto_26 : decode cX3_readInto 26 = .ok (.getfield 33, 3) := by decide +kernel
theorem dX3_readInto_29 : decode cX3_readInto 29 = .ok (.ifCond .eq 28, 3) := by decide +kernel
theorem dX3_readInto_32 : decode cX3_readInto 32 = .ok (.aload_n 0, 1) := by decide +kernel
theorem dX3_readInto_33 : decode cX3_readInto 33 = .ok (.aload_n 1, 1) := by decide +kernel
theorem dX3_readInto_34 : decode cX3_readInto 34 = .ok (.getfield 36, 3) := by decide +kernel
theorem dX3_readInto_37 : decode cX3_readInto 37 = .ok (.invokevirtual 39, 3) := by decide +kernel
theorem dX3_readInto_40 : decode cX3_readInto 40 = .ok (.ifCond .ne 11, 3) := by decide +kernel
theorem dX3_readInto_43 : decode cX3_readInto 43 = .ok (.bipush (-10), 2) := by decide +kernel
theorem dX3_readInto_45 : decode cX3_readInto 45 = .ok (.aload_n 0, 1) := by decide +kernel
theorem dX3_readInto_46 : decode cX3_readInto 46 = .ok (.getfield 43, 3) := by decide +kernel
theorem dX3_readInto_49 : decode cX3_readInto 49 = .ok (.isub, 1) := by decide +kernel
theorem dX3_readInto_50 : decode cX3_readInto 50 = .ok (.ireturn, 1) := by decide +kernel
theorem dX3_readInto_51 : decode cX3_readInto 51 = .ok (.iinc 2 1, 3) := by decide +kernel
theorem dX3_readInto_54 : decode cX3_readInto 54 = .ok (.goto (-34), 3) := by decide +kernel
theorem dX3_readInto_57 : decode cX3_readInto 57 = .ok (.iload_n 2, 1) := by decide +kernel
theorem dX3_readInto_58 : decode cX3_readInto 58 = .ok (.ireturn, 1) := by decide +kernel
theorem dX3_item_0 : decode cX3_item 0 = .ok (.aload_n 0, 1) := by decide +kernel
theorem dX3_item_1 : decode cX3_item 1 = .ok (.getfield 33, 3) := by decide +kernel
theorem dX3_item_4 : decode cX3_item 4 = .ok (.istore_n 2, 1) := by decide +kernel
theorem dX3_item_5 : decode cX3_item 5 = .ok (.iload_n 2, 1) := by decide +kernel
theorem dX3_item_6 : decode cX3_item 6 = .ok (.iconst 5, 1) := by decide +kernel
theorem dX3_item_7 : decode cX3_item 7 = .ok (.if_icmp .lt 20, 3) := by decide +kernel
theorem dX3_item_10 : decode cX3_item 10 = .ok (.iload_n 2, 1) := by decide +kernel
theorem dX3_item_11 : decode cX3_item 11 = .ok (.bipush 6, 2) := by decide +kernel
theorem dX3_item_13 : decode cX3_item 13 = .ok (.if_icmp .eq 14, 3) := by decide +kernel
theorem dX3_item_16 : decode cX3_item 16 = .ok (.aload_n 0, 1) := by decide +kernel
theorem dX3_item_17 : decode cX3_item 17 = .ok (.getfield 27, 3) := by decide +kernel
theorem dX3_item_20 : decode cX3_item 20 = .ok (.iload_n 2, 1) := by decide +kernel
theorem dX3_item_21 : decode cX3_item 21 = .ok (.invokestatic 46, 3) := by decide +kernel
theorem dX3_item_24 : decode cX3_item 24 = .ok (.ifCond .eq 5, 3) := by decide +kernel
theorem dX3_item_27 : decode cX3_item 27 = .ok (.iconst 0, 1) := by decide +kernel
theorem dX3_item_28 : decode cX3_item 28 = .ok (.ireturn, 1) := by decide +kernel
theorem dX3_item_29 : decode cX3_item 29 = .ok (.aload_n 0, 1) := by decide +kernel
theorem dX3_item_30 : decode cX3_item 30 = .ok (.dup, 1) := by decide +kernel
theorem dX3_item_31 : decode cX3_item 31 = .ok (.getfield 27, 3) := by decide +kernel
theorem dX3_item_34 : decode cX3_item 34 = .ok (.iconst 1, 1) := by decide +kernel
theorem dX3_item_35 : decode cX3_item 35 = .ok (.iload_n 2, 1) := by decide +kernel
theorem dX3_item_36 : decode cX3_item 36 = .ok (.ishl, 1) := by decide +kernel
theorem dX3_item_37 : decode cX3_item 37 = .ok (.ior, 1) := by decide +kernel
theorem dX3_item_38 : decode cX3_item 38 = .ok (.putfield 27, 3) := by decide +kernel
theorem dX3_item_41 : decode cX3_item 41 = .ok (.aload_n 0, 1) := by decide +kernel
theorem dX3_item_42 : decode cX3_item 42 = .ok (.invokevirtual 30, 3) := by decide +kernel
theorem dX3_item_45 : decode cX3_item 45 = .ok (.iload_n 2, 1) := by decide +kernel
theorem dX3_item_46 : decode cX3_item 46 = .ok (.tableswitch 131 5 8 #[30, 131, 74, 117], 30) := by decide +kernel
theorem dX3_item_76 : decode cX3_item 76 = .ok (.aload_n 0, 1) := by decide +kernel
theorem dX3_item_77 : decode cX3_item 77 = .ok (.aload_n 1, 1) := by decide +kernel
theorem dX3_item_78 : decode cX3_item 78 = .ok (.iconst 0, 1) := by decide +kernel
theorem dX3_item_79 : decode cX3_item 79 = .ok (.iconst 1, 1) := by decide +kernel
theorem dX3_item_80 : decode cX3_item 80 = .ok (.bipush 12, 2) := by decide +kernel
theorem dX3_item_82 : decode cX3_item 82 = .ok (.invokevirtual 50, 3) := by decide +kernel
theorem dX3_item_85 : decode cX3_item 85 = .ok (.ifCond .eq 30, 3) := by decide +kernel
theorem dX3_item_88 : decode cX3_item 88 = .ok (.aload_n 0, 1) := by decide +kernel
theorem dX3_item_89 : decode cX3_item 89 = .ok (.bipush 6, 2) := by decide +kernel
theorem dX3_item_91 : decode cX3_item 91 = .ok (.invokevirtual 54, 3) := by decide +kernel
theorem dX3_item_94 : decode cX3_item 94 = .ok (.ifCond .eq 21, 3) := by decide +kernel
theorem dX3_item_97 : decode cX3_item 97 = .ok (.aload_n 0, 1) := by decide +kernel
theorem dX3_item_98 : decode cX3_item 98 = .ok (.aload_n 1, 1) := by decide +kernel
theorem dX3_item_99 : decode cX3_item 99 = .ok (.iconst 1, 1) := by decide +kernel
theorem dX3_item_100 : decode cX3_item 100 = .ok (.aload_n 1, 1) := by decide +kernel
theorem dX3_item_101 : decode cX3_item 101 = .ok (.iconst 0, 1) := by decide +kernel
theorem dX3_item_102 : decode cX3_item 102 = .ok (.iaload, 1) := by decide +kernel
theorem dX3_item_103 : decode cX3_item 103 = .ok (.bipush 12, 2) := by decide +kernel
theorem dX3_item_105 : decode cX3_item 105 = .ok (.invokevirtual 50, 3) := by decide +kernel
theorem dX3_item_108 : decode cX3_item 108 = .ok (.ifCond .eq 7, 3) := by decide +kernel
theorem dX3_item_111 : decode cX3_item 111 = .ok (.iconst 1, 1) := by decide +kernel
theorem dX3_item_112 : decode cX3_item 112 = .ok (.goto 4, 3) := by decide +kernel
theorem dX3_item_115 : decode cX3_item 115 = .ok (.iconst 0, 1) := by decide +kernel
theorem dX3_item_116 : decode cX3_item 116 = .ok (.istore_n 3, 1) := by decide +kernel
theorem dX3_item_117 : decode cX3_item 117 = .ok (.goto 71, 3) := by decide +kernel
theorem dX3_item_120 : decode cX3_item 120 = .ok (.aload_n 0, 1) := by decide +kernel
theorem dX3_item_121 : decode cX3_item 121 = .ok (.aload_n 1, 1) := by decide +kernel
theorem dX3_item_122 : decode cX3_item 122 = .ok (.iconst 2, 1) := by decide +kernel
theorem dX3_item_123 : decode cX3_item 123 = .ok (.iconst 1, 1) := by decide +kernel
theorem dX3_item_124 : decode cX3_item 124 = .ok (.bipush 20, 2) := by decide +kernel
theorem dX3_item_126 : decode cX3_item 126 = .ok (.invokevirtual 50, 3) := by decide +kernel
theorem dX3_item_129 : decode cX3_item 129 = .ok (.ifCond .eq 29, 3) := by decide +kernel
theorem dX3_item_132 : decode cX3_item 132 = .ok (.aload_n 0, 1) := by decide +kernel
theorem dX3_item_133 : decode cX3_item 133 = .ok (.iconst 3, 1) := by decide +kernel
theorem dX3_item_134 : decode cX3_item 134 = .ok (.invokevirtual 54, 3) := by decide +kernel
theorem dX3_item_137 : decode cX3_item 137 = .ok (.ifCond .eq 21, 3) := by decide +kernel
theorem dX3_item_140 : decode cX3_item 140 = .ok (.aload_n 0, 1) := by decide +kernel
theorem dX3_item_141 : decode cX3_item 141 = .ok (.aload_n 1, 1) := by decide +kernel
theorem dX3_item_142 : decode cX3_item 142 = .ok (.iconst 3, 1) := by decide +kernel
theorem dX3_item_143 : decode cX3_item 143 = .ok (.aload_n 1, 1) := by decide +kernel
theorem dX3_item_144 : decode cX3_item 144 = .ok (.iconst 2, 1) := by decide +kernel
theorem dX3_item_145 : decode cX3_item 145 = .ok (.iaload, 1) := by decide +kernel
theorem dX3_item_146 : decode cX3_item 146 = .ok (.bipush 20, 2) := by decide +kernel
theorem dX3_item_148 : decode cX3_item 148 = .ok (.invokevirtual 50, 3) := by decide +kernel
theorem dX3_item_151 : decode cX3_item 151 = .ok (.ifCond .eq 7, 3) := by decide +kernel
theorem dX3_item_154 : decode cX3_item 154 = .ok (.iconst 1, 1) := by decide +kernel
theorem dX3_item_155 : decode cX3_item 155 = .ok (.goto 4, 3) := by decide +kernel
theorem dX3_item_158 : decode cX3_item 158 = .ok (.iconst 0, 1) := by decide +kernel
theorem dX3_item_159 : decode cX3_item 159 = .ok (.istore_n 3, 1) := by decide +kernel
theorem dX3_item_160 : decode cX3_item 160 = .ok (.goto 28, 3) := by decide +kernel
theorem dX3_item_163 : decode cX3_item 163 = .ok (.aload_n 0, 1) := by decide +kernel
theorem dX3_item_164 : decode cX3_item 164 = .ok (.aload_n 1, 1) := by decide +kernel
theorem dX3_item_165 : decode cX3_item 165 = .ok (.iconst 4, 1) := by decide +kernel
theorem dX3_item_166 : decode cX3_item 166 = .ok (.iconst 0, 1) := by decide +kernel
theorem dX3_item_167 : decode cX3_item 167 = .ok (.sipush 200, 3) := by decide +kernel
theorem dX3_item_170 : decode cX3_item 170 = .ok (.invokevirtual 50, 3) := by decide +kernel
theorem dX3_item_173 : decode cX3_item 173 = .ok (.istore_n 3, 1) := by decide +kernel
theorem dX3_item_174 : decode cX3_item 174 = .ok (.goto 14, 3) := by decide +kernel
theorem dX3_item_177 : decode cX3_item 177 = .ok (.aload_n 0, 1) := by decide +kernel
theorem dX3_item_178 : decode cX3_item 178 = .ok (.aload_n 1, 1) := by decide +kernel
theorem dX3_item_179 : decode cX3_item 179 = .ok (.iconst 5, 1) := by decide +kernel
theorem dX3_item_180 : decode cX3_item 180 = .ok (.iconst 0, 1) := by decide +kernel
theorem dX3_item_181 : decode cX3_item 181 = .ok (.sipush 200, 3) := by decide +kernel
theorem dX3_item_184 : decode cX3_item 184 = .ok (.invokevirtual 50, 3) := by decide +kernel
theorem dX3_item_187 : decode cX3_item 187 = .ok (.istore_n 3, 1) := by decide +kernel
theorem dX3_item_188 : decode cX3_item 188 = .ok (.iload_n 3, 1) := by decide +kernel
theorem dX3_item_189 : decode cX3_item 189 = .ok (.ifCond .eq 15, 3) := by decide +kernel
theorem dX3_item_192 : decode cX3_item 192 = .ok (.aload_n 0, 1) := by decide +kernel
theorem dX3_item_193 : decode cX3_item 193 = .ok (.iconst 4, 1) := by decide +kernel
theorem dX3_item_194 : decode cX3_item 194 = .ok (.invokevirtual 54, 3) := by decide +kernel
theorem dX3_item_197 : decode cX3_item 197 = .ok (.ifCond .eq 7, 3) := by decide +kernel
theorem dX3_item_200 : decode cX3_item 200 = .ok (.iconst 1, 1) := by decide +kernel
theorem dX3_item_201 : decode cX3_item 201 = .ok (.goto 4, 3) := by decide +kernel
theorem dX3_item_204 : decode cX3_item 204 = .ok (.iconst 0, 1) := by decide +kernel
theorem dX3_item_205 : decode cX3_item 205 = .ok (.ireturn, 1) := by decide +kernel
theorem dX3_sign_0 : decode cX3_sign 0 = .ok (.aload_n 0, 1) := by decide +kernel
theorem dX3_sign_1 : decode cX3_sign 1 = .ok (.getfield 33, 3) := by decide +kernel
theorem dX3_sign_4 : decode cX3_sign 4 = .ok (.iload_n 1, 1) := by decide +kernel
theorem dX3_sign_5 : decode cX3_sign 5 = .ok (.if_icmp .eq 5, 3) := by decide +kernel
theorem dX3_sign_8 : decode cX3_sign 8 = .ok (.iconst 0, 1) := by decide +kernel
theorem dX3_sign_9 : decode cX3_sign 9 = .ok (.ireturn, 1) := by decide +kernel
theorem dX3_sign_10 : decode cX3_sign 10 = .ok (.aload_n 0, 1) := by decide +kernel
theorem dX3_sign_11 : decode cX3_sign 11 = .ok (.invokevirtual 30, 3) := by decide +kernel
theorem dX3_sign_14 : decode cX3_sign 14 = .ok (.iconst 1, 1) := by decide +kernel
theorem dX3_sign_15 : decode cX3_sign 15 = .ok (.ireturn, 1) := by decide +kernel
theorem dX3_numeral_0 : decode cX3_numeral 0 = .ok (.aload_n 0, 1) := by decide +kernel
theorem dX3_numeral_1 : decode cX3_numeral 1 = .ok (.getfield 33, 3) := by decide +kernel
theorem dX3_numeral_4 : decode cX3_numeral 4 = .ok (.iconst 2, 1) := by decide +kernel
theorem dX3_numeral_5 : decode cX3_numeral 5 = .ok (.if_icmp .ne 16, 3) := by decide +kernel
theorem dX3_numeral_8 : decode cX3_numeral 8 = .ok (.aload_n 0, 1) := by decide +kernel
theorem dX3_numeral_9 : decode cX3_numeral 9 = .ok (.getfield 58, 3) := by decide +kernel
theorem dX3_numeral_12 : decode cX3_numeral 12 = .ok (.iload_n 3, 1) := by decide +kernel
theorem dX3_numeral_13 : decode cX3_numeral 13 = .ok (.iload 4, 2) := by decide +kernel
theorem dX3_numeral_15 : decode cX3_numeral 15 = .ok (.invokestatic 61, 3) := by decide +kernel
theorem dX3_numeral_18 : decode cX3_numeral 18 = .ok (.ifCond .ne 5, 3) := by decide +kernel
theorem dX3_numeral_21 : decode cX3_numeral 21 = .ok (.iconst 0, 1) := by decide +kernel
theorem dX3_numeral_22 : decode cX3_numeral 22 = .ok (.ireturn, 1) := by decide +kernel
theorem dX3_numeral_23 : decode cX3_numeral 23 = .ok (.aload_n 1, 1) := by decide +kernel
theorem dX3_numeral_24 : decode cX3_numeral 24 = .ok (.iload_n 2, 1) := by decide +kernel
theorem dX3_numeral_25 : decode cX3_numeral 25 = .ok (.aload_n 0, 1) := by decide +kernel
theorem dX3_numeral_26 : decode cX3_numeral 26 = .ok (.getfield 58, 3) := by decide +kernel
theorem dX3_numeral_29 : decode cX3_numeral 29 = .ok (.iastore, 1) := by decide +kernel
theorem dX3_numeral_30 : decode cX3_numeral 30 = .ok (.aload_n 0, 1) := by decide +kernel
theorem dX3_numeral_31 : decode cX3_numeral 31 = .ok (.invokevirtual 30, 3) := by decide +kernel
theorem dX3_numeral_34 : decode cX3_numeral 34 = .ok (.iconst 1, 1) := by decide +kernel
theorem dX3_numeral_35 : decode cX3_numeral 35 = .ok (.ireturn, 1) := by decide +kernel
theorem dX3_next_0 : decode cX3_next 0 = .ok (.aload_n 0, 1) := by decide +kernel
theorem dX3_next_1 : decode cX3_next 1 = .ok (.getfield 24, 3) := by decide +kernel
theorem dX3_next_4 : decode cX3_next 4 = .ok (.aload_n 0, 1) := by decide +kernel
theorem dX3_next_5 : decode cX3_next 5 = .ok (.getfield 15, 3) := by decide +kernel
theorem dX3_next_8 : decode cX3_next 8 = .ok (.if_icmp .ge 30, 3) := by decide +kernel
theorem dX3_next_11 : decode cX3_next 11 = .ok (.aload_n 0, 1) := by decide +kernel
theorem dX3_next_12 : decode cX3_next 12 = .ok (.getfield 11, 3) := by decide +kernel
theorem dX3_next_15 : decode cX3_next 15 = .ok (.aload_n 0, 1) := by decide +kernel
theorem dX3_next_16 : decode cX3_next 16 = .ok (.getfield 24, 3) := by decide +kernel
theorem dX3_next_19 : decode cX3_next 19 = .ok (.iaload, 1) := by decide +kernel
theorem dX3_next_20 : decode cX3_next 20 = .ok (.bipush 32, 2) := by decide +kernel
theorem dX3_next_22 : decode cX3_next 22 = .ok (.if_icmp .ne 16, 3) := by decide +kernel
theorem dX3_next_25 : decode cX3_next 25 = .ok (.aload_n 0, 1) := by decide +kernel
theorem dX3_next_26 : decode cX3_next 26 = .ok (.dup, 1) := by decide +kernel
theorem dX3_next_27 : decode cX3_next 27 = .ok (.getfield 24, 3) := by decide +kernel
theorem dX3_next_30 : decode cX3_next 30 = .ok (.iconst 1, 1) := by decide +kernel
theorem dX3_next_31 : decode cX3_next 31 = .ok (.iadd, 1) := by decide +kernel
theorem dX3_next_32 : decode cX3_next 32 = .ok (.putfield 24, 3) := by decide +kernel
theorem dX3_next_35 : decode cX3_next 35 = .ok (.goto (-35), 3) := by decide +kernel
theorem dX3_next_38 : decode cX3_next 38 = .ok (.aload_n 0, 1) := by decide +kernel
theorem dX3_next_39 : decode cX3_next 39 = .ok (.aload_n 0, 1) := by decide +kernel
theorem dX3_next_40 : decode cX3_next 40 = .ok (.getfield 24, 3) := by decide +kernel
theorem dX3_next_43 : decode cX3_next 43 = .ok (.putfield 43, 3) := by decide +kernel
theorem dX3_next_46 : decode cX3_next 46 = .ok (.aload_n 0, 1) := by decide +kernel
theorem dX3_next_47 : decode cX3_next 47 = .ok (.getfield 24, 3) := by decide +kernel
theorem dX3_next_50 : decode cX3_next 50 = .ok (.aload_n 0, 1) := by decide +kernel
theorem dX3_next_51 : decode cX3_next 51 = .ok (.getfield 15, 3) := by decide +kernel
theorem dX3_next_54 : decode cX3_next 54 = .ok (.if_icmp .lt 11, 3) := by decide +kernel
theorem dX3_next_57 : decode cX3_next 57 = .ok (.aload_n 0, 1) := by decide +kernel
theorem dX3_next_58 : decode cX3_next 58 = .ok (.iconst 0, 1) := by decide +kernel
theorem dX3_next_59 : decode cX3_next 59 = .ok (.putfield 33, 3) := by decide +kernel
theorem dX3_next_62 : decode cX3_next 62 = .ok (.goto 106, 3) := by decide +kernel
theorem dX3_next_65 : decode cX3_next 65 = .ok (.aload_n 0, 1) := by decide +kernel
theorem dX3_next_66 : decode cX3_next 66 = .ok (.getfield 11, 3) := by decide +kernel
theorem dX3_next_69 : decode cX3_next 69 = .ok (.aload_n 0, 1) := by decide +kernel
theorem dX3_next_70 : decode cX3_next 70 = .ok (.getfield 24, 3) := by decide +kernel
theorem dX3_next_73 : decode cX3_next 73 = .ok (.iaload, 1) := by decide +kernel
theorem dX3_next_74 : decode cX3_next 74 = .ok (.invokestatic 65, 3) := by decide +kernel
theorem dX3_next_77 : decode cX3_next 77 = .ok (.ifCond .eq 14, 3) := by decide +kernel
theorem dX3_next_80 : decode cX3_next 80 = .ok (.aload_n 0, 1) := by decide +kernel
theorem dX3_next_81 : decode cX3_next 81 = .ok (.aload_n 0, 1) := by decide +kernel
theorem dX3_next_82 : decode cX3_next 82 = .ok (.invokevirtual 68, 3) := by decide +kernel
theorem dX3_next_85 : decode cX3_next 85 = .ok (.putfield 33, 3) := by decide +kernel
theorem dX3_next_88 : decode cX3_next 88 = .ok (.goto 80, 3) := by decide +kernel
theorem dX3_next_91 : decode cX3_next 91 = .ok (.aload_n 0, 1) := by decide +kernel
theorem dX3_next_92 : decode cX3_next 92 = .ok (.getfield 11, 3) := by decide +kernel
theorem dX3_next_95 : decode cX3_next 95 = .ok (.aload_n 0, 1) := by decide +kernel
theorem dX3_next_96 : decode cX3_next 96 = .ok (.getfield 24, 3) := by decide +kernel
theorem dX3_next_99 : decode cX3_next 99 = .ok (.iaload, 1) := by decide +kernel
theorem dX3_next_100 : decode cX3_next 100 = .ok (.invokestatic 72, 3) := by decide +kernel
theorem dX3_next_103 : decode cX3_next 103 = .ok (.ifCond .eq 14, 3) := by decide +kernel
theorem dX3_next_106 : decode cX3_next 106 = .ok (.aload_n 0, 1) := by decide +kernel
theorem dX3_next_107 : decode cX3_next 107 = .ok (.aload_n 0, 1) := by decide +kernel
theorem dX3_next_108 : decode cX3_next 108 = .ok (.invokevirtual 75, 3) := by decide +kernel
theorem dX3_next_111 : decode cX3_next 111 = .ok (.putfield 33, 3) := by decide +kernel
theorem dX3_next_114 : decode cX3_next 114 = .ok (.goto 54, 3) := by decide +kernel
theorem dX3_next_117 : decode cX3_next 117 = .ok (.aload_n 0, 1) := by decide +kernel
theorem dX3_next_118 : decode cX3_next 118 = .ok (.aload_n 0, 1) := by decide +kernel
theorem dX3_next_119 : decode cX3_next 119 = .ok (.getfield 11, 3) := by decide +kernel
theorem dX3_next_122 : decode cX3_next 122 = .ok (.aload_n 0, 1) := by decide +kernel
theorem dX3_next_123 : decode cX3_next 123 = .ok (.getfield 24, 3) := by decide +kernel
theorem dX3_next_126 : decode cX3_next 126 = .ok (.iaload, 1) := by decide +kernel
theorem dX3_next_127 : decode cX3_next 127 = .ok (.bipush 47, 2) := by decide +kernel
theorem dX3_next_129 : decode cX3_next 129 = .ok (.if_icmp .ne 7, 3) := by decide +kernel
theorem dX3_next_132 : decode cX3_next 132 = .ok (.iconst 3, 1) := by decide +kernel
theorem dX3_next_133 : decode cX3_next 133 = .ok (.goto 22, 3) := by decide +kernel
theorem dX3_next_136 : decode cX3_next 136 = .ok (.aload_n 0, 1) := by decide +kernel
theorem dX3_next_137 : decode cX3_next 137 = .ok (.getfield 11, 3) := by decide +kernel
theorem dX3_next_140 : decode cX3_next 140 = .ok (.aload_n 0, 1) := by decide +kernel
theorem dX3_next_141 : decode cX3_next 141 = .ok (.getfield 24, 3) := by decide +kernel
theorem dX3_next_144 : decode cX3_next 144 = .ok (.iaload, 1) := by decide +kernel
theorem dX3_next_145 : decode cX3_next 145 = .ok (.bipush 59, 2) := by decide +kernel
theorem dX3_next_147 : decode cX3_next 147 = .ok (.if_icmp .ne 7, 3) := by decide +kernel
theorem dX3_next_150 : decode cX3_next 150 = .ok (.iconst 4, 1) := by decide +kernel
theorem dX3_next_151 : decode cX3_next 151 = .ok (.goto 4, 3) := by decide +kernel
theorem dX3_next_154 : decode cX3_next 154 = .ok (.iconst 1, 1) := by decide +kernel
theorem dX3_next_155 : decode cX3_next 155 = .ok (.putfield 33, 3) := by decide +kernel
theorem dX3_next_158 : decode cX3_next 158 = .ok (.aload_n 0, 1) := by decide +kernel
theorem dX3_next_159 : decode cX3_next 159 = .ok (.dup, 1) := by decide +kernel
theorem dX3_next_160 : decode cX3_next 160 = .ok (.getfield 24, 3) := by decide +kernel
theorem dX3_next_163 : decode cX3_next 163 = .ok (.iconst 1, 1) := by decide +kernel
theorem dX3_next_164 : decode cX3_next 164 = .ok (.iadd, 1) := by decide +kernel
theorem dX3_next_165 : decode cX3_next 165 = .ok (.putfield 24, 3) := by decide +kernel
theorem dX3_next_168 : decode cX3_next 168 = .ok (.return_, 1) := by decide +kernel
theorem dX3_wordToken_0 : decode cX3_wordToken 0 = .ok (.iconst 0, 1) := by decide +kernel
theorem dX3_wordToken_1 : decode cX3_wordToken 1 = .ok (.istore_n 1, 1) := by decide +kernel
theorem dX3_wordToken_2 : decode cX3_wordToken 2 = .ok (.aload_n 0, 1) := by decide +kernel
theorem dX3_wordToken_3 : decode cX3_wordToken 3 = .ok (.getfield 24, 3) := by decide +kernel
theorem dX3_wordToken_6 : decode cX3_wordToken 6 = .ok (.aload_n 0, 1) := by decide +kernel
theorem dX3_wordToken_7 : decode cX3_wordToken 7 = .ok (.getfield 15, 3) := by decide +kernel
theorem dX3_wordToken_10 : decode cX3_wordToken 10 = .ok (.if_icmp .ge 46, 3) := by decide +kernel
theorem dX3_wordToken_13 : decode cX3_wordToken 13 = .ok (.aload_n 0, 1) := by decide +kernel
theorem dX3_wordToken_14 : decode cX3_wordToken 14 = .ok (.getfield 11, 3) := by decide +kernel
theorem dX3_wordToken_17 : decode cX3_wordToken 17 = .ok (.aload_n 0, 1) := by decide +kernel
theorem dX3_wordToken_18 : decode cX3_wordToken 18 = .ok (.getfield 24, 3) := by decide +kernel
theorem dX3_wordToken_21 : decode cX3_wordToken 21 = .ok (.iaload, 1) := by decide +kernel
theorem dX3_wordToken_22 : decode cX3_wordToken 22 = .ok (.invokestatic 65, 3) := by decide +kernel
theorem dX3_wordToken_25 : decode cX3_wordToken 25 = .ok (.ifCond .eq 31, 3) := by decide +kernel
theorem dX3_wordToken_28 : decode cX3_wordToken 28 = .ok (.iload_n 1, 1) := by decide +kernel
theorem dX3_wordToken_29 : decode cX3_wordToken 29 = .ok (.bipush 8, 2) := by decide +kernel
theorem dX3_wordToken_31 : decode cX3_wordToken 31 = .ok (.ishl, 1) := by decide +kernel
theorem dX3_wordToken_32 : decode cX3_wordToken 32 = .ok (.aload_n 0, 1) := by decide +kernel
theorem dX3_wordToken_33 : decode cX3_wordToken 33 = .ok (.getfield 11, 3) := by decide +kernel
theorem dX3_wordToken_36 : decode cX3_wordToken 36 = .ok (.aload_n 0, 1) := by decide +kernel
theorem dX3_wordToken_37 : decode cX3_wordToken 37 = .ok (.getfield 24, 3) := by decide +kernel
theorem dX3_wordToken_40 : decode cX3_wordToken 40 = .ok (.iaload, 1) := by decide +kernel
theorem dX3_wordToken_41 : decode cX3_wordToken 41 = .ok (.ior, 1) := by decide +kernel
theorem dX3_wordToken_42 : decode cX3_wordToken 42 = .ok (.istore_n 1, 1) := by decide +kernel
theorem dX3_wordToken_43 : decode cX3_wordToken 43 = .ok (.aload_n 0, 1) := by decide +kernel
theorem dX3_wordToken_44 : decode cX3_wordToken 44 = .ok (.dup, 1) := by decide +kernel
theorem dX3_wordToken_45 : decode cX3_wordToken 45 = .ok (.getfield 24, 3) := by decide +kernel
theorem dX3_wordToken_48 : decode cX3_wordToken 48 = .ok (.iconst 1, 1) := by decide +kernel
theorem dX3_wordToken_49 : decode cX3_wordToken 49 = .ok (.iadd, 1) := by decide +kernel
theorem dX3_wordToken_50 : decode cX3_wordToken 50 = .ok (.putfield 24, 3) := by decide +kernel
theorem dX3_wordToken_53 : decode cX3_wordToken 53 = .ok (.goto (-51), 3) := by decide +kernel
theorem dX3_wordToken_56 : decode cX3_wordToken 56 = .ok (.aload_n 0, 1) := by decide +kernel
theorem dX3_wordToken_57 : decode cX3_wordToken 57 = .ok (.getfield 24, 3) := by decide +kernel
theorem dX3_wordToken_60 : decode cX3_wordToken 60 = .ok (.aload_n 0, 1) := by decide +kernel
theorem dX3_wordToken_61 : decode cX3_wordToken 61 = .ok (.getfield 43, 3) := by decide +kernel
theorem dX3_wordToken_64 : decode cX3_wordToken 64 = .ok (.isub, 1) := by decide +kernel
theorem dX3_wordToken_65 : decode cX3_wordToken 65 = .ok (.iconst 4, 1) := by decide +kernel
theorem dX3_wordToken_66 : decode cX3_wordToken 66 = .ok (.if_icmp .le 5, 3) := by decide +kernel
theorem dX3_wordToken_69 : decode cX3_wordToken 69 = .ok (.iconst 1, 1) := by decide +kernel
theorem dX3_wordToken_70 : decode cX3_wordToken 70 = .ok (.ireturn, 1) := by decide +kernel
theorem dX3_wordToken_71 : decode cX3_wordToken 71 = .ok (.iload_n 1, 1) := by decide +kernel
theorem dX3_wordToken_72 : decode cX3_wordToken 72 = .ok (.lookupswitch 66 #[(28518, 54), (6513008, 60), (1650815860, 52), (1836021349, 57), (1870030194, 63)], 52) := by decide +kernel
theorem dX3_wordToken_124 : decode cX3_wordToken 124 = .ok (.iconst 5, 1) := by decide +kernel
theorem dX3_wordToken_125 : decode cX3_wordToken 125 = .ok (.ireturn, 1) := by decide +kernel
theorem dX3_wordToken_126 : decode cX3_wordToken 126 = .ok (.bipush 6, 2) := by decide +kernel
theorem dX3_wordToken_128 : decode cX3_wordToken 128 = .ok (.ireturn, 1) := by decide +kernel
theorem dX3_wordToken_129 : decode cX3_wordToken 129 = .ok (.bipush 7, 2) := by decide +kernel
theorem dX3_wordToken_131 : decode cX3_wordToken 131 = .ok (.ireturn, 1) := by decide +kernel
theorem dX3_wordToken_132 : decode cX3_wordToken 132 = .ok (.bipush 8, 2) := by decide +kernel
theorem dX3_wordToken_134 : decode cX3_wordToken 134 = .ok (.ireturn, 1) := by decide +kernel
theorem dX3_wordToken_135 : decode cX3_wordToken 135 = .ok (.bipush 9, 2) := by decide +kernel
theorem dX3_wordToken_137 : decode cX3_wordToken 137 = .ok (.ireturn, 1) := by decide +kernel
theorem dX3_wordToken_138 : decode cX3_wordToken 138 = .ok (.iconst 1, 1) := by decide +kernel
theorem dX3_wordToken_139 : decode cX3_wordToken 139 = .ok (.ireturn, 1) := by decide +kernel
theorem dX3_numberToken_0 : decode cX3_numberToken 0 = .ok (.aload_n 0, 1) := by decide +kernel
theorem dX3_numberToken_1 : decode cX3_numberToken 1 = .ok (.iconst 0, 1) := by decide +kernel
theorem dX3_numberToken_2 : decode cX3_numberToken 2 = .ok (.putfield 58, 3) := by decide +kernel
theorem dX3_numberToken_5 : decode cX3_numberToken 5 = .ok (.aload_n 0, 1) := by decide +kernel
theorem dX3_numberToken_6 : decode cX3_numberToken 6 = .ok (.getfield 24, 3) := by decide +kernel
theorem dX3_numberToken_9 : decode cX3_numberToken 9 = .ok (.aload_n 0, 1) := by decide +kernel
theorem dX3_numberToken_10 : decode cX3_numberToken 10 = .ok (.getfield 15, 3) := by decide +kernel
theorem dX3_numberToken_13 : decode cX3_numberToken 13 = .ok (.if_icmp .ge 61, 3) := by decide +kernel
theorem dX3_numberToken_16 : decode cX3_numberToken 16 = .ok (.aload_n 0, 1) := by decide +kernel
theorem dX3_numberToken_17 : decode cX3_numberToken 17 = .ok (.getfield 11, 3) := by decide +kernel
theorem dX3_numberToken_20 : decode cX3_numberToken 20 = .ok (.aload_n 0, 1) := by decide +kernel
theorem dX3_numberToken_21 : decode cX3_numberToken 21 = .ok (.getfield 24, 3) := by decide +kernel
theorem dX3_numberToken_24 : decode cX3_numberToken 24 = .ok (.iaload, 1) := by decide +kernel
theorem dX3_numberToken_25 : decode cX3_numberToken 25 = .ok (.invokestatic 72, 3) := by decide +kernel
theorem dX3_numberToken_28 : decode cX3_numberToken 28 = .ok (.ifCond .eq 46, 3) := by decide +kernel
theorem dX3_numberToken_31 : decode cX3_numberToken 31 = .ok (.aload_n 0, 1) := by decide +kernel
theorem dX3_numberToken_32 : decode cX3_numberToken 32 = .ok (.sipush 1000, 3) := by decide +kernel
theorem dX3_numberToken_35 : decode cX3_numberToken 35 = .ok (.bipush 10, 2) := by decide +kernel
theorem dX3_numberToken_37 : decode cX3_numberToken 37 = .ok (.aload_n 0, 1) := by decide +kernel
theorem dX3_numberToken_38 : decode cX3_numberToken 38 = .ok (.getfield 58, 3) := by decide +kernel
theorem dX3_numberToken_41 : decode cX3_numberToken 41 = .ok (.imul, 1) := by decide +kernel
theorem dX3_numberToken_42 : decode cX3_numberToken 42 = .ok (.aload_n 0, 1) := by decide +kernel
theorem dX3_numberToken_43 : decode cX3_numberToken 43 = .ok (.getfield 11, 3) := by decide +kernel
theorem dX3_numberToken_46 : decode cX3_numberToken 46 = .ok (.aload_n 0, 1) := by decide +kernel
theorem dX3_numberToken_47 : decode cX3_numberToken 47 = .ok (.getfield 24, 3) := by decide +kernel
theorem dX3_numberToken_50 : decode cX3_numberToken 50 = .ok (.iaload, 1) := by decide +kernel
theorem dX3_numberToken_51 : decode cX3_numberToken 51 = .ok (.iadd, 1) := by decide +kernel
theorem dX3_numberToken_52 : decode cX3_numberToken 52 = .ok (.bipush 48, 2) := by decide +kernel
theorem dX3_numberToken_54 : decode cX3_numberToken 54 = .ok (.isub, 1) := by decide +kernel
theorem dX3_numberToken_55 : decode cX3_numberToken 55 = .ok (.invokestatic 78, 3) := by decide +kernel
theorem dX3_numberToken_58 : decode cX3_numberToken 58 = .ok (.putfield 58, 3) := by decide +kernel
theorem dX3_numberToken_61 : decode cX3_numberToken 61 = .ok (.aload_n 0, 1) := by decide +kernel
theorem dX3_numberToken_62 : decode cX3_numberToken 62 = .ok (.dup, 1) := by decide +kernel
theorem dX3_numberToken_63 : decode cX3_numberToken 63 = .ok (.getfield 24, 3) := by decide +kernel
theorem dX3_numberToken_66 : decode cX3_numberToken 66 = .ok (.iconst 1, 1) := by decide +kernel
theorem dX3_numberToken_67 : decode cX3_numberToken 67 = .ok (.iadd, 1) := by decide +kernel
theorem dX3_numberToken_68 : decode cX3_numberToken 68 = .ok (.putfield 24, 3) := by decide +kernel
theorem dX3_numberToken_71 : decode cX3_numberToken 71 = .ok (.goto (-66), 3) := by decide +kernel
theorem dX3_numberToken_74 : decode cX3_numberToken 74 = .ok (.aload_n 0, 1) := by decide +kernel
theorem dX3_numberToken_75 : decode cX3_numberToken 75 = .ok (.getfield 11, 3) := by decide +kernel
theorem dX3_numberToken_78 : decode cX3_numberToken 78 = .ok (.aload_n 0, 1) := by decide +kernel
theorem dX3_numberToken_79 : decode cX3_numberToken 79 = .ok (.getfield 43, 3) := by decide +kernel
theorem dX3_numberToken_82 : decode cX3_numberToken 82 = .ok (.iaload, 1) := by decide +kernel
theorem dX3_numberToken_83 : decode cX3_numberToken 83 = .ok (.bipush 48, 2) := by decide +kernel
theorem dX3_numberToken_85 : decode cX3_numberToken 85 = .ok (.if_icmp .ne 20, 3) := by decide +kernel
theorem dX3_numberToken_88 : decode cX3_numberToken 88 = .ok (.aload_n 0, 1) := by decide +kernel
theorem dX3_numberToken_89 : decode cX3_numberToken 89 = .ok (.getfield 24, 3) := by decide +kernel
theorem dX3_numberToken_92 : decode cX3_numberToken 92 = .ok (.aload_n 0, 1) := by decide +kernel
theorem dX3_numberToken_93 : decode cX3_numberToken 93 = .ok (.getfield 43, 3) := by decide +kernel
theorem dX3_numberToken_96 : decode cX3_numberToken 96 = .ok (.isub, 1) := by decide +kernel
theorem dX3_numberToken_97 : decode cX3_numberToken 97 = .ok (.iconst 1, 1) := by decide +kernel
theorem dX3_numberToken_98 : decode cX3_numberToken 98 = .ok (.if_icmp .le 7, 3) := by decide +kernel
theorem dX3_numberToken_101 : decode cX3_numberToken 101 = .ok (.iconst 1, 1) := by decide +kernel
theorem dX3_numberToken_102 : decode cX3_numberToken 102 = .ok (.goto 4, 3) := by decide +kernel
theorem dX3_numberToken_105 : decode cX3_numberToken 105 = .ok (.iconst 0, 1) := by decide +kernel
theorem dX3_numberToken_106 : decode cX3_numberToken 106 = .ok (.istore_n 1, 1) := by decide +kernel
theorem dX3_numberToken_107 : decode cX3_numberToken 107 = .ok (.iload_n 1, 1) := by decide +kernel
theorem dX3_numberToken_108 : decode cX3_numberToken 108 = .ok (.ifCond .ne 13, 3) := by decide +kernel
theorem dX3_numberToken_111 : decode cX3_numberToken 111 = .ok (.aload_n 0, 1) := by decide +kernel
theorem dX3_numberToken_112 : decode cX3_numberToken 112 = .ok (.getfield 58, 3) := by decide +kernel
theorem dX3_numberToken_115 : decode cX3_numberToken 115 = .ok (.sipush 999, 3) := by decide +kernel
theorem dX3_numberToken_118 : decode cX3_numberToken 118 = .ok (.if_icmp .le 7, 3) := by decide +kernel
theorem dX3_numberToken_121 : decode cX3_numberToken 121 = .ok (.iconst 1, 1) := by decide +kernel
theorem dX3_numberToken_122 : decode cX3_numberToken 122 = .ok (.goto 4, 3) := by decide +kernel
theorem dX3_numberToken_125 : decode cX3_numberToken 125 = .ok (.iconst 2, 1) := by decide +kernel
theorem dX3_numberToken_126 : decode cX3_numberToken 126 = .ok (.ireturn, 1) := by decide +kernel
theorem dX3_isLetter_0 : decode cX3_isLetter 0 = .ok (.iload_n 0, 1) := by decide +kernel
theorem dX3_isLetter_1 : decode cX3_isLetter 1 = .ok (.bipush 97, 2) := by decide +kernel
theorem dX3_isLetter_3 : decode cX3_isLetter 3 = .ok (.if_icmp .lt 13, 3) := by decide +kernel
theorem dX3_isLetter_6 : decode cX3_isLetter 6 = .ok (.iload_n 0, 1) := by decide +kernel
theorem dX3_isLetter_7 : decode cX3_isLetter 7 = .ok (.bipush 122, 2) := by decide +kernel
theorem dX3_isLetter_9 : decode cX3_isLetter 9 = .ok (.if_icmp .gt 7, 3) := by decide +kernel
theorem dX3_isLetter_12 : decode cX3_isLetter 12 = .ok (.iconst 1, 1) := by decide +kernel
theorem dX3_isLetter_13 : decode cX3_isLetter 13 = .ok (.goto 4, 3) := by decide +kernel
theorem dX3_isLetter_16 : decode cX3_isLetter 16 = .ok (.iconst 0, 1) := by decide +kernel
theorem dX3_isLetter_17 : decode cX3_isLetter 17 = .ok (.ireturn, 1) := by decide +kernel
theorem dX3_isDigit_0 : decode cX3_isDigit 0 = .ok (.iload_n 0, 1) := by decide +kernel
theorem dX3_isDigit_1 : decode cX3_isDigit 1 = .ok (.bipush 48, 2) := by decide +kernel
theorem dX3_isDigit_3 : decode cX3_isDigit 3 = .ok (.if_icmp .lt 13, 3) := by decide +kernel
theorem dX3_isDigit_6 : decode cX3_isDigit 6 = .ok (.iload_n 0, 1) := by decide +kernel
theorem dX3_isDigit_7 : decode cX3_isDigit 7 = .ok (.bipush 57, 2) := by decide +kernel
theorem dX3_isDigit_9 : decode cX3_isDigit 9 = .ok (.if_icmp .gt 7, 3) := by decide +kernel
theorem dX3_isDigit_12 : decode cX3_isDigit 12 = .ok (.iconst 1, 1) := by decide +kernel
theorem dX3_isDigit_13 : decode cX3_isDigit 13 = .ok (.goto 4, 3) := by decide +kernel
theorem dX3_isDigit_16 : decode cX3_isDigit 16 = .ok (.iconst 0, 1) := by decide +kernel
theorem dX3_isDigit_17 : decode cX3_isDigit 17 = .ok (.ireturn, 1) := by decide +kernel
theorem dX4_init_0 : decode cX4_init 0 = .ok (.aload_n 0, 1) := by decide +kernel
theorem dX4_init_1 : decode cX4_init 1 = .ok (.invokespecial 3, 3) := by decide +kernel
theorem dX4_init_4 : decode cX4_init 4 = .ok (.aload_n 0, 1) := by decide +kernel
theorem dX4_init_5 : decode cX4_init 5 = .ok (.iconst 3, 1) := by decide +kernel
theorem dX4_init_6 : decode cX4_init 6 = .ok (.newarray .int, 2) := by decide +kernel
theorem dX4_init_8 : decode cX4_init 8 = .ok (.putfield 9, 3) := by decide +kernel
theorem dX4_init_11 : decode cX4_init 11 = .ok (.aload_n 0, 1) := by decide +kernel
theorem dX4_init_12 : decode cX4_init 12 = .ok (.bipush 12, 2) := by decide +kernel
theorem dX4_init_14 : decode cX4_init 14 = .ok (.newarray .int, 2) := by decide +kernel
theorem dX4_init_16 : decode cX4_init 16 = .ok (.putfield 15, 3) := by decide +kernel
theorem dX4_init_19 : decode cX4_init 19 = .ok (.return_, 1) := by decide +kernel
theorem dX4_begin_0 : decode cX4_begin 0 = .ok (.aload_n 0, 1) := by decide +kernel
theorem dX4_begin_1 : decode cX4_begin 1 = .ok (.iload_n 1, 1) := by decide +kernel
theorem dX4_begin_2 : decode cX4_begin 2 = .ok (.putfield 18, 3) := by decide +kernel
theorem dX4_begin_5 : decode cX4_begin 5 = .ok (.aload_n 0, 1) := by decide +kernel
theorem dX4_begin_6 : decode cX4_begin 6 = .ok (.iload_n 1, 1) := by decide +kernel
theorem dX4_begin_7 : decode cX4_begin 7 = .ok (.putfield 22, 3) := by decide +kernel
theorem dX4_begin_10 : decode cX4_begin 10 = .ok (.aload_n 0, 1) := by decide +kernel
theorem dX4_begin_11 : decode cX4_begin 11 = .ok (.iconst 0, 1) := by decide +kernel
theorem dX4_begin_12 : decode cX4_begin 12 = .ok (.putfield 25, 3) := by decide +kernel
theorem dX4_begin_15 : decode cX4_begin 15 = .ok (.aload_n 0, 1) := by decide +kernel
theorem dX4_begin_16 : decode cX4_begin 16 = .ok (.iconst 0, 1) := by decide +kernel
theorem dX4_begin_17 : decode cX4_begin 17 = .ok (.putfield 28, 3) := by decide +kernel
theorem dX4_begin_20 : decode cX4_begin 20 = .ok (.aload_n 0, 1) := by decide +kernel
theorem dX4_begin_21 : decode cX4_begin 21 = .ok (.iconst 0, 1) := by decide +kernel
theorem dX4_begin_22 : decode cX4_begin 22 = .ok (.putfield 31, 3) := by decide +kernel
theorem dX4_begin_25 : decode cX4_begin 25 = .ok (.aload_n 0, 1) := by decide +kernel
theorem dX4_begin_26 : decode cX4_begin 26 = .ok (.iconst 0, 1) := by decide +kernel
theorem dX4_begin_27 : decode cX4_begin 27 = .ok (.putfield 34, 3) := by decide +kernel
theorem dX4_begin_30 : decode cX4_begin 30 = .ok (.iconst 0, 1) := by decide +kernel
theorem dX4_begin_31 : decode cX4_begin 31 = .ok (.istore_n 2, 1) := by decide +kernel
theorem dX4_begin_32 : decode cX4_begin 32 = .ok (.iload_n 2, 1) := by decide +kernel
theorem dX4_begin_33 : decode cX4_begin 33 = .ok (.iconst 3, 1) := by decide +kernel
theorem dX4_begin_34 : decode cX4_begin 34 = .ok (.if_icmp .ge 16, 3) := by decide +kernel
theorem dX4_begin_37 : decode cX4_begin 37 = .ok (.aload_n 0, 1) := by decide +kernel
theorem dX4_begin_38 : decode cX4_begin 38 = .ok (.getfield 9, 3) := by decide +kernel
theorem dX4_begin_41 : decode cX4_begin 41 = .ok (.iload_n 2, 1) := by decide +kernel
theorem dX4_begin_42 : decode cX4_begin 42 = .ok (.iconst 0, 1) := by decide +kernel
theorem dX4_begin_43 : decode cX4_begin 43 = .ok (.iastore, 1) := by decide +kernel
theorem dX4_begin_44 : decode cX4_begin 44 = .ok (.iinc 2 1, 3) := by decide +kernel
theorem dX4_begin_47 : decode cX4_begin 47 = .ok (.goto (-15), 3) := by decide +kernel
theorem dX4_begin_50 : decode cX4_begin 50 = .ok (.return_, 1) := by decide +kernel
theorem dX4_become_0 : decode cX4_become 0 = .ok (.aload_n 0, 1) := by decide +kernel
theorem dX4_become_1 : decode cX4_become 1 = .ok (.aload_n 1, 1) := by decide +kernel
theorem dX4_become_2 : decode cX4_become 2 = .ok (.getfield 18, 3) := by decide +kernel
theorem dX4_become_5 : decode cX4_become 5 = .ok (.putfield 18, 3) := by decide +kernel
theorem dX4_become_8 : decode cX4_become 8 = .ok (.aload_n 0, 1) := by decide +kernel
theorem dX4_become_9 : decode cX4_become 9 = .ok (.aload_n 1, 1) := by decide +kernel
theorem dX4_become_10 : decode cX4_become 10 = .ok (.getfield 22, 3) := by decide +kernel
theorem dX4_become_13 : decode cX4_become 13 = .ok (.putfield 22, 3) := by decide +kernel
theorem dX4_become_16 : decode cX4_become 16 = .ok (.aload_n 0, 1) := by decide +kernel
theorem dX4_become_17 : decode cX4_become 17 = .ok (.aload_n 1, 1) := by decide +kernel
theorem dX4_become_18 : decode cX4_become 18 = .ok (.getfield 25, 3) := by decide +kernel
theorem dX4_become_21 : decode cX4_become 21 = .ok (.putfield 25, 3) := by decide +kernel
theorem dX4_become_24 : decode cX4_become 24 = .ok (.aload_n 0, 1) := by decide +kernel
theorem dX4_become_25 : decode cX4_become 25 = .ok (.aload_n 1, 1) := by decide +kernel
theorem dX4_become_26 : decode cX4_become 26 = .ok (.getfield 28, 3) := by decide +kernel
theorem dX4_become_29 : decode cX4_become 29 = .ok (.putfield 28, 3) := by decide +kernel
theorem dX4_become_32 : decode cX4_become 32 = .ok (.aload_n 0, 1) := by decide +kernel
theorem dX4_become_33 : decode cX4_become 33 = .ok (.aload_n 1, 1) := by decide +kernel
theorem dX4_become_34 : decode cX4_become 34 = .ok (.getfield 31, 3) := by decide +kernel
theorem dX4_become_37 : decode cX4_become 37 = .ok (.putfield 31, 3) := by decide +kernel
theorem dX4_become_40 : decode cX4_become 40 = .ok (.aload_n 0, 1) := by decide +kernel
theorem dX4_become_41 : decode cX4_become 41 = .ok (.aload_n 1, 1) := by decide +kernel
theorem dX4_become_42 : decode cX4_become 42 = .ok (.getfield 34, 3) := by decide +kernel
theorem dX4_become_45 : decode cX4_become 45 = .ok (.putfield 34, 3) := by decide +kernel
theorem dX4_become_48 : decode cX4_become 48 = .ok (.aload_n 1, 1) := by decide +kernel
theorem dX4_become_49 : decode cX4_become 49 = .ok (.getfield 9, 3) := by decide +kernel
theorem dX4_become_52 : decode cX4_become 52 = .ok (.iconst 0, 1) := by decide +kernel
theorem dX4_become_53 : decode cX4_become 53 = .ok (.aload_n 0, 1) := by decide +kernel
theorem dX4_become_54 : decode cX4_become 54 = .ok (.getfield 9, 3) := by decide +kernel
theorem dX4_become_57 : decode cX4_become 57 = .ok (.iconst 0, 1) := by decide +kernel
theorem dX4_become_58 : decode cX4_become 58 = .ok (.iconst 3, 1) := by decide +kernel
theorem dX4_become_59 : decode cX4_become 59 = .ok (.invokestatic 37, 3) := by decide +kernel
theorem dX4_become_62 : decode cX4_become 62 = .ok (.aload_n 1, 1) := by decide +kernel
theorem dX4_become_63 : decode cX4_become 63 = .ok (.getfield 15, 3) := by decide +kernel
theorem dX4_become_66 : decode cX4_become 66 = .ok (.iconst 0, 1) := by decide +kernel
theorem dX4_become_67 : decode cX4_become 67 = .ok (.aload_n 0, 1) := by decide +kernel
theorem dX4_become_68 : decode cX4_become 68 = .ok (.getfield 15, 3) := by decide +kernel
theorem dX4_become_71 : decode cX4_become 71 = .ok (.iconst 0, 1) := by decide +kernel
theorem dX4_become_72 : decode cX4_become 72 = .ok (.bipush 12, 2) := by decide +kernel
theorem dX4_become_74 : decode cX4_become 74 = .ok (.invokestatic 37, 3) := by decide +kernel
theorem dX4_become_77 : decode cX4_become 77 = .ok (.return_, 1) := by decide +kernel
theorem dX4_change_0 : decode cX4_change 0 = .ok (.iload_n 1, 1) := by decide +kernel
theorem dX4_change_1 : decode cX4_change 1 = .ok (.lookupswitch 71 #[(0, 35), (1, 47), (5, 59)], 35) := by decide +kernel
theorem dX4_change_36 : decode cX4_change 36 = .ok (.aload_n 0, 1) := by decide +kernel
theorem dX4_change_37 : decode cX4_change 37 = .ok (.getfield 25, 3) := by decide +kernel
theorem dX4_change_40 : decode cX4_change 40 = .ok (.istore_n 3, 1) := by decide +kernel
theorem dX4_change_41 : decode cX4_change 41 = .ok (.aload_n 0, 1) := by decide +kernel
theorem dX4_change_42 : decode cX4_change 42 = .ok (.iload_n 2, 1) := by decide +kernel
theorem dX4_change_43 : decode cX4_change 43 = .ok (.putfield 25, 3) := by decide +kernel
theorem dX4_change_46 : decode cX4_change 46 = .ok (.iload_n 3, 1) := by decide +kernel
theorem dX4_change_47 : decode cX4_change 47 = .ok (.ireturn, 1) := by decide +kernel
theorem dX4_change_48 : decode cX4_change 48 = .ok (.aload_n 0, 1) := by decide +kernel
theorem dX4_change_49 : decode cX4_change 49 = .ok (.getfield 28, 3) := by decide +kernel
theorem dX4_change_52 : decode cX4_change 52 = .ok (.istore_n 3, 1) := by decide +kernel
theorem dX4_change_53 : decode cX4_change 53 = .ok (.aload_n 0, 1) := by decide +kernel
theorem dX4_change_54 : decode cX4_change 54 = .ok (.iload_n 2, 1) := by decide +kernel
theorem dX4_change_55 : decode cX4_change 55 = .ok (.putfield 28, 3) := by decide +kernel
theorem dX4_change_58 : decode cX4_change 58 = .ok (.iload_n 3, 1) := by decide +kernel
theorem dX4_change_59 : decode cX4_change 59 = .ok (.ireturn, 1) := by decide +kernel
theorem dX4_change_60 : decode cX4_change 60 = .ok (.aload_n 0, 1) := by decide +kernel
theorem dX4_change_61 : decode cX4_change 61 = .ok (.getfield 22, 3) := by decide +kernel
theorem dX4_change_64 : decode cX4_change 64 = .ok (.istore_n 3, 1) := by decide +kernel
theorem dX4_change_65 : decode cX4_change 65 = .ok (.aload_n 0, 1) := by decide +kernel
theorem dX4_change_66 : decode cX4_change 66 = .ok (.iload_n 2, 1) := by decide +kernel
theorem dX4_change_67 : decode cX4_change 67 = .ok (.putfield 22, 3) := by decide +kernel
theorem dX4_change_70 : decode cX4_change 70 = .ok (.iload_n 3, 1) := by decide +kernel
theorem dX4_change_71 : decode cX4_change 71 = .ok (.ireturn, 1) := by decide +kernel
theorem dX4_change_72 : decode cX4_change 72 = .ok (.aload_n 0, 1) := by decide +kernel
theorem dX4_change_73 : decode cX4_change 73 = .ok (.iload_n 1, 1) := by decide +kernel
theorem dX4_change_74 : decode cX4_change 74 = .ok (.iconst 2, 1) := by decide +kernel
theorem dX4_change_75 : decode cX4_change 75 = .ok (.isub, 1) := by decide +kernel
theorem dX4_change_76 : decode cX4_change 76 = .ok (.iload_n 2, 1) := by decide +kernel
theorem dX4_change_77 : decode cX4_change 77 = .ok (.invokevirtual 43, 3) := by decide +kernel
theorem dX4_change_80 : decode cX4_change 80 = .ok (.ireturn, 1) := by decide +kernel
theorem dX4_turnTo_0 : decode cX4_turnTo 0 = .ok (.iload_n 1, 1) := by decide +kernel
theorem dX4_turnTo_1 : decode cX4_turnTo 1 = .ok (.iconst 0, 1) := by decide +kernel
theorem dX4_turnTo_2 : decode cX4_turnTo 2 = .ok (.iconst 2, 1) := by decide +kernel
theorem dX4_turnTo_3 : decode cX4_turnTo 3 = .ok (.invokestatic 47, 3) := by decide +kernel
theorem dX4_turnTo_6 : decode cX4_turnTo 6 = .ok (.ifCond .ne 6, 3) := by decide +kernel
theorem dX4_turnTo_9 : decode cX4_turnTo 9 = .ok (.ldc 51, 2) := by decide +kernel
theorem dX4_turnTo_11 : decode cX4_turnTo 11 = .ok (.ireturn, 1) := by decide +kernel
theorem dX4_turnTo_12 : decode cX4_turnTo 12 = .ok (.aload_n 0, 1) := by decide +kernel
theorem dX4_turnTo_13 : decode cX4_turnTo 13 = .ok (.getfield 9, 3) := by decide +kernel
theorem dX4_turnTo_16 : decode cX4_turnTo 16 = .ok (.iload_n 1, 1) := by decide +kernel
theorem dX4_turnTo_17 : decode cX4_turnTo 17 = .ok (.iaload, 1) := by decide +kernel
theorem dX4_turnTo_18 : decode cX4_turnTo 18 = .ok (.istore_n 3, 1) := by decide +kernel
theorem dX4_turnTo_19 : decode cX4_turnTo 19 = .ok (.aload_n 0, 1) := by decide +kernel
theorem dX4_turnTo_20 : decode cX4_turnTo 20 = .ok (.getfield 9, 3) := by decide +kernel
theorem dX4_turnTo_23 : decode cX4_turnTo 23 = .ok (.iload_n 1, 1) := by decide +kernel
theorem dX4_turnTo_24 : decode cX4_turnTo 24 = .ok (.iload_n 2, 1) := by decide +kernel
theorem dX4_turnTo_25 : decode cX4_turnTo 25 = .ok (.iastore, 1) := by decide +kernel
theorem dX4_turnTo_26 : decode cX4_turnTo 26 = .ok (.iload_n 3, 1) := by decide +kernel
theorem dX4_turnTo_27 : decode cX4_turnTo 27 = .ok (.ireturn, 1) := by decide +kernel
theorem dX4_finish_0 : decode cX4_finish 0 = .ok (.aload_n 0, 1) := by decide +kernel
theorem dX4_finish_1 : decode cX4_finish 1 = .ok (.getfield 15, 3) := by decide +kernel
theorem dX4_finish_4 : decode cX4_finish 4 = .ok (.iconst 0, 1) := by decide +kernel
theorem dX4_finish_5 : decode cX4_finish 5 = .ok (.aload_n 0, 1) := by decide +kernel
theorem dX4_finish_6 : decode cX4_finish 6 = .ok (.getfield 15, 3) := by decide +kernel
theorem dX4_finish_9 : decode cX4_finish 9 = .ok (.iconst 1, 1) := by decide +kernel
theorem dX4_finish_10 : decode cX4_finish 10 = .ok (.bipush 11, 2) := by decide +kernel
theorem dX4_finish_12 : decode cX4_finish 12 = .ok (.invokestatic 37, 3) := by decide +kernel
theorem dX4_finish_15 : decode cX4_finish 15 = .ok (.aload_n 0, 1) := by decide +kernel
theorem dX4_finish_16 : decode cX4_finish 16 = .ok (.getfield 15, 3) := by decide +kernel
theorem dX4_finish_19 : decode cX4_finish 19 = .ok (.iconst 0, 1) := by decide +kernel
theorem dX4_finish_20 : decode cX4_finish 20 = .ok (.iload_n 1, 1) := by decide +kernel
theorem dX4_finish_21 : decode cX4_finish 21 = .ok (.iastore, 1) := by decide +kernel
theorem dX4_finish_22 : decode cX4_finish 22 = .ok (.aload_n 0, 1) := by decide +kernel
theorem dX4_finish_23 : decode cX4_finish 23 = .ok (.bipush 12, 2) := by decide +kernel
theorem dX4_finish_25 : decode cX4_finish 25 = .ok (.aload_n 0, 1) := by decide +kernel
theorem dX4_finish_26 : decode cX4_finish 26 = .ok (.getfield 34, 3) := by decide +kernel
theorem dX4_finish_29 : decode cX4_finish 29 = .ok (.iconst 1, 1) := by decide +kernel
theorem dX4_finish_30 : decode cX4_finish 30 = .ok (.iadd, 1) := by decide +kernel
theorem dX4_finish_31 : decode cX4_finish 31 = .ok (.invokestatic 52, 3) := by decide +kernel
theorem dX4_finish_34 : decode cX4_finish 34 = .ok (.putfield 34, 3) := by decide +kernel
theorem dX4_finish_37 : decode cX4_finish 37 = .ok (.aload_n 0, 1) := by decide +kernel
theorem dX4_finish_38 : decode cX4_finish 38 = .ok (.dup, 1) := by decide +kernel
theorem dX4_finish_39 : decode cX4_finish 39 = .ok (.getfield 31, 3) := by decide +kernel
theorem dX4_finish_42 : decode cX4_finish 42 = .ok (.iconst 1, 1) := by decide +kernel
theorem dX4_finish_43 : decode cX4_finish 43 = .ok (.iadd, 1) := by decide +kernel
theorem dX4_finish_44 : decode cX4_finish 44 = .ok (.putfield 31, 3) := by decide +kernel
theorem dX4_finish_47 : decode cX4_finish 47 = .ok (.aload_n 2, 1) := by decide +kernel
theorem dX4_finish_48 : decode cX4_finish 48 = .ok (.aload_n 0, 1) := by decide +kernel
theorem dX4_finish_49 : decode cX4_finish 49 = .ok (.getfield 34, 3) := by decide +kernel
theorem dX4_finish_52 : decode cX4_finish 52 = .ok (.invokevirtual 57, 3) := by decide +kernel
theorem dX4_finish_55 : decode cX4_finish 55 = .ok (.istore_n 3, 1) := by decide +kernel
theorem dX4_finish_56 : decode cX4_finish 56 = .ok (.aload_n 2, 1) := by decide +kernel
theorem dX4_finish_57 : decode cX4_finish 57 = .ok (.iload_n 3, 1) := by decide +kernel
theorem dX4_finish_58 : decode cX4_finish 58 = .ok (.invokevirtual 63, 3) := by decide +kernel
theorem dX4_finish_61 : decode cX4_finish 61 = .ok (.istore 4, 2) := by decide +kernel
theorem dX4_finish_63 : decode cX4_finish 63 = .ok (.aload_n 0, 1) := by decide +kernel
theorem dX4_finish_64 : decode cX4_finish 64 = .ok (.aload_n 2, 1) := by decide +kernel
theorem dX4_finish_65 : decode cX4_finish 65 = .ok (.aload_n 0, 1) := by decide +kernel
theorem dX4_finish_66 : decode cX4_finish 66 = .ok (.getfield 22, 3) := by decide +kernel
theorem dX4_finish_69 : decode cX4_finish 69 = .ok (.aload_n 0, 1) := by decide +kernel
theorem dX4_finish_70 : decode cX4_finish 70 = .ok (.iload_n 3, 1) := by decide +kernel
theorem dX4_finish_71 : decode cX4_finish 71 = .ok (.iload 4, 2) := by decide +kernel
theorem dX4_finish_73 : decode cX4_finish 73 = .ok (.aload_n 2, 1) := by decide +kernel
theorem dX4_finish_74 : decode cX4_finish 74 = .ok (.aload_n 0, 1) := by decide +kernel
theorem dX4_finish_75 : decode cX4_finish 75 = .ok (.getfield 22, 3) := by decide +kernel
theorem dX4_finish_78 : decode cX4_finish 78 = .ok (.invokevirtual 66, 3) := by decide +kernel
theorem dX4_finish_81 : decode cX4_finish 81 = .ok (.invokevirtual 69, 3) := by decide +kernel
theorem dX4_finish_84 : decode cX4_finish 84 = .ok (.iload 4, 2) := by decide +kernel
theorem dX4_finish_86 : decode cX4_finish 86 = .ok (.invokevirtual 73, 3) := by decide +kernel
theorem dX4_finish_89 : decode cX4_finish 89 = .ok (.putfield 22, 3) := by decide +kernel
theorem dX4_finish_92 : decode cX4_finish 92 = .ok (.aload_n 0, 1) := by decide +kernel
theorem dX4_finish_93 : decode cX4_finish 93 = .ok (.aload_n 0, 1) := by decide +kernel
theorem dX4_finish_94 : decode cX4_finish 94 = .ok (.getfield 18, 3) := by decide +kernel
theorem dX4_finish_97 : decode cX4_finish 97 = .ok (.aload_n 0, 1) := by decide +kernel
theorem dX4_finish_98 : decode cX4_finish 98 = .ok (.getfield 28, 3) := by decide +kernel
theorem dX4_finish_101 : decode cX4_finish 101 = .ok (.iadd, 1) := by decide +kernel
theorem dX4_finish_102 : decode cX4_finish 102 = .ok (.iconst 0, 1) := by decide +kernel
theorem dX4_finish_103 : decode cX4_finish 103 = .ok (.sipush 200, 3) := by decide +kernel
theorem dX4_finish_106 : decode cX4_finish 106 = .ok (.invokestatic 76, 3) := by decide +kernel
theorem dX4_finish_109 : decode cX4_finish 109 = .ok (.putfield 18, 3) := by decide +kernel
theorem dX4_finish_112 : decode cX4_finish 112 = .ok (.return_, 1) := by decide +kernel
theorem dX4_bestSum_0 : decode cX4_bestSum 0 = .ok (.iconst 0, 1) := by decide +kernel
theorem dX4_bestSum_1 : decode cX4_bestSum 1 = .ok (.istore 4, 2) := by decide +kernel
theorem dX4_bestSum_3 : decode cX4_bestSum 3 = .ok (.iconst 0, 1) := by decide +kernel
theorem dX4_bestSum_4 : decode cX4_bestSum 4 = .ok (.istore 5, 2) := by decide +kernel
theorem dX4_bestSum_6 : decode cX4_bestSum 6 = .ok (.iload 5, 2) := by decide +kernel
theorem dX4_bestSum_8 : decode cX4_bestSum 8 = .ok (.iload_n 1, 1) := by decide +kernel
theorem dX4_bestSum_9 : decode cX4_bestSum 9 = .ok (.if_icmp .ge 36, 3) := by decide +kernel
theorem dX4_bestSum_12 : decode cX4_bestSum 12 = .ok (.aload_n 0, 1) := by decide +kernel
theorem dX4_bestSum_13 : decode cX4_bestSum 13 = .ok (.iload 5, 2) := by decide +kernel
theorem dX4_bestSum_15 : decode cX4_bestSum 15 = .ok (.iload_n 1, 1) := by decide +kernel
theorem dX4_bestSum_16 : decode cX4_bestSum 16 = .ok (.invokevirtual 79, 3) := by decide +kernel
theorem dX4_bestSum_19 : decode cX4_bestSum 19 = .ok (.iload_n 2, 1) := by decide +kernel
theorem dX4_bestSum_20 : decode cX4_bestSum 20 = .ok (.if_icmp .ge 19, 3) := by decide +kernel
theorem dX4_bestSum_23 : decode cX4_bestSum 23 = .ok (.iload 4, 2) := by decide +kernel
theorem dX4_bestSum_25 : decode cX4_bestSum 25 = .ok (.aload_n 0, 1) := by decide +kernel
theorem dX4_bestSum_26 : decode cX4_bestSum 26 = .ok (.getfield 15, 3) := by decide +kernel
theorem dX4_bestSum_29 : decode cX4_bestSum 29 = .ok (.iload 5, 2) := by decide +kernel
theorem dX4_bestSum_31 : decode cX4_bestSum 31 = .ok (.iaload, 1) := by decide +kernel
theorem dX4_bestSum_32 : decode cX4_bestSum 32 = .ok (.iload_n 3, 1) := by decide +kernel
theorem dX4_bestSum_33 : decode cX4_bestSum 33 = .ok (.invokestatic 52, 3) := by decide +kernel
theorem dX4_bestSum_36 : decode cX4_bestSum 36 = .ok (.iadd, 1) := by decide +kernel
theorem dX4_bestSum_37 : decode cX4_bestSum 37 = .ok (.istore 4, 2) := by decide +kernel
theorem dX4_bestSum_39 : decode cX4_bestSum 39 = .ok (.iinc 5 1, 3) := by decide +kernel
theorem dX4_bestSum_42 : decode cX4_bestSum 42 = .ok (.goto (-36), 3) := by decide +kernel
theorem dX4_bestSum_45 : decode cX4_bestSum 45 = .ok (.iload 4, 2) := by decide +kernel
theorem dX4_bestSum_47 : decode cX4_bestSum 47 = .ok (.ireturn, 1) := by decide +kernel
theorem dX4_betterThan_0 : decode cX4_betterThan 0 = .ok (.iconst 0, 1) := by decide +kernel
theorem dX4_betterThan_1 : decode cX4_betterThan 1 = .ok (.istore_n 3, 1) := by decide +kernel
theorem dX4_betterThan_2 : decode cX4_betterThan 2 = .ok (.iconst 0, 1) := by decide +kernel
theorem dX4_betterThan_3 : decode cX4_betterThan 3 = .ok (.istore 4, 2) := by decide +kernel
theorem dX4_betterThan_5 : decode cX4_betterThan 5 = .ok (.iload 4, 2) := by decide +kernel
theorem dX4_betterThan_7 : decode cX4_betterThan 7 = .ok (.iload_n 2, 1) := by decide +kernel
theorem dX4_betterThan_8 : decode cX4_betterThan 8 = .ok (.if_icmp .ge 50, 3) := by decide +kernel
theorem dX4_betterThan_11 : decode cX4_betterThan 11 = .ok (.aload_n 0, 1) := by decide +kernel
theorem dX4_betterThan_12 : decode cX4_betterThan 12 = .ok (.getfield 15, 3) := by decide +kernel
theorem dX4_betterThan_15 : decode cX4_betterThan 15 = .ok (.iload 4, 2) := by decide +kernel
theorem dX4_betterThan_17 : decode cX4_betterThan 17 = .ok (.iaload, 1) := by decide +kernel
theorem dX4_betterThan_18 : decode cX4_betterThan 18 = .ok (.aload_n 0, 1) := by decide +kernel
theorem dX4_betterThan_19 : decode cX4_betterThan 19 = .ok (.getfield 15, 3) := by decide +kernel
theorem dX4_betterThan_22 : decode cX4_betterThan 22 = .ok (.iload_n 1, 1) := by decide +kernel
theorem dX4_betterThan_23 : decode cX4_betterThan 23 = .ok (.iaload, 1) := by decide +kernel
theorem dX4_betterThan_24 : decode cX4_betterThan 24 = .ok (.if_icmp .gt 25, 3) := by decide +kernel
theorem dX4_betterThan_27 : decode cX4_betterThan 27 = .ok (.aload_n 0, 1) := by decide +kernel
theorem dX4_betterThan_28 : decode cX4_betterThan 28 = .ok (.getfield 15, 3) := by decide +kernel
theorem dX4_betterThan_31 : decode cX4_betterThan 31 = .ok (.iload 4, 2) := by decide +kernel
theorem dX4_betterThan_33 : decode cX4_betterThan 33 = .ok (.iaload, 1) := by decide +kernel
theorem dX4_betterThan_34 : decode cX4_betterThan 34 = .ok (.aload_n 0, 1) := by decide +kernel
theorem dX4_betterThan_35 : decode cX4_betterThan 35 = .ok (.getfield 15, 3) := by decide +kernel
theorem dX4_betterThan_38 : decode cX4_betterThan 38 = .ok (.iload_n 1, 1) := by decide +kernel
theorem dX4_betterThan_39 : decode cX4_betterThan 39 = .ok (.iaload, 1) := by decide +kernel
theorem dX4_betterThan_40 : decode cX4_betterThan 40 = .ok (.if_icmp .ne 12, 3) := by decide +kernel
theorem dX4_betterThan_43 : decode cX4_betterThan 43 = .ok (.iload 4, 2) := by decide +kernel
theorem dX4_betterThan_45 : decode cX4_betterThan 45 = .ok (.iload_n 1, 1) := by decide +kernel
theorem dX4_betterThan_46 : decode cX4_betterThan 46 = .ok (.if_icmp .ge 6, 3) := by decide +kernel
theorem dX4_betterThan_49 : decode cX4_betterThan 49 = .ok (.iinc 3 1, 3) := by decide +kernel
theorem dX4_betterThan_52 : decode cX4_betterThan 52 = .ok (.iinc 4 1, 3) := by decide +kernel
theorem dX4_betterThan_55 : decode cX4_betterThan 55 = .ok (.goto (-50), 3) := by decide +kernel
theorem dX4_betterThan_58 : decode cX4_betterThan 58 = .ok (.iload_n 3, 1) := by decide +kernel
theorem dX4_betterThan_59 : decode cX4_betterThan 59 = .ok (.ireturn, 1) := by decide +kernel
theorem dX5_init_0 : decode cX5_init 0 = .ok (.aload_n 0, 1) := by decide +kernel
theorem dX5_init_1 : decode cX5_init 1 = .ok (.invokespecial 3, 3) := by decide +kernel
theorem dX5_init_4 : decode cX5_init 4 = .ok (.aload_n 0, 1) := by decide +kernel
theorem dX5_init_5 : decode cX5_init 5 = .ok (.bipush 10, 2) := by decide +kernel
theorem dX5_init_7 : decode cX5_init 7 = .ok (.newarray .int, 2) := by decide +kernel
theorem dX5_init_9 : decode cX5_init 9 = .ok (.putfield 9, 3) := by decide +kernel
theorem dX5_init_12 : decode cX5_init 12 = .ok (.aload_n 0, 1) := by decide +kernel
theorem dX5_init_13 : decode cX5_init 13 = .ok (.bipush 10, 2) := by decide +kernel
theorem dX5_init_15 : decode cX5_init 15 = .ok (.newarray .int, 2) := by decide +kernel
theorem dX5_init_17 : decode cX5_init 17 = .ok (.putfield 13, 3) := by decide +kernel
theorem dX5_init_20 : decode cX5_init 20 = .ok (.return_, 1) := by decide +kernel
theorem dX5_begin_0 : decode cX5_begin 0 = .ok (.aload_n 0, 1) := by decide +kernel
theorem dX5_begin_1 : decode cX5_begin 1 = .ok (.iload_n 1, 1) := by decide +kernel
theorem dX5_begin_2 : decode cX5_begin 2 = .ok (.putfield 16, 3) := by decide +kernel
theorem dX5_begin_5 : decode cX5_begin 5 = .ok (.aload_n 0, 1) := by decide +kernel
theorem dX5_begin_6 : decode cX5_begin 6 = .ok (.iload_n 2, 1) := by decide +kernel
theorem dX5_begin_7 : decode cX5_begin 7 = .ok (.bipush 10, 2) := by decide +kernel
theorem dX5_begin_9 : decode cX5_begin 9 = .ok (.invokestatic 20, 3) := by decide +kernel
theorem dX5_begin_12 : decode cX5_begin 12 = .ok (.putfield 26, 3) := by decide +kernel
theorem dX5_begin_15 : decode cX5_begin 15 = .ok (.aload_n 0, 1) := by decide +kernel
theorem dX5_begin_16 : decode cX5_begin 16 = .ok (.iload_n 3, 1) := by decide +kernel
theorem dX5_begin_17 : decode cX5_begin 17 = .ok (.putfield 29, 3) := by decide +kernel
theorem dX5_begin_20 : decode cX5_begin 20 = .ok (.aload_n 0, 1) := by decide +kernel
theorem dX5_begin_21 : decode cX5_begin 21 = .ok (.iload 4, 2) := by decide +kernel
theorem dX5_begin_23 : decode cX5_begin 23 = .ok (.putfield 32, 3) := by decide +kernel
theorem dX5_begin_26 : decode cX5_begin 26 = .ok (.aload_n 0, 1) := by decide +kernel
theorem dX5_begin_27 : decode cX5_begin 27 = .ok (.aload 5, 2) := by decide +kernel
theorem dX5_begin_29 : decode cX5_begin 29 = .ok (.putfield 35, 3) := by decide +kernel
theorem dX5_begin_32 : decode cX5_begin 32 = .ok (.return_, 1) := by decide +kernel
theorem dX5_bestScore_0 : decode cX5_bestScore 0 = .ok (.aload_n 0, 1) := by decide +kernel
theorem dX5_bestScore_1 : decode cX5_bestScore 1 = .ok (.iload_n 1, 1) := by decide +kernel
theorem dX5_bestScore_2 : decode cX5_bestScore 2 = .ok (.putfield 39, 3) := by decide +kernel
theorem dX5_bestScore_5 : decode cX5_bestScore 5 = .ok (.aload_n 0, 1) := by decide +kernel
theorem dX5_bestScore_6 : decode cX5_bestScore 6 = .ok (.iconst 0, 1) := by decide +kernel
theorem dX5_bestScore_7 : decode cX5_bestScore 7 = .ok (.aload_n 0, 1) := by decide +kernel
theorem dX5_bestScore_8 : decode cX5_bestScore 8 = .ok (.getfield 16, 3) := by decide +kernel
theorem dX5_bestScore_11 : decode cX5_bestScore 11 = .ok (.iconst 0, 1) := by decide +kernel
theorem dX5_bestScore_12 : decode cX5_bestScore 12 = .ok (.iconst 0, 1) := by decide +kernel
theorem dX5_bestScore_13 : decode cX5_bestScore 13 = .ok (.invokevirtual 43, 3) := by decide +kernel
theorem dX5_bestScore_16 : decode cX5_bestScore 16 = .ok (.ireturn, 1) := by decide +kernel
theorem dX5_bestFrom_0 : decode cX5_bestFrom 0 = .ok (.iload_n 1, 1) := by decide +kernel
theorem dX5_bestFrom_1 : decode cX5_bestFrom 1 = .ok (.aload_n 0, 1) := by decide +kernel
theorem dX5_bestFrom_2 : decode cX5_bestFrom 2 = .ok (.getfield 26, 3) := by decide +kernel
theorem dX5_bestFrom_5 : decode cX5_bestFrom 5 = .ok (.if_icmp .lt 18, 3) := by decide +kernel
theorem dX5_bestFrom_8 : decode cX5_bestFrom 8 = .ok (.iload 4, 2) := by decide +kernel
theorem dX5_bestFrom_10 : decode cX5_bestFrom 10 = .ok (.sipush 1024, 3) := by decide +kernel
theorem dX5_bestFrom_13 : decode cX5_bestFrom 13 = .ok (.imul, 1) := by decide +kernel
theorem dX5_bestFrom_14 : decode cX5_bestFrom 14 = .ok (.sipush 1024, 3) := by decide +kernel
theorem dX5_bestFrom_17 : decode cX5_bestFrom 17 = .ok (.iadd, 1) := by decide +kernel
theorem dX5_bestFrom_18 : decode cX5_bestFrom 18 = .ok (.iconst 1, 1) := by decide +kernel
theorem dX5_bestFrom_19 : decode cX5_bestFrom 19 = .ok (.isub, 1) := by decide +kernel
theorem dX5_bestFrom_20 : decode cX5_bestFrom 20 = .ok (.iload_n 3, 1) := by decide +kernel
theorem dX5_bestFrom_21 : decode cX5_bestFrom 21 = .ok (.isub, 1) := by decide +kernel
theorem dX5_bestFrom_22 : decode cX5_bestFrom 22 = .ok (.ireturn, 1) := by decide +kernel
theorem dX5_bestFrom_23 : decode cX5_bestFrom 23 = .ok (.aload_n 0, 1) := by decide +kernel
theorem dX5_bestFrom_24 : decode cX5_bestFrom 24 = .ok (.iload_n 1, 1) := by decide +kernel
theorem dX5_bestFrom_25 : decode cX5_bestFrom 25 = .ok (.iconst 1, 1) := by decide +kernel
theorem dX5_bestFrom_26 : decode cX5_bestFrom 26 = .ok (.iadd, 1) := by decide +kernel
theorem dX5_bestFrom_27 : decode cX5_bestFrom 27 = .ok (.aload_n 0, 1) := by decide +kernel
theorem dX5_bestFrom_28 : decode cX5_bestFrom 28 = .ok (.iload_n 1, 1) := by decide +kernel
theorem dX5_bestFrom_29 : decode cX5_bestFrom 29 = .ok (.iload_n 2, 1) := by decide +kernel
theorem dX5_bestFrom_30 : decode cX5_bestFrom 30 = .ok (.iload_n 3, 1) := by decide +kernel
theorem dX5_bestFrom_31 : decode cX5_bestFrom 31 = .ok (.invokevirtual 47, 3) := by decide +kernel
theorem dX5_bestFrom_34 : decode cX5_bestFrom 34 = .ok (.iload_n 3, 1) := by decide +kernel
theorem dX5_bestFrom_35 : decode cX5_bestFrom 35 = .ok (.iload 4, 2) := by decide +kernel
theorem dX5_bestFrom_37 : decode cX5_bestFrom 37 = .ok (.aload_n 0, 1) := by decide +kernel
theorem dX5_bestFrom_38 : decode cX5_bestFrom 38 = .ok (.iload_n 1, 1) := by decide +kernel
theorem dX5_bestFrom_39 : decode cX5_bestFrom 39 = .ok (.iload_n 2, 1) := by decide +kernel
theorem dX5_bestFrom_40 : decode cX5_bestFrom 40 = .ok (.invokevirtual 51, 3) := by decide +kernel
theorem dX5_bestFrom_43 : decode cX5_bestFrom 43 = .ok (.iadd, 1) := by decide +kernel
theorem dX5_bestFrom_44 : decode cX5_bestFrom 44 = .ok (.invokevirtual 43, 3) := by decide +kernel
theorem dX5_bestFrom_47 : decode cX5_bestFrom 47 = .ok (.istore 5, 2) := by decide +kernel
theorem dX5_bestFrom_49 : decode cX5_bestFrom 49 = .ok (.aload_n 0, 1) := by decide +kernel
theorem dX5_bestFrom_50 : decode cX5_bestFrom 50 = .ok (.getfield 39, 3) := by decide +kernel
theorem dX5_bestFrom_53 : decode cX5_bestFrom 53 = .ok (.ifCond .eq 36, 3) := by decide +kernel
theorem dX5_bestFrom_56 : decode cX5_bestFrom 56 = .ok (.iload_n 3, 1) := by decide +kernel
theorem dX5_bestFrom_57 : decode cX5_bestFrom 57 = .ok (.iconst 1, 1) := by decide +kernel
theorem dX5_bestFrom_58 : decode cX5_bestFrom 58 = .ok (.iload_n 1, 1) := by decide +kernel
theorem dX5_bestFrom_59 : decode cX5_bestFrom 59 = .ok (.ishl, 1) := by decide +kernel
theorem dX5_bestFrom_60 : decode cX5_bestFrom 60 = .ok (.ior, 1) := by decide +kernel
theorem dX5_bestFrom_61 : decode cX5_bestFrom 61 = .ok (.istore 6, 2) := by decide +kernel
theorem dX5_bestFrom_63 : decode cX5_bestFrom 63 = .ok (.iload 5, 2) := by decide +kernel
theorem dX5_bestFrom_65 : decode cX5_bestFrom 65 = .ok (.aload_n 0, 1) := by decide +kernel
theorem dX5_bestFrom_66 : decode cX5_bestFrom 66 = .ok (.iload_n 1, 1) := by decide +kernel
theorem dX5_bestFrom_67 : decode cX5_bestFrom 67 = .ok (.iconst 1, 1) := by decide +kernel
theorem dX5_bestFrom_68 : decode cX5_bestFrom 68 = .ok (.iadd, 1) := by decide +kernel
theorem dX5_bestFrom_69 : decode cX5_bestFrom 69 = .ok (.aload_n 0, 1) := by decide +kernel
theorem dX5_bestFrom_70 : decode cX5_bestFrom 70 = .ok (.iload_n 1, 1) := by decide +kernel
theorem dX5_bestFrom_71 : decode cX5_bestFrom 71 = .ok (.iload_n 2, 1) := by decide +kernel
theorem dX5_bestFrom_72 : decode cX5_bestFrom 72 = .ok (.iload 6, 2) := by decide +kernel
theorem dX5_bestFrom_74 : decode cX5_bestFrom 74 = .ok (.invokevirtual 47, 3) := by decide +kernel
theorem dX5_bestFrom_77 : decode cX5_bestFrom 77 = .ok (.iload 6, 2) := by decide +kernel
theorem dX5_bestFrom_79 : decode cX5_bestFrom 79 = .ok (.iload 4, 2) := by decide +kernel
theorem dX5_bestFrom_81 : decode cX5_bestFrom 81 = .ok (.invokevirtual 43, 3) := by decide +kernel
theorem dX5_bestFrom_84 : decode cX5_bestFrom 84 = .ok (.invokestatic 54, 3) := by decide +kernel
theorem dX5_bestFrom_87 : decode cX5_bestFrom 87 = .ok (.istore 5, 2) := by decide +kernel
theorem dX5_bestFrom_89 : decode cX5_bestFrom 89 = .ok (.iload 5, 2) := by decide +kernel
theorem dX5_bestFrom_91 : decode cX5_bestFrom 91 = .ok (.ireturn, 1) := by decide +kernel
theorem dX5_wonOf_0 : decode cX5_wonOf 0 = .ok (.iload_n 0, 1) := by decide +kernel
theorem dX5_wonOf_1 : decode cX5_wonOf 1 = .ok (.sipush 1024, 3) := by decide +kernel
theorem dX5_wonOf_4 : decode cX5_wonOf 4 = .ok (.idiv, 1) := by decide +kernel
theorem dX5_wonOf_5 : decode cX5_wonOf 5 = .ok (.ireturn, 1) := by decide +kernel
theorem dX5_pullsOf_0 : decode cX5_pullsOf 0 = .ok (.sipush 1023, 3) := by decide +kernel
theorem dX5_pullsOf_3 : decode cX5_pullsOf 3 = .ok (.iload_n 0, 1) := by decide +kernel
theorem dX5_pullsOf_4 : decode cX5_pullsOf 4 = .ok (.sipush 1024, 3) := by decide +kernel
theorem dX5_pullsOf_7 : decode cX5_pullsOf 7 = .ok (.irem, 1) := by decide +kernel
theorem dX5_pullsOf_8 : decode cX5_pullsOf 8 = .ok (.isub, 1) := by decide +kernel
theorem dX5_pullsOf_9 : decode cX5_pullsOf 9 = .ok (.ireturn, 1) := by decide +kernel
theorem dX5_wonAt_0 : decode cX5_wonAt 0 = .ok (.iconst 0, 1) := by decide +kernel
theorem dX5_wonAt_1 : decode cX5_wonAt 1 = .ok (.iload_n 2, 1) := by decide +kernel
theorem dX5_wonAt_2 : decode cX5_wonAt 2 = .ok (.aload_n 0, 1) := by decide +kernel
theorem dX5_wonAt_3 : decode cX5_wonAt 3 = .ok (.getfield 9, 3) := by decide +kernel
theorem dX5_wonAt_6 : decode cX5_wonAt 6 = .ok (.iload_n 1, 1) := by decide +kernel
theorem dX5_wonAt_7 : decode cX5_wonAt 7 = .ok (.iaload, 1) := by decide +kernel
theorem dX5_wonAt_8 : decode cX5_wonAt 8 = .ok (.isub, 1) := by decide +kernel
theorem dX5_wonAt_9 : decode cX5_wonAt 9 = .ok (.invokestatic 54, 3) := by decide +kernel
theorem dX5_wonAt_12 : decode cX5_wonAt 12 = .ok (.istore_n 3, 1) := by decide +kernel
theorem dX5_wonAt_13 : decode cX5_wonAt 13 = .ok (.aload_n 0, 1) := by decide +kernel
theorem dX5_wonAt_14 : decode cX5_wonAt 14 = .ok (.getfield 9, 3) := by decide +kernel
theorem dX5_wonAt_17 : decode cX5_wonAt 17 = .ok (.iload_n 1, 1) := by decide +kernel
theorem dX5_wonAt_18 : decode cX5_wonAt 18 = .ok (.iaload, 1) := by decide +kernel
theorem dX5_wonAt_19 : decode cX5_wonAt 19 = .ok (.iload_n 3, 1) := by decide +kernel
theorem dX5_wonAt_20 : decode cX5_wonAt 20 = .ok (.iadd, 1) := by decide +kernel
theorem dX5_wonAt_21 : decode cX5_wonAt 21 = .ok (.aload_n 0, 1) := by decide +kernel
theorem dX5_wonAt_22 : decode cX5_wonAt 22 = .ok (.getfield 16, 3) := by decide +kernel
theorem dX5_wonAt_25 : decode cX5_wonAt 25 = .ok (.isub, 1) := by decide +kernel
theorem dX5_wonAt_26 : decode cX5_wonAt 26 = .ok (.istore 4, 2) := by decide +kernel
theorem dX5_wonAt_28 : decode cX5_wonAt 28 = .ok (.aload_n 0, 1) := by decide +kernel
theorem dX5_wonAt_29 : decode cX5_wonAt 29 = .ok (.getfield 13, 3) := by decide +kernel
theorem dX5_wonAt_32 : decode cX5_wonAt 32 = .ok (.iload_n 1, 1) := by decide +kernel
theorem dX5_wonAt_33 : decode cX5_wonAt 33 = .ok (.iaload, 1) := by decide +kernel
theorem dX5_wonAt_34 : decode cX5_wonAt 34 = .ok (.aload_n 0, 1) := by decide +kernel
theorem dX5_wonAt_35 : decode cX5_wonAt 35 = .ok (.getfield 29, 3) := by decide +kernel
theorem dX5_wonAt_38 : decode cX5_wonAt 38 = .ok (.iload 4, 2) := by decide +kernel
theorem dX5_wonAt_40 : decode cX5_wonAt 40 = .ok (.isub, 1) := by decide +kernel
theorem dX5_wonAt_41 : decode cX5_wonAt 41 = .ok (.iconst 1, 1) := by decide +kernel
theorem dX5_wonAt_42 : decode cX5_wonAt 42 = .ok (.iadd, 1) := by decide +kernel
theorem dX5_wonAt_43 : decode cX5_wonAt 43 = .ok (.iconst 0, 1) := by decide +kernel
theorem dX5_wonAt_44 : decode cX5_wonAt 44 = .ok (.iconst 2, 1) := by decide +kernel
theorem dX5_wonAt_45 : decode cX5_wonAt 45 = .ok (.aload_n 0, 1) := by decide +kernel
theorem dX5_wonAt_46 : decode cX5_wonAt 46 = .ok (.getfield 29, 3) := by decide +kernel
theorem dX5_wonAt_49 : decode cX5_wonAt 49 = .ok (.imul, 1) := by decide +kernel
theorem dX5_wonAt_50 : decode cX5_wonAt 50 = .ok (.iconst 1, 1) := by decide +kernel
theorem dX5_wonAt_51 : decode cX5_wonAt 51 = .ok (.iadd, 1) := by decide +kernel
theorem dX5_wonAt_52 : decode cX5_wonAt 52 = .ok (.invokestatic 57, 3) := by decide +kernel
theorem dX5_wonAt_55 : decode cX5_wonAt 55 = .ok (.imul, 1) := by decide +kernel
theorem dX5_wonAt_56 : decode cX5_wonAt 56 = .ok (.ireturn, 1) := by decide +kernel
theorem dX5_markAfter_0 : decode cX5_markAfter 0 = .ok (.aload_n 0, 1) := by decide +kernel
theorem dX5_markAfter_1 : decode cX5_markAfter 1 = .ok (.getfield 35, 3) := by decide +kernel
theorem dX5_markAfter_4 : decode cX5_markAfter 4 = .ok (.ifnonnull 5, 3) := by decide +kernel
theorem dX5_markAfter_7 : decode cX5_markAfter 7 = .ok (.iload_n 2, 1) := by decide +kernel
theorem dX5_markAfter_8 : decode cX5_markAfter 8 = .ok (.ireturn, 1) := by decide +kernel
theorem dX5_markAfter_9 : decode cX5_markAfter 9 = .ok (.aload_n 0, 1) := by decide +kernel
theorem dX5_markAfter_10 : decode cX5_markAfter 10 = .ok (.getfield 35, 3) := by decide +kernel
theorem dX5_markAfter_13 : decode cX5_markAfter 13 = .ok (.iload_n 1, 1) := by decide +kernel
theorem dX5_markAfter_14 : decode cX5_markAfter 14 = .ok (.iconst 1, 1) := by decide +kernel
theorem dX5_markAfter_15 : decode cX5_markAfter 15 = .ok (.iadd, 1) := by decide +kernel
theorem dX5_markAfter_16 : decode cX5_markAfter 16 = .ok (.invokevirtual 62, 3) := by decide +kernel
theorem dX5_markAfter_19 : decode cX5_markAfter 19 = .ok (.istore 4, 2) := by decide +kernel
theorem dX5_markAfter_21 : decode cX5_markAfter 21 = .ok (.aload_n 0, 1) := by decide +kernel
theorem dX5_markAfter_22 : decode cX5_markAfter 22 = .ok (.getfield 35, 3) := by decide +kernel
theorem dX5_markAfter_25 : decode cX5_markAfter 25 = .ok (.iload 4, 2) := by decide +kernel
theorem dX5_markAfter_27 : decode cX5_markAfter 27 = .ok (.invokevirtual 68, 3) := by decide +kernel
theorem dX5_markAfter_30 : decode cX5_markAfter 30 = .ok (.istore 5, 2) := by decide +kernel
theorem dX5_markAfter_32 : decode cX5_markAfter 32 = .ok (.iload 4, 2) := by decide +kernel
theorem dX5_markAfter_34 : decode cX5_markAfter 34 = .ok (.iload_n 3, 1) := by decide +kernel
theorem dX5_markAfter_35 : decode cX5_markAfter 35 = .ok (.iload_n 1, 1) := by decide +kernel
theorem dX5_markAfter_36 : decode cX5_markAfter 36 = .ok (.iconst 1, 1) := by decide +kernel
theorem dX5_markAfter_37 : decode cX5_markAfter 37 = .ok (.iadd, 1) := by decide +kernel
theorem dX5_markAfter_38 : decode cX5_markAfter 38 = .ok (.iload 4, 2) := by decide +kernel
theorem dX5_markAfter_40 : decode cX5_markAfter 40 = .ok (.isub, 1) := by decide +kernel
theorem dX5_markAfter_41 : decode cX5_markAfter 41 = .ok (.ishr, 1) := by decide +kernel
theorem dX5_markAfter_42 : decode cX5_markAfter 42 = .ok (.invokestatic 71, 3) := by decide +kernel
theorem dX5_markAfter_45 : decode cX5_markAfter 45 = .ok (.isub, 1) := by decide +kernel
theorem dX5_markAfter_46 : decode cX5_markAfter 46 = .ok (.istore 6, 2) := by decide +kernel
theorem dX5_markAfter_48 : decode cX5_markAfter 48 = .ok (.iload 5, 2) := by decide +kernel
theorem dX5_markAfter_50 : decode cX5_markAfter 50 = .ok (.iload 6, 2) := by decide +kernel
theorem dX5_markAfter_52 : decode cX5_markAfter 52 = .ok (.invokestatic 20, 3) := by decide +kernel
theorem dX5_markAfter_55 : decode cX5_markAfter 55 = .ok (.istore 7, 2) := by decide +kernel
theorem dX5_markAfter_57 : decode cX5_markAfter 57 = .ok (.aload_n 0, 1) := by decide +kernel
theorem dX5_markAfter_58 : decode cX5_markAfter 58 = .ok (.getfield 35, 3) := by decide +kernel
theorem dX5_markAfter_61 : decode cX5_markAfter 61 = .ok (.iload_n 2, 1) := by decide +kernel
theorem dX5_markAfter_62 : decode cX5_markAfter 62 = .ok (.invokevirtual 76, 3) := by decide +kernel
theorem dX5_markAfter_65 : decode cX5_markAfter 65 = .ok (.istore 8, 2) := by decide +kernel
theorem dX5_markAfter_67 : decode cX5_markAfter 67 = .ok (.iload 7, 2) := by decide +kernel
theorem dX5_markAfter_69 : decode cX5_markAfter 69 = .ok (.aload_n 0, 1) := by decide +kernel
theorem dX5_markAfter_70 : decode cX5_markAfter 70 = .ok (.getfield 16, 3) := by decide +kernel
theorem dX5_markAfter_73 : decode cX5_markAfter 73 = .ok (.iload 8, 2) := by decide +kernel
theorem dX5_markAfter_75 : decode cX5_markAfter 75 = .ok (.invokestatic 20, 3) := by decide +kernel
theorem dX5_markAfter_78 : decode cX5_markAfter 78 = .ok (.imul, 1) := by decide +kernel
theorem dX5_markAfter_79 : decode cX5_markAfter 79 = .ok (.iload 5, 2) := by decide +kernel
theorem dX5_markAfter_81 : decode cX5_markAfter 81 = .ok (.iload 7, 2) := by decide +kernel
theorem dX5_markAfter_83 : decode cX5_markAfter 83 = .ok (.isub, 1) := by decide +kernel
theorem dX5_markAfter_84 : decode cX5_markAfter 84 = .ok (.aload_n 0, 1) := by decide +kernel
theorem dX5_markAfter_85 : decode cX5_markAfter 85 = .ok (.getfield 16, 3) := by decide +kernel
theorem dX5_markAfter_88 : decode cX5_markAfter 88 = .ok (.aload_n 0, 1) := by decide +kernel
theorem dX5_markAfter_89 : decode cX5_markAfter 89 = .ok (.getfield 32, 3) := by decide +kernel
theorem dX5_markAfter_92 : decode cX5_markAfter 92 = .ok (.isub, 1) := by decide +kernel
theorem dX5_markAfter_93 : decode cX5_markAfter 93 = .ok (.iload 8, 2) := by decide +kernel
theorem dX5_markAfter_95 : decode cX5_markAfter 95 = .ok (.invokestatic 20, 3) := by decide +kernel
theorem dX5_markAfter_98 : decode cX5_markAfter 98 = .ok (.imul, 1) := by decide +kernel
theorem dX5_markAfter_99 : decode cX5_markAfter 99 = .ok (.iadd, 1) := by decide +kernel
theorem dX5_markAfter_100 : decode cX5_markAfter 100 = .ok (.istore 9, 2) := by decide +kernel
theorem dX5_markAfter_102 : decode cX5_markAfter 102 = .ok (.aload_n 0, 1) := by decide +kernel
theorem dX5_markAfter_103 : decode cX5_markAfter 103 = .ok (.getfield 35, 3) := by decide +kernel
theorem dX5_markAfter_106 : decode cX5_markAfter 106 = .ok (.iload_n 2, 1) := by decide +kernel
theorem dX5_markAfter_107 : decode cX5_markAfter 107 = .ok (.iload 9, 2) := by decide +kernel
theorem dX5_markAfter_109 : decode cX5_markAfter 109 = .ok (.iload 5, 2) := by decide +kernel
theorem dX5_markAfter_111 : decode cX5_markAfter 111 = .ok (.invokevirtual 79, 3) := by decide +kernel
theorem dX5_markAfter_114 : decode cX5_markAfter 114 = .ok (.ireturn, 1) := by decide +kernel
theorem dX6_init_0 : decode cX6_init 0 = .ok (.aload_n 0, 1) := by decide +kernel
theorem dX6_init_1 : decode cX6_init 1 = .ok (.invokespecial 3, 3) := by decide +kernel
theorem dX6_init_4 : decode cX6_init 4 = .ok (.aload_n 0, 1) := by decide +kernel
theorem dX6_init_5 : decode cX6_init 5 = .ok (.bipush 8, 2) := by decide +kernel
theorem dX6_init_7 : decode cX6_init 7 = .ok (.anewarray 9, 3) := by decide +kernel
theorem dX6_init_10 : decode cX6_init 10 = .ok (.putfield 11, 3) := by decide +kernel
theorem dX6_init_13 : decode cX6_init 13 = .ok (.aload_n 0, 1) := by decide +kernel
theorem dX6_init_14 : decode cX6_init 14 = .ok (.iconst 1, 1) := by decide +kernel
theorem dX6_init_15 : decode cX6_init 15 = .ok (.putfield 17, 3) := by decide +kernel
theorem dX6_init_18 : decode cX6_init 18 = .ok (.iconst 0, 1) := by decide +kernel
theorem dX6_init_19 : decode cX6_init 19 = .ok (.istore_n 1, 1) := by decide +kernel
theorem dX6_init_20 : decode cX6_init 20 = .ok (.iload_n 1, 1) := by decide +kernel
theorem dX6_init_21 : decode cX6_init 21 = .ok (.bipush 8, 2) := by decide +kernel
theorem dX6_init_23 : decode cX6_init 23 = .ok (.if_icmp .ge 22, 3) := by decide +kernel
theorem dX6_init_26 : decode cX6_init 26 = .ok (.aload_n 0, 1) := by decide +kernel
theorem dX6_init_27 : decode cX6_init 27 = .ok (.getfield 11, 3) := by decide +kernel
theorem dX6_init_30 : decode cX6_init 30 = .ok (.iload_n 1, 1) := by decide +kernel
theorem dX6_init_31 : decode cX6_init 31 = .ok (.new 9, 3) := by decide +kernel
theorem dX6_init_34 : decode cX6_init 34 = .ok (.dup, 1) := by decide +kernel
theorem dX6_init_35 : decode cX6_init 35 = .ok (.invokespecial 21, 3) := by decide +kernel
theorem dX6_init_38 : decode cX6_init 38 = .ok (.aastore, 1) := by decide +kernel
theorem dX6_init_39 : decode cX6_init 39 = .ok (.iinc 1 1, 3) := by decide +kernel
theorem dX6_init_42 : decode cX6_init 42 = .ok (.goto (-22), 3) := by decide +kernel
theorem dX6_init_45 : decode cX6_init 45 = .ok (.return_, 1) := by decide +kernel
theorem dX6_become_0 : decode cX6_become 0 = .ok (.aload_n 0, 1) := by decide +kernel
theorem dX6_become_1 : decode cX6_become 1 = .ok (.aload_n 1, 1) := by decide +kernel
theorem dX6_become_2 : decode cX6_become 2 = .ok (.getfield 22, 3) := by decide +kernel
theorem dX6_become_5 : decode cX6_become 5 = .ok (.putfield 22, 3) := by decide +kernel
theorem dX6_become_8 : decode cX6_become 8 = .ok (.aload_n 0, 1) := by decide +kernel
theorem dX6_become_9 : decode cX6_become 9 = .ok (.aload_n 1, 1) := by decide +kernel
theorem dX6_become_10 : decode cX6_become 10 = .ok (.getfield 17, 3) := by decide +kernel
theorem dX6_become_13 : decode cX6_become 13 = .ok (.putfield 17, 3) := by decide +kernel
theorem dX6_become_16 : decode cX6_become 16 = .ok (.aload_n 0, 1) := by decide +kernel
theorem dX6_become_17 : decode cX6_become 17 = .ok (.aload_n 1, 1) := by decide +kernel
theorem dX6_become_18 : decode cX6_become 18 = .ok (.getfield 25, 3) := by decide +kernel
theorem dX6_become_21 : decode cX6_become 21 = .ok (.putfield 25, 3) := by decide +kernel
theorem dX6_become_24 : decode cX6_become 24 = .ok (.iconst 0, 1) := by decide +kernel
theorem dX6_become_25 : decode cX6_become 25 = .ok (.istore_n 2, 1) := by decide +kernel
theorem dX6_become_26 : decode cX6_become 26 = .ok (.iload_n 2, 1) := by decide +kernel
theorem dX6_become_27 : decode cX6_become 27 = .ok (.aload_n 0, 1) := by decide +kernel
theorem dX6_become_28 : decode cX6_become 28 = .ok (.getfield 22, 3) := by decide +kernel
theorem dX6_become_31 : decode cX6_become 31 = .ok (.if_icmp .ge 24, 3) := by decide +kernel
theorem dX6_become_34 : decode cX6_become 34 = .ok (.aload_n 0, 1) := by decide +kernel
theorem dX6_become_35 : decode cX6_become 35 = .ok (.getfield 11, 3) := by decide +kernel
theorem dX6_become_38 : decode cX6_become 38 = .ok (.iload_n 2, 1) := by decide +kernel
theorem dX6_become_39 : decode cX6_become 39 = .ok (.aaload, 1) := by decide +kernel
theorem dX6_become_40 : decode cX6_become 40 = .ok (.aload_n 1, 1) := by decide +kernel
theorem dX6_become_41 : decode cX6_become 41 = .ok (.getfield 11, 3) := by decide +kernel
theorem dX6_become_44 : decode cX6_become 44 = .ok (.iload_n 2, 1) := by decide +kernel
theorem dX6_become_45 : decode cX6_become 45 = .ok (.aaload, 1) := by decide +kernel
theorem dX6_become_46 : decode cX6_become 46 = .ok (.invokevirtual 28, 3) := by decide +kernel
theorem dX6_become_49 : decode cX6_become 49 = .ok (.iinc 2 1, 3) := by decide +kernel
theorem dX6_become_52 : decode cX6_become 52 = .ok (.goto (-26), 3) := by decide +kernel
theorem dX6_become_55 : decode cX6_become 55 = .ok (.return_, 1) := by decide +kernel
theorem dX6_nextLot_0 : decode cX6_nextLot 0 = .ok (.aload_n 0, 1) := by decide +kernel
theorem dX6_nextLot_1 : decode cX6_nextLot 1 = .ok (.aload_n 0, 1) := by decide +kernel
theorem dX6_nextLot_2 : decode cX6_nextLot 2 = .ok (.getfield 17, 3) := by decide +kernel
theorem dX6_nextLot_5 : decode cX6_nextLot 5 = .ok (.ldc 32, 2) := by decide +kernel
theorem dX6_nextLot_7 : decode cX6_nextLot 7 = .ok (.imul, 1) := by decide +kernel
theorem dX6_nextLot_8 : decode cX6_nextLot 8 = .ok (.sipush 12345, 3) := by decide +kernel
theorem dX6_nextLot_11 : decode cX6_nextLot 11 = .ok (.iadd, 1) := by decide +kernel
theorem dX6_nextLot_12 : decode cX6_nextLot 12 = .ok (.putfield 17, 3) := by decide +kernel
theorem dX6_nextLot_15 : decode cX6_nextLot 15 = .ok (.aload_n 0, 1) := by decide +kernel
theorem dX6_nextLot_16 : decode cX6_nextLot 16 = .ok (.getfield 17, 3) := by decide +kernel
theorem dX6_nextLot_19 : decode cX6_nextLot 19 = .ok (.ireturn, 1) := by decide +kernel
theorem dX7_init_0 : decode cX7_init 0 = .ok (.aload_n 0, 1) := by decide +kernel
theorem dX7_init_1 : decode cX7_init 1 = .ok (.invokespecial 1, 3) := by decide +kernel
theorem dX7_init_4 : decode cX7_init 4 = .ok (.aload_n 0, 1) := by decide +kernel
theorem dX7_init_5 : decode cX7_init 5 = .ok (.new 7, 3) := by decide +kernel
theorem dX7_init_8 : decode cX7_init 8 = .ok (.dup, 1) := by decide +kernel
theorem dX7_init_9 : decode cX7_init 9 = .ok (.invokespecial 9, 3) := by decide +kernel
theorem dX7_init_12 : decode cX7_init 12 = .ok (.putfield 10, 3) := by decide +kernel
theorem dX7_init_15 : decode cX7_init 15 = .ok (.aload_n 0, 1) := by decide +kernel
theorem dX7_init_16 : decode cX7_init 16 = .ok (.iconst 2, 1) := by decide +kernel
theorem dX7_init_17 : decode cX7_init 17 = .ok (.anewarray 7, 3) := by decide +kernel
theorem dX7_init_20 : decode cX7_init 20 = .ok (.putfield 16, 3) := by decide +kernel
theorem dX7_init_23 : decode cX7_init 23 = .ok (.aload_n 0, 1) := by decide +kernel
theorem dX7_init_24 : decode cX7_init 24 = .ok (.iconst 3, 1) := by decide +kernel
theorem dX7_init_25 : decode cX7_init 25 = .ok (.newarray .int, 2) := by decide +kernel
theorem dX7_init_27 : decode cX7_init 27 = .ok (.dup, 1) := by decide +kernel
theorem dX7_init_28 : decode cX7_init 28 = .ok (.iconst 0, 1) := by decide +kernel
theorem dX7_init_29 : decode cX7_init 29 = .ok (.iconst 2, 1) := by decide +kernel
theorem dX7_init_30 : decode cX7_init 30 = .ok (.iastore, 1) := by decide +kernel
theorem dX7_init_31 : decode cX7_init 31 = .ok (.dup, 1) := by decide +kernel
theorem dX7_init_32 : decode cX7_init 32 = .ok (.iconst 1, 1) := by decide +kernel
theorem dX7_init_33 : decode cX7_init 33 = .ok (.iconst 3, 1) := by decide +kernel
theorem dX7_init_34 : decode cX7_init 34 = .ok (.iastore, 1) := by decide +kernel
theorem dX7_init_35 : decode cX7_init 35 = .ok (.dup, 1) := by decide +kernel
theorem dX7_init_36 : decode cX7_init 36 = .ok (.iconst 2, 1) := by decide +kernel
end
section
theorem dX7_init_37 : decode cX7_init 37 = .ok (.bipush 10, 2) := by decide +kernel
theorem dX7_init_39 : decode cX7_init 39 = .ok (.iastore, 1) := by decide +kernel
theorem dX7_init_40 : decode cX7_init 40 = .ok (.putfield 20, 3) := by decide +kernel
theorem dX7_init_43 : decode cX7_init 43 = .ok (.aload_n 0, 1) := by decide +kernel
theorem dX7_init_44 : decode cX7_init 44 = .ok (.new 24, 3) := by decide +kernel
theorem dX7_init_47 : decode cX7_init 47 = .ok (.dup, 1) := by decide +kernel
theorem dX7_init_48 : decode cX7_init 48 = .ok (.invokespecial 26, 3) := by decide +kernel
theorem dX7_init_51 : decode cX7_init 51 = .ok (.putfield 27, 3) := by decide +kernel
theorem dX7_init_54 : decode cX7_init 54 = .ok (.aload_n 0, 1) := by decide +kernel
theorem dX7_init_55 : decode cX7_init 55 = .ok (.new 31, 3) := by decide +kernel
theorem dX7_init_58 : decode cX7_init 58 = .ok (.dup, 1) := by decide +kernel
theorem dX7_init_59 : decode cX7_init 59 = .ok (.invokespecial 33, 3) := by decide +kernel
theorem dX7_init_62 : decode cX7_init 62 = .ok (.putfield 34, 3) := by decide +kernel
theorem dX7_init_65 : decode cX7_init 65 = .ok (.aload_n 0, 1) := by decide +kernel
theorem dX7_init_66 : decode cX7_init 66 = .ok (.new 31, 3) := by decide +kernel
theorem dX7_init_69 : decode cX7_init 69 = .ok (.dup, 1) := by decide +kernel
theorem dX7_init_70 : decode cX7_init 70 = .ok (.invokespecial 33, 3) := by decide +kernel
theorem dX7_init_73 : decode cX7_init 73 = .ok (.putfield 38, 3) := by decide +kernel
theorem dX7_init_76 : decode cX7_init 76 = .ok (.aload_n 0, 1) := by decide +kernel
theorem dX7_init_77 : decode cX7_init 77 = .ok (.new 41, 3) := by decide +kernel
theorem dX7_init_80 : decode cX7_init 80 = .ok (.dup, 1) := by decide +kernel
theorem dX7_init_81 : decode cX7_init 81 = .ok (.invokespecial 43, 3) := by decide +kernel
theorem dX7_init_84 : decode cX7_init 84 = .ok (.putfield 44, 3) := by decide +kernel
theorem dX7_init_87 : decode cX7_init 87 = .ok (.aload_n 0, 1) := by decide +kernel
theorem dX7_init_88 : decode cX7_init 88 = .ok (.new 48, 3) := by decide +kernel
theorem dX7_init_91 : decode cX7_init 91 = .ok (.dup, 1) := by decide +kernel
theorem dX7_init_92 : decode cX7_init 92 = .ok (.invokespecial 50, 3) := by decide +kernel
theorem dX7_init_95 : decode cX7_init 95 = .ok (.putfield 51, 3) := by decide +kernel
theorem dX7_init_98 : decode cX7_init 98 = .ok (.aload_n 0, 1) := by decide +kernel
theorem dX7_init_99 : decode cX7_init 99 = .ok (.new 55, 3) := by decide +kernel
theorem dX7_init_102 : decode cX7_init 102 = .ok (.dup, 1) := by decide +kernel
theorem dX7_init_103 : decode cX7_init 103 = .ok (.invokespecial 57, 3) := by decide +kernel
theorem dX7_init_106 : decode cX7_init 106 = .ok (.putfield 58, 3) := by decide +kernel
theorem dX7_init_109 : decode cX7_init 109 = .ok (.aload_n 0, 1) := by decide +kernel
theorem dX7_init_110 : decode cX7_init 110 = .ok (.new 62, 3) := by decide +kernel
theorem dX7_init_113 : decode cX7_init 113 = .ok (.dup, 1) := by decide +kernel
theorem dX7_init_114 : decode cX7_init 114 = .ok (.invokespecial 64, 3) := by decide +kernel
theorem dX7_init_117 : decode cX7_init 117 = .ok (.putfield 65, 3) := by decide +kernel
theorem dX7_init_120 : decode cX7_init 120 = .ok (.aload_n 0, 1) := by decide +kernel
theorem dX7_init_121 : decode cX7_init 121 = .ok (.bipush 8, 2) := by decide +kernel
theorem dX7_init_123 : decode cX7_init 123 = .ok (.newarray .int, 2) := by decide +kernel
theorem dX7_init_125 : decode cX7_init 125 = .ok (.putfield 69, 3) := by decide +kernel
theorem dX7_init_128 : decode cX7_init 128 = .ok (.aload_n 0, 1) := by decide +kernel
theorem dX7_init_129 : decode cX7_init 129 = .ok (.bipush 8, 2) := by decide +kernel
theorem dX7_init_131 : decode cX7_init 131 = .ok (.newarray .int, 2) := by decide +kernel
theorem dX7_init_133 : decode cX7_init 133 = .ok (.putfield 72, 3) := by decide +kernel
theorem dX7_init_136 : decode cX7_init 136 = .ok (.aload_n 0, 1) := by decide +kernel
theorem dX7_init_137 : decode cX7_init 137 = .ok (.bipush 8, 2) := by decide +kernel
theorem dX7_init_139 : decode cX7_init 139 = .ok (.newarray .int, 2) := by decide +kernel
theorem dX7_init_141 : decode cX7_init 141 = .ok (.putfield 75, 3) := by decide +kernel
theorem dX7_init_144 : decode cX7_init 144 = .ok (.iconst 0, 1) := by decide +kernel
theorem dX7_init_145 : decode cX7_init 145 = .ok (.istore_n 1, 1) := by decide +kernel
theorem dX7_init_146 : decode cX7_init 146 = .ok (.iload_n 1, 1) := by decide +kernel
theorem dX7_init_147 : decode cX7_init 147 = .ok (.iconst 2, 1) := by decide +kernel
theorem dX7_init_148 : decode cX7_init 148 = .ok (.if_icmp .ge 22, 3) := by decide +kernel
theorem dX7_init_151 : decode cX7_init 151 = .ok (.aload_n 0, 1) := by decide +kernel
theorem dX7_init_152 : decode cX7_init 152 = .ok (.getfield 16, 3) := by decide +kernel
theorem dX7_init_155 : decode cX7_init 155 = .ok (.iload_n 1, 1) := by decide +kernel
theorem dX7_init_156 : decode cX7_init 156 = .ok (.new 7, 3) := by decide +kernel
theorem dX7_init_159 : decode cX7_init 159 = .ok (.dup, 1) := by decide +kernel
theorem dX7_init_160 : decode cX7_init 160 = .ok (.invokespecial 9, 3) := by decide +kernel
theorem dX7_init_163 : decode cX7_init 163 = .ok (.aastore, 1) := by decide +kernel
theorem dX7_init_164 : decode cX7_init 164 = .ok (.iinc 1 1, 3) := by decide +kernel
theorem dX7_init_167 : decode cX7_init 167 = .ok (.goto (-21), 3) := by decide +kernel
theorem dX7_init_170 : decode cX7_init 170 = .ok (.return_, 1) := by decide +kernel
theorem dX7_runner_0 : decode cX7_runner 0 = .ok (.iload_n 1, 1) := by decide +kernel
theorem dX7_runner_1 : decode cX7_runner 1 = .ok (.iconst 0, 1) := by decide +kernel
theorem dX7_runner_2 : decode cX7_runner 2 = .ok (.sipush 200, 3) := by decide +kernel
theorem dX7_runner_5 : decode cX7_runner 5 = .ok (.invokestatic 78, 3) := by decide +kernel
theorem dX7_runner_8 : decode cX7_runner 8 = .ok (.ifCond .ne 5, 3) := by decide +kernel
theorem dX7_runner_11 : decode cX7_runner 11 = .ok (.iconst (-1), 1) := by decide +kernel
theorem dX7_runner_12 : decode cX7_runner 12 = .ok (.ireturn, 1) := by decide +kernel
theorem dX7_runner_13 : decode cX7_runner 13 = .ok (.aload_n 0, 1) := by decide +kernel
theorem dX7_runner_14 : decode cX7_runner 14 = .ok (.getfield 10, 3) := by decide +kernel
theorem dX7_runner_17 : decode cX7_runner 17 = .ok (.getfield 82, 3) := by decide +kernel
theorem dX7_runner_20 : decode cX7_runner 20 = .ok (.bipush 8, 2) := by decide +kernel
theorem dX7_runner_22 : decode cX7_runner 22 = .ok (.if_icmp .lt 6, 3) := by decide +kernel
theorem dX7_runner_25 : decode cX7_runner 25 = .ok (.bipush (-3), 2) := by decide +kernel
theorem dX7_runner_27 : decode cX7_runner 27 = .ok (.ireturn, 1) := by decide +kernel
theorem dX7_runner_28 : decode cX7_runner 28 = .ok (.aload_n 0, 1) := by decide +kernel
theorem dX7_runner_29 : decode cX7_runner 29 = .ok (.getfield 10, 3) := by decide +kernel
theorem dX7_runner_32 : decode cX7_runner 32 = .ok (.getfield 86, 3) := by decide +kernel
theorem dX7_runner_35 : decode cX7_runner 35 = .ok (.aload_n 0, 1) := by decide +kernel
theorem dX7_runner_36 : decode cX7_runner 36 = .ok (.getfield 10, 3) := by decide +kernel
theorem dX7_runner_39 : decode cX7_runner 39 = .ok (.getfield 82, 3) := by decide +kernel
theorem dX7_runner_42 : decode cX7_runner 42 = .ok (.aaload, 1) := by decide +kernel
theorem dX7_runner_43 : decode cX7_runner 43 = .ok (.iload_n 1, 1) := by decide +kernel
theorem dX7_runner_44 : decode cX7_runner 44 = .ok (.invokevirtual 90, 3) := by decide +kernel
theorem dX7_runner_47 : decode cX7_runner 47 = .ok (.aload_n 0, 1) := by decide +kernel
theorem dX7_runner_48 : decode cX7_runner 48 = .ok (.getfield 10, 3) := by decide +kernel
theorem dX7_runner_51 : decode cX7_runner 51 = .ok (.dup, 1) := by decide +kernel
theorem dX7_runner_52 : decode cX7_runner 52 = .ok (.getfield 82, 3) := by decide +kernel
theorem dX7_runner_55 : decode cX7_runner 55 = .ok (.iconst 1, 1) := by decide +kernel
theorem dX7_runner_56 : decode cX7_runner 56 = .ok (.iadd, 1) := by decide +kernel
theorem dX7_runner_57 : decode cX7_runner 57 = .ok (.putfield 82, 3) := by decide +kernel
theorem dX7_runner_60 : decode cX7_runner 60 = .ok (.aload_n 0, 1) := by decide +kernel
theorem dX7_runner_61 : decode cX7_runner 61 = .ok (.getfield 10, 3) := by decide +kernel
theorem dX7_runner_64 : decode cX7_runner 64 = .ok (.getfield 82, 3) := by decide +kernel
theorem dX7_runner_67 : decode cX7_runner 67 = .ok (.iconst 1, 1) := by decide +kernel
theorem dX7_runner_68 : decode cX7_runner 68 = .ok (.isub, 1) := by decide +kernel
theorem dX7_runner_69 : decode cX7_runner 69 = .ok (.ireturn, 1) := by decide +kernel
theorem dX7_set_0 : decode cX7_set 0 = .ok (.aload_n 0, 1) := by decide +kernel
theorem dX7_set_1 : decode cX7_set 1 = .ok (.iload_n 1, 1) := by decide +kernel
theorem dX7_set_2 : decode cX7_set 2 = .ok (.invokevirtual 94, 3) := by decide +kernel
theorem dX7_set_5 : decode cX7_set 5 = .ok (.ifCond .eq 17, 3) := by decide +kernel
theorem dX7_set_8 : decode cX7_set 8 = .ok (.iload_n 2, 1) := by decide +kernel
theorem dX7_set_9 : decode cX7_set 9 = .ok (.iconst 0, 1) := by decide +kernel
theorem dX7_set_10 : decode cX7_set 10 = .ok (.getstatic 98, 3) := by decide +kernel
theorem dX7_set_13 : decode cX7_set 13 = .ok (.arraylength, 1) := by decide +kernel
theorem dX7_set_14 : decode cX7_set 14 = .ok (.iconst 1, 1) := by decide +kernel
theorem dX7_set_15 : decode cX7_set 15 = .ok (.isub, 1) := by decide +kernel
theorem dX7_set_16 : decode cX7_set 16 = .ok (.invokestatic 78, 3) := by decide +kernel
theorem dX7_set_19 : decode cX7_set 19 = .ok (.ifCond .ne 6, 3) := by decide +kernel
theorem dX7_set_22 : decode cX7_set 22 = .ok (.ldc 101, 2) := by decide +kernel
theorem dX7_set_24 : decode cX7_set 24 = .ok (.ireturn, 1) := by decide +kernel
theorem dX7_set_25 : decode cX7_set 25 = .ok (.iload_n 3, 1) := by decide +kernel
theorem dX7_set_26 : decode cX7_set 26 = .ok (.getstatic 102, 3) := by decide +kernel
theorem dX7_set_29 : decode cX7_set 29 = .ok (.iload_n 2, 1) := by decide +kernel
theorem dX7_set_30 : decode cX7_set 30 = .ok (.iaload, 1) := by decide +kernel
theorem dX7_set_31 : decode cX7_set 31 = .ok (.getstatic 98, 3) := by decide +kernel
theorem dX7_set_34 : decode cX7_set 34 = .ok (.iload_n 2, 1) := by decide +kernel
theorem dX7_set_35 : decode cX7_set 35 = .ok (.iaload, 1) := by decide +kernel
theorem dX7_set_36 : decode cX7_set 36 = .ok (.invokestatic 78, 3) := by decide +kernel
theorem dX7_set_39 : decode cX7_set 39 = .ok (.ifCond .ne 6, 3) := by decide +kernel
theorem dX7_set_42 : decode cX7_set 42 = .ok (.ldc 101, 2) := by decide +kernel
theorem dX7_set_44 : decode cX7_set 44 = .ok (.ireturn, 1) := by decide +kernel
theorem dX7_set_45 : decode cX7_set 45 = .ok (.aload_n 0, 1) := by decide +kernel
theorem dX7_set_46 : decode cX7_set 46 = .ok (.getfield 10, 3) := by decide +kernel
theorem dX7_set_49 : decode cX7_set 49 = .ok (.getfield 86, 3) := by decide +kernel
theorem dX7_set_52 : decode cX7_set 52 = .ok (.iload_n 1, 1) := by decide +kernel
theorem dX7_set_53 : decode cX7_set 53 = .ok (.aaload, 1) := by decide +kernel
theorem dX7_set_54 : decode cX7_set 54 = .ok (.iload_n 2, 1) := by decide +kernel
theorem dX7_set_55 : decode cX7_set 55 = .ok (.iload_n 3, 1) := by decide +kernel
theorem dX7_set_56 : decode cX7_set 56 = .ok (.invokevirtual 105, 3) := by decide +kernel
theorem dX7_set_59 : decode cX7_set 59 = .ok (.ireturn, 1) := by decide +kernel
theorem dX7_about_0 : decode cX7_about 0 = .ok (.aload_n 0, 1) := by decide +kernel
theorem dX7_about_1 : decode cX7_about 1 = .ok (.iload_n 1, 1) := by decide +kernel
theorem dX7_about_2 : decode cX7_about 2 = .ok (.invokevirtual 94, 3) := by decide +kernel
theorem dX7_about_5 : decode cX7_about 5 = .ok (.ifCond .ne 6, 3) := by decide +kernel
theorem dX7_about_8 : decode cX7_about 8 = .ok (.ldc 101, 2) := by decide +kernel
theorem dX7_about_10 : decode cX7_about 10 = .ok (.ireturn, 1) := by decide +kernel
theorem dX7_about_11 : decode cX7_about 11 = .ok (.aload_n 0, 1) := by decide +kernel
theorem dX7_about_12 : decode cX7_about 12 = .ok (.getfield 10, 3) := by decide +kernel
theorem dX7_about_15 : decode cX7_about 15 = .ok (.getfield 86, 3) := by decide +kernel
theorem dX7_about_18 : decode cX7_about 18 = .ok (.iload_n 1, 1) := by decide +kernel
theorem dX7_about_19 : decode cX7_about 19 = .ok (.aaload, 1) := by decide +kernel
theorem dX7_about_20 : decode cX7_about 20 = .ok (.astore_n 3, 1) := by decide +kernel
theorem dX7_about_21 : decode cX7_about 21 = .ok (.iload_n 2, 1) := by decide +kernel
theorem dX7_about_22 : decode cX7_about 22 = .ok (.tableswitch 68 0 5 #[38, 43, 48, 53, 58, 63], 38) := by decide +kernel
theorem dX7_about_60 : decode cX7_about 60 = .ok (.aload_n 3, 1) := by decide +kernel
theorem dX7_about_61 : decode cX7_about 61 = .ok (.getfield 109, 3) := by decide +kernel
theorem dX7_about_64 : decode cX7_about 64 = .ok (.ireturn, 1) := by decide +kernel
theorem dX7_about_65 : decode cX7_about 65 = .ok (.aload_n 3, 1) := by decide +kernel
theorem dX7_about_66 : decode cX7_about 66 = .ok (.getfield 112, 3) := by decide +kernel
theorem dX7_about_69 : decode cX7_about 69 = .ok (.ireturn, 1) := by decide +kernel
theorem dX7_about_70 : decode cX7_about 70 = .ok (.aload_n 3, 1) := by decide +kernel
theorem dX7_about_71 : decode cX7_about 71 = .ok (.getfield 115, 3) := by decide +kernel
theorem dX7_about_74 : decode cX7_about 74 = .ok (.ireturn, 1) := by decide +kernel
theorem dX7_about_75 : decode cX7_about 75 = .ok (.aload_n 3, 1) := by decide +kernel
theorem dX7_about_76 : decode cX7_about 76 = .ok (.getfield 118, 3) := by decide +kernel
theorem dX7_about_79 : decode cX7_about 79 = .ok (.ireturn, 1) := by decide +kernel
theorem dX7_about_80 : decode cX7_about 80 = .ok (.aload_n 3, 1) := by decide +kernel
theorem dX7_about_81 : decode cX7_about 81 = .ok (.getfield 121, 3) := by decide +kernel
theorem dX7_about_84 : decode cX7_about 84 = .ok (.ireturn, 1) := by decide +kernel
theorem dX7_about_85 : decode cX7_about 85 = .ok (.aload_n 3, 1) := by decide +kernel
theorem dX7_about_86 : decode cX7_about 86 = .ok (.getfield 124, 3) := by decide +kernel
theorem dX7_about_89 : decode cX7_about 89 = .ok (.ireturn, 1) := by decide +kernel
theorem dX7_about_90 : decode cX7_about 90 = .ok (.ldc 101, 2) := by decide +kernel
theorem dX7_about_92 : decode cX7_about 92 = .ok (.ireturn, 1) := by decide +kernel
theorem dX7_figure_0 : decode cX7_figure 0 = .ok (.aload_n 0, 1) := by decide +kernel
theorem dX7_figure_1 : decode cX7_figure 1 = .ok (.iload_n 1, 1) := by decide +kernel
theorem dX7_figure_2 : decode cX7_figure 2 = .ok (.invokevirtual 94, 3) := by decide +kernel
theorem dX7_figure_5 : decode cX7_figure 5 = .ok (.ifCond .eq 25, 3) := by decide +kernel
theorem dX7_figure_8 : decode cX7_figure 8 = .ok (.iload_n 2, 1) := by decide +kernel
theorem dX7_figure_9 : decode cX7_figure 9 = .ok (.iconst 0, 1) := by decide +kernel
theorem dX7_figure_10 : decode cX7_figure 10 = .ok (.aload_n 0, 1) := by decide +kernel
theorem dX7_figure_11 : decode cX7_figure 11 = .ok (.getfield 10, 3) := by decide +kernel
theorem dX7_figure_14 : decode cX7_figure 14 = .ok (.getfield 86, 3) := by decide +kernel
theorem dX7_figure_17 : decode cX7_figure 17 = .ok (.iload_n 1, 1) := by decide +kernel
theorem dX7_figure_18 : decode cX7_figure 18 = .ok (.aaload, 1) := by decide +kernel
theorem dX7_figure_19 : decode cX7_figure 19 = .ok (.getfield 124, 3) := by decide +kernel
theorem dX7_figure_22 : decode cX7_figure 22 = .ok (.iconst 1, 1) := by decide +kernel
theorem dX7_figure_23 : decode cX7_figure 23 = .ok (.isub, 1) := by decide +kernel
theorem dX7_figure_24 : decode cX7_figure 24 = .ok (.invokestatic 78, 3) := by decide +kernel
theorem dX7_figure_27 : decode cX7_figure 27 = .ok (.ifCond .ne 6, 3) := by decide +kernel
theorem dX7_figure_30 : decode cX7_figure 30 = .ok (.ldc 101, 2) := by decide +kernel
theorem dX7_figure_32 : decode cX7_figure 32 = .ok (.ireturn, 1) := by decide +kernel
theorem dX7_figure_33 : decode cX7_figure 33 = .ok (.aload_n 0, 1) := by decide +kernel
theorem dX7_figure_34 : decode cX7_figure 34 = .ok (.getfield 10, 3) := by decide +kernel
theorem dX7_figure_37 : decode cX7_figure 37 = .ok (.getfield 86, 3) := by decide +kernel
theorem dX7_figure_40 : decode cX7_figure 40 = .ok (.iload_n 1, 1) := by decide +kernel
theorem dX7_figure_41 : decode cX7_figure 41 = .ok (.aaload, 1) := by decide +kernel
theorem dX7_figure_42 : decode cX7_figure 42 = .ok (.getfield 127, 3) := by decide +kernel
theorem dX7_figure_45 : decode cX7_figure 45 = .ok (.iload_n 2, 1) := by decide +kernel
theorem dX7_figure_46 : decode cX7_figure 46 = .ok (.iaload, 1) := by decide +kernel
theorem dX7_figure_47 : decode cX7_figure 47 = .ok (.ireturn, 1) := by decide +kernel
theorem dX7_tune_0 : decode cX7_tune 0 = .ok (.iload_n 1, 1) := by decide +kernel
theorem dX7_tune_1 : decode cX7_tune 1 = .ok (.iconst 0, 1) := by decide +kernel
theorem dX7_tune_2 : decode cX7_tune 2 = .ok (.getstatic 130, 3) := by decide +kernel
theorem dX7_tune_5 : decode cX7_tune 5 = .ok (.arraylength, 1) := by decide +kernel
theorem dX7_tune_6 : decode cX7_tune 6 = .ok (.iconst 1, 1) := by decide +kernel
theorem dX7_tune_7 : decode cX7_tune 7 = .ok (.isub, 1) := by decide +kernel
theorem dX7_tune_8 : decode cX7_tune 8 = .ok (.invokestatic 78, 3) := by decide +kernel
theorem dX7_tune_11 : decode cX7_tune 11 = .ok (.ifCond .eq 16, 3) := by decide +kernel
theorem dX7_tune_14 : decode cX7_tune 14 = .ok (.iload_n 2, 1) := by decide +kernel
theorem dX7_tune_15 : decode cX7_tune 15 = .ok (.iconst 0, 1) := by decide +kernel
theorem dX7_tune_16 : decode cX7_tune 16 = .ok (.getstatic 130, 3) := by decide +kernel
theorem dX7_tune_19 : decode cX7_tune 19 = .ok (.iload_n 1, 1) := by decide +kernel
theorem dX7_tune_20 : decode cX7_tune 20 = .ok (.iaload, 1) := by decide +kernel
theorem dX7_tune_21 : decode cX7_tune 21 = .ok (.invokestatic 78, 3) := by decide +kernel
theorem dX7_tune_24 : decode cX7_tune 24 = .ok (.ifCond .ne 5, 3) := by decide +kernel
theorem dX7_tune_27 : decode cX7_tune 27 = .ok (.iconst (-1), 1) := by decide +kernel
theorem dX7_tune_28 : decode cX7_tune 28 = .ok (.ireturn, 1) := by decide +kernel
theorem dX7_tune_29 : decode cX7_tune 29 = .ok (.aload_n 0, 1) := by decide +kernel
theorem dX7_tune_30 : decode cX7_tune 30 = .ok (.getfield 20, 3) := by decide +kernel
theorem dX7_tune_33 : decode cX7_tune 33 = .ok (.iload_n 1, 1) := by decide +kernel
theorem dX7_tune_34 : decode cX7_tune 34 = .ok (.iaload, 1) := by decide +kernel
theorem dX7_tune_35 : decode cX7_tune 35 = .ok (.istore_n 3, 1) := by decide +kernel
theorem dX7_tune_36 : decode cX7_tune 36 = .ok (.aload_n 0, 1) := by decide +kernel
theorem dX7_tune_37 : decode cX7_tune 37 = .ok (.getfield 20, 3) := by decide +kernel
theorem dX7_tune_40 : decode cX7_tune 40 = .ok (.iload_n 1, 1) := by decide +kernel
theorem dX7_tune_41 : decode cX7_tune 41 = .ok (.iload_n 2, 1) := by decide +kernel
theorem dX7_tune_42 : decode cX7_tune 42 = .ok (.iastore, 1) := by decide +kernel
theorem dX7_tune_43 : decode cX7_tune 43 = .ok (.iload_n 3, 1) := by decide +kernel
theorem dX7_tune_44 : decode cX7_tune 44 = .ok (.ireturn, 1) := by decide +kernel
theorem dX7_lot_0 : decode cX7_lot 0 = .ok (.aload_n 0, 1) := by decide +kernel
theorem dX7_lot_1 : decode cX7_lot 1 = .ok (.getfield 10, 3) := by decide +kernel
theorem dX7_lot_4 : decode cX7_lot 4 = .ok (.getfield 133, 3) := by decide +kernel
theorem dX7_lot_7 : decode cX7_lot 7 = .ok (.istore_n 2, 1) := by decide +kernel
theorem dX7_lot_8 : decode cX7_lot 8 = .ok (.aload_n 0, 1) := by decide +kernel
theorem dX7_lot_9 : decode cX7_lot 9 = .ok (.getfield 10, 3) := by decide +kernel
theorem dX7_lot_12 : decode cX7_lot 12 = .ok (.iload_n 1, 1) := by decide +kernel
theorem dX7_lot_13 : decode cX7_lot 13 = .ok (.putfield 133, 3) := by decide +kernel
theorem dX7_lot_16 : decode cX7_lot 16 = .ok (.iload_n 2, 1) := by decide +kernel
theorem dX7_lot_17 : decode cX7_lot 17 = .ok (.ireturn, 1) := by decide +kernel
theorem dX7_type_0 : decode cX7_type 0 = .ok (.iload_n 3, 1) := by decide +kernel
theorem dX7_type_1 : decode cX7_type 1 = .ok (.iconst 1, 1) := by decide +kernel
theorem dX7_type_2 : decode cX7_type 2 = .ok (.bipush 8, 2) := by decide +kernel
theorem dX7_type_4 : decode cX7_type 4 = .ok (.invokestatic 78, 3) := by decide +kernel
theorem dX7_type_7 : decode cX7_type 7 = .ok (.ifCond .ne 5, 3) := by decide +kernel
theorem dX7_type_10 : decode cX7_type 10 = .ok (.iconst (-1), 1) := by decide +kernel
theorem dX7_type_11 : decode cX7_type 11 = .ok (.ireturn, 1) := by decide +kernel
theorem dX7_type_12 : decode cX7_type 12 = .ok (.aload_n 0, 1) := by decide +kernel
theorem dX7_type_13 : decode cX7_type 13 = .ok (.getfield 27, 3) := by decide +kernel
theorem dX7_type_16 : decode cX7_type 16 = .ok (.getfield 136, 3) := by decide +kernel
theorem dX7_type_19 : decode cX7_type 19 = .ok (.iload_n 3, 1) := by decide +kernel
theorem dX7_type_20 : decode cX7_type 20 = .ok (.iadd, 1) := by decide +kernel
theorem dX7_type_21 : decode cX7_type 21 = .ok (.sipush 200, 3) := by decide +kernel
theorem dX7_type_24 : decode cX7_type 24 = .ok (.if_icmp .le 6, 3) := by decide +kernel
theorem dX7_type_27 : decode cX7_type 27 = .ok (.bipush (-3), 2) := by decide +kernel
theorem dX7_type_29 : decode cX7_type 29 = .ok (.ireturn, 1) := by decide +kernel
theorem dX7_type_30 : decode cX7_type 30 = .ok (.iload_n 3, 1) := by decide +kernel
theorem dX7_type_31 : decode cX7_type 31 = .ok (.iconst 1, 1) := by decide +kernel
theorem dX7_type_32 : decode cX7_type 32 = .ok (.isub, 1) := by decide +kernel
theorem dX7_type_33 : decode cX7_type 33 = .ok (.istore 4, 2) := by decide +kernel
theorem dX7_type_35 : decode cX7_type 35 = .ok (.iload 4, 2) := by decide +kernel
theorem dX7_type_37 : decode cX7_type 37 = .ok (.ifCond .lt 28, 3) := by decide +kernel
theorem dX7_type_40 : decode cX7_type 40 = .ok (.aload_n 0, 1) := by decide +kernel
theorem dX7_type_41 : decode cX7_type 41 = .ok (.getfield 27, 3) := by decide +kernel
theorem dX7_type_44 : decode cX7_type 44 = .ok (.lload_n 1, 1) := by decide +kernel
theorem dX7_type_45 : decode cX7_type 45 = .ok (.bipush 8, 2) := by decide +kernel
theorem dX7_type_47 : decode cX7_type 47 = .ok (.iload 4, 2) := by decide +kernel
theorem dX7_type_49 : decode cX7_type 49 = .ok (.imul, 1) := by decide +kernel
theorem dX7_type_50 : decode cX7_type 50 = .ok (.lushr, 1) := by decide +kernel
theorem dX7_type_51 : decode cX7_type 51 = .ok (.l2i, 1) := by decide +kernel
theorem dX7_type_52 : decode cX7_type 52 = .ok (.sipush 255, 3) := by decide +kernel
theorem dX7_type_55 : decode cX7_type 55 = .ok (.iand, 1) := by decide +kernel
theorem dX7_type_56 : decode cX7_type 56 = .ok (.invokevirtual 139, 3) := by decide +kernel
theorem dX7_type_59 : decode cX7_type 59 = .ok (.iinc 4 (-1), 3) := by decide +kernel
theorem dX7_type_62 : decode cX7_type 62 = .ok (.goto (-27), 3) := by decide +kernel
theorem dX7_type_65 : decode cX7_type 65 = .ok (.aload_n 0, 1) := by decide +kernel
theorem dX7_type_66 : decode cX7_type 66 = .ok (.getfield 27, 3) := by decide +kernel
theorem dX7_type_69 : decode cX7_type 69 = .ok (.getfield 136, 3) := by decide +kernel
theorem dX7_type_72 : decode cX7_type 72 = .ok (.ireturn, 1) := by decide +kernel
theorem dX7_clear_0 : decode cX7_clear 0 = .ok (.aload_n 0, 1) := by decide +kernel
theorem dX7_clear_1 : decode cX7_clear 1 = .ok (.getfield 27, 3) := by decide +kernel
theorem dX7_clear_4 : decode cX7_clear 4 = .ok (.getfield 136, 3) := by decide +kernel
theorem dX7_clear_7 : decode cX7_clear 7 = .ok (.istore_n 1, 1) := by decide +kernel
theorem dX7_clear_8 : decode cX7_clear 8 = .ok (.aload_n 0, 1) := by decide +kernel
theorem dX7_clear_9 : decode cX7_clear 9 = .ok (.getfield 27, 3) := by decide +kernel
theorem dX7_clear_12 : decode cX7_clear 12 = .ok (.iconst 0, 1) := by decide +kernel
theorem dX7_clear_13 : decode cX7_clear 13 = .ok (.putfield 136, 3) := by decide +kernel
theorem dX7_clear_16 : decode cX7_clear 16 = .ok (.iload_n 1, 1) := by decide +kernel
theorem dX7_clear_17 : decode cX7_clear 17 = .ok (.ireturn, 1) := by decide +kernel
theorem dX7_rule_0 : decode cX7_rule 0 = .ok (.aload_n 0, 1) := by decide +kernel
theorem dX7_rule_1 : decode cX7_rule 1 = .ok (.getfield 27, 3) := by decide +kernel
theorem dX7_rule_4 : decode cX7_rule 4 = .ok (.aload_n 0, 1) := by decide +kernel
theorem dX7_rule_5 : decode cX7_rule 5 = .ok (.getfield 38, 3) := by decide +kernel
theorem dX7_rule_8 : decode cX7_rule 8 = .ok (.invokevirtual 142, 3) := by decide +kernel
theorem dX7_rule_11 : decode cX7_rule 11 = .ok (.istore_n 1, 1) := by decide +kernel
theorem dX7_rule_12 : decode cX7_rule 12 = .ok (.iload_n 1, 1) := by decide +kernel
theorem dX7_rule_13 : decode cX7_rule 13 = .ok (.ifCond .lt 22, 3) := by decide +kernel
theorem dX7_rule_16 : decode cX7_rule 16 = .ok (.aload_n 0, 1) := by decide +kernel
theorem dX7_rule_17 : decode cX7_rule 17 = .ok (.getfield 34, 3) := by decide +kernel
theorem dX7_rule_20 : decode cX7_rule 20 = .ok (.aload_n 0, 1) := by decide +kernel
theorem dX7_rule_21 : decode cX7_rule 21 = .ok (.getfield 38, 3) := by decide +kernel
theorem dX7_rule_24 : decode cX7_rule 24 = .ok (.invokevirtual 146, 3) := by decide +kernel
theorem dX7_rule_27 : decode cX7_rule 27 = .ok (.aload_n 0, 1) := by decide +kernel
theorem dX7_rule_28 : decode cX7_rule 28 = .ok (.getfield 27, 3) := by decide +kernel
theorem dX7_rule_31 : decode cX7_rule 31 = .ok (.iconst 0, 1) := by decide +kernel
theorem dX7_rule_32 : decode cX7_rule 32 = .ok (.putfield 136, 3) := by decide +kernel
theorem dX7_rule_35 : decode cX7_rule 35 = .ok (.iload_n 1, 1) := by decide +kernel
theorem dX7_rule_36 : decode cX7_rule 36 = .ok (.ireturn, 1) := by decide +kernel
theorem dX7_told_0 : decode cX7_told 0 = .ok (.iload_n 1, 1) := by decide +kernel
theorem dX7_told_1 : decode cX7_told 1 = .ok (.iconst 0, 1) := by decide +kernel
theorem dX7_told_2 : decode cX7_told 2 = .ok (.iconst 5, 1) := by decide +kernel
theorem dX7_told_3 : decode cX7_told 3 = .ok (.invokestatic 78, 3) := by decide +kernel
theorem dX7_told_6 : decode cX7_told 6 = .ok (.ifCond .eq 15, 3) := by decide +kernel
theorem dX7_told_9 : decode cX7_told 9 = .ok (.aload_n 0, 1) := by decide +kernel
theorem dX7_told_10 : decode cX7_told 10 = .ok (.getfield 34, 3) := by decide +kernel
theorem dX7_told_13 : decode cX7_told 13 = .ok (.getfield 150, 3) := by decide +kernel
theorem dX7_told_16 : decode cX7_told 16 = .ok (.iload_n 1, 1) := by decide +kernel
theorem dX7_told_17 : decode cX7_told 17 = .ok (.iaload, 1) := by decide +kernel
theorem dX7_told_18 : decode cX7_told 18 = .ok (.goto 4, 3) := by decide +kernel
theorem dX7_told_21 : decode cX7_told 21 = .ok (.iconst (-1), 1) := by decide +kernel
theorem dX7_told_22 : decode cX7_told 22 = .ok (.ireturn, 1) := by decide +kernel
theorem dX7_race_0 : decode cX7_race 0 = .ok (.aload_n 0, 1) := by decide +kernel
theorem dX7_race_1 : decode cX7_race 1 = .ok (.iload_n 1, 1) := by decide +kernel
theorem dX7_race_2 : decode cX7_race 2 = .ok (.iload_n 2, 1) := by decide +kernel
theorem dX7_race_3 : decode cX7_race 3 = .ok (.invokevirtual 153, 3) := by decide +kernel
theorem dX7_race_6 : decode cX7_race 6 = .ok (.ifCond .ne 5, 3) := by decide +kernel
theorem dX7_race_9 : decode cX7_race 9 = .ok (.iconst (-1), 1) := by decide +kernel
theorem dX7_race_10 : decode cX7_race 10 = .ok (.ireturn, 1) := by decide +kernel
theorem dX7_race_11 : decode cX7_race 11 = .ok (.aload_n 0, 1) := by decide +kernel
theorem dX7_race_12 : decode cX7_race 12 = .ok (.iload_n 2, 1) := by decide +kernel
theorem dX7_race_13 : decode cX7_race 13 = .ok (.invokevirtual 157, 3) := by decide +kernel
theorem dX7_race_16 : decode cX7_race 16 = .ok (.istore_n 3, 1) := by decide +kernel
theorem dX7_race_17 : decode cX7_race 17 = .ok (.iconst (-1), 1) := by decide +kernel
theorem dX7_race_18 : decode cX7_race 18 = .ok (.istore 4, 2) := by decide +kernel
theorem dX7_race_20 : decode cX7_race 20 = .ok (.iconst 0, 1) := by decide +kernel
theorem dX7_race_21 : decode cX7_race 21 = .ok (.istore 5, 2) := by decide +kernel
theorem dX7_race_23 : decode cX7_race 23 = .ok (.iload 5, 2) := by decide +kernel
theorem dX7_race_25 : decode cX7_race 25 = .ok (.aload_n 0, 1) := by decide +kernel
theorem dX7_race_26 : decode cX7_race 26 = .ok (.getfield 10, 3) := by decide +kernel
theorem dX7_race_29 : decode cX7_race 29 = .ok (.getfield 82, 3) := by decide +kernel
theorem dX7_race_32 : decode cX7_race 32 = .ok (.if_icmp .ge 52, 3) := by decide +kernel
theorem dX7_race_35 : decode cX7_race 35 = .ok (.iload_n 2, 1) := by decide +kernel
theorem dX7_race_36 : decode cX7_race 36 = .ok (.iload 5, 2) := by decide +kernel
theorem dX7_race_38 : decode cX7_race 38 = .ok (.invokestatic 161, 3) := by decide +kernel
theorem dX7_race_41 : decode cX7_race 41 = .ok (.ifCond .eq 37, 3) := by decide +kernel
theorem dX7_race_44 : decode cX7_race 44 = .ok (.aload_n 0, 1) := by decide +kernel
theorem dX7_race_45 : decode cX7_race 45 = .ok (.iload 5, 2) := by decide +kernel
theorem dX7_race_47 : decode cX7_race 47 = .ok (.iload_n 1, 1) := by decide +kernel
theorem dX7_race_48 : decode cX7_race 48 = .ok (.iload_n 3, 1) := by decide +kernel
theorem dX7_race_49 : decode cX7_race 49 = .ok (.invokevirtual 164, 3) := by decide +kernel
theorem dX7_race_52 : decode cX7_race 52 = .ok (.iload 4, 2) := by decide +kernel
theorem dX7_race_54 : decode cX7_race 54 = .ok (.ifCond .lt 20, 3) := by decide +kernel
theorem dX7_race_57 : decode cX7_race 57 = .ok (.aload_n 0, 1) := by decide +kernel
theorem dX7_race_58 : decode cX7_race 58 = .ok (.getfield 69, 3) := by decide +kernel
theorem dX7_race_61 : decode cX7_race 61 = .ok (.iload 5, 2) := by decide +kernel
theorem dX7_race_63 : decode cX7_race 63 = .ok (.iaload, 1) := by decide +kernel
theorem dX7_race_64 : decode cX7_race 64 = .ok (.aload_n 0, 1) := by decide +kernel
theorem dX7_race_65 : decode cX7_race 65 = .ok (.getfield 69, 3) := by decide +kernel
theorem dX7_race_68 : decode cX7_race 68 = .ok (.iload 4, 2) := by decide +kernel
theorem dX7_race_70 : decode cX7_race 70 = .ok (.iaload, 1) := by decide +kernel
theorem dX7_race_71 : decode cX7_race 71 = .ok (.if_icmp .le 7, 3) := by decide +kernel
theorem dX7_race_74 : decode cX7_race 74 = .ok (.iload 5, 2) := by decide +kernel
theorem dX7_race_76 : decode cX7_race 76 = .ok (.istore 4, 2) := by decide +kernel
theorem dX7_race_78 : decode cX7_race 78 = .ok (.iinc 5 1, 3) := by decide +kernel
theorem dX7_race_81 : decode cX7_race 81 = .ok (.goto (-58), 3) := by decide +kernel
theorem dX7_race_84 : decode cX7_race 84 = .ok (.aload_n 0, 1) := by decide +kernel
theorem dX7_race_85 : decode cX7_race 85 = .ok (.iload_n 2, 1) := by decide +kernel
theorem dX7_race_86 : decode cX7_race 86 = .ok (.putfield 168, 3) := by decide +kernel
theorem dX7_race_89 : decode cX7_race 89 = .ok (.aload_n 0, 1) := by decide +kernel
theorem dX7_race_90 : decode cX7_race 90 = .ok (.getfield 10, 3) := by decide +kernel
theorem dX7_race_93 : decode cX7_race 93 = .ok (.dup, 1) := by decide +kernel
theorem dX7_race_94 : decode cX7_race 94 = .ok (.getfield 171, 3) := by decide +kernel
theorem dX7_race_97 : decode cX7_race 97 = .ok (.iconst 1, 1) := by decide +kernel
theorem dX7_race_98 : decode cX7_race 98 = .ok (.iadd, 1) := by decide +kernel
theorem dX7_race_99 : decode cX7_race 99 = .ok (.putfield 171, 3) := by decide +kernel
theorem dX7_race_102 : decode cX7_race 102 = .ok (.iload 4, 2) := by decide +kernel
theorem dX7_race_104 : decode cX7_race 104 = .ok (.ireturn, 1) := by decide +kernel
theorem dX7_shown_0 : decode cX7_shown 0 = .ok (.aload_n 0, 1) := by decide +kernel
theorem dX7_shown_1 : decode cX7_shown 1 = .ok (.iload_n 1, 1) := by decide +kernel
theorem dX7_shown_2 : decode cX7_shown 2 = .ok (.invokevirtual 94, 3) := by decide +kernel
theorem dX7_shown_5 : decode cX7_shown 5 = .ok (.ifCond .eq 14, 3) := by decide +kernel
theorem dX7_shown_8 : decode cX7_shown 8 = .ok (.aload_n 0, 1) := by decide +kernel
theorem dX7_shown_9 : decode cX7_shown 9 = .ok (.getfield 168, 3) := by decide +kernel
theorem dX7_shown_12 : decode cX7_shown 12 = .ok (.iload_n 1, 1) := by decide +kernel
theorem dX7_shown_13 : decode cX7_shown 13 = .ok (.invokestatic 161, 3) := by decide +kernel
theorem dX7_shown_16 : decode cX7_shown 16 = .ok (.ifCond .ne 6, 3) := by decide +kernel
theorem dX7_shown_19 : decode cX7_shown 19 = .ok (.ldc 101, 2) := by decide +kernel
theorem dX7_shown_21 : decode cX7_shown 21 = .ok (.ireturn, 1) := by decide +kernel
theorem dX7_shown_22 : decode cX7_shown 22 = .ok (.iload_n 2, 1) := by decide +kernel
theorem dX7_shown_23 : decode cX7_shown 23 = .ok (.tableswitch 46 0 2 #[25, 32, 39], 25) := by decide +kernel
theorem dX7_shown_48 : decode cX7_shown 48 = .ok (.aload_n 0, 1) := by decide +kernel
theorem dX7_shown_49 : decode cX7_shown 49 = .ok (.getfield 69, 3) := by decide +kernel
theorem dX7_shown_52 : decode cX7_shown 52 = .ok (.iload_n 1, 1) := by decide +kernel
theorem dX7_shown_53 : decode cX7_shown 53 = .ok (.iaload, 1) := by decide +kernel
theorem dX7_shown_54 : decode cX7_shown 54 = .ok (.ireturn, 1) := by decide +kernel
theorem dX7_shown_55 : decode cX7_shown 55 = .ok (.aload_n 0, 1) := by decide +kernel
theorem dX7_shown_56 : decode cX7_shown 56 = .ok (.getfield 72, 3) := by decide +kernel
theorem dX7_shown_59 : decode cX7_shown 59 = .ok (.iload_n 1, 1) := by decide +kernel
theorem dX7_shown_60 : decode cX7_shown 60 = .ok (.iaload, 1) := by decide +kernel
theorem dX7_shown_61 : decode cX7_shown 61 = .ok (.ireturn, 1) := by decide +kernel
theorem dX7_shown_62 : decode cX7_shown 62 = .ok (.aload_n 0, 1) := by decide +kernel
theorem dX7_shown_63 : decode cX7_shown 63 = .ok (.getfield 75, 3) := by decide +kernel
theorem dX7_shown_66 : decode cX7_shown 66 = .ok (.iload_n 1, 1) := by decide +kernel
theorem dX7_shown_67 : decode cX7_shown 67 = .ok (.iaload, 1) := by decide +kernel
theorem dX7_shown_68 : decode cX7_shown 68 = .ok (.ireturn, 1) := by decide +kernel
theorem dX7_shown_69 : decode cX7_shown 69 = .ok (.ldc 101, 2) := by decide +kernel
theorem dX7_shown_71 : decode cX7_shown 71 = .ok (.ireturn, 1) := by decide +kernel
theorem dX7_weight_0 : decode cX7_weight 0 = .ok (.aload_n 0, 1) := by decide +kernel
theorem dX7_weight_1 : decode cX7_weight 1 = .ok (.iconst 0, 1) := by decide +kernel
theorem dX7_weight_2 : decode cX7_weight 2 = .ok (.iload_n 2, 1) := by decide +kernel
theorem dX7_weight_3 : decode cX7_weight 3 = .ok (.invokevirtual 153, 3) := by decide +kernel
theorem dX7_weight_6 : decode cX7_weight 6 = .ok (.ifCond .eq 19, 3) := by decide +kernel
theorem dX7_weight_9 : decode cX7_weight 9 = .ok (.aload_n 0, 1) := by decide +kernel
theorem dX7_weight_10 : decode cX7_weight 10 = .ok (.iload_n 1, 1) := by decide +kernel
theorem dX7_weight_11 : decode cX7_weight 11 = .ok (.invokevirtual 94, 3) := by decide +kernel
theorem dX7_weight_14 : decode cX7_weight 14 = .ok (.ifCond .eq 11, 3) := by decide +kernel
theorem dX7_weight_17 : decode cX7_weight 17 = .ok (.iload_n 2, 1) := by decide +kernel
theorem dX7_weight_18 : decode cX7_weight 18 = .ok (.iload_n 1, 1) := by decide +kernel
theorem dX7_weight_19 : decode cX7_weight 19 = .ok (.invokestatic 161, 3) := by decide +kernel
theorem dX7_weight_22 : decode cX7_weight 22 = .ok (.ifCond .ne 5, 3) := by decide +kernel
theorem dX7_weight_25 : decode cX7_weight 25 = .ok (.iconst (-1), 1) := by decide +kernel
theorem dX7_weight_26 : decode cX7_weight 26 = .ok (.ireturn, 1) := by decide +kernel
theorem dX7_weight_27 : decode cX7_weight 27 = .ok (.aload_n 0, 1) := by decide +kernel
theorem dX7_weight_28 : decode cX7_weight 28 = .ok (.getfield 10, 3) := by decide +kernel
theorem dX7_weight_31 : decode cX7_weight 31 = .ok (.getfield 86, 3) := by decide +kernel
theorem dX7_weight_34 : decode cX7_weight 34 = .ok (.iload_n 1, 1) := by decide +kernel
theorem dX7_weight_35 : decode cX7_weight 35 = .ok (.aaload, 1) := by decide +kernel
theorem dX7_weight_36 : decode cX7_weight 36 = .ok (.getfield 112, 3) := by decide +kernel
theorem dX7_weight_39 : decode cX7_weight 39 = .ok (.aload_n 0, 1) := by decide +kernel
theorem dX7_weight_40 : decode cX7_weight 40 = .ok (.iload_n 2, 1) := by decide +kernel
theorem dX7_weight_41 : decode cX7_weight 41 = .ok (.invokevirtual 157, 3) := by decide +kernel
theorem dX7_weight_44 : decode cX7_weight 44 = .ok (.isub, 1) := by decide +kernel
theorem dX7_weight_45 : decode cX7_weight 45 = .ok (.ireturn, 1) := by decide +kernel
theorem dX7_odds_0 : decode cX7_odds 0 = .ok (.aload_n 0, 1) := by decide +kernel
theorem dX7_odds_1 : decode cX7_odds 1 = .ok (.iload_n 1, 1) := by decide +kernel
theorem dX7_odds_2 : decode cX7_odds 2 = .ok (.iload_n 2, 1) := by decide +kernel
theorem dX7_odds_3 : decode cX7_odds 3 = .ok (.iload_n 3, 1) := by decide +kernel
theorem dX7_odds_4 : decode cX7_odds 4 = .ok (.invokevirtual 174, 3) := by decide +kernel
theorem dX7_odds_7 : decode cX7_odds 7 = .ok (.ifCond .ne 7, 3) := by decide +kernel
theorem dX7_odds_10 : decode cX7_odds 10 = .ok (.ldc2_w 177, 3) := by decide +kernel
theorem dX7_odds_13 : decode cX7_odds 13 = .ok (.lreturn, 1) := by decide +kernel
theorem dX7_odds_14 : decode cX7_odds 14 = .ok (.aload_n 0, 1) := by decide +kernel
theorem dX7_odds_15 : decode cX7_odds 15 = .ok (.iload_n 1, 1) := by decide +kernel
theorem dX7_odds_16 : decode cX7_odds 16 = .ok (.iload_n 2, 1) := by decide +kernel
theorem dX7_odds_17 : decode cX7_odds 17 = .ok (.invokevirtual 179, 3) := by decide +kernel
theorem dX7_odds_20 : decode cX7_odds 20 = .ok (.iload_n 3, 1) := by decide +kernel
theorem dX7_odds_21 : decode cX7_odds 21 = .ok (.iconst (-1), 1) := by decide +kernel
theorem dX7_odds_22 : decode cX7_odds 22 = .ok (.if_icmp .ne 13, 3) := by decide +kernel
theorem dX7_odds_25 : decode cX7_odds 25 = .ok (.aload_n 0, 1) := by decide +kernel
theorem dX7_odds_26 : decode cX7_odds 26 = .ok (.getfield 51, 3) := by decide +kernel
theorem dX7_odds_29 : decode cX7_odds 29 = .ok (.invokevirtual 183, 3) := by decide +kernel
theorem dX7_odds_32 : decode cX7_odds 32 = .ok (.goto 15, 3) := by decide +kernel
theorem dX7_odds_35 : decode cX7_odds 35 = .ok (.aload_n 0, 1) := by decide +kernel
theorem dX7_odds_36 : decode cX7_odds 36 = .ok (.getfield 51, 3) := by decide +kernel
theorem dX7_odds_39 : decode cX7_odds 39 = .ok (.iload_n 2, 1) := by decide +kernel
theorem dX7_odds_40 : decode cX7_odds 40 = .ok (.iload_n 3, 1) := by decide +kernel
theorem dX7_odds_41 : decode cX7_odds 41 = .ok (.invokestatic 187, 3) := by decide +kernel
theorem dX7_odds_44 : decode cX7_odds 44 = .ok (.invokevirtual 190, 3) := by decide +kernel
theorem dX7_odds_47 : decode cX7_odds 47 = .ok (.lreturn, 1) := by decide +kernel
theorem dX7_close_0 : decode cX7_close 0 = .ok (.aload_n 0, 1) := by decide +kernel
theorem dX7_close_1 : decode cX7_close 1 = .ok (.iload_n 1, 1) := by decide +kernel
theorem dX7_close_2 : decode cX7_close 2 = .ok (.iload_n 2, 1) := by decide +kernel
theorem dX7_close_3 : decode cX7_close 3 = .ok (.invokevirtual 153, 3) := by decide +kernel
theorem dX7_close_6 : decode cX7_close 6 = .ok (.ifCond .ne 7, 3) := by decide +kernel
theorem dX7_close_9 : decode cX7_close 9 = .ok (.ldc2_w 177, 3) := by decide +kernel
theorem dX7_close_12 : decode cX7_close 12 = .ok (.lreturn, 1) := by decide +kernel
theorem dX7_close_13 : decode cX7_close 13 = .ok (.aload_n 0, 1) := by decide +kernel
theorem dX7_close_14 : decode cX7_close 14 = .ok (.iload_n 1, 1) := by decide +kernel
theorem dX7_close_15 : decode cX7_close 15 = .ok (.iload_n 2, 1) := by decide +kernel
theorem dX7_close_16 : decode cX7_close 16 = .ok (.invokevirtual 179, 3) := by decide +kernel
theorem dX7_close_19 : decode cX7_close 19 = .ok (.aload_n 0, 1) := by decide +kernel
theorem dX7_close_20 : decode cX7_close 20 = .ok (.getfield 51, 3) := by decide +kernel
theorem dX7_close_23 : decode cX7_close 23 = .ok (.ldc2_w 194, 3) := by decide +kernel
theorem dX7_close_26 : decode cX7_close 26 = .ok (.invokevirtual 196, 3) := by decide +kernel
theorem dX7_close_29 : decode cX7_close 29 = .ok (.lreturn, 1) := by decide +kernel
theorem dX7_even_0 : decode cX7_even 0 = .ok (.aload_n 0, 1) := by decide +kernel
theorem dX7_even_1 : decode cX7_even 1 = .ok (.iload_n 1, 1) := by decide +kernel
theorem dX7_even_2 : decode cX7_even 2 = .ok (.iload_n 2, 1) := by decide +kernel
theorem dX7_even_3 : decode cX7_even 3 = .ok (.iload_n 3, 1) := by decide +kernel
theorem dX7_even_4 : decode cX7_even 4 = .ok (.invokevirtual 174, 3) := by decide +kernel
theorem dX7_even_7 : decode cX7_even 7 = .ok (.ifCond .ne 7, 3) := by decide +kernel
theorem dX7_even_10 : decode cX7_even 10 = .ok (.ldc2_w 177, 3) := by decide +kernel
theorem dX7_even_13 : decode cX7_even 13 = .ok (.lreturn, 1) := by decide +kernel
theorem dX7_even_14 : decode cX7_even 14 = .ok (.iload_n 2, 1) := by decide +kernel
theorem dX7_even_15 : decode cX7_even 15 = .ok (.invokestatic 200, 3) := by decide +kernel
theorem dX7_even_18 : decode cX7_even 18 = .ok (.iconst 3, 1) := by decide +kernel
theorem dX7_even_19 : decode cX7_even 19 = .ok (.if_icmp .le 7, 3) := by decide +kernel
theorem dX7_even_22 : decode cX7_even 22 = .ok (.ldc2_w 205, 3) := by decide +kernel
theorem dX7_even_25 : decode cX7_even 25 = .ok (.lreturn, 1) := by decide +kernel
theorem dX7_even_26 : decode cX7_even 26 = .ok (.aload_n 0, 1) := by decide +kernel
theorem dX7_even_27 : decode cX7_even 27 = .ok (.iload_n 1, 1) := by decide +kernel
theorem dX7_even_28 : decode cX7_even 28 = .ok (.iload_n 2, 1) := by decide +kernel
theorem dX7_even_29 : decode cX7_even 29 = .ok (.invokevirtual 179, 3) := by decide +kernel
theorem dX7_even_32 : decode cX7_even 32 = .ok (.aload_n 0, 1) := by decide +kernel
theorem dX7_even_33 : decode cX7_even 33 = .ok (.getfield 51, 3) := by decide +kernel
theorem dX7_even_36 : decode cX7_even 36 = .ok (.invokevirtual 207, 3) := by decide +kernel
theorem dX7_even_39 : decode cX7_even 39 = .ok (.iload_n 3, 1) := by decide +kernel
theorem dX7_even_40 : decode cX7_even 40 = .ok (.iconst (-1), 1) := by decide +kernel
theorem dX7_even_41 : decode cX7_even 41 = .ok (.if_icmp .ne 13, 3) := by decide +kernel
theorem dX7_even_44 : decode cX7_even 44 = .ok (.aload_n 0, 1) := by decide +kernel
theorem dX7_even_45 : decode cX7_even 45 = .ok (.getfield 51, 3) := by decide +kernel
theorem dX7_even_48 : decode cX7_even 48 = .ok (.getfield 210, 3) := by decide +kernel
theorem dX7_even_51 : decode cX7_even 51 = .ok (.goto 17, 3) := by decide +kernel
theorem dX7_even_54 : decode cX7_even 54 = .ok (.aload_n 0, 1) := by decide +kernel
theorem dX7_even_55 : decode cX7_even 55 = .ok (.getfield 51, 3) := by decide +kernel
theorem dX7_even_58 : decode cX7_even 58 = .ok (.getfield 214, 3) := by decide +kernel
theorem dX7_even_61 : decode cX7_even 61 = .ok (.iload_n 2, 1) := by decide +kernel
theorem dX7_even_62 : decode cX7_even 62 = .ok (.iload_n 3, 1) := by decide +kernel
theorem dX7_even_63 : decode cX7_even 63 = .ok (.invokestatic 187, 3) := by decide +kernel
theorem dX7_even_66 : decode cX7_even 66 = .ok (.iaload, 1) := by decide +kernel
theorem dX7_even_67 : decode cX7_even 67 = .ok (.i2l, 1) := by decide +kernel
theorem dX7_even_68 : decode cX7_even 68 = .ok (.lreturn, 1) := by decide +kernel
theorem dX7_good_0 : decode cX7_good 0 = .ok (.iload_n 1, 1) := by decide +kernel
theorem dX7_good_1 : decode cX7_good 1 = .ok (.iconst 1, 1) := by decide +kernel
theorem dX7_good_2 : decode cX7_good 2 = .ok (.bipush 6, 2) := by decide +kernel
theorem dX7_good_4 : decode cX7_good 4 = .ok (.invokestatic 78, 3) := by decide +kernel
theorem dX7_good_7 : decode cX7_good 7 = .ok (.ifCond .eq 22, 3) := by decide +kernel
theorem dX7_good_10 : decode cX7_good 10 = .ok (.iload_n 2, 1) := by decide +kernel
theorem dX7_good_11 : decode cX7_good 11 = .ok (.iconst 0, 1) := by decide +kernel
theorem dX7_good_12 : decode cX7_good 12 = .ok (.bipush 20, 2) := by decide +kernel
theorem dX7_good_14 : decode cX7_good 14 = .ok (.invokestatic 78, 3) := by decide +kernel
theorem dX7_good_17 : decode cX7_good 17 = .ok (.ifCond .eq 12, 3) := by decide +kernel
theorem dX7_good_20 : decode cX7_good 20 = .ok (.iload_n 3, 1) := by decide +kernel
theorem dX7_good_21 : decode cX7_good 21 = .ok (.iconst 0, 1) := by decide +kernel
theorem dX7_good_22 : decode cX7_good 22 = .ok (.iconst 1, 1) := by decide +kernel
theorem dX7_good_23 : decode cX7_good 23 = .ok (.invokestatic 78, 3) := by decide +kernel
theorem dX7_good_26 : decode cX7_good 26 = .ok (.ifCond .ne 5, 3) := by decide +kernel
theorem dX7_good_29 : decode cX7_good 29 = .ok (.iconst (-1), 1) := by decide +kernel
theorem dX7_good_30 : decode cX7_good 30 = .ok (.ireturn, 1) := by decide +kernel
theorem dX7_good_31 : decode cX7_good 31 = .ok (.iconst 2, 1) := by decide +kernel
theorem dX7_good_32 : decode cX7_good 32 = .ok (.aload_n 0, 1) := by decide +kernel
theorem dX7_good_33 : decode cX7_good 33 = .ok (.getfield 20, 3) := by decide +kernel
theorem dX7_good_36 : decode cX7_good 36 = .ok (.iconst 0, 1) := by decide +kernel
theorem dX7_good_37 : decode cX7_good 37 = .ok (.iaload, 1) := by decide +kernel
theorem dX7_good_38 : decode cX7_good 38 = .ok (.imul, 1) := by decide +kernel
theorem dX7_good_39 : decode cX7_good 39 = .ok (.iconst 1, 1) := by decide +kernel
theorem dX7_good_40 : decode cX7_good 40 = .ok (.iadd, 1) := by decide +kernel
theorem dX7_good_41 : decode cX7_good 41 = .ok (.istore 4, 2) := by decide +kernel
theorem dX7_good_43 : decode cX7_good 43 = .ok (.iload_n 3, 1) := by decide +kernel
theorem dX7_good_44 : decode cX7_good 44 = .ok (.iconst 1, 1) := by decide +kernel
theorem dX7_good_45 : decode cX7_good 45 = .ok (.if_icmp .ne 12, 3) := by decide +kernel
theorem dX7_good_48 : decode cX7_good 48 = .ok (.iload 4, 2) := by decide +kernel
theorem dX7_good_50 : decode cX7_good 50 = .ok (.iload_n 1, 1) := by decide +kernel
theorem dX7_good_51 : decode cX7_good 51 = .ok (.invokestatic 217, 3) := by decide +kernel
theorem dX7_good_54 : decode cX7_good 54 = .ok (.goto 12, 3) := by decide +kernel
theorem dX7_good_57 : decode cX7_good 57 = .ok (.iload_n 1, 1) := by decide +kernel
theorem dX7_good_58 : decode cX7_good 58 = .ok (.iload_n 2, 1) := by decide +kernel
theorem dX7_good_59 : decode cX7_good 59 = .ok (.iload 4, 2) := by decide +kernel
theorem dX7_good_61 : decode cX7_good 61 = .ok (.iconst 1, 1) := by decide +kernel
theorem dX7_good_62 : decode cX7_good 62 = .ok (.isub, 1) := by decide +kernel
theorem dX7_good_63 : decode cX7_good 63 = .ok (.invokestatic 220, 3) := by decide +kernel
theorem dX7_good_66 : decode cX7_good 66 = .ok (.ireturn, 1) := by decide +kernel
theorem dX7_behind_0 : decode cX7_behind 0 = .ok (.iload_n 1, 1) := by decide +kernel
theorem dX7_behind_1 : decode cX7_behind 1 = .ok (.iconst 0, 1) := by decide +kernel
theorem dX7_behind_2 : decode cX7_behind 2 = .ok (.sipush 200, 3) := by decide +kernel
theorem dX7_behind_5 : decode cX7_behind 5 = .ok (.invokestatic 78, 3) := by decide +kernel
theorem dX7_behind_8 : decode cX7_behind 8 = .ok (.ifCond .eq 24, 3) := by decide +kernel
theorem dX7_behind_11 : decode cX7_behind 11 = .ok (.iload_n 2, 1) := by decide +kernel
theorem dX7_behind_12 : decode cX7_behind 12 = .ok (.bipush (-9), 2) := by decide +kernel
theorem dX7_behind_14 : decode cX7_behind 14 = .ok (.bipush 9, 2) := by decide +kernel
theorem dX7_behind_16 : decode cX7_behind 16 = .ok (.invokestatic 78, 3) := by decide +kernel
theorem dX7_behind_19 : decode cX7_behind 19 = .ok (.ifCond .eq 13, 3) := by decide +kernel
theorem dX7_behind_22 : decode cX7_behind 22 = .ok (.iload_n 3, 1) := by decide +kernel
theorem dX7_behind_23 : decode cX7_behind 23 = .ok (.iconst 0, 1) := by decide +kernel
theorem dX7_behind_24 : decode cX7_behind 24 = .ok (.bipush 40, 2) := by decide +kernel
theorem dX7_behind_26 : decode cX7_behind 26 = .ok (.invokestatic 78, 3) := by decide +kernel
theorem dX7_behind_29 : decode cX7_behind 29 = .ok (.ifCond .ne 6, 3) := by decide +kernel
theorem dX7_behind_32 : decode cX7_behind 32 = .ok (.ldc 101, 2) := by decide +kernel
theorem dX7_behind_34 : decode cX7_behind 34 = .ok (.ireturn, 1) := by decide +kernel
theorem dX7_behind_35 : decode cX7_behind 35 = .ok (.aload_n 0, 1) := by decide +kernel
theorem dX7_behind_36 : decode cX7_behind 36 = .ok (.getfield 44, 3) := by decide +kernel
theorem dX7_behind_39 : decode cX7_behind 39 = .ok (.iload_n 1, 1) := by decide +kernel
theorem dX7_behind_40 : decode cX7_behind 40 = .ok (.invokevirtual 90, 3) := by decide +kernel
theorem dX7_behind_43 : decode cX7_behind 43 = .ok (.aload_n 0, 1) := by decide +kernel
theorem dX7_behind_44 : decode cX7_behind 44 = .ok (.getfield 44, 3) := by decide +kernel
theorem dX7_behind_47 : decode cX7_behind 47 = .ok (.iload_n 2, 1) := by decide +kernel
theorem dX7_behind_48 : decode cX7_behind 48 = .ok (.putfield 118, 3) := by decide +kernel
theorem dX7_behind_51 : decode cX7_behind 51 = .ok (.iconst 0, 1) := by decide +kernel
theorem dX7_behind_52 : decode cX7_behind 52 = .ok (.istore 4, 2) := by decide +kernel
theorem dX7_behind_54 : decode cX7_behind 54 = .ok (.iload 4, 2) := by decide +kernel
theorem dX7_behind_56 : decode cX7_behind 56 = .ok (.iload_n 3, 1) := by decide +kernel
theorem dX7_behind_57 : decode cX7_behind 57 = .ok (.if_icmp .ge 27, 3) := by decide +kernel
theorem dX7_behind_60 : decode cX7_behind 60 = .ok (.aload_n 0, 1) := by decide +kernel
theorem dX7_behind_61 : decode cX7_behind 61 = .ok (.getfield 44, 3) := by decide +kernel
theorem dX7_behind_64 : decode cX7_behind 64 = .ok (.aload_n 0, 1) := by decide +kernel
theorem dX7_behind_65 : decode cX7_behind 65 = .ok (.getfield 44, 3) := by decide +kernel
theorem dX7_behind_68 : decode cX7_behind 68 = .ok (.getfield 109, 3) := by decide +kernel
theorem dX7_behind_71 : decode cX7_behind 71 = .ok (.aload_n 0, 1) := by decide +kernel
theorem dX7_behind_72 : decode cX7_behind 72 = .ok (.getfield 34, 3) := by decide +kernel
theorem dX7_behind_75 : decode cX7_behind 75 = .ok (.invokevirtual 224, 3) := by decide +kernel
theorem dX7_behind_78 : decode cX7_behind 78 = .ok (.iinc 4 1, 3) := by decide +kernel
theorem dX7_behind_81 : decode cX7_behind 81 = .ok (.goto (-27), 3) := by decide +kernel
theorem dX7_behind_84 : decode cX7_behind 84 = .ok (.aload_n 0, 1) := by decide +kernel
theorem dX7_behind_85 : decode cX7_behind 85 = .ok (.getfield 44, 3) := by decide +kernel
theorem dX7_behind_88 : decode cX7_behind 88 = .ok (.getfield 109, 3) := by decide +kernel
theorem dX7_behind_91 : decode cX7_behind 91 = .ok (.aload_n 0, 1) := by decide +kernel
theorem dX7_behind_92 : decode cX7_behind 92 = .ok (.getfield 44, 3) := by decide +kernel
theorem dX7_behind_95 : decode cX7_behind 95 = .ok (.getfield 112, 3) := by decide +kernel
theorem dX7_behind_98 : decode cX7_behind 98 = .ok (.isub, 1) := by decide +kernel
theorem dX7_behind_99 : decode cX7_behind 99 = .ok (.ireturn, 1) := by decide +kernel
theorem dX7_card_0 : decode cX7_card 0 = .ok (.iload_n 1, 1) := by decide +kernel
theorem dX7_card_1 : decode cX7_card 1 = .ok (.iconst 0, 1) := by decide +kernel
theorem dX7_card_2 : decode cX7_card 2 = .ok (.bipush 9, 2) := by decide +kernel
theorem dX7_card_4 : decode cX7_card 4 = .ok (.invokestatic 78, 3) := by decide +kernel
theorem dX7_card_7 : decode cX7_card 7 = .ok (.ifCond .eq 23, 3) := by decide +kernel
theorem dX7_card_10 : decode cX7_card 10 = .ok (.iload_n 2, 1) := by decide +kernel
theorem dX7_card_11 : decode cX7_card 11 = .ok (.iconst 0, 1) := by decide +kernel
theorem dX7_card_12 : decode cX7_card 12 = .ok (.iconst 1, 1) := by decide +kernel
theorem dX7_card_13 : decode cX7_card 13 = .ok (.invokestatic 78, 3) := by decide +kernel
theorem dX7_card_16 : decode cX7_card 16 = .ok (.ifCond .eq 14, 3) := by decide +kernel
theorem dX7_card_19 : decode cX7_card 19 = .ok (.iload_n 3, 1) := by decide +kernel
theorem dX7_card_20 : decode cX7_card 20 = .ok (.iconst 0, 1) := by decide +kernel
theorem dX7_card_21 : decode cX7_card 21 = .ok (.sipush 200, 3) := by decide +kernel
theorem dX7_card_24 : decode cX7_card 24 = .ok (.invokestatic 78, 3) := by decide +kernel
theorem dX7_card_27 : decode cX7_card 27 = .ok (.ifCond .ne 5, 3) := by decide +kernel
theorem dX7_card_30 : decode cX7_card 30 = .ok (.iconst (-1), 1) := by decide +kernel
theorem dX7_card_31 : decode cX7_card 31 = .ok (.ireturn, 1) := by decide +kernel
theorem dX7_card_32 : decode cX7_card 32 = .ok (.iload_n 2, 1) := by decide +kernel
theorem dX7_card_33 : decode cX7_card 33 = .ok (.ifCond .ne 13, 3) := by decide +kernel
theorem dX7_card_36 : decode cX7_card 36 = .ok (.aload_n 0, 1) := by decide +kernel
theorem dX7_card_37 : decode cX7_card 37 = .ok (.getfield 58, 3) := by decide +kernel
theorem dX7_card_40 : decode cX7_card 40 = .ok (.getfield 228, 3) := by decide +kernel
theorem dX7_card_43 : decode cX7_card 43 = .ok (.goto 10, 3) := by decide +kernel
theorem dX7_card_46 : decode cX7_card 46 = .ok (.aload_n 0, 1) := by decide +kernel
theorem dX7_card_47 : decode cX7_card 47 = .ok (.getfield 58, 3) := by decide +kernel
theorem dX7_card_50 : decode cX7_card 50 = .ok (.getfield 231, 3) := by decide +kernel
theorem dX7_card_53 : decode cX7_card 53 = .ok (.astore 4, 2) := by decide +kernel
theorem dX7_card_55 : decode cX7_card 55 = .ok (.aload 4, 2) := by decide +kernel
theorem dX7_card_57 : decode cX7_card 57 = .ok (.iload_n 1, 1) := by decide +kernel
theorem dX7_card_58 : decode cX7_card 58 = .ok (.iaload, 1) := by decide +kernel
theorem dX7_card_59 : decode cX7_card 59 = .ok (.istore 5, 2) := by decide +kernel
theorem dX7_card_61 : decode cX7_card 61 = .ok (.aload 4, 2) := by decide +kernel
theorem dX7_card_63 : decode cX7_card 63 = .ok (.iload_n 1, 1) := by decide +kernel
theorem dX7_card_64 : decode cX7_card 64 = .ok (.iload_n 3, 1) := by decide +kernel
theorem dX7_card_65 : decode cX7_card 65 = .ok (.iastore, 1) := by decide +kernel
theorem dX7_card_66 : decode cX7_card 66 = .ok (.iload 5, 2) := by decide +kernel
theorem dX7_card_68 : decode cX7_card 68 = .ok (.ireturn, 1) := by decide +kernel
theorem dX7_plan_0 : decode cX7_plan 0 = .ok (.iload_n 1, 1) := by decide +kernel
theorem dX7_plan_1 : decode cX7_plan 1 = .ok (.iconst 0, 1) := by decide +kernel
theorem dX7_plan_2 : decode cX7_plan 2 = .ok (.sipush 200, 3) := by decide +kernel
theorem dX7_plan_5 : decode cX7_plan 5 = .ok (.invokestatic 78, 3) := by decide +kernel
theorem dX7_plan_8 : decode cX7_plan 8 = .ok (.ifCond .eq 22, 3) := by decide +kernel
theorem dX7_plan_11 : decode cX7_plan 11 = .ok (.iload_n 2, 1) := by decide +kernel
theorem dX7_plan_12 : decode cX7_plan 12 = .ok (.iconst 1, 1) := by decide +kernel
theorem dX7_plan_13 : decode cX7_plan 13 = .ok (.bipush 10, 2) := by decide +kernel
theorem dX7_plan_15 : decode cX7_plan 15 = .ok (.invokestatic 78, 3) := by decide +kernel
theorem dX7_plan_18 : decode cX7_plan 18 = .ok (.ifCond .eq 12, 3) := by decide +kernel
theorem dX7_plan_21 : decode cX7_plan 21 = .ok (.iload_n 3, 1) := by decide +kernel
theorem dX7_plan_22 : decode cX7_plan 22 = .ok (.iconst 0, 1) := by decide +kernel
theorem dX7_plan_23 : decode cX7_plan 23 = .ok (.iconst 2, 1) := by decide +kernel
theorem dX7_plan_24 : decode cX7_plan 24 = .ok (.invokestatic 78, 3) := by decide +kernel
theorem dX7_plan_27 : decode cX7_plan 27 = .ok (.ifCond .ne 5, 3) := by decide +kernel
theorem dX7_plan_30 : decode cX7_plan 30 = .ok (.iconst (-1), 1) := by decide +kernel
theorem dX7_plan_31 : decode cX7_plan 31 = .ok (.ireturn, 1) := by decide +kernel
theorem dX7_plan_32 : decode cX7_plan 32 = .ok (.aload_n 0, 1) := by decide +kernel
theorem dX7_plan_33 : decode cX7_plan 33 = .ok (.getfield 58, 3) := by decide +kernel
theorem dX7_plan_36 : decode cX7_plan 36 = .ok (.iload_n 1, 1) := by decide +kernel
theorem dX7_plan_37 : decode cX7_plan 37 = .ok (.iload_n 2, 1) := by decide +kernel
theorem dX7_plan_38 : decode cX7_plan 38 = .ok (.aload_n 0, 1) := by decide +kernel
theorem dX7_plan_39 : decode cX7_plan 39 = .ok (.getfield 20, 3) := by decide +kernel
theorem dX7_plan_42 : decode cX7_plan 42 = .ok (.iconst 0, 1) := by decide +kernel
theorem dX7_plan_43 : decode cX7_plan 43 = .ok (.iaload, 1) := by decide +kernel
theorem dX7_plan_44 : decode cX7_plan 44 = .ok (.aload_n 0, 1) := by decide +kernel
theorem dX7_plan_45 : decode cX7_plan 45 = .ok (.getfield 20, 3) := by decide +kernel
theorem dX7_plan_48 : decode cX7_plan 48 = .ok (.iconst 2, 1) := by decide +kernel
theorem dX7_plan_49 : decode cX7_plan 49 = .ok (.iaload, 1) := by decide +kernel
theorem dX7_plan_50 : decode cX7_plan 50 = .ok (.aload_n 0, 1) := by decide +kernel
theorem dX7_plan_51 : decode cX7_plan 51 = .ok (.getfield 34, 3) := by decide +kernel
theorem dX7_plan_54 : decode cX7_plan 54 = .ok (.invokevirtual 234, 3) := by decide +kernel
theorem dX7_plan_57 : decode cX7_plan 57 = .ok (.aload_n 0, 1) := by decide +kernel
theorem dX7_plan_58 : decode cX7_plan 58 = .ok (.getfield 58, 3) := by decide +kernel
theorem dX7_plan_61 : decode cX7_plan 61 = .ok (.iload_n 3, 1) := by decide +kernel
theorem dX7_plan_62 : decode cX7_plan 62 = .ok (.iconst 2, 1) := by decide +kernel
theorem dX7_plan_63 : decode cX7_plan 63 = .ok (.if_icmp .eq 7, 3) := by decide +kernel
theorem dX7_plan_66 : decode cX7_plan 66 = .ok (.iconst 1, 1) := by decide +kernel
theorem dX7_plan_67 : decode cX7_plan 67 = .ok (.goto 4, 3) := by decide +kernel
theorem dX7_plan_70 : decode cX7_plan 70 = .ok (.iconst 0, 1) := by decide +kernel
theorem dX7_plan_71 : decode cX7_plan 71 = .ok (.invokevirtual 237, 3) := by decide +kernel
theorem dX7_plan_74 : decode cX7_plan 74 = .ok (.istore 4, 2) := by decide +kernel
theorem dX7_plan_76 : decode cX7_plan 76 = .ok (.iload_n 3, 1) := by decide +kernel
theorem dX7_plan_77 : decode cX7_plan 77 = .ok (.ifCond .ne 11, 3) := by decide +kernel
theorem dX7_plan_80 : decode cX7_plan 80 = .ok (.iload 4, 2) := by decide +kernel
theorem dX7_plan_82 : decode cX7_plan 82 = .ok (.invokestatic 241, 3) := by decide +kernel
theorem dX7_plan_85 : decode cX7_plan 85 = .ok (.goto 8, 3) := by decide +kernel
theorem dX7_plan_88 : decode cX7_plan 88 = .ok (.iload 4, 2) := by decide +kernel
theorem dX7_plan_90 : decode cX7_plan 90 = .ok (.invokestatic 244, 3) := by decide +kernel
theorem dX7_plan_93 : decode cX7_plan 93 = .ok (.ireturn, 1) := by decide +kernel
theorem dX7_hull_0 : decode cX7_hull 0 = .ok (.iload_n 1, 1) := by decide +kernel
theorem dX7_hull_1 : decode cX7_hull 1 = .ok (.iconst 0, 1) := by decide +kernel
theorem dX7_hull_2 : decode cX7_hull 2 = .ok (.iconst 5, 1) := by decide +kernel
theorem dX7_hull_3 : decode cX7_hull 3 = .ok (.invokestatic 78, 3) := by decide +kernel
theorem dX7_hull_6 : decode cX7_hull 6 = .ok (.ifCond .eq 14, 3) := by decide +kernel
theorem dX7_hull_9 : decode cX7_hull 9 = .ok (.iload_n 2, 1) := by decide +kernel
theorem dX7_hull_10 : decode cX7_hull 10 = .ok (.bipush (-9), 2) := by decide +kernel
theorem dX7_hull_12 : decode cX7_hull 12 = .ok (.bipush 9, 2) := by decide +kernel
theorem dX7_hull_14 : decode cX7_hull 14 = .ok (.invokestatic 78, 3) := by decide +kernel
theorem dX7_hull_17 : decode cX7_hull 17 = .ok (.ifCond .ne 6, 3) := by decide +kernel
theorem dX7_hull_20 : decode cX7_hull 20 = .ok (.ldc 101, 2) := by decide +kernel
theorem dX7_hull_22 : decode cX7_hull 22 = .ok (.ireturn, 1) := by decide +kernel
theorem dX7_hull_23 : decode cX7_hull 23 = .ok (.aload_n 0, 1) := by decide +kernel
theorem dX7_hull_24 : decode cX7_hull 24 = .ok (.getfield 65, 3) := by decide +kernel
theorem dX7_hull_27 : decode cX7_hull 27 = .ok (.getfield 247, 3) := by decide +kernel
theorem dX7_hull_30 : decode cX7_hull 30 = .ok (.iload_n 1, 1) := by decide +kernel
theorem dX7_hull_31 : decode cX7_hull 31 = .ok (.iaload, 1) := by decide +kernel
theorem dX7_hull_32 : decode cX7_hull 32 = .ok (.istore_n 3, 1) := by decide +kernel
theorem dX7_hull_33 : decode cX7_hull 33 = .ok (.aload_n 0, 1) := by decide +kernel
theorem dX7_hull_34 : decode cX7_hull 34 = .ok (.getfield 65, 3) := by decide +kernel
theorem dX7_hull_37 : decode cX7_hull 37 = .ok (.getfield 247, 3) := by decide +kernel
theorem dX7_hull_40 : decode cX7_hull 40 = .ok (.iload_n 1, 1) := by decide +kernel
theorem dX7_hull_41 : decode cX7_hull 41 = .ok (.iload_n 2, 1) := by decide +kernel
theorem dX7_hull_42 : decode cX7_hull 42 = .ok (.iastore, 1) := by decide +kernel
theorem dX7_hull_43 : decode cX7_hull 43 = .ok (.iload_n 3, 1) := by decide +kernel
theorem dX7_hull_44 : decode cX7_hull 44 = .ok (.ireturn, 1) := by decide +kernel
theorem dX7_beats_0 : decode cX7_beats 0 = .ok (.iload_n 1, 1) := by decide +kernel
theorem dX7_beats_1 : decode cX7_beats 1 = .ok (.sipush (-500), 3) := by decide +kernel
theorem dX7_beats_4 : decode cX7_beats 4 = .ok (.sipush 500, 3) := by decide +kernel
theorem dX7_beats_7 : decode cX7_beats 7 = .ok (.invokestatic 78, 3) := by decide +kernel
theorem dX7_beats_10 : decode cX7_beats 10 = .ok (.ifCond .eq 23, 3) := by decide +kernel
theorem dX7_beats_13 : decode cX7_beats 13 = .ok (.iload_n 2, 1) := by decide +kernel
theorem dX7_beats_14 : decode cX7_beats 14 = .ok (.iconst 0, 1) := by decide +kernel
theorem dX7_beats_15 : decode cX7_beats 15 = .ok (.iconst 3, 1) := by decide +kernel
theorem dX7_beats_16 : decode cX7_beats 16 = .ok (.invokestatic 78, 3) := by decide +kernel
theorem dX7_beats_19 : decode cX7_beats 19 = .ok (.ifCond .eq 14, 3) := by decide +kernel
theorem dX7_beats_22 : decode cX7_beats 22 = .ok (.aload_n 0, 1) := by decide +kernel
theorem dX7_beats_23 : decode cX7_beats 23 = .ok (.getfield 65, 3) := by decide +kernel
theorem dX7_beats_26 : decode cX7_beats 26 = .ok (.iload_n 1, 1) := by decide +kernel
theorem dX7_beats_27 : decode cX7_beats 27 = .ok (.invokevirtual 248, 3) := by decide +kernel
theorem dX7_beats_30 : decode cX7_beats 30 = .ok (.ifCond .ne 6, 3) := by decide +kernel
theorem dX7_beats_33 : decode cX7_beats 33 = .ok (.ldc 101, 2) := by decide +kernel
theorem dX7_beats_35 : decode cX7_beats 35 = .ok (.ireturn, 1) := by decide +kernel
theorem dX7_beats_36 : decode cX7_beats 36 = .ok (.iload_n 2, 1) := by decide +kernel
theorem dX7_beats_37 : decode cX7_beats 37 = .ok (.tableswitch 51 0 2 #[27, 35, 43], 27) := by decide +kernel
theorem dX7_beats_64 : decode cX7_beats 64 = .ok (.aload_n 0, 1) := by decide +kernel
theorem dX7_beats_65 : decode cX7_beats 65 = .ok (.getfield 65, 3) := by decide +kernel
theorem dX7_beats_68 : decode cX7_beats 68 = .ok (.getfield 251, 3) := by decide +kernel
theorem dX7_beats_71 : decode cX7_beats 71 = .ok (.ireturn, 1) := by decide +kernel
theorem dX7_beats_72 : decode cX7_beats 72 = .ok (.aload_n 0, 1) := by decide +kernel
theorem dX7_beats_73 : decode cX7_beats 73 = .ok (.getfield 65, 3) := by decide +kernel
theorem dX7_beats_76 : decode cX7_beats 76 = .ok (.getfield 254, 3) := by decide +kernel
theorem dX7_beats_79 : decode cX7_beats 79 = .ok (.ireturn, 1) := by decide +kernel
theorem dX7_beats_80 : decode cX7_beats 80 = .ok (.aload_n 0, 1) := by decide +kernel
theorem dX7_beats_81 : decode cX7_beats 81 = .ok (.getfield 65, 3) := by decide +kernel
theorem dX7_beats_84 : decode cX7_beats 84 = .ok (.getfield 257, 3) := by decide +kernel
theorem dX7_beats_87 : decode cX7_beats 87 = .ok (.ireturn, 1) := by decide +kernel
theorem dX7_beats_88 : decode cX7_beats 88 = .ok (.aload_n 0, 1) := by decide +kernel
theorem dX7_beats_89 : decode cX7_beats 89 = .ok (.getfield 65, 3) := by decide +kernel
theorem dX7_beats_92 : decode cX7_beats 92 = .ok (.getfield 260, 3) := by decide +kernel
theorem dX7_beats_95 : decode cX7_beats 95 = .ok (.ireturn, 1) := by decide +kernel
theorem dX7_reading_0 : decode cX7_reading 0 = .ok (.iload_n 1, 1) := by decide +kernel
theorem dX7_reading_1 : decode cX7_reading 1 = .ok (.iconst 0, 1) := by decide +kernel
theorem dX7_reading_2 : decode cX7_reading 2 = .ok (.bipush 6, 2) := by decide +kernel
theorem dX7_reading_4 : decode cX7_reading 4 = .ok (.invokestatic 78, 3) := by decide +kernel
theorem dX7_reading_7 : decode cX7_reading 7 = .ok (.ifCond .eq 11, 3) := by decide +kernel
theorem dX7_reading_10 : decode cX7_reading 10 = .ok (.aload_n 0, 1) := by decide +kernel
theorem dX7_reading_11 : decode cX7_reading 11 = .ok (.iload_n 2, 1) := by decide +kernel
theorem dX7_reading_12 : decode cX7_reading 12 = .ok (.invokevirtual 94, 3) := by decide +kernel
theorem dX7_reading_15 : decode cX7_reading 15 = .ok (.ifCond .ne 6, 3) := by decide +kernel
theorem dX7_reading_18 : decode cX7_reading 18 = .ok (.ldc 101, 2) := by decide +kernel
theorem dX7_reading_20 : decode cX7_reading 20 = .ok (.ireturn, 1) := by decide +kernel
theorem dX7_reading_21 : decode cX7_reading 21 = .ok (.aload_n 0, 1) := by decide +kernel
theorem dX7_reading_22 : decode cX7_reading 22 = .ok (.iload_n 1, 1) := by decide +kernel
theorem dX7_reading_23 : decode cX7_reading 23 = .ok (.aload_n 0, 1) := by decide +kernel
theorem dX7_reading_24 : decode cX7_reading 24 = .ok (.getfield 10, 3) := by decide +kernel
theorem dX7_reading_27 : decode cX7_reading 27 = .ok (.getfield 86, 3) := by decide +kernel
theorem dX7_reading_30 : decode cX7_reading 30 = .ok (.iload_n 2, 1) := by decide +kernel
theorem dX7_reading_31 : decode cX7_reading 31 = .ok (.aaload, 1) := by decide +kernel
theorem dX7_reading_32 : decode cX7_reading 32 = .ok (.invokevirtual 263, 3) := by decide +kernel
theorem dX7_reading_35 : decode cX7_reading 35 = .ok (.ireturn, 1) := by decide +kernel
theorem dX7_keep_0 : decode cX7_keep 0 = .ok (.iload_n 1, 1) := by decide +kernel
theorem dX7_keep_1 : decode cX7_keep 1 = .ok (.iconst 0, 1) := by decide +kernel
theorem dX7_keep_2 : decode cX7_keep 2 = .ok (.iconst 1, 1) := by decide +kernel
theorem dX7_keep_3 : decode cX7_keep 3 = .ok (.invokestatic 78, 3) := by decide +kernel
theorem dX7_keep_6 : decode cX7_keep 6 = .ok (.ifCond .ne 5, 3) := by decide +kernel
theorem dX7_keep_9 : decode cX7_keep 9 = .ok (.iconst (-1), 1) := by decide +kernel
theorem dX7_keep_10 : decode cX7_keep 10 = .ok (.ireturn, 1) := by decide +kernel
theorem dX7_keep_11 : decode cX7_keep 11 = .ok (.aload_n 0, 1) := by decide +kernel
theorem dX7_keep_12 : decode cX7_keep 12 = .ok (.getfield 16, 3) := by decide +kernel
theorem dX7_keep_15 : decode cX7_keep 15 = .ok (.iload_n 1, 1) := by decide +kernel
theorem dX7_keep_16 : decode cX7_keep 16 = .ok (.aaload, 1) := by decide +kernel
theorem dX7_keep_17 : decode cX7_keep 17 = .ok (.aload_n 0, 1) := by decide +kernel
theorem dX7_keep_18 : decode cX7_keep 18 = .ok (.getfield 10, 3) := by decide +kernel
theorem dX7_keep_21 : decode cX7_keep 21 = .ok (.invokevirtual 267, 3) := by decide +kernel
theorem dX7_keep_24 : decode cX7_keep 24 = .ok (.aload_n 0, 1) := by decide +kernel
theorem dX7_keep_25 : decode cX7_keep 25 = .ok (.getfield 16, 3) := by decide +kernel
theorem dX7_keep_28 : decode cX7_keep 28 = .ok (.iload_n 1, 1) := by decide +kernel
theorem dX7_keep_29 : decode cX7_keep 29 = .ok (.aaload, 1) := by decide +kernel
theorem dX7_keep_30 : decode cX7_keep 30 = .ok (.iconst 1, 1) := by decide +kernel
theorem dX7_keep_31 : decode cX7_keep 31 = .ok (.putfield 270, 3) := by decide +kernel
theorem dX7_keep_34 : decode cX7_keep 34 = .ok (.aload_n 0, 1) := by decide +kernel
theorem dX7_keep_35 : decode cX7_keep 35 = .ok (.getfield 10, 3) := by decide +kernel
theorem dX7_keep_38 : decode cX7_keep 38 = .ok (.getfield 171, 3) := by decide +kernel
theorem dX7_keep_41 : decode cX7_keep 41 = .ok (.ireturn, 1) := by decide +kernel
theorem dX7_back_0 : decode cX7_back 0 = .ok (.iload_n 1, 1) := by decide +kernel
theorem dX7_back_1 : decode cX7_back 1 = .ok (.iconst 0, 1) := by decide +kernel
theorem dX7_back_2 : decode cX7_back 2 = .ok (.iconst 1, 1) := by decide +kernel
theorem dX7_back_3 : decode cX7_back 3 = .ok (.invokestatic 78, 3) := by decide +kernel
theorem dX7_back_6 : decode cX7_back 6 = .ok (.ifCond .ne 5, 3) := by decide +kernel
theorem dX7_back_9 : decode cX7_back 9 = .ok (.iconst (-1), 1) := by decide +kernel
theorem dX7_back_10 : decode cX7_back 10 = .ok (.ireturn, 1) := by decide +kernel
theorem dX7_back_11 : decode cX7_back 11 = .ok (.aload_n 0, 1) := by decide +kernel
theorem dX7_back_12 : decode cX7_back 12 = .ok (.getfield 16, 3) := by decide +kernel
theorem dX7_back_15 : decode cX7_back 15 = .ok (.iload_n 1, 1) := by decide +kernel
theorem dX7_back_16 : decode cX7_back 16 = .ok (.aaload, 1) := by decide +kernel
theorem dX7_back_17 : decode cX7_back 17 = .ok (.getfield 270, 3) := by decide +kernel
theorem dX7_back_20 : decode cX7_back 20 = .ok (.ifCond .ne 6, 3) := by decide +kernel
theorem dX7_back_23 : decode cX7_back 23 = .ok (.bipush (-2), 2) := by decide +kernel
theorem dX7_back_25 : decode cX7_back 25 = .ok (.ireturn, 1) := by decide +kernel
theorem dX7_back_26 : decode cX7_back 26 = .ok (.aload_n 0, 1) := by decide +kernel
theorem dX7_back_27 : decode cX7_back 27 = .ok (.getfield 10, 3) := by decide +kernel
theorem dX7_back_30 : decode cX7_back 30 = .ok (.aload_n 0, 1) := by decide +kernel
theorem dX7_back_31 : decode cX7_back 31 = .ok (.getfield 16, 3) := by decide +kernel
theorem dX7_back_34 : decode cX7_back 34 = .ok (.iload_n 1, 1) := by decide +kernel
theorem dX7_back_35 : decode cX7_back 35 = .ok (.aaload, 1) := by decide +kernel
theorem dX7_back_36 : decode cX7_back 36 = .ok (.invokevirtual 267, 3) := by decide +kernel
theorem dX7_back_39 : decode cX7_back 39 = .ok (.aload_n 0, 1) := by decide +kernel
theorem dX7_back_40 : decode cX7_back 40 = .ok (.iconst 0, 1) := by decide +kernel
theorem dX7_back_41 : decode cX7_back 41 = .ok (.putfield 168, 3) := by decide +kernel
theorem dX7_back_44 : decode cX7_back 44 = .ok (.aload_n 0, 1) := by decide +kernel
theorem dX7_back_45 : decode cX7_back 45 = .ok (.getfield 10, 3) := by decide +kernel
theorem dX7_back_48 : decode cX7_back 48 = .ok (.getfield 171, 3) := by decide +kernel
theorem dX7_back_51 : decode cX7_back 51 = .ok (.ireturn, 1) := by decide +kernel
theorem dX7_count_0 : decode cX7_count 0 = .ok (.iload_n 1, 1) := by decide +kernel
theorem dX7_count_1 : decode cX7_count 1 = .ok (.tableswitch 63 0 3 #[31, 39, 47, 55], 31) := by decide +kernel
theorem dX7_count_32 : decode cX7_count 32 = .ok (.aload_n 0, 1) := by decide +kernel
theorem dX7_count_33 : decode cX7_count 33 = .ok (.getfield 10, 3) := by decide +kernel
theorem dX7_count_36 : decode cX7_count 36 = .ok (.getfield 82, 3) := by decide +kernel
theorem dX7_count_39 : decode cX7_count 39 = .ok (.ireturn, 1) := by decide +kernel
theorem dX7_count_40 : decode cX7_count 40 = .ok (.aload_n 0, 1) := by decide +kernel
theorem dX7_count_41 : decode cX7_count 41 = .ok (.getfield 10, 3) := by decide +kernel
theorem dX7_count_44 : decode cX7_count 44 = .ok (.getfield 171, 3) := by decide +kernel
theorem dX7_count_47 : decode cX7_count 47 = .ok (.ireturn, 1) := by decide +kernel
theorem dX7_count_48 : decode cX7_count 48 = .ok (.aload_n 0, 1) := by decide +kernel
theorem dX7_count_49 : decode cX7_count 49 = .ok (.getfield 27, 3) := by decide +kernel
theorem dX7_count_52 : decode cX7_count 52 = .ok (.getfield 136, 3) := by decide +kernel
theorem dX7_count_55 : decode cX7_count 55 = .ok (.ireturn, 1) := by decide +kernel
theorem dX7_count_56 : decode cX7_count 56 = .ok (.aload_n 0, 1) := by decide +kernel
theorem dX7_count_57 : decode cX7_count 57 = .ok (.getfield 10, 3) := by decide +kernel
theorem dX7_count_60 : decode cX7_count 60 = .ok (.getfield 133, 3) := by decide +kernel
theorem dX7_count_63 : decode cX7_count 63 = .ok (.ireturn, 1) := by decide +kernel
theorem dX7_count_64 : decode cX7_count 64 = .ok (.ldc 101, 2) := by decide +kernel
theorem dX7_count_66 : decode cX7_count 66 = .ok (.ireturn, 1) := by decide +kernel
theorem dX7_trace_0 : decode cX7_trace 0 = .ok (.aload_n 0, 1) := by decide +kernel
theorem dX7_trace_1 : decode cX7_trace 1 = .ok (.getfield 273, 3) := by decide +kernel
theorem dX7_trace_4 : decode cX7_trace 4 = .ok (.lreturn, 1) := by decide +kernel
theorem dX7_within_0 : decode cX7_within 0 = .ok (.iload_n 0, 1) := by decide +kernel
theorem dX7_within_1 : decode cX7_within 1 = .ok (.iload_n 1, 1) := by decide +kernel
theorem dX7_within_2 : decode cX7_within 2 = .ok (.if_icmp .lt 12, 3) := by decide +kernel
theorem dX7_within_5 : decode cX7_within 5 = .ok (.iload_n 0, 1) := by decide +kernel
theorem dX7_within_6 : decode cX7_within 6 = .ok (.iload_n 2, 1) := by decide +kernel
theorem dX7_within_7 : decode cX7_within 7 = .ok (.if_icmp .gt 7, 3) := by decide +kernel
theorem dX7_within_10 : decode cX7_within 10 = .ok (.iconst 1, 1) := by decide +kernel
theorem dX7_within_11 : decode cX7_within 11 = .ok (.goto 4, 3) := by decide +kernel
theorem dX7_within_14 : decode cX7_within 14 = .ok (.iconst 0, 1) := by decide +kernel
theorem dX7_within_15 : decode cX7_within 15 = .ok (.ireturn, 1) := by decide +kernel
theorem dX7_clamp_0 : decode cX7_clamp 0 = .ok (.iload_n 0, 1) := by decide +kernel
theorem dX7_clamp_1 : decode cX7_clamp 1 = .ok (.iload_n 1, 1) := by decide +kernel
theorem dX7_clamp_2 : decode cX7_clamp 2 = .ok (.if_icmp .ge 7, 3) := by decide +kernel
theorem dX7_clamp_5 : decode cX7_clamp 5 = .ok (.iload_n 1, 1) := by decide +kernel
theorem dX7_clamp_6 : decode cX7_clamp 6 = .ok (.goto 13, 3) := by decide +kernel
theorem dX7_clamp_9 : decode cX7_clamp 9 = .ok (.iload_n 0, 1) := by decide +kernel
theorem dX7_clamp_10 : decode cX7_clamp 10 = .ok (.iload_n 2, 1) := by decide +kernel
theorem dX7_clamp_11 : decode cX7_clamp 11 = .ok (.if_icmp .le 7, 3) := by decide +kernel
theorem dX7_clamp_14 : decode cX7_clamp 14 = .ok (.iload_n 2, 1) := by decide +kernel
theorem dX7_clamp_15 : decode cX7_clamp 15 = .ok (.goto 4, 3) := by decide +kernel
theorem dX7_clamp_18 : decode cX7_clamp 18 = .ok (.iload_n 0, 1) := by decide +kernel
theorem dX7_clamp_19 : decode cX7_clamp 19 = .ok (.ireturn, 1) := by decide +kernel
theorem dX7_isHere_0 : decode cX7_isHere 0 = .ok (.iload_n 1, 1) := by decide +kernel
theorem dX7_isHere_1 : decode cX7_isHere 1 = .ok (.ifCond .lt 18, 3) := by decide +kernel
theorem dX7_isHere_4 : decode cX7_isHere 4 = .ok (.iload_n 1, 1) := by decide +kernel
theorem dX7_isHere_5 : decode cX7_isHere 5 = .ok (.aload_n 0, 1) := by decide +kernel
theorem dX7_isHere_6 : decode cX7_isHere 6 = .ok (.getfield 10, 3) := by decide +kernel
theorem dX7_isHere_9 : decode cX7_isHere 9 = .ok (.getfield 82, 3) := by decide +kernel
theorem dX7_isHere_12 : decode cX7_isHere 12 = .ok (.if_icmp .ge 7, 3) := by decide +kernel
theorem dX7_isHere_15 : decode cX7_isHere 15 = .ok (.iconst 1, 1) := by decide +kernel
theorem dX7_isHere_16 : decode cX7_isHere 16 = .ok (.goto 4, 3) := by decide +kernel
theorem dX7_isHere_19 : decode cX7_isHere 19 = .ok (.iconst 0, 1) := by decide +kernel
theorem dX7_isHere_20 : decode cX7_isHere 20 = .ok (.ireturn, 1) := by decide +kernel
theorem dX7_isOf_0 : decode cX7_isOf 0 = .ok (.iload_n 0, 1) := by decide +kernel
theorem dX7_isOf_1 : decode cX7_isOf 1 = .ok (.iload_n 1, 1) := by decide +kernel
theorem dX7_isOf_2 : decode cX7_isOf 2 = .ok (.ishr, 1) := by decide +kernel
theorem dX7_isOf_3 : decode cX7_isOf 3 = .ok (.iconst 1, 1) := by decide +kernel
theorem dX7_isOf_4 : decode cX7_isOf 4 = .ok (.iand, 1) := by decide +kernel
theorem dX7_isOf_5 : decode cX7_isOf 5 = .ok (.ifCond .eq 7, 3) := by decide +kernel
theorem dX7_isOf_8 : decode cX7_isOf 8 = .ok (.iconst 1, 1) := by decide +kernel
theorem dX7_isOf_9 : decode cX7_isOf 9 = .ok (.goto 4, 3) := by decide +kernel
theorem dX7_isOf_12 : decode cX7_isOf 12 = .ok (.iconst 0, 1) := by decide +kernel
theorem dX7_isOf_13 : decode cX7_isOf 13 = .ok (.ireturn, 1) := by decide +kernel
theorem dX7_canRace_0 : decode cX7_canRace 0 = .ok (.iload_n 1, 1) := by decide +kernel
theorem dX7_canRace_1 : decode cX7_canRace 1 = .ok (.iconst 0, 1) := by decide +kernel
theorem dX7_canRace_2 : decode cX7_canRace 2 = .ok (.iconst 2, 1) := by decide +kernel
theorem dX7_canRace_3 : decode cX7_canRace 3 = .ok (.invokestatic 78, 3) := by decide +kernel
theorem dX7_canRace_6 : decode cX7_canRace 6 = .ok (.ifCond .eq 34, 3) := by decide +kernel
theorem dX7_canRace_9 : decode cX7_canRace 9 = .ok (.iload_n 2, 1) := by decide +kernel
theorem dX7_canRace_10 : decode cX7_canRace 10 = .ok (.iconst 0, 1) := by decide +kernel
theorem dX7_canRace_11 : decode cX7_canRace 11 = .ok (.iconst 1, 1) := by decide +kernel
theorem dX7_canRace_12 : decode cX7_canRace 12 = .ok (.aload_n 0, 1) := by decide +kernel
theorem dX7_canRace_13 : decode cX7_canRace 13 = .ok (.getfield 10, 3) := by decide +kernel
theorem dX7_canRace_16 : decode cX7_canRace 16 = .ok (.getfield 82, 3) := by decide +kernel
theorem dX7_canRace_19 : decode cX7_canRace 19 = .ok (.ishl, 1) := by decide +kernel
theorem dX7_canRace_20 : decode cX7_canRace 20 = .ok (.iconst 1, 1) := by decide +kernel
theorem dX7_canRace_21 : decode cX7_canRace 21 = .ok (.isub, 1) := by decide +kernel
theorem dX7_canRace_22 : decode cX7_canRace 22 = .ok (.invokestatic 78, 3) := by decide +kernel
theorem dX7_canRace_25 : decode cX7_canRace 25 = .ok (.ifCond .eq 15, 3) := by decide +kernel
theorem dX7_canRace_28 : decode cX7_canRace 28 = .ok (.iload_n 2, 1) := by decide +kernel
theorem dX7_canRace_29 : decode cX7_canRace 29 = .ok (.invokestatic 200, 3) := by decide +kernel
theorem dX7_canRace_32 : decode cX7_canRace 32 = .ok (.iconst 2, 1) := by decide +kernel
theorem dX7_canRace_33 : decode cX7_canRace 33 = .ok (.if_icmp .lt 7, 3) := by decide +kernel
theorem dX7_canRace_36 : decode cX7_canRace 36 = .ok (.iconst 1, 1) := by decide +kernel
theorem dX7_canRace_37 : decode cX7_canRace 37 = .ok (.goto 4, 3) := by decide +kernel
theorem dX7_canRace_40 : decode cX7_canRace 40 = .ok (.iconst 0, 1) := by decide +kernel
theorem dX7_canRace_41 : decode cX7_canRace 41 = .ok (.ireturn, 1) := by decide +kernel
theorem dX7_canAsk_0 : decode cX7_canAsk 0 = .ok (.aload_n 0, 1) := by decide +kernel
theorem dX7_canAsk_1 : decode cX7_canAsk 1 = .ok (.iload_n 1, 1) := by decide +kernel
theorem dX7_canAsk_2 : decode cX7_canAsk 2 = .ok (.iload_n 2, 1) := by decide +kernel
theorem dX7_canAsk_3 : decode cX7_canAsk 3 = .ok (.invokevirtual 153, 3) := by decide +kernel
theorem dX7_canAsk_6 : decode cX7_canAsk 6 = .ok (.ifCond .eq 28, 3) := by decide +kernel
theorem dX7_canAsk_9 : decode cX7_canAsk 9 = .ok (.iload_n 3, 1) := by decide +kernel
theorem dX7_canAsk_10 : decode cX7_canAsk 10 = .ok (.iconst (-1), 1) := by decide +kernel
theorem dX7_canAsk_11 : decode cX7_canAsk 11 = .ok (.if_icmp .eq 19, 3) := by decide +kernel
theorem dX7_canAsk_14 : decode cX7_canAsk 14 = .ok (.aload_n 0, 1) := by decide +kernel
theorem dX7_canAsk_15 : decode cX7_canAsk 15 = .ok (.iload_n 3, 1) := by decide +kernel
theorem dX7_canAsk_16 : decode cX7_canAsk 16 = .ok (.invokevirtual 94, 3) := by decide +kernel
theorem dX7_canAsk_19 : decode cX7_canAsk 19 = .ok (.ifCond .eq 15, 3) := by decide +kernel
theorem dX7_canAsk_22 : decode cX7_canAsk 22 = .ok (.iload_n 2, 1) := by decide +kernel
theorem dX7_canAsk_23 : decode cX7_canAsk 23 = .ok (.iload_n 3, 1) := by decide +kernel
theorem dX7_canAsk_24 : decode cX7_canAsk 24 = .ok (.invokestatic 161, 3) := by decide +kernel
theorem dX7_canAsk_27 : decode cX7_canAsk 27 = .ok (.ifCond .eq 7, 3) := by decide +kernel
theorem dX7_canAsk_30 : decode cX7_canAsk 30 = .ok (.iconst 1, 1) := by decide +kernel
theorem dX7_canAsk_31 : decode cX7_canAsk 31 = .ok (.goto 4, 3) := by decide +kernel
theorem dX7_canAsk_34 : decode cX7_canAsk 34 = .ok (.iconst 0, 1) := by decide +kernel
theorem dX7_canAsk_35 : decode cX7_canAsk 35 = .ok (.ireturn, 1) := by decide +kernel
theorem dX7_leastMark_0 : decode cX7_leastMark 0 = .ok (.sipush 200, 3) := by decide +kernel
theorem dX7_leastMark_3 : decode cX7_leastMark 3 = .ok (.istore_n 2, 1) := by decide +kernel
theorem dX7_leastMark_4 : decode cX7_leastMark 4 = .ok (.iconst 0, 1) := by decide +kernel
theorem dX7_leastMark_5 : decode cX7_leastMark 5 = .ok (.istore_n 3, 1) := by decide +kernel
theorem dX7_leastMark_6 : decode cX7_leastMark 6 = .ok (.iload_n 3, 1) := by decide +kernel
theorem dX7_leastMark_7 : decode cX7_leastMark 7 = .ok (.aload_n 0, 1) := by decide +kernel
theorem dX7_leastMark_8 : decode cX7_leastMark 8 = .ok (.getfield 10, 3) := by decide +kernel
theorem dX7_leastMark_11 : decode cX7_leastMark 11 = .ok (.getfield 82, 3) := by decide +kernel
theorem dX7_leastMark_14 : decode cX7_leastMark 14 = .ok (.if_icmp .ge 34, 3) := by decide +kernel
theorem dX7_leastMark_17 : decode cX7_leastMark 17 = .ok (.iload_n 1, 1) := by decide +kernel
theorem dX7_leastMark_18 : decode cX7_leastMark 18 = .ok (.iload_n 3, 1) := by decide +kernel
theorem dX7_leastMark_19 : decode cX7_leastMark 19 = .ok (.invokestatic 161, 3) := by decide +kernel
theorem dX7_leastMark_22 : decode cX7_leastMark 22 = .ok (.ifCond .eq 20, 3) := by decide +kernel
theorem dX7_leastMark_25 : decode cX7_leastMark 25 = .ok (.iload_n 2, 1) := by decide +kernel
theorem dX7_leastMark_26 : decode cX7_leastMark 26 = .ok (.aload_n 0, 1) := by decide +kernel
theorem dX7_leastMark_27 : decode cX7_leastMark 27 = .ok (.getfield 10, 3) := by decide +kernel
theorem dX7_leastMark_30 : decode cX7_leastMark 30 = .ok (.getfield 86, 3) := by decide +kernel
theorem dX7_leastMark_33 : decode cX7_leastMark 33 = .ok (.iload_n 3, 1) := by decide +kernel
theorem dX7_leastMark_34 : decode cX7_leastMark 34 = .ok (.aaload, 1) := by decide +kernel
theorem dX7_leastMark_35 : decode cX7_leastMark 35 = .ok (.getfield 112, 3) := by decide +kernel
theorem dX7_leastMark_38 : decode cX7_leastMark 38 = .ok (.invokestatic 276, 3) := by decide +kernel
theorem dX7_leastMark_41 : decode cX7_leastMark 41 = .ok (.istore_n 2, 1) := by decide +kernel
theorem dX7_leastMark_42 : decode cX7_leastMark 42 = .ok (.iinc 3 1, 3) := by decide +kernel
theorem dX7_leastMark_45 : decode cX7_leastMark 45 = .ok (.goto (-39), 3) := by decide +kernel
theorem dX7_leastMark_48 : decode cX7_leastMark 48 = .ok (.iload_n 2, 1) := by decide +kernel
theorem dX7_leastMark_49 : decode cX7_leastMark 49 = .ok (.ireturn, 1) := by decide +kernel
theorem dX7_bareLevel_0 : decode cX7_bareLevel 0 = .ok (.aload_n 1, 1) := by decide +kernel
theorem dX7_bareLevel_1 : decode cX7_bareLevel 1 = .ok (.getfield 115, 3) := by decide +kernel
theorem dX7_bareLevel_4 : decode cX7_bareLevel 4 = .ok (.iconst 1, 1) := by decide +kernel
theorem dX7_bareLevel_5 : decode cX7_bareLevel 5 = .ok (.if_icmp .ne 12, 3) := by decide +kernel
theorem dX7_bareLevel_8 : decode cX7_bareLevel 8 = .ok (.aload_n 0, 1) := by decide +kernel
theorem dX7_bareLevel_9 : decode cX7_bareLevel 9 = .ok (.getfield 20, 3) := by decide +kernel
theorem dX7_bareLevel_12 : decode cX7_bareLevel 12 = .ok (.iconst 1, 1) := by decide +kernel
theorem dX7_bareLevel_13 : decode cX7_bareLevel 13 = .ok (.iaload, 1) := by decide +kernel
theorem dX7_bareLevel_14 : decode cX7_bareLevel 14 = .ok (.goto 21, 3) := by decide +kernel
theorem dX7_bareLevel_17 : decode cX7_bareLevel 17 = .ok (.aload_n 1, 1) := by decide +kernel
theorem dX7_bareLevel_18 : decode cX7_bareLevel 18 = .ok (.getfield 115, 3) := by decide +kernel
theorem dX7_bareLevel_21 : decode cX7_bareLevel 21 = .ok (.iconst 2, 1) := by decide +kernel
theorem dX7_bareLevel_22 : decode cX7_bareLevel 22 = .ok (.if_icmp .ne 12, 3) := by decide +kernel
theorem dX7_bareLevel_25 : decode cX7_bareLevel 25 = .ok (.aload_n 0, 1) := by decide +kernel
theorem dX7_bareLevel_26 : decode cX7_bareLevel 26 = .ok (.getfield 20, 3) := by decide +kernel
theorem dX7_bareLevel_29 : decode cX7_bareLevel 29 = .ok (.iconst 2, 1) := by decide +kernel
theorem dX7_bareLevel_30 : decode cX7_bareLevel 30 = .ok (.iaload, 1) := by decide +kernel
theorem dX7_bareLevel_31 : decode cX7_bareLevel 31 = .ok (.goto 4, 3) := by decide +kernel
theorem dX7_bareLevel_34 : decode cX7_bareLevel 34 = .ok (.iconst 0, 1) := by decide +kernel
theorem dX7_bareLevel_35 : decode cX7_bareLevel 35 = .ok (.istore_n 3, 1) := by decide +kernel
theorem dX7_bareLevel_36 : decode cX7_bareLevel 36 = .ok (.aload_n 1, 1) := by decide +kernel
theorem dX7_bareLevel_37 : decode cX7_bareLevel 37 = .ok (.getfield 109, 3) := by decide +kernel
theorem dX7_bareLevel_40 : decode cX7_bareLevel 40 = .ok (.aload_n 1, 1) := by decide +kernel
theorem dX7_bareLevel_41 : decode cX7_bareLevel 41 = .ok (.getfield 281, 3) := by decide +kernel
theorem dX7_bareLevel_44 : decode cX7_bareLevel 44 = .ok (.iload_n 2, 1) := by decide +kernel
theorem dX7_bareLevel_45 : decode cX7_bareLevel 45 = .ok (.iaload, 1) := by decide +kernel
theorem dX7_bareLevel_46 : decode cX7_bareLevel 46 = .ok (.iadd, 1) := by decide +kernel
theorem dX7_bareLevel_47 : decode cX7_bareLevel 47 = .ok (.iload_n 3, 1) := by decide +kernel
theorem dX7_bareLevel_48 : decode cX7_bareLevel 48 = .ok (.isub, 1) := by decide +kernel
theorem dX7_bareLevel_49 : decode cX7_bareLevel 49 = .ok (.ireturn, 1) := by decide +kernel
theorem dX7_runOne_0 : decode cX7_runOne 0 = .ok (.aload_n 0, 1) := by decide +kernel
theorem dX7_runOne_1 : decode cX7_runOne 1 = .ok (.getfield 10, 3) := by decide +kernel
theorem dX7_runOne_4 : decode cX7_runOne 4 = .ok (.getfield 86, 3) := by decide +kernel
theorem dX7_runOne_7 : decode cX7_runOne 7 = .ok (.iload_n 1, 1) := by decide +kernel
theorem dX7_runOne_8 : decode cX7_runOne 8 = .ok (.aaload, 1) := by decide +kernel
theorem dX7_runOne_9 : decode cX7_runOne 9 = .ok (.astore 4, 2) := by decide +kernel
theorem dX7_runOne_11 : decode cX7_runOne 11 = .ok (.aload_n 0, 1) := by decide +kernel
theorem dX7_runOne_12 : decode cX7_runOne 12 = .ok (.getfield 20, 3) := by decide +kernel
theorem dX7_runOne_15 : decode cX7_runOne 15 = .ok (.iconst 0, 1) := by decide +kernel
theorem dX7_runOne_16 : decode cX7_runOne 16 = .ok (.iaload, 1) := by decide +kernel
theorem dX7_runOne_17 : decode cX7_runOne 17 = .ok (.istore 5, 2) := by decide +kernel
theorem dX7_runOne_19 : decode cX7_runOne 19 = .ok (.aload_n 0, 1) := by decide +kernel
theorem dX7_runOne_20 : decode cX7_runOne 20 = .ok (.getfield 75, 3) := by decide +kernel
theorem dX7_runOne_23 : decode cX7_runOne 23 = .ok (.iload_n 1, 1) := by decide +kernel
theorem dX7_runOne_24 : decode cX7_runOne 24 = .ok (.aload_n 0, 1) := by decide +kernel
theorem dX7_runOne_25 : decode cX7_runOne 25 = .ok (.getfield 10, 3) := by decide +kernel
theorem dX7_runOne_28 : decode cX7_runOne 28 = .ok (.invokevirtual 284, 3) := by decide +kernel
theorem dX7_runOne_31 : decode cX7_runOne 31 = .ok (.bipush 16, 2) := by decide +kernel
theorem dX7_runOne_33 : decode cX7_runOne 33 = .ok (.iushr, 1) := by decide +kernel
theorem dX7_runOne_34 : decode cX7_runOne 34 = .ok (.iconst 2, 1) := by decide +kernel
theorem dX7_runOne_35 : decode cX7_runOne 35 = .ok (.iload 5, 2) := by decide +kernel
theorem dX7_runOne_37 : decode cX7_runOne 37 = .ok (.imul, 1) := by decide +kernel
theorem dX7_runOne_38 : decode cX7_runOne 38 = .ok (.iconst 1, 1) := by decide +kernel
theorem dX7_runOne_39 : decode cX7_runOne 39 = .ok (.iadd, 1) := by decide +kernel
theorem dX7_runOne_40 : decode cX7_runOne 40 = .ok (.irem, 1) := by decide +kernel
theorem dX7_runOne_41 : decode cX7_runOne 41 = .ok (.iload 5, 2) := by decide +kernel
theorem dX7_runOne_43 : decode cX7_runOne 43 = .ok (.isub, 1) := by decide +kernel
theorem dX7_runOne_44 : decode cX7_runOne 44 = .ok (.iastore, 1) := by decide +kernel
theorem dX7_runOne_45 : decode cX7_runOne 45 = .ok (.aload_n 0, 1) := by decide +kernel
theorem dX7_runOne_46 : decode cX7_runOne 46 = .ok (.getfield 72, 3) := by decide +kernel
theorem dX7_runOne_49 : decode cX7_runOne 49 = .ok (.iload_n 1, 1) := by decide +kernel
theorem dX7_runOne_50 : decode cX7_runOne 50 = .ok (.aload 4, 2) := by decide +kernel
theorem dX7_runOne_52 : decode cX7_runOne 52 = .ok (.getfield 112, 3) := by decide +kernel
theorem dX7_runOne_55 : decode cX7_runOne 55 = .ok (.iload_n 3, 1) := by decide +kernel
theorem dX7_runOne_56 : decode cX7_runOne 56 = .ok (.isub, 1) := by decide +kernel
theorem dX7_runOne_57 : decode cX7_runOne 57 = .ok (.iastore, 1) := by decide +kernel
theorem dX7_runOne_58 : decode cX7_runOne 58 = .ok (.aload_n 0, 1) := by decide +kernel
theorem dX7_runOne_59 : decode cX7_runOne 59 = .ok (.aload 4, 2) := by decide +kernel
theorem dX7_runOne_61 : decode cX7_runOne 61 = .ok (.iload_n 2, 1) := by decide +kernel
theorem dX7_runOne_62 : decode cX7_runOne 62 = .ok (.invokevirtual 288, 3) := by decide +kernel
theorem dX7_runOne_65 : decode cX7_runOne 65 = .ok (.aload_n 0, 1) := by decide +kernel
theorem dX7_runOne_66 : decode cX7_runOne 66 = .ok (.getfield 75, 3) := by decide +kernel
theorem dX7_runOne_69 : decode cX7_runOne 69 = .ok (.iload_n 1, 1) := by decide +kernel
theorem dX7_runOne_70 : decode cX7_runOne 70 = .ok (.iaload, 1) := by decide +kernel
theorem dX7_runOne_71 : decode cX7_runOne 71 = .ok (.iadd, 1) := by decide +kernel
theorem dX7_runOne_72 : decode cX7_runOne 72 = .ok (.istore 6, 2) := by decide +kernel
theorem dX7_runOne_74 : decode cX7_runOne 74 = .ok (.aload_n 0, 1) := by decide +kernel
theorem dX7_runOne_75 : decode cX7_runOne 75 = .ok (.getfield 69, 3) := by decide +kernel
theorem dX7_runOne_78 : decode cX7_runOne 78 = .ok (.iload_n 1, 1) := by decide +kernel
theorem dX7_runOne_79 : decode cX7_runOne 79 = .ok (.iload 6, 2) := by decide +kernel
theorem dX7_runOne_81 : decode cX7_runOne 81 = .ok (.aload_n 0, 1) := by decide +kernel
theorem dX7_runOne_82 : decode cX7_runOne 82 = .ok (.getfield 72, 3) := by decide +kernel
theorem dX7_runOne_85 : decode cX7_runOne 85 = .ok (.iload_n 1, 1) := by decide +kernel
theorem dX7_runOne_86 : decode cX7_runOne 86 = .ok (.iaload, 1) := by decide +kernel
theorem dX7_runOne_87 : decode cX7_runOne 87 = .ok (.isub, 1) := by decide +kernel
theorem dX7_runOne_88 : decode cX7_runOne 88 = .ok (.iastore, 1) := by decide +kernel
theorem dX7_runOne_89 : decode cX7_runOne 89 = .ok (.aload 4, 2) := by decide +kernel
theorem dX7_runOne_91 : decode cX7_runOne 91 = .ok (.iload 6, 2) := by decide +kernel
theorem dX7_runOne_93 : decode cX7_runOne 93 = .ok (.aload_n 0, 1) := by decide +kernel
theorem dX7_runOne_94 : decode cX7_runOne 94 = .ok (.getfield 34, 3) := by decide +kernel
theorem dX7_runOne_97 : decode cX7_runOne 97 = .ok (.invokevirtual 224, 3) := by decide +kernel
theorem dX7_runOne_100 : decode cX7_runOne 100 = .ok (.return_, 1) := by decide +kernel
theorem dX7_enter_0 : decode cX7_enter 0 = .ok (.aload_n 0, 1) := by decide +kernel
theorem dX7_enter_1 : decode cX7_enter 1 = .ok (.iload_n 2, 1) := by decide +kernel
theorem dX7_enter_2 : decode cX7_enter 2 = .ok (.invokevirtual 157, 3) := by decide +kernel
theorem dX7_enter_5 : decode cX7_enter 5 = .ok (.istore_n 3, 1) := by decide +kernel
theorem dX7_enter_6 : decode cX7_enter 6 = .ok (.aload_n 0, 1) := by decide +kernel
theorem dX7_enter_7 : decode cX7_enter 7 = .ok (.getfield 51, 3) := by decide +kernel
theorem dX7_enter_10 : decode cX7_enter 10 = .ok (.aload_n 0, 1) := by decide +kernel
theorem dX7_enter_11 : decode cX7_enter 11 = .ok (.getfield 20, 3) := by decide +kernel
theorem dX7_enter_14 : decode cX7_enter 14 = .ok (.iconst 0, 1) := by decide +kernel
theorem dX7_enter_15 : decode cX7_enter 15 = .ok (.iaload, 1) := by decide +kernel
theorem dX7_enter_16 : decode cX7_enter 16 = .ok (.invokevirtual 292, 3) := by decide +kernel
theorem dX7_enter_19 : decode cX7_enter 19 = .ok (.iconst 0, 1) := by decide +kernel
theorem dX7_enter_20 : decode cX7_enter 20 = .ok (.istore 4, 2) := by decide +kernel
theorem dX7_enter_22 : decode cX7_enter 22 = .ok (.iload 4, 2) := by decide +kernel
theorem dX7_enter_24 : decode cX7_enter 24 = .ok (.aload_n 0, 1) := by decide +kernel
theorem dX7_enter_25 : decode cX7_enter 25 = .ok (.getfield 10, 3) := by decide +kernel
theorem dX7_enter_28 : decode cX7_enter 28 = .ok (.getfield 82, 3) := by decide +kernel
theorem dX7_enter_31 : decode cX7_enter 31 = .ok (.if_icmp .ge 51, 3) := by decide +kernel
theorem dX7_enter_34 : decode cX7_enter 34 = .ok (.iload_n 2, 1) := by decide +kernel
theorem dX7_enter_35 : decode cX7_enter 35 = .ok (.iload 4, 2) := by decide +kernel
theorem dX7_enter_37 : decode cX7_enter 37 = .ok (.invokestatic 161, 3) := by decide +kernel
theorem dX7_enter_40 : decode cX7_enter 40 = .ok (.ifCond .eq 36, 3) := by decide +kernel
theorem dX7_enter_43 : decode cX7_enter 43 = .ok (.aload_n 0, 1) := by decide +kernel
theorem dX7_enter_44 : decode cX7_enter 44 = .ok (.getfield 10, 3) := by decide +kernel
theorem dX7_enter_47 : decode cX7_enter 47 = .ok (.getfield 86, 3) := by decide +kernel
theorem dX7_enter_50 : decode cX7_enter 50 = .ok (.iload 4, 2) := by decide +kernel
theorem dX7_enter_52 : decode cX7_enter 52 = .ok (.aaload, 1) := by decide +kernel
theorem dX7_enter_53 : decode cX7_enter 53 = .ok (.astore 5, 2) := by decide +kernel
theorem dX7_enter_55 : decode cX7_enter 55 = .ok (.aload_n 0, 1) := by decide +kernel
theorem dX7_enter_56 : decode cX7_enter 56 = .ok (.getfield 51, 3) := by decide +kernel
theorem dX7_enter_59 : decode cX7_enter 59 = .ok (.aload_n 0, 1) := by decide +kernel
theorem dX7_enter_60 : decode cX7_enter 60 = .ok (.aload 5, 2) := by decide +kernel
theorem dX7_enter_62 : decode cX7_enter 62 = .ok (.iload_n 1, 1) := by decide +kernel
theorem dX7_enter_63 : decode cX7_enter 63 = .ok (.invokevirtual 288, 3) := by decide +kernel
theorem dX7_enter_66 : decode cX7_enter 66 = .ok (.aload 5, 2) := by decide +kernel
theorem dX7_enter_68 : decode cX7_enter 68 = .ok (.getfield 112, 3) := by decide +kernel
theorem dX7_enter_71 : decode cX7_enter 71 = .ok (.iload_n 3, 1) := by decide +kernel
theorem dX7_enter_72 : decode cX7_enter 72 = .ok (.isub, 1) := by decide +kernel
theorem dX7_enter_73 : decode cX7_enter 73 = .ok (.invokevirtual 293, 3) := by decide +kernel
theorem dX7_enter_76 : decode cX7_enter 76 = .ok (.iinc 4 1, 3) := by decide +kernel
theorem dX7_enter_79 : decode cX7_enter 79 = .ok (.goto (-57), 3) := by decide +kernel
theorem dX7_enter_82 : decode cX7_enter 82 = .ok (.return_, 1) := by decide +kernel
theorem dX7_placeIn_0 : decode cX7_placeIn 0 = .ok (.iload_n 0, 1) := by decide +kernel
theorem dX7_placeIn_1 : decode cX7_placeIn 1 = .ok (.iconst 1, 1) := by decide +kernel
theorem dX7_placeIn_2 : decode cX7_placeIn 2 = .ok (.iload_n 1, 1) := by decide +kernel
theorem dX7_placeIn_3 : decode cX7_placeIn 3 = .ok (.ishl, 1) := by decide +kernel
theorem dX7_placeIn_4 : decode cX7_placeIn 4 = .ok (.iconst 1, 1) := by decide +kernel
theorem dX7_placeIn_5 : decode cX7_placeIn 5 = .ok (.isub, 1) := by decide +kernel
theorem dX7_placeIn_6 : decode cX7_placeIn 6 = .ok (.iand, 1) := by decide +kernel
theorem dX7_placeIn_7 : decode cX7_placeIn 7 = .ok (.invokestatic 200, 3) := by decide +kernel
theorem dX7_placeIn_10 : decode cX7_placeIn 10 = .ok (.ireturn, 1) := by decide +kernel
theorem dX7_rowsTooGood_0 : decode cX7_rowsTooGood 0 = .ok (.iconst 0, 1) := by decide +kernel
theorem dX7_rowsTooGood_1 : decode cX7_rowsTooGood 1 = .ok (.istore_n 3, 1) := by decide +kernel
theorem dX7_rowsTooGood_2 : decode cX7_rowsTooGood 2 = .ok (.iconst 0, 1) := by decide +kernel
theorem dX7_rowsTooGood_3 : decode cX7_rowsTooGood 3 = .ok (.istore 4, 2) := by decide +kernel
theorem dX7_rowsTooGood_5 : decode cX7_rowsTooGood 5 = .ok (.iload 4, 2) := by decide +kernel
theorem dX7_rowsTooGood_7 : decode cX7_rowsTooGood 7 = .ok (.iload_n 2, 1) := by decide +kernel
theorem dX7_rowsTooGood_8 : decode cX7_rowsTooGood 8 = .ok (.if_icmp .gt 42, 3) := by decide +kernel
theorem dX7_rowsTooGood_11 : decode cX7_rowsTooGood 11 = .ok (.iload_n 3, 1) := by decide +kernel
theorem dX7_rowsTooGood_12 : decode cX7_rowsTooGood 12 = .ok (.iload_n 0, 1) := by decide +kernel
theorem dX7_rowsTooGood_13 : decode cX7_rowsTooGood 13 = .ok (.iload 4, 2) := by decide +kernel
theorem dX7_rowsTooGood_15 : decode cX7_rowsTooGood 15 = .ok (.iload_n 2, 1) := by decide +kernel
theorem dX7_rowsTooGood_16 : decode cX7_rowsTooGood 16 = .ok (.invokestatic 296, 3) := by decide +kernel
theorem dX7_rowsTooGood_19 : decode cX7_rowsTooGood 19 = .ok (.iadd, 1) := by decide +kernel
theorem dX7_rowsTooGood_20 : decode cX7_rowsTooGood 20 = .ok (.istore_n 3, 1) := by decide +kernel
theorem dX7_rowsTooGood_21 : decode cX7_rowsTooGood 21 = .ok (.iload_n 1, 1) := by decide +kernel
theorem dX7_rowsTooGood_22 : decode cX7_rowsTooGood 22 = .ok (.ifCond .le 22, 3) := by decide +kernel
theorem dX7_rowsTooGood_25 : decode cX7_rowsTooGood 25 = .ok (.iload_n 3, 1) := by decide +kernel
theorem dX7_rowsTooGood_26 : decode cX7_rowsTooGood 26 = .ok (.iload_n 0, 1) := by decide +kernel
theorem dX7_rowsTooGood_27 : decode cX7_rowsTooGood 27 = .ok (.iload 4, 2) := by decide +kernel
theorem dX7_rowsTooGood_29 : decode cX7_rowsTooGood 29 = .ok (.iload_n 2, 1) := by decide +kernel
theorem dX7_rowsTooGood_30 : decode cX7_rowsTooGood 30 = .ok (.iload 4, 2) := by decide +kernel
theorem dX7_rowsTooGood_32 : decode cX7_rowsTooGood 32 = .ok (.iload_n 1, 1) := by decide +kernel
theorem dX7_rowsTooGood_33 : decode cX7_rowsTooGood 33 = .ok (.iadd, 1) := by decide +kernel
theorem dX7_rowsTooGood_34 : decode cX7_rowsTooGood 34 = .ok (.iconst 1, 1) := by decide +kernel
theorem dX7_rowsTooGood_35 : decode cX7_rowsTooGood 35 = .ok (.isub, 1) := by decide +kernel
theorem dX7_rowsTooGood_36 : decode cX7_rowsTooGood 36 = .ok (.invokestatic 276, 3) := by decide +kernel
theorem dX7_rowsTooGood_39 : decode cX7_rowsTooGood 39 = .ok (.invokestatic 296, 3) := by decide +kernel
theorem dX7_rowsTooGood_42 : decode cX7_rowsTooGood 42 = .ok (.isub, 1) := by decide +kernel
theorem dX7_rowsTooGood_43 : decode cX7_rowsTooGood 43 = .ok (.istore_n 3, 1) := by decide +kernel
theorem dX7_rowsTooGood_44 : decode cX7_rowsTooGood 44 = .ok (.iinc 4 1, 3) := by decide +kernel
theorem dX7_rowsTooGood_47 : decode cX7_rowsTooGood 47 = .ok (.goto (-42), 3) := by decide +kernel
theorem dX7_rowsTooGood_50 : decode cX7_rowsTooGood 50 = .ok (.iload_n 3, 1) := by decide +kernel
theorem dX7_rowsTooGood_51 : decode cX7_rowsTooGood 51 = .ok (.ireturn, 1) := by decide +kernel
theorem dX7_rowsWithMiddle_0 : decode cX7_rowsWithMiddle 0 = .ok (.iload_n 0, 1) := by decide +kernel
theorem dX7_rowsWithMiddle_1 : decode cX7_rowsWithMiddle 1 = .ok (.iload_n 1, 1) := by decide +kernel
theorem dX7_rowsWithMiddle_2 : decode cX7_rowsWithMiddle 2 = .ok (.iload_n 2, 1) := by decide +kernel
theorem dX7_rowsWithMiddle_3 : decode cX7_rowsWithMiddle 3 = .ok (.invokestatic 299, 3) := by decide +kernel
theorem dX7_rowsWithMiddle_6 : decode cX7_rowsWithMiddle 6 = .ok (.iload_n 0, 1) := by decide +kernel
theorem dX7_rowsWithMiddle_7 : decode cX7_rowsWithMiddle 7 = .ok (.iload_n 1, 1) := by decide +kernel
theorem dX7_rowsWithMiddle_8 : decode cX7_rowsWithMiddle 8 = .ok (.iconst 1, 1) := by decide +kernel
theorem dX7_rowsWithMiddle_9 : decode cX7_rowsWithMiddle 9 = .ok (.isub, 1) := by decide +kernel
theorem dX7_rowsWithMiddle_10 : decode cX7_rowsWithMiddle 10 = .ok (.iload_n 2, 1) := by decide +kernel
theorem dX7_rowsWithMiddle_11 : decode cX7_rowsWithMiddle 11 = .ok (.invokestatic 299, 3) := by decide +kernel
theorem dX7_rowsWithMiddle_14 : decode cX7_rowsWithMiddle 14 = .ok (.isub, 1) := by decide +kernel
theorem dX7_rowsWithMiddle_15 : decode cX7_rowsWithMiddle 15 = .ok (.ireturn, 1) := by decide +kernel
theorem dX7_rowsMiddleUpTo_0 : decode cX7_rowsMiddleUpTo 0 = .ok (.iload_n 0, 1) := by decide +kernel
theorem dX7_rowsMiddleUpTo_1 : decode cX7_rowsMiddleUpTo 1 = .ok (.iconst 1, 1) := by decide +kernel
theorem dX7_rowsMiddleUpTo_2 : decode cX7_rowsMiddleUpTo 2 = .ok (.iadd, 1) := by decide +kernel
theorem dX7_rowsMiddleUpTo_3 : decode cX7_rowsMiddleUpTo 3 = .ok (.iconst 2, 1) := by decide +kernel
theorem dX7_rowsMiddleUpTo_4 : decode cX7_rowsMiddleUpTo 4 = .ok (.idiv, 1) := by decide +kernel
theorem dX7_rowsMiddleUpTo_5 : decode cX7_rowsMiddleUpTo 5 = .ok (.istore_n 3, 1) := by decide +kernel
theorem dX7_rowsMiddleUpTo_6 : decode cX7_rowsMiddleUpTo 6 = .ok (.iconst 1, 1) := by decide +kernel
theorem dX7_rowsMiddleUpTo_7 : decode cX7_rowsMiddleUpTo 7 = .ok (.istore 4, 2) := by decide +kernel
theorem dX7_rowsMiddleUpTo_9 : decode cX7_rowsMiddleUpTo 9 = .ok (.iconst 0, 1) := by decide +kernel
theorem dX7_rowsMiddleUpTo_10 : decode cX7_rowsMiddleUpTo 10 = .ok (.istore 5, 2) := by decide +kernel
theorem dX7_rowsMiddleUpTo_12 : decode cX7_rowsMiddleUpTo 12 = .ok (.iconst 0, 1) := by decide +kernel
theorem dX7_rowsMiddleUpTo_13 : decode cX7_rowsMiddleUpTo 13 = .ok (.istore 6, 2) := by decide +kernel
theorem dX7_rowsMiddleUpTo_15 : decode cX7_rowsMiddleUpTo 15 = .ok (.iload 6, 2) := by decide +kernel
theorem dX7_rowsMiddleUpTo_17 : decode cX7_rowsMiddleUpTo 17 = .ok (.iload_n 0, 1) := by decide +kernel
theorem dX7_rowsMiddleUpTo_18 : decode cX7_rowsMiddleUpTo 18 = .ok (.if_icmp .gt 56, 3) := by decide +kernel
theorem dX7_rowsMiddleUpTo_21 : decode cX7_rowsMiddleUpTo 21 = .ok (.iload 6, 2) := by decide +kernel
theorem dX7_rowsMiddleUpTo_23 : decode cX7_rowsMiddleUpTo 23 = .ok (.iload_n 3, 1) := by decide +kernel
theorem dX7_rowsMiddleUpTo_24 : decode cX7_rowsMiddleUpTo 24 = .ok (.if_icmp .lt 30, 3) := by decide +kernel
theorem dX7_rowsMiddleUpTo_27 : decode cX7_rowsMiddleUpTo 27 = .ok (.iload 5, 2) := by decide +kernel
theorem dX7_rowsMiddleUpTo_29 : decode cX7_rowsMiddleUpTo 29 = .ok (.iload 4, 2) := by decide +kernel
theorem dX7_rowsMiddleUpTo_31 : decode cX7_rowsMiddleUpTo 31 = .ok (.iload_n 1, 1) := by decide +kernel
theorem dX7_rowsMiddleUpTo_32 : decode cX7_rowsMiddleUpTo 32 = .ok (.iconst 1, 1) := by decide +kernel
theorem dX7_rowsMiddleUpTo_33 : decode cX7_rowsMiddleUpTo 33 = .ok (.iadd, 1) := by decide +kernel
theorem dX7_rowsMiddleUpTo_34 : decode cX7_rowsMiddleUpTo 34 = .ok (.iload 6, 2) := by decide +kernel
theorem dX7_rowsMiddleUpTo_36 : decode cX7_rowsMiddleUpTo 36 = .ok (.invokestatic 217, 3) := by decide +kernel
theorem dX7_rowsMiddleUpTo_39 : decode cX7_rowsMiddleUpTo 39 = .ok (.imul, 1) := by decide +kernel
theorem dX7_rowsMiddleUpTo_40 : decode cX7_rowsMiddleUpTo 40 = .ok (.iload_n 2, 1) := by decide +kernel
theorem dX7_rowsMiddleUpTo_41 : decode cX7_rowsMiddleUpTo 41 = .ok (.iload_n 1, 1) := by decide +kernel
theorem dX7_rowsMiddleUpTo_42 : decode cX7_rowsMiddleUpTo 42 = .ok (.isub, 1) := by decide +kernel
theorem dX7_rowsMiddleUpTo_43 : decode cX7_rowsMiddleUpTo 43 = .ok (.iload_n 0, 1) := by decide +kernel
theorem dX7_rowsMiddleUpTo_44 : decode cX7_rowsMiddleUpTo 44 = .ok (.iload 6, 2) := by decide +kernel
theorem dX7_rowsMiddleUpTo_46 : decode cX7_rowsMiddleUpTo 46 = .ok (.isub, 1) := by decide +kernel
theorem dX7_rowsMiddleUpTo_47 : decode cX7_rowsMiddleUpTo 47 = .ok (.invokestatic 217, 3) := by decide +kernel
theorem dX7_rowsMiddleUpTo_50 : decode cX7_rowsMiddleUpTo 50 = .ok (.imul, 1) := by decide +kernel
theorem dX7_rowsMiddleUpTo_51 : decode cX7_rowsMiddleUpTo 51 = .ok (.iadd, 1) := by decide +kernel
theorem dX7_rowsMiddleUpTo_52 : decode cX7_rowsMiddleUpTo 52 = .ok (.istore 5, 2) := by decide +kernel
theorem dX7_rowsMiddleUpTo_54 : decode cX7_rowsMiddleUpTo 54 = .ok (.iload 4, 2) := by decide +kernel
theorem dX7_rowsMiddleUpTo_56 : decode cX7_rowsMiddleUpTo 56 = .ok (.iload_n 0, 1) := by decide +kernel
theorem dX7_rowsMiddleUpTo_57 : decode cX7_rowsMiddleUpTo 57 = .ok (.iload 6, 2) := by decide +kernel
theorem dX7_rowsMiddleUpTo_59 : decode cX7_rowsMiddleUpTo 59 = .ok (.isub, 1) := by decide +kernel
theorem dX7_rowsMiddleUpTo_60 : decode cX7_rowsMiddleUpTo 60 = .ok (.imul, 1) := by decide +kernel
theorem dX7_rowsMiddleUpTo_61 : decode cX7_rowsMiddleUpTo 61 = .ok (.iload 6, 2) := by decide +kernel
theorem dX7_rowsMiddleUpTo_63 : decode cX7_rowsMiddleUpTo 63 = .ok (.iconst 1, 1) := by decide +kernel
theorem dX7_rowsMiddleUpTo_64 : decode cX7_rowsMiddleUpTo 64 = .ok (.iadd, 1) := by decide +kernel
theorem dX7_rowsMiddleUpTo_65 : decode cX7_rowsMiddleUpTo 65 = .ok (.idiv, 1) := by decide +kernel
theorem dX7_rowsMiddleUpTo_66 : decode cX7_rowsMiddleUpTo 66 = .ok (.istore 4, 2) := by decide +kernel
theorem dX7_rowsMiddleUpTo_68 : decode cX7_rowsMiddleUpTo 68 = .ok (.iinc 6 1, 3) := by decide +kernel
theorem dX7_rowsMiddleUpTo_71 : decode cX7_rowsMiddleUpTo 71 = .ok (.goto (-56), 3) := by decide +kernel
theorem dX7_rowsMiddleUpTo_74 : decode cX7_rowsMiddleUpTo 74 = .ok (.iload 5, 2) := by decide +kernel
theorem dX7_rowsMiddleUpTo_76 : decode cX7_rowsMiddleUpTo 76 = .ok (.ireturn, 1) := by decide +kernel
theorem dX7_power_0 : decode cX7_power 0 = .ok (.iconst 1, 1) := by decide +kernel
theorem dX7_power_1 : decode cX7_power 1 = .ok (.istore_n 2, 1) := by decide +kernel
theorem dX7_power_2 : decode cX7_power 2 = .ok (.iconst 0, 1) := by decide +kernel
theorem dX7_power_3 : decode cX7_power 3 = .ok (.istore_n 3, 1) := by decide +kernel
theorem dX7_power_4 : decode cX7_power 4 = .ok (.iload_n 3, 1) := by decide +kernel
theorem dX7_power_5 : decode cX7_power 5 = .ok (.iload_n 1, 1) := by decide +kernel
theorem dX7_power_6 : decode cX7_power 6 = .ok (.if_icmp .ge 13, 3) := by decide +kernel
theorem dX7_power_9 : decode cX7_power 9 = .ok (.iload_n 2, 1) := by decide +kernel
theorem dX7_power_10 : decode cX7_power 10 = .ok (.iload_n 0, 1) := by decide +kernel
theorem dX7_power_11 : decode cX7_power 11 = .ok (.imul, 1) := by decide +kernel
theorem dX7_power_12 : decode cX7_power 12 = .ok (.istore_n 2, 1) := by decide +kernel
theorem dX7_power_13 : decode cX7_power 13 = .ok (.iinc 3 1, 3) := by decide +kernel
theorem dX7_power_16 : decode cX7_power 16 = .ok (.goto (-12), 3) := by decide +kernel
theorem dX7_power_19 : decode cX7_power 19 = .ok (.iload_n 2, 1) := by decide +kernel
theorem dX7_power_20 : decode cX7_power 20 = .ok (.ireturn, 1) := by decide +kernel
theorem dX7_readAs_0 : decode cX7_readAs 0 = .ok (.aload_n 0, 1) := by decide +kernel
theorem dX7_readAs_1 : decode cX7_readAs 1 = .ok (.dup, 1) := by decide +kernel
theorem dX7_readAs_2 : decode cX7_readAs 2 = .ok (.getfield 273, 3) := by decide +kernel
theorem dX7_readAs_5 : decode cX7_readAs 5 = .ok (.getstatic 302, 3) := by decide +kernel
theorem dX7_readAs_8 : decode cX7_readAs 8 = .ok (.iload_n 1, 1) := by decide +kernel
theorem dX7_readAs_9 : decode cX7_readAs 9 = .ok (.iaload, 1) := by decide +kernel
theorem dX7_readAs_10 : decode cX7_readAs 10 = .ok (.i2l, 1) := by decide +kernel
theorem dX7_readAs_11 : decode cX7_readAs 11 = .ok (.ladd, 1) := by decide +kernel
theorem dX7_readAs_12 : decode cX7_readAs 12 = .ok (.putfield 273, 3) := by decide +kernel
theorem dX7_readAs_15 : decode cX7_readAs 15 = .ok (.iload_n 1, 1) := by decide +kernel
theorem dX7_readAs_16 : decode cX7_readAs 16 = .ok (.ifCond .ne 8, 3) := by decide +kernel
theorem dX7_readAs_19 : decode cX7_readAs 19 = .ok (.aload_n 2, 1) := by decide +kernel
theorem dX7_readAs_20 : decode cX7_readAs 20 = .ok (.getfield 112, 3) := by decide +kernel
theorem dX7_readAs_23 : decode cX7_readAs 23 = .ok (.ireturn, 1) := by decide +kernel
theorem dX7_readAs_24 : decode cX7_readAs 24 = .ok (.aload_n 0, 1) := by decide +kernel
theorem dX7_readAs_25 : decode cX7_readAs 25 = .ok (.getstatic 305, 3) := by decide +kernel
theorem dX7_readAs_28 : decode cX7_readAs 28 = .ok (.iload_n 1, 1) := by decide +kernel
theorem dX7_readAs_29 : decode cX7_readAs 29 = .ok (.iaload, 1) := by decide +kernel
theorem dX7_readAs_30 : decode cX7_readAs 30 = .ok (.aload_n 2, 1) := by decide +kernel
theorem dX7_readAs_31 : decode cX7_readAs 31 = .ok (.invokevirtual 263, 3) := by decide +kernel
theorem dX7_readAs_34 : decode cX7_readAs 34 = .ok (.istore_n 3, 1) := by decide +kernel
theorem dX7_readAs_35 : decode cX7_readAs 35 = .ok (.iload_n 1, 1) := by decide +kernel
theorem dX7_readAs_36 : decode cX7_readAs 36 = .ok (.tableswitch 83 1 5 #[36, 45, 54, 65, 74], 36) := by decide +kernel
theorem dX7_readAs_72 : decode cX7_readAs 72 = .ok (.iload_n 3, 1) := by decide +kernel
theorem dX7_readAs_73 : decode cX7_readAs 73 = .ok (.aload_n 0, 1) := by decide +kernel
theorem dX7_readAs_74 : decode cX7_readAs 74 = .ok (.getfield 20, 3) := by decide +kernel
theorem dX7_readAs_77 : decode cX7_readAs 77 = .ok (.iconst 0, 1) := by decide +kernel
theorem dX7_readAs_78 : decode cX7_readAs 78 = .ok (.iaload, 1) := by decide +kernel
theorem dX7_readAs_79 : decode cX7_readAs 79 = .ok (.iadd, 1) := by decide +kernel
theorem dX7_readAs_80 : decode cX7_readAs 80 = .ok (.ireturn, 1) := by decide +kernel
theorem dX7_readAs_81 : decode cX7_readAs 81 = .ok (.iload_n 3, 1) := by decide +kernel
theorem dX7_readAs_82 : decode cX7_readAs 82 = .ok (.aload_n 0, 1) := by decide +kernel
theorem dX7_readAs_83 : decode cX7_readAs 83 = .ok (.getfield 20, 3) := by decide +kernel
theorem dX7_readAs_86 : decode cX7_readAs 86 = .ok (.iconst 1, 1) := by decide +kernel
theorem dX7_readAs_87 : decode cX7_readAs 87 = .ok (.iaload, 1) := by decide +kernel
theorem dX7_readAs_88 : decode cX7_readAs 88 = .ok (.iadd, 1) := by decide +kernel
theorem dX7_readAs_89 : decode cX7_readAs 89 = .ok (.ireturn, 1) := by decide +kernel
theorem dX7_readAs_90 : decode cX7_readAs 90 = .ok (.iconst 2, 1) := by decide +kernel
theorem dX7_readAs_91 : decode cX7_readAs 91 = .ok (.iload_n 3, 1) := by decide +kernel
theorem dX7_readAs_92 : decode cX7_readAs 92 = .ok (.imul, 1) := by decide +kernel
theorem dX7_readAs_93 : decode cX7_readAs 93 = .ok (.aload_n 0, 1) := by decide +kernel
theorem dX7_readAs_94 : decode cX7_readAs 94 = .ok (.getfield 20, 3) := by decide +kernel
theorem dX7_readAs_97 : decode cX7_readAs 97 = .ok (.iconst 2, 1) := by decide +kernel
theorem dX7_readAs_98 : decode cX7_readAs 98 = .ok (.iaload, 1) := by decide +kernel
theorem dX7_readAs_99 : decode cX7_readAs 99 = .ok (.isub, 1) := by decide +kernel
theorem dX7_readAs_100 : decode cX7_readAs 100 = .ok (.ireturn, 1) := by decide +kernel
theorem dX7_readAs_101 : decode cX7_readAs 101 = .ok (.iload_n 3, 1) := by decide +kernel
theorem dX7_readAs_102 : decode cX7_readAs 102 = .ok (.aload_n 2, 1) := by decide +kernel
theorem dX7_readAs_103 : decode cX7_readAs 103 = .ok (.getfield 281, 3) := by decide +kernel
theorem dX7_readAs_106 : decode cX7_readAs 106 = .ok (.iconst 0, 1) := by decide +kernel
theorem dX7_readAs_107 : decode cX7_readAs 107 = .ok (.iaload, 1) := by decide +kernel
theorem dX7_readAs_108 : decode cX7_readAs 108 = .ok (.iadd, 1) := by decide +kernel
theorem dX7_readAs_109 : decode cX7_readAs 109 = .ok (.ireturn, 1) := by decide +kernel
theorem dX7_readAs_110 : decode cX7_readAs 110 = .ok (.iload_n 3, 1) := by decide +kernel
theorem dX7_readAs_111 : decode cX7_readAs 111 = .ok (.iconst 5, 1) := by decide +kernel
theorem dX7_readAs_112 : decode cX7_readAs 112 = .ok (.aload_n 2, 1) := by decide +kernel
theorem dX7_readAs_113 : decode cX7_readAs 113 = .ok (.getfield 118, 3) := by decide +kernel
theorem dX7_readAs_116 : decode cX7_readAs 116 = .ok (.imul, 1) := by decide +kernel
theorem dX7_readAs_117 : decode cX7_readAs 117 = .ok (.iadd, 1) := by decide +kernel
theorem dX7_readAs_118 : decode cX7_readAs 118 = .ok (.ireturn, 1) := by decide +kernel
theorem dX7_readAs_119 : decode cX7_readAs 119 = .ok (.iload_n 3, 1) := by decide +kernel
theorem dX7_readAs_120 : decode cX7_readAs 120 = .ok (.iconst 2, 1) := by decide +kernel
theorem dX7_readAs_121 : decode cX7_readAs 121 = .ok (.idiv, 1) := by decide +kernel
theorem dX7_readAs_122 : decode cX7_readAs 122 = .ok (.ireturn, 1) := by decide +kernel
theorem dJ6_bitCount_0f7a4_0 : decode cJ6_bitCount_0f7a4 0 = .ok (.iload_n 0, 1) := by decide +kernel
theorem dJ6_bitCount_0f7a4_1 : decode cJ6_bitCount_0f7a4 1 = .ok (.iload_n 0, 1) := by decide +kernel
theorem dJ6_bitCount_0f7a4_2 : decode cJ6_bitCount_0f7a4 2 = .ok (.iconst 1, 1) := by decide +kernel
theorem dJ6_bitCount_0f7a4_3 : decode cJ6_bitCount_0f7a4 3 = .ok (.iushr, 1) := by decide +kernel
theorem dJ6_bitCount_0f7a4_4 : decode cJ6_bitCount_0f7a4 4 = .ok (.ldc_w 265, 3) := by decide +kernel
theorem dJ6_bitCount_0f7a4_7 : decode cJ6_bitCount_0f7a4 7 = .ok (.iand, 1) := by decide +kernel
theorem dJ6_bitCount_0f7a4_8 : decode cJ6_bitCount_0f7a4 8 = .ok (.isub, 1) := by decide +kernel
theorem dJ6_bitCount_0f7a4_9 : decode cJ6_bitCount_0f7a4 9 = .ok (.istore_n 0, 1) := by decide +kernel
theorem dJ6_bitCount_0f7a4_10 : decode cJ6_bitCount_0f7a4 10 = .ok (.iload_n 0, 1) := by decide +kernel
theorem dJ6_bitCount_0f7a4_11 : decode cJ6_bitCount_0f7a4 11 = .ok (.ldc_w 266, 3) := by decide +kernel
theorem dJ6_bitCount_0f7a4_14 : decode cJ6_bitCount_0f7a4 14 = .ok (.iand, 1) := by decide +kernel
theorem dJ6_bitCount_0f7a4_15 : decode cJ6_bitCount_0f7a4 15 = .ok (.iload_n 0, 1) := by decide +kernel
theorem dJ6_bitCount_0f7a4_16 : decode cJ6_bitCount_0f7a4 16 = .ok (.iconst 2, 1) := by decide +kernel
theorem dJ6_bitCount_0f7a4_17 : decode cJ6_bitCount_0f7a4 17 = .ok (.iushr, 1) := by decide +kernel
theorem dJ6_bitCount_0f7a4_18 : decode cJ6_bitCount_0f7a4 18 = .ok (.ldc_w 266, 3) := by decide +kernel
theorem dJ6_bitCount_0f7a4_21 : decode cJ6_bitCount_0f7a4 21 = .ok (.iand, 1) := by decide +kernel
theorem dJ6_bitCount_0f7a4_22 : decode cJ6_bitCount_0f7a4 22 = .ok (.iadd, 1) := by decide +kernel
theorem dJ6_bitCount_0f7a4_23 : decode cJ6_bitCount_0f7a4 23 = .ok (.istore_n 0, 1) := by decide +kernel
theorem dJ6_bitCount_0f7a4_24 : decode cJ6_bitCount_0f7a4 24 = .ok (.iload_n 0, 1) := by decide +kernel
theorem dJ6_bitCount_0f7a4_25 : decode cJ6_bitCount_0f7a4 25 = .ok (.iload_n 0, 1) := by decide +kernel
theorem dJ6_bitCount_0f7a4_26 : decode cJ6_bitCount_0f7a4 26 = .ok (.iconst 4, 1) := by decide +kernel
theorem dJ6_bitCount_0f7a4_27 : decode cJ6_bitCount_0f7a4 27 = .ok (.iushr, 1) := by decide +kernel
theorem dJ6_bitCount_0f7a4_28 : decode cJ6_bitCount_0f7a4 28 = .ok (.iadd, 1) := by decide +kernel
theorem dJ6_bitCount_0f7a4_29 : decode cJ6_bitCount_0f7a4 29 = .ok (.ldc_w 267, 3) := by decide +kernel
theorem dJ6_bitCount_0f7a4_32 : decode cJ6_bitCount_0f7a4 32 = .ok (.iand, 1) := by decide +kernel
theorem dJ6_bitCount_0f7a4_33 : decode cJ6_bitCount_0f7a4 33 = .ok (.istore_n 0, 1) := by decide +kernel
theorem dJ6_bitCount_0f7a4_34 : decode cJ6_bitCount_0f7a4 34 = .ok (.iload_n 0, 1) := by decide +kernel
theorem dJ6_bitCount_0f7a4_35 : decode cJ6_bitCount_0f7a4 35 = .ok (.iload_n 0, 1) := by decide +kernel
theorem dJ6_bitCount_0f7a4_36 : decode cJ6_bitCount_0f7a4 36 = .ok (.bipush 8, 2) := by decide +kernel
theorem dJ6_bitCount_0f7a4_38 : decode cJ6_bitCount_0f7a4 38 = .ok (.iushr, 1) := by decide +kernel
theorem dJ6_bitCount_0f7a4_39 : decode cJ6_bitCount_0f7a4 39 = .ok (.iadd, 1) := by decide +kernel
theorem dJ6_bitCount_0f7a4_40 : decode cJ6_bitCount_0f7a4 40 = .ok (.istore_n 0, 1) := by decide +kernel
theorem dJ6_bitCount_0f7a4_41 : decode cJ6_bitCount_0f7a4 41 = .ok (.iload_n 0, 1) := by decide +kernel
theorem dJ6_bitCount_0f7a4_42 : decode cJ6_bitCount_0f7a4 42 = .ok (.iload_n 0, 1) := by decide +kernel
theorem dJ6_bitCount_0f7a4_43 : decode cJ6_bitCount_0f7a4 43 = .ok (.bipush 16, 2) := by decide +kernel
theorem dJ6_bitCount_0f7a4_45 : decode cJ6_bitCount_0f7a4 45 = .ok (.iushr, 1) := by decide +kernel
theorem dJ6_bitCount_0f7a4_46 : decode cJ6_bitCount_0f7a4 46 = .ok (.iadd, 1) := by decide +kernel
theorem dJ6_bitCount_0f7a4_47 : decode cJ6_bitCount_0f7a4 47 = .ok (.istore_n 0, 1) := by decide +kernel
theorem dJ6_bitCount_0f7a4_48 : decode cJ6_bitCount_0f7a4 48 = .ok (.iload_n 0, 1) := by decide +kernel
theorem dJ6_bitCount_0f7a4_49 : decode cJ6_bitCount_0f7a4 49 = .ok (.bipush 63, 2) := by decide +kernel
theorem dJ6_bitCount_0f7a4_51 : decode cJ6_bitCount_0f7a4 51 = .ok (.iand, 1) := by decide +kernel
theorem dJ6_bitCount_0f7a4_52 : decode cJ6_bitCount_0f7a4 52 = .ok (.ireturn, 1) := by decide +kernel
theorem dJ9_floorDiv_7cf53_0 : decode cJ9_floorDiv_7cf53 0 = .ok (.iload_n 0, 1) := by decide +kernel
theorem dJ9_floorDiv_7cf53_1 : decode cJ9_floorDiv_7cf53 1 = .ok (.iload_n 1, 1) := by decide +kernel
theorem dJ9_floorDiv_7cf53_2 : decode cJ9_floorDiv_7cf53 2 = .ok (.idiv, 1) := by decide +kernel
theorem dJ9_floorDiv_7cf53_3 : decode cJ9_floorDiv_7cf53 3 = .ok (.istore_n 2, 1) := by decide +kernel
theorem dJ9_floorDiv_7cf53_4 : decode cJ9_floorDiv_7cf53 4 = .ok (.iload_n 0, 1) := by decide +kernel
theorem dJ9_floorDiv_7cf53_5 : decode cJ9_floorDiv_7cf53 5 = .ok (.iload_n 1, 1) := by decide +kernel
theorem dJ9_floorDiv_7cf53_6 : decode cJ9_floorDiv_7cf53 6 = .ok (.ixor, 1) := by decide +kernel
theorem dJ9_floorDiv_7cf53_7 : decode cJ9_floorDiv_7cf53 7 = .ok (.ifCond .ge 14, 3) := by decide +kernel
theorem dJ9_floorDiv_7cf53_10 : decode cJ9_floorDiv_7cf53 10 = .ok (.iload_n 2, 1) := by decide +kernel
theorem dJ9_floorDiv_7cf53_11 : decode cJ9_floorDiv_7cf53 11 = .ok (.iload_n 1, 1) := by decide +kernel
theorem dJ9_floorDiv_7cf53_12 : decode cJ9_floorDiv_7cf53 12 = .ok (.imul, 1) := by decide +kernel
theorem dJ9_floorDiv_7cf53_13 : decode cJ9_floorDiv_7cf53 13 = .ok (.iload_n 0, 1) := by decide +kernel
theorem dJ9_floorDiv_7cf53_14 : decode cJ9_floorDiv_7cf53 14 = .ok (.if_icmp .eq 7, 3) := by decide +kernel
theorem dJ9_floorDiv_7cf53_17 : decode cJ9_floorDiv_7cf53 17 = .ok (.iload_n 2, 1) := by decide +kernel
theorem dJ9_floorDiv_7cf53_18 : decode cJ9_floorDiv_7cf53 18 = .ok (.iconst 1, 1) := by decide +kernel
theorem dJ9_floorDiv_7cf53_19 : decode cJ9_floorDiv_7cf53 19 = .ok (.isub, 1) := by decide +kernel
theorem dJ9_floorDiv_7cf53_20 : decode cJ9_floorDiv_7cf53 20 = .ok (.ireturn, 1) := by decide +kernel
theorem dJ9_floorDiv_7cf53_21 : decode cJ9_floorDiv_7cf53 21 = .ok (.iload_n 2, 1) := by decide +kernel
theorem dJ9_floorDiv_7cf53_22 : decode cJ9_floorDiv_7cf53 22 = .ok (.ireturn, 1) := by decide +kernel
theorem dJ9_abs_067f4_0 : decode cJ9_abs_067f4 0 = .ok (.lload_n 0, 1) := by decide +kernel
theorem dJ9_abs_067f4_1 : decode cJ9_abs_067f4 1 = .ok (.lconst 0, 1) := by decide +kernel
theorem dJ9_abs_067f4_2 : decode cJ9_abs_067f4 2 = .ok (.lcmp, 1) := by decide +kernel
theorem dJ9_abs_067f4_3 : decode cJ9_abs_067f4 3 = .ok (.ifCond .ge 8, 3) := by decide +kernel
theorem dJ9_abs_067f4_6 : decode cJ9_abs_067f4 6 = .ok (.lload_n 0, 1) := by decide +kernel
theorem dJ9_abs_067f4_7 : decode cJ9_abs_067f4 7 = .ok (.lneg, 1) := by decide +kernel
theorem dJ9_abs_067f4_8 : decode cJ9_abs_067f4 8 = .ok (.goto 4, 3) := by decide +kernel
theorem dJ9_abs_067f4_11 : decode cJ9_abs_067f4 11 = .ok (.lload_n 0, 1) := by decide +kernel
theorem dJ9_abs_067f4_12 : decode cJ9_abs_067f4 12 = .ok (.lreturn, 1) := by decide +kernel
theorem dJ9_max_7cf53_0 : decode cJ9_max_7cf53 0 = .ok (.iload_n 0, 1) := by decide +kernel
theorem dJ9_max_7cf53_1 : decode cJ9_max_7cf53 1 = .ok (.iload_n 1, 1) := by decide +kernel
theorem dJ9_max_7cf53_2 : decode cJ9_max_7cf53 2 = .ok (.if_icmp .lt 7, 3) := by decide +kernel
theorem dJ9_max_7cf53_5 : decode cJ9_max_7cf53 5 = .ok (.iload_n 0, 1) := by decide +kernel
theorem dJ9_max_7cf53_6 : decode cJ9_max_7cf53 6 = .ok (.goto 4, 3) := by decide +kernel
theorem dJ9_max_7cf53_9 : decode cJ9_max_7cf53 9 = .ok (.iload_n 1, 1) := by decide +kernel
theorem dJ9_max_7cf53_10 : decode cJ9_max_7cf53 10 = .ok (.ireturn, 1) := by decide +kernel
theorem dJ9_min_7cf53_0 : decode cJ9_min_7cf53 0 = .ok (.iload_n 0, 1) := by decide +kernel
theorem dJ9_min_7cf53_1 : decode cJ9_min_7cf53 1 = .ok (.iload_n 1, 1) := by decide +kernel
theorem dJ9_min_7cf53_2 : decode cJ9_min_7cf53 2 = .ok (.if_icmp .gt 7, 3) := by decide +kernel
theorem dJ9_min_7cf53_5 : decode cJ9_min_7cf53 5 = .ok (.iload_n 0, 1) := by decide +kernel
theorem dJ9_min_7cf53_6 : decode cJ9_min_7cf53 6 = .ok (.goto 4, 3) := by decide +kernel
theorem dJ9_min_7cf53_9 : decode cJ9_min_7cf53 9 = .ok (.iload_n 1, 1) := by decide +kernel
theorem dJ9_min_7cf53_10 : decode cJ9_min_7cf53 10 = .ok (.ireturn, 1) := by decide +kernel
end
section
theorem dX8_init_0 : decode cX8_init 0 = .ok (.aload_n 0, 1) := by decide +kernel
theorem dX8_init_1 : decode cX8_init 1 = .ok (.invokespecial 1, 3) := by decide +kernel
theorem dX8_init_4 : decode cX8_init 4 = .ok (.aload_n 0, 1) := by decide +kernel
theorem dX8_init_5 : decode cX8_init 5 = .ok (.sipush 171, 3) := by decide +kernel
theorem dX8_init_8 : decode cX8_init 8 = .ok (.newarray .int, 2) := by decide +kernel
theorem dX8_init_10 : decode cX8_init 10 = .ok (.putfield 7, 3) := by decide +kernel
theorem dX8_init_13 : decode cX8_init 13 = .ok (.aload_n 0, 1) := by decide +kernel
theorem dX8_init_14 : decode cX8_init 14 = .ok (.sipush 342, 3) := by decide +kernel
theorem dX8_init_17 : decode cX8_init 17 = .ok (.newarray .int, 2) := by decide +kernel
theorem dX8_init_19 : decode cX8_init 19 = .ok (.putfield 13, 3) := by decide +kernel
theorem dX8_init_22 : decode cX8_init 22 = .ok (.aload_n 0, 1) := by decide +kernel
theorem dX8_init_23 : decode cX8_init 23 = .ok (.iconst 2, 1) := by decide +kernel
theorem dX8_init_24 : decode cX8_init 24 = .ok (.newarray .boolean, 2) := by decide +kernel
theorem dX8_init_26 : decode cX8_init 26 = .ok (.putfield 16, 3) := by decide +kernel
theorem dX8_init_29 : decode cX8_init 29 = .ok (.aload_n 0, 1) := by decide +kernel
theorem dX8_init_30 : decode cX8_init 30 = .ok (.iconst 3, 1) := by decide +kernel
theorem dX8_init_31 : decode cX8_init 31 = .ok (.newarray .int, 2) := by decide +kernel
theorem dX8_init_33 : decode cX8_init 33 = .ok (.putfield 20, 3) := by decide +kernel
theorem dX8_init_36 : decode cX8_init 36 = .ok (.aload_n 0, 1) := by decide +kernel
theorem dX8_init_37 : decode cX8_init 37 = .ok (.bipush 12, 2) := by decide +kernel
theorem dX8_init_39 : decode cX8_init 39 = .ok (.newarray .int, 2) := by decide +kernel
theorem dX8_init_41 : decode cX8_init 41 = .ok (.putfield 23, 3) := by decide +kernel
theorem dX8_init_44 : decode cX8_init 44 = .ok (.aload_n 0, 1) := by decide +kernel
theorem dX8_init_45 : decode cX8_init 45 = .ok (.sipush 200, 3) := by decide +kernel
theorem dX8_init_48 : decode cX8_init 48 = .ok (.newarray .int, 2) := by decide +kernel
theorem dX8_init_50 : decode cX8_init 50 = .ok (.putfield 26, 3) := by decide +kernel
theorem dX8_init_53 : decode cX8_init 53 = .ok (.aload_n 0, 1) := by decide +kernel
theorem dX8_init_54 : decode cX8_init 54 = .ok (.bipush 24, 2) := by decide +kernel
theorem dX8_init_56 : decode cX8_init 56 = .ok (.newarray .int, 2) := by decide +kernel
theorem dX8_init_58 : decode cX8_init 58 = .ok (.putfield 29, 3) := by decide +kernel
theorem dX8_init_61 : decode cX8_init 61 = .ok (.aload_n 0, 1) := by decide +kernel
theorem dX8_init_62 : decode cX8_init 62 = .ok (.bipush 20, 2) := by decide +kernel
theorem dX8_init_64 : decode cX8_init 64 = .ok (.newarray .int, 2) := by decide +kernel
theorem dX8_init_66 : decode cX8_init 66 = .ok (.putfield 32, 3) := by decide +kernel
theorem dX8_init_69 : decode cX8_init 69 = .ok (.aload_n 0, 1) := by decide +kernel
theorem dX8_init_70 : decode cX8_init 70 = .ok (.bipush 6, 2) := by decide +kernel
theorem dX8_init_72 : decode cX8_init 72 = .ok (.newarray .int, 2) := by decide +kernel
theorem dX8_init_74 : decode cX8_init 74 = .ok (.putfield 35, 3) := by decide +kernel
theorem dX8_init_77 : decode cX8_init 77 = .ok (.aload_n 0, 1) := by decide +kernel
theorem dX8_init_78 : decode cX8_init 78 = .ok (.bipush 12, 2) := by decide +kernel
theorem dX8_init_80 : decode cX8_init 80 = .ok (.newarray .int, 2) := by decide +kernel
theorem dX8_init_82 : decode cX8_init 82 = .ok (.putfield 38, 3) := by decide +kernel
theorem dX8_init_85 : decode cX8_init 85 = .ok (.aload_n 0, 1) := by decide +kernel
theorem dX8_init_86 : decode cX8_init 86 = .ok (.bipush 12, 2) := by decide +kernel
theorem dX8_init_88 : decode cX8_init 88 = .ok (.newarray .int, 2) := by decide +kernel
theorem dX8_init_90 : decode cX8_init 90 = .ok (.putfield 41, 3) := by decide +kernel
theorem dX8_init_93 : decode cX8_init 93 = .ok (.aload_n 0, 1) := by decide +kernel
theorem dX8_init_94 : decode cX8_init 94 = .ok (.bipush 8, 2) := by decide +kernel
theorem dX8_init_96 : decode cX8_init 96 = .ok (.newarray .int, 2) := by decide +kernel
theorem dX8_init_98 : decode cX8_init 98 = .ok (.putfield 44, 3) := by decide +kernel
theorem dX8_init_101 : decode cX8_init 101 = .ok (.aload_n 0, 1) := by decide +kernel
theorem dX8_init_102 : decode cX8_init 102 = .ok (.bipush 8, 2) := by decide +kernel
theorem dX8_init_104 : decode cX8_init 104 = .ok (.newarray .long, 2) := by decide +kernel
theorem dX8_init_106 : decode cX8_init 106 = .ok (.putfield 47, 3) := by decide +kernel
theorem dX8_init_109 : decode cX8_init 109 = .ok (.aload_n 0, 1) := by decide +kernel
theorem dX8_init_110 : decode cX8_init 110 = .ok (.bipush 8, 2) := by decide +kernel
theorem dX8_init_112 : decode cX8_init 112 = .ok (.newarray .int, 2) := by decide +kernel
theorem dX8_init_114 : decode cX8_init 114 = .ok (.putfield 51, 3) := by decide +kernel
theorem dX8_init_117 : decode cX8_init 117 = .ok (.aload_n 0, 1) := by decide +kernel
theorem dX8_init_118 : decode cX8_init 118 = .ok (.getfield 7, 3) := by decide +kernel
theorem dX8_init_121 : decode cX8_init 121 = .ok (.sipush 169, 3) := by decide +kernel
theorem dX8_init_124 : decode cX8_init 124 = .ok (.iconst 1, 1) := by decide +kernel
theorem dX8_init_125 : decode cX8_init 125 = .ok (.iastore, 1) := by decide +kernel
theorem dX8_init_126 : decode cX8_init 126 = .ok (.aload_n 0, 1) := by decide +kernel
theorem dX8_init_127 : decode cX8_init 127 = .ok (.getfield 20, 3) := by decide +kernel
theorem dX8_init_130 : decode cX8_init 130 = .ok (.iconst 0, 1) := by decide +kernel
theorem dX8_init_131 : decode cX8_init 131 = .ok (.iconst 2, 1) := by decide +kernel
theorem dX8_init_132 : decode cX8_init 132 = .ok (.iastore, 1) := by decide +kernel
theorem dX8_init_133 : decode cX8_init 133 = .ok (.aload_n 0, 1) := by decide +kernel
theorem dX8_init_134 : decode cX8_init 134 = .ok (.getfield 20, 3) := by decide +kernel
theorem dX8_init_137 : decode cX8_init 137 = .ok (.iconst 1, 1) := by decide +kernel
theorem dX8_init_138 : decode cX8_init 138 = .ok (.iconst 3, 1) := by decide +kernel
theorem dX8_init_139 : decode cX8_init 139 = .ok (.iastore, 1) := by decide +kernel
theorem dX8_init_140 : decode cX8_init 140 = .ok (.aload_n 0, 1) := by decide +kernel
theorem dX8_init_141 : decode cX8_init 141 = .ok (.getfield 20, 3) := by decide +kernel
theorem dX8_init_144 : decode cX8_init 144 = .ok (.iconst 2, 1) := by decide +kernel
theorem dX8_init_145 : decode cX8_init 145 = .ok (.bipush 10, 2) := by decide +kernel
theorem dX8_init_147 : decode cX8_init 147 = .ok (.iastore, 1) := by decide +kernel
theorem dX8_init_148 : decode cX8_init 148 = .ok (.aload_n 0, 1) := by decide +kernel
theorem dX8_init_149 : decode cX8_init 149 = .ok (.invokevirtual 54, 3) := by decide +kernel
theorem dX8_init_152 : decode cX8_init 152 = .ok (.iconst 0, 1) := by decide +kernel
theorem dX8_init_153 : decode cX8_init 153 = .ok (.istore_n 1, 1) := by decide +kernel
theorem dX8_init_154 : decode cX8_init 154 = .ok (.iload_n 1, 1) := by decide +kernel
theorem dX8_init_155 : decode cX8_init 155 = .ok (.bipush 6, 2) := by decide +kernel
theorem dX8_init_157 : decode cX8_init 157 = .ok (.if_icmp .ge 24, 3) := by decide +kernel
theorem dX8_init_160 : decode cX8_init 160 = .ok (.aload_n 0, 1) := by decide +kernel
theorem dX8_init_161 : decode cX8_init 161 = .ok (.getfield 23, 3) := by decide +kernel
theorem dX8_init_164 : decode cX8_init 164 = .ok (.iload_n 1, 1) := by decide +kernel
theorem dX8_init_165 : decode cX8_init 165 = .ok (.aload_n 0, 1) := by decide +kernel
theorem dX8_init_166 : decode cX8_init 166 = .ok (.getfield 23, 3) := by decide +kernel
theorem dX8_init_169 : decode cX8_init 169 = .ok (.bipush 6, 2) := by decide +kernel
theorem dX8_init_171 : decode cX8_init 171 = .ok (.iload_n 1, 1) := by decide +kernel
theorem dX8_init_172 : decode cX8_init 172 = .ok (.iadd, 1) := by decide +kernel
theorem dX8_init_173 : decode cX8_init 173 = .ok (.iaload, 1) := by decide +kernel
theorem dX8_init_174 : decode cX8_init 174 = .ok (.iastore, 1) := by decide +kernel
theorem dX8_init_175 : decode cX8_init 175 = .ok (.iinc 1 1, 3) := by decide +kernel
theorem dX8_init_178 : decode cX8_init 178 = .ok (.goto (-24), 3) := by decide +kernel
theorem dX8_init_181 : decode cX8_init 181 = .ok (.aload_n 0, 1) := by decide +kernel
theorem dX8_init_182 : decode cX8_init 182 = .ok (.getfield 35, 3) := by decide +kernel
theorem dX8_init_185 : decode cX8_init 185 = .ok (.iconst 0, 1) := by decide +kernel
theorem dX8_init_186 : decode cX8_init 186 = .ok (.iconst 1, 1) := by decide +kernel
theorem dX8_init_187 : decode cX8_init 187 = .ok (.iastore, 1) := by decide +kernel
theorem dX8_init_188 : decode cX8_init 188 = .ok (.aload_n 0, 1) := by decide +kernel
theorem dX8_init_189 : decode cX8_init 189 = .ok (.getfield 35, 3) := by decide +kernel
theorem dX8_init_192 : decode cX8_init 192 = .ok (.iconst 5, 1) := by decide +kernel
theorem dX8_init_193 : decode cX8_init 193 = .ok (.iconst 1, 1) := by decide +kernel
theorem dX8_init_194 : decode cX8_init 194 = .ok (.iastore, 1) := by decide +kernel
theorem dX8_init_195 : decode cX8_init 195 = .ok (.return_, 1) := by decide +kernel
theorem dX8_in_0 : decode cX8_in 0 = .ok (.iload_n 0, 1) := by decide +kernel
theorem dX8_in_1 : decode cX8_in 1 = .ok (.iload_n 1, 1) := by decide +kernel
theorem dX8_in_2 : decode cX8_in 2 = .ok (.if_icmp .lt 12, 3) := by decide +kernel
theorem dX8_in_5 : decode cX8_in 5 = .ok (.iload_n 0, 1) := by decide +kernel
theorem dX8_in_6 : decode cX8_in 6 = .ok (.iload_n 2, 1) := by decide +kernel
theorem dX8_in_7 : decode cX8_in 7 = .ok (.if_icmp .gt 7, 3) := by decide +kernel
theorem dX8_in_10 : decode cX8_in 10 = .ok (.iconst 1, 1) := by decide +kernel
theorem dX8_in_11 : decode cX8_in 11 = .ok (.goto 4, 3) := by decide +kernel
theorem dX8_in_14 : decode cX8_in 14 = .ok (.iconst 0, 1) := by decide +kernel
theorem dX8_in_15 : decode cX8_in 15 = .ok (.ireturn, 1) := by decide +kernel
theorem dX8_within_0 : decode cX8_within 0 = .ok (.iload_n 0, 1) := by decide +kernel
theorem dX8_within_1 : decode cX8_within 1 = .ok (.iload_n 1, 1) := by decide +kernel
theorem dX8_within_2 : decode cX8_within 2 = .ok (.if_icmp .ge 7, 3) := by decide +kernel
theorem dX8_within_5 : decode cX8_within 5 = .ok (.iload_n 1, 1) := by decide +kernel
theorem dX8_within_6 : decode cX8_within 6 = .ok (.goto 13, 3) := by decide +kernel
theorem dX8_within_9 : decode cX8_within 9 = .ok (.iload_n 0, 1) := by decide +kernel
theorem dX8_within_10 : decode cX8_within 10 = .ok (.iload_n 2, 1) := by decide +kernel
theorem dX8_within_11 : decode cX8_within 11 = .ok (.if_icmp .le 7, 3) := by decide +kernel
theorem dX8_within_14 : decode cX8_within 14 = .ok (.iload_n 2, 1) := by decide +kernel
theorem dX8_within_15 : decode cX8_within 15 = .ok (.goto 4, 3) := by decide +kernel
theorem dX8_within_18 : decode cX8_within 18 = .ok (.iload_n 0, 1) := by decide +kernel
theorem dX8_within_19 : decode cX8_within 19 = .ok (.ireturn, 1) := by decide +kernel
theorem dX8_begins_0 : decode cX8_begins 0 = .ok (.aload_n 0, 1) := by decide +kernel
theorem dX8_begins_1 : decode cX8_begins 1 = .ok (.getfield 23, 3) := by decide +kernel
theorem dX8_begins_4 : decode cX8_begins 4 = .ok (.bipush 6, 2) := by decide +kernel
theorem dX8_begins_6 : decode cX8_begins 6 = .ok (.iconst 1, 1) := by decide +kernel
theorem dX8_begins_7 : decode cX8_begins 7 = .ok (.iastore, 1) := by decide +kernel
theorem dX8_begins_8 : decode cX8_begins 8 = .ok (.aload_n 0, 1) := by decide +kernel
theorem dX8_begins_9 : decode cX8_begins 9 = .ok (.getfield 23, 3) := by decide +kernel
theorem dX8_begins_12 : decode cX8_begins 12 = .ok (.bipush 7, 2) := by decide +kernel
theorem dX8_begins_14 : decode cX8_begins 14 = .ok (.iconst 1, 1) := by decide +kernel
theorem dX8_begins_15 : decode cX8_begins 15 = .ok (.iastore, 1) := by decide +kernel
theorem dX8_begins_16 : decode cX8_begins 16 = .ok (.aload_n 0, 1) := by decide +kernel
theorem dX8_begins_17 : decode cX8_begins 17 = .ok (.getfield 23, 3) := by decide +kernel
theorem dX8_begins_20 : decode cX8_begins 20 = .ok (.bipush 8, 2) := by decide +kernel
theorem dX8_begins_22 : decode cX8_begins 22 = .ok (.iconst 1, 1) := by decide +kernel
theorem dX8_begins_23 : decode cX8_begins 23 = .ok (.iastore, 1) := by decide +kernel
theorem dX8_begins_24 : decode cX8_begins 24 = .ok (.aload_n 0, 1) := by decide +kernel
theorem dX8_begins_25 : decode cX8_begins 25 = .ok (.getfield 23, 3) := by decide +kernel
theorem dX8_begins_28 : decode cX8_begins 28 = .ok (.bipush 9, 2) := by decide +kernel
theorem dX8_begins_30 : decode cX8_begins 30 = .ok (.iconst 1, 1) := by decide +kernel
theorem dX8_begins_31 : decode cX8_begins 31 = .ok (.iastore, 1) := by decide +kernel
theorem dX8_begins_32 : decode cX8_begins 32 = .ok (.aload_n 0, 1) := by decide +kernel
theorem dX8_begins_33 : decode cX8_begins 33 = .ok (.getfield 23, 3) := by decide +kernel
theorem dX8_begins_36 : decode cX8_begins 36 = .ok (.bipush 10, 2) := by decide +kernel
theorem dX8_begins_38 : decode cX8_begins 38 = .ok (.sipush 200, 3) := by decide +kernel
theorem dX8_begins_41 : decode cX8_begins 41 = .ok (.iastore, 1) := by decide +kernel
theorem dX8_begins_42 : decode cX8_begins 42 = .ok (.aload_n 0, 1) := by decide +kernel
theorem dX8_begins_43 : decode cX8_begins 43 = .ok (.getfield 23, 3) := by decide +kernel
theorem dX8_begins_46 : decode cX8_begins 46 = .ok (.bipush 11, 2) := by decide +kernel
theorem dX8_begins_48 : decode cX8_begins 48 = .ok (.sipush 200, 3) := by decide +kernel
theorem dX8_begins_51 : decode cX8_begins 51 = .ok (.iastore, 1) := by decide +kernel
theorem dX8_begins_52 : decode cX8_begins 52 = .ok (.return_, 1) := by decide +kernel
theorem dX8_isRunner_0 : decode cX8_isRunner 0 = .ok (.iload_n 1, 1) := by decide +kernel
theorem dX8_isRunner_1 : decode cX8_isRunner 1 = .ok (.iconst 0, 1) := by decide +kernel
theorem dX8_isRunner_2 : decode cX8_isRunner 2 = .ok (.aload_n 0, 1) := by decide +kernel
theorem dX8_isRunner_3 : decode cX8_isRunner 3 = .ok (.getfield 7, 3) := by decide +kernel
theorem dX8_isRunner_6 : decode cX8_isRunner 6 = .ok (.sipush 168, 3) := by decide +kernel
theorem dX8_isRunner_9 : decode cX8_isRunner 9 = .ok (.iaload, 1) := by decide +kernel
theorem dX8_isRunner_10 : decode cX8_isRunner 10 = .ok (.iconst 1, 1) := by decide +kernel
theorem dX8_isRunner_11 : decode cX8_isRunner 11 = .ok (.isub, 1) := by decide +kernel
theorem dX8_isRunner_12 : decode cX8_isRunner 12 = .ok (.invokestatic 61, 3) := by decide +kernel
theorem dX8_isRunner_15 : decode cX8_isRunner 15 = .ok (.ireturn, 1) := by decide +kernel
theorem dX8_runner_0 : decode cX8_runner 0 = .ok (.aload_n 0, 1) := by decide +kernel
theorem dX8_runner_1 : decode cX8_runner 1 = .ok (.iconst 0, 1) := by decide +kernel
theorem dX8_runner_2 : decode cX8_runner 2 = .ok (.putfield 57, 3) := by decide +kernel
theorem dX8_runner_5 : decode cX8_runner 5 = .ok (.iload_n 1, 1) := by decide +kernel
theorem dX8_runner_6 : decode cX8_runner 6 = .ok (.iconst 0, 1) := by decide +kernel
theorem dX8_runner_7 : decode cX8_runner 7 = .ok (.sipush 200, 3) := by decide +kernel
theorem dX8_runner_10 : decode cX8_runner 10 = .ok (.invokestatic 61, 3) := by decide +kernel
theorem dX8_runner_13 : decode cX8_runner 13 = .ok (.ifCond .ne 5, 3) := by decide +kernel
theorem dX8_runner_16 : decode cX8_runner 16 = .ok (.iconst (-1), 1) := by decide +kernel
theorem dX8_runner_17 : decode cX8_runner 17 = .ok (.ireturn, 1) := by decide +kernel
theorem dX8_runner_18 : decode cX8_runner 18 = .ok (.aload_n 0, 1) := by decide +kernel
theorem dX8_runner_19 : decode cX8_runner 19 = .ok (.getfield 7, 3) := by decide +kernel
theorem dX8_runner_22 : decode cX8_runner 22 = .ok (.sipush 168, 3) := by decide +kernel
theorem dX8_runner_25 : decode cX8_runner 25 = .ok (.iaload, 1) := by decide +kernel
theorem dX8_runner_26 : decode cX8_runner 26 = .ok (.bipush 8, 2) := by decide +kernel
theorem dX8_runner_28 : decode cX8_runner 28 = .ok (.if_icmp .ne 6, 3) := by decide +kernel
theorem dX8_runner_31 : decode cX8_runner 31 = .ok (.bipush (-3), 2) := by decide +kernel
theorem dX8_runner_33 : decode cX8_runner 33 = .ok (.ireturn, 1) := by decide +kernel
theorem dX8_runner_34 : decode cX8_runner 34 = .ok (.bipush 21, 2) := by decide +kernel
theorem dX8_runner_36 : decode cX8_runner 36 = .ok (.aload_n 0, 1) := by decide +kernel
theorem dX8_runner_37 : decode cX8_runner 37 = .ok (.getfield 7, 3) := by decide +kernel
theorem dX8_runner_40 : decode cX8_runner 40 = .ok (.sipush 168, 3) := by decide +kernel
theorem dX8_runner_43 : decode cX8_runner 43 = .ok (.iaload, 1) := by decide +kernel
theorem dX8_runner_44 : decode cX8_runner 44 = .ok (.imul, 1) := by decide +kernel
theorem dX8_runner_45 : decode cX8_runner 45 = .ok (.istore_n 2, 1) := by decide +kernel
theorem dX8_runner_46 : decode cX8_runner 46 = .ok (.iconst 0, 1) := by decide +kernel
theorem dX8_runner_47 : decode cX8_runner 47 = .ok (.istore_n 3, 1) := by decide +kernel
theorem dX8_runner_48 : decode cX8_runner 48 = .ok (.iload_n 3, 1) := by decide +kernel
theorem dX8_runner_49 : decode cX8_runner 49 = .ok (.bipush 21, 2) := by decide +kernel
theorem dX8_runner_51 : decode cX8_runner 51 = .ok (.if_icmp .ge 27, 3) := by decide +kernel
theorem dX8_runner_54 : decode cX8_runner 54 = .ok (.aload_n 0, 1) := by decide +kernel
theorem dX8_runner_55 : decode cX8_runner 55 = .ok (.getfield 7, 3) := by decide +kernel
theorem dX8_runner_58 : decode cX8_runner 58 = .ok (.iload_n 2, 1) := by decide +kernel
theorem dX8_runner_59 : decode cX8_runner 59 = .ok (.iload_n 3, 1) := by decide +kernel
theorem dX8_runner_60 : decode cX8_runner 60 = .ok (.iadd, 1) := by decide +kernel
theorem dX8_runner_61 : decode cX8_runner 61 = .ok (.iload_n 3, 1) := by decide +kernel
theorem dX8_runner_62 : decode cX8_runner 62 = .ok (.iconst 2, 1) := by decide +kernel
theorem dX8_runner_63 : decode cX8_runner 63 = .ok (.if_icmp .ge 7, 3) := by decide +kernel
theorem dX8_runner_66 : decode cX8_runner 66 = .ok (.iload_n 1, 1) := by decide +kernel
theorem dX8_runner_67 : decode cX8_runner 67 = .ok (.goto 4, 3) := by decide +kernel
theorem dX8_runner_70 : decode cX8_runner 70 = .ok (.iconst 0, 1) := by decide +kernel
theorem dX8_runner_71 : decode cX8_runner 71 = .ok (.iastore, 1) := by decide +kernel
theorem dX8_runner_72 : decode cX8_runner 72 = .ok (.iinc 3 1, 3) := by decide +kernel
theorem dX8_runner_75 : decode cX8_runner 75 = .ok (.goto (-27), 3) := by decide +kernel
theorem dX8_runner_78 : decode cX8_runner 78 = .ok (.aload_n 0, 1) := by decide +kernel
theorem dX8_runner_79 : decode cX8_runner 79 = .ok (.getfield 7, 3) := by decide +kernel
theorem dX8_runner_82 : decode cX8_runner 82 = .ok (.sipush 168, 3) := by decide +kernel
theorem dX8_runner_85 : decode cX8_runner 85 = .ok (.dup2, 1) := by decide +kernel
theorem dX8_runner_86 : decode cX8_runner 86 = .ok (.iaload, 1) := by decide +kernel
theorem dX8_runner_87 : decode cX8_runner 87 = .ok (.iconst 1, 1) := by decide +kernel
theorem dX8_runner_88 : decode cX8_runner 88 = .ok (.iadd, 1) := by decide +kernel
theorem dX8_runner_89 : decode cX8_runner 89 = .ok (.iastore, 1) := by decide +kernel
theorem dX8_runner_90 : decode cX8_runner 90 = .ok (.aload_n 0, 1) := by decide +kernel
theorem dX8_runner_91 : decode cX8_runner 91 = .ok (.getfield 7, 3) := by decide +kernel
theorem dX8_runner_94 : decode cX8_runner 94 = .ok (.sipush 168, 3) := by decide +kernel
theorem dX8_runner_97 : decode cX8_runner 97 = .ok (.iaload, 1) := by decide +kernel
theorem dX8_runner_98 : decode cX8_runner 98 = .ok (.iconst 1, 1) := by decide +kernel
theorem dX8_runner_99 : decode cX8_runner 99 = .ok (.isub, 1) := by decide +kernel
theorem dX8_runner_100 : decode cX8_runner 100 = .ok (.ireturn, 1) := by decide +kernel
theorem dX8_set_0 : decode cX8_set 0 = .ok (.aload_n 0, 1) := by decide +kernel
theorem dX8_set_1 : decode cX8_set 1 = .ok (.iconst 0, 1) := by decide +kernel
theorem dX8_set_2 : decode cX8_set 2 = .ok (.putfield 57, 3) := by decide +kernel
theorem dX8_set_5 : decode cX8_set 5 = .ok (.aload_n 0, 1) := by decide +kernel
theorem dX8_set_6 : decode cX8_set 6 = .ok (.iload_n 1, 1) := by decide +kernel
theorem dX8_set_7 : decode cX8_set 7 = .ok (.invokevirtual 65, 3) := by decide +kernel
theorem dX8_set_10 : decode cX8_set 10 = .ok (.ifCond .eq 12, 3) := by decide +kernel
theorem dX8_set_13 : decode cX8_set 13 = .ok (.iload_n 2, 1) := by decide +kernel
theorem dX8_set_14 : decode cX8_set 14 = .ok (.iconst 0, 1) := by decide +kernel
theorem dX8_set_15 : decode cX8_set 15 = .ok (.iconst 5, 1) := by decide +kernel
theorem dX8_set_16 : decode cX8_set 16 = .ok (.invokestatic 61, 3) := by decide +kernel
theorem dX8_set_19 : decode cX8_set 19 = .ok (.ifCond .ne 6, 3) := by decide +kernel
theorem dX8_set_22 : decode cX8_set 22 = .ok (.ldc 69, 2) := by decide +kernel
theorem dX8_set_24 : decode cX8_set 24 = .ok (.ireturn, 1) := by decide +kernel
theorem dX8_set_25 : decode cX8_set 25 = .ok (.iload_n 2, 1) := by decide +kernel
theorem dX8_set_26 : decode cX8_set 26 = .ok (.ifCond .ne 12, 3) := by decide +kernel
theorem dX8_set_29 : decode cX8_set 29 = .ok (.iload_n 3, 1) := by decide +kernel
theorem dX8_set_30 : decode cX8_set 30 = .ok (.iconst 0, 1) := by decide +kernel
theorem dX8_set_31 : decode cX8_set 31 = .ok (.iconst 2, 1) := by decide +kernel
theorem dX8_set_32 : decode cX8_set 32 = .ok (.invokestatic 61, 3) := by decide +kernel
theorem dX8_set_35 : decode cX8_set 35 = .ok (.goto 43, 3) := by decide +kernel
theorem dX8_set_38 : decode cX8_set 38 = .ok (.iload_n 2, 1) := by decide +kernel
theorem dX8_set_39 : decode cX8_set 39 = .ok (.iconst 1, 1) := by decide +kernel
theorem dX8_set_40 : decode cX8_set 40 = .ok (.if_icmp .ne 14, 3) := by decide +kernel
theorem dX8_set_43 : decode cX8_set 43 = .ok (.iload_n 3, 1) := by decide +kernel
theorem dX8_set_44 : decode cX8_set 44 = .ok (.bipush (-9), 2) := by decide +kernel
theorem dX8_set_46 : decode cX8_set 46 = .ok (.bipush 9, 2) := by decide +kernel
theorem dX8_set_48 : decode cX8_set 48 = .ok (.invokestatic 61, 3) := by decide +kernel
theorem dX8_set_51 : decode cX8_set 51 = .ok (.goto 27, 3) := by decide +kernel
theorem dX8_set_54 : decode cX8_set 54 = .ok (.iload_n 2, 1) := by decide +kernel
theorem dX8_set_55 : decode cX8_set 55 = .ok (.iconst 5, 1) := by decide +kernel
theorem dX8_set_56 : decode cX8_set 56 = .ok (.if_icmp .ne 14, 3) := by decide +kernel
theorem dX8_set_59 : decode cX8_set 59 = .ok (.iload_n 3, 1) := by decide +kernel
theorem dX8_set_60 : decode cX8_set 60 = .ok (.iconst 0, 1) := by decide +kernel
theorem dX8_set_61 : decode cX8_set 61 = .ok (.sipush 200, 3) := by decide +kernel
theorem dX8_set_64 : decode cX8_set 64 = .ok (.invokestatic 61, 3) := by decide +kernel
theorem dX8_set_67 : decode cX8_set 67 = .ok (.goto 11, 3) := by decide +kernel
theorem dX8_set_70 : decode cX8_set 70 = .ok (.iload_n 3, 1) := by decide +kernel
theorem dX8_set_71 : decode cX8_set 71 = .ok (.bipush (-20), 2) := by decide +kernel
theorem dX8_set_73 : decode cX8_set 73 = .ok (.bipush 20, 2) := by decide +kernel
theorem dX8_set_75 : decode cX8_set 75 = .ok (.invokestatic 61, 3) := by decide +kernel
theorem dX8_set_78 : decode cX8_set 78 = .ok (.istore 4, 2) := by decide +kernel
theorem dX8_set_80 : decode cX8_set 80 = .ok (.iload 4, 2) := by decide +kernel
theorem dX8_set_82 : decode cX8_set 82 = .ok (.ifCond .ne 6, 3) := by decide +kernel
theorem dX8_set_85 : decode cX8_set 85 = .ok (.ldc 69, 2) := by decide +kernel
theorem dX8_set_87 : decode cX8_set 87 = .ok (.ireturn, 1) := by decide +kernel
theorem dX8_set_88 : decode cX8_set 88 = .ok (.bipush 21, 2) := by decide +kernel
theorem dX8_set_90 : decode cX8_set 90 = .ok (.iload_n 1, 1) := by decide +kernel
theorem dX8_set_91 : decode cX8_set 91 = .ok (.imul, 1) := by decide +kernel
theorem dX8_set_92 : decode cX8_set 92 = .ok (.iload_n 2, 1) := by decide +kernel
theorem dX8_set_93 : decode cX8_set 93 = .ok (.ifCond .ne 7, 3) := by decide +kernel
theorem dX8_set_96 : decode cX8_set 96 = .ok (.iconst 2, 1) := by decide +kernel
theorem dX8_set_97 : decode cX8_set 97 = .ok (.goto 26, 3) := by decide +kernel
theorem dX8_set_100 : decode cX8_set 100 = .ok (.iload_n 2, 1) := by decide +kernel
theorem dX8_set_101 : decode cX8_set 101 = .ok (.iconst 1, 1) := by decide +kernel
theorem dX8_set_102 : decode cX8_set 102 = .ok (.if_icmp .ne 7, 3) := by decide +kernel
theorem dX8_set_105 : decode cX8_set 105 = .ok (.iconst 3, 1) := by decide +kernel
theorem dX8_set_106 : decode cX8_set 106 = .ok (.goto 17, 3) := by decide +kernel
theorem dX8_set_109 : decode cX8_set 109 = .ok (.iload_n 2, 1) := by decide +kernel
theorem dX8_set_110 : decode cX8_set 110 = .ok (.iconst 5, 1) := by decide +kernel
theorem dX8_set_111 : decode cX8_set 111 = .ok (.if_icmp .ne 7, 3) := by decide +kernel
theorem dX8_set_114 : decode cX8_set 114 = .ok (.iconst 1, 1) := by decide +kernel
theorem dX8_set_115 : decode cX8_set 115 = .ok (.goto 8, 3) := by decide +kernel
theorem dX8_set_118 : decode cX8_set 118 = .ok (.iconst 4, 1) := by decide +kernel
theorem dX8_set_119 : decode cX8_set 119 = .ok (.iload_n 2, 1) := by decide +kernel
theorem dX8_set_120 : decode cX8_set 120 = .ok (.iadd, 1) := by decide +kernel
theorem dX8_set_121 : decode cX8_set 121 = .ok (.iconst 2, 1) := by decide +kernel
theorem dX8_set_122 : decode cX8_set 122 = .ok (.isub, 1) := by decide +kernel
theorem dX8_set_123 : decode cX8_set 123 = .ok (.iadd, 1) := by decide +kernel
theorem dX8_set_124 : decode cX8_set 124 = .ok (.istore 5, 2) := by decide +kernel
theorem dX8_set_126 : decode cX8_set 126 = .ok (.aload_n 0, 1) := by decide +kernel
theorem dX8_set_127 : decode cX8_set 127 = .ok (.getfield 7, 3) := by decide +kernel
theorem dX8_set_130 : decode cX8_set 130 = .ok (.iload 5, 2) := by decide +kernel
theorem dX8_set_132 : decode cX8_set 132 = .ok (.iaload, 1) := by decide +kernel
theorem dX8_set_133 : decode cX8_set 133 = .ok (.istore 6, 2) := by decide +kernel
theorem dX8_set_135 : decode cX8_set 135 = .ok (.aload_n 0, 1) := by decide +kernel
theorem dX8_set_136 : decode cX8_set 136 = .ok (.getfield 7, 3) := by decide +kernel
theorem dX8_set_139 : decode cX8_set 139 = .ok (.iload 5, 2) := by decide +kernel
theorem dX8_set_141 : decode cX8_set 141 = .ok (.iload_n 3, 1) := by decide +kernel
theorem dX8_set_142 : decode cX8_set 142 = .ok (.iastore, 1) := by decide +kernel
theorem dX8_set_143 : decode cX8_set 143 = .ok (.iload 6, 2) := by decide +kernel
theorem dX8_set_145 : decode cX8_set 145 = .ok (.ireturn, 1) := by decide +kernel
theorem dX8_about_0 : decode cX8_about 0 = .ok (.aload_n 0, 1) := by decide +kernel
theorem dX8_about_1 : decode cX8_about 1 = .ok (.iconst 0, 1) := by decide +kernel
theorem dX8_about_2 : decode cX8_about 2 = .ok (.putfield 57, 3) := by decide +kernel
theorem dX8_about_5 : decode cX8_about 5 = .ok (.aload_n 0, 1) := by decide +kernel
theorem dX8_about_6 : decode cX8_about 6 = .ok (.iload_n 1, 1) := by decide +kernel
theorem dX8_about_7 : decode cX8_about 7 = .ok (.invokevirtual 65, 3) := by decide +kernel
theorem dX8_about_10 : decode cX8_about 10 = .ok (.ifCond .eq 12, 3) := by decide +kernel
theorem dX8_about_13 : decode cX8_about 13 = .ok (.iload_n 2, 1) := by decide +kernel
theorem dX8_about_14 : decode cX8_about 14 = .ok (.iconst 0, 1) := by decide +kernel
theorem dX8_about_15 : decode cX8_about 15 = .ok (.iconst 5, 1) := by decide +kernel
theorem dX8_about_16 : decode cX8_about 16 = .ok (.invokestatic 61, 3) := by decide +kernel
theorem dX8_about_19 : decode cX8_about 19 = .ok (.ifCond .ne 6, 3) := by decide +kernel
theorem dX8_about_22 : decode cX8_about 22 = .ok (.ldc 69, 2) := by decide +kernel
theorem dX8_about_24 : decode cX8_about 24 = .ok (.ireturn, 1) := by decide +kernel
theorem dX8_about_25 : decode cX8_about 25 = .ok (.aload_n 0, 1) := by decide +kernel
theorem dX8_about_26 : decode cX8_about 26 = .ok (.getfield 7, 3) := by decide +kernel
theorem dX8_about_29 : decode cX8_about 29 = .ok (.bipush 21, 2) := by decide +kernel
theorem dX8_about_31 : decode cX8_about 31 = .ok (.iload_n 1, 1) := by decide +kernel
theorem dX8_about_32 : decode cX8_about 32 = .ok (.imul, 1) := by decide +kernel
theorem dX8_about_33 : decode cX8_about 33 = .ok (.iload_n 2, 1) := by decide +kernel
theorem dX8_about_34 : decode cX8_about 34 = .ok (.ifCond .ne 7, 3) := by decide +kernel
theorem dX8_about_37 : decode cX8_about 37 = .ok (.iconst 0, 1) := by decide +kernel
theorem dX8_about_38 : decode cX8_about 38 = .ok (.goto 42, 3) := by decide +kernel
theorem dX8_about_41 : decode cX8_about 41 = .ok (.iload_n 2, 1) := by decide +kernel
theorem dX8_about_42 : decode cX8_about 42 = .ok (.iconst 1, 1) := by decide +kernel
theorem dX8_about_43 : decode cX8_about 43 = .ok (.if_icmp .ne 7, 3) := by decide +kernel
theorem dX8_about_46 : decode cX8_about 46 = .ok (.iconst 1, 1) := by decide +kernel
theorem dX8_about_47 : decode cX8_about 47 = .ok (.goto 33, 3) := by decide +kernel
theorem dX8_about_50 : decode cX8_about 50 = .ok (.iload_n 2, 1) := by decide +kernel
theorem dX8_about_51 : decode cX8_about 51 = .ok (.iconst 2, 1) := by decide +kernel
theorem dX8_about_52 : decode cX8_about 52 = .ok (.if_icmp .ne 7, 3) := by decide +kernel
theorem dX8_about_55 : decode cX8_about 55 = .ok (.iconst 2, 1) := by decide +kernel
theorem dX8_about_56 : decode cX8_about 56 = .ok (.goto 24, 3) := by decide +kernel
theorem dX8_about_59 : decode cX8_about 59 = .ok (.iload_n 2, 1) := by decide +kernel
theorem dX8_about_60 : decode cX8_about 60 = .ok (.iconst 3, 1) := by decide +kernel
theorem dX8_about_61 : decode cX8_about 61 = .ok (.if_icmp .ne 7, 3) := by decide +kernel
theorem dX8_about_64 : decode cX8_about 64 = .ok (.iconst 3, 1) := by decide +kernel
theorem dX8_about_65 : decode cX8_about 65 = .ok (.goto 15, 3) := by decide +kernel
theorem dX8_about_68 : decode cX8_about 68 = .ok (.iload_n 2, 1) := by decide +kernel
theorem dX8_about_69 : decode cX8_about 69 = .ok (.iconst 4, 1) := by decide +kernel
theorem dX8_about_70 : decode cX8_about 70 = .ok (.if_icmp .ne 8, 3) := by decide +kernel
theorem dX8_about_73 : decode cX8_about 73 = .ok (.bipush 7, 2) := by decide +kernel
theorem dX8_about_75 : decode cX8_about 75 = .ok (.goto 5, 3) := by decide +kernel
theorem dX8_about_78 : decode cX8_about 78 = .ok (.bipush 8, 2) := by decide +kernel
theorem dX8_about_80 : decode cX8_about 80 = .ok (.iadd, 1) := by decide +kernel
theorem dX8_about_81 : decode cX8_about 81 = .ok (.iaload, 1) := by decide +kernel
theorem dX8_about_82 : decode cX8_about 82 = .ok (.ireturn, 1) := by decide +kernel
theorem dX8_figure_0 : decode cX8_figure 0 = .ok (.aload_n 0, 1) := by decide +kernel
theorem dX8_figure_1 : decode cX8_figure 1 = .ok (.iconst 0, 1) := by decide +kernel
theorem dX8_figure_2 : decode cX8_figure 2 = .ok (.putfield 57, 3) := by decide +kernel
theorem dX8_figure_5 : decode cX8_figure 5 = .ok (.aload_n 0, 1) := by decide +kernel
theorem dX8_figure_6 : decode cX8_figure 6 = .ok (.iload_n 1, 1) := by decide +kernel
theorem dX8_figure_7 : decode cX8_figure 7 = .ok (.invokevirtual 65, 3) := by decide +kernel
theorem dX8_figure_10 : decode cX8_figure 10 = .ok (.ifCond .eq 42, 3) := by decide +kernel
theorem dX8_figure_13 : decode cX8_figure 13 = .ok (.iload_n 2, 1) := by decide +kernel
theorem dX8_figure_14 : decode cX8_figure 14 = .ok (.iconst 0, 1) := by decide +kernel
theorem dX8_figure_15 : decode cX8_figure 15 = .ok (.aload_n 0, 1) := by decide +kernel
theorem dX8_figure_16 : decode cX8_figure 16 = .ok (.getfield 7, 3) := by decide +kernel
theorem dX8_figure_19 : decode cX8_figure 19 = .ok (.bipush 21, 2) := by decide +kernel
theorem dX8_figure_21 : decode cX8_figure 21 = .ok (.iload_n 1, 1) := by decide +kernel
theorem dX8_figure_22 : decode cX8_figure 22 = .ok (.imul, 1) := by decide +kernel
theorem dX8_figure_23 : decode cX8_figure 23 = .ok (.bipush 8, 2) := by decide +kernel
theorem dX8_figure_25 : decode cX8_figure 25 = .ok (.iadd, 1) := by decide +kernel
theorem dX8_figure_26 : decode cX8_figure 26 = .ok (.iaload, 1) := by decide +kernel
theorem dX8_figure_27 : decode cX8_figure 27 = .ok (.iconst 1, 1) := by decide +kernel
theorem dX8_figure_28 : decode cX8_figure 28 = .ok (.isub, 1) := by decide +kernel
theorem dX8_figure_29 : decode cX8_figure 29 = .ok (.invokestatic 61, 3) := by decide +kernel
theorem dX8_figure_32 : decode cX8_figure 32 = .ok (.ifCond .eq 20, 3) := by decide +kernel
theorem dX8_figure_35 : decode cX8_figure 35 = .ok (.aload_n 0, 1) := by decide +kernel
theorem dX8_figure_36 : decode cX8_figure 36 = .ok (.getfield 7, 3) := by decide +kernel
theorem dX8_figure_39 : decode cX8_figure 39 = .ok (.bipush 21, 2) := by decide +kernel
theorem dX8_figure_41 : decode cX8_figure 41 = .ok (.iload_n 1, 1) := by decide +kernel
theorem dX8_figure_42 : decode cX8_figure 42 = .ok (.imul, 1) := by decide +kernel
theorem dX8_figure_43 : decode cX8_figure 43 = .ok (.bipush 9, 2) := by decide +kernel
theorem dX8_figure_45 : decode cX8_figure 45 = .ok (.iadd, 1) := by decide +kernel
theorem dX8_figure_46 : decode cX8_figure 46 = .ok (.iload_n 2, 1) := by decide +kernel
theorem dX8_figure_47 : decode cX8_figure 47 = .ok (.iadd, 1) := by decide +kernel
theorem dX8_figure_48 : decode cX8_figure 48 = .ok (.iaload, 1) := by decide +kernel
theorem dX8_figure_49 : decode cX8_figure 49 = .ok (.goto 5, 3) := by decide +kernel
theorem dX8_figure_52 : decode cX8_figure 52 = .ok (.ldc 69, 2) := by decide +kernel
theorem dX8_figure_54 : decode cX8_figure 54 = .ok (.ireturn, 1) := by decide +kernel
theorem dX8_tune_0 : decode cX8_tune 0 = .ok (.aload_n 0, 1) := by decide +kernel
theorem dX8_tune_1 : decode cX8_tune 1 = .ok (.iconst 0, 1) := by decide +kernel
theorem dX8_tune_2 : decode cX8_tune 2 = .ok (.putfield 57, 3) := by decide +kernel
theorem dX8_tune_5 : decode cX8_tune 5 = .ok (.iload_n 1, 1) := by decide +kernel
theorem dX8_tune_6 : decode cX8_tune 6 = .ok (.iconst 0, 1) := by decide +kernel
theorem dX8_tune_7 : decode cX8_tune 7 = .ok (.iconst 2, 1) := by decide +kernel
theorem dX8_tune_8 : decode cX8_tune 8 = .ok (.invokestatic 61, 3) := by decide +kernel
theorem dX8_tune_11 : decode cX8_tune 11 = .ok (.ifCond .eq 21, 3) := by decide +kernel
theorem dX8_tune_14 : decode cX8_tune 14 = .ok (.iload_n 2, 1) := by decide +kernel
theorem dX8_tune_15 : decode cX8_tune 15 = .ok (.iconst 0, 1) := by decide +kernel
theorem dX8_tune_16 : decode cX8_tune 16 = .ok (.iload_n 1, 1) := by decide +kernel
theorem dX8_tune_17 : decode cX8_tune 17 = .ok (.ifCond .ne 7, 3) := by decide +kernel
theorem dX8_tune_20 : decode cX8_tune 20 = .ok (.iconst 5, 1) := by decide +kernel
theorem dX8_tune_21 : decode cX8_tune 21 = .ok (.goto 5, 3) := by decide +kernel
theorem dX8_tune_24 : decode cX8_tune 24 = .ok (.bipush 50, 2) := by decide +kernel
theorem dX8_tune_26 : decode cX8_tune 26 = .ok (.invokestatic 61, 3) := by decide +kernel
theorem dX8_tune_29 : decode cX8_tune 29 = .ok (.ifCond .ne 5, 3) := by decide +kernel
theorem dX8_tune_32 : decode cX8_tune 32 = .ok (.iconst (-1), 1) := by decide +kernel
theorem dX8_tune_33 : decode cX8_tune 33 = .ok (.ireturn, 1) := by decide +kernel
theorem dX8_tune_34 : decode cX8_tune 34 = .ok (.aload_n 0, 1) := by decide +kernel
theorem dX8_tune_35 : decode cX8_tune 35 = .ok (.getfield 20, 3) := by decide +kernel
theorem dX8_tune_38 : decode cX8_tune 38 = .ok (.iload_n 1, 1) := by decide +kernel
theorem dX8_tune_39 : decode cX8_tune 39 = .ok (.iaload, 1) := by decide +kernel
theorem dX8_tune_40 : decode cX8_tune 40 = .ok (.istore_n 3, 1) := by decide +kernel
theorem dX8_tune_41 : decode cX8_tune 41 = .ok (.aload_n 0, 1) := by decide +kernel
theorem dX8_tune_42 : decode cX8_tune 42 = .ok (.getfield 20, 3) := by decide +kernel
theorem dX8_tune_45 : decode cX8_tune 45 = .ok (.iload_n 1, 1) := by decide +kernel
theorem dX8_tune_46 : decode cX8_tune 46 = .ok (.iload_n 2, 1) := by decide +kernel
theorem dX8_tune_47 : decode cX8_tune 47 = .ok (.iastore, 1) := by decide +kernel
theorem dX8_tune_48 : decode cX8_tune 48 = .ok (.iload_n 3, 1) := by decide +kernel
theorem dX8_tune_49 : decode cX8_tune 49 = .ok (.ireturn, 1) := by decide +kernel
theorem dX8_lot_0 : decode cX8_lot 0 = .ok (.aload_n 0, 1) := by decide +kernel
theorem dX8_lot_1 : decode cX8_lot 1 = .ok (.iconst 0, 1) := by decide +kernel
theorem dX8_lot_2 : decode cX8_lot 2 = .ok (.putfield 57, 3) := by decide +kernel
theorem dX8_lot_5 : decode cX8_lot 5 = .ok (.aload_n 0, 1) := by decide +kernel
theorem dX8_lot_6 : decode cX8_lot 6 = .ok (.getfield 7, 3) := by decide +kernel
theorem dX8_lot_9 : decode cX8_lot 9 = .ok (.sipush 169, 3) := by decide +kernel
theorem dX8_lot_12 : decode cX8_lot 12 = .ok (.iaload, 1) := by decide +kernel
theorem dX8_lot_13 : decode cX8_lot 13 = .ok (.istore_n 2, 1) := by decide +kernel
theorem dX8_lot_14 : decode cX8_lot 14 = .ok (.aload_n 0, 1) := by decide +kernel
theorem dX8_lot_15 : decode cX8_lot 15 = .ok (.getfield 7, 3) := by decide +kernel
theorem dX8_lot_18 : decode cX8_lot 18 = .ok (.sipush 169, 3) := by decide +kernel
theorem dX8_lot_21 : decode cX8_lot 21 = .ok (.iload_n 1, 1) := by decide +kernel
theorem dX8_lot_22 : decode cX8_lot 22 = .ok (.iastore, 1) := by decide +kernel
theorem dX8_lot_23 : decode cX8_lot 23 = .ok (.iload_n 2, 1) := by decide +kernel
theorem dX8_lot_24 : decode cX8_lot 24 = .ok (.ireturn, 1) := by decide +kernel
theorem dX8_type_0 : decode cX8_type 0 = .ok (.aload_n 0, 1) := by decide +kernel
theorem dX8_type_1 : decode cX8_type 1 = .ok (.iconst 0, 1) := by decide +kernel
theorem dX8_type_2 : decode cX8_type 2 = .ok (.putfield 57, 3) := by decide +kernel
theorem dX8_type_5 : decode cX8_type 5 = .ok (.iload_n 3, 1) := by decide +kernel
theorem dX8_type_6 : decode cX8_type 6 = .ok (.iconst 1, 1) := by decide +kernel
theorem dX8_type_7 : decode cX8_type 7 = .ok (.bipush 8, 2) := by decide +kernel
theorem dX8_type_9 : decode cX8_type 9 = .ok (.invokestatic 61, 3) := by decide +kernel
theorem dX8_type_12 : decode cX8_type 12 = .ok (.ifCond .ne 5, 3) := by decide +kernel
theorem dX8_type_15 : decode cX8_type 15 = .ok (.iconst (-1), 1) := by decide +kernel
theorem dX8_type_16 : decode cX8_type 16 = .ok (.ireturn, 1) := by decide +kernel
theorem dX8_type_17 : decode cX8_type 17 = .ok (.aload_n 0, 1) := by decide +kernel
theorem dX8_type_18 : decode cX8_type 18 = .ok (.getfield 70, 3) := by decide +kernel
theorem dX8_type_21 : decode cX8_type 21 = .ok (.iload_n 3, 1) := by decide +kernel
theorem dX8_type_22 : decode cX8_type 22 = .ok (.iadd, 1) := by decide +kernel
theorem dX8_type_23 : decode cX8_type 23 = .ok (.sipush 200, 3) := by decide +kernel
theorem dX8_type_26 : decode cX8_type 26 = .ok (.if_icmp .le 6, 3) := by decide +kernel
theorem dX8_type_29 : decode cX8_type 29 = .ok (.bipush (-3), 2) := by decide +kernel
theorem dX8_type_31 : decode cX8_type 31 = .ok (.ireturn, 1) := by decide +kernel
theorem dX8_type_32 : decode cX8_type 32 = .ok (.iload_n 3, 1) := by decide +kernel
theorem dX8_type_33 : decode cX8_type 33 = .ok (.iconst 1, 1) := by decide +kernel
theorem dX8_type_34 : decode cX8_type 34 = .ok (.isub, 1) := by decide +kernel
theorem dX8_type_35 : decode cX8_type 35 = .ok (.istore 4, 2) := by decide +kernel
theorem dX8_type_37 : decode cX8_type 37 = .ok (.iload 4, 2) := by decide +kernel
theorem dX8_type_39 : decode cX8_type 39 = .ok (.ifCond .lt 40, 3) := by decide +kernel
theorem dX8_type_42 : decode cX8_type 42 = .ok (.aload_n 0, 1) := by decide +kernel
theorem dX8_type_43 : decode cX8_type 43 = .ok (.getfield 26, 3) := by decide +kernel
theorem dX8_type_46 : decode cX8_type 46 = .ok (.aload_n 0, 1) := by decide +kernel
theorem dX8_type_47 : decode cX8_type 47 = .ok (.getfield 70, 3) := by decide +kernel
theorem dX8_type_50 : decode cX8_type 50 = .ok (.lload_n 1, 1) := by decide +kernel
theorem dX8_type_51 : decode cX8_type 51 = .ok (.bipush 8, 2) := by decide +kernel
theorem dX8_type_53 : decode cX8_type 53 = .ok (.iload 4, 2) := by decide +kernel
theorem dX8_type_55 : decode cX8_type 55 = .ok (.imul, 1) := by decide +kernel
theorem dX8_type_56 : decode cX8_type 56 = .ok (.lshr, 1) := by decide +kernel
theorem dX8_type_57 : decode cX8_type 57 = .ok (.ldc2_w 73, 3) := by decide +kernel
theorem dX8_type_60 : decode cX8_type 60 = .ok (.land, 1) := by decide +kernel
theorem dX8_type_61 : decode cX8_type 61 = .ok (.l2i, 1) := by decide +kernel
theorem dX8_type_62 : decode cX8_type 62 = .ok (.iastore, 1) := by decide +kernel
theorem dX8_type_63 : decode cX8_type 63 = .ok (.aload_n 0, 1) := by decide +kernel
theorem dX8_type_64 : decode cX8_type 64 = .ok (.dup, 1) := by decide +kernel
theorem dX8_type_65 : decode cX8_type 65 = .ok (.getfield 70, 3) := by decide +kernel
theorem dX8_type_68 : decode cX8_type 68 = .ok (.iconst 1, 1) := by decide +kernel
theorem dX8_type_69 : decode cX8_type 69 = .ok (.iadd, 1) := by decide +kernel
theorem dX8_type_70 : decode cX8_type 70 = .ok (.putfield 70, 3) := by decide +kernel
theorem dX8_type_73 : decode cX8_type 73 = .ok (.iinc 4 (-1), 3) := by decide +kernel
theorem dX8_type_76 : decode cX8_type 76 = .ok (.goto (-39), 3) := by decide +kernel
theorem dX8_type_79 : decode cX8_type 79 = .ok (.aload_n 0, 1) := by decide +kernel
theorem dX8_type_80 : decode cX8_type 80 = .ok (.getfield 70, 3) := by decide +kernel
theorem dX8_type_83 : decode cX8_type 83 = .ok (.ireturn, 1) := by decide +kernel
theorem dX8_clear_0 : decode cX8_clear 0 = .ok (.aload_n 0, 1) := by decide +kernel
theorem dX8_clear_1 : decode cX8_clear 1 = .ok (.iconst 0, 1) := by decide +kernel
theorem dX8_clear_2 : decode cX8_clear 2 = .ok (.putfield 57, 3) := by decide +kernel
theorem dX8_clear_5 : decode cX8_clear 5 = .ok (.aload_n 0, 1) := by decide +kernel
theorem dX8_clear_6 : decode cX8_clear 6 = .ok (.getfield 70, 3) := by decide +kernel
theorem dX8_clear_9 : decode cX8_clear 9 = .ok (.istore_n 1, 1) := by decide +kernel
theorem dX8_clear_10 : decode cX8_clear 10 = .ok (.aload_n 0, 1) := by decide +kernel
theorem dX8_clear_11 : decode cX8_clear 11 = .ok (.iconst 0, 1) := by decide +kernel
theorem dX8_clear_12 : decode cX8_clear 12 = .ok (.putfield 70, 3) := by decide +kernel
theorem dX8_clear_15 : decode cX8_clear 15 = .ok (.iload_n 1, 1) := by decide +kernel
theorem dX8_clear_16 : decode cX8_clear 16 = .ok (.ireturn, 1) := by decide +kernel
theorem dX8_byteAt_0 : decode cX8_byteAt 0 = .ok (.iload_n 1, 1) := by decide +kernel
theorem dX8_byteAt_1 : decode cX8_byteAt 1 = .ok (.aload_n 0, 1) := by decide +kernel
theorem dX8_byteAt_2 : decode cX8_byteAt 2 = .ok (.getfield 70, 3) := by decide +kernel
theorem dX8_byteAt_5 : decode cX8_byteAt 5 = .ok (.if_icmp .ge 12, 3) := by decide +kernel
theorem dX8_byteAt_8 : decode cX8_byteAt 8 = .ok (.aload_n 0, 1) := by decide +kernel
theorem dX8_byteAt_9 : decode cX8_byteAt 9 = .ok (.getfield 26, 3) := by decide +kernel
theorem dX8_byteAt_12 : decode cX8_byteAt 12 = .ok (.iload_n 1, 1) := by decide +kernel
theorem dX8_byteAt_13 : decode cX8_byteAt 13 = .ok (.iaload, 1) := by decide +kernel
theorem dX8_byteAt_14 : decode cX8_byteAt 14 = .ok (.goto 4, 3) := by decide +kernel
theorem dX8_byteAt_17 : decode cX8_byteAt 17 = .ok (.iconst (-1), 1) := by decide +kernel
theorem dX8_byteAt_18 : decode cX8_byteAt 18 = .ok (.ireturn, 1) := by decide +kernel
theorem dX8_wordOf_0 : decode cX8_wordOf 0 = .ok (.lload_n 0, 1) := by decide +kernel
theorem dX8_wordOf_1 : decode cX8_wordOf 1 = .ok (.bipush 98, 2) := by decide +kernel
theorem dX8_wordOf_3 : decode cX8_wordOf 3 = .ok (.bipush 101, 2) := by decide +kernel
theorem dX8_wordOf_5 : decode cX8_wordOf 5 = .ok (.bipush 115, 2) := by decide +kernel
theorem dX8_wordOf_7 : decode cX8_wordOf 7 = .ok (.bipush 116, 2) := by decide +kernel
theorem dX8_wordOf_9 : decode cX8_wordOf 9 = .ok (.invokestatic 75, 3) := by decide +kernel
theorem dX8_wordOf_12 : decode cX8_wordOf 12 = .ok (.lcmp, 1) := by decide +kernel
theorem dX8_wordOf_13 : decode cX8_wordOf 13 = .ok (.ifCond .ne 7, 3) := by decide +kernel
theorem dX8_wordOf_16 : decode cX8_wordOf 16 = .ok (.iconst 0, 1) := by decide +kernel
theorem dX8_wordOf_17 : decode cX8_wordOf 17 = .ok (.goto 82, 3) := by decide +kernel
theorem dX8_wordOf_20 : decode cX8_wordOf 20 = .ok (.lload_n 0, 1) := by decide +kernel
theorem dX8_wordOf_21 : decode cX8_wordOf 21 = .ok (.bipush 109, 2) := by decide +kernel
theorem dX8_wordOf_23 : decode cX8_wordOf 23 = .ok (.bipush 111, 2) := by decide +kernel
theorem dX8_wordOf_25 : decode cX8_wordOf 25 = .ok (.bipush 118, 2) := by decide +kernel
theorem dX8_wordOf_27 : decode cX8_wordOf 27 = .ok (.bipush 101, 2) := by decide +kernel
theorem dX8_wordOf_29 : decode cX8_wordOf 29 = .ok (.invokestatic 75, 3) := by decide +kernel
theorem dX8_wordOf_32 : decode cX8_wordOf 32 = .ok (.lcmp, 1) := by decide +kernel
theorem dX8_wordOf_33 : decode cX8_wordOf 33 = .ok (.ifCond .ne 7, 3) := by decide +kernel
theorem dX8_wordOf_36 : decode cX8_wordOf 36 = .ok (.iconst 1, 1) := by decide +kernel
theorem dX8_wordOf_37 : decode cX8_wordOf 37 = .ok (.goto 62, 3) := by decide +kernel
theorem dX8_wordOf_40 : decode cX8_wordOf 40 = .ok (.lload_n 0, 1) := by decide +kernel
theorem dX8_wordOf_41 : decode cX8_wordOf 41 = .ok (.bipush 99, 2) := by decide +kernel
theorem dX8_wordOf_43 : decode cX8_wordOf 43 = .ok (.bipush 97, 2) := by decide +kernel
theorem dX8_wordOf_45 : decode cX8_wordOf 45 = .ok (.bipush 112, 2) := by decide +kernel
theorem dX8_wordOf_47 : decode cX8_wordOf 47 = .ok (.iconst 0, 1) := by decide +kernel
theorem dX8_wordOf_48 : decode cX8_wordOf 48 = .ok (.invokestatic 75, 3) := by decide +kernel
theorem dX8_wordOf_51 : decode cX8_wordOf 51 = .ok (.lcmp, 1) := by decide +kernel
theorem dX8_wordOf_52 : decode cX8_wordOf 52 = .ok (.ifCond .ne 7, 3) := by decide +kernel
theorem dX8_wordOf_55 : decode cX8_wordOf 55 = .ok (.iconst 2, 1) := by decide +kernel
theorem dX8_wordOf_56 : decode cX8_wordOf 56 = .ok (.goto 43, 3) := by decide +kernel
theorem dX8_wordOf_59 : decode cX8_wordOf 59 = .ok (.lload_n 0, 1) := by decide +kernel
theorem dX8_wordOf_60 : decode cX8_wordOf 60 = .ok (.bipush 111, 2) := by decide +kernel
theorem dX8_wordOf_62 : decode cX8_wordOf 62 = .ok (.bipush 118, 2) := by decide +kernel
theorem dX8_wordOf_64 : decode cX8_wordOf 64 = .ok (.bipush 101, 2) := by decide +kernel
theorem dX8_wordOf_66 : decode cX8_wordOf 66 = .ok (.bipush 114, 2) := by decide +kernel
theorem dX8_wordOf_68 : decode cX8_wordOf 68 = .ok (.invokestatic 75, 3) := by decide +kernel
theorem dX8_wordOf_71 : decode cX8_wordOf 71 = .ok (.lcmp, 1) := by decide +kernel
theorem dX8_wordOf_72 : decode cX8_wordOf 72 = .ok (.ifCond .ne 7, 3) := by decide +kernel
theorem dX8_wordOf_75 : decode cX8_wordOf 75 = .ok (.iconst 3, 1) := by decide +kernel
theorem dX8_wordOf_76 : decode cX8_wordOf 76 = .ok (.goto 23, 3) := by decide +kernel
theorem dX8_wordOf_79 : decode cX8_wordOf 79 = .ok (.lload_n 0, 1) := by decide +kernel
theorem dX8_wordOf_80 : decode cX8_wordOf 80 = .ok (.bipush 111, 2) := by decide +kernel
theorem dX8_wordOf_82 : decode cX8_wordOf 82 = .ok (.bipush 102, 2) := by decide +kernel
theorem dX8_wordOf_84 : decode cX8_wordOf 84 = .ok (.iconst 0, 1) := by decide +kernel
theorem dX8_wordOf_85 : decode cX8_wordOf 85 = .ok (.iconst 0, 1) := by decide +kernel
theorem dX8_wordOf_86 : decode cX8_wordOf 86 = .ok (.invokestatic 75, 3) := by decide +kernel
theorem dX8_wordOf_89 : decode cX8_wordOf 89 = .ok (.lcmp, 1) := by decide +kernel
theorem dX8_wordOf_90 : decode cX8_wordOf 90 = .ok (.ifCond .ne 7, 3) := by decide +kernel
theorem dX8_wordOf_93 : decode cX8_wordOf 93 = .ok (.iconst 4, 1) := by decide +kernel
theorem dX8_wordOf_94 : decode cX8_wordOf 94 = .ok (.goto 5, 3) := by decide +kernel
theorem dX8_wordOf_97 : decode cX8_wordOf 97 = .ok (.bipush (-9), 2) := by decide +kernel
theorem dX8_wordOf_99 : decode cX8_wordOf 99 = .ok (.ireturn, 1) := by decide +kernel
theorem dX8_named_0 : decode cX8_named 0 = .ok (.ldc2_w 79, 3) := by decide +kernel
theorem dX8_named_3 : decode cX8_named 3 = .ok (.iload_n 0, 1) := by decide +kernel
theorem dX8_named_4 : decode cX8_named 4 = .ok (.i2l, 1) := by decide +kernel
theorem dX8_named_5 : decode cX8_named 5 = .ok (.lmul, 1) := by decide +kernel
theorem dX8_named_6 : decode cX8_named 6 = .ok (.iload_n 1, 1) := by decide +kernel
theorem dX8_named_7 : decode cX8_named 7 = .ok (.i2l, 1) := by decide +kernel
theorem dX8_named_8 : decode cX8_named 8 = .ok (.ladd, 1) := by decide +kernel
theorem dX8_named_9 : decode cX8_named 9 = .ok (.lstore 4, 2) := by decide +kernel
theorem dX8_named_11 : decode cX8_named 11 = .ok (.iload_n 2, 1) := by decide +kernel
theorem dX8_named_12 : decode cX8_named 12 = .ok (.ifCond .ne 8, 3) := by decide +kernel
theorem dX8_named_15 : decode cX8_named 15 = .ok (.lload 4, 2) := by decide +kernel
theorem dX8_named_17 : decode cX8_named 17 = .ok (.goto 12, 3) := by decide +kernel
theorem dX8_named_20 : decode cX8_named 20 = .ok (.ldc2_w 79, 3) := by decide +kernel
theorem dX8_named_23 : decode cX8_named 23 = .ok (.lload 4, 2) := by decide +kernel
theorem dX8_named_25 : decode cX8_named 25 = .ok (.lmul, 1) := by decide +kernel
theorem dX8_named_26 : decode cX8_named 26 = .ok (.iload_n 2, 1) := by decide +kernel
theorem dX8_named_27 : decode cX8_named 27 = .ok (.i2l, 1) := by decide +kernel
theorem dX8_named_28 : decode cX8_named 28 = .ok (.ladd, 1) := by decide +kernel
theorem dX8_named_29 : decode cX8_named 29 = .ok (.lstore 4, 2) := by decide +kernel
theorem dX8_named_31 : decode cX8_named 31 = .ok (.iload_n 3, 1) := by decide +kernel
theorem dX8_named_32 : decode cX8_named 32 = .ok (.ifCond .ne 8, 3) := by decide +kernel
theorem dX8_named_35 : decode cX8_named 35 = .ok (.lload 4, 2) := by decide +kernel
theorem dX8_named_37 : decode cX8_named 37 = .ok (.goto 12, 3) := by decide +kernel
theorem dX8_named_40 : decode cX8_named 40 = .ok (.ldc2_w 79, 3) := by decide +kernel
theorem dX8_named_43 : decode cX8_named 43 = .ok (.lload 4, 2) := by decide +kernel
theorem dX8_named_45 : decode cX8_named 45 = .ok (.lmul, 1) := by decide +kernel
theorem dX8_named_46 : decode cX8_named 46 = .ok (.iload_n 3, 1) := by decide +kernel
theorem dX8_named_47 : decode cX8_named 47 = .ok (.i2l, 1) := by decide +kernel
theorem dX8_named_48 : decode cX8_named 48 = .ok (.ladd, 1) := by decide +kernel
theorem dX8_named_49 : decode cX8_named 49 = .ok (.lreturn, 1) := by decide +kernel
theorem dX8_advances_0 : decode cX8_advances 0 = .ok (.aload_n 0, 1) := by decide +kernel
theorem dX8_advances_1 : decode cX8_advances 1 = .ok (.aload_n 0, 1) := by decide +kernel
theorem dX8_advances_2 : decode cX8_advances 2 = .ok (.getfield 81, 3) := by decide +kernel
theorem dX8_advances_5 : decode cX8_advances 5 = .ok (.invokevirtual 84, 3) := by decide +kernel
theorem dX8_advances_8 : decode cX8_advances 8 = .ok (.bipush 32, 2) := by decide +kernel
theorem dX8_advances_10 : decode cX8_advances 10 = .ok (.if_icmp .ne 16, 3) := by decide +kernel
theorem dX8_advances_13 : decode cX8_advances 13 = .ok (.aload_n 0, 1) := by decide +kernel
theorem dX8_advances_14 : decode cX8_advances 14 = .ok (.dup, 1) := by decide +kernel
theorem dX8_advances_15 : decode cX8_advances 15 = .ok (.getfield 81, 3) := by decide +kernel
theorem dX8_advances_18 : decode cX8_advances 18 = .ok (.iconst 1, 1) := by decide +kernel
theorem dX8_advances_19 : decode cX8_advances 19 = .ok (.iadd, 1) := by decide +kernel
theorem dX8_advances_20 : decode cX8_advances 20 = .ok (.putfield 81, 3) := by decide +kernel
theorem dX8_advances_23 : decode cX8_advances 23 = .ok (.goto (-23), 3) := by decide +kernel
theorem dX8_advances_26 : decode cX8_advances 26 = .ok (.aload_n 0, 1) := by decide +kernel
theorem dX8_advances_27 : decode cX8_advances 27 = .ok (.aload_n 0, 1) := by decide +kernel
theorem dX8_advances_28 : decode cX8_advances 28 = .ok (.getfield 81, 3) := by decide +kernel
theorem dX8_advances_31 : decode cX8_advances 31 = .ok (.putfield 88, 3) := by decide +kernel
theorem dX8_advances_34 : decode cX8_advances 34 = .ok (.aload_n 0, 1) := by decide +kernel
theorem dX8_advances_35 : decode cX8_advances 35 = .ok (.aload_n 0, 1) := by decide +kernel
theorem dX8_advances_36 : decode cX8_advances 36 = .ok (.getfield 81, 3) := by decide +kernel
theorem dX8_advances_39 : decode cX8_advances 39 = .ok (.invokevirtual 84, 3) := by decide +kernel
theorem dX8_advances_42 : decode cX8_advances 42 = .ok (.istore_n 1, 1) := by decide +kernel
theorem dX8_advances_43 : decode cX8_advances 43 = .ok (.iload_n 1, 1) := by decide +kernel
theorem dX8_advances_44 : decode cX8_advances 44 = .ok (.ifCond .ge 11, 3) := by decide +kernel
theorem dX8_advances_47 : decode cX8_advances 47 = .ok (.aload_n 0, 1) := by decide +kernel
theorem dX8_advances_48 : decode cX8_advances 48 = .ok (.iconst 0, 1) := by decide +kernel
theorem dX8_advances_49 : decode cX8_advances 49 = .ok (.putfield 91, 3) := by decide +kernel
theorem dX8_advances_52 : decode cX8_advances 52 = .ok (.goto 273, 3) := by decide +kernel
theorem dX8_advances_55 : decode cX8_advances 55 = .ok (.iload_n 1, 1) := by decide +kernel
theorem dX8_advances_56 : decode cX8_advances 56 = .ok (.bipush 97, 2) := by decide +kernel
theorem dX8_advances_58 : decode cX8_advances 58 = .ok (.bipush 122, 2) := by decide +kernel
theorem dX8_advances_60 : decode cX8_advances 60 = .ok (.invokestatic 61, 3) := by decide +kernel
theorem dX8_advances_63 : decode cX8_advances 63 = .ok (.ifCond .eq 99, 3) := by decide +kernel
theorem dX8_advances_66 : decode cX8_advances 66 = .ok (.lconst 0, 1) := by decide +kernel
theorem dX8_advances_67 : decode cX8_advances 67 = .ok (.lstore_n 2, 1) := by decide +kernel
theorem dX8_advances_68 : decode cX8_advances 68 = .ok (.aload_n 0, 1) := by decide +kernel
theorem dX8_advances_69 : decode cX8_advances 69 = .ok (.aload_n 0, 1) := by decide +kernel
theorem dX8_advances_70 : decode cX8_advances 70 = .ok (.getfield 81, 3) := by decide +kernel
theorem dX8_advances_73 : decode cX8_advances 73 = .ok (.invokevirtual 84, 3) := by decide +kernel
theorem dX8_advances_76 : decode cX8_advances 76 = .ok (.bipush 97, 2) := by decide +kernel
theorem dX8_advances_78 : decode cX8_advances 78 = .ok (.bipush 122, 2) := by decide +kernel
theorem dX8_advances_80 : decode cX8_advances 80 = .ok (.invokestatic 61, 3) := by decide +kernel
theorem dX8_advances_83 : decode cX8_advances 83 = .ok (.ifCond .eq 50, 3) := by decide +kernel
theorem dX8_advances_86 : decode cX8_advances 86 = .ok (.aload_n 0, 1) := by decide +kernel
theorem dX8_advances_87 : decode cX8_advances 87 = .ok (.getfield 81, 3) := by decide +kernel
theorem dX8_advances_90 : decode cX8_advances 90 = .ok (.aload_n 0, 1) := by decide +kernel
theorem dX8_advances_91 : decode cX8_advances 91 = .ok (.getfield 88, 3) := by decide +kernel
theorem dX8_advances_94 : decode cX8_advances 94 = .ok (.isub, 1) := by decide +kernel
theorem dX8_advances_95 : decode cX8_advances 95 = .ok (.bipush 6, 2) := by decide +kernel
theorem dX8_advances_97 : decode cX8_advances 97 = .ok (.if_icmp .ge 21, 3) := by decide +kernel
theorem dX8_advances_100 : decode cX8_advances 100 = .ok (.ldc2_w 79, 3) := by decide +kernel
theorem dX8_advances_103 : decode cX8_advances 103 = .ok (.lload_n 2, 1) := by decide +kernel
theorem dX8_advances_104 : decode cX8_advances 104 = .ok (.lmul, 1) := by decide +kernel
theorem dX8_advances_105 : decode cX8_advances 105 = .ok (.aload_n 0, 1) := by decide +kernel
theorem dX8_advances_106 : decode cX8_advances 106 = .ok (.aload_n 0, 1) := by decide +kernel
theorem dX8_advances_107 : decode cX8_advances 107 = .ok (.getfield 81, 3) := by decide +kernel
theorem dX8_advances_110 : decode cX8_advances 110 = .ok (.invokevirtual 84, 3) := by decide +kernel
theorem dX8_advances_113 : decode cX8_advances 113 = .ok (.i2l, 1) := by decide +kernel
theorem dX8_advances_114 : decode cX8_advances 114 = .ok (.ladd, 1) := by decide +kernel
theorem dX8_advances_115 : decode cX8_advances 115 = .ok (.goto 4, 3) := by decide +kernel
theorem dX8_advances_118 : decode cX8_advances 118 = .ok (.lload_n 2, 1) := by decide +kernel
theorem dX8_advances_119 : decode cX8_advances 119 = .ok (.lstore_n 2, 1) := by decide +kernel
theorem dX8_advances_120 : decode cX8_advances 120 = .ok (.aload_n 0, 1) := by decide +kernel
theorem dX8_advances_121 : decode cX8_advances 121 = .ok (.dup, 1) := by decide +kernel
theorem dX8_advances_122 : decode cX8_advances 122 = .ok (.getfield 81, 3) := by decide +kernel
theorem dX8_advances_125 : decode cX8_advances 125 = .ok (.iconst 1, 1) := by decide +kernel
theorem dX8_advances_126 : decode cX8_advances 126 = .ok (.iadd, 1) := by decide +kernel
theorem dX8_advances_127 : decode cX8_advances 127 = .ok (.putfield 81, 3) := by decide +kernel
theorem dX8_advances_130 : decode cX8_advances 130 = .ok (.goto (-62), 3) := by decide +kernel
theorem dX8_advances_133 : decode cX8_advances 133 = .ok (.aload_n 0, 1) := by decide +kernel
theorem dX8_advances_134 : decode cX8_advances 134 = .ok (.lload_n 2, 1) := by decide +kernel
theorem dX8_advances_135 : decode cX8_advances 135 = .ok (.invokestatic 94, 3) := by decide +kernel
theorem dX8_advances_138 : decode cX8_advances 138 = .ok (.putfield 98, 3) := by decide +kernel
theorem dX8_advances_141 : decode cX8_advances 141 = .ok (.aload_n 0, 1) := by decide +kernel
theorem dX8_advances_142 : decode cX8_advances 142 = .ok (.aload_n 0, 1) := by decide +kernel
theorem dX8_advances_143 : decode cX8_advances 143 = .ok (.getfield 98, 3) := by decide +kernel
theorem dX8_advances_146 : decode cX8_advances 146 = .ok (.bipush (-9), 2) := by decide +kernel
theorem dX8_advances_148 : decode cX8_advances 148 = .ok (.if_icmp .ne 7, 3) := by decide +kernel
theorem dX8_advances_151 : decode cX8_advances 151 = .ok (.iconst 5, 1) := by decide +kernel
theorem dX8_advances_152 : decode cX8_advances 152 = .ok (.goto 4, 3) := by decide +kernel
theorem dX8_advances_155 : decode cX8_advances 155 = .ok (.iconst 1, 1) := by decide +kernel
theorem dX8_advances_156 : decode cX8_advances 156 = .ok (.putfield 91, 3) := by decide +kernel
theorem dX8_advances_159 : decode cX8_advances 159 = .ok (.goto 166, 3) := by decide +kernel
theorem dX8_advances_162 : decode cX8_advances 162 = .ok (.iload_n 1, 1) := by decide +kernel
theorem dX8_advances_163 : decode cX8_advances 163 = .ok (.bipush 48, 2) := by decide +kernel
theorem dX8_advances_165 : decode cX8_advances 165 = .ok (.bipush 57, 2) := by decide +kernel
theorem dX8_advances_167 : decode cX8_advances 167 = .ok (.invokestatic 61, 3) := by decide +kernel
theorem dX8_advances_170 : decode cX8_advances 170 = .ok (.ifCond .eq 120, 3) := by decide +kernel
theorem dX8_advances_173 : decode cX8_advances 173 = .ok (.aload_n 0, 1) := by decide +kernel
theorem dX8_advances_174 : decode cX8_advances 174 = .ok (.iconst 0, 1) := by decide +kernel
theorem dX8_advances_175 : decode cX8_advances 175 = .ok (.putfield 98, 3) := by decide +kernel
theorem dX8_advances_178 : decode cX8_advances 178 = .ok (.aload_n 0, 1) := by decide +kernel
theorem dX8_advances_179 : decode cX8_advances 179 = .ok (.aload_n 0, 1) := by decide +kernel
theorem dX8_advances_180 : decode cX8_advances 180 = .ok (.getfield 81, 3) := by decide +kernel
theorem dX8_advances_183 : decode cX8_advances 183 = .ok (.invokevirtual 84, 3) := by decide +kernel
theorem dX8_advances_186 : decode cX8_advances 186 = .ok (.bipush 48, 2) := by decide +kernel
theorem dX8_advances_188 : decode cX8_advances 188 = .ok (.bipush 57, 2) := by decide +kernel
theorem dX8_advances_190 : decode cX8_advances 190 = .ok (.invokestatic 61, 3) := by decide +kernel
theorem dX8_advances_193 : decode cX8_advances 193 = .ok (.ifCond .eq 56, 3) := by decide +kernel
theorem dX8_advances_196 : decode cX8_advances 196 = .ok (.aload_n 0, 1) := by decide +kernel
theorem dX8_advances_197 : decode cX8_advances 197 = .ok (.aload_n 0, 1) := by decide +kernel
theorem dX8_advances_198 : decode cX8_advances 198 = .ok (.getfield 98, 3) := by decide +kernel
theorem dX8_advances_201 : decode cX8_advances 201 = .ok (.sipush 999, 3) := by decide +kernel
theorem dX8_advances_204 : decode cX8_advances 204 = .ok (.if_icmp .le 10, 3) := by decide +kernel
theorem dX8_advances_207 : decode cX8_advances 207 = .ok (.aload_n 0, 1) := by decide +kernel
theorem dX8_advances_208 : decode cX8_advances 208 = .ok (.getfield 98, 3) := by decide +kernel
theorem dX8_advances_211 : decode cX8_advances 211 = .ok (.goto 22, 3) := by decide +kernel
theorem dX8_advances_214 : decode cX8_advances 214 = .ok (.bipush 10, 2) := by decide +kernel
theorem dX8_advances_216 : decode cX8_advances 216 = .ok (.aload_n 0, 1) := by decide +kernel
theorem dX8_advances_217 : decode cX8_advances 217 = .ok (.getfield 98, 3) := by decide +kernel
theorem dX8_advances_220 : decode cX8_advances 220 = .ok (.imul, 1) := by decide +kernel
theorem dX8_advances_221 : decode cX8_advances 221 = .ok (.aload_n 0, 1) := by decide +kernel
theorem dX8_advances_222 : decode cX8_advances 222 = .ok (.aload_n 0, 1) := by decide +kernel
theorem dX8_advances_223 : decode cX8_advances 223 = .ok (.getfield 81, 3) := by decide +kernel
theorem dX8_advances_226 : decode cX8_advances 226 = .ok (.invokevirtual 84, 3) := by decide +kernel
theorem dX8_advances_229 : decode cX8_advances 229 = .ok (.iadd, 1) := by decide +kernel
theorem dX8_advances_230 : decode cX8_advances 230 = .ok (.bipush 48, 2) := by decide +kernel
theorem dX8_advances_232 : decode cX8_advances 232 = .ok (.isub, 1) := by decide +kernel
theorem dX8_advances_233 : decode cX8_advances 233 = .ok (.putfield 98, 3) := by decide +kernel
theorem dX8_advances_236 : decode cX8_advances 236 = .ok (.aload_n 0, 1) := by decide +kernel
theorem dX8_advances_237 : decode cX8_advances 237 = .ok (.dup, 1) := by decide +kernel
theorem dX8_advances_238 : decode cX8_advances 238 = .ok (.getfield 81, 3) := by decide +kernel
theorem dX8_advances_241 : decode cX8_advances 241 = .ok (.iconst 1, 1) := by decide +kernel
theorem dX8_advances_242 : decode cX8_advances 242 = .ok (.iadd, 1) := by decide +kernel
theorem dX8_advances_243 : decode cX8_advances 243 = .ok (.putfield 81, 3) := by decide +kernel
theorem dX8_advances_246 : decode cX8_advances 246 = .ok (.goto (-68), 3) := by decide +kernel
theorem dX8_advances_249 : decode cX8_advances 249 = .ok (.aload_n 0, 1) := by decide +kernel
theorem dX8_advances_250 : decode cX8_advances 250 = .ok (.aload_n 0, 1) := by decide +kernel
theorem dX8_advances_251 : decode cX8_advances 251 = .ok (.getfield 98, 3) := by decide +kernel
theorem dX8_advances_254 : decode cX8_advances 254 = .ok (.sipush 999, 3) := by decide +kernel
theorem dX8_advances_257 : decode cX8_advances 257 = .ok (.if_icmp .gt 22, 3) := by decide +kernel
theorem dX8_advances_260 : decode cX8_advances 260 = .ok (.iload_n 1, 1) := by decide +kernel
theorem dX8_advances_261 : decode cX8_advances 261 = .ok (.bipush 48, 2) := by decide +kernel
theorem dX8_advances_263 : decode cX8_advances 263 = .ok (.if_icmp .ne 20, 3) := by decide +kernel
theorem dX8_advances_266 : decode cX8_advances 266 = .ok (.aload_n 0, 1) := by decide +kernel
theorem dX8_advances_267 : decode cX8_advances 267 = .ok (.getfield 81, 3) := by decide +kernel
theorem dX8_advances_270 : decode cX8_advances 270 = .ok (.aload_n 0, 1) := by decide +kernel
theorem dX8_advances_271 : decode cX8_advances 271 = .ok (.getfield 88, 3) := by decide +kernel
theorem dX8_advances_274 : decode cX8_advances 274 = .ok (.isub, 1) := by decide +kernel
theorem dX8_advances_275 : decode cX8_advances 275 = .ok (.iconst 1, 1) := by decide +kernel
theorem dX8_advances_276 : decode cX8_advances 276 = .ok (.if_icmp .le 7, 3) := by decide +kernel
theorem dX8_advances_279 : decode cX8_advances 279 = .ok (.iconst 5, 1) := by decide +kernel
theorem dX8_advances_280 : decode cX8_advances 280 = .ok (.goto 4, 3) := by decide +kernel
theorem dX8_advances_283 : decode cX8_advances 283 = .ok (.iconst 2, 1) := by decide +kernel
theorem dX8_advances_284 : decode cX8_advances 284 = .ok (.putfield 91, 3) := by decide +kernel
theorem dX8_advances_287 : decode cX8_advances 287 = .ok (.goto 38, 3) := by decide +kernel
theorem dX8_advances_290 : decode cX8_advances 290 = .ok (.aload_n 0, 1) := by decide +kernel
theorem dX8_advances_291 : decode cX8_advances 291 = .ok (.dup, 1) := by decide +kernel
theorem dX8_advances_292 : decode cX8_advances 292 = .ok (.getfield 81, 3) := by decide +kernel
theorem dX8_advances_295 : decode cX8_advances 295 = .ok (.iconst 1, 1) := by decide +kernel
theorem dX8_advances_296 : decode cX8_advances 296 = .ok (.iadd, 1) := by decide +kernel
theorem dX8_advances_297 : decode cX8_advances 297 = .ok (.putfield 81, 3) := by decide +kernel
theorem dX8_advances_300 : decode cX8_advances 300 = .ok (.aload_n 0, 1) := by decide +kernel
theorem dX8_advances_301 : decode cX8_advances 301 = .ok (.iload_n 1, 1) := by decide +kernel
theorem dX8_advances_302 : decode cX8_advances 302 = .ok (.bipush 47, 2) := by decide +kernel
theorem dX8_advances_304 : decode cX8_advances 304 = .ok (.if_icmp .ne 7, 3) := by decide +kernel
theorem dX8_advances_307 : decode cX8_advances 307 = .ok (.iconst 3, 1) := by decide +kernel
theorem dX8_advances_308 : decode cX8_advances 308 = .ok (.goto 14, 3) := by decide +kernel
theorem dX8_advances_311 : decode cX8_advances 311 = .ok (.iload_n 1, 1) := by decide +kernel
theorem dX8_advances_312 : decode cX8_advances 312 = .ok (.bipush 59, 2) := by decide +kernel
theorem dX8_advances_314 : decode cX8_advances 314 = .ok (.if_icmp .ne 7, 3) := by decide +kernel
theorem dX8_advances_317 : decode cX8_advances 317 = .ok (.iconst 4, 1) := by decide +kernel
theorem dX8_advances_318 : decode cX8_advances 318 = .ok (.goto 4, 3) := by decide +kernel
theorem dX8_advances_321 : decode cX8_advances 321 = .ok (.iconst 5, 1) := by decide +kernel
theorem dX8_advances_322 : decode cX8_advances 322 = .ok (.putfield 91, 3) := by decide +kernel
theorem dX8_advances_325 : decode cX8_advances 325 = .ok (.return_, 1) := by decide +kernel
theorem dX8_isWell_0 : decode cX8_isWell 0 = .ok (.aload_n 0, 1) := by decide +kernel
theorem dX8_isWell_1 : decode cX8_isWell 1 = .ok (.getfield 101, 3) := by decide +kernel
theorem dX8_isWell_4 : decode cX8_isWell 4 = .ok (.ifCond .ge 7, 3) := by decide +kernel
theorem dX8_isWell_7 : decode cX8_isWell 7 = .ok (.iconst 1, 1) := by decide +kernel
theorem dX8_isWell_8 : decode cX8_isWell 8 = .ok (.goto 4, 3) := by decide +kernel
theorem dX8_isWell_11 : decode cX8_isWell 11 = .ok (.iconst 0, 1) := by decide +kernel
theorem dX8_isWell_12 : decode cX8_isWell 12 = .ok (.ireturn, 1) := by decide +kernel
theorem dX8_takes_0 : decode cX8_takes 0 = .ok (.aload_n 0, 1) := by decide +kernel
theorem dX8_takes_1 : decode cX8_takes 1 = .ok (.invokevirtual 104, 3) := by decide +kernel
theorem dX8_takes_4 : decode cX8_takes 4 = .ok (.ifCond .ne 5, 3) := by decide +kernel
theorem dX8_takes_7 : decode cX8_takes 7 = .ok (.iconst 0, 1) := by decide +kernel
theorem dX8_takes_8 : decode cX8_takes 8 = .ok (.ireturn, 1) := by decide +kernel
theorem dX8_takes_9 : decode cX8_takes 9 = .ok (.iload_n 1, 1) := by decide +kernel
theorem dX8_takes_10 : decode cX8_takes 10 = .ok (.ifCond .ne 13, 3) := by decide +kernel
theorem dX8_takes_13 : decode cX8_takes 13 = .ok (.aload_n 0, 1) := by decide +kernel
theorem dX8_takes_14 : decode cX8_takes 14 = .ok (.aload_n 0, 1) := by decide +kernel
theorem dX8_takes_15 : decode cX8_takes 15 = .ok (.getfield 88, 3) := by decide +kernel
theorem dX8_takes_18 : decode cX8_takes 18 = .ok (.putfield 101, 3) := by decide +kernel
theorem dX8_takes_21 : decode cX8_takes 21 = .ok (.iconst 0, 1) := by decide +kernel
theorem dX8_takes_22 : decode cX8_takes 22 = .ok (.ireturn, 1) := by decide +kernel
theorem dX8_takes_23 : decode cX8_takes 23 = .ok (.aload_n 0, 1) := by decide +kernel
theorem dX8_takes_24 : decode cX8_takes 24 = .ok (.getfield 98, 3) := by decide +kernel
theorem dX8_takes_27 : decode cX8_takes 27 = .ok (.istore_n 2, 1) := by decide +kernel
theorem dX8_takes_28 : decode cX8_takes 28 = .ok (.aload_n 0, 1) := by decide +kernel
theorem dX8_takes_29 : decode cX8_takes 29 = .ok (.invokevirtual 108, 3) := by decide +kernel
theorem dX8_takes_32 : decode cX8_takes 32 = .ok (.iload_n 2, 1) := by decide +kernel
theorem dX8_takes_33 : decode cX8_takes 33 = .ok (.ireturn, 1) := by decide +kernel
theorem dX8_takesNumber_0 : decode cX8_takesNumber 0 = .ok (.aload_n 0, 1) := by decide +kernel
theorem dX8_takesNumber_1 : decode cX8_takesNumber 1 = .ok (.aload_n 0, 1) := by decide +kernel
theorem dX8_takesNumber_2 : decode cX8_takesNumber 2 = .ok (.getfield 91, 3) := by decide +kernel
theorem dX8_takesNumber_5 : decode cX8_takesNumber 5 = .ok (.iconst 2, 1) := by decide +kernel
theorem dX8_takesNumber_6 : decode cX8_takesNumber 6 = .ok (.if_icmp .ne 19, 3) := by decide +kernel
theorem dX8_takesNumber_9 : decode cX8_takesNumber 9 = .ok (.aload_n 0, 1) := by decide +kernel
theorem dX8_takesNumber_10 : decode cX8_takesNumber 10 = .ok (.getfield 98, 3) := by decide +kernel
theorem dX8_takesNumber_13 : decode cX8_takesNumber 13 = .ok (.iload_n 1, 1) := by decide +kernel
theorem dX8_takesNumber_14 : decode cX8_takesNumber 14 = .ok (.iload_n 2, 1) := by decide +kernel
theorem dX8_takesNumber_15 : decode cX8_takesNumber 15 = .ok (.invokestatic 61, 3) := by decide +kernel
theorem dX8_takesNumber_18 : decode cX8_takesNumber 18 = .ok (.ifCond .eq 7, 3) := by decide +kernel
theorem dX8_takesNumber_21 : decode cX8_takesNumber 21 = .ok (.iconst 1, 1) := by decide +kernel
theorem dX8_takesNumber_22 : decode cX8_takesNumber 22 = .ok (.goto 4, 3) := by decide +kernel
theorem dX8_takesNumber_25 : decode cX8_takesNumber 25 = .ok (.iconst 0, 1) := by decide +kernel
theorem dX8_takesNumber_26 : decode cX8_takesNumber 26 = .ok (.invokevirtual 111, 3) := by decide +kernel
theorem dX8_takesNumber_29 : decode cX8_takesNumber 29 = .ok (.ireturn, 1) := by decide +kernel
theorem dX8_rule_0 : decode cX8_rule 0 = .ok (.aload_n 0, 1) := by decide +kernel
theorem dX8_rule_1 : decode cX8_rule 1 = .ok (.iconst 0, 1) := by decide +kernel
theorem dX8_rule_2 : decode cX8_rule 2 = .ok (.putfield 57, 3) := by decide +kernel
theorem dX8_rule_5 : decode cX8_rule 5 = .ok (.aload_n 0, 1) := by decide +kernel
theorem dX8_rule_6 : decode cX8_rule 6 = .ok (.iconst (-1), 1) := by decide +kernel
theorem dX8_rule_7 : decode cX8_rule 7 = .ok (.putfield 101, 3) := by decide +kernel
theorem dX8_rule_10 : decode cX8_rule 10 = .ok (.aload_n 0, 1) := by decide +kernel
theorem dX8_rule_11 : decode cX8_rule 11 = .ok (.iconst 0, 1) := by decide +kernel
theorem dX8_rule_12 : decode cX8_rule 12 = .ok (.putfield 81, 3) := by decide +kernel
theorem dX8_rule_15 : decode cX8_rule 15 = .ok (.iconst 0, 1) := by decide +kernel
theorem dX8_rule_16 : decode cX8_rule 16 = .ok (.istore_n 1, 1) := by decide +kernel
theorem dX8_rule_17 : decode cX8_rule 17 = .ok (.iconst 0, 1) := by decide +kernel
theorem dX8_rule_18 : decode cX8_rule 18 = .ok (.istore_n 2, 1) := by decide +kernel
theorem dX8_rule_19 : decode cX8_rule 19 = .ok (.aload_n 0, 1) := by decide +kernel
theorem dX8_rule_20 : decode cX8_rule 20 = .ok (.invokevirtual 54, 3) := by decide +kernel
theorem dX8_rule_23 : decode cX8_rule 23 = .ok (.aload_n 0, 1) := by decide +kernel
theorem dX8_rule_24 : decode cX8_rule 24 = .ok (.invokevirtual 108, 3) := by decide +kernel
theorem dX8_rule_27 : decode cX8_rule 27 = .ok (.aload_n 0, 1) := by decide +kernel
theorem dX8_rule_28 : decode cX8_rule 28 = .ok (.invokevirtual 104, 3) := by decide +kernel
theorem dX8_rule_31 : decode cX8_rule 31 = .ok (.ifCond .eq 221, 3) := by decide +kernel
theorem dX8_rule_34 : decode cX8_rule 34 = .ok (.aload_n 0, 1) := by decide +kernel
theorem dX8_rule_35 : decode cX8_rule 35 = .ok (.getfield 91, 3) := by decide +kernel
theorem dX8_rule_38 : decode cX8_rule 38 = .ok (.ifCond .eq 214, 3) := by decide +kernel
theorem dX8_rule_41 : decode cX8_rule 41 = .ok (.aload_n 0, 1) := by decide +kernel
theorem dX8_rule_42 : decode cX8_rule 42 = .ok (.aload_n 0, 1) := by decide +kernel
theorem dX8_rule_43 : decode cX8_rule 43 = .ok (.getfield 91, 3) := by decide +kernel
theorem dX8_rule_46 : decode cX8_rule 46 = .ok (.iconst 1, 1) := by decide +kernel
theorem dX8_rule_47 : decode cX8_rule 47 = .ok (.if_icmp .ne 26, 3) := by decide +kernel
theorem dX8_rule_50 : decode cX8_rule 50 = .ok (.aload_n 0, 1) := by decide +kernel
theorem dX8_rule_51 : decode cX8_rule 51 = .ok (.getfield 98, 3) := by decide +kernel
theorem dX8_rule_54 : decode cX8_rule 54 = .ok (.iconst 4, 1) := by decide +kernel
theorem dX8_rule_55 : decode cX8_rule 55 = .ok (.if_icmp .ge 18, 3) := by decide +kernel
theorem dX8_rule_58 : decode cX8_rule 58 = .ok (.iload_n 2, 1) := by decide +kernel
theorem dX8_rule_59 : decode cX8_rule 59 = .ok (.aload_n 0, 1) := by decide +kernel
theorem dX8_rule_60 : decode cX8_rule 60 = .ok (.getfield 98, 3) := by decide +kernel
theorem dX8_rule_63 : decode cX8_rule 63 = .ok (.ishr, 1) := by decide +kernel
theorem dX8_rule_64 : decode cX8_rule 64 = .ok (.iconst 1, 1) := by decide +kernel
theorem dX8_rule_65 : decode cX8_rule 65 = .ok (.iand, 1) := by decide +kernel
theorem dX8_rule_66 : decode cX8_rule 66 = .ok (.ifCond .ne 7, 3) := by decide +kernel
theorem dX8_rule_69 : decode cX8_rule 69 = .ok (.iconst 1, 1) := by decide +kernel
theorem dX8_rule_70 : decode cX8_rule 70 = .ok (.goto 4, 3) := by decide +kernel
theorem dX8_rule_73 : decode cX8_rule 73 = .ok (.iconst 0, 1) := by decide +kernel
theorem dX8_rule_74 : decode cX8_rule 74 = .ok (.invokevirtual 111, 3) := by decide +kernel
theorem dX8_rule_77 : decode cX8_rule 77 = .ok (.istore_n 3, 1) := by decide +kernel
theorem dX8_rule_78 : decode cX8_rule 78 = .ok (.iload_n 2, 1) := by decide +kernel
theorem dX8_rule_79 : decode cX8_rule 79 = .ok (.iconst 1, 1) := by decide +kernel
theorem dX8_rule_80 : decode cX8_rule 80 = .ok (.iload_n 3, 1) := by decide +kernel
theorem dX8_rule_81 : decode cX8_rule 81 = .ok (.ishl, 1) := by decide +kernel
theorem dX8_rule_82 : decode cX8_rule 82 = .ok (.ior, 1) := by decide +kernel
theorem dX8_rule_83 : decode cX8_rule 83 = .ok (.istore_n 2, 1) := by decide +kernel
theorem dX8_rule_84 : decode cX8_rule 84 = .ok (.iload_n 3, 1) := by decide +kernel
theorem dX8_rule_85 : decode cX8_rule 85 = .ok (.ifCond .ne 66, 3) := by decide +kernel
theorem dX8_rule_88 : decode cX8_rule 88 = .ok (.aload_n 0, 1) := by decide +kernel
theorem dX8_rule_89 : decode cX8_rule 89 = .ok (.getfield 23, 3) := by decide +kernel
theorem dX8_rule_92 : decode cX8_rule 92 = .ok (.bipush 6, 2) := by decide +kernel
theorem dX8_rule_94 : decode cX8_rule 94 = .ok (.aload_n 0, 1) := by decide +kernel
theorem dX8_rule_95 : decode cX8_rule 95 = .ok (.iconst 1, 1) := by decide +kernel
theorem dX8_rule_96 : decode cX8_rule 96 = .ok (.bipush 12, 2) := by decide +kernel
theorem dX8_rule_98 : decode cX8_rule 98 = .ok (.invokevirtual 115, 3) := by decide +kernel
theorem dX8_rule_101 : decode cX8_rule 101 = .ok (.iastore, 1) := by decide +kernel
theorem dX8_rule_102 : decode cX8_rule 102 = .ok (.aload_n 0, 1) := by decide +kernel
theorem dX8_rule_103 : decode cX8_rule 103 = .ok (.aload_n 0, 1) := by decide +kernel
theorem dX8_rule_104 : decode cX8_rule 104 = .ok (.getfield 91, 3) := by decide +kernel
theorem dX8_rule_107 : decode cX8_rule 107 = .ok (.iconst 1, 1) := by decide +kernel
theorem dX8_rule_108 : decode cX8_rule 108 = .ok (.if_icmp .ne 15, 3) := by decide +kernel
theorem dX8_rule_111 : decode cX8_rule 111 = .ok (.aload_n 0, 1) := by decide +kernel
theorem dX8_rule_112 : decode cX8_rule 112 = .ok (.getfield 98, 3) := by decide +kernel
theorem dX8_rule_115 : decode cX8_rule 115 = .ok (.iconst 4, 1) := by decide +kernel
theorem dX8_rule_116 : decode cX8_rule 116 = .ok (.if_icmp .ne 7, 3) := by decide +kernel
theorem dX8_rule_119 : decode cX8_rule 119 = .ok (.iconst 1, 1) := by decide +kernel
theorem dX8_rule_120 : decode cX8_rule 120 = .ok (.goto 4, 3) := by decide +kernel
theorem dX8_rule_123 : decode cX8_rule 123 = .ok (.iconst 0, 1) := by decide +kernel
theorem dX8_rule_124 : decode cX8_rule 124 = .ok (.invokevirtual 111, 3) := by decide +kernel
theorem dX8_rule_127 : decode cX8_rule 127 = .ok (.pop, 1) := by decide +kernel
theorem dX8_rule_128 : decode cX8_rule 128 = .ok (.aload_n 0, 1) := by decide +kernel
theorem dX8_rule_129 : decode cX8_rule 129 = .ok (.getfield 23, 3) := by decide +kernel
theorem dX8_rule_132 : decode cX8_rule 132 = .ok (.bipush 7, 2) := by decide +kernel
theorem dX8_rule_134 : decode cX8_rule 134 = .ok (.aload_n 0, 1) := by decide +kernel
theorem dX8_rule_135 : decode cX8_rule 135 = .ok (.aload_n 0, 1) := by decide +kernel
theorem dX8_rule_136 : decode cX8_rule 136 = .ok (.getfield 23, 3) := by decide +kernel
theorem dX8_rule_139 : decode cX8_rule 139 = .ok (.bipush 6, 2) := by decide +kernel
theorem dX8_rule_141 : decode cX8_rule 141 = .ok (.iaload, 1) := by decide +kernel
theorem dX8_rule_142 : decode cX8_rule 142 = .ok (.bipush 12, 2) := by decide +kernel
theorem dX8_rule_144 : decode cX8_rule 144 = .ok (.invokevirtual 115, 3) := by decide +kernel
theorem dX8_rule_147 : decode cX8_rule 147 = .ok (.iastore, 1) := by decide +kernel
theorem dX8_rule_148 : decode cX8_rule 148 = .ok (.goto 80, 3) := by decide +kernel
theorem dX8_rule_151 : decode cX8_rule 151 = .ok (.iload_n 3, 1) := by decide +kernel
theorem dX8_rule_152 : decode cX8_rule 152 = .ok (.iconst 1, 1) := by decide +kernel
theorem dX8_rule_153 : decode cX8_rule 153 = .ok (.if_icmp .ne 58, 3) := by decide +kernel
theorem dX8_rule_156 : decode cX8_rule 156 = .ok (.aload_n 0, 1) := by decide +kernel
theorem dX8_rule_157 : decode cX8_rule 157 = .ok (.getfield 23, 3) := by decide +kernel
theorem dX8_rule_160 : decode cX8_rule 160 = .ok (.bipush 8, 2) := by decide +kernel
theorem dX8_rule_162 : decode cX8_rule 162 = .ok (.aload_n 0, 1) := by decide +kernel
theorem dX8_rule_163 : decode cX8_rule 163 = .ok (.iconst 1, 1) := by decide +kernel
theorem dX8_rule_164 : decode cX8_rule 164 = .ok (.bipush 20, 2) := by decide +kernel
theorem dX8_rule_166 : decode cX8_rule 166 = .ok (.invokevirtual 115, 3) := by decide +kernel
theorem dX8_rule_169 : decode cX8_rule 169 = .ok (.iastore, 1) := by decide +kernel
theorem dX8_rule_170 : decode cX8_rule 170 = .ok (.aload_n 0, 1) := by decide +kernel
theorem dX8_rule_171 : decode cX8_rule 171 = .ok (.aload_n 0, 1) := by decide +kernel
theorem dX8_rule_172 : decode cX8_rule 172 = .ok (.getfield 91, 3) := by decide +kernel
theorem dX8_rule_175 : decode cX8_rule 175 = .ok (.iconst 3, 1) := by decide +kernel
theorem dX8_rule_176 : decode cX8_rule 176 = .ok (.if_icmp .ne 7, 3) := by decide +kernel
theorem dX8_rule_179 : decode cX8_rule 179 = .ok (.iconst 1, 1) := by decide +kernel
theorem dX8_rule_180 : decode cX8_rule 180 = .ok (.goto 4, 3) := by decide +kernel
theorem dX8_rule_183 : decode cX8_rule 183 = .ok (.iconst 0, 1) := by decide +kernel
theorem dX8_rule_184 : decode cX8_rule 184 = .ok (.invokevirtual 111, 3) := by decide +kernel
theorem dX8_rule_187 : decode cX8_rule 187 = .ok (.pop, 1) := by decide +kernel
theorem dX8_rule_188 : decode cX8_rule 188 = .ok (.aload_n 0, 1) := by decide +kernel
theorem dX8_rule_189 : decode cX8_rule 189 = .ok (.getfield 23, 3) := by decide +kernel
theorem dX8_rule_192 : decode cX8_rule 192 = .ok (.bipush 9, 2) := by decide +kernel
theorem dX8_rule_194 : decode cX8_rule 194 = .ok (.aload_n 0, 1) := by decide +kernel
theorem dX8_rule_195 : decode cX8_rule 195 = .ok (.aload_n 0, 1) := by decide +kernel
theorem dX8_rule_196 : decode cX8_rule 196 = .ok (.getfield 23, 3) := by decide +kernel
theorem dX8_rule_199 : decode cX8_rule 199 = .ok (.bipush 8, 2) := by decide +kernel
theorem dX8_rule_201 : decode cX8_rule 201 = .ok (.iaload, 1) := by decide +kernel
theorem dX8_rule_202 : decode cX8_rule 202 = .ok (.bipush 20, 2) := by decide +kernel
theorem dX8_rule_204 : decode cX8_rule 204 = .ok (.invokevirtual 115, 3) := by decide +kernel
theorem dX8_rule_207 : decode cX8_rule 207 = .ok (.iastore, 1) := by decide +kernel
theorem dX8_rule_208 : decode cX8_rule 208 = .ok (.goto 20, 3) := by decide +kernel
theorem dX8_rule_211 : decode cX8_rule 211 = .ok (.aload_n 0, 1) := by decide +kernel
theorem dX8_rule_212 : decode cX8_rule 212 = .ok (.getfield 23, 3) := by decide +kernel
theorem dX8_rule_215 : decode cX8_rule 215 = .ok (.bipush 8, 2) := by decide +kernel
theorem dX8_rule_217 : decode cX8_rule 217 = .ok (.iload_n 3, 1) := by decide +kernel
theorem dX8_rule_218 : decode cX8_rule 218 = .ok (.iadd, 1) := by decide +kernel
theorem dX8_rule_219 : decode cX8_rule 219 = .ok (.aload_n 0, 1) := by decide +kernel
theorem dX8_rule_220 : decode cX8_rule 220 = .ok (.iconst 0, 1) := by decide +kernel
theorem dX8_rule_221 : decode cX8_rule 221 = .ok (.sipush 200, 3) := by decide +kernel
theorem dX8_rule_224 : decode cX8_rule 224 = .ok (.invokevirtual 115, 3) := by decide +kernel
theorem dX8_rule_227 : decode cX8_rule 227 = .ok (.iastore, 1) := by decide +kernel
theorem dX8_rule_228 : decode cX8_rule 228 = .ok (.aload_n 0, 1) := by decide +kernel
theorem dX8_rule_229 : decode cX8_rule 229 = .ok (.aload_n 0, 1) := by decide +kernel
theorem dX8_rule_230 : decode cX8_rule 230 = .ok (.getfield 91, 3) := by decide +kernel
theorem dX8_rule_233 : decode cX8_rule 233 = .ok (.iconst 4, 1) := by decide +kernel
theorem dX8_rule_234 : decode cX8_rule 234 = .ok (.if_icmp .ne 7, 3) := by decide +kernel
theorem dX8_rule_237 : decode cX8_rule 237 = .ok (.iconst 1, 1) := by decide +kernel
theorem dX8_rule_238 : decode cX8_rule 238 = .ok (.goto 4, 3) := by decide +kernel
theorem dX8_rule_241 : decode cX8_rule 241 = .ok (.iconst 0, 1) := by decide +kernel
theorem dX8_rule_242 : decode cX8_rule 242 = .ok (.invokevirtual 111, 3) := by decide +kernel
theorem dX8_rule_245 : decode cX8_rule 245 = .ok (.pop, 1) := by decide +kernel
theorem dX8_rule_246 : decode cX8_rule 246 = .ok (.iinc 1 1, 3) := by decide +kernel
theorem dX8_rule_249 : decode cX8_rule 249 = .ok (.goto (-222), 3) := by decide +kernel
theorem dX8_rule_252 : decode cX8_rule 252 = .ok (.aload_n 0, 1) := by decide +kernel
theorem dX8_rule_253 : decode cX8_rule 253 = .ok (.invokevirtual 104, 3) := by decide +kernel
theorem dX8_rule_256 : decode cX8_rule 256 = .ok (.ifCond .ne 11, 3) := by decide +kernel
theorem dX8_rule_259 : decode cX8_rule 259 = .ok (.bipush (-10), 2) := by decide +kernel
theorem dX8_rule_261 : decode cX8_rule 261 = .ok (.aload_n 0, 1) := by decide +kernel
theorem dX8_rule_262 : decode cX8_rule 262 = .ok (.getfield 101, 3) := by decide +kernel
theorem dX8_rule_265 : decode cX8_rule 265 = .ok (.isub, 1) := by decide +kernel
theorem dX8_rule_266 : decode cX8_rule 266 = .ok (.ireturn, 1) := by decide +kernel
theorem dX8_rule_267 : decode cX8_rule 267 = .ok (.iconst 0, 1) := by decide +kernel
theorem dX8_rule_268 : decode cX8_rule 268 = .ok (.istore_n 3, 1) := by decide +kernel
theorem dX8_rule_269 : decode cX8_rule 269 = .ok (.iload_n 3, 1) := by decide +kernel
theorem dX8_rule_270 : decode cX8_rule 270 = .ok (.bipush 6, 2) := by decide +kernel
theorem dX8_rule_272 : decode cX8_rule 272 = .ok (.if_icmp .ge 24, 3) := by decide +kernel
theorem dX8_rule_275 : decode cX8_rule 275 = .ok (.aload_n 0, 1) := by decide +kernel
theorem dX8_rule_276 : decode cX8_rule 276 = .ok (.getfield 23, 3) := by decide +kernel
theorem dX8_rule_279 : decode cX8_rule 279 = .ok (.iload_n 3, 1) := by decide +kernel
theorem dX8_rule_280 : decode cX8_rule 280 = .ok (.aload_n 0, 1) := by decide +kernel
theorem dX8_rule_281 : decode cX8_rule 281 = .ok (.getfield 23, 3) := by decide +kernel
theorem dX8_rule_284 : decode cX8_rule 284 = .ok (.bipush 6, 2) := by decide +kernel
theorem dX8_rule_286 : decode cX8_rule 286 = .ok (.iload_n 3, 1) := by decide +kernel
theorem dX8_rule_287 : decode cX8_rule 287 = .ok (.iadd, 1) := by decide +kernel
theorem dX8_rule_288 : decode cX8_rule 288 = .ok (.iaload, 1) := by decide +kernel
theorem dX8_rule_289 : decode cX8_rule 289 = .ok (.iastore, 1) := by decide +kernel
theorem dX8_rule_290 : decode cX8_rule 290 = .ok (.iinc 3 1, 3) := by decide +kernel
theorem dX8_rule_293 : decode cX8_rule 293 = .ok (.goto (-24), 3) := by decide +kernel
theorem dX8_rule_296 : decode cX8_rule 296 = .ok (.aload_n 0, 1) := by decide +kernel
theorem dX8_rule_297 : decode cX8_rule 297 = .ok (.iconst 0, 1) := by decide +kernel
theorem dX8_rule_298 : decode cX8_rule 298 = .ok (.putfield 70, 3) := by decide +kernel
theorem dX8_rule_301 : decode cX8_rule 301 = .ok (.iload_n 1, 1) := by decide +kernel
theorem dX8_rule_302 : decode cX8_rule 302 = .ok (.ireturn, 1) := by decide +kernel
theorem dX8_told_0 : decode cX8_told 0 = .ok (.aload_n 0, 1) := by decide +kernel
theorem dX8_told_1 : decode cX8_told 1 = .ok (.iconst 0, 1) := by decide +kernel
theorem dX8_told_2 : decode cX8_told 2 = .ok (.putfield 57, 3) := by decide +kernel
theorem dX8_told_5 : decode cX8_told 5 = .ok (.iload_n 1, 1) := by decide +kernel
theorem dX8_told_6 : decode cX8_told 6 = .ok (.iconst 0, 1) := by decide +kernel
theorem dX8_told_7 : decode cX8_told 7 = .ok (.iconst 5, 1) := by decide +kernel
theorem dX8_told_8 : decode cX8_told 8 = .ok (.invokestatic 61, 3) := by decide +kernel
theorem dX8_told_11 : decode cX8_told 11 = .ok (.ifCond .eq 12, 3) := by decide +kernel
theorem dX8_told_14 : decode cX8_told 14 = .ok (.aload_n 0, 1) := by decide +kernel
theorem dX8_told_15 : decode cX8_told 15 = .ok (.getfield 23, 3) := by decide +kernel
theorem dX8_told_18 : decode cX8_told 18 = .ok (.iload_n 1, 1) := by decide +kernel
theorem dX8_told_19 : decode cX8_told 19 = .ok (.iaload, 1) := by decide +kernel
theorem dX8_told_20 : decode cX8_told 20 = .ok (.goto 4, 3) := by decide +kernel
theorem dX8_told_23 : decode cX8_told 23 = .ok (.iconst (-1), 1) := by decide +kernel
theorem dX8_told_24 : decode cX8_told 24 = .ok (.ireturn, 1) := by decide +kernel
theorem dX8_floor_0 : decode cX8_floor 0 = .ok (.iload_n 0, 1) := by decide +kernel
theorem dX8_floor_1 : decode cX8_floor 1 = .ok (.iload_n 1, 1) := by decide +kernel
theorem dX8_floor_2 : decode cX8_floor 2 = .ok (.idiv, 1) := by decide +kernel
theorem dX8_floor_3 : decode cX8_floor 3 = .ok (.istore_n 2, 1) := by decide +kernel
theorem dX8_floor_4 : decode cX8_floor 4 = .ok (.iload_n 0, 1) := by decide +kernel
theorem dX8_floor_5 : decode cX8_floor 5 = .ok (.iload_n 1, 1) := by decide +kernel
theorem dX8_floor_6 : decode cX8_floor 6 = .ok (.irem, 1) := by decide +kernel
theorem dX8_floor_7 : decode cX8_floor 7 = .ok (.ifCond .ge 9, 3) := by decide +kernel
theorem dX8_floor_10 : decode cX8_floor 10 = .ok (.iload_n 2, 1) := by decide +kernel
theorem dX8_floor_11 : decode cX8_floor 11 = .ok (.iconst 1, 1) := by decide +kernel
theorem dX8_floor_12 : decode cX8_floor 12 = .ok (.isub, 1) := by decide +kernel
theorem dX8_floor_13 : decode cX8_floor 13 = .ok (.goto 4, 3) := by decide +kernel
theorem dX8_floor_16 : decode cX8_floor 16 = .ok (.iload_n 2, 1) := by decide +kernel
theorem dX8_floor_17 : decode cX8_floor 17 = .ok (.ireturn, 1) := by decide +kernel
theorem dX8_moved_0 : decode cX8_moved 0 = .ok (.bipush 11, 2) := by decide +kernel
theorem dX8_moved_2 : decode cX8_moved 2 = .ok (.istore_n 3, 1) := by decide +kernel
theorem dX8_moved_3 : decode cX8_moved 3 = .ok (.iload_n 3, 1) := by decide +kernel
theorem dX8_moved_4 : decode cX8_moved 4 = .ok (.ifCond .le 23, 3) := by decide +kernel
theorem dX8_moved_7 : decode cX8_moved 7 = .ok (.aload_n 0, 1) := by decide +kernel
theorem dX8_moved_8 : decode cX8_moved 8 = .ok (.getfield 38, 3) := by decide +kernel
theorem dX8_moved_11 : decode cX8_moved 11 = .ok (.iload_n 3, 1) := by decide +kernel
theorem dX8_moved_12 : decode cX8_moved 12 = .ok (.aload_n 0, 1) := by decide +kernel
theorem dX8_moved_13 : decode cX8_moved 13 = .ok (.getfield 38, 3) := by decide +kernel
theorem dX8_moved_16 : decode cX8_moved 16 = .ok (.iload_n 3, 1) := by decide +kernel
theorem dX8_moved_17 : decode cX8_moved 17 = .ok (.iconst 1, 1) := by decide +kernel
theorem dX8_moved_18 : decode cX8_moved 18 = .ok (.isub, 1) := by decide +kernel
theorem dX8_moved_19 : decode cX8_moved 19 = .ok (.iaload, 1) := by decide +kernel
theorem dX8_moved_20 : decode cX8_moved 20 = .ok (.iastore, 1) := by decide +kernel
theorem dX8_moved_21 : decode cX8_moved 21 = .ok (.iinc 3 (-1), 3) := by decide +kernel
theorem dX8_moved_24 : decode cX8_moved 24 = .ok (.goto (-21), 3) := by decide +kernel
theorem dX8_moved_27 : decode cX8_moved 27 = .ok (.aload_n 0, 1) := by decide +kernel
theorem dX8_moved_28 : decode cX8_moved 28 = .ok (.getfield 38, 3) := by decide +kernel
theorem dX8_moved_31 : decode cX8_moved 31 = .ok (.iconst 0, 1) := by decide +kernel
theorem dX8_moved_32 : decode cX8_moved 32 = .ok (.iload_n 2, 1) := by decide +kernel
theorem dX8_moved_33 : decode cX8_moved 33 = .ok (.iastore, 1) := by decide +kernel
theorem dX8_moved_34 : decode cX8_moved 34 = .ok (.aload_n 0, 1) := by decide +kernel
theorem dX8_moved_35 : decode cX8_moved 35 = .ok (.dup, 1) := by decide +kernel
theorem dX8_moved_36 : decode cX8_moved 36 = .ok (.getfield 119, 3) := by decide +kernel
theorem dX8_moved_39 : decode cX8_moved 39 = .ok (.aload_n 0, 1) := by decide +kernel
theorem dX8_moved_40 : decode cX8_moved 40 = .ok (.getfield 119, 3) := by decide +kernel
theorem dX8_moved_43 : decode cX8_moved 43 = .ok (.bipush 12, 2) := by decide +kernel
theorem dX8_moved_45 : decode cX8_moved 45 = .ok (.if_icmp .ge 7, 3) := by decide +kernel
theorem dX8_moved_48 : decode cX8_moved 48 = .ok (.iconst 1, 1) := by decide +kernel
theorem dX8_moved_49 : decode cX8_moved 49 = .ok (.goto 4, 3) := by decide +kernel
theorem dX8_moved_52 : decode cX8_moved 52 = .ok (.iconst 0, 1) := by decide +kernel
theorem dX8_moved_53 : decode cX8_moved 53 = .ok (.iadd, 1) := by decide +kernel
theorem dX8_moved_54 : decode cX8_moved 54 = .ok (.putfield 119, 3) := by decide +kernel
theorem dX8_moved_57 : decode cX8_moved 57 = .ok (.aload_n 0, 1) := by decide +kernel
theorem dX8_moved_58 : decode cX8_moved 58 = .ok (.getfield 119, 3) := by decide +kernel
theorem dX8_moved_61 : decode cX8_moved 61 = .ok (.aload_n 0, 1) := by decide +kernel
theorem dX8_moved_62 : decode cX8_moved 62 = .ok (.getfield 23, 3) := by decide +kernel
theorem dX8_moved_65 : decode cX8_moved 65 = .ok (.iconst 1, 1) := by decide +kernel
theorem dX8_moved_66 : decode cX8_moved 66 = .ok (.iaload, 1) := by decide +kernel
theorem dX8_moved_67 : decode cX8_moved 67 = .ok (.if_icmp .ge 10, 3) := by decide +kernel
theorem dX8_moved_70 : decode cX8_moved 70 = .ok (.aload_n 0, 1) := by decide +kernel
theorem dX8_moved_71 : decode cX8_moved 71 = .ok (.getfield 119, 3) := by decide +kernel
theorem dX8_moved_74 : decode cX8_moved 74 = .ok (.goto 9, 3) := by decide +kernel
theorem dX8_moved_77 : decode cX8_moved 77 = .ok (.aload_n 0, 1) := by decide +kernel
theorem dX8_moved_78 : decode cX8_moved 78 = .ok (.getfield 23, 3) := by decide +kernel
theorem dX8_moved_81 : decode cX8_moved 81 = .ok (.iconst 1, 1) := by decide +kernel
theorem dX8_moved_82 : decode cX8_moved 82 = .ok (.iaload, 1) := by decide +kernel
theorem dX8_moved_83 : decode cX8_moved 83 = .ok (.istore_n 3, 1) := by decide +kernel
theorem dX8_moved_84 : decode cX8_moved 84 = .ok (.iconst 0, 1) := by decide +kernel
theorem dX8_moved_85 : decode cX8_moved 85 = .ok (.istore 4, 2) := by decide +kernel
theorem dX8_moved_87 : decode cX8_moved 87 = .ok (.iload 4, 2) := by decide +kernel
theorem dX8_moved_89 : decode cX8_moved 89 = .ok (.iload_n 3, 1) := by decide +kernel
theorem dX8_moved_90 : decode cX8_moved 90 = .ok (.if_icmp .ge 101, 3) := by decide +kernel
theorem dX8_moved_93 : decode cX8_moved 93 = .ok (.aload_n 0, 1) := by decide +kernel
theorem dX8_moved_94 : decode cX8_moved 94 = .ok (.getfield 38, 3) := by decide +kernel
theorem dX8_moved_97 : decode cX8_moved 97 = .ok (.iload 4, 2) := by decide +kernel
theorem dX8_moved_99 : decode cX8_moved 99 = .ok (.iaload, 1) := by decide +kernel
theorem dX8_moved_100 : decode cX8_moved 100 = .ok (.iload_n 1, 1) := by decide +kernel
theorem dX8_moved_101 : decode cX8_moved 101 = .ok (.aload_n 0, 1) := by decide +kernel
theorem dX8_moved_102 : decode cX8_moved 102 = .ok (.getfield 23, 3) := by decide +kernel
theorem dX8_moved_105 : decode cX8_moved 105 = .ok (.iconst 5, 1) := by decide +kernel
theorem dX8_moved_106 : decode cX8_moved 106 = .ok (.iaload, 1) := by decide +kernel
theorem dX8_moved_107 : decode cX8_moved 107 = .ok (.iadd, 1) := by decide +kernel
theorem dX8_moved_108 : decode cX8_moved 108 = .ok (.if_icmp .le 14, 3) := by decide +kernel
theorem dX8_moved_111 : decode cX8_moved 111 = .ok (.iload_n 1, 1) := by decide +kernel
theorem dX8_moved_112 : decode cX8_moved 112 = .ok (.aload_n 0, 1) := by decide +kernel
theorem dX8_moved_113 : decode cX8_moved 113 = .ok (.getfield 23, 3) := by decide +kernel
theorem dX8_moved_116 : decode cX8_moved 116 = .ok (.iconst 5, 1) := by decide +kernel
theorem dX8_moved_117 : decode cX8_moved 117 = .ok (.iaload, 1) := by decide +kernel
theorem dX8_moved_118 : decode cX8_moved 118 = .ok (.iadd, 1) := by decide +kernel
theorem dX8_moved_119 : decode cX8_moved 119 = .ok (.goto 10, 3) := by decide +kernel
theorem dX8_moved_122 : decode cX8_moved 122 = .ok (.aload_n 0, 1) := by decide +kernel
theorem dX8_moved_123 : decode cX8_moved 123 = .ok (.getfield 38, 3) := by decide +kernel
theorem dX8_moved_126 : decode cX8_moved 126 = .ok (.iload 4, 2) := by decide +kernel
theorem dX8_moved_128 : decode cX8_moved 128 = .ok (.iaload, 1) := by decide +kernel
theorem dX8_moved_129 : decode cX8_moved 129 = .ok (.istore 5, 2) := by decide +kernel
theorem dX8_moved_131 : decode cX8_moved 131 = .ok (.iload 4, 2) := by decide +kernel
theorem dX8_moved_133 : decode cX8_moved 133 = .ok (.istore 6, 2) := by decide +kernel
theorem dX8_moved_135 : decode cX8_moved 135 = .ok (.iload 6, 2) := by decide +kernel
theorem dX8_moved_137 : decode cX8_moved 137 = .ok (.ifCond .le 39, 3) := by decide +kernel
theorem dX8_moved_140 : decode cX8_moved 140 = .ok (.aload_n 0, 1) := by decide +kernel
theorem dX8_moved_141 : decode cX8_moved 141 = .ok (.getfield 41, 3) := by decide +kernel
theorem dX8_moved_144 : decode cX8_moved 144 = .ok (.iload 6, 2) := by decide +kernel
theorem dX8_moved_146 : decode cX8_moved 146 = .ok (.iconst 1, 1) := by decide +kernel
theorem dX8_moved_147 : decode cX8_moved 147 = .ok (.isub, 1) := by decide +kernel
theorem dX8_moved_148 : decode cX8_moved 148 = .ok (.iaload, 1) := by decide +kernel
theorem dX8_moved_149 : decode cX8_moved 149 = .ok (.iload 5, 2) := by decide +kernel
theorem dX8_moved_151 : decode cX8_moved 151 = .ok (.if_icmp .ge 25, 3) := by decide +kernel
theorem dX8_moved_154 : decode cX8_moved 154 = .ok (.aload_n 0, 1) := by decide +kernel
theorem dX8_moved_155 : decode cX8_moved 155 = .ok (.getfield 41, 3) := by decide +kernel
theorem dX8_moved_158 : decode cX8_moved 158 = .ok (.iload 6, 2) := by decide +kernel
theorem dX8_moved_160 : decode cX8_moved 160 = .ok (.aload_n 0, 1) := by decide +kernel
theorem dX8_moved_161 : decode cX8_moved 161 = .ok (.getfield 41, 3) := by decide +kernel
theorem dX8_moved_164 : decode cX8_moved 164 = .ok (.iload 6, 2) := by decide +kernel
theorem dX8_moved_166 : decode cX8_moved 166 = .ok (.iconst 1, 1) := by decide +kernel
theorem dX8_moved_167 : decode cX8_moved 167 = .ok (.isub, 1) := by decide +kernel
theorem dX8_moved_168 : decode cX8_moved 168 = .ok (.iaload, 1) := by decide +kernel
theorem dX8_moved_169 : decode cX8_moved 169 = .ok (.iastore, 1) := by decide +kernel
theorem dX8_moved_170 : decode cX8_moved 170 = .ok (.iinc 6 (-1), 3) := by decide +kernel
theorem dX8_moved_173 : decode cX8_moved 173 = .ok (.goto (-38), 3) := by decide +kernel
theorem dX8_moved_176 : decode cX8_moved 176 = .ok (.aload_n 0, 1) := by decide +kernel
theorem dX8_moved_177 : decode cX8_moved 177 = .ok (.getfield 41, 3) := by decide +kernel
theorem dX8_moved_180 : decode cX8_moved 180 = .ok (.iload 6, 2) := by decide +kernel
theorem dX8_moved_182 : decode cX8_moved 182 = .ok (.iload 5, 2) := by decide +kernel
theorem dX8_moved_184 : decode cX8_moved 184 = .ok (.iastore, 1) := by decide +kernel
theorem dX8_moved_185 : decode cX8_moved 185 = .ok (.iinc 4 1, 3) := by decide +kernel
theorem dX8_moved_188 : decode cX8_moved 188 = .ok (.goto (-101), 3) := by decide +kernel
theorem dX8_moved_191 : decode cX8_moved 191 = .ok (.iload_n 3, 1) := by decide +kernel
theorem dX8_moved_192 : decode cX8_moved 192 = .ok (.aload_n 0, 1) := by decide +kernel
theorem dX8_moved_193 : decode cX8_moved 193 = .ok (.getfield 23, 3) := by decide +kernel
theorem dX8_moved_196 : decode cX8_moved 196 = .ok (.iconst 0, 1) := by decide +kernel
theorem dX8_moved_197 : decode cX8_moved 197 = .ok (.iaload, 1) := by decide +kernel
theorem dX8_moved_198 : decode cX8_moved 198 = .ok (.if_icmp .ge 7, 3) := by decide +kernel
theorem dX8_moved_201 : decode cX8_moved 201 = .ok (.iload_n 3, 1) := by decide +kernel
theorem dX8_moved_202 : decode cX8_moved 202 = .ok (.goto 9, 3) := by decide +kernel
theorem dX8_moved_205 : decode cX8_moved 205 = .ok (.aload_n 0, 1) := by decide +kernel
theorem dX8_moved_206 : decode cX8_moved 206 = .ok (.getfield 23, 3) := by decide +kernel
theorem dX8_moved_209 : decode cX8_moved 209 = .ok (.iconst 0, 1) := by decide +kernel
theorem dX8_moved_210 : decode cX8_moved 210 = .ok (.iaload, 1) := by decide +kernel
theorem dX8_moved_211 : decode cX8_moved 211 = .ok (.istore 4, 2) := by decide +kernel
theorem dX8_moved_213 : decode cX8_moved 213 = .ok (.iconst 0, 1) := by decide +kernel
theorem dX8_moved_214 : decode cX8_moved 214 = .ok (.istore 5, 2) := by decide +kernel
theorem dX8_moved_216 : decode cX8_moved 216 = .ok (.iconst 0, 1) := by decide +kernel
theorem dX8_moved_217 : decode cX8_moved 217 = .ok (.istore 6, 2) := by decide +kernel
theorem dX8_moved_219 : decode cX8_moved 219 = .ok (.iload 6, 2) := by decide +kernel
theorem dX8_moved_221 : decode cX8_moved 221 = .ok (.iload 4, 2) := by decide +kernel
theorem dX8_moved_223 : decode cX8_moved 223 = .ok (.if_icmp .ge 21, 3) := by decide +kernel
theorem dX8_moved_226 : decode cX8_moved 226 = .ok (.iload 5, 2) := by decide +kernel
theorem dX8_moved_228 : decode cX8_moved 228 = .ok (.aload_n 0, 1) := by decide +kernel
theorem dX8_moved_229 : decode cX8_moved 229 = .ok (.getfield 41, 3) := by decide +kernel
theorem dX8_moved_232 : decode cX8_moved 232 = .ok (.iload 6, 2) := by decide +kernel
theorem dX8_moved_234 : decode cX8_moved 234 = .ok (.iaload, 1) := by decide +kernel
theorem dX8_moved_235 : decode cX8_moved 235 = .ok (.iadd, 1) := by decide +kernel
theorem dX8_moved_236 : decode cX8_moved 236 = .ok (.istore 5, 2) := by decide +kernel
theorem dX8_moved_238 : decode cX8_moved 238 = .ok (.iinc 6 1, 3) := by decide +kernel
theorem dX8_moved_241 : decode cX8_moved 241 = .ok (.goto (-22), 3) := by decide +kernel
theorem dX8_moved_244 : decode cX8_moved 244 = .ok (.aload_n 0, 1) := by decide +kernel
theorem dX8_moved_245 : decode cX8_moved 245 = .ok (.getfield 23, 3) := by decide +kernel
theorem dX8_moved_248 : decode cX8_moved 248 = .ok (.iconst 2, 1) := by decide +kernel
theorem dX8_moved_249 : decode cX8_moved 249 = .ok (.iaload, 1) := by decide +kernel
theorem dX8_moved_250 : decode cX8_moved 250 = .ok (.iload 5, 2) := by decide +kernel
theorem dX8_moved_252 : decode cX8_moved 252 = .ok (.iload 4, 2) := by decide +kernel
theorem dX8_moved_254 : decode cX8_moved 254 = .ok (.invokestatic 122, 3) := by decide +kernel
theorem dX8_moved_257 : decode cX8_moved 257 = .ok (.iload_n 1, 1) := by decide +kernel
theorem dX8_moved_258 : decode cX8_moved 258 = .ok (.isub, 1) := by decide +kernel
theorem dX8_moved_259 : decode cX8_moved 259 = .ok (.imul, 1) := by decide +kernel
theorem dX8_moved_260 : decode cX8_moved 260 = .ok (.aload_n 0, 1) := by decide +kernel
theorem dX8_moved_261 : decode cX8_moved 261 = .ok (.getfield 23, 3) := by decide +kernel
theorem dX8_moved_264 : decode cX8_moved 264 = .ok (.iconst 3, 1) := by decide +kernel
theorem dX8_moved_265 : decode cX8_moved 265 = .ok (.iaload, 1) := by decide +kernel
theorem dX8_moved_266 : decode cX8_moved 266 = .ok (.idiv, 1) := by decide +kernel
theorem dX8_moved_267 : decode cX8_moved 267 = .ok (.istore 6, 2) := by decide +kernel
theorem dX8_moved_269 : decode cX8_moved 269 = .ok (.iload_n 1, 1) := by decide +kernel
theorem dX8_moved_270 : decode cX8_moved 270 = .ok (.iload 6, 2) := by decide +kernel
theorem dX8_moved_272 : decode cX8_moved 272 = .ok (.aload_n 0, 1) := by decide +kernel
theorem dX8_moved_273 : decode cX8_moved 273 = .ok (.getfield 23, 3) := by decide +kernel
theorem dX8_moved_276 : decode cX8_moved 276 = .ok (.iconst 4, 1) := by decide +kernel
theorem dX8_moved_277 : decode cX8_moved 277 = .ok (.iaload, 1) := by decide +kernel
theorem dX8_moved_278 : decode cX8_moved 278 = .ok (.ineg, 1) := by decide +kernel
theorem dX8_moved_279 : decode cX8_moved 279 = .ok (.aload_n 0, 1) := by decide +kernel
theorem dX8_moved_280 : decode cX8_moved 280 = .ok (.getfield 23, 3) := by decide +kernel
theorem dX8_moved_283 : decode cX8_moved 283 = .ok (.iconst 4, 1) := by decide +kernel
theorem dX8_moved_284 : decode cX8_moved 284 = .ok (.iaload, 1) := by decide +kernel
theorem dX8_moved_285 : decode cX8_moved 285 = .ok (.invokestatic 125, 3) := by decide +kernel
theorem dX8_moved_288 : decode cX8_moved 288 = .ok (.iadd, 1) := by decide +kernel
theorem dX8_moved_289 : decode cX8_moved 289 = .ok (.iconst 0, 1) := by decide +kernel
theorem dX8_moved_290 : decode cX8_moved 290 = .ok (.sipush 200, 3) := by decide +kernel
theorem dX8_moved_293 : decode cX8_moved 293 = .ok (.invokestatic 125, 3) := by decide +kernel
theorem dX8_moved_296 : decode cX8_moved 296 = .ok (.ireturn, 1) := by decide +kernel
theorem dX8_ones_0 : decode cX8_ones 0 = .ok (.iconst 0, 1) := by decide +kernel
theorem dX8_ones_1 : decode cX8_ones 1 = .ok (.istore_n 1, 1) := by decide +kernel
theorem dX8_ones_2 : decode cX8_ones 2 = .ok (.iconst 0, 1) := by decide +kernel
theorem dX8_ones_3 : decode cX8_ones 3 = .ok (.istore_n 2, 1) := by decide +kernel
theorem dX8_ones_4 : decode cX8_ones 4 = .ok (.iload_n 2, 1) := by decide +kernel
theorem dX8_ones_5 : decode cX8_ones 5 = .ok (.bipush 8, 2) := by decide +kernel
theorem dX8_ones_7 : decode cX8_ones 7 = .ok (.if_icmp .ge 17, 3) := by decide +kernel
theorem dX8_ones_10 : decode cX8_ones 10 = .ok (.iload_n 1, 1) := by decide +kernel
theorem dX8_ones_11 : decode cX8_ones 11 = .ok (.iload_n 0, 1) := by decide +kernel
theorem dX8_ones_12 : decode cX8_ones 12 = .ok (.iload_n 2, 1) := by decide +kernel
theorem dX8_ones_13 : decode cX8_ones 13 = .ok (.ishr, 1) := by decide +kernel
theorem dX8_ones_14 : decode cX8_ones 14 = .ok (.iconst 1, 1) := by decide +kernel
theorem dX8_ones_15 : decode cX8_ones 15 = .ok (.iand, 1) := by decide +kernel
theorem dX8_ones_16 : decode cX8_ones 16 = .ok (.iadd, 1) := by decide +kernel
theorem dX8_ones_17 : decode cX8_ones 17 = .ok (.istore_n 1, 1) := by decide +kernel
theorem dX8_ones_18 : decode cX8_ones 18 = .ok (.iinc 2 1, 3) := by decide +kernel
theorem dX8_ones_21 : decode cX8_ones 21 = .ok (.goto (-17), 3) := by decide +kernel
theorem dX8_ones_24 : decode cX8_ones 24 = .ok (.iload_n 1, 1) := by decide +kernel
theorem dX8_ones_25 : decode cX8_ones 25 = .ok (.ireturn, 1) := by decide +kernel
theorem dX8_isField_0 : decode cX8_isField 0 = .ok (.iload_n 1, 1) := by decide +kernel
theorem dX8_isField_1 : decode cX8_isField 1 = .ok (.iconst 0, 1) := by decide +kernel
theorem dX8_isField_2 : decode cX8_isField 2 = .ok (.iconst 1, 1) := by decide +kernel
theorem dX8_isField_3 : decode cX8_isField 3 = .ok (.aload_n 0, 1) := by decide +kernel
theorem dX8_isField_4 : decode cX8_isField 4 = .ok (.getfield 7, 3) := by decide +kernel
theorem dX8_isField_7 : decode cX8_isField 7 = .ok (.sipush 168, 3) := by decide +kernel
theorem dX8_isField_10 : decode cX8_isField 10 = .ok (.iaload, 1) := by decide +kernel
theorem dX8_isField_11 : decode cX8_isField 11 = .ok (.ishl, 1) := by decide +kernel
theorem dX8_isField_12 : decode cX8_isField 12 = .ok (.iconst 1, 1) := by decide +kernel
theorem dX8_isField_13 : decode cX8_isField 13 = .ok (.isub, 1) := by decide +kernel
theorem dX8_isField_14 : decode cX8_isField 14 = .ok (.invokestatic 61, 3) := by decide +kernel
theorem dX8_isField_17 : decode cX8_isField 17 = .ok (.ifCond .eq 15, 3) := by decide +kernel
theorem dX8_isField_20 : decode cX8_isField 20 = .ok (.iload_n 1, 1) := by decide +kernel
theorem dX8_isField_21 : decode cX8_isField 21 = .ok (.invokestatic 129, 3) := by decide +kernel
theorem dX8_isField_24 : decode cX8_isField 24 = .ok (.iconst 1, 1) := by decide +kernel
theorem dX8_isField_25 : decode cX8_isField 25 = .ok (.if_icmp .le 7, 3) := by decide +kernel
theorem dX8_isField_28 : decode cX8_isField 28 = .ok (.iconst 1, 1) := by decide +kernel
theorem dX8_isField_29 : decode cX8_isField 29 = .ok (.goto 4, 3) := by decide +kernel
theorem dX8_isField_32 : decode cX8_isField 32 = .ok (.iconst 0, 1) := by decide +kernel
theorem dX8_isField_33 : decode cX8_isField 33 = .ok (.ireturn, 1) := by decide +kernel
theorem dX8_has_0 : decode cX8_has 0 = .ok (.iload_n 0, 1) := by decide +kernel
theorem dX8_has_1 : decode cX8_has 1 = .ok (.iload_n 1, 1) := by decide +kernel
theorem dX8_has_2 : decode cX8_has 2 = .ok (.ishr, 1) := by decide +kernel
theorem dX8_has_3 : decode cX8_has 3 = .ok (.iconst 1, 1) := by decide +kernel
theorem dX8_has_4 : decode cX8_has 4 = .ok (.iand, 1) := by decide +kernel
theorem dX8_has_5 : decode cX8_has 5 = .ok (.iconst 1, 1) := by decide +kernel
theorem dX8_has_6 : decode cX8_has 6 = .ok (.if_icmp .ne 7, 3) := by decide +kernel
theorem dX8_has_9 : decode cX8_has 9 = .ok (.iconst 1, 1) := by decide +kernel
theorem dX8_has_10 : decode cX8_has 10 = .ok (.goto 4, 3) := by decide +kernel
theorem dX8_has_13 : decode cX8_has 13 = .ok (.iconst 0, 1) := by decide +kernel
theorem dX8_has_14 : decode cX8_has 14 = .ok (.ireturn, 1) := by decide +kernel
theorem dX8_weighs_0 : decode cX8_weighs 0 = .ok (.sipush 999, 3) := by decide +kernel
theorem dX8_weighs_3 : decode cX8_weighs 3 = .ok (.istore_n 2, 1) := by decide +kernel
theorem dX8_weighs_4 : decode cX8_weighs 4 = .ok (.iconst 0, 1) := by decide +kernel
theorem dX8_weighs_5 : decode cX8_weighs 5 = .ok (.istore_n 3, 1) := by decide +kernel
theorem dX8_weighs_6 : decode cX8_weighs 6 = .ok (.iload_n 3, 1) := by decide +kernel
theorem dX8_weighs_7 : decode cX8_weighs 7 = .ok (.aload_n 0, 1) := by decide +kernel
theorem dX8_weighs_8 : decode cX8_weighs 8 = .ok (.getfield 7, 3) := by decide +kernel
theorem dX8_weighs_11 : decode cX8_weighs 11 = .ok (.sipush 168, 3) := by decide +kernel
theorem dX8_weighs_14 : decode cX8_weighs 14 = .ok (.iaload, 1) := by decide +kernel
theorem dX8_weighs_15 : decode cX8_weighs 15 = .ok (.if_icmp .ge 43, 3) := by decide +kernel
theorem dX8_weighs_18 : decode cX8_weighs 18 = .ok (.aload_n 0, 1) := by decide +kernel
theorem dX8_weighs_19 : decode cX8_weighs 19 = .ok (.getfield 7, 3) := by decide +kernel
theorem dX8_weighs_22 : decode cX8_weighs 22 = .ok (.bipush 21, 2) := by decide +kernel
theorem dX8_weighs_24 : decode cX8_weighs 24 = .ok (.iload_n 3, 1) := by decide +kernel
theorem dX8_weighs_25 : decode cX8_weighs 25 = .ok (.imul, 1) := by decide +kernel
theorem dX8_weighs_26 : decode cX8_weighs 26 = .ok (.iconst 1, 1) := by decide +kernel
theorem dX8_weighs_27 : decode cX8_weighs 27 = .ok (.iadd, 1) := by decide +kernel
theorem dX8_weighs_28 : decode cX8_weighs 28 = .ok (.iaload, 1) := by decide +kernel
theorem dX8_weighs_29 : decode cX8_weighs 29 = .ok (.istore 4, 2) := by decide +kernel
theorem dX8_weighs_31 : decode cX8_weighs 31 = .ok (.iload_n 1, 1) := by decide +kernel
theorem dX8_weighs_32 : decode cX8_weighs 32 = .ok (.iload_n 3, 1) := by decide +kernel
theorem dX8_weighs_33 : decode cX8_weighs 33 = .ok (.invokestatic 132, 3) := by decide +kernel
theorem dX8_weighs_36 : decode cX8_weighs 36 = .ok (.ifCond .eq 14, 3) := by decide +kernel
theorem dX8_weighs_39 : decode cX8_weighs 39 = .ok (.iload 4, 2) := by decide +kernel
theorem dX8_weighs_41 : decode cX8_weighs 41 = .ok (.iload_n 2, 1) := by decide +kernel
theorem dX8_weighs_42 : decode cX8_weighs 42 = .ok (.if_icmp .ge 8, 3) := by decide +kernel
theorem dX8_weighs_45 : decode cX8_weighs 45 = .ok (.iload 4, 2) := by decide +kernel
theorem dX8_weighs_47 : decode cX8_weighs 47 = .ok (.goto 4, 3) := by decide +kernel
theorem dX8_weighs_50 : decode cX8_weighs 50 = .ok (.iload_n 2, 1) := by decide +kernel
theorem dX8_weighs_51 : decode cX8_weighs 51 = .ok (.istore_n 2, 1) := by decide +kernel
theorem dX8_weighs_52 : decode cX8_weighs 52 = .ok (.iinc 3 1, 3) := by decide +kernel
theorem dX8_weighs_55 : decode cX8_weighs 55 = .ok (.goto (-49), 3) := by decide +kernel
theorem dX8_weighs_58 : decode cX8_weighs 58 = .ok (.iconst 0, 1) := by decide +kernel
theorem dX8_weighs_59 : decode cX8_weighs 59 = .ok (.istore_n 3, 1) := by decide +kernel
theorem dX8_weighs_60 : decode cX8_weighs 60 = .ok (.iload_n 3, 1) := by decide +kernel
theorem dX8_weighs_61 : decode cX8_weighs 61 = .ok (.aload_n 0, 1) := by decide +kernel
theorem dX8_weighs_62 : decode cX8_weighs 62 = .ok (.getfield 7, 3) := by decide +kernel
theorem dX8_weighs_65 : decode cX8_weighs 65 = .ok (.sipush 168, 3) := by decide +kernel
theorem dX8_weighs_68 : decode cX8_weighs 68 = .ok (.iaload, 1) := by decide +kernel
theorem dX8_weighs_69 : decode cX8_weighs 69 = .ok (.if_icmp .ge 28, 3) := by decide +kernel
theorem dX8_weighs_72 : decode cX8_weighs 72 = .ok (.aload_n 0, 1) := by decide +kernel
theorem dX8_weighs_73 : decode cX8_weighs 73 = .ok (.getfield 44, 3) := by decide +kernel
theorem dX8_weighs_76 : decode cX8_weighs 76 = .ok (.iload_n 3, 1) := by decide +kernel
theorem dX8_weighs_77 : decode cX8_weighs 77 = .ok (.aload_n 0, 1) := by decide +kernel
theorem dX8_weighs_78 : decode cX8_weighs 78 = .ok (.getfield 7, 3) := by decide +kernel
theorem dX8_weighs_81 : decode cX8_weighs 81 = .ok (.bipush 21, 2) := by decide +kernel
theorem dX8_weighs_83 : decode cX8_weighs 83 = .ok (.iload_n 3, 1) := by decide +kernel
theorem dX8_weighs_84 : decode cX8_weighs 84 = .ok (.imul, 1) := by decide +kernel
theorem dX8_weighs_85 : decode cX8_weighs 85 = .ok (.iconst 1, 1) := by decide +kernel
theorem dX8_weighs_86 : decode cX8_weighs 86 = .ok (.iadd, 1) := by decide +kernel
theorem dX8_weighs_87 : decode cX8_weighs 87 = .ok (.iaload, 1) := by decide +kernel
theorem dX8_weighs_88 : decode cX8_weighs 88 = .ok (.iload_n 2, 1) := by decide +kernel
theorem dX8_weighs_89 : decode cX8_weighs 89 = .ok (.isub, 1) := by decide +kernel
theorem dX8_weighs_90 : decode cX8_weighs 90 = .ok (.iastore, 1) := by decide +kernel
theorem dX8_weighs_91 : decode cX8_weighs 91 = .ok (.iinc 3 1, 3) := by decide +kernel
theorem dX8_weighs_94 : decode cX8_weighs 94 = .ok (.goto (-34), 3) := by decide +kernel
theorem dX8_weighs_97 : decode cX8_weighs 97 = .ok (.return_, 1) := by decide +kernel
theorem dX8_bare_0 : decode cX8_bare 0 = .ok (.aload_n 0, 1) := by decide +kernel
theorem dX8_bare_1 : decode cX8_bare 1 = .ok (.getfield 7, 3) := by decide +kernel
theorem dX8_bare_4 : decode cX8_bare 4 = .ok (.bipush 21, 2) := by decide +kernel
theorem dX8_bare_6 : decode cX8_bare 6 = .ok (.iload_n 1, 1) := by decide +kernel
theorem dX8_bare_7 : decode cX8_bare 7 = .ok (.imul, 1) := by decide +kernel
theorem dX8_bare_8 : decode cX8_bare 8 = .ok (.iconst 2, 1) := by decide +kernel
theorem dX8_bare_9 : decode cX8_bare 9 = .ok (.iadd, 1) := by decide +kernel
theorem dX8_bare_10 : decode cX8_bare 10 = .ok (.iaload, 1) := by decide +kernel
theorem dX8_bare_11 : decode cX8_bare 11 = .ok (.istore_n 3, 1) := by decide +kernel
theorem dX8_bare_12 : decode cX8_bare 12 = .ok (.aload_n 0, 1) := by decide +kernel
theorem dX8_bare_13 : decode cX8_bare 13 = .ok (.getfield 7, 3) := by decide +kernel
theorem dX8_bare_16 : decode cX8_bare 16 = .ok (.bipush 21, 2) := by decide +kernel
theorem dX8_bare_18 : decode cX8_bare 18 = .ok (.iload_n 1, 1) := by decide +kernel
theorem dX8_bare_19 : decode cX8_bare 19 = .ok (.imul, 1) := by decide +kernel
theorem dX8_bare_20 : decode cX8_bare 20 = .ok (.iconst 0, 1) := by decide +kernel
theorem dX8_bare_21 : decode cX8_bare 21 = .ok (.iadd, 1) := by decide +kernel
theorem dX8_bare_22 : decode cX8_bare 22 = .ok (.iaload, 1) := by decide +kernel
theorem dX8_bare_23 : decode cX8_bare 23 = .ok (.aload_n 0, 1) := by decide +kernel
theorem dX8_bare_24 : decode cX8_bare 24 = .ok (.getfield 7, 3) := by decide +kernel
theorem dX8_bare_27 : decode cX8_bare 27 = .ok (.bipush 21, 2) := by decide +kernel
theorem dX8_bare_29 : decode cX8_bare 29 = .ok (.iload_n 1, 1) := by decide +kernel
theorem dX8_bare_30 : decode cX8_bare 30 = .ok (.imul, 1) := by decide +kernel
theorem dX8_bare_31 : decode cX8_bare 31 = .ok (.iconst 4, 1) := by decide +kernel
theorem dX8_bare_32 : decode cX8_bare 32 = .ok (.iadd, 1) := by decide +kernel
theorem dX8_bare_33 : decode cX8_bare 33 = .ok (.iload_n 2, 1) := by decide +kernel
theorem dX8_bare_34 : decode cX8_bare 34 = .ok (.iadd, 1) := by decide +kernel
theorem dX8_bare_35 : decode cX8_bare 35 = .ok (.iaload, 1) := by decide +kernel
theorem dX8_bare_36 : decode cX8_bare 36 = .ok (.iadd, 1) := by decide +kernel
theorem dX8_bare_37 : decode cX8_bare 37 = .ok (.iload_n 3, 1) := by decide +kernel
theorem dX8_bare_38 : decode cX8_bare 38 = .ok (.ifCond .ne 7, 3) := by decide +kernel
theorem dX8_bare_41 : decode cX8_bare 41 = .ok (.iconst 0, 1) := by decide +kernel
theorem dX8_bare_42 : decode cX8_bare 42 = .ok (.goto 9, 3) := by decide +kernel
theorem dX8_bare_45 : decode cX8_bare 45 = .ok (.aload_n 0, 1) := by decide +kernel
theorem dX8_bare_46 : decode cX8_bare 46 = .ok (.getfield 20, 3) := by decide +kernel
theorem dX8_bare_49 : decode cX8_bare 49 = .ok (.iload_n 3, 1) := by decide +kernel
theorem dX8_bare_50 : decode cX8_bare 50 = .ok (.iaload, 1) := by decide +kernel
theorem dX8_bare_51 : decode cX8_bare 51 = .ok (.isub, 1) := by decide +kernel
theorem dX8_bare_52 : decode cX8_bare 52 = .ok (.ireturn, 1) := by decide +kernel
theorem dX8_race_0 : decode cX8_race 0 = .ok (.aload_n 0, 1) := by decide +kernel
theorem dX8_race_1 : decode cX8_race 1 = .ok (.iconst 0, 1) := by decide +kernel
theorem dX8_race_2 : decode cX8_race 2 = .ok (.putfield 57, 3) := by decide +kernel
theorem dX8_race_5 : decode cX8_race 5 = .ok (.iload_n 1, 1) := by decide +kernel
theorem dX8_race_6 : decode cX8_race 6 = .ok (.iconst 0, 1) := by decide +kernel
theorem dX8_race_7 : decode cX8_race 7 = .ok (.iconst 2, 1) := by decide +kernel
theorem dX8_race_8 : decode cX8_race 8 = .ok (.invokestatic 61, 3) := by decide +kernel
theorem dX8_race_11 : decode cX8_race 11 = .ok (.ifCond .eq 11, 3) := by decide +kernel
theorem dX8_race_14 : decode cX8_race 14 = .ok (.aload_n 0, 1) := by decide +kernel
theorem dX8_race_15 : decode cX8_race 15 = .ok (.iload_n 2, 1) := by decide +kernel
theorem dX8_race_16 : decode cX8_race 16 = .ok (.invokevirtual 136, 3) := by decide +kernel
theorem dX8_race_19 : decode cX8_race 19 = .ok (.ifCond .ne 5, 3) := by decide +kernel
theorem dX8_race_22 : decode cX8_race 22 = .ok (.iconst (-1), 1) := by decide +kernel
theorem dX8_race_23 : decode cX8_race 23 = .ok (.ireturn, 1) := by decide +kernel
theorem dX8_race_24 : decode cX8_race 24 = .ok (.aload_n 0, 1) := by decide +kernel
theorem dX8_race_25 : decode cX8_race 25 = .ok (.iload_n 2, 1) := by decide +kernel
theorem dX8_race_26 : decode cX8_race 26 = .ok (.invokevirtual 139, 3) := by decide +kernel
theorem dX8_race_29 : decode cX8_race 29 = .ok (.bipush (-9), 2) := by decide +kernel
theorem dX8_race_31 : decode cX8_race 31 = .ok (.istore_n 3, 1) := by decide +kernel
theorem dX8_race_32 : decode cX8_race 32 = .ok (.iconst 0, 1) := by decide +kernel
theorem dX8_race_33 : decode cX8_race 33 = .ok (.istore 4, 2) := by decide +kernel
theorem dX8_race_35 : decode cX8_race 35 = .ok (.iload 4, 2) := by decide +kernel
theorem dX8_race_37 : decode cX8_race 37 = .ok (.aload_n 0, 1) := by decide +kernel
theorem dX8_race_38 : decode cX8_race 38 = .ok (.getfield 7, 3) := by decide +kernel
theorem dX8_race_41 : decode cX8_race 41 = .ok (.sipush 168, 3) := by decide +kernel
theorem dX8_race_44 : decode cX8_race 44 = .ok (.iaload, 1) := by decide +kernel
theorem dX8_race_45 : decode cX8_race 45 = .ok (.if_icmp .ge 166, 3) := by decide +kernel
theorem dX8_race_48 : decode cX8_race 48 = .ok (.iload_n 2, 1) := by decide +kernel
theorem dX8_race_49 : decode cX8_race 49 = .ok (.iload 4, 2) := by decide +kernel
theorem dX8_race_51 : decode cX8_race 51 = .ok (.invokestatic 132, 3) := by decide +kernel
theorem dX8_race_54 : decode cX8_race 54 = .ok (.ifCond .eq 151, 3) := by decide +kernel
theorem dX8_race_57 : decode cX8_race 57 = .ok (.aload_n 0, 1) := by decide +kernel
theorem dX8_race_58 : decode cX8_race 58 = .ok (.getfield 7, 3) := by decide +kernel
theorem dX8_race_61 : decode cX8_race 61 = .ok (.sipush 169, 3) := by decide +kernel
theorem dX8_race_64 : decode cX8_race 64 = .ok (.aload_n 0, 1) := by decide +kernel
theorem dX8_race_65 : decode cX8_race 65 = .ok (.getfield 7, 3) := by decide +kernel
theorem dX8_race_68 : decode cX8_race 68 = .ok (.sipush 169, 3) := by decide +kernel
theorem dX8_race_71 : decode cX8_race 71 = .ok (.iaload, 1) := by decide +kernel
theorem dX8_race_72 : decode cX8_race 72 = .ok (.ldc 143, 2) := by decide +kernel
theorem dX8_race_74 : decode cX8_race 74 = .ok (.imul, 1) := by decide +kernel
theorem dX8_race_75 : decode cX8_race 75 = .ok (.sipush 12345, 3) := by decide +kernel
theorem dX8_race_78 : decode cX8_race 78 = .ok (.iadd, 1) := by decide +kernel
theorem dX8_race_79 : decode cX8_race 79 = .ok (.iastore, 1) := by decide +kernel
theorem dX8_race_80 : decode cX8_race 80 = .ok (.aload_n 0, 1) := by decide +kernel
theorem dX8_race_81 : decode cX8_race 81 = .ok (.getfield 7, 3) := by decide +kernel
theorem dX8_race_84 : decode cX8_race 84 = .ok (.sipush 169, 3) := by decide +kernel
theorem dX8_race_87 : decode cX8_race 87 = .ok (.iaload, 1) := by decide +kernel
theorem dX8_race_88 : decode cX8_race 88 = .ok (.bipush 16, 2) := by decide +kernel
theorem dX8_race_90 : decode cX8_race 90 = .ok (.ishr, 1) := by decide +kernel
theorem dX8_race_91 : decode cX8_race 91 = .ok (.ldc 144, 2) := by decide +kernel
theorem dX8_race_93 : decode cX8_race 93 = .ok (.iand, 1) := by decide +kernel
theorem dX8_race_94 : decode cX8_race 94 = .ok (.iconst 2, 1) := by decide +kernel
theorem dX8_race_95 : decode cX8_race 95 = .ok (.aload_n 0, 1) := by decide +kernel
theorem dX8_race_96 : decode cX8_race 96 = .ok (.getfield 20, 3) := by decide +kernel
theorem dX8_race_99 : decode cX8_race 99 = .ok (.iconst 0, 1) := by decide +kernel
theorem dX8_race_100 : decode cX8_race 100 = .ok (.iaload, 1) := by decide +kernel
theorem dX8_race_101 : decode cX8_race 101 = .ok (.imul, 1) := by decide +kernel
theorem dX8_race_102 : decode cX8_race 102 = .ok (.iconst 1, 1) := by decide +kernel
theorem dX8_race_103 : decode cX8_race 103 = .ok (.iadd, 1) := by decide +kernel
theorem dX8_race_104 : decode cX8_race 104 = .ok (.irem, 1) := by decide +kernel
theorem dX8_race_105 : decode cX8_race 105 = .ok (.aload_n 0, 1) := by decide +kernel
theorem dX8_race_106 : decode cX8_race 106 = .ok (.getfield 20, 3) := by decide +kernel
theorem dX8_race_109 : decode cX8_race 109 = .ok (.iconst 0, 1) := by decide +kernel
theorem dX8_race_110 : decode cX8_race 110 = .ok (.iaload, 1) := by decide +kernel
theorem dX8_race_111 : decode cX8_race 111 = .ok (.isub, 1) := by decide +kernel
theorem dX8_race_112 : decode cX8_race 112 = .ok (.istore 5, 2) := by decide +kernel
theorem dX8_race_114 : decode cX8_race 114 = .ok (.aload_n 0, 1) := by decide +kernel
theorem dX8_race_115 : decode cX8_race 115 = .ok (.getfield 29, 3) := by decide +kernel
theorem dX8_race_118 : decode cX8_race 118 = .ok (.iconst 3, 1) := by decide +kernel
theorem dX8_race_119 : decode cX8_race 119 = .ok (.iload 4, 2) := by decide +kernel
theorem dX8_race_121 : decode cX8_race 121 = .ok (.imul, 1) := by decide +kernel
theorem dX8_race_122 : decode cX8_race 122 = .ok (.aload_n 0, 1) := by decide +kernel
theorem dX8_race_123 : decode cX8_race 123 = .ok (.iload 4, 2) := by decide +kernel
theorem dX8_race_125 : decode cX8_race 125 = .ok (.iload_n 1, 1) := by decide +kernel
theorem dX8_race_126 : decode cX8_race 126 = .ok (.invokevirtual 145, 3) := by decide +kernel
theorem dX8_race_129 : decode cX8_race 129 = .ok (.iload 5, 2) := by decide +kernel
theorem dX8_race_131 : decode cX8_race 131 = .ok (.iadd, 1) := by decide +kernel
theorem dX8_race_132 : decode cX8_race 132 = .ok (.aload_n 0, 1) := by decide +kernel
theorem dX8_race_133 : decode cX8_race 133 = .ok (.getfield 44, 3) := by decide +kernel
theorem dX8_race_136 : decode cX8_race 136 = .ok (.iload 4, 2) := by decide +kernel
theorem dX8_race_138 : decode cX8_race 138 = .ok (.iaload, 1) := by decide +kernel
theorem dX8_race_139 : decode cX8_race 139 = .ok (.isub, 1) := by decide +kernel
theorem dX8_race_140 : decode cX8_race 140 = .ok (.iastore, 1) := by decide +kernel
theorem dX8_race_141 : decode cX8_race 141 = .ok (.aload_n 0, 1) := by decide +kernel
theorem dX8_race_142 : decode cX8_race 142 = .ok (.getfield 29, 3) := by decide +kernel
theorem dX8_race_145 : decode cX8_race 145 = .ok (.iconst 3, 1) := by decide +kernel
theorem dX8_race_146 : decode cX8_race 146 = .ok (.iload 4, 2) := by decide +kernel
theorem dX8_race_148 : decode cX8_race 148 = .ok (.imul, 1) := by decide +kernel
theorem dX8_race_149 : decode cX8_race 149 = .ok (.iconst 1, 1) := by decide +kernel
theorem dX8_race_150 : decode cX8_race 150 = .ok (.iadd, 1) := by decide +kernel
theorem dX8_race_151 : decode cX8_race 151 = .ok (.aload_n 0, 1) := by decide +kernel
theorem dX8_race_152 : decode cX8_race 152 = .ok (.getfield 44, 3) := by decide +kernel
theorem dX8_race_155 : decode cX8_race 155 = .ok (.iload 4, 2) := by decide +kernel
theorem dX8_race_157 : decode cX8_race 157 = .ok (.iaload, 1) := by decide +kernel
theorem dX8_race_158 : decode cX8_race 158 = .ok (.iastore, 1) := by decide +kernel
theorem dX8_race_159 : decode cX8_race 159 = .ok (.aload_n 0, 1) := by decide +kernel
theorem dX8_race_160 : decode cX8_race 160 = .ok (.getfield 29, 3) := by decide +kernel
theorem dX8_race_163 : decode cX8_race 163 = .ok (.iconst 3, 1) := by decide +kernel
theorem dX8_race_164 : decode cX8_race 164 = .ok (.iload 4, 2) := by decide +kernel
theorem dX8_race_166 : decode cX8_race 166 = .ok (.imul, 1) := by decide +kernel
theorem dX8_race_167 : decode cX8_race 167 = .ok (.iconst 2, 1) := by decide +kernel
theorem dX8_race_168 : decode cX8_race 168 = .ok (.iadd, 1) := by decide +kernel
theorem dX8_race_169 : decode cX8_race 169 = .ok (.iload 5, 2) := by decide +kernel
theorem dX8_race_171 : decode cX8_race 171 = .ok (.iastore, 1) := by decide +kernel
theorem dX8_race_172 : decode cX8_race 172 = .ok (.iload_n 3, 1) := by decide +kernel
theorem dX8_race_173 : decode cX8_race 173 = .ok (.bipush (-9), 2) := by decide +kernel
theorem dX8_race_175 : decode cX8_race 175 = .ok (.if_icmp .eq 23, 3) := by decide +kernel
theorem dX8_race_178 : decode cX8_race 178 = .ok (.aload_n 0, 1) := by decide +kernel
theorem dX8_race_179 : decode cX8_race 179 = .ok (.getfield 29, 3) := by decide +kernel
theorem dX8_race_182 : decode cX8_race 182 = .ok (.iconst 3, 1) := by decide +kernel
theorem dX8_race_183 : decode cX8_race 183 = .ok (.iload 4, 2) := by decide +kernel
theorem dX8_race_185 : decode cX8_race 185 = .ok (.imul, 1) := by decide +kernel
theorem dX8_race_186 : decode cX8_race 186 = .ok (.iaload, 1) := by decide +kernel
theorem dX8_race_187 : decode cX8_race 187 = .ok (.aload_n 0, 1) := by decide +kernel
theorem dX8_race_188 : decode cX8_race 188 = .ok (.getfield 29, 3) := by decide +kernel
theorem dX8_race_191 : decode cX8_race 191 = .ok (.iconst 3, 1) := by decide +kernel
theorem dX8_race_192 : decode cX8_race 192 = .ok (.iload_n 3, 1) := by decide +kernel
theorem dX8_race_193 : decode cX8_race 193 = .ok (.imul, 1) := by decide +kernel
theorem dX8_race_194 : decode cX8_race 194 = .ok (.iaload, 1) := by decide +kernel
theorem dX8_race_195 : decode cX8_race 195 = .ok (.if_icmp .le 8, 3) := by decide +kernel
theorem dX8_race_198 : decode cX8_race 198 = .ok (.iload 4, 2) := by decide +kernel
theorem dX8_race_200 : decode cX8_race 200 = .ok (.goto 4, 3) := by decide +kernel
theorem dX8_race_203 : decode cX8_race 203 = .ok (.iload_n 3, 1) := by decide +kernel
theorem dX8_race_204 : decode cX8_race 204 = .ok (.istore_n 3, 1) := by decide +kernel
theorem dX8_race_205 : decode cX8_race 205 = .ok (.iinc 4 1, 3) := by decide +kernel
theorem dX8_race_208 : decode cX8_race 208 = .ok (.goto (-173), 3) := by decide +kernel
theorem dX8_race_211 : decode cX8_race 211 = .ok (.iconst 0, 1) := by decide +kernel
theorem dX8_race_212 : decode cX8_race 212 = .ok (.istore 4, 2) := by decide +kernel
theorem dX8_race_214 : decode cX8_race 214 = .ok (.iload 4, 2) := by decide +kernel
theorem dX8_race_216 : decode cX8_race 216 = .ok (.aload_n 0, 1) := by decide +kernel
theorem dX8_race_217 : decode cX8_race 217 = .ok (.getfield 7, 3) := by decide +kernel
theorem dX8_race_220 : decode cX8_race 220 = .ok (.sipush 168, 3) := by decide +kernel
theorem dX8_race_223 : decode cX8_race 223 = .ok (.iaload, 1) := by decide +kernel
theorem dX8_race_224 : decode cX8_race 224 = .ok (.if_icmp .ge 213, 3) := by decide +kernel
theorem dX8_race_227 : decode cX8_race 227 = .ok (.iload_n 2, 1) := by decide +kernel
theorem dX8_race_228 : decode cX8_race 228 = .ok (.iload 4, 2) := by decide +kernel
theorem dX8_race_230 : decode cX8_race 230 = .ok (.invokestatic 132, 3) := by decide +kernel
theorem dX8_race_233 : decode cX8_race 233 = .ok (.ifCond .eq 198, 3) := by decide +kernel
theorem dX8_race_236 : decode cX8_race 236 = .ok (.bipush 21, 2) := by decide +kernel
theorem dX8_race_238 : decode cX8_race 238 = .ok (.iload 4, 2) := by decide +kernel
theorem dX8_race_240 : decode cX8_race 240 = .ok (.imul, 1) := by decide +kernel
theorem dX8_race_241 : decode cX8_race 241 = .ok (.istore 5, 2) := by decide +kernel
theorem dX8_race_243 : decode cX8_race 243 = .ok (.aload_n 0, 1) := by decide +kernel
theorem dX8_race_244 : decode cX8_race 244 = .ok (.aload_n 0, 1) := by decide +kernel
theorem dX8_race_245 : decode cX8_race 245 = .ok (.getfield 7, 3) := by decide +kernel
theorem dX8_race_248 : decode cX8_race 248 = .ok (.iload 5, 2) := by decide +kernel
theorem dX8_race_250 : decode cX8_race 250 = .ok (.bipush 8, 2) := by decide +kernel
theorem dX8_race_252 : decode cX8_race 252 = .ok (.iadd, 1) := by decide +kernel
theorem dX8_race_253 : decode cX8_race 253 = .ok (.iaload, 1) := by decide +kernel
theorem dX8_race_254 : decode cX8_race 254 = .ok (.putfield 119, 3) := by decide +kernel
theorem dX8_race_257 : decode cX8_race 257 = .ok (.iconst 0, 1) := by decide +kernel
theorem dX8_race_258 : decode cX8_race 258 = .ok (.istore 6, 2) := by decide +kernel
theorem dX8_race_260 : decode cX8_race 260 = .ok (.iload 6, 2) := by decide +kernel
theorem dX8_race_262 : decode cX8_race 262 = .ok (.bipush 12, 2) := by decide +kernel
theorem dX8_race_264 : decode cX8_race 264 = .ok (.if_icmp .ge 29, 3) := by decide +kernel
theorem dX8_race_267 : decode cX8_race 267 = .ok (.aload_n 0, 1) := by decide +kernel
theorem dX8_race_268 : decode cX8_race 268 = .ok (.getfield 38, 3) := by decide +kernel
theorem dX8_race_271 : decode cX8_race 271 = .ok (.iload 6, 2) := by decide +kernel
theorem dX8_race_273 : decode cX8_race 273 = .ok (.aload_n 0, 1) := by decide +kernel
theorem dX8_race_274 : decode cX8_race 274 = .ok (.getfield 7, 3) := by decide +kernel
theorem dX8_race_277 : decode cX8_race 277 = .ok (.iload 5, 2) := by decide +kernel
theorem dX8_race_279 : decode cX8_race 279 = .ok (.bipush 9, 2) := by decide +kernel
theorem dX8_race_281 : decode cX8_race 281 = .ok (.iadd, 1) := by decide +kernel
theorem dX8_race_282 : decode cX8_race 282 = .ok (.iload 6, 2) := by decide +kernel
theorem dX8_race_284 : decode cX8_race 284 = .ok (.iadd, 1) := by decide +kernel
theorem dX8_race_285 : decode cX8_race 285 = .ok (.iaload, 1) := by decide +kernel
theorem dX8_race_286 : decode cX8_race 286 = .ok (.iastore, 1) := by decide +kernel
theorem dX8_race_287 : decode cX8_race 287 = .ok (.iinc 6 1, 3) := by decide +kernel
theorem dX8_race_290 : decode cX8_race 290 = .ok (.goto (-30), 3) := by decide +kernel
theorem dX8_race_293 : decode cX8_race 293 = .ok (.aload_n 0, 1) := by decide +kernel
theorem dX8_race_294 : decode cX8_race 294 = .ok (.getfield 7, 3) := by decide +kernel
theorem dX8_race_297 : decode cX8_race 297 = .ok (.iload 5, 2) := by decide +kernel
theorem dX8_race_299 : decode cX8_race 299 = .ok (.iconst 1, 1) := by decide +kernel
theorem dX8_race_300 : decode cX8_race 300 = .ok (.iadd, 1) := by decide +kernel
theorem dX8_race_301 : decode cX8_race 301 = .ok (.aload_n 0, 1) := by decide +kernel
theorem dX8_race_302 : decode cX8_race 302 = .ok (.aload_n 0, 1) := by decide +kernel
theorem dX8_race_303 : decode cX8_race 303 = .ok (.getfield 7, 3) := by decide +kernel
theorem dX8_race_306 : decode cX8_race 306 = .ok (.iload 5, 2) := by decide +kernel
theorem dX8_race_308 : decode cX8_race 308 = .ok (.iconst 1, 1) := by decide +kernel
theorem dX8_race_309 : decode cX8_race 309 = .ok (.iadd, 1) := by decide +kernel
theorem dX8_race_310 : decode cX8_race 310 = .ok (.iaload, 1) := by decide +kernel
theorem dX8_race_311 : decode cX8_race 311 = .ok (.aload_n 0, 1) := by decide +kernel
theorem dX8_race_312 : decode cX8_race 312 = .ok (.getfield 29, 3) := by decide +kernel
theorem dX8_race_315 : decode cX8_race 315 = .ok (.iconst 3, 1) := by decide +kernel
theorem dX8_race_316 : decode cX8_race 316 = .ok (.iload 4, 2) := by decide +kernel
theorem dX8_race_318 : decode cX8_race 318 = .ok (.imul, 1) := by decide +kernel
end
section
theorem dX8_race_319 : decode cX8_race 319 = .ok (.iaload, 1) := by decide +kernel
theorem dX8_race_320 : decode cX8_race 320 = .ok (.aload_n 0, 1) := by decide +kernel
theorem dX8_race_321 : decode cX8_race 321 = .ok (.getfield 44, 3) := by decide +kernel
theorem dX8_race_324 : decode cX8_race 324 = .ok (.iload 4, 2) := by decide +kernel
theorem dX8_race_326 : decode cX8_race 326 = .ok (.iaload, 1) := by decide +kernel
theorem dX8_race_327 : decode cX8_race 327 = .ok (.iadd, 1) := by decide +kernel
theorem dX8_race_328 : decode cX8_race 328 = .ok (.invokevirtual 148, 3) := by decide +kernel
theorem dX8_race_331 : decode cX8_race 331 = .ok (.iastore, 1) := by decide +kernel
theorem dX8_race_332 : decode cX8_race 332 = .ok (.aload_n 0, 1) := by decide +kernel
theorem dX8_race_333 : decode cX8_race 333 = .ok (.getfield 7, 3) := by decide +kernel
theorem dX8_race_336 : decode cX8_race 336 = .ok (.iload 5, 2) := by decide +kernel
theorem dX8_race_338 : decode cX8_race 338 = .ok (.bipush 8, 2) := by decide +kernel
theorem dX8_race_340 : decode cX8_race 340 = .ok (.iadd, 1) := by decide +kernel
theorem dX8_race_341 : decode cX8_race 341 = .ok (.aload_n 0, 1) := by decide +kernel
theorem dX8_race_342 : decode cX8_race 342 = .ok (.getfield 119, 3) := by decide +kernel
theorem dX8_race_345 : decode cX8_race 345 = .ok (.iastore, 1) := by decide +kernel
theorem dX8_race_346 : decode cX8_race 346 = .ok (.iconst 0, 1) := by decide +kernel
theorem dX8_race_347 : decode cX8_race 347 = .ok (.istore 6, 2) := by decide +kernel
theorem dX8_race_349 : decode cX8_race 349 = .ok (.iload 6, 2) := by decide +kernel
theorem dX8_race_351 : decode cX8_race 351 = .ok (.bipush 12, 2) := by decide +kernel
theorem dX8_race_353 : decode cX8_race 353 = .ok (.if_icmp .ge 29, 3) := by decide +kernel
theorem dX8_race_356 : decode cX8_race 356 = .ok (.aload_n 0, 1) := by decide +kernel
theorem dX8_race_357 : decode cX8_race 357 = .ok (.getfield 7, 3) := by decide +kernel
theorem dX8_race_360 : decode cX8_race 360 = .ok (.iload 5, 2) := by decide +kernel
theorem dX8_race_362 : decode cX8_race 362 = .ok (.bipush 9, 2) := by decide +kernel
theorem dX8_race_364 : decode cX8_race 364 = .ok (.iadd, 1) := by decide +kernel
theorem dX8_race_365 : decode cX8_race 365 = .ok (.iload 6, 2) := by decide +kernel
theorem dX8_race_367 : decode cX8_race 367 = .ok (.iadd, 1) := by decide +kernel
theorem dX8_race_368 : decode cX8_race 368 = .ok (.aload_n 0, 1) := by decide +kernel
theorem dX8_race_369 : decode cX8_race 369 = .ok (.getfield 38, 3) := by decide +kernel
theorem dX8_race_372 : decode cX8_race 372 = .ok (.iload 6, 2) := by decide +kernel
theorem dX8_race_374 : decode cX8_race 374 = .ok (.iaload, 1) := by decide +kernel
theorem dX8_race_375 : decode cX8_race 375 = .ok (.iastore, 1) := by decide +kernel
theorem dX8_race_376 : decode cX8_race 376 = .ok (.iinc 6 1, 3) := by decide +kernel
theorem dX8_race_379 : decode cX8_race 379 = .ok (.goto (-30), 3) := by decide +kernel
theorem dX8_race_382 : decode cX8_race 382 = .ok (.aload_n 0, 1) := by decide +kernel
theorem dX8_race_383 : decode cX8_race 383 = .ok (.getfield 7, 3) := by decide +kernel
theorem dX8_race_386 : decode cX8_race 386 = .ok (.iload 5, 2) := by decide +kernel
theorem dX8_race_388 : decode cX8_race 388 = .ok (.iconst 0, 1) := by decide +kernel
theorem dX8_race_389 : decode cX8_race 389 = .ok (.iadd, 1) := by decide +kernel
theorem dX8_race_390 : decode cX8_race 390 = .ok (.aload_n 0, 1) := by decide +kernel
theorem dX8_race_391 : decode cX8_race 391 = .ok (.getfield 7, 3) := by decide +kernel
theorem dX8_race_394 : decode cX8_race 394 = .ok (.iload 5, 2) := by decide +kernel
theorem dX8_race_396 : decode cX8_race 396 = .ok (.iconst 0, 1) := by decide +kernel
theorem dX8_race_397 : decode cX8_race 397 = .ok (.iadd, 1) := by decide +kernel
theorem dX8_race_398 : decode cX8_race 398 = .ok (.iaload, 1) := by decide +kernel
theorem dX8_race_399 : decode cX8_race 399 = .ok (.aload_n 0, 1) := by decide +kernel
theorem dX8_race_400 : decode cX8_race 400 = .ok (.getfield 7, 3) := by decide +kernel
theorem dX8_race_403 : decode cX8_race 403 = .ok (.iload 5, 2) := by decide +kernel
theorem dX8_race_405 : decode cX8_race 405 = .ok (.iconst 3, 1) := by decide +kernel
theorem dX8_race_406 : decode cX8_race 406 = .ok (.iadd, 1) := by decide +kernel
theorem dX8_race_407 : decode cX8_race 407 = .ok (.iaload, 1) := by decide +kernel
theorem dX8_race_408 : decode cX8_race 408 = .ok (.iadd, 1) := by decide +kernel
theorem dX8_race_409 : decode cX8_race 409 = .ok (.iconst 0, 1) := by decide +kernel
theorem dX8_race_410 : decode cX8_race 410 = .ok (.sipush 200, 3) := by decide +kernel
theorem dX8_race_413 : decode cX8_race 413 = .ok (.invokestatic 125, 3) := by decide +kernel
theorem dX8_race_416 : decode cX8_race 416 = .ok (.iastore, 1) := by decide +kernel
theorem dX8_race_417 : decode cX8_race 417 = .ok (.aload_n 0, 1) := by decide +kernel
theorem dX8_race_418 : decode cX8_race 418 = .ok (.getfield 7, 3) := by decide +kernel
theorem dX8_race_421 : decode cX8_race 421 = .ok (.iload 5, 2) := by decide +kernel
theorem dX8_race_423 : decode cX8_race 423 = .ok (.bipush 7, 2) := by decide +kernel
theorem dX8_race_425 : decode cX8_race 425 = .ok (.iadd, 1) := by decide +kernel
theorem dX8_race_426 : decode cX8_race 426 = .ok (.dup2, 1) := by decide +kernel
theorem dX8_race_427 : decode cX8_race 427 = .ok (.iaload, 1) := by decide +kernel
theorem dX8_race_428 : decode cX8_race 428 = .ok (.iconst 1, 1) := by decide +kernel
theorem dX8_race_429 : decode cX8_race 429 = .ok (.iadd, 1) := by decide +kernel
theorem dX8_race_430 : decode cX8_race 430 = .ok (.iastore, 1) := by decide +kernel
theorem dX8_race_431 : decode cX8_race 431 = .ok (.iinc 4 1, 3) := by decide +kernel
theorem dX8_race_434 : decode cX8_race 434 = .ok (.goto (-220), 3) := by decide +kernel
theorem dX8_race_437 : decode cX8_race 437 = .ok (.aload_n 0, 1) := by decide +kernel
theorem dX8_race_438 : decode cX8_race 438 = .ok (.iload_n 2, 1) := by decide +kernel
theorem dX8_race_439 : decode cX8_race 439 = .ok (.putfield 151, 3) := by decide +kernel
theorem dX8_race_442 : decode cX8_race 442 = .ok (.aload_n 0, 1) := by decide +kernel
theorem dX8_race_443 : decode cX8_race 443 = .ok (.getfield 7, 3) := by decide +kernel
theorem dX8_race_446 : decode cX8_race 446 = .ok (.sipush 170, 3) := by decide +kernel
theorem dX8_race_449 : decode cX8_race 449 = .ok (.dup2, 1) := by decide +kernel
theorem dX8_race_450 : decode cX8_race 450 = .ok (.iaload, 1) := by decide +kernel
theorem dX8_race_451 : decode cX8_race 451 = .ok (.iconst 1, 1) := by decide +kernel
theorem dX8_race_452 : decode cX8_race 452 = .ok (.iadd, 1) := by decide +kernel
theorem dX8_race_453 : decode cX8_race 453 = .ok (.iastore, 1) := by decide +kernel
theorem dX8_race_454 : decode cX8_race 454 = .ok (.iload_n 3, 1) := by decide +kernel
theorem dX8_race_455 : decode cX8_race 455 = .ok (.ireturn, 1) := by decide +kernel
theorem dX8_shown_0 : decode cX8_shown 0 = .ok (.aload_n 0, 1) := by decide +kernel
theorem dX8_shown_1 : decode cX8_shown 1 = .ok (.iconst 0, 1) := by decide +kernel
theorem dX8_shown_2 : decode cX8_shown 2 = .ok (.putfield 57, 3) := by decide +kernel
theorem dX8_shown_5 : decode cX8_shown 5 = .ok (.aload_n 0, 1) := by decide +kernel
theorem dX8_shown_6 : decode cX8_shown 6 = .ok (.iload_n 1, 1) := by decide +kernel
theorem dX8_shown_7 : decode cX8_shown 7 = .ok (.invokevirtual 65, 3) := by decide +kernel
theorem dX8_shown_10 : decode cX8_shown 10 = .ok (.ifCond .eq 36, 3) := by decide +kernel
theorem dX8_shown_13 : decode cX8_shown 13 = .ok (.aload_n 0, 1) := by decide +kernel
theorem dX8_shown_14 : decode cX8_shown 14 = .ok (.getfield 151, 3) := by decide +kernel
theorem dX8_shown_17 : decode cX8_shown 17 = .ok (.iload_n 1, 1) := by decide +kernel
theorem dX8_shown_18 : decode cX8_shown 18 = .ok (.invokestatic 132, 3) := by decide +kernel
theorem dX8_shown_21 : decode cX8_shown 21 = .ok (.ifCond .eq 25, 3) := by decide +kernel
theorem dX8_shown_24 : decode cX8_shown 24 = .ok (.iload_n 2, 1) := by decide +kernel
theorem dX8_shown_25 : decode cX8_shown 25 = .ok (.iconst 0, 1) := by decide +kernel
theorem dX8_shown_26 : decode cX8_shown 26 = .ok (.iconst 2, 1) := by decide +kernel
theorem dX8_shown_27 : decode cX8_shown 27 = .ok (.invokestatic 61, 3) := by decide +kernel
theorem dX8_shown_30 : decode cX8_shown 30 = .ok (.ifCond .eq 16, 3) := by decide +kernel
theorem dX8_shown_33 : decode cX8_shown 33 = .ok (.aload_n 0, 1) := by decide +kernel
theorem dX8_shown_34 : decode cX8_shown 34 = .ok (.getfield 29, 3) := by decide +kernel
theorem dX8_shown_37 : decode cX8_shown 37 = .ok (.iconst 3, 1) := by decide +kernel
theorem dX8_shown_38 : decode cX8_shown 38 = .ok (.iload_n 1, 1) := by decide +kernel
theorem dX8_shown_39 : decode cX8_shown 39 = .ok (.imul, 1) := by decide +kernel
theorem dX8_shown_40 : decode cX8_shown 40 = .ok (.iload_n 2, 1) := by decide +kernel
theorem dX8_shown_41 : decode cX8_shown 41 = .ok (.iadd, 1) := by decide +kernel
theorem dX8_shown_42 : decode cX8_shown 42 = .ok (.iaload, 1) := by decide +kernel
theorem dX8_shown_43 : decode cX8_shown 43 = .ok (.goto 5, 3) := by decide +kernel
theorem dX8_shown_46 : decode cX8_shown 46 = .ok (.ldc 69, 2) := by decide +kernel
theorem dX8_shown_48 : decode cX8_shown 48 = .ok (.ireturn, 1) := by decide +kernel
theorem dX8_weight_0 : decode cX8_weight 0 = .ok (.aload_n 0, 1) := by decide +kernel
theorem dX8_weight_1 : decode cX8_weight 1 = .ok (.iconst 0, 1) := by decide +kernel
theorem dX8_weight_2 : decode cX8_weight 2 = .ok (.putfield 57, 3) := by decide +kernel
theorem dX8_weight_5 : decode cX8_weight 5 = .ok (.aload_n 0, 1) := by decide +kernel
theorem dX8_weight_6 : decode cX8_weight 6 = .ok (.iload_n 2, 1) := by decide +kernel
theorem dX8_weight_7 : decode cX8_weight 7 = .ok (.invokevirtual 136, 3) := by decide +kernel
theorem dX8_weight_10 : decode cX8_weight 10 = .ok (.ifCond .eq 19, 3) := by decide +kernel
theorem dX8_weight_13 : decode cX8_weight 13 = .ok (.aload_n 0, 1) := by decide +kernel
theorem dX8_weight_14 : decode cX8_weight 14 = .ok (.iload_n 1, 1) := by decide +kernel
theorem dX8_weight_15 : decode cX8_weight 15 = .ok (.invokevirtual 65, 3) := by decide +kernel
theorem dX8_weight_18 : decode cX8_weight 18 = .ok (.ifCond .eq 11, 3) := by decide +kernel
theorem dX8_weight_21 : decode cX8_weight 21 = .ok (.iload_n 2, 1) := by decide +kernel
theorem dX8_weight_22 : decode cX8_weight 22 = .ok (.iload_n 1, 1) := by decide +kernel
theorem dX8_weight_23 : decode cX8_weight 23 = .ok (.invokestatic 132, 3) := by decide +kernel
theorem dX8_weight_26 : decode cX8_weight 26 = .ok (.ifCond .ne 5, 3) := by decide +kernel
theorem dX8_weight_29 : decode cX8_weight 29 = .ok (.iconst (-1), 1) := by decide +kernel
theorem dX8_weight_30 : decode cX8_weight 30 = .ok (.ireturn, 1) := by decide +kernel
theorem dX8_weight_31 : decode cX8_weight 31 = .ok (.aload_n 0, 1) := by decide +kernel
theorem dX8_weight_32 : decode cX8_weight 32 = .ok (.iload_n 2, 1) := by decide +kernel
theorem dX8_weight_33 : decode cX8_weight 33 = .ok (.invokevirtual 139, 3) := by decide +kernel
theorem dX8_weight_36 : decode cX8_weight 36 = .ok (.aload_n 0, 1) := by decide +kernel
theorem dX8_weight_37 : decode cX8_weight 37 = .ok (.getfield 44, 3) := by decide +kernel
theorem dX8_weight_40 : decode cX8_weight 40 = .ok (.iload_n 1, 1) := by decide +kernel
theorem dX8_weight_41 : decode cX8_weight 41 = .ok (.iaload, 1) := by decide +kernel
theorem dX8_weight_42 : decode cX8_weight 42 = .ok (.ireturn, 1) := by decide +kernel
theorem dX8_races_0 : decode cX8_races 0 = .ok (.aload_n 0, 1) := by decide +kernel
theorem dX8_races_1 : decode cX8_races 1 = .ok (.getfield 20, 3) := by decide +kernel
theorem dX8_races_4 : decode cX8_races 4 = .ok (.iconst 0, 1) := by decide +kernel
theorem dX8_races_5 : decode cX8_races 5 = .ok (.iaload, 1) := by decide +kernel
theorem dX8_races_6 : decode cX8_races 6 = .ok (.istore_n 3, 1) := by decide +kernel
theorem dX8_races_7 : decode cX8_races 7 = .ok (.iconst 0, 1) := by decide +kernel
theorem dX8_races_8 : decode cX8_races 8 = .ok (.istore 4, 2) := by decide +kernel
theorem dX8_races_10 : decode cX8_races 10 = .ok (.iload 4, 2) := by decide +kernel
theorem dX8_races_12 : decode cX8_races 12 = .ok (.aload_n 0, 1) := by decide +kernel
theorem dX8_races_13 : decode cX8_races 13 = .ok (.getfield 7, 3) := by decide +kernel
theorem dX8_races_16 : decode cX8_races 16 = .ok (.sipush 168, 3) := by decide +kernel
theorem dX8_races_19 : decode cX8_races 19 = .ok (.iaload, 1) := by decide +kernel
theorem dX8_races_20 : decode cX8_races 20 = .ok (.if_icmp .ge 169, 3) := by decide +kernel
theorem dX8_races_23 : decode cX8_races 23 = .ok (.aload_n 0, 1) := by decide +kernel
theorem dX8_races_24 : decode cX8_races 24 = .ok (.getfield 47, 3) := by decide +kernel
theorem dX8_races_27 : decode cX8_races 27 = .ok (.iload 4, 2) := by decide +kernel
theorem dX8_races_29 : decode cX8_races 29 = .ok (.lconst 0, 1) := by decide +kernel
theorem dX8_races_30 : decode cX8_races 30 = .ok (.lastore, 1) := by decide +kernel
theorem dX8_races_31 : decode cX8_races 31 = .ok (.iload_n 3, 1) := by decide +kernel
theorem dX8_races_32 : decode cX8_races 32 = .ok (.ineg, 1) := by decide +kernel
theorem dX8_races_33 : decode cX8_races 33 = .ok (.istore 5, 2) := by decide +kernel
theorem dX8_races_35 : decode cX8_races 35 = .ok (.iload 5, 2) := by decide +kernel
theorem dX8_races_37 : decode cX8_races 37 = .ok (.iload_n 3, 1) := by decide +kernel
theorem dX8_races_38 : decode cX8_races 38 = .ok (.if_icmp .gt 145, 3) := by decide +kernel
theorem dX8_races_41 : decode cX8_races 41 = .ok (.iload_n 2, 1) := by decide +kernel
theorem dX8_races_42 : decode cX8_races 42 = .ok (.iload 4, 2) := by decide +kernel
theorem dX8_races_44 : decode cX8_races 44 = .ok (.invokestatic 132, 3) := by decide +kernel
theorem dX8_races_47 : decode cX8_races 47 = .ok (.ifCond .eq 136, 3) := by decide +kernel
theorem dX8_races_50 : decode cX8_races 50 = .ok (.aload_n 0, 1) := by decide +kernel
theorem dX8_races_51 : decode cX8_races 51 = .ok (.iload 4, 2) := by decide +kernel
theorem dX8_races_53 : decode cX8_races 53 = .ok (.iload_n 1, 1) := by decide +kernel
theorem dX8_races_54 : decode cX8_races 54 = .ok (.invokevirtual 145, 3) := by decide +kernel
theorem dX8_races_57 : decode cX8_races 57 = .ok (.aload_n 0, 1) := by decide +kernel
theorem dX8_races_58 : decode cX8_races 58 = .ok (.getfield 44, 3) := by decide +kernel
theorem dX8_races_61 : decode cX8_races 61 = .ok (.iload 4, 2) := by decide +kernel
theorem dX8_races_63 : decode cX8_races 63 = .ok (.iaload, 1) := by decide +kernel
theorem dX8_races_64 : decode cX8_races 64 = .ok (.isub, 1) := by decide +kernel
theorem dX8_races_65 : decode cX8_races 65 = .ok (.iload 5, 2) := by decide +kernel
theorem dX8_races_67 : decode cX8_races 67 = .ok (.iadd, 1) := by decide +kernel
theorem dX8_races_68 : decode cX8_races 68 = .ok (.istore 6, 2) := by decide +kernel
theorem dX8_races_70 : decode cX8_races 70 = .ok (.lconst 1, 1) := by decide +kernel
theorem dX8_races_71 : decode cX8_races 71 = .ok (.lstore 7, 2) := by decide +kernel
theorem dX8_races_73 : decode cX8_races 73 = .ok (.iconst 0, 1) := by decide +kernel
theorem dX8_races_74 : decode cX8_races 74 = .ok (.istore 9, 2) := by decide +kernel
theorem dX8_races_76 : decode cX8_races 76 = .ok (.iload 9, 2) := by decide +kernel
theorem dX8_races_78 : decode cX8_races 78 = .ok (.aload_n 0, 1) := by decide +kernel
theorem dX8_races_79 : decode cX8_races 79 = .ok (.getfield 7, 3) := by decide +kernel
theorem dX8_races_82 : decode cX8_races 82 = .ok (.sipush 168, 3) := by decide +kernel
theorem dX8_races_85 : decode cX8_races 85 = .ok (.iaload, 1) := by decide +kernel
theorem dX8_races_86 : decode cX8_races 86 = .ok (.if_icmp .ge 79, 3) := by decide +kernel
theorem dX8_races_89 : decode cX8_races 89 = .ok (.iload 9, 2) := by decide +kernel
theorem dX8_races_91 : decode cX8_races 91 = .ok (.iload 4, 2) := by decide +kernel
theorem dX8_races_93 : decode cX8_races 93 = .ok (.if_icmp .eq 66, 3) := by decide +kernel
theorem dX8_races_96 : decode cX8_races 96 = .ok (.iload_n 2, 1) := by decide +kernel
theorem dX8_races_97 : decode cX8_races 97 = .ok (.iload 9, 2) := by decide +kernel
theorem dX8_races_99 : decode cX8_races 99 = .ok (.invokestatic 132, 3) := by decide +kernel
theorem dX8_races_102 : decode cX8_races 102 = .ok (.ifCond .eq 57, 3) := by decide +kernel
theorem dX8_races_105 : decode cX8_races 105 = .ok (.iload 6, 2) := by decide +kernel
theorem dX8_races_107 : decode cX8_races 107 = .ok (.iload 9, 2) := by decide +kernel
theorem dX8_races_109 : decode cX8_races 109 = .ok (.iload 4, 2) := by decide +kernel
theorem dX8_races_111 : decode cX8_races 111 = .ok (.if_icmp .ge 7, 3) := by decide +kernel
theorem dX8_races_114 : decode cX8_races 114 = .ok (.iconst 1, 1) := by decide +kernel
theorem dX8_races_115 : decode cX8_races 115 = .ok (.goto 4, 3) := by decide +kernel
theorem dX8_races_118 : decode cX8_races 118 = .ok (.iconst 0, 1) := by decide +kernel
theorem dX8_races_119 : decode cX8_races 119 = .ok (.isub, 1) := by decide +kernel
theorem dX8_races_120 : decode cX8_races 120 = .ok (.aload_n 0, 1) := by decide +kernel
theorem dX8_races_121 : decode cX8_races 121 = .ok (.iload 9, 2) := by decide +kernel
theorem dX8_races_123 : decode cX8_races 123 = .ok (.iload_n 1, 1) := by decide +kernel
theorem dX8_races_124 : decode cX8_races 124 = .ok (.invokevirtual 145, 3) := by decide +kernel
theorem dX8_races_127 : decode cX8_races 127 = .ok (.isub, 1) := by decide +kernel
theorem dX8_races_128 : decode cX8_races 128 = .ok (.aload_n 0, 1) := by decide +kernel
theorem dX8_races_129 : decode cX8_races 129 = .ok (.getfield 44, 3) := by decide +kernel
theorem dX8_races_132 : decode cX8_races 132 = .ok (.iload 9, 2) := by decide +kernel
theorem dX8_races_134 : decode cX8_races 134 = .ok (.iaload, 1) := by decide +kernel
theorem dX8_races_135 : decode cX8_races 135 = .ok (.iadd, 1) := by decide +kernel
theorem dX8_races_136 : decode cX8_races 136 = .ok (.istore 10, 2) := by decide +kernel
theorem dX8_races_138 : decode cX8_races 138 = .ok (.lload 7, 2) := by decide +kernel
theorem dX8_races_140 : decode cX8_races 140 = .ok (.iload 10, 2) := by decide +kernel
theorem dX8_races_142 : decode cX8_races 142 = .ok (.iload_n 3, 1) := by decide +kernel
theorem dX8_races_143 : decode cX8_races 143 = .ok (.iadd, 1) := by decide +kernel
theorem dX8_races_144 : decode cX8_races 144 = .ok (.iconst 1, 1) := by decide +kernel
theorem dX8_races_145 : decode cX8_races 145 = .ok (.iadd, 1) := by decide +kernel
theorem dX8_races_146 : decode cX8_races 146 = .ok (.iconst 0, 1) := by decide +kernel
theorem dX8_races_147 : decode cX8_races 147 = .ok (.iconst 2, 1) := by decide +kernel
theorem dX8_races_148 : decode cX8_races 148 = .ok (.iload_n 3, 1) := by decide +kernel
theorem dX8_races_149 : decode cX8_races 149 = .ok (.imul, 1) := by decide +kernel
theorem dX8_races_150 : decode cX8_races 150 = .ok (.iconst 1, 1) := by decide +kernel
theorem dX8_races_151 : decode cX8_races 151 = .ok (.iadd, 1) := by decide +kernel
theorem dX8_races_152 : decode cX8_races 152 = .ok (.invokestatic 125, 3) := by decide +kernel
theorem dX8_races_155 : decode cX8_races 155 = .ok (.i2l, 1) := by decide +kernel
theorem dX8_races_156 : decode cX8_races 156 = .ok (.lmul, 1) := by decide +kernel
theorem dX8_races_157 : decode cX8_races 157 = .ok (.lstore 7, 2) := by decide +kernel
theorem dX8_races_159 : decode cX8_races 159 = .ok (.iinc 9 1, 3) := by decide +kernel
theorem dX8_races_162 : decode cX8_races 162 = .ok (.goto (-86), 3) := by decide +kernel
theorem dX8_races_165 : decode cX8_races 165 = .ok (.aload_n 0, 1) := by decide +kernel
theorem dX8_races_166 : decode cX8_races 166 = .ok (.getfield 47, 3) := by decide +kernel
theorem dX8_races_169 : decode cX8_races 169 = .ok (.iload 4, 2) := by decide +kernel
theorem dX8_races_171 : decode cX8_races 171 = .ok (.dup2, 1) := by decide +kernel
theorem dX8_races_172 : decode cX8_races 172 = .ok (.laload, 1) := by decide +kernel
theorem dX8_races_173 : decode cX8_races 173 = .ok (.lload 7, 2) := by decide +kernel
theorem dX8_races_175 : decode cX8_races 175 = .ok (.ladd, 1) := by decide +kernel
theorem dX8_races_176 : decode cX8_races 176 = .ok (.lastore, 1) := by decide +kernel
theorem dX8_races_177 : decode cX8_races 177 = .ok (.iinc 5 1, 3) := by decide +kernel
theorem dX8_races_180 : decode cX8_races 180 = .ok (.goto (-145), 3) := by decide +kernel
theorem dX8_races_183 : decode cX8_races 183 = .ok (.iinc 4 1, 3) := by decide +kernel
theorem dX8_races_186 : decode cX8_races 186 = .ok (.goto (-176), 3) := by decide +kernel
theorem dX8_races_189 : decode cX8_races 189 = .ok (.return_, 1) := by decide +kernel
theorem dX8_allRows_0 : decode cX8_allRows 0 = .ok (.lconst 1, 1) := by decide +kernel
theorem dX8_allRows_1 : decode cX8_allRows 1 = .ok (.lstore_n 2, 1) := by decide +kernel
theorem dX8_allRows_2 : decode cX8_allRows 2 = .ok (.iload_n 1, 1) := by decide +kernel
theorem dX8_allRows_3 : decode cX8_allRows 3 = .ok (.invokestatic 129, 3) := by decide +kernel
theorem dX8_allRows_6 : decode cX8_allRows 6 = .ok (.istore 4, 2) := by decide +kernel
theorem dX8_allRows_8 : decode cX8_allRows 8 = .ok (.iload 4, 2) := by decide +kernel
theorem dX8_allRows_10 : decode cX8_allRows 10 = .ok (.ifCond .le 23, 3) := by decide +kernel
theorem dX8_allRows_13 : decode cX8_allRows 13 = .ok (.lload_n 2, 1) := by decide +kernel
theorem dX8_allRows_14 : decode cX8_allRows 14 = .ok (.iconst 2, 1) := by decide +kernel
theorem dX8_allRows_15 : decode cX8_allRows 15 = .ok (.aload_n 0, 1) := by decide +kernel
theorem dX8_allRows_16 : decode cX8_allRows 16 = .ok (.getfield 20, 3) := by decide +kernel
theorem dX8_allRows_19 : decode cX8_allRows 19 = .ok (.iconst 0, 1) := by decide +kernel
theorem dX8_allRows_20 : decode cX8_allRows 20 = .ok (.iaload, 1) := by decide +kernel
theorem dX8_allRows_21 : decode cX8_allRows 21 = .ok (.imul, 1) := by decide +kernel
theorem dX8_allRows_22 : decode cX8_allRows 22 = .ok (.iconst 1, 1) := by decide +kernel
theorem dX8_allRows_23 : decode cX8_allRows 23 = .ok (.iadd, 1) := by decide +kernel
theorem dX8_allRows_24 : decode cX8_allRows 24 = .ok (.i2l, 1) := by decide +kernel
theorem dX8_allRows_25 : decode cX8_allRows 25 = .ok (.lmul, 1) := by decide +kernel
theorem dX8_allRows_26 : decode cX8_allRows 26 = .ok (.lstore_n 2, 1) := by decide +kernel
theorem dX8_allRows_27 : decode cX8_allRows 27 = .ok (.iinc 4 (-1), 3) := by decide +kernel
theorem dX8_allRows_30 : decode cX8_allRows 30 = .ok (.goto (-22), 3) := by decide +kernel
theorem dX8_allRows_33 : decode cX8_allRows 33 = .ok (.lload_n 2, 1) := by decide +kernel
theorem dX8_allRows_34 : decode cX8_allRows 34 = .ok (.lreturn, 1) := by decide +kernel
theorem dX8_closeness_0 : decode cX8_closeness 0 = .ok (.lconst 0, 1) := by decide +kernel
theorem dX8_closeness_1 : decode cX8_closeness 1 = .ok (.lstore_n 2, 1) := by decide +kernel
theorem dX8_closeness_2 : decode cX8_closeness 2 = .ok (.aload_n 0, 1) := by decide +kernel
theorem dX8_closeness_3 : decode cX8_closeness 3 = .ok (.iload_n 1, 1) := by decide +kernel
theorem dX8_closeness_4 : decode cX8_closeness 4 = .ok (.invokevirtual 154, 3) := by decide +kernel
theorem dX8_closeness_7 : decode cX8_closeness 7 = .ok (.lstore 4, 2) := by decide +kernel
theorem dX8_closeness_9 : decode cX8_closeness 9 = .ok (.iconst 0, 1) := by decide +kernel
theorem dX8_closeness_10 : decode cX8_closeness 10 = .ok (.istore 6, 2) := by decide +kernel
theorem dX8_closeness_12 : decode cX8_closeness 12 = .ok (.iload 6, 2) := by decide +kernel
theorem dX8_closeness_14 : decode cX8_closeness 14 = .ok (.aload_n 0, 1) := by decide +kernel
theorem dX8_closeness_15 : decode cX8_closeness 15 = .ok (.getfield 7, 3) := by decide +kernel
theorem dX8_closeness_18 : decode cX8_closeness 18 = .ok (.sipush 168, 3) := by decide +kernel
theorem dX8_closeness_21 : decode cX8_closeness 21 = .ok (.iaload, 1) := by decide +kernel
theorem dX8_closeness_22 : decode cX8_closeness 22 = .ok (.if_icmp .ge 58, 3) := by decide +kernel
theorem dX8_closeness_25 : decode cX8_closeness 25 = .ok (.iload_n 1, 1) := by decide +kernel
theorem dX8_closeness_26 : decode cX8_closeness 26 = .ok (.iload 6, 2) := by decide +kernel
theorem dX8_closeness_28 : decode cX8_closeness 28 = .ok (.invokestatic 132, 3) := by decide +kernel
theorem dX8_closeness_31 : decode cX8_closeness 31 = .ok (.ifCond .eq 22, 3) := by decide +kernel
theorem dX8_closeness_34 : decode cX8_closeness 34 = .ok (.iload_n 1, 1) := by decide +kernel
theorem dX8_closeness_35 : decode cX8_closeness 35 = .ok (.invokestatic 129, 3) := by decide +kernel
theorem dX8_closeness_38 : decode cX8_closeness 38 = .ok (.i2l, 1) := by decide +kernel
theorem dX8_closeness_39 : decode cX8_closeness 39 = .ok (.aload_n 0, 1) := by decide +kernel
theorem dX8_closeness_40 : decode cX8_closeness 40 = .ok (.getfield 47, 3) := by decide +kernel
theorem dX8_closeness_43 : decode cX8_closeness 43 = .ok (.iload 6, 2) := by decide +kernel
theorem dX8_closeness_45 : decode cX8_closeness 45 = .ok (.laload, 1) := by decide +kernel
theorem dX8_closeness_46 : decode cX8_closeness 46 = .ok (.lmul, 1) := by decide +kernel
theorem dX8_closeness_47 : decode cX8_closeness 47 = .ok (.lload 4, 2) := by decide +kernel
theorem dX8_closeness_49 : decode cX8_closeness 49 = .ok (.lsub, 1) := by decide +kernel
theorem dX8_closeness_50 : decode cX8_closeness 50 = .ok (.goto 4, 3) := by decide +kernel
theorem dX8_closeness_53 : decode cX8_closeness 53 = .ok (.lconst 0, 1) := by decide +kernel
theorem dX8_closeness_54 : decode cX8_closeness 54 = .ok (.lstore 7, 2) := by decide +kernel
theorem dX8_closeness_56 : decode cX8_closeness 56 = .ok (.lload_n 2, 1) := by decide +kernel
theorem dX8_closeness_57 : decode cX8_closeness 57 = .ok (.lload 7, 2) := by decide +kernel
theorem dX8_closeness_59 : decode cX8_closeness 59 = .ok (.lconst 0, 1) := by decide +kernel
theorem dX8_closeness_60 : decode cX8_closeness 60 = .ok (.lcmp, 1) := by decide +kernel
theorem dX8_closeness_61 : decode cX8_closeness 61 = .ok (.ifCond .ge 9, 3) := by decide +kernel
theorem dX8_closeness_64 : decode cX8_closeness 64 = .ok (.lload 7, 2) := by decide +kernel
theorem dX8_closeness_66 : decode cX8_closeness 66 = .ok (.lneg, 1) := by decide +kernel
theorem dX8_closeness_67 : decode cX8_closeness 67 = .ok (.goto 5, 3) := by decide +kernel
theorem dX8_closeness_70 : decode cX8_closeness 70 = .ok (.lload 7, 2) := by decide +kernel
theorem dX8_closeness_72 : decode cX8_closeness 72 = .ok (.ladd, 1) := by decide +kernel
theorem dX8_closeness_73 : decode cX8_closeness 73 = .ok (.lstore_n 2, 1) := by decide +kernel
theorem dX8_closeness_74 : decode cX8_closeness 74 = .ok (.iinc 6 1, 3) := by decide +kernel
theorem dX8_closeness_77 : decode cX8_closeness 77 = .ok (.goto (-65), 3) := by decide +kernel
theorem dX8_closeness_80 : decode cX8_closeness 80 = .ok (.lload_n 2, 1) := by decide +kernel
theorem dX8_closeness_81 : decode cX8_closeness 81 = .ok (.lreturn, 1) := by decide +kernel
theorem dX8_odds_0 : decode cX8_odds 0 = .ok (.aload_n 0, 1) := by decide +kernel
theorem dX8_odds_1 : decode cX8_odds 1 = .ok (.iconst 0, 1) := by decide +kernel
theorem dX8_odds_2 : decode cX8_odds 2 = .ok (.putfield 57, 3) := by decide +kernel
theorem dX8_odds_5 : decode cX8_odds 5 = .ok (.iload_n 1, 1) := by decide +kernel
theorem dX8_odds_6 : decode cX8_odds 6 = .ok (.iconst 0, 1) := by decide +kernel
theorem dX8_odds_7 : decode cX8_odds 7 = .ok (.iconst 2, 1) := by decide +kernel
theorem dX8_odds_8 : decode cX8_odds 8 = .ok (.invokestatic 61, 3) := by decide +kernel
theorem dX8_odds_11 : decode cX8_odds 11 = .ok (.ifCond .eq 32, 3) := by decide +kernel
theorem dX8_odds_14 : decode cX8_odds 14 = .ok (.aload_n 0, 1) := by decide +kernel
theorem dX8_odds_15 : decode cX8_odds 15 = .ok (.iload_n 2, 1) := by decide +kernel
theorem dX8_odds_16 : decode cX8_odds 16 = .ok (.invokevirtual 136, 3) := by decide +kernel
theorem dX8_odds_19 : decode cX8_odds 19 = .ok (.ifCond .eq 24, 3) := by decide +kernel
theorem dX8_odds_22 : decode cX8_odds 22 = .ok (.iload_n 3, 1) := by decide +kernel
theorem dX8_odds_23 : decode cX8_odds 23 = .ok (.iconst (-1), 1) := by decide +kernel
theorem dX8_odds_24 : decode cX8_odds 24 = .ok (.if_icmp .eq 23, 3) := by decide +kernel
theorem dX8_odds_27 : decode cX8_odds 27 = .ok (.aload_n 0, 1) := by decide +kernel
theorem dX8_odds_28 : decode cX8_odds 28 = .ok (.iload_n 3, 1) := by decide +kernel
theorem dX8_odds_29 : decode cX8_odds 29 = .ok (.invokevirtual 65, 3) := by decide +kernel
theorem dX8_odds_32 : decode cX8_odds 32 = .ok (.ifCond .eq 11, 3) := by decide +kernel
theorem dX8_odds_35 : decode cX8_odds 35 = .ok (.iload_n 2, 1) := by decide +kernel
theorem dX8_odds_36 : decode cX8_odds 36 = .ok (.iload_n 3, 1) := by decide +kernel
theorem dX8_odds_37 : decode cX8_odds 37 = .ok (.invokestatic 132, 3) := by decide +kernel
theorem dX8_odds_40 : decode cX8_odds 40 = .ok (.ifCond .ne 7, 3) := by decide +kernel
theorem dX8_odds_43 : decode cX8_odds 43 = .ok (.ldc2_w 158, 3) := by decide +kernel
theorem dX8_odds_46 : decode cX8_odds 46 = .ok (.lreturn, 1) := by decide +kernel
theorem dX8_odds_47 : decode cX8_odds 47 = .ok (.aload_n 0, 1) := by decide +kernel
theorem dX8_odds_48 : decode cX8_odds 48 = .ok (.iload_n 2, 1) := by decide +kernel
theorem dX8_odds_49 : decode cX8_odds 49 = .ok (.invokevirtual 139, 3) := by decide +kernel
theorem dX8_odds_52 : decode cX8_odds 52 = .ok (.aload_n 0, 1) := by decide +kernel
theorem dX8_odds_53 : decode cX8_odds 53 = .ok (.iload_n 1, 1) := by decide +kernel
theorem dX8_odds_54 : decode cX8_odds 54 = .ok (.iload_n 2, 1) := by decide +kernel
theorem dX8_odds_55 : decode cX8_odds 55 = .ok (.invokevirtual 160, 3) := by decide +kernel
theorem dX8_odds_58 : decode cX8_odds 58 = .ok (.iload_n 3, 1) := by decide +kernel
theorem dX8_odds_59 : decode cX8_odds 59 = .ok (.iconst (-1), 1) := by decide +kernel
theorem dX8_odds_60 : decode cX8_odds 60 = .ok (.if_icmp .ne 11, 3) := by decide +kernel
theorem dX8_odds_63 : decode cX8_odds 63 = .ok (.aload_n 0, 1) := by decide +kernel
theorem dX8_odds_64 : decode cX8_odds 64 = .ok (.iload_n 2, 1) := by decide +kernel
theorem dX8_odds_65 : decode cX8_odds 65 = .ok (.invokevirtual 154, 3) := by decide +kernel
theorem dX8_odds_68 : decode cX8_odds 68 = .ok (.goto 9, 3) := by decide +kernel
theorem dX8_odds_71 : decode cX8_odds 71 = .ok (.aload_n 0, 1) := by decide +kernel
theorem dX8_odds_72 : decode cX8_odds 72 = .ok (.getfield 47, 3) := by decide +kernel
theorem dX8_odds_75 : decode cX8_odds 75 = .ok (.iload_n 3, 1) := by decide +kernel
theorem dX8_odds_76 : decode cX8_odds 76 = .ok (.laload, 1) := by decide +kernel
theorem dX8_odds_77 : decode cX8_odds 77 = .ok (.lreturn, 1) := by decide +kernel
theorem dX8_close_0 : decode cX8_close 0 = .ok (.aload_n 0, 1) := by decide +kernel
theorem dX8_close_1 : decode cX8_close 1 = .ok (.iconst 0, 1) := by decide +kernel
theorem dX8_close_2 : decode cX8_close 2 = .ok (.putfield 57, 3) := by decide +kernel
theorem dX8_close_5 : decode cX8_close 5 = .ok (.iload_n 1, 1) := by decide +kernel
theorem dX8_close_6 : decode cX8_close 6 = .ok (.iconst 0, 1) := by decide +kernel
theorem dX8_close_7 : decode cX8_close 7 = .ok (.iconst 2, 1) := by decide +kernel
theorem dX8_close_8 : decode cX8_close 8 = .ok (.invokestatic 61, 3) := by decide +kernel
theorem dX8_close_11 : decode cX8_close 11 = .ok (.ifCond .eq 11, 3) := by decide +kernel
theorem dX8_close_14 : decode cX8_close 14 = .ok (.aload_n 0, 1) := by decide +kernel
theorem dX8_close_15 : decode cX8_close 15 = .ok (.iload_n 2, 1) := by decide +kernel
theorem dX8_close_16 : decode cX8_close 16 = .ok (.invokevirtual 136, 3) := by decide +kernel
theorem dX8_close_19 : decode cX8_close 19 = .ok (.ifCond .ne 7, 3) := by decide +kernel
theorem dX8_close_22 : decode cX8_close 22 = .ok (.ldc2_w 158, 3) := by decide +kernel
theorem dX8_close_25 : decode cX8_close 25 = .ok (.lreturn, 1) := by decide +kernel
theorem dX8_close_26 : decode cX8_close 26 = .ok (.aload_n 0, 1) := by decide +kernel
theorem dX8_close_27 : decode cX8_close 27 = .ok (.iload_n 2, 1) := by decide +kernel
theorem dX8_close_28 : decode cX8_close 28 = .ok (.invokevirtual 139, 3) := by decide +kernel
theorem dX8_close_31 : decode cX8_close 31 = .ok (.aload_n 0, 1) := by decide +kernel
theorem dX8_close_32 : decode cX8_close 32 = .ok (.iload_n 1, 1) := by decide +kernel
theorem dX8_close_33 : decode cX8_close 33 = .ok (.iload_n 2, 1) := by decide +kernel
theorem dX8_close_34 : decode cX8_close 34 = .ok (.invokevirtual 160, 3) := by decide +kernel
theorem dX8_close_37 : decode cX8_close 37 = .ok (.aload_n 0, 1) := by decide +kernel
theorem dX8_close_38 : decode cX8_close 38 = .ok (.iload_n 2, 1) := by decide +kernel
theorem dX8_close_39 : decode cX8_close 39 = .ok (.invokevirtual 164, 3) := by decide +kernel
theorem dX8_close_42 : decode cX8_close 42 = .ok (.lreturn, 1) := by decide +kernel
theorem dX8_evens_0 : decode cX8_evens 0 = .ok (.iload_n 2, 1) := by decide +kernel
theorem dX8_evens_1 : decode cX8_evens 1 = .ok (.invokestatic 129, 3) := by decide +kernel
theorem dX8_evens_4 : decode cX8_evens 4 = .ok (.istore_n 3, 1) := by decide +kernel
theorem dX8_evens_5 : decode cX8_evens 5 = .ok (.aload_n 0, 1) := by decide +kernel
theorem dX8_evens_6 : decode cX8_evens 6 = .ok (.ldc2_w 158, 3) := by decide +kernel
theorem dX8_evens_9 : decode cX8_evens 9 = .ok (.putfield 167, 3) := by decide +kernel
theorem dX8_evens_12 : decode cX8_evens 12 = .ok (.iload_n 3, 1) := by decide +kernel
theorem dX8_evens_13 : decode cX8_evens 13 = .ok (.iconst 2, 1) := by decide +kernel
theorem dX8_evens_14 : decode cX8_evens 14 = .ok (.if_icmp .ne 9, 3) := by decide +kernel
theorem dX8_evens_17 : decode cX8_evens 17 = .ok (.sipush 441, 3) := by decide +kernel
theorem dX8_evens_20 : decode cX8_evens 20 = .ok (.goto 6, 3) := by decide +kernel
theorem dX8_evens_23 : decode cX8_evens 23 = .ok (.sipush 9261, 3) := by decide +kernel
theorem dX8_evens_26 : decode cX8_evens 26 = .ok (.istore 4, 2) := by decide +kernel
theorem dX8_evens_28 : decode cX8_evens 28 = .ok (.iconst 0, 1) := by decide +kernel
theorem dX8_evens_29 : decode cX8_evens 29 = .ok (.istore 5, 2) := by decide +kernel
theorem dX8_evens_31 : decode cX8_evens 31 = .ok (.iload 5, 2) := by decide +kernel
theorem dX8_evens_33 : decode cX8_evens 33 = .ok (.iload 4, 2) := by decide +kernel
theorem dX8_evens_35 : decode cX8_evens 35 = .ok (.if_icmp .ge 159, 3) := by decide +kernel
theorem dX8_evens_38 : decode cX8_evens 38 = .ok (.iload 5, 2) := by decide +kernel
theorem dX8_evens_40 : decode cX8_evens 40 = .ok (.istore 6, 2) := by decide +kernel
theorem dX8_evens_42 : decode cX8_evens 42 = .ok (.bipush 21, 2) := by decide +kernel
theorem dX8_evens_44 : decode cX8_evens 44 = .ok (.istore 7, 2) := by decide +kernel
theorem dX8_evens_46 : decode cX8_evens 46 = .ok (.bipush 7, 2) := by decide +kernel
theorem dX8_evens_48 : decode cX8_evens 48 = .ok (.istore 8, 2) := by decide +kernel
theorem dX8_evens_50 : decode cX8_evens 50 = .ok (.iload 8, 2) := by decide +kernel
theorem dX8_evens_52 : decode cX8_evens 52 = .ok (.ifCond .lt 63, 3) := by decide +kernel
theorem dX8_evens_55 : decode cX8_evens 55 = .ok (.iload_n 2, 1) := by decide +kernel
theorem dX8_evens_56 : decode cX8_evens 56 = .ok (.iload 8, 2) := by decide +kernel
theorem dX8_evens_58 : decode cX8_evens 58 = .ok (.invokestatic 132, 3) := by decide +kernel
theorem dX8_evens_61 : decode cX8_evens 61 = .ok (.ifCond .eq 48, 3) := by decide +kernel
theorem dX8_evens_64 : decode cX8_evens 64 = .ok (.aload_n 0, 1) := by decide +kernel
theorem dX8_evens_65 : decode cX8_evens 65 = .ok (.getfield 44, 3) := by decide +kernel
theorem dX8_evens_68 : decode cX8_evens 68 = .ok (.iload 8, 2) := by decide +kernel
theorem dX8_evens_70 : decode cX8_evens 70 = .ok (.iload 6, 2) := by decide +kernel
theorem dX8_evens_72 : decode cX8_evens 72 = .ok (.bipush 21, 2) := by decide +kernel
theorem dX8_evens_74 : decode cX8_evens 74 = .ok (.irem, 1) := by decide +kernel
theorem dX8_evens_75 : decode cX8_evens 75 = .ok (.iastore, 1) := by decide +kernel
theorem dX8_evens_76 : decode cX8_evens 76 = .ok (.iload 6, 2) := by decide +kernel
theorem dX8_evens_78 : decode cX8_evens 78 = .ok (.bipush 21, 2) := by decide +kernel
theorem dX8_evens_80 : decode cX8_evens 80 = .ok (.idiv, 1) := by decide +kernel
theorem dX8_evens_81 : decode cX8_evens 81 = .ok (.istore 6, 2) := by decide +kernel
theorem dX8_evens_83 : decode cX8_evens 83 = .ok (.aload_n 0, 1) := by decide +kernel
theorem dX8_evens_84 : decode cX8_evens 84 = .ok (.getfield 44, 3) := by decide +kernel
theorem dX8_evens_87 : decode cX8_evens 87 = .ok (.iload 8, 2) := by decide +kernel
theorem dX8_evens_89 : decode cX8_evens 89 = .ok (.iaload, 1) := by decide +kernel
theorem dX8_evens_90 : decode cX8_evens 90 = .ok (.iload 7, 2) := by decide +kernel
theorem dX8_evens_92 : decode cX8_evens 92 = .ok (.if_icmp .ge 13, 3) := by decide +kernel
theorem dX8_evens_95 : decode cX8_evens 95 = .ok (.aload_n 0, 1) := by decide +kernel
theorem dX8_evens_96 : decode cX8_evens 96 = .ok (.getfield 44, 3) := by decide +kernel
theorem dX8_evens_99 : decode cX8_evens 99 = .ok (.iload 8, 2) := by decide +kernel
theorem dX8_evens_101 : decode cX8_evens 101 = .ok (.iaload, 1) := by decide +kernel
theorem dX8_evens_102 : decode cX8_evens 102 = .ok (.goto 5, 3) := by decide +kernel
theorem dX8_evens_105 : decode cX8_evens 105 = .ok (.iload 7, 2) := by decide +kernel
theorem dX8_evens_107 : decode cX8_evens 107 = .ok (.istore 7, 2) := by decide +kernel
theorem dX8_evens_109 : decode cX8_evens 109 = .ok (.iinc 8 (-1), 3) := by decide +kernel
theorem dX8_evens_112 : decode cX8_evens 112 = .ok (.goto (-62), 3) := by decide +kernel
theorem dX8_evens_115 : decode cX8_evens 115 = .ok (.iload 7, 2) := by decide +kernel
theorem dX8_evens_117 : decode cX8_evens 117 = .ok (.ifCond .ne 71, 3) := by decide +kernel
theorem dX8_evens_120 : decode cX8_evens 120 = .ok (.aload_n 0, 1) := by decide +kernel
theorem dX8_evens_121 : decode cX8_evens 121 = .ok (.iload_n 1, 1) := by decide +kernel
theorem dX8_evens_122 : decode cX8_evens 122 = .ok (.iload_n 2, 1) := by decide +kernel
theorem dX8_evens_123 : decode cX8_evens 123 = .ok (.invokevirtual 160, 3) := by decide +kernel
theorem dX8_evens_126 : decode cX8_evens 126 = .ok (.aload_n 0, 1) := by decide +kernel
theorem dX8_evens_127 : decode cX8_evens 127 = .ok (.iload_n 2, 1) := by decide +kernel
theorem dX8_evens_128 : decode cX8_evens 128 = .ok (.invokevirtual 164, 3) := by decide +kernel
theorem dX8_evens_131 : decode cX8_evens 131 = .ok (.lstore 8, 2) := by decide +kernel
theorem dX8_evens_133 : decode cX8_evens 133 = .ok (.aload_n 0, 1) := by decide +kernel
theorem dX8_evens_134 : decode cX8_evens 134 = .ok (.getfield 167, 3) := by decide +kernel
theorem dX8_evens_137 : decode cX8_evens 137 = .ok (.lconst 0, 1) := by decide +kernel
theorem dX8_evens_138 : decode cX8_evens 138 = .ok (.lcmp, 1) := by decide +kernel
theorem dX8_evens_139 : decode cX8_evens 139 = .ok (.ifCond .lt 13, 3) := by decide +kernel
theorem dX8_evens_142 : decode cX8_evens 142 = .ok (.lload 8, 2) := by decide +kernel
theorem dX8_evens_144 : decode cX8_evens 144 = .ok (.aload_n 0, 1) := by decide +kernel
theorem dX8_evens_145 : decode cX8_evens 145 = .ok (.getfield 167, 3) := by decide +kernel
theorem dX8_evens_148 : decode cX8_evens 148 = .ok (.lcmp, 1) := by decide +kernel
theorem dX8_evens_149 : decode cX8_evens 149 = .ok (.ifCond .ge 39, 3) := by decide +kernel
theorem dX8_evens_152 : decode cX8_evens 152 = .ok (.aload_n 0, 1) := by decide +kernel
theorem dX8_evens_153 : decode cX8_evens 153 = .ok (.lload 8, 2) := by decide +kernel
theorem dX8_evens_155 : decode cX8_evens 155 = .ok (.putfield 167, 3) := by decide +kernel
theorem dX8_evens_158 : decode cX8_evens 158 = .ok (.iconst 0, 1) := by decide +kernel
theorem dX8_evens_159 : decode cX8_evens 159 = .ok (.istore 10, 2) := by decide +kernel
theorem dX8_evens_161 : decode cX8_evens 161 = .ok (.iload 10, 2) := by decide +kernel
theorem dX8_evens_163 : decode cX8_evens 163 = .ok (.bipush 8, 2) := by decide +kernel
theorem dX8_evens_165 : decode cX8_evens 165 = .ok (.if_icmp .ge 23, 3) := by decide +kernel
theorem dX8_evens_168 : decode cX8_evens 168 = .ok (.aload_n 0, 1) := by decide +kernel
theorem dX8_evens_169 : decode cX8_evens 169 = .ok (.getfield 51, 3) := by decide +kernel
theorem dX8_evens_172 : decode cX8_evens 172 = .ok (.iload 10, 2) := by decide +kernel
theorem dX8_evens_174 : decode cX8_evens 174 = .ok (.aload_n 0, 1) := by decide +kernel
theorem dX8_evens_175 : decode cX8_evens 175 = .ok (.getfield 44, 3) := by decide +kernel
theorem dX8_evens_178 : decode cX8_evens 178 = .ok (.iload 10, 2) := by decide +kernel
theorem dX8_evens_180 : decode cX8_evens 180 = .ok (.iaload, 1) := by decide +kernel
theorem dX8_evens_181 : decode cX8_evens 181 = .ok (.iastore, 1) := by decide +kernel
theorem dX8_evens_182 : decode cX8_evens 182 = .ok (.iinc 10 1, 3) := by decide +kernel
theorem dX8_evens_185 : decode cX8_evens 185 = .ok (.goto (-24), 3) := by decide +kernel
theorem dX8_evens_188 : decode cX8_evens 188 = .ok (.iinc 5 1, 3) := by decide +kernel
theorem dX8_evens_191 : decode cX8_evens 191 = .ok (.goto (-160), 3) := by decide +kernel
theorem dX8_evens_194 : decode cX8_evens 194 = .ok (.return_, 1) := by decide +kernel
theorem dX8_even_0 : decode cX8_even 0 = .ok (.aload_n 0, 1) := by decide +kernel
theorem dX8_even_1 : decode cX8_even 1 = .ok (.iconst 0, 1) := by decide +kernel
theorem dX8_even_2 : decode cX8_even 2 = .ok (.putfield 57, 3) := by decide +kernel
theorem dX8_even_5 : decode cX8_even 5 = .ok (.iload_n 1, 1) := by decide +kernel
theorem dX8_even_6 : decode cX8_even 6 = .ok (.iconst 0, 1) := by decide +kernel
theorem dX8_even_7 : decode cX8_even 7 = .ok (.iconst 2, 1) := by decide +kernel
theorem dX8_even_8 : decode cX8_even 8 = .ok (.invokestatic 61, 3) := by decide +kernel
theorem dX8_even_11 : decode cX8_even 11 = .ok (.ifCond .eq 32, 3) := by decide +kernel
theorem dX8_even_14 : decode cX8_even 14 = .ok (.aload_n 0, 1) := by decide +kernel
theorem dX8_even_15 : decode cX8_even 15 = .ok (.iload_n 2, 1) := by decide +kernel
theorem dX8_even_16 : decode cX8_even 16 = .ok (.invokevirtual 136, 3) := by decide +kernel
theorem dX8_even_19 : decode cX8_even 19 = .ok (.ifCond .eq 24, 3) := by decide +kernel
theorem dX8_even_22 : decode cX8_even 22 = .ok (.iload_n 3, 1) := by decide +kernel
theorem dX8_even_23 : decode cX8_even 23 = .ok (.iconst (-1), 1) := by decide +kernel
theorem dX8_even_24 : decode cX8_even 24 = .ok (.if_icmp .eq 23, 3) := by decide +kernel
theorem dX8_even_27 : decode cX8_even 27 = .ok (.aload_n 0, 1) := by decide +kernel
theorem dX8_even_28 : decode cX8_even 28 = .ok (.iload_n 3, 1) := by decide +kernel
theorem dX8_even_29 : decode cX8_even 29 = .ok (.invokevirtual 65, 3) := by decide +kernel
theorem dX8_even_32 : decode cX8_even 32 = .ok (.ifCond .eq 11, 3) := by decide +kernel
theorem dX8_even_35 : decode cX8_even 35 = .ok (.iload_n 2, 1) := by decide +kernel
theorem dX8_even_36 : decode cX8_even 36 = .ok (.iload_n 3, 1) := by decide +kernel
theorem dX8_even_37 : decode cX8_even 37 = .ok (.invokestatic 132, 3) := by decide +kernel
theorem dX8_even_40 : decode cX8_even 40 = .ok (.ifCond .ne 7, 3) := by decide +kernel
theorem dX8_even_43 : decode cX8_even 43 = .ok (.ldc2_w 158, 3) := by decide +kernel
theorem dX8_even_46 : decode cX8_even 46 = .ok (.lreturn, 1) := by decide +kernel
theorem dX8_even_47 : decode cX8_even 47 = .ok (.iload_n 2, 1) := by decide +kernel
theorem dX8_even_48 : decode cX8_even 48 = .ok (.invokestatic 129, 3) := by decide +kernel
theorem dX8_even_51 : decode cX8_even 51 = .ok (.iconst 3, 1) := by decide +kernel
theorem dX8_even_52 : decode cX8_even 52 = .ok (.if_icmp .le 7, 3) := by decide +kernel
theorem dX8_even_55 : decode cX8_even 55 = .ok (.ldc2_w 171, 3) := by decide +kernel
theorem dX8_even_58 : decode cX8_even 58 = .ok (.lreturn, 1) := by decide +kernel
theorem dX8_even_59 : decode cX8_even 59 = .ok (.aload_n 0, 1) := by decide +kernel
theorem dX8_even_60 : decode cX8_even 60 = .ok (.iload_n 1, 1) := by decide +kernel
theorem dX8_even_61 : decode cX8_even 61 = .ok (.iload_n 2, 1) := by decide +kernel
theorem dX8_even_62 : decode cX8_even 62 = .ok (.invokevirtual 173, 3) := by decide +kernel
theorem dX8_even_65 : decode cX8_even 65 = .ok (.iload_n 3, 1) := by decide +kernel
theorem dX8_even_66 : decode cX8_even 66 = .ok (.iconst (-1), 1) := by decide +kernel
theorem dX8_even_67 : decode cX8_even 67 = .ok (.if_icmp .ne 10, 3) := by decide +kernel
theorem dX8_even_70 : decode cX8_even 70 = .ok (.aload_n 0, 1) := by decide +kernel
theorem dX8_even_71 : decode cX8_even 71 = .ok (.getfield 167, 3) := by decide +kernel
theorem dX8_even_74 : decode cX8_even 74 = .ok (.goto 10, 3) := by decide +kernel
theorem dX8_even_77 : decode cX8_even 77 = .ok (.aload_n 0, 1) := by decide +kernel
theorem dX8_even_78 : decode cX8_even 78 = .ok (.getfield 51, 3) := by decide +kernel
theorem dX8_even_81 : decode cX8_even 81 = .ok (.iload_n 3, 1) := by decide +kernel
theorem dX8_even_82 : decode cX8_even 82 = .ok (.iaload, 1) := by decide +kernel
theorem dX8_even_83 : decode cX8_even 83 = .ok (.i2l, 1) := by decide +kernel
theorem dX8_even_84 : decode cX8_even 84 = .ok (.lreturn, 1) := by decide +kernel
theorem dX8_good_0 : decode cX8_good 0 = .ok (.aload_n 0, 1) := by decide +kernel
theorem dX8_good_1 : decode cX8_good 1 = .ok (.iconst 0, 1) := by decide +kernel
theorem dX8_good_2 : decode cX8_good 2 = .ok (.putfield 57, 3) := by decide +kernel
theorem dX8_good_5 : decode cX8_good 5 = .ok (.iload_n 1, 1) := by decide +kernel
theorem dX8_good_6 : decode cX8_good 6 = .ok (.iconst 1, 1) := by decide +kernel
theorem dX8_good_7 : decode cX8_good 7 = .ok (.bipush 6, 2) := by decide +kernel
theorem dX8_good_9 : decode cX8_good 9 = .ok (.invokestatic 61, 3) := by decide +kernel
theorem dX8_good_12 : decode cX8_good 12 = .ok (.ifCond .eq 22, 3) := by decide +kernel
theorem dX8_good_15 : decode cX8_good 15 = .ok (.iload_n 2, 1) := by decide +kernel
theorem dX8_good_16 : decode cX8_good 16 = .ok (.iconst 0, 1) := by decide +kernel
theorem dX8_good_17 : decode cX8_good 17 = .ok (.bipush 20, 2) := by decide +kernel
theorem dX8_good_19 : decode cX8_good 19 = .ok (.invokestatic 61, 3) := by decide +kernel
theorem dX8_good_22 : decode cX8_good 22 = .ok (.ifCond .eq 12, 3) := by decide +kernel
theorem dX8_good_25 : decode cX8_good 25 = .ok (.iload_n 3, 1) := by decide +kernel
theorem dX8_good_26 : decode cX8_good 26 = .ok (.iconst 0, 1) := by decide +kernel
theorem dX8_good_27 : decode cX8_good 27 = .ok (.iconst 1, 1) := by decide +kernel
theorem dX8_good_28 : decode cX8_good 28 = .ok (.invokestatic 61, 3) := by decide +kernel
theorem dX8_good_31 : decode cX8_good 31 = .ok (.ifCond .ne 5, 3) := by decide +kernel
theorem dX8_good_34 : decode cX8_good 34 = .ok (.iconst (-1), 1) := by decide +kernel
theorem dX8_good_35 : decode cX8_good 35 = .ok (.ireturn, 1) := by decide +kernel
theorem dX8_good_36 : decode cX8_good 36 = .ok (.iconst 2, 1) := by decide +kernel
theorem dX8_good_37 : decode cX8_good 37 = .ok (.aload_n 0, 1) := by decide +kernel
theorem dX8_good_38 : decode cX8_good 38 = .ok (.getfield 20, 3) := by decide +kernel
theorem dX8_good_41 : decode cX8_good 41 = .ok (.iconst 0, 1) := by decide +kernel
theorem dX8_good_42 : decode cX8_good 42 = .ok (.iaload, 1) := by decide +kernel
theorem dX8_good_43 : decode cX8_good 43 = .ok (.imul, 1) := by decide +kernel
theorem dX8_good_44 : decode cX8_good 44 = .ok (.iconst 1, 1) := by decide +kernel
theorem dX8_good_45 : decode cX8_good 45 = .ok (.iadd, 1) := by decide +kernel
theorem dX8_good_46 : decode cX8_good 46 = .ok (.istore 4, 2) := by decide +kernel
theorem dX8_good_48 : decode cX8_good 48 = .ok (.iconst 1, 1) := by decide +kernel
theorem dX8_good_49 : decode cX8_good 49 = .ok (.istore 5, 2) := by decide +kernel
theorem dX8_good_51 : decode cX8_good 51 = .ok (.iconst 0, 1) := by decide +kernel
theorem dX8_good_52 : decode cX8_good 52 = .ok (.istore 6, 2) := by decide +kernel
theorem dX8_good_54 : decode cX8_good 54 = .ok (.iload 6, 2) := by decide +kernel
theorem dX8_good_56 : decode cX8_good 56 = .ok (.iload_n 1, 1) := by decide +kernel
theorem dX8_good_57 : decode cX8_good 57 = .ok (.if_icmp .ge 16, 3) := by decide +kernel
theorem dX8_good_60 : decode cX8_good 60 = .ok (.iload 5, 2) := by decide +kernel
theorem dX8_good_62 : decode cX8_good 62 = .ok (.iload 4, 2) := by decide +kernel
theorem dX8_good_64 : decode cX8_good 64 = .ok (.imul, 1) := by decide +kernel
theorem dX8_good_65 : decode cX8_good 65 = .ok (.istore 5, 2) := by decide +kernel
theorem dX8_good_67 : decode cX8_good 67 = .ok (.iinc 6 1, 3) := by decide +kernel
theorem dX8_good_70 : decode cX8_good 70 = .ok (.goto (-16), 3) := by decide +kernel
theorem dX8_good_73 : decode cX8_good 73 = .ok (.iconst 0, 1) := by decide +kernel
theorem dX8_good_74 : decode cX8_good 74 = .ok (.istore 6, 2) := by decide +kernel
theorem dX8_good_76 : decode cX8_good 76 = .ok (.iconst 0, 1) := by decide +kernel
theorem dX8_good_77 : decode cX8_good 77 = .ok (.istore 7, 2) := by decide +kernel
theorem dX8_good_79 : decode cX8_good 79 = .ok (.iload 7, 2) := by decide +kernel
theorem dX8_good_81 : decode cX8_good 81 = .ok (.iload_n 1, 1) := by decide +kernel
theorem dX8_good_82 : decode cX8_good 82 = .ok (.if_icmp .ge 17, 3) := by decide +kernel
theorem dX8_good_85 : decode cX8_good 85 = .ok (.aload_n 0, 1) := by decide +kernel
theorem dX8_good_86 : decode cX8_good 86 = .ok (.getfield 41, 3) := by decide +kernel
theorem dX8_good_89 : decode cX8_good 89 = .ok (.iload 7, 2) := by decide +kernel
theorem dX8_good_91 : decode cX8_good 91 = .ok (.iconst 0, 1) := by decide +kernel
theorem dX8_good_92 : decode cX8_good 92 = .ok (.iastore, 1) := by decide +kernel
theorem dX8_good_93 : decode cX8_good 93 = .ok (.iinc 7 1, 3) := by decide +kernel
theorem dX8_good_96 : decode cX8_good 96 = .ok (.goto (-17), 3) := by decide +kernel
theorem dX8_good_99 : decode cX8_good 99 = .ok (.iconst 1, 1) := by decide +kernel
theorem dX8_good_100 : decode cX8_good 100 = .ok (.istore 7, 2) := by decide +kernel
theorem dX8_good_102 : decode cX8_good 102 = .ok (.iload 7, 2) := by decide +kernel
theorem dX8_good_104 : decode cX8_good 104 = .ok (.ifCond .eq 190, 3) := by decide +kernel
theorem dX8_good_107 : decode cX8_good 107 = .ok (.aload_n 0, 1) := by decide +kernel
theorem dX8_good_108 : decode cX8_good 108 = .ok (.getfield 41, 3) := by decide +kernel
theorem dX8_good_111 : decode cX8_good 111 = .ok (.iload_n 1, 1) := by decide +kernel
theorem dX8_good_112 : decode cX8_good 112 = .ok (.iconst 1, 1) := by decide +kernel
theorem dX8_good_113 : decode cX8_good 113 = .ok (.isub, 1) := by decide +kernel
theorem dX8_good_114 : decode cX8_good 114 = .ok (.iaload, 1) := by decide +kernel
theorem dX8_good_115 : decode cX8_good 115 = .ok (.aload_n 0, 1) := by decide +kernel
theorem dX8_good_116 : decode cX8_good 116 = .ok (.getfield 41, 3) := by decide +kernel
theorem dX8_good_119 : decode cX8_good 119 = .ok (.iload_n 1, 1) := by decide +kernel
theorem dX8_good_120 : decode cX8_good 120 = .ok (.iconst 1, 1) := by decide +kernel
theorem dX8_good_121 : decode cX8_good 121 = .ok (.isub, 1) := by decide +kernel
theorem dX8_good_122 : decode cX8_good 122 = .ok (.iconst 2, 1) := by decide +kernel
theorem dX8_good_123 : decode cX8_good 123 = .ok (.idiv, 1) := by decide +kernel
theorem dX8_good_124 : decode cX8_good 124 = .ok (.iaload, 1) := by decide +kernel
theorem dX8_good_125 : decode cX8_good 125 = .ok (.isub, 1) := by decide +kernel
theorem dX8_good_126 : decode cX8_good 126 = .ok (.iload_n 2, 1) := by decide +kernel
theorem dX8_good_127 : decode cX8_good 127 = .ok (.if_icmp .lt 72, 3) := by decide +kernel
theorem dX8_good_130 : decode cX8_good 130 = .ok (.iconst 1, 1) := by decide +kernel
theorem dX8_good_131 : decode cX8_good 131 = .ok (.istore 8, 2) := by decide +kernel
theorem dX8_good_133 : decode cX8_good 133 = .ok (.iconst 1, 1) := by decide +kernel
theorem dX8_good_134 : decode cX8_good 134 = .ok (.istore 9, 2) := by decide +kernel
theorem dX8_good_136 : decode cX8_good 136 = .ok (.iconst 1, 1) := by decide +kernel
theorem dX8_good_137 : decode cX8_good 137 = .ok (.istore 10, 2) := by decide +kernel
theorem dX8_good_139 : decode cX8_good 139 = .ok (.iload 10, 2) := by decide +kernel
theorem dX8_good_141 : decode cX8_good 141 = .ok (.iload_n 1, 1) := by decide +kernel
theorem dX8_good_142 : decode cX8_good 142 = .ok (.if_icmp .ge 50, 3) := by decide +kernel
theorem dX8_good_145 : decode cX8_good 145 = .ok (.aload_n 0, 1) := by decide +kernel
theorem dX8_good_146 : decode cX8_good 146 = .ok (.getfield 41, 3) := by decide +kernel
theorem dX8_good_149 : decode cX8_good 149 = .ok (.iload 10, 2) := by decide +kernel
theorem dX8_good_151 : decode cX8_good 151 = .ok (.iaload, 1) := by decide +kernel
theorem dX8_good_152 : decode cX8_good 152 = .ok (.aload_n 0, 1) := by decide +kernel
theorem dX8_good_153 : decode cX8_good 153 = .ok (.getfield 41, 3) := by decide +kernel
theorem dX8_good_156 : decode cX8_good 156 = .ok (.iload 10, 2) := by decide +kernel
theorem dX8_good_158 : decode cX8_good 158 = .ok (.iconst 1, 1) := by decide +kernel
theorem dX8_good_159 : decode cX8_good 159 = .ok (.isub, 1) := by decide +kernel
theorem dX8_good_160 : decode cX8_good 160 = .ok (.iaload, 1) := by decide +kernel
theorem dX8_good_161 : decode cX8_good 161 = .ok (.if_icmp .ne 10, 3) := by decide +kernel
theorem dX8_good_164 : decode cX8_good 164 = .ok (.iload 9, 2) := by decide +kernel
theorem dX8_good_166 : decode cX8_good 166 = .ok (.iconst 1, 1) := by decide +kernel
theorem dX8_good_167 : decode cX8_good 167 = .ok (.iadd, 1) := by decide +kernel
theorem dX8_good_168 : decode cX8_good 168 = .ok (.goto 4, 3) := by decide +kernel
theorem dX8_good_171 : decode cX8_good 171 = .ok (.iconst 1, 1) := by decide +kernel
theorem dX8_good_172 : decode cX8_good 172 = .ok (.istore 9, 2) := by decide +kernel
theorem dX8_good_174 : decode cX8_good 174 = .ok (.iload 8, 2) := by decide +kernel
theorem dX8_good_176 : decode cX8_good 176 = .ok (.iload 10, 2) := by decide +kernel
theorem dX8_good_178 : decode cX8_good 178 = .ok (.iconst 1, 1) := by decide +kernel
theorem dX8_good_179 : decode cX8_good 179 = .ok (.iadd, 1) := by decide +kernel
theorem dX8_good_180 : decode cX8_good 180 = .ok (.imul, 1) := by decide +kernel
theorem dX8_good_181 : decode cX8_good 181 = .ok (.iload 9, 2) := by decide +kernel
theorem dX8_good_183 : decode cX8_good 183 = .ok (.idiv, 1) := by decide +kernel
theorem dX8_good_184 : decode cX8_good 184 = .ok (.istore 8, 2) := by decide +kernel
theorem dX8_good_186 : decode cX8_good 186 = .ok (.iinc 10 1, 3) := by decide +kernel
theorem dX8_good_189 : decode cX8_good 189 = .ok (.goto (-50), 3) := by decide +kernel
theorem dX8_good_192 : decode cX8_good 192 = .ok (.iload 6, 2) := by decide +kernel
theorem dX8_good_194 : decode cX8_good 194 = .ok (.iload 8, 2) := by decide +kernel
theorem dX8_good_196 : decode cX8_good 196 = .ok (.iadd, 1) := by decide +kernel
theorem dX8_good_197 : decode cX8_good 197 = .ok (.istore 6, 2) := by decide +kernel
theorem dX8_good_199 : decode cX8_good 199 = .ok (.iload_n 1, 1) := by decide +kernel
theorem dX8_good_200 : decode cX8_good 200 = .ok (.iconst 1, 1) := by decide +kernel
theorem dX8_good_201 : decode cX8_good 201 = .ok (.isub, 1) := by decide +kernel
theorem dX8_good_202 : decode cX8_good 202 = .ok (.istore 8, 2) := by decide +kernel
theorem dX8_good_204 : decode cX8_good 204 = .ok (.iload 8, 2) := by decide +kernel
theorem dX8_good_206 : decode cX8_good 206 = .ok (.ifCond .lt 23, 3) := by decide +kernel
theorem dX8_good_209 : decode cX8_good 209 = .ok (.aload_n 0, 1) := by decide +kernel
theorem dX8_good_210 : decode cX8_good 210 = .ok (.getfield 41, 3) := by decide +kernel
theorem dX8_good_213 : decode cX8_good 213 = .ok (.iload 8, 2) := by decide +kernel
theorem dX8_good_215 : decode cX8_good 215 = .ok (.iaload, 1) := by decide +kernel
theorem dX8_good_216 : decode cX8_good 216 = .ok (.iload 4, 2) := by decide +kernel
theorem dX8_good_218 : decode cX8_good 218 = .ok (.iconst 1, 1) := by decide +kernel
theorem dX8_good_219 : decode cX8_good 219 = .ok (.isub, 1) := by decide +kernel
theorem dX8_good_220 : decode cX8_good 220 = .ok (.if_icmp .ne 9, 3) := by decide +kernel
theorem dX8_good_223 : decode cX8_good 223 = .ok (.iinc 8 (-1), 3) := by decide +kernel
theorem dX8_good_226 : decode cX8_good 226 = .ok (.goto (-22), 3) := by decide +kernel
theorem dX8_good_229 : decode cX8_good 229 = .ok (.iload 8, 2) := by decide +kernel
theorem dX8_good_231 : decode cX8_good 231 = .ok (.ifCond .lt 7, 3) := by decide +kernel
theorem dX8_good_234 : decode cX8_good 234 = .ok (.iconst 1, 1) := by decide +kernel
theorem dX8_good_235 : decode cX8_good 235 = .ok (.goto 4, 3) := by decide +kernel
theorem dX8_good_238 : decode cX8_good 238 = .ok (.iconst 0, 1) := by decide +kernel
theorem dX8_good_239 : decode cX8_good 239 = .ok (.istore 7, 2) := by decide +kernel
theorem dX8_good_241 : decode cX8_good 241 = .ok (.iload 7, 2) := by decide +kernel
theorem dX8_good_243 : decode cX8_good 243 = .ok (.ifCond .eq 15, 3) := by decide +kernel
theorem dX8_good_246 : decode cX8_good 246 = .ok (.aload_n 0, 1) := by decide +kernel
theorem dX8_good_247 : decode cX8_good 247 = .ok (.getfield 41, 3) := by decide +kernel
theorem dX8_good_250 : decode cX8_good 250 = .ok (.iload 8, 2) := by decide +kernel
theorem dX8_good_252 : decode cX8_good 252 = .ok (.iaload, 1) := by decide +kernel
theorem dX8_good_253 : decode cX8_good 253 = .ok (.iconst 1, 1) := by decide +kernel
theorem dX8_good_254 : decode cX8_good 254 = .ok (.iadd, 1) := by decide +kernel
theorem dX8_good_255 : decode cX8_good 255 = .ok (.goto 4, 3) := by decide +kernel
theorem dX8_good_258 : decode cX8_good 258 = .ok (.iconst 0, 1) := by decide +kernel
theorem dX8_good_259 : decode cX8_good 259 = .ok (.istore 9, 2) := by decide +kernel
theorem dX8_good_261 : decode cX8_good 261 = .ok (.iload 8, 2) := by decide +kernel
theorem dX8_good_263 : decode cX8_good 263 = .ok (.istore 10, 2) := by decide +kernel
theorem dX8_good_265 : decode cX8_good 265 = .ok (.iload 10, 2) := by decide +kernel
theorem dX8_good_267 : decode cX8_good 267 = .ok (.iload_n 1, 1) := by decide +kernel
theorem dX8_good_268 : decode cX8_good 268 = .ok (.if_icmp .ge 23, 3) := by decide +kernel
theorem dX8_good_271 : decode cX8_good 271 = .ok (.iload 7, 2) := by decide +kernel
theorem dX8_good_273 : decode cX8_good 273 = .ok (.ifCond .eq 18, 3) := by decide +kernel
theorem dX8_good_276 : decode cX8_good 276 = .ok (.aload_n 0, 1) := by decide +kernel
theorem dX8_good_277 : decode cX8_good 277 = .ok (.getfield 41, 3) := by decide +kernel
theorem dX8_good_280 : decode cX8_good 280 = .ok (.iload 10, 2) := by decide +kernel
theorem dX8_good_282 : decode cX8_good 282 = .ok (.iload 9, 2) := by decide +kernel
theorem dX8_good_284 : decode cX8_good 284 = .ok (.iastore, 1) := by decide +kernel
theorem dX8_good_285 : decode cX8_good 285 = .ok (.iinc 10 1, 3) := by decide +kernel
theorem dX8_good_288 : decode cX8_good 288 = .ok (.goto (-23), 3) := by decide +kernel
theorem dX8_good_291 : decode cX8_good 291 = .ok (.goto (-189), 3) := by decide +kernel
theorem dX8_good_294 : decode cX8_good 294 = .ok (.iload_n 3, 1) := by decide +kernel
theorem dX8_good_295 : decode cX8_good 295 = .ok (.ifCond .ne 8, 3) := by decide +kernel
theorem dX8_good_298 : decode cX8_good 298 = .ok (.iload 6, 2) := by decide +kernel
theorem dX8_good_300 : decode cX8_good 300 = .ok (.goto 5, 3) := by decide +kernel
theorem dX8_good_303 : decode cX8_good 303 = .ok (.iload 5, 2) := by decide +kernel
theorem dX8_good_305 : decode cX8_good 305 = .ok (.ireturn, 1) := by decide +kernel
theorem dX8_behind_0 : decode cX8_behind 0 = .ok (.aload_n 0, 1) := by decide +kernel
theorem dX8_behind_1 : decode cX8_behind 1 = .ok (.iconst 0, 1) := by decide +kernel
theorem dX8_behind_2 : decode cX8_behind 2 = .ok (.putfield 57, 3) := by decide +kernel
theorem dX8_behind_5 : decode cX8_behind 5 = .ok (.iload_n 1, 1) := by decide +kernel
theorem dX8_behind_6 : decode cX8_behind 6 = .ok (.iconst 0, 1) := by decide +kernel
theorem dX8_behind_7 : decode cX8_behind 7 = .ok (.sipush 200, 3) := by decide +kernel
theorem dX8_behind_10 : decode cX8_behind 10 = .ok (.invokestatic 61, 3) := by decide +kernel
theorem dX8_behind_13 : decode cX8_behind 13 = .ok (.ifCond .eq 24, 3) := by decide +kernel
theorem dX8_behind_16 : decode cX8_behind 16 = .ok (.iload_n 2, 1) := by decide +kernel
theorem dX8_behind_17 : decode cX8_behind 17 = .ok (.bipush (-9), 2) := by decide +kernel
theorem dX8_behind_19 : decode cX8_behind 19 = .ok (.bipush 9, 2) := by decide +kernel
theorem dX8_behind_21 : decode cX8_behind 21 = .ok (.invokestatic 61, 3) := by decide +kernel
theorem dX8_behind_24 : decode cX8_behind 24 = .ok (.ifCond .eq 13, 3) := by decide +kernel
theorem dX8_behind_27 : decode cX8_behind 27 = .ok (.iload_n 3, 1) := by decide +kernel
theorem dX8_behind_28 : decode cX8_behind 28 = .ok (.iconst 0, 1) := by decide +kernel
theorem dX8_behind_29 : decode cX8_behind 29 = .ok (.bipush 40, 2) := by decide +kernel
theorem dX8_behind_31 : decode cX8_behind 31 = .ok (.invokestatic 61, 3) := by decide +kernel
theorem dX8_behind_34 : decode cX8_behind 34 = .ok (.ifCond .ne 6, 3) := by decide +kernel
theorem dX8_behind_37 : decode cX8_behind 37 = .ok (.ldc 69, 2) := by decide +kernel
theorem dX8_behind_39 : decode cX8_behind 39 = .ok (.ireturn, 1) := by decide +kernel
theorem dX8_behind_40 : decode cX8_behind 40 = .ok (.aload_n 0, 1) := by decide +kernel
theorem dX8_behind_41 : decode cX8_behind 41 = .ok (.iconst 0, 1) := by decide +kernel
theorem dX8_behind_42 : decode cX8_behind 42 = .ok (.putfield 119, 3) := by decide +kernel
theorem dX8_behind_45 : decode cX8_behind 45 = .ok (.iload_n 1, 1) := by decide +kernel
theorem dX8_behind_46 : decode cX8_behind 46 = .ok (.istore 4, 2) := by decide +kernel
theorem dX8_behind_48 : decode cX8_behind 48 = .ok (.iload_n 1, 1) := by decide +kernel
theorem dX8_behind_49 : decode cX8_behind 49 = .ok (.istore 5, 2) := by decide +kernel
theorem dX8_behind_51 : decode cX8_behind 51 = .ok (.iconst 0, 1) := by decide +kernel
theorem dX8_behind_52 : decode cX8_behind 52 = .ok (.istore 6, 2) := by decide +kernel
theorem dX8_behind_54 : decode cX8_behind 54 = .ok (.iload 6, 2) := by decide +kernel
theorem dX8_behind_56 : decode cX8_behind 56 = .ok (.iload_n 3, 1) := by decide +kernel
theorem dX8_behind_57 : decode cX8_behind 57 = .ok (.if_icmp .ge 32, 3) := by decide +kernel
theorem dX8_behind_60 : decode cX8_behind 60 = .ok (.aload_n 0, 1) := by decide +kernel
theorem dX8_behind_61 : decode cX8_behind 61 = .ok (.iload 5, 2) := by decide +kernel
theorem dX8_behind_63 : decode cX8_behind 63 = .ok (.iload 4, 2) := by decide +kernel
theorem dX8_behind_65 : decode cX8_behind 65 = .ok (.invokevirtual 148, 3) := by decide +kernel
theorem dX8_behind_68 : decode cX8_behind 68 = .ok (.istore 5, 2) := by decide +kernel
theorem dX8_behind_70 : decode cX8_behind 70 = .ok (.iload 4, 2) := by decide +kernel
theorem dX8_behind_72 : decode cX8_behind 72 = .ok (.iload_n 2, 1) := by decide +kernel
theorem dX8_behind_73 : decode cX8_behind 73 = .ok (.iadd, 1) := by decide +kernel
theorem dX8_behind_74 : decode cX8_behind 74 = .ok (.iconst 0, 1) := by decide +kernel
theorem dX8_behind_75 : decode cX8_behind 75 = .ok (.sipush 200, 3) := by decide +kernel
theorem dX8_behind_78 : decode cX8_behind 78 = .ok (.invokestatic 125, 3) := by decide +kernel
theorem dX8_behind_81 : decode cX8_behind 81 = .ok (.istore 4, 2) := by decide +kernel
theorem dX8_behind_83 : decode cX8_behind 83 = .ok (.iinc 6 1, 3) := by decide +kernel
theorem dX8_behind_86 : decode cX8_behind 86 = .ok (.goto (-32), 3) := by decide +kernel
theorem dX8_behind_89 : decode cX8_behind 89 = .ok (.iload 4, 2) := by decide +kernel
theorem dX8_behind_91 : decode cX8_behind 91 = .ok (.iload 5, 2) := by decide +kernel
theorem dX8_behind_93 : decode cX8_behind 93 = .ok (.isub, 1) := by decide +kernel
theorem dX8_behind_94 : decode cX8_behind 94 = .ok (.ireturn, 1) := by decide +kernel
theorem dX8_card_0 : decode cX8_card 0 = .ok (.aload_n 0, 1) := by decide +kernel
theorem dX8_card_1 : decode cX8_card 1 = .ok (.iconst 0, 1) := by decide +kernel
theorem dX8_card_2 : decode cX8_card 2 = .ok (.putfield 57, 3) := by decide +kernel
theorem dX8_card_5 : decode cX8_card 5 = .ok (.iload_n 1, 1) := by decide +kernel
theorem dX8_card_6 : decode cX8_card 6 = .ok (.iconst 0, 1) := by decide +kernel
theorem dX8_card_7 : decode cX8_card 7 = .ok (.bipush 9, 2) := by decide +kernel
theorem dX8_card_9 : decode cX8_card 9 = .ok (.invokestatic 61, 3) := by decide +kernel
theorem dX8_card_12 : decode cX8_card 12 = .ok (.ifCond .eq 23, 3) := by decide +kernel
theorem dX8_card_15 : decode cX8_card 15 = .ok (.iload_n 2, 1) := by decide +kernel
theorem dX8_card_16 : decode cX8_card 16 = .ok (.iconst 0, 1) := by decide +kernel
theorem dX8_card_17 : decode cX8_card 17 = .ok (.iconst 1, 1) := by decide +kernel
theorem dX8_card_18 : decode cX8_card 18 = .ok (.invokestatic 61, 3) := by decide +kernel
theorem dX8_card_21 : decode cX8_card 21 = .ok (.ifCond .eq 14, 3) := by decide +kernel
theorem dX8_card_24 : decode cX8_card 24 = .ok (.iload_n 3, 1) := by decide +kernel
theorem dX8_card_25 : decode cX8_card 25 = .ok (.iconst 0, 1) := by decide +kernel
theorem dX8_card_26 : decode cX8_card 26 = .ok (.sipush 200, 3) := by decide +kernel
theorem dX8_card_29 : decode cX8_card 29 = .ok (.invokestatic 61, 3) := by decide +kernel
theorem dX8_card_32 : decode cX8_card 32 = .ok (.ifCond .ne 5, 3) := by decide +kernel
theorem dX8_card_35 : decode cX8_card 35 = .ok (.iconst (-1), 1) := by decide +kernel
theorem dX8_card_36 : decode cX8_card 36 = .ok (.ireturn, 1) := by decide +kernel
theorem dX8_card_37 : decode cX8_card 37 = .ok (.aload_n 0, 1) := by decide +kernel
theorem dX8_card_38 : decode cX8_card 38 = .ok (.getfield 32, 3) := by decide +kernel
theorem dX8_card_41 : decode cX8_card 41 = .ok (.iconst 2, 1) := by decide +kernel
theorem dX8_card_42 : decode cX8_card 42 = .ok (.iload_n 1, 1) := by decide +kernel
theorem dX8_card_43 : decode cX8_card 43 = .ok (.imul, 1) := by decide +kernel
theorem dX8_card_44 : decode cX8_card 44 = .ok (.iload_n 2, 1) := by decide +kernel
theorem dX8_card_45 : decode cX8_card 45 = .ok (.iadd, 1) := by decide +kernel
theorem dX8_card_46 : decode cX8_card 46 = .ok (.iaload, 1) := by decide +kernel
theorem dX8_card_47 : decode cX8_card 47 = .ok (.istore 4, 2) := by decide +kernel
theorem dX8_card_49 : decode cX8_card 49 = .ok (.aload_n 0, 1) := by decide +kernel
theorem dX8_card_50 : decode cX8_card 50 = .ok (.getfield 32, 3) := by decide +kernel
theorem dX8_card_53 : decode cX8_card 53 = .ok (.iconst 2, 1) := by decide +kernel
theorem dX8_card_54 : decode cX8_card 54 = .ok (.iload_n 1, 1) := by decide +kernel
theorem dX8_card_55 : decode cX8_card 55 = .ok (.imul, 1) := by decide +kernel
theorem dX8_card_56 : decode cX8_card 56 = .ok (.iload_n 2, 1) := by decide +kernel
theorem dX8_card_57 : decode cX8_card 57 = .ok (.iadd, 1) := by decide +kernel
theorem dX8_card_58 : decode cX8_card 58 = .ok (.iload_n 3, 1) := by decide +kernel
theorem dX8_card_59 : decode cX8_card 59 = .ok (.iastore, 1) := by decide +kernel
theorem dX8_card_60 : decode cX8_card 60 = .ok (.iload 4, 2) := by decide +kernel
theorem dX8_card_62 : decode cX8_card 62 = .ok (.ireturn, 1) := by decide +kernel
theorem dX8_wins_0 : decode cX8_wins 0 = .ok (.aload_n 0, 1) := by decide +kernel
theorem dX8_wins_1 : decode cX8_wins 1 = .ok (.iconst 0, 1) := by decide +kernel
theorem dX8_wins_2 : decode cX8_wins 2 = .ok (.putfield 119, 3) := by decide +kernel
theorem dX8_wins_5 : decode cX8_wins 5 = .ok (.iload_n 1, 1) := by decide +kernel
theorem dX8_wins_6 : decode cX8_wins 6 = .ok (.istore 4, 2) := by decide +kernel
theorem dX8_wins_8 : decode cX8_wins 8 = .ok (.iconst 0, 1) := by decide +kernel
theorem dX8_wins_9 : decode cX8_wins 9 = .ok (.istore 5, 2) := by decide +kernel
theorem dX8_wins_11 : decode cX8_wins 11 = .ok (.iconst 0, 1) := by decide +kernel
theorem dX8_wins_12 : decode cX8_wins 12 = .ok (.istore 6, 2) := by decide +kernel
theorem dX8_wins_14 : decode cX8_wins 14 = .ok (.iload 6, 2) := by decide +kernel
theorem dX8_wins_16 : decode cX8_wins 16 = .ok (.iload_n 2, 1) := by decide +kernel
theorem dX8_wins_17 : decode cX8_wins 17 = .ok (.if_icmp .ge 131, 3) := by decide +kernel
theorem dX8_wins_20 : decode cX8_wins 20 = .ok (.aload_n 0, 1) := by decide +kernel
theorem dX8_wins_21 : decode cX8_wins 21 = .ok (.getfield 32, 3) := by decide +kernel
theorem dX8_wins_24 : decode cX8_wins 24 = .ok (.iconst 2, 1) := by decide +kernel
theorem dX8_wins_25 : decode cX8_wins 25 = .ok (.iload 6, 2) := by decide +kernel
theorem dX8_wins_27 : decode cX8_wins 27 = .ok (.imul, 1) := by decide +kernel
theorem dX8_wins_28 : decode cX8_wins 28 = .ok (.iaload, 1) := by decide +kernel
theorem dX8_wins_29 : decode cX8_wins 29 = .ok (.istore 7, 2) := by decide +kernel
theorem dX8_wins_31 : decode cX8_wins 31 = .ok (.iload 4, 2) := by decide +kernel
theorem dX8_wins_33 : decode cX8_wins 33 = .ok (.iload 7, 2) := by decide +kernel
theorem dX8_wins_35 : decode cX8_wins 35 = .ok (.if_icmp .le 11, 3) := by decide +kernel
theorem dX8_wins_38 : decode cX8_wins 38 = .ok (.iload 4, 2) := by decide +kernel
theorem dX8_wins_40 : decode cX8_wins 40 = .ok (.iload 7, 2) := by decide +kernel
theorem dX8_wins_42 : decode cX8_wins 42 = .ok (.isub, 1) := by decide +kernel
theorem dX8_wins_43 : decode cX8_wins 43 = .ok (.goto 4, 3) := by decide +kernel
theorem dX8_wins_46 : decode cX8_wins 46 = .ok (.iconst 0, 1) := by decide +kernel
theorem dX8_wins_47 : decode cX8_wins 47 = .ok (.istore 8, 2) := by decide +kernel
theorem dX8_wins_49 : decode cX8_wins 49 = .ok (.iload_n 1, 1) := by decide +kernel
theorem dX8_wins_50 : decode cX8_wins 50 = .ok (.iload 8, 2) := by decide +kernel
theorem dX8_wins_52 : decode cX8_wins 52 = .ok (.isub, 1) := by decide +kernel
theorem dX8_wins_53 : decode cX8_wins 53 = .ok (.iload 7, 2) := by decide +kernel
theorem dX8_wins_55 : decode cX8_wins 55 = .ok (.isub, 1) := by decide +kernel
theorem dX8_wins_56 : decode cX8_wins 56 = .ok (.aload_n 0, 1) := by decide +kernel
theorem dX8_wins_57 : decode cX8_wins 57 = .ok (.getfield 20, 3) := by decide +kernel
theorem dX8_wins_60 : decode cX8_wins 60 = .ok (.iconst 0, 1) := by decide +kernel
theorem dX8_wins_61 : decode cX8_wins 61 = .ok (.iaload, 1) := by decide +kernel
theorem dX8_wins_62 : decode cX8_wins 62 = .ok (.iadd, 1) := by decide +kernel
theorem dX8_wins_63 : decode cX8_wins 63 = .ok (.iconst 1, 1) := by decide +kernel
theorem dX8_wins_64 : decode cX8_wins 64 = .ok (.iadd, 1) := by decide +kernel
theorem dX8_wins_65 : decode cX8_wins 65 = .ok (.iconst 0, 1) := by decide +kernel
theorem dX8_wins_66 : decode cX8_wins 66 = .ok (.iconst 2, 1) := by decide +kernel
theorem dX8_wins_67 : decode cX8_wins 67 = .ok (.aload_n 0, 1) := by decide +kernel
theorem dX8_wins_68 : decode cX8_wins 68 = .ok (.getfield 20, 3) := by decide +kernel
theorem dX8_wins_71 : decode cX8_wins 71 = .ok (.iconst 0, 1) := by decide +kernel
theorem dX8_wins_72 : decode cX8_wins 72 = .ok (.iaload, 1) := by decide +kernel
theorem dX8_wins_73 : decode cX8_wins 73 = .ok (.imul, 1) := by decide +kernel
theorem dX8_wins_74 : decode cX8_wins 74 = .ok (.iconst 1, 1) := by decide +kernel
theorem dX8_wins_75 : decode cX8_wins 75 = .ok (.iadd, 1) := by decide +kernel
theorem dX8_wins_76 : decode cX8_wins 76 = .ok (.invokestatic 125, 3) := by decide +kernel
theorem dX8_wins_79 : decode cX8_wins 79 = .ok (.istore 9, 2) := by decide +kernel
theorem dX8_wins_81 : decode cX8_wins 81 = .ok (.iload_n 3, 1) := by decide +kernel
theorem dX8_wins_82 : decode cX8_wins 82 = .ok (.iload 6, 2) := by decide +kernel
theorem dX8_wins_84 : decode cX8_wins 84 = .ok (.invokestatic 132, 3) := by decide +kernel
theorem dX8_wins_87 : decode cX8_wins 87 = .ok (.istore 10, 2) := by decide +kernel
theorem dX8_wins_89 : decode cX8_wins 89 = .ok (.iload 5, 2) := by decide +kernel
theorem dX8_wins_91 : decode cX8_wins 91 = .ok (.iload 10, 2) := by decide +kernel
theorem dX8_wins_93 : decode cX8_wins 93 = .ok (.ifCond .eq 7, 3) := by decide +kernel
theorem dX8_wins_96 : decode cX8_wins 96 = .ok (.iconst 0, 1) := by decide +kernel
theorem dX8_wins_97 : decode cX8_wins 97 = .ok (.goto 17, 3) := by decide +kernel
theorem dX8_wins_100 : decode cX8_wins 100 = .ok (.aload_n 0, 1) := by decide +kernel
theorem dX8_wins_101 : decode cX8_wins 101 = .ok (.getfield 32, 3) := by decide +kernel
theorem dX8_wins_104 : decode cX8_wins 104 = .ok (.iconst 2, 1) := by decide +kernel
theorem dX8_wins_105 : decode cX8_wins 105 = .ok (.iload 6, 2) := by decide +kernel
theorem dX8_wins_107 : decode cX8_wins 107 = .ok (.imul, 1) := by decide +kernel
theorem dX8_wins_108 : decode cX8_wins 108 = .ok (.iconst 1, 1) := by decide +kernel
theorem dX8_wins_109 : decode cX8_wins 109 = .ok (.iadd, 1) := by decide +kernel
theorem dX8_wins_110 : decode cX8_wins 110 = .ok (.iaload, 1) := by decide +kernel
theorem dX8_wins_111 : decode cX8_wins 111 = .ok (.iload 9, 2) := by decide +kernel
theorem dX8_wins_113 : decode cX8_wins 113 = .ok (.imul, 1) := by decide +kernel
theorem dX8_wins_114 : decode cX8_wins 114 = .ok (.iadd, 1) := by decide +kernel
theorem dX8_wins_115 : decode cX8_wins 115 = .ok (.istore 5, 2) := by decide +kernel
theorem dX8_wins_117 : decode cX8_wins 117 = .ok (.aload_n 0, 1) := by decide +kernel
theorem dX8_wins_118 : decode cX8_wins 118 = .ok (.iload 4, 2) := by decide +kernel
theorem dX8_wins_120 : decode cX8_wins 120 = .ok (.iload 10, 2) := by decide +kernel
theorem dX8_wins_122 : decode cX8_wins 122 = .ok (.ifCond .eq 14, 3) := by decide +kernel
theorem dX8_wins_125 : decode cX8_wins 125 = .ok (.iload_n 1, 1) := by decide +kernel
theorem dX8_wins_126 : decode cX8_wins 126 = .ok (.aload_n 0, 1) := by decide +kernel
theorem dX8_wins_127 : decode cX8_wins 127 = .ok (.getfield 20, 3) := by decide +kernel
theorem dX8_wins_130 : decode cX8_wins 130 = .ok (.iconst 2, 1) := by decide +kernel
theorem dX8_wins_131 : decode cX8_wins 131 = .ok (.iaload, 1) := by decide +kernel
theorem dX8_wins_132 : decode cX8_wins 132 = .ok (.isub, 1) := by decide +kernel
theorem dX8_wins_133 : decode cX8_wins 133 = .ok (.goto 4, 3) := by decide +kernel
theorem dX8_wins_136 : decode cX8_wins 136 = .ok (.iload_n 1, 1) := by decide +kernel
theorem dX8_wins_137 : decode cX8_wins 137 = .ok (.invokevirtual 148, 3) := by decide +kernel
theorem dX8_wins_140 : decode cX8_wins 140 = .ok (.istore 4, 2) := by decide +kernel
theorem dX8_wins_142 : decode cX8_wins 142 = .ok (.iinc 6 1, 3) := by decide +kernel
theorem dX8_wins_145 : decode cX8_wins 145 = .ok (.goto (-131), 3) := by decide +kernel
theorem dX8_wins_148 : decode cX8_wins 148 = .ok (.iload 5, 2) := by decide +kernel
theorem dX8_wins_150 : decode cX8_wins 150 = .ok (.ireturn, 1) := by decide +kernel
theorem dX8_plan_0 : decode cX8_plan 0 = .ok (.aload_n 0, 1) := by decide +kernel
theorem dX8_plan_1 : decode cX8_plan 1 = .ok (.iconst 0, 1) := by decide +kernel
theorem dX8_plan_2 : decode cX8_plan 2 = .ok (.putfield 57, 3) := by decide +kernel
theorem dX8_plan_5 : decode cX8_plan 5 = .ok (.iload_n 1, 1) := by decide +kernel
theorem dX8_plan_6 : decode cX8_plan 6 = .ok (.iconst 0, 1) := by decide +kernel
theorem dX8_plan_7 : decode cX8_plan 7 = .ok (.sipush 200, 3) := by decide +kernel
theorem dX8_plan_10 : decode cX8_plan 10 = .ok (.invokestatic 61, 3) := by decide +kernel
theorem dX8_plan_13 : decode cX8_plan 13 = .ok (.ifCond .eq 22, 3) := by decide +kernel
theorem dX8_plan_16 : decode cX8_plan 16 = .ok (.iload_n 2, 1) := by decide +kernel
theorem dX8_plan_17 : decode cX8_plan 17 = .ok (.iconst 1, 1) := by decide +kernel
theorem dX8_plan_18 : decode cX8_plan 18 = .ok (.bipush 10, 2) := by decide +kernel
theorem dX8_plan_20 : decode cX8_plan 20 = .ok (.invokestatic 61, 3) := by decide +kernel
theorem dX8_plan_23 : decode cX8_plan 23 = .ok (.ifCond .eq 12, 3) := by decide +kernel
theorem dX8_plan_26 : decode cX8_plan 26 = .ok (.iload_n 3, 1) := by decide +kernel
theorem dX8_plan_27 : decode cX8_plan 27 = .ok (.iconst 0, 1) := by decide +kernel
theorem dX8_plan_28 : decode cX8_plan 28 = .ok (.iconst 2, 1) := by decide +kernel
theorem dX8_plan_29 : decode cX8_plan 29 = .ok (.invokestatic 61, 3) := by decide +kernel
theorem dX8_plan_32 : decode cX8_plan 32 = .ok (.ifCond .ne 5, 3) := by decide +kernel
theorem dX8_plan_35 : decode cX8_plan 35 = .ok (.iconst (-1), 1) := by decide +kernel
theorem dX8_plan_36 : decode cX8_plan 36 = .ok (.ireturn, 1) := by decide +kernel
theorem dX8_plan_37 : decode cX8_plan 37 = .ok (.iconst 0, 1) := by decide +kernel
theorem dX8_plan_38 : decode cX8_plan 38 = .ok (.istore 4, 2) := by decide +kernel
theorem dX8_plan_40 : decode cX8_plan 40 = .ok (.aload_n 0, 1) := by decide +kernel
theorem dX8_plan_41 : decode cX8_plan 41 = .ok (.iload_n 1, 1) := by decide +kernel
theorem dX8_plan_42 : decode cX8_plan 42 = .ok (.iload_n 2, 1) := by decide +kernel
theorem dX8_plan_43 : decode cX8_plan 43 = .ok (.iconst 0, 1) := by decide +kernel
theorem dX8_plan_44 : decode cX8_plan 44 = .ok (.invokevirtual 176, 3) := by decide +kernel
theorem dX8_plan_47 : decode cX8_plan 47 = .ok (.istore 5, 2) := by decide +kernel
theorem dX8_plan_49 : decode cX8_plan 49 = .ok (.iload_n 3, 1) := by decide +kernel
theorem dX8_plan_50 : decode cX8_plan 50 = .ok (.iconst 2, 1) := by decide +kernel
theorem dX8_plan_51 : decode cX8_plan 51 = .ok (.if_icmp .ne 6, 3) := by decide +kernel
theorem dX8_plan_54 : decode cX8_plan 54 = .ok (.iload 5, 2) := by decide +kernel
theorem dX8_plan_56 : decode cX8_plan 56 = .ok (.ireturn, 1) := by decide +kernel
theorem dX8_plan_57 : decode cX8_plan 57 = .ok (.iconst 1, 1) := by decide +kernel
theorem dX8_plan_58 : decode cX8_plan 58 = .ok (.istore 6, 2) := by decide +kernel
theorem dX8_plan_60 : decode cX8_plan 60 = .ok (.iload 6, 2) := by decide +kernel
theorem dX8_plan_62 : decode cX8_plan 62 = .ok (.iconst 1, 1) := by decide +kernel
theorem dX8_plan_63 : decode cX8_plan 63 = .ok (.iload_n 2, 1) := by decide +kernel
theorem dX8_plan_64 : decode cX8_plan 64 = .ok (.ishl, 1) := by decide +kernel
theorem dX8_plan_65 : decode cX8_plan 65 = .ok (.if_icmp .ge 51, 3) := by decide +kernel
theorem dX8_plan_68 : decode cX8_plan 68 = .ok (.aload_n 0, 1) := by decide +kernel
theorem dX8_plan_69 : decode cX8_plan 69 = .ok (.iload_n 1, 1) := by decide +kernel
theorem dX8_plan_70 : decode cX8_plan 70 = .ok (.iload_n 2, 1) := by decide +kernel
theorem dX8_plan_71 : decode cX8_plan 71 = .ok (.iload 6, 2) := by decide +kernel
theorem dX8_plan_73 : decode cX8_plan 73 = .ok (.invokevirtual 176, 3) := by decide +kernel
theorem dX8_plan_76 : decode cX8_plan 76 = .ok (.istore 7, 2) := by decide +kernel
theorem dX8_plan_78 : decode cX8_plan 78 = .ok (.iload 7, 2) := by decide +kernel
theorem dX8_plan_80 : decode cX8_plan 80 = .ok (.iload 5, 2) := by decide +kernel
theorem dX8_plan_82 : decode cX8_plan 82 = .ok (.if_icmp .le 8, 3) := by decide +kernel
theorem dX8_plan_85 : decode cX8_plan 85 = .ok (.iload 6, 2) := by decide +kernel
theorem dX8_plan_87 : decode cX8_plan 87 = .ok (.goto 5, 3) := by decide +kernel
theorem dX8_plan_90 : decode cX8_plan 90 = .ok (.iload 4, 2) := by decide +kernel
theorem dX8_plan_92 : decode cX8_plan 92 = .ok (.istore 4, 2) := by decide +kernel
theorem dX8_plan_94 : decode cX8_plan 94 = .ok (.iload 7, 2) := by decide +kernel
theorem dX8_plan_96 : decode cX8_plan 96 = .ok (.iload 5, 2) := by decide +kernel
theorem dX8_plan_98 : decode cX8_plan 98 = .ok (.if_icmp .le 8, 3) := by decide +kernel
theorem dX8_plan_101 : decode cX8_plan 101 = .ok (.iload 7, 2) := by decide +kernel
theorem dX8_plan_103 : decode cX8_plan 103 = .ok (.goto 5, 3) := by decide +kernel
theorem dX8_plan_106 : decode cX8_plan 106 = .ok (.iload 5, 2) := by decide +kernel
theorem dX8_plan_108 : decode cX8_plan 108 = .ok (.istore 5, 2) := by decide +kernel
theorem dX8_plan_110 : decode cX8_plan 110 = .ok (.iinc 6 1, 3) := by decide +kernel
theorem dX8_plan_113 : decode cX8_plan 113 = .ok (.goto (-53), 3) := by decide +kernel
theorem dX8_plan_116 : decode cX8_plan 116 = .ok (.iload_n 3, 1) := by decide +kernel
theorem dX8_plan_117 : decode cX8_plan 117 = .ok (.ifCond .ne 8, 3) := by decide +kernel
theorem dX8_plan_120 : decode cX8_plan 120 = .ok (.iload 4, 2) := by decide +kernel
theorem dX8_plan_122 : decode cX8_plan 122 = .ok (.goto 5, 3) := by decide +kernel
theorem dX8_plan_125 : decode cX8_plan 125 = .ok (.iload 5, 2) := by decide +kernel
theorem dX8_plan_127 : decode cX8_plan 127 = .ok (.ireturn, 1) := by decide +kernel
theorem dX8_hull_0 : decode cX8_hull 0 = .ok (.aload_n 0, 1) := by decide +kernel
theorem dX8_hull_1 : decode cX8_hull 1 = .ok (.iconst 0, 1) := by decide +kernel
theorem dX8_hull_2 : decode cX8_hull 2 = .ok (.putfield 57, 3) := by decide +kernel
theorem dX8_hull_5 : decode cX8_hull 5 = .ok (.iload_n 1, 1) := by decide +kernel
theorem dX8_hull_6 : decode cX8_hull 6 = .ok (.iconst 0, 1) := by decide +kernel
theorem dX8_hull_7 : decode cX8_hull 7 = .ok (.iconst 5, 1) := by decide +kernel
theorem dX8_hull_8 : decode cX8_hull 8 = .ok (.invokestatic 61, 3) := by decide +kernel
theorem dX8_hull_11 : decode cX8_hull 11 = .ok (.ifCond .eq 14, 3) := by decide +kernel
theorem dX8_hull_14 : decode cX8_hull 14 = .ok (.iload_n 2, 1) := by decide +kernel
theorem dX8_hull_15 : decode cX8_hull 15 = .ok (.bipush (-9), 2) := by decide +kernel
theorem dX8_hull_17 : decode cX8_hull 17 = .ok (.bipush 9, 2) := by decide +kernel
theorem dX8_hull_19 : decode cX8_hull 19 = .ok (.invokestatic 61, 3) := by decide +kernel
theorem dX8_hull_22 : decode cX8_hull 22 = .ok (.ifCond .ne 6, 3) := by decide +kernel
theorem dX8_hull_25 : decode cX8_hull 25 = .ok (.ldc 69, 2) := by decide +kernel
theorem dX8_hull_27 : decode cX8_hull 27 = .ok (.ireturn, 1) := by decide +kernel
theorem dX8_hull_28 : decode cX8_hull 28 = .ok (.aload_n 0, 1) := by decide +kernel
theorem dX8_hull_29 : decode cX8_hull 29 = .ok (.getfield 35, 3) := by decide +kernel
theorem dX8_hull_32 : decode cX8_hull 32 = .ok (.iload_n 1, 1) := by decide +kernel
theorem dX8_hull_33 : decode cX8_hull 33 = .ok (.iaload, 1) := by decide +kernel
theorem dX8_hull_34 : decode cX8_hull 34 = .ok (.istore_n 3, 1) := by decide +kernel
theorem dX8_hull_35 : decode cX8_hull 35 = .ok (.aload_n 0, 1) := by decide +kernel
theorem dX8_hull_36 : decode cX8_hull 36 = .ok (.getfield 35, 3) := by decide +kernel
theorem dX8_hull_39 : decode cX8_hull 39 = .ok (.iload_n 1, 1) := by decide +kernel
theorem dX8_hull_40 : decode cX8_hull 40 = .ok (.iload_n 2, 1) := by decide +kernel
theorem dX8_hull_41 : decode cX8_hull 41 = .ok (.iastore, 1) := by decide +kernel
theorem dX8_hull_42 : decode cX8_hull 42 = .ok (.iload_n 3, 1) := by decide +kernel
theorem dX8_hull_43 : decode cX8_hull 43 = .ok (.ireturn, 1) := by decide +kernel
theorem dX8_beats_0 : decode cX8_beats 0 = .ok (.aload_n 0, 1) := by decide +kernel
theorem dX8_beats_1 : decode cX8_beats 1 = .ok (.iconst 0, 1) := by decide +kernel
theorem dX8_beats_2 : decode cX8_beats 2 = .ok (.putfield 57, 3) := by decide +kernel
theorem dX8_beats_5 : decode cX8_beats 5 = .ok (.iload_n 1, 1) := by decide +kernel
theorem dX8_beats_6 : decode cX8_beats 6 = .ok (.sipush (-500), 3) := by decide +kernel
theorem dX8_beats_9 : decode cX8_beats 9 = .ok (.sipush 500, 3) := by decide +kernel
theorem dX8_beats_12 : decode cX8_beats 12 = .ok (.invokestatic 61, 3) := by decide +kernel
theorem dX8_beats_15 : decode cX8_beats 15 = .ok (.ifCond .eq 12, 3) := by decide +kernel
theorem dX8_beats_18 : decode cX8_beats 18 = .ok (.iload_n 2, 1) := by decide +kernel
theorem dX8_beats_19 : decode cX8_beats 19 = .ok (.iconst 0, 1) := by decide +kernel
theorem dX8_beats_20 : decode cX8_beats 20 = .ok (.iconst 3, 1) := by decide +kernel
theorem dX8_beats_21 : decode cX8_beats 21 = .ok (.invokestatic 61, 3) := by decide +kernel
theorem dX8_beats_24 : decode cX8_beats 24 = .ok (.ifCond .ne 6, 3) := by decide +kernel
theorem dX8_beats_27 : decode cX8_beats 27 = .ok (.ldc 69, 2) := by decide +kernel
theorem dX8_beats_29 : decode cX8_beats 29 = .ok (.ireturn, 1) := by decide +kernel
theorem dX8_beats_30 : decode cX8_beats 30 = .ok (.bipush (-9), 2) := by decide +kernel
theorem dX8_beats_32 : decode cX8_beats 32 = .ok (.istore_n 3, 1) := by decide +kernel
theorem dX8_beats_33 : decode cX8_beats 33 = .ok (.iconst 0, 1) := by decide +kernel
theorem dX8_beats_34 : decode cX8_beats 34 = .ok (.istore 4, 2) := by decide +kernel
theorem dX8_beats_36 : decode cX8_beats 36 = .ok (.iconst 0, 1) := by decide +kernel
theorem dX8_beats_37 : decode cX8_beats 37 = .ok (.istore 5, 2) := by decide +kernel
theorem dX8_beats_39 : decode cX8_beats 39 = .ok (.iload 5, 2) := by decide +kernel
theorem dX8_beats_41 : decode cX8_beats 41 = .ok (.sipush 1728, 3) := by decide +kernel
theorem dX8_beats_44 : decode cX8_beats 44 = .ok (.if_icmp .ge 124, 3) := by decide +kernel
theorem dX8_beats_47 : decode cX8_beats 47 = .ok (.iload 5, 2) := by decide +kernel
theorem dX8_beats_49 : decode cX8_beats 49 = .ok (.sipush 144, 3) := by decide +kernel
theorem dX8_beats_52 : decode cX8_beats 52 = .ok (.idiv, 1) := by decide +kernel
theorem dX8_beats_53 : decode cX8_beats 53 = .ok (.iconst 1, 1) := by decide +kernel
theorem dX8_beats_54 : decode cX8_beats 54 = .ok (.iadd, 1) := by decide +kernel
theorem dX8_beats_55 : decode cX8_beats 55 = .ok (.istore 6, 2) := by decide +kernel
theorem dX8_beats_57 : decode cX8_beats 57 = .ok (.iload 5, 2) := by decide +kernel
theorem dX8_beats_59 : decode cX8_beats 59 = .ok (.bipush 12, 2) := by decide +kernel
theorem dX8_beats_61 : decode cX8_beats 61 = .ok (.idiv, 1) := by decide +kernel
theorem dX8_beats_62 : decode cX8_beats 62 = .ok (.bipush 12, 2) := by decide +kernel
theorem dX8_beats_64 : decode cX8_beats 64 = .ok (.irem, 1) := by decide +kernel
theorem dX8_beats_65 : decode cX8_beats 65 = .ok (.iconst 1, 1) := by decide +kernel
theorem dX8_beats_66 : decode cX8_beats 66 = .ok (.iadd, 1) := by decide +kernel
theorem dX8_beats_67 : decode cX8_beats 67 = .ok (.istore 7, 2) := by decide +kernel
theorem dX8_beats_69 : decode cX8_beats 69 = .ok (.iload 5, 2) := by decide +kernel
theorem dX8_beats_71 : decode cX8_beats 71 = .ok (.bipush 12, 2) := by decide +kernel
theorem dX8_beats_73 : decode cX8_beats 73 = .ok (.irem, 1) := by decide +kernel
theorem dX8_beats_74 : decode cX8_beats 74 = .ok (.iconst 1, 1) := by decide +kernel
theorem dX8_beats_75 : decode cX8_beats 75 = .ok (.iadd, 1) := by decide +kernel
theorem dX8_beats_76 : decode cX8_beats 76 = .ok (.istore 8, 2) := by decide +kernel
theorem dX8_beats_78 : decode cX8_beats 78 = .ok (.aload_n 0, 1) := by decide +kernel
theorem dX8_beats_79 : decode cX8_beats 79 = .ok (.getfield 35, 3) := by decide +kernel
theorem dX8_beats_82 : decode cX8_beats 82 = .ok (.iconst 3, 1) := by decide +kernel
theorem dX8_beats_83 : decode cX8_beats 83 = .ok (.iaload, 1) := by decide +kernel
theorem dX8_beats_84 : decode cX8_beats 84 = .ok (.iload 6, 2) := by decide +kernel
theorem dX8_beats_86 : decode cX8_beats 86 = .ok (.imul, 1) := by decide +kernel
theorem dX8_beats_87 : decode cX8_beats 87 = .ok (.aload_n 0, 1) := by decide +kernel
theorem dX8_beats_88 : decode cX8_beats 88 = .ok (.getfield 35, 3) := by decide +kernel
theorem dX8_beats_91 : decode cX8_beats 91 = .ok (.iconst 4, 1) := by decide +kernel
theorem dX8_beats_92 : decode cX8_beats 92 = .ok (.iaload, 1) := by decide +kernel
theorem dX8_beats_93 : decode cX8_beats 93 = .ok (.iload 7, 2) := by decide +kernel
theorem dX8_beats_95 : decode cX8_beats 95 = .ok (.imul, 1) := by decide +kernel
theorem dX8_beats_96 : decode cX8_beats 96 = .ok (.iadd, 1) := by decide +kernel
theorem dX8_beats_97 : decode cX8_beats 97 = .ok (.aload_n 0, 1) := by decide +kernel
theorem dX8_beats_98 : decode cX8_beats 98 = .ok (.getfield 35, 3) := by decide +kernel
theorem dX8_beats_101 : decode cX8_beats 101 = .ok (.iconst 5, 1) := by decide +kernel
theorem dX8_beats_102 : decode cX8_beats 102 = .ok (.iaload, 1) := by decide +kernel
theorem dX8_beats_103 : decode cX8_beats 103 = .ok (.iload 8, 2) := by decide +kernel
theorem dX8_beats_105 : decode cX8_beats 105 = .ok (.imul, 1) := by decide +kernel
theorem dX8_beats_106 : decode cX8_beats 106 = .ok (.iadd, 1) := by decide +kernel
theorem dX8_beats_107 : decode cX8_beats 107 = .ok (.istore 9, 2) := by decide +kernel
theorem dX8_beats_109 : decode cX8_beats 109 = .ok (.aload_n 0, 1) := by decide +kernel
theorem dX8_beats_110 : decode cX8_beats 110 = .ok (.getfield 35, 3) := by decide +kernel
theorem dX8_beats_113 : decode cX8_beats 113 = .ok (.iconst 0, 1) := by decide +kernel
theorem dX8_beats_114 : decode cX8_beats 114 = .ok (.iaload, 1) := by decide +kernel
theorem dX8_beats_115 : decode cX8_beats 115 = .ok (.iload 6, 2) := by decide +kernel
theorem dX8_beats_117 : decode cX8_beats 117 = .ok (.imul, 1) := by decide +kernel
theorem dX8_beats_118 : decode cX8_beats 118 = .ok (.aload_n 0, 1) := by decide +kernel
theorem dX8_beats_119 : decode cX8_beats 119 = .ok (.getfield 35, 3) := by decide +kernel
theorem dX8_beats_122 : decode cX8_beats 122 = .ok (.iconst 1, 1) := by decide +kernel
theorem dX8_beats_123 : decode cX8_beats 123 = .ok (.iaload, 1) := by decide +kernel
theorem dX8_beats_124 : decode cX8_beats 124 = .ok (.iload 7, 2) := by decide +kernel
theorem dX8_beats_126 : decode cX8_beats 126 = .ok (.imul, 1) := by decide +kernel
theorem dX8_beats_127 : decode cX8_beats 127 = .ok (.iadd, 1) := by decide +kernel
theorem dX8_beats_128 : decode cX8_beats 128 = .ok (.aload_n 0, 1) := by decide +kernel
theorem dX8_beats_129 : decode cX8_beats 129 = .ok (.getfield 35, 3) := by decide +kernel
theorem dX8_beats_132 : decode cX8_beats 132 = .ok (.iconst 2, 1) := by decide +kernel
theorem dX8_beats_133 : decode cX8_beats 133 = .ok (.iaload, 1) := by decide +kernel
theorem dX8_beats_134 : decode cX8_beats 134 = .ok (.iload 8, 2) := by decide +kernel
theorem dX8_beats_136 : decode cX8_beats 136 = .ok (.imul, 1) := by decide +kernel
theorem dX8_beats_137 : decode cX8_beats 137 = .ok (.iadd, 1) := by decide +kernel
theorem dX8_beats_138 : decode cX8_beats 138 = .ok (.iload_n 1, 1) := by decide +kernel
theorem dX8_beats_139 : decode cX8_beats 139 = .ok (.if_icmp .gt 23, 3) := by decide +kernel
theorem dX8_beats_142 : decode cX8_beats 142 = .ok (.iload_n 3, 1) := by decide +kernel
theorem dX8_beats_143 : decode cX8_beats 143 = .ok (.bipush (-9), 2) := by decide +kernel
theorem dX8_beats_145 : decode cX8_beats 145 = .ok (.if_icmp .eq 10, 3) := by decide +kernel
theorem dX8_beats_148 : decode cX8_beats 148 = .ok (.iload 9, 2) := by decide +kernel
theorem dX8_beats_150 : decode cX8_beats 150 = .ok (.iload 4, 2) := by decide +kernel
theorem dX8_beats_152 : decode cX8_beats 152 = .ok (.if_icmp .le 10, 3) := by decide +kernel
theorem dX8_beats_155 : decode cX8_beats 155 = .ok (.iload 5, 2) := by decide +kernel
theorem dX8_beats_157 : decode cX8_beats 157 = .ok (.istore_n 3, 1) := by decide +kernel
theorem dX8_beats_158 : decode cX8_beats 158 = .ok (.iload 9, 2) := by decide +kernel
theorem dX8_beats_160 : decode cX8_beats 160 = .ok (.istore 4, 2) := by decide +kernel
theorem dX8_beats_162 : decode cX8_beats 162 = .ok (.iinc 5 1, 3) := by decide +kernel
theorem dX8_beats_165 : decode cX8_beats 165 = .ok (.goto (-126), 3) := by decide +kernel
theorem dX8_beats_168 : decode cX8_beats 168 = .ok (.iload_n 3, 1) := by decide +kernel
theorem dX8_beats_169 : decode cX8_beats 169 = .ok (.bipush (-9), 2) := by decide +kernel
theorem dX8_beats_171 : decode cX8_beats 171 = .ok (.if_icmp .ne 8, 3) := by decide +kernel
theorem dX8_beats_174 : decode cX8_beats 174 = .ok (.ldc 69, 2) := by decide +kernel
theorem dX8_beats_176 : decode cX8_beats 176 = .ok (.goto 50, 3) := by decide +kernel
theorem dX8_beats_179 : decode cX8_beats 179 = .ok (.iload_n 2, 1) := by decide +kernel
theorem dX8_beats_180 : decode cX8_beats 180 = .ok (.ifCond .ne 13, 3) := by decide +kernel
theorem dX8_beats_183 : decode cX8_beats 183 = .ok (.iload_n 3, 1) := by decide +kernel
theorem dX8_beats_184 : decode cX8_beats 184 = .ok (.sipush 144, 3) := by decide +kernel
theorem dX8_beats_187 : decode cX8_beats 187 = .ok (.idiv, 1) := by decide +kernel
theorem dX8_beats_188 : decode cX8_beats 188 = .ok (.iconst 1, 1) := by decide +kernel
theorem dX8_beats_189 : decode cX8_beats 189 = .ok (.iadd, 1) := by decide +kernel
theorem dX8_beats_190 : decode cX8_beats 190 = .ok (.goto 36, 3) := by decide +kernel
theorem dX8_beats_193 : decode cX8_beats 193 = .ok (.iload_n 2, 1) := by decide +kernel
theorem dX8_beats_194 : decode cX8_beats 194 = .ok (.iconst 1, 1) := by decide +kernel
theorem dX8_beats_195 : decode cX8_beats 195 = .ok (.if_icmp .ne 15, 3) := by decide +kernel
theorem dX8_beats_198 : decode cX8_beats 198 = .ok (.iload_n 3, 1) := by decide +kernel
theorem dX8_beats_199 : decode cX8_beats 199 = .ok (.bipush 12, 2) := by decide +kernel
theorem dX8_beats_201 : decode cX8_beats 201 = .ok (.idiv, 1) := by decide +kernel
theorem dX8_beats_202 : decode cX8_beats 202 = .ok (.bipush 12, 2) := by decide +kernel
theorem dX8_beats_204 : decode cX8_beats 204 = .ok (.irem, 1) := by decide +kernel
theorem dX8_beats_205 : decode cX8_beats 205 = .ok (.iconst 1, 1) := by decide +kernel
theorem dX8_beats_206 : decode cX8_beats 206 = .ok (.iadd, 1) := by decide +kernel
theorem dX8_beats_207 : decode cX8_beats 207 = .ok (.goto 19, 3) := by decide +kernel
theorem dX8_beats_210 : decode cX8_beats 210 = .ok (.iload_n 2, 1) := by decide +kernel
theorem dX8_beats_211 : decode cX8_beats 211 = .ok (.iconst 2, 1) := by decide +kernel
theorem dX8_beats_212 : decode cX8_beats 212 = .ok (.if_icmp .ne 12, 3) := by decide +kernel
theorem dX8_beats_215 : decode cX8_beats 215 = .ok (.iload_n 3, 1) := by decide +kernel
theorem dX8_beats_216 : decode cX8_beats 216 = .ok (.bipush 12, 2) := by decide +kernel
theorem dX8_beats_218 : decode cX8_beats 218 = .ok (.irem, 1) := by decide +kernel
theorem dX8_beats_219 : decode cX8_beats 219 = .ok (.iconst 1, 1) := by decide +kernel
theorem dX8_beats_220 : decode cX8_beats 220 = .ok (.iadd, 1) := by decide +kernel
theorem dX8_beats_221 : decode cX8_beats 221 = .ok (.goto 5, 3) := by decide +kernel
theorem dX8_beats_224 : decode cX8_beats 224 = .ok (.iload 4, 2) := by decide +kernel
theorem dX8_beats_226 : decode cX8_beats 226 = .ok (.ireturn, 1) := by decide +kernel
theorem dX8_reading_0 : decode cX8_reading 0 = .ok (.aload_n 0, 1) := by decide +kernel
theorem dX8_reading_1 : decode cX8_reading 1 = .ok (.iconst 0, 1) := by decide +kernel
theorem dX8_reading_2 : decode cX8_reading 2 = .ok (.putfield 57, 3) := by decide +kernel
theorem dX8_reading_5 : decode cX8_reading 5 = .ok (.iload_n 1, 1) := by decide +kernel
theorem dX8_reading_6 : decode cX8_reading 6 = .ok (.iconst 0, 1) := by decide +kernel
theorem dX8_reading_7 : decode cX8_reading 7 = .ok (.bipush 6, 2) := by decide +kernel
theorem dX8_reading_9 : decode cX8_reading 9 = .ok (.invokestatic 61, 3) := by decide +kernel
theorem dX8_reading_12 : decode cX8_reading 12 = .ok (.ifCond .eq 11, 3) := by decide +kernel
theorem dX8_reading_15 : decode cX8_reading 15 = .ok (.aload_n 0, 1) := by decide +kernel
theorem dX8_reading_16 : decode cX8_reading 16 = .ok (.iload_n 2, 1) := by decide +kernel
theorem dX8_reading_17 : decode cX8_reading 17 = .ok (.invokevirtual 65, 3) := by decide +kernel
theorem dX8_reading_20 : decode cX8_reading 20 = .ok (.ifCond .ne 6, 3) := by decide +kernel
theorem dX8_reading_23 : decode cX8_reading 23 = .ok (.ldc 69, 2) := by decide +kernel
theorem dX8_reading_25 : decode cX8_reading 25 = .ok (.ireturn, 1) := by decide +kernel
theorem dX8_reading_26 : decode cX8_reading 26 = .ok (.aload_n 0, 1) := by decide +kernel
theorem dX8_reading_27 : decode cX8_reading 27 = .ok (.getfield 7, 3) := by decide +kernel
theorem dX8_reading_30 : decode cX8_reading 30 = .ok (.bipush 21, 2) := by decide +kernel
theorem dX8_reading_32 : decode cX8_reading 32 = .ok (.iload_n 2, 1) := by decide +kernel
theorem dX8_reading_33 : decode cX8_reading 33 = .ok (.imul, 1) := by decide +kernel
theorem dX8_reading_34 : decode cX8_reading 34 = .ok (.iconst 1, 1) := by decide +kernel
theorem dX8_reading_35 : decode cX8_reading 35 = .ok (.iadd, 1) := by decide +kernel
theorem dX8_reading_36 : decode cX8_reading 36 = .ok (.iaload, 1) := by decide +kernel
theorem dX8_reading_37 : decode cX8_reading 37 = .ok (.istore_n 3, 1) := by decide +kernel
theorem dX8_reading_38 : decode cX8_reading 38 = .ok (.iload_n 3, 1) := by decide +kernel
theorem dX8_reading_39 : decode cX8_reading 39 = .ok (.aload_n 0, 1) := by decide +kernel
theorem dX8_reading_40 : decode cX8_reading 40 = .ok (.getfield 20, 3) := by decide +kernel
theorem dX8_reading_43 : decode cX8_reading 43 = .ok (.iconst 1, 1) := by decide +kernel
theorem dX8_reading_44 : decode cX8_reading 44 = .ok (.iaload, 1) := by decide +kernel
theorem dX8_reading_45 : decode cX8_reading 45 = .ok (.iadd, 1) := by decide +kernel
theorem dX8_reading_46 : decode cX8_reading 46 = .ok (.istore 4, 2) := by decide +kernel
theorem dX8_reading_48 : decode cX8_reading 48 = .ok (.iconst 2, 1) := by decide +kernel
theorem dX8_reading_49 : decode cX8_reading 49 = .ok (.iload 4, 2) := by decide +kernel
theorem dX8_reading_51 : decode cX8_reading 51 = .ok (.imul, 1) := by decide +kernel
theorem dX8_reading_52 : decode cX8_reading 52 = .ok (.aload_n 0, 1) := by decide +kernel
theorem dX8_reading_53 : decode cX8_reading 53 = .ok (.getfield 20, 3) := by decide +kernel
theorem dX8_reading_56 : decode cX8_reading 56 = .ok (.iconst 2, 1) := by decide +kernel
theorem dX8_reading_57 : decode cX8_reading 57 = .ok (.iaload, 1) := by decide +kernel
theorem dX8_reading_58 : decode cX8_reading 58 = .ok (.isub, 1) := by decide +kernel
theorem dX8_reading_59 : decode cX8_reading 59 = .ok (.istore 5, 2) := by decide +kernel
theorem dX8_reading_61 : decode cX8_reading 61 = .ok (.aload_n 0, 1) := by decide +kernel
theorem dX8_reading_62 : decode cX8_reading 62 = .ok (.dup, 1) := by decide +kernel
theorem dX8_reading_63 : decode cX8_reading 63 = .ok (.getfield 179, 3) := by decide +kernel
theorem dX8_reading_66 : decode cX8_reading 66 = .ok (.iload_n 1, 1) := by decide +kernel
theorem dX8_reading_67 : decode cX8_reading 67 = .ok (.ifCond .ne 7, 3) := by decide +kernel
theorem dX8_reading_70 : decode cX8_reading 70 = .ok (.lconst 1, 1) := by decide +kernel
theorem dX8_reading_71 : decode cX8_reading 71 = .ok (.goto 61, 3) := by decide +kernel
theorem dX8_reading_74 : decode cX8_reading 74 = .ok (.iload_n 1, 1) := by decide +kernel
theorem dX8_reading_75 : decode cX8_reading 75 = .ok (.iconst 1, 1) := by decide +kernel
theorem dX8_reading_76 : decode cX8_reading 76 = .ok (.if_icmp .ne 9, 3) := by decide +kernel
theorem dX8_reading_79 : decode cX8_reading 79 = .ok (.ldc2_w 182, 3) := by decide +kernel
theorem dX8_reading_82 : decode cX8_reading 82 = .ok (.goto 50, 3) := by decide +kernel
theorem dX8_reading_85 : decode cX8_reading 85 = .ok (.iload_n 1, 1) := by decide +kernel
theorem dX8_reading_86 : decode cX8_reading 86 = .ok (.iconst 2, 1) := by decide +kernel
theorem dX8_reading_87 : decode cX8_reading 87 = .ok (.if_icmp .ne 9, 3) := by decide +kernel
theorem dX8_reading_90 : decode cX8_reading 90 = .ok (.ldc2_w 184, 3) := by decide +kernel
theorem dX8_reading_93 : decode cX8_reading 93 = .ok (.goto 39, 3) := by decide +kernel
theorem dX8_reading_96 : decode cX8_reading 96 = .ok (.iload_n 1, 1) := by decide +kernel
theorem dX8_reading_97 : decode cX8_reading 97 = .ok (.iconst 3, 1) := by decide +kernel
theorem dX8_reading_98 : decode cX8_reading 98 = .ok (.if_icmp .ne 9, 3) := by decide +kernel
theorem dX8_reading_101 : decode cX8_reading 101 = .ok (.ldc2_w 186, 3) := by decide +kernel
theorem dX8_reading_104 : decode cX8_reading 104 = .ok (.goto 28, 3) := by decide +kernel
theorem dX8_reading_107 : decode cX8_reading 107 = .ok (.iload_n 1, 1) := by decide +kernel
theorem dX8_reading_108 : decode cX8_reading 108 = .ok (.iconst 4, 1) := by decide +kernel
theorem dX8_reading_109 : decode cX8_reading 109 = .ok (.if_icmp .ne 9, 3) := by decide +kernel
theorem dX8_reading_112 : decode cX8_reading 112 = .ok (.ldc2_w 188, 3) := by decide +kernel
theorem dX8_reading_115 : decode cX8_reading 115 = .ok (.goto 17, 3) := by decide +kernel
theorem dX8_reading_118 : decode cX8_reading 118 = .ok (.iload_n 1, 1) := by decide +kernel
theorem dX8_reading_119 : decode cX8_reading 119 = .ok (.iconst 5, 1) := by decide +kernel
theorem dX8_reading_120 : decode cX8_reading 120 = .ok (.if_icmp .ne 9, 3) := by decide +kernel
theorem dX8_reading_123 : decode cX8_reading 123 = .ok (.ldc2_w 190, 3) := by decide +kernel
theorem dX8_reading_126 : decode cX8_reading 126 = .ok (.goto 6, 3) := by decide +kernel
theorem dX8_reading_129 : decode cX8_reading 129 = .ok (.ldc2_w 192, 3) := by decide +kernel
theorem dX8_reading_132 : decode cX8_reading 132 = .ok (.ladd, 1) := by decide +kernel
theorem dX8_reading_133 : decode cX8_reading 133 = .ok (.putfield 179, 3) := by decide +kernel
theorem dX8_reading_136 : decode cX8_reading 136 = .ok (.iload_n 1, 1) := by decide +kernel
theorem dX8_reading_137 : decode cX8_reading 137 = .ok (.ifCond .ne 7, 3) := by decide +kernel
theorem dX8_reading_140 : decode cX8_reading 140 = .ok (.iload_n 3, 1) := by decide +kernel
theorem dX8_reading_141 : decode cX8_reading 141 = .ok (.goto 87, 3) := by decide +kernel
theorem dX8_reading_144 : decode cX8_reading 144 = .ok (.iload_n 1, 1) := by decide +kernel
theorem dX8_reading_145 : decode cX8_reading 145 = .ok (.iconst 1, 1) := by decide +kernel
theorem dX8_reading_146 : decode cX8_reading 146 = .ok (.if_icmp .ne 14, 3) := by decide +kernel
theorem dX8_reading_149 : decode cX8_reading 149 = .ok (.iload_n 3, 1) := by decide +kernel
theorem dX8_reading_150 : decode cX8_reading 150 = .ok (.aload_n 0, 1) := by decide +kernel
theorem dX8_reading_151 : decode cX8_reading 151 = .ok (.getfield 20, 3) := by decide +kernel
theorem dX8_reading_154 : decode cX8_reading 154 = .ok (.iconst 0, 1) := by decide +kernel
theorem dX8_reading_155 : decode cX8_reading 155 = .ok (.iaload, 1) := by decide +kernel
theorem dX8_reading_156 : decode cX8_reading 156 = .ok (.iadd, 1) := by decide +kernel
theorem dX8_reading_157 : decode cX8_reading 157 = .ok (.goto 71, 3) := by decide +kernel
theorem dX8_reading_160 : decode cX8_reading 160 = .ok (.iload_n 1, 1) := by decide +kernel
theorem dX8_reading_161 : decode cX8_reading 161 = .ok (.iconst 2, 1) := by decide +kernel
theorem dX8_reading_162 : decode cX8_reading 162 = .ok (.if_icmp .ne 8, 3) := by decide +kernel
theorem dX8_reading_165 : decode cX8_reading 165 = .ok (.iload 4, 2) := by decide +kernel
theorem dX8_reading_167 : decode cX8_reading 167 = .ok (.goto 61, 3) := by decide +kernel
theorem dX8_reading_170 : decode cX8_reading 170 = .ok (.iload_n 1, 1) := by decide +kernel
theorem dX8_reading_171 : decode cX8_reading 171 = .ok (.iconst 3, 1) := by decide +kernel
theorem dX8_reading_172 : decode cX8_reading 172 = .ok (.if_icmp .ne 8, 3) := by decide +kernel
theorem dX8_reading_175 : decode cX8_reading 175 = .ok (.iload 5, 2) := by decide +kernel
theorem dX8_reading_177 : decode cX8_reading 177 = .ok (.goto 51, 3) := by decide +kernel
theorem dX8_reading_180 : decode cX8_reading 180 = .ok (.iload_n 1, 1) := by decide +kernel
theorem dX8_reading_181 : decode cX8_reading 181 = .ok (.iconst 4, 1) := by decide +kernel
theorem dX8_reading_182 : decode cX8_reading 182 = .ok (.if_icmp .ne 19, 3) := by decide +kernel
theorem dX8_reading_185 : decode cX8_reading 185 = .ok (.iload_n 3, 1) := by decide +kernel
theorem dX8_reading_186 : decode cX8_reading 186 = .ok (.aload_n 0, 1) := by decide +kernel
theorem dX8_reading_187 : decode cX8_reading 187 = .ok (.getfield 7, 3) := by decide +kernel
theorem dX8_reading_190 : decode cX8_reading 190 = .ok (.bipush 21, 2) := by decide +kernel
theorem dX8_reading_192 : decode cX8_reading 192 = .ok (.iload_n 2, 1) := by decide +kernel
theorem dX8_reading_193 : decode cX8_reading 193 = .ok (.imul, 1) := by decide +kernel
theorem dX8_reading_194 : decode cX8_reading 194 = .ok (.iconst 4, 1) := by decide +kernel
theorem dX8_reading_195 : decode cX8_reading 195 = .ok (.iadd, 1) := by decide +kernel
theorem dX8_reading_196 : decode cX8_reading 196 = .ok (.iaload, 1) := by decide +kernel
theorem dX8_reading_197 : decode cX8_reading 197 = .ok (.iadd, 1) := by decide +kernel
theorem dX8_reading_198 : decode cX8_reading 198 = .ok (.goto 30, 3) := by decide +kernel
theorem dX8_reading_201 : decode cX8_reading 201 = .ok (.iload_n 1, 1) := by decide +kernel
theorem dX8_reading_202 : decode cX8_reading 202 = .ok (.iconst 5, 1) := by decide +kernel
theorem dX8_reading_203 : decode cX8_reading 203 = .ok (.if_icmp .ne 21, 3) := by decide +kernel
theorem dX8_reading_206 : decode cX8_reading 206 = .ok (.iload_n 3, 1) := by decide +kernel
theorem dX8_reading_207 : decode cX8_reading 207 = .ok (.iconst 5, 1) := by decide +kernel
theorem dX8_reading_208 : decode cX8_reading 208 = .ok (.aload_n 0, 1) := by decide +kernel
theorem dX8_reading_209 : decode cX8_reading 209 = .ok (.getfield 7, 3) := by decide +kernel
theorem dX8_reading_212 : decode cX8_reading 212 = .ok (.bipush 21, 2) := by decide +kernel
theorem dX8_reading_214 : decode cX8_reading 214 = .ok (.iload_n 2, 1) := by decide +kernel
theorem dX8_reading_215 : decode cX8_reading 215 = .ok (.imul, 1) := by decide +kernel
theorem dX8_reading_216 : decode cX8_reading 216 = .ok (.iconst 3, 1) := by decide +kernel
theorem dX8_reading_217 : decode cX8_reading 217 = .ok (.iadd, 1) := by decide +kernel
theorem dX8_reading_218 : decode cX8_reading 218 = .ok (.iaload, 1) := by decide +kernel
theorem dX8_reading_219 : decode cX8_reading 219 = .ok (.imul, 1) := by decide +kernel
theorem dX8_reading_220 : decode cX8_reading 220 = .ok (.iadd, 1) := by decide +kernel
theorem dX8_reading_221 : decode cX8_reading 221 = .ok (.goto 7, 3) := by decide +kernel
theorem dX8_reading_224 : decode cX8_reading 224 = .ok (.iload 5, 2) := by decide +kernel
theorem dX8_reading_226 : decode cX8_reading 226 = .ok (.iconst 2, 1) := by decide +kernel
theorem dX8_reading_227 : decode cX8_reading 227 = .ok (.idiv, 1) := by decide +kernel
theorem dX8_reading_228 : decode cX8_reading 228 = .ok (.ireturn, 1) := by decide +kernel
theorem dX8_keep_0 : decode cX8_keep 0 = .ok (.aload_n 0, 1) := by decide +kernel
theorem dX8_keep_1 : decode cX8_keep 1 = .ok (.iconst 0, 1) := by decide +kernel
theorem dX8_keep_2 : decode cX8_keep 2 = .ok (.putfield 57, 3) := by decide +kernel
theorem dX8_keep_5 : decode cX8_keep 5 = .ok (.iload_n 1, 1) := by decide +kernel
theorem dX8_keep_6 : decode cX8_keep 6 = .ok (.iconst 0, 1) := by decide +kernel
theorem dX8_keep_7 : decode cX8_keep 7 = .ok (.iconst 1, 1) := by decide +kernel
theorem dX8_keep_8 : decode cX8_keep 8 = .ok (.invokestatic 61, 3) := by decide +kernel
theorem dX8_keep_11 : decode cX8_keep 11 = .ok (.ifCond .ne 5, 3) := by decide +kernel
theorem dX8_keep_14 : decode cX8_keep 14 = .ok (.iconst (-1), 1) := by decide +kernel
theorem dX8_keep_15 : decode cX8_keep 15 = .ok (.ireturn, 1) := by decide +kernel
theorem dX8_keep_16 : decode cX8_keep 16 = .ok (.iconst 0, 1) := by decide +kernel
theorem dX8_keep_17 : decode cX8_keep 17 = .ok (.istore_n 2, 1) := by decide +kernel
theorem dX8_keep_18 : decode cX8_keep 18 = .ok (.iload_n 2, 1) := by decide +kernel
theorem dX8_keep_19 : decode cX8_keep 19 = .ok (.sipush 171, 3) := by decide +kernel
theorem dX8_keep_22 : decode cX8_keep 22 = .ok (.if_icmp .ge 27, 3) := by decide +kernel
theorem dX8_keep_25 : decode cX8_keep 25 = .ok (.aload_n 0, 1) := by decide +kernel
theorem dX8_keep_26 : decode cX8_keep 26 = .ok (.getfield 13, 3) := by decide +kernel
theorem dX8_keep_29 : decode cX8_keep 29 = .ok (.sipush 171, 3) := by decide +kernel
theorem dX8_keep_32 : decode cX8_keep 32 = .ok (.iload_n 1, 1) := by decide +kernel
theorem dX8_keep_33 : decode cX8_keep 33 = .ok (.imul, 1) := by decide +kernel
theorem dX8_keep_34 : decode cX8_keep 34 = .ok (.iload_n 2, 1) := by decide +kernel
theorem dX8_keep_35 : decode cX8_keep 35 = .ok (.iadd, 1) := by decide +kernel
theorem dX8_keep_36 : decode cX8_keep 36 = .ok (.aload_n 0, 1) := by decide +kernel
theorem dX8_keep_37 : decode cX8_keep 37 = .ok (.getfield 7, 3) := by decide +kernel
theorem dX8_keep_40 : decode cX8_keep 40 = .ok (.iload_n 2, 1) := by decide +kernel
theorem dX8_keep_41 : decode cX8_keep 41 = .ok (.iaload, 1) := by decide +kernel
theorem dX8_keep_42 : decode cX8_keep 42 = .ok (.iastore, 1) := by decide +kernel
theorem dX8_keep_43 : decode cX8_keep 43 = .ok (.iinc 2 1, 3) := by decide +kernel
theorem dX8_keep_46 : decode cX8_keep 46 = .ok (.goto (-28), 3) := by decide +kernel
theorem dX8_keep_49 : decode cX8_keep 49 = .ok (.aload_n 0, 1) := by decide +kernel
theorem dX8_keep_50 : decode cX8_keep 50 = .ok (.getfield 16, 3) := by decide +kernel
theorem dX8_keep_53 : decode cX8_keep 53 = .ok (.iload_n 1, 1) := by decide +kernel
theorem dX8_keep_54 : decode cX8_keep 54 = .ok (.iconst 1, 1) := by decide +kernel
theorem dX8_keep_55 : decode cX8_keep 55 = .ok (.bastore, 1) := by decide +kernel
theorem dX8_keep_56 : decode cX8_keep 56 = .ok (.aload_n 0, 1) := by decide +kernel
theorem dX8_keep_57 : decode cX8_keep 57 = .ok (.getfield 7, 3) := by decide +kernel
theorem dX8_keep_60 : decode cX8_keep 60 = .ok (.sipush 170, 3) := by decide +kernel
theorem dX8_keep_63 : decode cX8_keep 63 = .ok (.iaload, 1) := by decide +kernel
theorem dX8_keep_64 : decode cX8_keep 64 = .ok (.ireturn, 1) := by decide +kernel
theorem dX8_back_0 : decode cX8_back 0 = .ok (.aload_n 0, 1) := by decide +kernel
theorem dX8_back_1 : decode cX8_back 1 = .ok (.iconst 0, 1) := by decide +kernel
theorem dX8_back_2 : decode cX8_back 2 = .ok (.putfield 57, 3) := by decide +kernel
theorem dX8_back_5 : decode cX8_back 5 = .ok (.iload_n 1, 1) := by decide +kernel
theorem dX8_back_6 : decode cX8_back 6 = .ok (.iconst 0, 1) := by decide +kernel
theorem dX8_back_7 : decode cX8_back 7 = .ok (.iconst 1, 1) := by decide +kernel
theorem dX8_back_8 : decode cX8_back 8 = .ok (.invokestatic 61, 3) := by decide +kernel
theorem dX8_back_11 : decode cX8_back 11 = .ok (.ifCond .ne 5, 3) := by decide +kernel
theorem dX8_back_14 : decode cX8_back 14 = .ok (.iconst (-1), 1) := by decide +kernel
theorem dX8_back_15 : decode cX8_back 15 = .ok (.ireturn, 1) := by decide +kernel
theorem dX8_back_16 : decode cX8_back 16 = .ok (.aload_n 0, 1) := by decide +kernel
theorem dX8_back_17 : decode cX8_back 17 = .ok (.getfield 16, 3) := by decide +kernel
theorem dX8_back_20 : decode cX8_back 20 = .ok (.iload_n 1, 1) := by decide +kernel
theorem dX8_back_21 : decode cX8_back 21 = .ok (.baload, 1) := by decide +kernel
theorem dX8_back_22 : decode cX8_back 22 = .ok (.ifCond .ne 6, 3) := by decide +kernel
theorem dX8_back_25 : decode cX8_back 25 = .ok (.bipush (-2), 2) := by decide +kernel
theorem dX8_back_27 : decode cX8_back 27 = .ok (.ireturn, 1) := by decide +kernel
theorem dX8_back_28 : decode cX8_back 28 = .ok (.iconst 0, 1) := by decide +kernel
theorem dX8_back_29 : decode cX8_back 29 = .ok (.istore_n 2, 1) := by decide +kernel
theorem dX8_back_30 : decode cX8_back 30 = .ok (.iload_n 2, 1) := by decide +kernel
theorem dX8_back_31 : decode cX8_back 31 = .ok (.sipush 171, 3) := by decide +kernel
theorem dX8_back_34 : decode cX8_back 34 = .ok (.if_icmp .ge 27, 3) := by decide +kernel
theorem dX8_back_37 : decode cX8_back 37 = .ok (.aload_n 0, 1) := by decide +kernel
theorem dX8_back_38 : decode cX8_back 38 = .ok (.getfield 7, 3) := by decide +kernel
theorem dX8_back_41 : decode cX8_back 41 = .ok (.iload_n 2, 1) := by decide +kernel
theorem dX8_back_42 : decode cX8_back 42 = .ok (.aload_n 0, 1) := by decide +kernel
theorem dX8_back_43 : decode cX8_back 43 = .ok (.getfield 13, 3) := by decide +kernel
theorem dX8_back_46 : decode cX8_back 46 = .ok (.sipush 171, 3) := by decide +kernel
theorem dX8_back_49 : decode cX8_back 49 = .ok (.iload_n 1, 1) := by decide +kernel
theorem dX8_back_50 : decode cX8_back 50 = .ok (.imul, 1) := by decide +kernel
theorem dX8_back_51 : decode cX8_back 51 = .ok (.iload_n 2, 1) := by decide +kernel
theorem dX8_back_52 : decode cX8_back 52 = .ok (.iadd, 1) := by decide +kernel
theorem dX8_back_53 : decode cX8_back 53 = .ok (.iaload, 1) := by decide +kernel
theorem dX8_back_54 : decode cX8_back 54 = .ok (.iastore, 1) := by decide +kernel
theorem dX8_back_55 : decode cX8_back 55 = .ok (.iinc 2 1, 3) := by decide +kernel
theorem dX8_back_58 : decode cX8_back 58 = .ok (.goto (-28), 3) := by decide +kernel
theorem dX8_back_61 : decode cX8_back 61 = .ok (.aload_n 0, 1) := by decide +kernel
theorem dX8_back_62 : decode cX8_back 62 = .ok (.iconst 0, 1) := by decide +kernel
theorem dX8_back_63 : decode cX8_back 63 = .ok (.putfield 151, 3) := by decide +kernel
theorem dX8_back_66 : decode cX8_back 66 = .ok (.aload_n 0, 1) := by decide +kernel
theorem dX8_back_67 : decode cX8_back 67 = .ok (.getfield 7, 3) := by decide +kernel
theorem dX8_back_70 : decode cX8_back 70 = .ok (.sipush 170, 3) := by decide +kernel
theorem dX8_back_73 : decode cX8_back 73 = .ok (.iaload, 1) := by decide +kernel
theorem dX8_back_74 : decode cX8_back 74 = .ok (.ireturn, 1) := by decide +kernel
theorem dX8_count_0 : decode cX8_count 0 = .ok (.aload_n 0, 1) := by decide +kernel
theorem dX8_count_1 : decode cX8_count 1 = .ok (.iconst 0, 1) := by decide +kernel
theorem dX8_count_2 : decode cX8_count 2 = .ok (.putfield 57, 3) := by decide +kernel
theorem dX8_count_5 : decode cX8_count 5 = .ok (.iload_n 1, 1) := by decide +kernel
theorem dX8_count_6 : decode cX8_count 6 = .ok (.ifCond .ne 14, 3) := by decide +kernel
theorem dX8_count_9 : decode cX8_count 9 = .ok (.aload_n 0, 1) := by decide +kernel
theorem dX8_count_10 : decode cX8_count 10 = .ok (.getfield 7, 3) := by decide +kernel
theorem dX8_count_13 : decode cX8_count 13 = .ok (.sipush 168, 3) := by decide +kernel
theorem dX8_count_16 : decode cX8_count 16 = .ok (.iaload, 1) := by decide +kernel
theorem dX8_count_17 : decode cX8_count 17 = .ok (.goto 49, 3) := by decide +kernel
theorem dX8_count_20 : decode cX8_count 20 = .ok (.iload_n 1, 1) := by decide +kernel
theorem dX8_count_21 : decode cX8_count 21 = .ok (.iconst 1, 1) := by decide +kernel
theorem dX8_count_22 : decode cX8_count 22 = .ok (.if_icmp .ne 14, 3) := by decide +kernel
theorem dX8_count_25 : decode cX8_count 25 = .ok (.aload_n 0, 1) := by decide +kernel
theorem dX8_count_26 : decode cX8_count 26 = .ok (.getfield 7, 3) := by decide +kernel
theorem dX8_count_29 : decode cX8_count 29 = .ok (.sipush 170, 3) := by decide +kernel
theorem dX8_count_32 : decode cX8_count 32 = .ok (.iaload, 1) := by decide +kernel
theorem dX8_count_33 : decode cX8_count 33 = .ok (.goto 33, 3) := by decide +kernel
theorem dX8_count_36 : decode cX8_count 36 = .ok (.iload_n 1, 1) := by decide +kernel
theorem dX8_count_37 : decode cX8_count 37 = .ok (.iconst 2, 1) := by decide +kernel
theorem dX8_count_38 : decode cX8_count 38 = .ok (.if_icmp .ne 10, 3) := by decide +kernel
theorem dX8_count_41 : decode cX8_count 41 = .ok (.aload_n 0, 1) := by decide +kernel
theorem dX8_count_42 : decode cX8_count 42 = .ok (.getfield 70, 3) := by decide +kernel
theorem dX8_count_45 : decode cX8_count 45 = .ok (.goto 21, 3) := by decide +kernel
theorem dX8_count_48 : decode cX8_count 48 = .ok (.iload_n 1, 1) := by decide +kernel
theorem dX8_count_49 : decode cX8_count 49 = .ok (.iconst 3, 1) := by decide +kernel
theorem dX8_count_50 : decode cX8_count 50 = .ok (.if_icmp .ne 14, 3) := by decide +kernel
theorem dX8_count_53 : decode cX8_count 53 = .ok (.aload_n 0, 1) := by decide +kernel
theorem dX8_count_54 : decode cX8_count 54 = .ok (.getfield 7, 3) := by decide +kernel
theorem dX8_count_57 : decode cX8_count 57 = .ok (.sipush 169, 3) := by decide +kernel
theorem dX8_count_60 : decode cX8_count 60 = .ok (.iaload, 1) := by decide +kernel
theorem dX8_count_61 : decode cX8_count 61 = .ok (.goto 5, 3) := by decide +kernel
theorem dX8_count_64 : decode cX8_count 64 = .ok (.ldc 69, 2) := by decide +kernel
theorem dX8_count_66 : decode cX8_count 66 = .ok (.ireturn, 1) := by decide +kernel
theorem dX8_trace_0 : decode cX8_trace 0 = .ok (.aload_n 0, 1) := by decide +kernel
theorem dX8_trace_1 : decode cX8_trace 1 = .ok (.iconst 0, 1) := by decide +kernel
theorem dX8_trace_2 : decode cX8_trace 2 = .ok (.putfield 57, 3) := by decide +kernel
theorem dX8_trace_5 : decode cX8_trace 5 = .ok (.aload_n 0, 1) := by decide +kernel
theorem dX8_trace_6 : decode cX8_trace 6 = .ok (.getfield 179, 3) := by decide +kernel
theorem dX8_trace_9 : decode cX8_trace 9 = .ok (.lreturn, 1) := by decide +kernel
end
section
theorem dL_law_0 : decode cL_law 0 = .ok (.new 7, 3) := by decide +kernel
theorem dL_law_3 : decode cL_law 3 = .ok (.dup, 1) := by decide +kernel
theorem dL_law_4 : decode cL_law 4 = .ok (.invokespecial 9, 3) := by decide +kernel
theorem dL_law_7 : decode cL_law 7 = .ok (.astore_n 1, 1) := by decide +kernel
theorem dL_law_8 : decode cL_law 8 = .ok (.new 10, 3) := by decide +kernel
theorem dL_law_11 : decode cL_law 11 = .ok (.dup, 1) := by decide +kernel
theorem dL_law_12 : decode cL_law 12 = .ok (.invokespecial 12, 3) := by decide +kernel
theorem dL_law_15 : decode cL_law 15 = .ok (.astore_n 2, 1) := by decide +kernel
theorem dL_law_16 : decode cL_law 16 = .ok (.iconst 0, 1) := by decide +kernel
theorem dL_law_17 : decode cL_law 17 = .ok (.istore_n 3, 1) := by decide +kernel
theorem dL_law_18 : decode cL_law 18 = .ok (.iload_n 3, 1) := by decide +kernel
theorem dL_law_19 : decode cL_law 19 = .ok (.aload_n 0, 1) := by decide +kernel
theorem dL_law_20 : decode cL_law 20 = .ok (.arraylength, 1) := by decide +kernel
theorem dL_law_21 : decode cL_law 21 = .ok (.iconst 4, 1) := by decide +kernel
theorem dL_law_22 : decode cL_law 22 = .ok (.isub, 1) := by decide +kernel
theorem dL_law_23 : decode cL_law 23 = .ok (.if_icmp .gt 1014, 3) := by decide +kernel
theorem dL_law_26 : decode cL_law 26 = .ok (.aload_n 0, 1) := by decide +kernel
theorem dL_law_27 : decode cL_law 27 = .ok (.iload_n 3, 1) := by decide +kernel
theorem dL_law_28 : decode cL_law 28 = .ok (.iaload, 1) := by decide +kernel
theorem dL_law_29 : decode cL_law 29 = .ok (.bipush 31, 2) := by decide +kernel
theorem dL_law_31 : decode cL_law 31 = .ok (.iand, 1) := by decide +kernel
theorem dL_law_32 : decode cL_law 32 = .ok (.tableswitch 999 0 26 #[124, 147, 190, 223, 256, 289, 312, 375, 388, 401, 424, 457, 490, 523, 567, 601, 645, 688, 731, 774, 817, 850, 883, 916, 939, 962, 985], 124) := by decide +kernel
theorem dL_law_156 : decode cL_law 156 = .ok (.aload_n 1, 1) := by decide +kernel
theorem dL_law_157 : decode cL_law 157 = .ok (.aload_n 0, 1) := by decide +kernel
theorem dL_law_158 : decode cL_law 158 = .ok (.iload_n 3, 1) := by decide +kernel
theorem dL_law_159 : decode cL_law 159 = .ok (.iconst 1, 1) := by decide +kernel
theorem dL_law_160 : decode cL_law 160 = .ok (.iadd, 1) := by decide +kernel
theorem dL_law_161 : decode cL_law 161 = .ok (.iaload, 1) := by decide +kernel
theorem dL_law_162 : decode cL_law 162 = .ok (.invokevirtual 13, 3) := by decide +kernel
theorem dL_law_165 : decode cL_law 165 = .ok (.aload_n 2, 1) := by decide +kernel
theorem dL_law_166 : decode cL_law 166 = .ok (.aload_n 0, 1) := by decide +kernel
theorem dL_law_167 : decode cL_law 167 = .ok (.iload_n 3, 1) := by decide +kernel
theorem dL_law_168 : decode cL_law 168 = .ok (.iconst 1, 1) := by decide +kernel
theorem dL_law_169 : decode cL_law 169 = .ok (.iadd, 1) := by decide +kernel
theorem dL_law_170 : decode cL_law 170 = .ok (.iaload, 1) := by decide +kernel
theorem dL_law_171 : decode cL_law 171 = .ok (.invokevirtual 17, 3) := by decide +kernel
theorem dL_law_174 : decode cL_law 174 = .ok (.if_icmp .eq 857, 3) := by decide +kernel
theorem dL_law_177 : decode cL_law 177 = .ok (.iconst 0, 1) := by decide +kernel
theorem dL_law_178 : decode cL_law 178 = .ok (.ireturn, 1) := by decide +kernel
theorem dL_law_179 : decode cL_law 179 = .ok (.aload_n 1, 1) := by decide +kernel
theorem dL_law_180 : decode cL_law 180 = .ok (.aload_n 0, 1) := by decide +kernel
theorem dL_law_181 : decode cL_law 181 = .ok (.iload_n 3, 1) := by decide +kernel
theorem dL_law_182 : decode cL_law 182 = .ok (.iconst 1, 1) := by decide +kernel
theorem dL_law_183 : decode cL_law 183 = .ok (.iadd, 1) := by decide +kernel
theorem dL_law_184 : decode cL_law 184 = .ok (.iaload, 1) := by decide +kernel
theorem dL_law_185 : decode cL_law 185 = .ok (.aload_n 0, 1) := by decide +kernel
theorem dL_law_186 : decode cL_law 186 = .ok (.iload_n 3, 1) := by decide +kernel
theorem dL_law_187 : decode cL_law 187 = .ok (.iconst 2, 1) := by decide +kernel
theorem dL_law_188 : decode cL_law 188 = .ok (.iadd, 1) := by decide +kernel
theorem dL_law_189 : decode cL_law 189 = .ok (.iaload, 1) := by decide +kernel
theorem dL_law_190 : decode cL_law 190 = .ok (.aload_n 0, 1) := by decide +kernel
theorem dL_law_191 : decode cL_law 191 = .ok (.iload_n 3, 1) := by decide +kernel
theorem dL_law_192 : decode cL_law 192 = .ok (.iconst 3, 1) := by decide +kernel
theorem dL_law_193 : decode cL_law 193 = .ok (.iadd, 1) := by decide +kernel
theorem dL_law_194 : decode cL_law 194 = .ok (.iaload, 1) := by decide +kernel
theorem dL_law_195 : decode cL_law 195 = .ok (.invokevirtual 18, 3) := by decide +kernel
theorem dL_law_198 : decode cL_law 198 = .ok (.aload_n 2, 1) := by decide +kernel
theorem dL_law_199 : decode cL_law 199 = .ok (.aload_n 0, 1) := by decide +kernel
theorem dL_law_200 : decode cL_law 200 = .ok (.iload_n 3, 1) := by decide +kernel
theorem dL_law_201 : decode cL_law 201 = .ok (.iconst 1, 1) := by decide +kernel
theorem dL_law_202 : decode cL_law 202 = .ok (.iadd, 1) := by decide +kernel
theorem dL_law_203 : decode cL_law 203 = .ok (.iaload, 1) := by decide +kernel
theorem dL_law_204 : decode cL_law 204 = .ok (.aload_n 0, 1) := by decide +kernel
theorem dL_law_205 : decode cL_law 205 = .ok (.iload_n 3, 1) := by decide +kernel
theorem dL_law_206 : decode cL_law 206 = .ok (.iconst 2, 1) := by decide +kernel
theorem dL_law_207 : decode cL_law 207 = .ok (.iadd, 1) := by decide +kernel
theorem dL_law_208 : decode cL_law 208 = .ok (.iaload, 1) := by decide +kernel
theorem dL_law_209 : decode cL_law 209 = .ok (.aload_n 0, 1) := by decide +kernel
theorem dL_law_210 : decode cL_law 210 = .ok (.iload_n 3, 1) := by decide +kernel
theorem dL_law_211 : decode cL_law 211 = .ok (.iconst 3, 1) := by decide +kernel
theorem dL_law_212 : decode cL_law 212 = .ok (.iadd, 1) := by decide +kernel
theorem dL_law_213 : decode cL_law 213 = .ok (.iaload, 1) := by decide +kernel
theorem dL_law_214 : decode cL_law 214 = .ok (.invokevirtual 22, 3) := by decide +kernel
theorem dL_law_217 : decode cL_law 217 = .ok (.if_icmp .eq 814, 3) := by decide +kernel
theorem dL_law_220 : decode cL_law 220 = .ok (.iconst 0, 1) := by decide +kernel
theorem dL_law_221 : decode cL_law 221 = .ok (.ireturn, 1) := by decide +kernel
theorem dL_law_222 : decode cL_law 222 = .ok (.aload_n 1, 1) := by decide +kernel
theorem dL_law_223 : decode cL_law 223 = .ok (.aload_n 0, 1) := by decide +kernel
theorem dL_law_224 : decode cL_law 224 = .ok (.iload_n 3, 1) := by decide +kernel
theorem dL_law_225 : decode cL_law 225 = .ok (.iconst 1, 1) := by decide +kernel
theorem dL_law_226 : decode cL_law 226 = .ok (.iadd, 1) := by decide +kernel
theorem dL_law_227 : decode cL_law 227 = .ok (.iaload, 1) := by decide +kernel
theorem dL_law_228 : decode cL_law 228 = .ok (.aload_n 0, 1) := by decide +kernel
theorem dL_law_229 : decode cL_law 229 = .ok (.iload_n 3, 1) := by decide +kernel
theorem dL_law_230 : decode cL_law 230 = .ok (.iconst 2, 1) := by decide +kernel
theorem dL_law_231 : decode cL_law 231 = .ok (.iadd, 1) := by decide +kernel
theorem dL_law_232 : decode cL_law 232 = .ok (.iaload, 1) := by decide +kernel
theorem dL_law_233 : decode cL_law 233 = .ok (.invokevirtual 23, 3) := by decide +kernel
theorem dL_law_236 : decode cL_law 236 = .ok (.aload_n 2, 1) := by decide +kernel
theorem dL_law_237 : decode cL_law 237 = .ok (.aload_n 0, 1) := by decide +kernel
theorem dL_law_238 : decode cL_law 238 = .ok (.iload_n 3, 1) := by decide +kernel
theorem dL_law_239 : decode cL_law 239 = .ok (.iconst 1, 1) := by decide +kernel
theorem dL_law_240 : decode cL_law 240 = .ok (.iadd, 1) := by decide +kernel
theorem dL_law_241 : decode cL_law 241 = .ok (.iaload, 1) := by decide +kernel
theorem dL_law_242 : decode cL_law 242 = .ok (.aload_n 0, 1) := by decide +kernel
theorem dL_law_243 : decode cL_law 243 = .ok (.iload_n 3, 1) := by decide +kernel
theorem dL_law_244 : decode cL_law 244 = .ok (.iconst 2, 1) := by decide +kernel
theorem dL_law_245 : decode cL_law 245 = .ok (.iadd, 1) := by decide +kernel
theorem dL_law_246 : decode cL_law 246 = .ok (.iaload, 1) := by decide +kernel
theorem dL_law_247 : decode cL_law 247 = .ok (.invokevirtual 27, 3) := by decide +kernel
theorem dL_law_250 : decode cL_law 250 = .ok (.if_icmp .eq 781, 3) := by decide +kernel
theorem dL_law_253 : decode cL_law 253 = .ok (.iconst 0, 1) := by decide +kernel
theorem dL_law_254 : decode cL_law 254 = .ok (.ireturn, 1) := by decide +kernel
theorem dL_law_255 : decode cL_law 255 = .ok (.aload_n 1, 1) := by decide +kernel
theorem dL_law_256 : decode cL_law 256 = .ok (.aload_n 0, 1) := by decide +kernel
theorem dL_law_257 : decode cL_law 257 = .ok (.iload_n 3, 1) := by decide +kernel
theorem dL_law_258 : decode cL_law 258 = .ok (.iconst 1, 1) := by decide +kernel
theorem dL_law_259 : decode cL_law 259 = .ok (.iadd, 1) := by decide +kernel
theorem dL_law_260 : decode cL_law 260 = .ok (.iaload, 1) := by decide +kernel
theorem dL_law_261 : decode cL_law 261 = .ok (.aload_n 0, 1) := by decide +kernel
theorem dL_law_262 : decode cL_law 262 = .ok (.iload_n 3, 1) := by decide +kernel
theorem dL_law_263 : decode cL_law 263 = .ok (.iconst 2, 1) := by decide +kernel
theorem dL_law_264 : decode cL_law 264 = .ok (.iadd, 1) := by decide +kernel
theorem dL_law_265 : decode cL_law 265 = .ok (.iaload, 1) := by decide +kernel
theorem dL_law_266 : decode cL_law 266 = .ok (.invokevirtual 28, 3) := by decide +kernel
theorem dL_law_269 : decode cL_law 269 = .ok (.aload_n 2, 1) := by decide +kernel
theorem dL_law_270 : decode cL_law 270 = .ok (.aload_n 0, 1) := by decide +kernel
theorem dL_law_271 : decode cL_law 271 = .ok (.iload_n 3, 1) := by decide +kernel
theorem dL_law_272 : decode cL_law 272 = .ok (.iconst 1, 1) := by decide +kernel
theorem dL_law_273 : decode cL_law 273 = .ok (.iadd, 1) := by decide +kernel
theorem dL_law_274 : decode cL_law 274 = .ok (.iaload, 1) := by decide +kernel
theorem dL_law_275 : decode cL_law 275 = .ok (.aload_n 0, 1) := by decide +kernel
theorem dL_law_276 : decode cL_law 276 = .ok (.iload_n 3, 1) := by decide +kernel
theorem dL_law_277 : decode cL_law 277 = .ok (.iconst 2, 1) := by decide +kernel
theorem dL_law_278 : decode cL_law 278 = .ok (.iadd, 1) := by decide +kernel
theorem dL_law_279 : decode cL_law 279 = .ok (.iaload, 1) := by decide +kernel
theorem dL_law_280 : decode cL_law 280 = .ok (.invokevirtual 31, 3) := by decide +kernel
theorem dL_law_283 : decode cL_law 283 = .ok (.if_icmp .eq 748, 3) := by decide +kernel
theorem dL_law_286 : decode cL_law 286 = .ok (.iconst 0, 1) := by decide +kernel
theorem dL_law_287 : decode cL_law 287 = .ok (.ireturn, 1) := by decide +kernel
theorem dL_law_288 : decode cL_law 288 = .ok (.aload_n 1, 1) := by decide +kernel
theorem dL_law_289 : decode cL_law 289 = .ok (.aload_n 0, 1) := by decide +kernel
theorem dL_law_290 : decode cL_law 290 = .ok (.iload_n 3, 1) := by decide +kernel
theorem dL_law_291 : decode cL_law 291 = .ok (.iconst 1, 1) := by decide +kernel
theorem dL_law_292 : decode cL_law 292 = .ok (.iadd, 1) := by decide +kernel
theorem dL_law_293 : decode cL_law 293 = .ok (.iaload, 1) := by decide +kernel
theorem dL_law_294 : decode cL_law 294 = .ok (.aload_n 0, 1) := by decide +kernel
theorem dL_law_295 : decode cL_law 295 = .ok (.iload_n 3, 1) := by decide +kernel
theorem dL_law_296 : decode cL_law 296 = .ok (.iconst 2, 1) := by decide +kernel
theorem dL_law_297 : decode cL_law 297 = .ok (.iadd, 1) := by decide +kernel
theorem dL_law_298 : decode cL_law 298 = .ok (.iaload, 1) := by decide +kernel
theorem dL_law_299 : decode cL_law 299 = .ok (.invokevirtual 32, 3) := by decide +kernel
theorem dL_law_302 : decode cL_law 302 = .ok (.aload_n 2, 1) := by decide +kernel
theorem dL_law_303 : decode cL_law 303 = .ok (.aload_n 0, 1) := by decide +kernel
theorem dL_law_304 : decode cL_law 304 = .ok (.iload_n 3, 1) := by decide +kernel
theorem dL_law_305 : decode cL_law 305 = .ok (.iconst 1, 1) := by decide +kernel
theorem dL_law_306 : decode cL_law 306 = .ok (.iadd, 1) := by decide +kernel
theorem dL_law_307 : decode cL_law 307 = .ok (.iaload, 1) := by decide +kernel
theorem dL_law_308 : decode cL_law 308 = .ok (.aload_n 0, 1) := by decide +kernel
theorem dL_law_309 : decode cL_law 309 = .ok (.iload_n 3, 1) := by decide +kernel
theorem dL_law_310 : decode cL_law 310 = .ok (.iconst 2, 1) := by decide +kernel
theorem dL_law_311 : decode cL_law 311 = .ok (.iadd, 1) := by decide +kernel
theorem dL_law_312 : decode cL_law 312 = .ok (.iaload, 1) := by decide +kernel
theorem dL_law_313 : decode cL_law 313 = .ok (.invokevirtual 35, 3) := by decide +kernel
theorem dL_law_316 : decode cL_law 316 = .ok (.if_icmp .eq 715, 3) := by decide +kernel
theorem dL_law_319 : decode cL_law 319 = .ok (.iconst 0, 1) := by decide +kernel
theorem dL_law_320 : decode cL_law 320 = .ok (.ireturn, 1) := by decide +kernel
theorem dL_law_321 : decode cL_law 321 = .ok (.aload_n 1, 1) := by decide +kernel
theorem dL_law_322 : decode cL_law 322 = .ok (.aload_n 0, 1) := by decide +kernel
theorem dL_law_323 : decode cL_law 323 = .ok (.iload_n 3, 1) := by decide +kernel
theorem dL_law_324 : decode cL_law 324 = .ok (.iconst 1, 1) := by decide +kernel
theorem dL_law_325 : decode cL_law 325 = .ok (.iadd, 1) := by decide +kernel
theorem dL_law_326 : decode cL_law 326 = .ok (.iaload, 1) := by decide +kernel
theorem dL_law_327 : decode cL_law 327 = .ok (.invokevirtual 36, 3) := by decide +kernel
theorem dL_law_330 : decode cL_law 330 = .ok (.aload_n 2, 1) := by decide +kernel
theorem dL_law_331 : decode cL_law 331 = .ok (.aload_n 0, 1) := by decide +kernel
theorem dL_law_332 : decode cL_law 332 = .ok (.iload_n 3, 1) := by decide +kernel
theorem dL_law_333 : decode cL_law 333 = .ok (.iconst 1, 1) := by decide +kernel
theorem dL_law_334 : decode cL_law 334 = .ok (.iadd, 1) := by decide +kernel
theorem dL_law_335 : decode cL_law 335 = .ok (.iaload, 1) := by decide +kernel
theorem dL_law_336 : decode cL_law 336 = .ok (.invokevirtual 39, 3) := by decide +kernel
theorem dL_law_339 : decode cL_law 339 = .ok (.if_icmp .eq 692, 3) := by decide +kernel
theorem dL_law_342 : decode cL_law 342 = .ok (.iconst 0, 1) := by decide +kernel
theorem dL_law_343 : decode cL_law 343 = .ok (.ireturn, 1) := by decide +kernel
theorem dL_law_344 : decode cL_law 344 = .ok (.aload_n 1, 1) := by decide +kernel
theorem dL_law_345 : decode cL_law 345 = .ok (.aload_n 0, 1) := by decide +kernel
theorem dL_law_346 : decode cL_law 346 = .ok (.iload_n 3, 1) := by decide +kernel
theorem dL_law_347 : decode cL_law 347 = .ok (.iconst 1, 1) := by decide +kernel
theorem dL_law_348 : decode cL_law 348 = .ok (.iadd, 1) := by decide +kernel
theorem dL_law_349 : decode cL_law 349 = .ok (.iaload, 1) := by decide +kernel
theorem dL_law_350 : decode cL_law 350 = .ok (.i2l, 1) := by decide +kernel
theorem dL_law_351 : decode cL_law 351 = .ok (.bipush 32, 2) := by decide +kernel
theorem dL_law_353 : decode cL_law 353 = .ok (.lshl, 1) := by decide +kernel
theorem dL_law_354 : decode cL_law 354 = .ok (.aload_n 0, 1) := by decide +kernel
theorem dL_law_355 : decode cL_law 355 = .ok (.iload_n 3, 1) := by decide +kernel
theorem dL_law_356 : decode cL_law 356 = .ok (.iconst 2, 1) := by decide +kernel
theorem dL_law_357 : decode cL_law 357 = .ok (.iadd, 1) := by decide +kernel
theorem dL_law_358 : decode cL_law 358 = .ok (.iaload, 1) := by decide +kernel
theorem dL_law_359 : decode cL_law 359 = .ok (.i2l, 1) := by decide +kernel
theorem dL_law_360 : decode cL_law 360 = .ok (.ldc2_w 40, 3) := by decide +kernel
theorem dL_law_363 : decode cL_law 363 = .ok (.land, 1) := by decide +kernel
theorem dL_law_364 : decode cL_law 364 = .ok (.lor, 1) := by decide +kernel
theorem dL_law_365 : decode cL_law 365 = .ok (.aload_n 0, 1) := by decide +kernel
theorem dL_law_366 : decode cL_law 366 = .ok (.iload_n 3, 1) := by decide +kernel
theorem dL_law_367 : decode cL_law 367 = .ok (.iconst 3, 1) := by decide +kernel
theorem dL_law_368 : decode cL_law 368 = .ok (.iadd, 1) := by decide +kernel
theorem dL_law_369 : decode cL_law 369 = .ok (.iaload, 1) := by decide +kernel
theorem dL_law_370 : decode cL_law 370 = .ok (.invokevirtual 42, 3) := by decide +kernel
theorem dL_law_373 : decode cL_law 373 = .ok (.aload_n 2, 1) := by decide +kernel
theorem dL_law_374 : decode cL_law 374 = .ok (.aload_n 0, 1) := by decide +kernel
theorem dL_law_375 : decode cL_law 375 = .ok (.iload_n 3, 1) := by decide +kernel
theorem dL_law_376 : decode cL_law 376 = .ok (.iconst 1, 1) := by decide +kernel
theorem dL_law_377 : decode cL_law 377 = .ok (.iadd, 1) := by decide +kernel
theorem dL_law_378 : decode cL_law 378 = .ok (.iaload, 1) := by decide +kernel
theorem dL_law_379 : decode cL_law 379 = .ok (.i2l, 1) := by decide +kernel
theorem dL_law_380 : decode cL_law 380 = .ok (.bipush 32, 2) := by decide +kernel
theorem dL_law_382 : decode cL_law 382 = .ok (.lshl, 1) := by decide +kernel
theorem dL_law_383 : decode cL_law 383 = .ok (.aload_n 0, 1) := by decide +kernel
theorem dL_law_384 : decode cL_law 384 = .ok (.iload_n 3, 1) := by decide +kernel
theorem dL_law_385 : decode cL_law 385 = .ok (.iconst 2, 1) := by decide +kernel
theorem dL_law_386 : decode cL_law 386 = .ok (.iadd, 1) := by decide +kernel
theorem dL_law_387 : decode cL_law 387 = .ok (.iaload, 1) := by decide +kernel
theorem dL_law_388 : decode cL_law 388 = .ok (.i2l, 1) := by decide +kernel
theorem dL_law_389 : decode cL_law 389 = .ok (.ldc2_w 40, 3) := by decide +kernel
theorem dL_law_392 : decode cL_law 392 = .ok (.land, 1) := by decide +kernel
theorem dL_law_393 : decode cL_law 393 = .ok (.lor, 1) := by decide +kernel
theorem dL_law_394 : decode cL_law 394 = .ok (.aload_n 0, 1) := by decide +kernel
theorem dL_law_395 : decode cL_law 395 = .ok (.iload_n 3, 1) := by decide +kernel
theorem dL_law_396 : decode cL_law 396 = .ok (.iconst 3, 1) := by decide +kernel
theorem dL_law_397 : decode cL_law 397 = .ok (.iadd, 1) := by decide +kernel
theorem dL_law_398 : decode cL_law 398 = .ok (.iaload, 1) := by decide +kernel
theorem dL_law_399 : decode cL_law 399 = .ok (.invokevirtual 46, 3) := by decide +kernel
theorem dL_law_402 : decode cL_law 402 = .ok (.if_icmp .eq 629, 3) := by decide +kernel
theorem dL_law_405 : decode cL_law 405 = .ok (.iconst 0, 1) := by decide +kernel
theorem dL_law_406 : decode cL_law 406 = .ok (.ireturn, 1) := by decide +kernel
theorem dL_law_407 : decode cL_law 407 = .ok (.aload_n 1, 1) := by decide +kernel
theorem dL_law_408 : decode cL_law 408 = .ok (.invokevirtual 47, 3) := by decide +kernel
theorem dL_law_411 : decode cL_law 411 = .ok (.aload_n 2, 1) := by decide +kernel
theorem dL_law_412 : decode cL_law 412 = .ok (.invokevirtual 51, 3) := by decide +kernel
theorem dL_law_415 : decode cL_law 415 = .ok (.if_icmp .eq 616, 3) := by decide +kernel
theorem dL_law_418 : decode cL_law 418 = .ok (.iconst 0, 1) := by decide +kernel
theorem dL_law_419 : decode cL_law 419 = .ok (.ireturn, 1) := by decide +kernel
theorem dL_law_420 : decode cL_law 420 = .ok (.aload_n 1, 1) := by decide +kernel
theorem dL_law_421 : decode cL_law 421 = .ok (.invokevirtual 52, 3) := by decide +kernel
theorem dL_law_424 : decode cL_law 424 = .ok (.aload_n 2, 1) := by decide +kernel
theorem dL_law_425 : decode cL_law 425 = .ok (.invokevirtual 55, 3) := by decide +kernel
theorem dL_law_428 : decode cL_law 428 = .ok (.if_icmp .eq 603, 3) := by decide +kernel
theorem dL_law_431 : decode cL_law 431 = .ok (.iconst 0, 1) := by decide +kernel
theorem dL_law_432 : decode cL_law 432 = .ok (.ireturn, 1) := by decide +kernel
theorem dL_law_433 : decode cL_law 433 = .ok (.aload_n 1, 1) := by decide +kernel
theorem dL_law_434 : decode cL_law 434 = .ok (.aload_n 0, 1) := by decide +kernel
theorem dL_law_435 : decode cL_law 435 = .ok (.iload_n 3, 1) := by decide +kernel
theorem dL_law_436 : decode cL_law 436 = .ok (.iconst 1, 1) := by decide +kernel
theorem dL_law_437 : decode cL_law 437 = .ok (.iadd, 1) := by decide +kernel
theorem dL_law_438 : decode cL_law 438 = .ok (.iaload, 1) := by decide +kernel
theorem dL_law_439 : decode cL_law 439 = .ok (.invokevirtual 56, 3) := by decide +kernel
theorem dL_law_442 : decode cL_law 442 = .ok (.aload_n 2, 1) := by decide +kernel
theorem dL_law_443 : decode cL_law 443 = .ok (.aload_n 0, 1) := by decide +kernel
theorem dL_law_444 : decode cL_law 444 = .ok (.iload_n 3, 1) := by decide +kernel
theorem dL_law_445 : decode cL_law 445 = .ok (.iconst 1, 1) := by decide +kernel
theorem dL_law_446 : decode cL_law 446 = .ok (.iadd, 1) := by decide +kernel
theorem dL_law_447 : decode cL_law 447 = .ok (.iaload, 1) := by decide +kernel
theorem dL_law_448 : decode cL_law 448 = .ok (.invokevirtual 59, 3) := by decide +kernel
theorem dL_law_451 : decode cL_law 451 = .ok (.if_icmp .eq 580, 3) := by decide +kernel
theorem dL_law_454 : decode cL_law 454 = .ok (.iconst 0, 1) := by decide +kernel
theorem dL_law_455 : decode cL_law 455 = .ok (.ireturn, 1) := by decide +kernel
theorem dL_law_456 : decode cL_law 456 = .ok (.aload_n 1, 1) := by decide +kernel
theorem dL_law_457 : decode cL_law 457 = .ok (.aload_n 0, 1) := by decide +kernel
theorem dL_law_458 : decode cL_law 458 = .ok (.iload_n 3, 1) := by decide +kernel
theorem dL_law_459 : decode cL_law 459 = .ok (.iconst 1, 1) := by decide +kernel
theorem dL_law_460 : decode cL_law 460 = .ok (.iadd, 1) := by decide +kernel
theorem dL_law_461 : decode cL_law 461 = .ok (.iaload, 1) := by decide +kernel
theorem dL_law_462 : decode cL_law 462 = .ok (.aload_n 0, 1) := by decide +kernel
theorem dL_law_463 : decode cL_law 463 = .ok (.iload_n 3, 1) := by decide +kernel
theorem dL_law_464 : decode cL_law 464 = .ok (.iconst 2, 1) := by decide +kernel
theorem dL_law_465 : decode cL_law 465 = .ok (.iadd, 1) := by decide +kernel
theorem dL_law_466 : decode cL_law 466 = .ok (.iaload, 1) := by decide +kernel
theorem dL_law_467 : decode cL_law 467 = .ok (.invokevirtual 60, 3) := by decide +kernel
theorem dL_law_470 : decode cL_law 470 = .ok (.aload_n 2, 1) := by decide +kernel
theorem dL_law_471 : decode cL_law 471 = .ok (.aload_n 0, 1) := by decide +kernel
theorem dL_law_472 : decode cL_law 472 = .ok (.iload_n 3, 1) := by decide +kernel
theorem dL_law_473 : decode cL_law 473 = .ok (.iconst 1, 1) := by decide +kernel
theorem dL_law_474 : decode cL_law 474 = .ok (.iadd, 1) := by decide +kernel
theorem dL_law_475 : decode cL_law 475 = .ok (.iaload, 1) := by decide +kernel
theorem dL_law_476 : decode cL_law 476 = .ok (.aload_n 0, 1) := by decide +kernel
theorem dL_law_477 : decode cL_law 477 = .ok (.iload_n 3, 1) := by decide +kernel
theorem dL_law_478 : decode cL_law 478 = .ok (.iconst 2, 1) := by decide +kernel
theorem dL_law_479 : decode cL_law 479 = .ok (.iadd, 1) := by decide +kernel
theorem dL_law_480 : decode cL_law 480 = .ok (.iaload, 1) := by decide +kernel
theorem dL_law_481 : decode cL_law 481 = .ok (.invokevirtual 63, 3) := by decide +kernel
theorem dL_law_484 : decode cL_law 484 = .ok (.if_icmp .eq 547, 3) := by decide +kernel
theorem dL_law_487 : decode cL_law 487 = .ok (.iconst 0, 1) := by decide +kernel
theorem dL_law_488 : decode cL_law 488 = .ok (.ireturn, 1) := by decide +kernel
theorem dL_law_489 : decode cL_law 489 = .ok (.aload_n 1, 1) := by decide +kernel
theorem dL_law_490 : decode cL_law 490 = .ok (.aload_n 0, 1) := by decide +kernel
theorem dL_law_491 : decode cL_law 491 = .ok (.iload_n 3, 1) := by decide +kernel
theorem dL_law_492 : decode cL_law 492 = .ok (.iconst 1, 1) := by decide +kernel
theorem dL_law_493 : decode cL_law 493 = .ok (.iadd, 1) := by decide +kernel
theorem dL_law_494 : decode cL_law 494 = .ok (.iaload, 1) := by decide +kernel
theorem dL_law_495 : decode cL_law 495 = .ok (.aload_n 0, 1) := by decide +kernel
theorem dL_law_496 : decode cL_law 496 = .ok (.iload_n 3, 1) := by decide +kernel
theorem dL_law_497 : decode cL_law 497 = .ok (.iconst 2, 1) := by decide +kernel
theorem dL_law_498 : decode cL_law 498 = .ok (.iadd, 1) := by decide +kernel
theorem dL_law_499 : decode cL_law 499 = .ok (.iaload, 1) := by decide +kernel
theorem dL_law_500 : decode cL_law 500 = .ok (.invokevirtual 64, 3) := by decide +kernel
theorem dL_law_503 : decode cL_law 503 = .ok (.aload_n 2, 1) := by decide +kernel
theorem dL_law_504 : decode cL_law 504 = .ok (.aload_n 0, 1) := by decide +kernel
theorem dL_law_505 : decode cL_law 505 = .ok (.iload_n 3, 1) := by decide +kernel
theorem dL_law_506 : decode cL_law 506 = .ok (.iconst 1, 1) := by decide +kernel
theorem dL_law_507 : decode cL_law 507 = .ok (.iadd, 1) := by decide +kernel
theorem dL_law_508 : decode cL_law 508 = .ok (.iaload, 1) := by decide +kernel
theorem dL_law_509 : decode cL_law 509 = .ok (.aload_n 0, 1) := by decide +kernel
theorem dL_law_510 : decode cL_law 510 = .ok (.iload_n 3, 1) := by decide +kernel
theorem dL_law_511 : decode cL_law 511 = .ok (.iconst 2, 1) := by decide +kernel
theorem dL_law_512 : decode cL_law 512 = .ok (.iadd, 1) := by decide +kernel
theorem dL_law_513 : decode cL_law 513 = .ok (.iaload, 1) := by decide +kernel
theorem dL_law_514 : decode cL_law 514 = .ok (.invokevirtual 67, 3) := by decide +kernel
theorem dL_law_517 : decode cL_law 517 = .ok (.if_icmp .eq 514, 3) := by decide +kernel
theorem dL_law_520 : decode cL_law 520 = .ok (.iconst 0, 1) := by decide +kernel
theorem dL_law_521 : decode cL_law 521 = .ok (.ireturn, 1) := by decide +kernel
theorem dL_law_522 : decode cL_law 522 = .ok (.aload_n 1, 1) := by decide +kernel
theorem dL_law_523 : decode cL_law 523 = .ok (.aload_n 0, 1) := by decide +kernel
theorem dL_law_524 : decode cL_law 524 = .ok (.iload_n 3, 1) := by decide +kernel
theorem dL_law_525 : decode cL_law 525 = .ok (.iconst 1, 1) := by decide +kernel
theorem dL_law_526 : decode cL_law 526 = .ok (.iadd, 1) := by decide +kernel
theorem dL_law_527 : decode cL_law 527 = .ok (.iaload, 1) := by decide +kernel
theorem dL_law_528 : decode cL_law 528 = .ok (.aload_n 0, 1) := by decide +kernel
theorem dL_law_529 : decode cL_law 529 = .ok (.iload_n 3, 1) := by decide +kernel
theorem dL_law_530 : decode cL_law 530 = .ok (.iconst 2, 1) := by decide +kernel
theorem dL_law_531 : decode cL_law 531 = .ok (.iadd, 1) := by decide +kernel
theorem dL_law_532 : decode cL_law 532 = .ok (.iaload, 1) := by decide +kernel
theorem dL_law_533 : decode cL_law 533 = .ok (.invokevirtual 68, 3) := by decide +kernel
theorem dL_law_536 : decode cL_law 536 = .ok (.aload_n 2, 1) := by decide +kernel
theorem dL_law_537 : decode cL_law 537 = .ok (.aload_n 0, 1) := by decide +kernel
theorem dL_law_538 : decode cL_law 538 = .ok (.iload_n 3, 1) := by decide +kernel
theorem dL_law_539 : decode cL_law 539 = .ok (.iconst 1, 1) := by decide +kernel
theorem dL_law_540 : decode cL_law 540 = .ok (.iadd, 1) := by decide +kernel
theorem dL_law_541 : decode cL_law 541 = .ok (.iaload, 1) := by decide +kernel
theorem dL_law_542 : decode cL_law 542 = .ok (.aload_n 0, 1) := by decide +kernel
theorem dL_law_543 : decode cL_law 543 = .ok (.iload_n 3, 1) := by decide +kernel
theorem dL_law_544 : decode cL_law 544 = .ok (.iconst 2, 1) := by decide +kernel
theorem dL_law_545 : decode cL_law 545 = .ok (.iadd, 1) := by decide +kernel
theorem dL_law_546 : decode cL_law 546 = .ok (.iaload, 1) := by decide +kernel
theorem dL_law_547 : decode cL_law 547 = .ok (.invokevirtual 71, 3) := by decide +kernel
theorem dL_law_550 : decode cL_law 550 = .ok (.if_icmp .eq 481, 3) := by decide +kernel
theorem dL_law_553 : decode cL_law 553 = .ok (.iconst 0, 1) := by decide +kernel
theorem dL_law_554 : decode cL_law 554 = .ok (.ireturn, 1) := by decide +kernel
theorem dL_law_555 : decode cL_law 555 = .ok (.aload_n 1, 1) := by decide +kernel
theorem dL_law_556 : decode cL_law 556 = .ok (.aload_n 0, 1) := by decide +kernel
theorem dL_law_557 : decode cL_law 557 = .ok (.iload_n 3, 1) := by decide +kernel
theorem dL_law_558 : decode cL_law 558 = .ok (.iconst 1, 1) := by decide +kernel
theorem dL_law_559 : decode cL_law 559 = .ok (.iadd, 1) := by decide +kernel
theorem dL_law_560 : decode cL_law 560 = .ok (.iaload, 1) := by decide +kernel
theorem dL_law_561 : decode cL_law 561 = .ok (.aload_n 0, 1) := by decide +kernel
theorem dL_law_562 : decode cL_law 562 = .ok (.iload_n 3, 1) := by decide +kernel
theorem dL_law_563 : decode cL_law 563 = .ok (.iconst 2, 1) := by decide +kernel
theorem dL_law_564 : decode cL_law 564 = .ok (.iadd, 1) := by decide +kernel
theorem dL_law_565 : decode cL_law 565 = .ok (.iaload, 1) := by decide +kernel
theorem dL_law_566 : decode cL_law 566 = .ok (.aload_n 0, 1) := by decide +kernel
theorem dL_law_567 : decode cL_law 567 = .ok (.iload_n 3, 1) := by decide +kernel
theorem dL_law_568 : decode cL_law 568 = .ok (.iconst 3, 1) := by decide +kernel
theorem dL_law_569 : decode cL_law 569 = .ok (.iadd, 1) := by decide +kernel
theorem dL_law_570 : decode cL_law 570 = .ok (.iaload, 1) := by decide +kernel
theorem dL_law_571 : decode cL_law 571 = .ok (.invokevirtual 72, 3) := by decide +kernel
theorem dL_law_574 : decode cL_law 574 = .ok (.aload_n 2, 1) := by decide +kernel
theorem dL_law_575 : decode cL_law 575 = .ok (.aload_n 0, 1) := by decide +kernel
theorem dL_law_576 : decode cL_law 576 = .ok (.iload_n 3, 1) := by decide +kernel
theorem dL_law_577 : decode cL_law 577 = .ok (.iconst 1, 1) := by decide +kernel
theorem dL_law_578 : decode cL_law 578 = .ok (.iadd, 1) := by decide +kernel
theorem dL_law_579 : decode cL_law 579 = .ok (.iaload, 1) := by decide +kernel
theorem dL_law_580 : decode cL_law 580 = .ok (.aload_n 0, 1) := by decide +kernel
theorem dL_law_581 : decode cL_law 581 = .ok (.iload_n 3, 1) := by decide +kernel
theorem dL_law_582 : decode cL_law 582 = .ok (.iconst 2, 1) := by decide +kernel
theorem dL_law_583 : decode cL_law 583 = .ok (.iadd, 1) := by decide +kernel
theorem dL_law_584 : decode cL_law 584 = .ok (.iaload, 1) := by decide +kernel
theorem dL_law_585 : decode cL_law 585 = .ok (.aload_n 0, 1) := by decide +kernel
theorem dL_law_586 : decode cL_law 586 = .ok (.iload_n 3, 1) := by decide +kernel
theorem dL_law_587 : decode cL_law 587 = .ok (.iconst 3, 1) := by decide +kernel
theorem dL_law_588 : decode cL_law 588 = .ok (.iadd, 1) := by decide +kernel
theorem dL_law_589 : decode cL_law 589 = .ok (.iaload, 1) := by decide +kernel
theorem dL_law_590 : decode cL_law 590 = .ok (.invokevirtual 76, 3) := by decide +kernel
theorem dL_law_593 : decode cL_law 593 = .ok (.lcmp, 1) := by decide +kernel
theorem dL_law_594 : decode cL_law 594 = .ok (.ifCond .eq 437, 3) := by decide +kernel
theorem dL_law_597 : decode cL_law 597 = .ok (.iconst 0, 1) := by decide +kernel
theorem dL_law_598 : decode cL_law 598 = .ok (.ireturn, 1) := by decide +kernel
theorem dL_law_599 : decode cL_law 599 = .ok (.aload_n 1, 1) := by decide +kernel
theorem dL_law_600 : decode cL_law 600 = .ok (.aload_n 0, 1) := by decide +kernel
theorem dL_law_601 : decode cL_law 601 = .ok (.iload_n 3, 1) := by decide +kernel
theorem dL_law_602 : decode cL_law 602 = .ok (.iconst 1, 1) := by decide +kernel
theorem dL_law_603 : decode cL_law 603 = .ok (.iadd, 1) := by decide +kernel
theorem dL_law_604 : decode cL_law 604 = .ok (.iaload, 1) := by decide +kernel
theorem dL_law_605 : decode cL_law 605 = .ok (.aload_n 0, 1) := by decide +kernel
theorem dL_law_606 : decode cL_law 606 = .ok (.iload_n 3, 1) := by decide +kernel
theorem dL_law_607 : decode cL_law 607 = .ok (.iconst 2, 1) := by decide +kernel
theorem dL_law_608 : decode cL_law 608 = .ok (.iadd, 1) := by decide +kernel
theorem dL_law_609 : decode cL_law 609 = .ok (.iaload, 1) := by decide +kernel
theorem dL_law_610 : decode cL_law 610 = .ok (.invokevirtual 77, 3) := by decide +kernel
theorem dL_law_613 : decode cL_law 613 = .ok (.aload_n 2, 1) := by decide +kernel
theorem dL_law_614 : decode cL_law 614 = .ok (.aload_n 0, 1) := by decide +kernel
theorem dL_law_615 : decode cL_law 615 = .ok (.iload_n 3, 1) := by decide +kernel
theorem dL_law_616 : decode cL_law 616 = .ok (.iconst 1, 1) := by decide +kernel
theorem dL_law_617 : decode cL_law 617 = .ok (.iadd, 1) := by decide +kernel
theorem dL_law_618 : decode cL_law 618 = .ok (.iaload, 1) := by decide +kernel
theorem dL_law_619 : decode cL_law 619 = .ok (.aload_n 0, 1) := by decide +kernel
theorem dL_law_620 : decode cL_law 620 = .ok (.iload_n 3, 1) := by decide +kernel
theorem dL_law_621 : decode cL_law 621 = .ok (.iconst 2, 1) := by decide +kernel
theorem dL_law_622 : decode cL_law 622 = .ok (.iadd, 1) := by decide +kernel
theorem dL_law_623 : decode cL_law 623 = .ok (.iaload, 1) := by decide +kernel
theorem dL_law_624 : decode cL_law 624 = .ok (.invokevirtual 81, 3) := by decide +kernel
theorem dL_law_627 : decode cL_law 627 = .ok (.lcmp, 1) := by decide +kernel
theorem dL_law_628 : decode cL_law 628 = .ok (.ifCond .eq 403, 3) := by decide +kernel
theorem dL_law_631 : decode cL_law 631 = .ok (.iconst 0, 1) := by decide +kernel
theorem dL_law_632 : decode cL_law 632 = .ok (.ireturn, 1) := by decide +kernel
theorem dL_law_633 : decode cL_law 633 = .ok (.aload_n 1, 1) := by decide +kernel
theorem dL_law_634 : decode cL_law 634 = .ok (.aload_n 0, 1) := by decide +kernel
theorem dL_law_635 : decode cL_law 635 = .ok (.iload_n 3, 1) := by decide +kernel
theorem dL_law_636 : decode cL_law 636 = .ok (.iconst 1, 1) := by decide +kernel
theorem dL_law_637 : decode cL_law 637 = .ok (.iadd, 1) := by decide +kernel
theorem dL_law_638 : decode cL_law 638 = .ok (.iaload, 1) := by decide +kernel
theorem dL_law_639 : decode cL_law 639 = .ok (.aload_n 0, 1) := by decide +kernel
theorem dL_law_640 : decode cL_law 640 = .ok (.iload_n 3, 1) := by decide +kernel
theorem dL_law_641 : decode cL_law 641 = .ok (.iconst 2, 1) := by decide +kernel
theorem dL_law_642 : decode cL_law 642 = .ok (.iadd, 1) := by decide +kernel
theorem dL_law_643 : decode cL_law 643 = .ok (.iaload, 1) := by decide +kernel
theorem dL_law_644 : decode cL_law 644 = .ok (.aload_n 0, 1) := by decide +kernel
theorem dL_law_645 : decode cL_law 645 = .ok (.iload_n 3, 1) := by decide +kernel
theorem dL_law_646 : decode cL_law 646 = .ok (.iconst 3, 1) := by decide +kernel
theorem dL_law_647 : decode cL_law 647 = .ok (.iadd, 1) := by decide +kernel
theorem dL_law_648 : decode cL_law 648 = .ok (.iaload, 1) := by decide +kernel
theorem dL_law_649 : decode cL_law 649 = .ok (.invokevirtual 82, 3) := by decide +kernel
theorem dL_law_652 : decode cL_law 652 = .ok (.aload_n 2, 1) := by decide +kernel
theorem dL_law_653 : decode cL_law 653 = .ok (.aload_n 0, 1) := by decide +kernel
theorem dL_law_654 : decode cL_law 654 = .ok (.iload_n 3, 1) := by decide +kernel
theorem dL_law_655 : decode cL_law 655 = .ok (.iconst 1, 1) := by decide +kernel
theorem dL_law_656 : decode cL_law 656 = .ok (.iadd, 1) := by decide +kernel
theorem dL_law_657 : decode cL_law 657 = .ok (.iaload, 1) := by decide +kernel
theorem dL_law_658 : decode cL_law 658 = .ok (.aload_n 0, 1) := by decide +kernel
theorem dL_law_659 : decode cL_law 659 = .ok (.iload_n 3, 1) := by decide +kernel
theorem dL_law_660 : decode cL_law 660 = .ok (.iconst 2, 1) := by decide +kernel
theorem dL_law_661 : decode cL_law 661 = .ok (.iadd, 1) := by decide +kernel
theorem dL_law_662 : decode cL_law 662 = .ok (.iaload, 1) := by decide +kernel
theorem dL_law_663 : decode cL_law 663 = .ok (.aload_n 0, 1) := by decide +kernel
theorem dL_law_664 : decode cL_law 664 = .ok (.iload_n 3, 1) := by decide +kernel
theorem dL_law_665 : decode cL_law 665 = .ok (.iconst 3, 1) := by decide +kernel
theorem dL_law_666 : decode cL_law 666 = .ok (.iadd, 1) := by decide +kernel
theorem dL_law_667 : decode cL_law 667 = .ok (.iaload, 1) := by decide +kernel
theorem dL_law_668 : decode cL_law 668 = .ok (.invokevirtual 85, 3) := by decide +kernel
theorem dL_law_671 : decode cL_law 671 = .ok (.lcmp, 1) := by decide +kernel
theorem dL_law_672 : decode cL_law 672 = .ok (.ifCond .eq 359, 3) := by decide +kernel
theorem dL_law_675 : decode cL_law 675 = .ok (.iconst 0, 1) := by decide +kernel
theorem dL_law_676 : decode cL_law 676 = .ok (.ireturn, 1) := by decide +kernel
theorem dL_law_677 : decode cL_law 677 = .ok (.aload_n 1, 1) := by decide +kernel
theorem dL_law_678 : decode cL_law 678 = .ok (.aload_n 0, 1) := by decide +kernel
theorem dL_law_679 : decode cL_law 679 = .ok (.iload_n 3, 1) := by decide +kernel
theorem dL_law_680 : decode cL_law 680 = .ok (.iconst 1, 1) := by decide +kernel
theorem dL_law_681 : decode cL_law 681 = .ok (.iadd, 1) := by decide +kernel
theorem dL_law_682 : decode cL_law 682 = .ok (.iaload, 1) := by decide +kernel
theorem dL_law_683 : decode cL_law 683 = .ok (.aload_n 0, 1) := by decide +kernel
theorem dL_law_684 : decode cL_law 684 = .ok (.iload_n 3, 1) := by decide +kernel
theorem dL_law_685 : decode cL_law 685 = .ok (.iconst 2, 1) := by decide +kernel
theorem dL_law_686 : decode cL_law 686 = .ok (.iadd, 1) := by decide +kernel
theorem dL_law_687 : decode cL_law 687 = .ok (.iaload, 1) := by decide +kernel
theorem dL_law_688 : decode cL_law 688 = .ok (.aload_n 0, 1) := by decide +kernel
theorem dL_law_689 : decode cL_law 689 = .ok (.iload_n 3, 1) := by decide +kernel
theorem dL_law_690 : decode cL_law 690 = .ok (.iconst 3, 1) := by decide +kernel
theorem dL_law_691 : decode cL_law 691 = .ok (.iadd, 1) := by decide +kernel
theorem dL_law_692 : decode cL_law 692 = .ok (.iaload, 1) := by decide +kernel
theorem dL_law_693 : decode cL_law 693 = .ok (.invokevirtual 86, 3) := by decide +kernel
theorem dL_law_696 : decode cL_law 696 = .ok (.aload_n 2, 1) := by decide +kernel
theorem dL_law_697 : decode cL_law 697 = .ok (.aload_n 0, 1) := by decide +kernel
theorem dL_law_698 : decode cL_law 698 = .ok (.iload_n 3, 1) := by decide +kernel
theorem dL_law_699 : decode cL_law 699 = .ok (.iconst 1, 1) := by decide +kernel
theorem dL_law_700 : decode cL_law 700 = .ok (.iadd, 1) := by decide +kernel
theorem dL_law_701 : decode cL_law 701 = .ok (.iaload, 1) := by decide +kernel
theorem dL_law_702 : decode cL_law 702 = .ok (.aload_n 0, 1) := by decide +kernel
theorem dL_law_703 : decode cL_law 703 = .ok (.iload_n 3, 1) := by decide +kernel
theorem dL_law_704 : decode cL_law 704 = .ok (.iconst 2, 1) := by decide +kernel
theorem dL_law_705 : decode cL_law 705 = .ok (.iadd, 1) := by decide +kernel
theorem dL_law_706 : decode cL_law 706 = .ok (.iaload, 1) := by decide +kernel
theorem dL_law_707 : decode cL_law 707 = .ok (.aload_n 0, 1) := by decide +kernel
theorem dL_law_708 : decode cL_law 708 = .ok (.iload_n 3, 1) := by decide +kernel
theorem dL_law_709 : decode cL_law 709 = .ok (.iconst 3, 1) := by decide +kernel
theorem dL_law_710 : decode cL_law 710 = .ok (.iadd, 1) := by decide +kernel
theorem dL_law_711 : decode cL_law 711 = .ok (.iaload, 1) := by decide +kernel
theorem dL_law_712 : decode cL_law 712 = .ok (.invokevirtual 89, 3) := by decide +kernel
theorem dL_law_715 : decode cL_law 715 = .ok (.if_icmp .eq 316, 3) := by decide +kernel
theorem dL_law_718 : decode cL_law 718 = .ok (.iconst 0, 1) := by decide +kernel
theorem dL_law_719 : decode cL_law 719 = .ok (.ireturn, 1) := by decide +kernel
theorem dL_law_720 : decode cL_law 720 = .ok (.aload_n 1, 1) := by decide +kernel
theorem dL_law_721 : decode cL_law 721 = .ok (.aload_n 0, 1) := by decide +kernel
theorem dL_law_722 : decode cL_law 722 = .ok (.iload_n 3, 1) := by decide +kernel
theorem dL_law_723 : decode cL_law 723 = .ok (.iconst 1, 1) := by decide +kernel
theorem dL_law_724 : decode cL_law 724 = .ok (.iadd, 1) := by decide +kernel
theorem dL_law_725 : decode cL_law 725 = .ok (.iaload, 1) := by decide +kernel
theorem dL_law_726 : decode cL_law 726 = .ok (.aload_n 0, 1) := by decide +kernel
theorem dL_law_727 : decode cL_law 727 = .ok (.iload_n 3, 1) := by decide +kernel
theorem dL_law_728 : decode cL_law 728 = .ok (.iconst 2, 1) := by decide +kernel
theorem dL_law_729 : decode cL_law 729 = .ok (.iadd, 1) := by decide +kernel
theorem dL_law_730 : decode cL_law 730 = .ok (.iaload, 1) := by decide +kernel
theorem dL_law_731 : decode cL_law 731 = .ok (.aload_n 0, 1) := by decide +kernel
theorem dL_law_732 : decode cL_law 732 = .ok (.iload_n 3, 1) := by decide +kernel
theorem dL_law_733 : decode cL_law 733 = .ok (.iconst 3, 1) := by decide +kernel
theorem dL_law_734 : decode cL_law 734 = .ok (.iadd, 1) := by decide +kernel
theorem dL_law_735 : decode cL_law 735 = .ok (.iaload, 1) := by decide +kernel
theorem dL_law_736 : decode cL_law 736 = .ok (.invokevirtual 90, 3) := by decide +kernel
theorem dL_law_739 : decode cL_law 739 = .ok (.aload_n 2, 1) := by decide +kernel
theorem dL_law_740 : decode cL_law 740 = .ok (.aload_n 0, 1) := by decide +kernel
theorem dL_law_741 : decode cL_law 741 = .ok (.iload_n 3, 1) := by decide +kernel
theorem dL_law_742 : decode cL_law 742 = .ok (.iconst 1, 1) := by decide +kernel
theorem dL_law_743 : decode cL_law 743 = .ok (.iadd, 1) := by decide +kernel
theorem dL_law_744 : decode cL_law 744 = .ok (.iaload, 1) := by decide +kernel
theorem dL_law_745 : decode cL_law 745 = .ok (.aload_n 0, 1) := by decide +kernel
theorem dL_law_746 : decode cL_law 746 = .ok (.iload_n 3, 1) := by decide +kernel
theorem dL_law_747 : decode cL_law 747 = .ok (.iconst 2, 1) := by decide +kernel
theorem dL_law_748 : decode cL_law 748 = .ok (.iadd, 1) := by decide +kernel
theorem dL_law_749 : decode cL_law 749 = .ok (.iaload, 1) := by decide +kernel
theorem dL_law_750 : decode cL_law 750 = .ok (.aload_n 0, 1) := by decide +kernel
theorem dL_law_751 : decode cL_law 751 = .ok (.iload_n 3, 1) := by decide +kernel
theorem dL_law_752 : decode cL_law 752 = .ok (.iconst 3, 1) := by decide +kernel
theorem dL_law_753 : decode cL_law 753 = .ok (.iadd, 1) := by decide +kernel
theorem dL_law_754 : decode cL_law 754 = .ok (.iaload, 1) := by decide +kernel
theorem dL_law_755 : decode cL_law 755 = .ok (.invokevirtual 93, 3) := by decide +kernel
theorem dL_law_758 : decode cL_law 758 = .ok (.if_icmp .eq 273, 3) := by decide +kernel
theorem dL_law_761 : decode cL_law 761 = .ok (.iconst 0, 1) := by decide +kernel
theorem dL_law_762 : decode cL_law 762 = .ok (.ireturn, 1) := by decide +kernel
theorem dL_law_763 : decode cL_law 763 = .ok (.aload_n 1, 1) := by decide +kernel
theorem dL_law_764 : decode cL_law 764 = .ok (.aload_n 0, 1) := by decide +kernel
theorem dL_law_765 : decode cL_law 765 = .ok (.iload_n 3, 1) := by decide +kernel
theorem dL_law_766 : decode cL_law 766 = .ok (.iconst 1, 1) := by decide +kernel
theorem dL_law_767 : decode cL_law 767 = .ok (.iadd, 1) := by decide +kernel
theorem dL_law_768 : decode cL_law 768 = .ok (.iaload, 1) := by decide +kernel
theorem dL_law_769 : decode cL_law 769 = .ok (.aload_n 0, 1) := by decide +kernel
theorem dL_law_770 : decode cL_law 770 = .ok (.iload_n 3, 1) := by decide +kernel
theorem dL_law_771 : decode cL_law 771 = .ok (.iconst 2, 1) := by decide +kernel
theorem dL_law_772 : decode cL_law 772 = .ok (.iadd, 1) := by decide +kernel
theorem dL_law_773 : decode cL_law 773 = .ok (.iaload, 1) := by decide +kernel
theorem dL_law_774 : decode cL_law 774 = .ok (.aload_n 0, 1) := by decide +kernel
theorem dL_law_775 : decode cL_law 775 = .ok (.iload_n 3, 1) := by decide +kernel
theorem dL_law_776 : decode cL_law 776 = .ok (.iconst 3, 1) := by decide +kernel
theorem dL_law_777 : decode cL_law 777 = .ok (.iadd, 1) := by decide +kernel
theorem dL_law_778 : decode cL_law 778 = .ok (.iaload, 1) := by decide +kernel
theorem dL_law_779 : decode cL_law 779 = .ok (.invokevirtual 94, 3) := by decide +kernel
theorem dL_law_782 : decode cL_law 782 = .ok (.aload_n 2, 1) := by decide +kernel
theorem dL_law_783 : decode cL_law 783 = .ok (.aload_n 0, 1) := by decide +kernel
theorem dL_law_784 : decode cL_law 784 = .ok (.iload_n 3, 1) := by decide +kernel
theorem dL_law_785 : decode cL_law 785 = .ok (.iconst 1, 1) := by decide +kernel
theorem dL_law_786 : decode cL_law 786 = .ok (.iadd, 1) := by decide +kernel
theorem dL_law_787 : decode cL_law 787 = .ok (.iaload, 1) := by decide +kernel
theorem dL_law_788 : decode cL_law 788 = .ok (.aload_n 0, 1) := by decide +kernel
theorem dL_law_789 : decode cL_law 789 = .ok (.iload_n 3, 1) := by decide +kernel
theorem dL_law_790 : decode cL_law 790 = .ok (.iconst 2, 1) := by decide +kernel
theorem dL_law_791 : decode cL_law 791 = .ok (.iadd, 1) := by decide +kernel
theorem dL_law_792 : decode cL_law 792 = .ok (.iaload, 1) := by decide +kernel
theorem dL_law_793 : decode cL_law 793 = .ok (.aload_n 0, 1) := by decide +kernel
theorem dL_law_794 : decode cL_law 794 = .ok (.iload_n 3, 1) := by decide +kernel
theorem dL_law_795 : decode cL_law 795 = .ok (.iconst 3, 1) := by decide +kernel
theorem dL_law_796 : decode cL_law 796 = .ok (.iadd, 1) := by decide +kernel
theorem dL_law_797 : decode cL_law 797 = .ok (.iaload, 1) := by decide +kernel
theorem dL_law_798 : decode cL_law 798 = .ok (.invokevirtual 97, 3) := by decide +kernel
theorem dL_law_801 : decode cL_law 801 = .ok (.if_icmp .eq 230, 3) := by decide +kernel
theorem dL_law_804 : decode cL_law 804 = .ok (.iconst 0, 1) := by decide +kernel
theorem dL_law_805 : decode cL_law 805 = .ok (.ireturn, 1) := by decide +kernel
theorem dL_law_806 : decode cL_law 806 = .ok (.aload_n 1, 1) := by decide +kernel
theorem dL_law_807 : decode cL_law 807 = .ok (.aload_n 0, 1) := by decide +kernel
theorem dL_law_808 : decode cL_law 808 = .ok (.iload_n 3, 1) := by decide +kernel
theorem dL_law_809 : decode cL_law 809 = .ok (.iconst 1, 1) := by decide +kernel
theorem dL_law_810 : decode cL_law 810 = .ok (.iadd, 1) := by decide +kernel
theorem dL_law_811 : decode cL_law 811 = .ok (.iaload, 1) := by decide +kernel
theorem dL_law_812 : decode cL_law 812 = .ok (.aload_n 0, 1) := by decide +kernel
theorem dL_law_813 : decode cL_law 813 = .ok (.iload_n 3, 1) := by decide +kernel
theorem dL_law_814 : decode cL_law 814 = .ok (.iconst 2, 1) := by decide +kernel
theorem dL_law_815 : decode cL_law 815 = .ok (.iadd, 1) := by decide +kernel
theorem dL_law_816 : decode cL_law 816 = .ok (.iaload, 1) := by decide +kernel
theorem dL_law_817 : decode cL_law 817 = .ok (.aload_n 0, 1) := by decide +kernel
theorem dL_law_818 : decode cL_law 818 = .ok (.iload_n 3, 1) := by decide +kernel
theorem dL_law_819 : decode cL_law 819 = .ok (.iconst 3, 1) := by decide +kernel
theorem dL_law_820 : decode cL_law 820 = .ok (.iadd, 1) := by decide +kernel
theorem dL_law_821 : decode cL_law 821 = .ok (.iaload, 1) := by decide +kernel
theorem dL_law_822 : decode cL_law 822 = .ok (.invokevirtual 98, 3) := by decide +kernel
theorem dL_law_825 : decode cL_law 825 = .ok (.aload_n 2, 1) := by decide +kernel
theorem dL_law_826 : decode cL_law 826 = .ok (.aload_n 0, 1) := by decide +kernel
theorem dL_law_827 : decode cL_law 827 = .ok (.iload_n 3, 1) := by decide +kernel
theorem dL_law_828 : decode cL_law 828 = .ok (.iconst 1, 1) := by decide +kernel
theorem dL_law_829 : decode cL_law 829 = .ok (.iadd, 1) := by decide +kernel
theorem dL_law_830 : decode cL_law 830 = .ok (.iaload, 1) := by decide +kernel
theorem dL_law_831 : decode cL_law 831 = .ok (.aload_n 0, 1) := by decide +kernel
theorem dL_law_832 : decode cL_law 832 = .ok (.iload_n 3, 1) := by decide +kernel
theorem dL_law_833 : decode cL_law 833 = .ok (.iconst 2, 1) := by decide +kernel
theorem dL_law_834 : decode cL_law 834 = .ok (.iadd, 1) := by decide +kernel
theorem dL_law_835 : decode cL_law 835 = .ok (.iaload, 1) := by decide +kernel
theorem dL_law_836 : decode cL_law 836 = .ok (.aload_n 0, 1) := by decide +kernel
theorem dL_law_837 : decode cL_law 837 = .ok (.iload_n 3, 1) := by decide +kernel
theorem dL_law_838 : decode cL_law 838 = .ok (.iconst 3, 1) := by decide +kernel
theorem dL_law_839 : decode cL_law 839 = .ok (.iadd, 1) := by decide +kernel
theorem dL_law_840 : decode cL_law 840 = .ok (.iaload, 1) := by decide +kernel
theorem dL_law_841 : decode cL_law 841 = .ok (.invokevirtual 101, 3) := by decide +kernel
theorem dL_law_844 : decode cL_law 844 = .ok (.if_icmp .eq 187, 3) := by decide +kernel
theorem dL_law_847 : decode cL_law 847 = .ok (.iconst 0, 1) := by decide +kernel
theorem dL_law_848 : decode cL_law 848 = .ok (.ireturn, 1) := by decide +kernel
theorem dL_law_849 : decode cL_law 849 = .ok (.aload_n 1, 1) := by decide +kernel
theorem dL_law_850 : decode cL_law 850 = .ok (.aload_n 0, 1) := by decide +kernel
theorem dL_law_851 : decode cL_law 851 = .ok (.iload_n 3, 1) := by decide +kernel
theorem dL_law_852 : decode cL_law 852 = .ok (.iconst 1, 1) := by decide +kernel
theorem dL_law_853 : decode cL_law 853 = .ok (.iadd, 1) := by decide +kernel
theorem dL_law_854 : decode cL_law 854 = .ok (.iaload, 1) := by decide +kernel
theorem dL_law_855 : decode cL_law 855 = .ok (.aload_n 0, 1) := by decide +kernel
theorem dL_law_856 : decode cL_law 856 = .ok (.iload_n 3, 1) := by decide +kernel
theorem dL_law_857 : decode cL_law 857 = .ok (.iconst 2, 1) := by decide +kernel
theorem dL_law_858 : decode cL_law 858 = .ok (.iadd, 1) := by decide +kernel
theorem dL_law_859 : decode cL_law 859 = .ok (.iaload, 1) := by decide +kernel
theorem dL_law_860 : decode cL_law 860 = .ok (.invokevirtual 102, 3) := by decide +kernel
theorem dL_law_863 : decode cL_law 863 = .ok (.aload_n 2, 1) := by decide +kernel
theorem dL_law_864 : decode cL_law 864 = .ok (.aload_n 0, 1) := by decide +kernel
theorem dL_law_865 : decode cL_law 865 = .ok (.iload_n 3, 1) := by decide +kernel
theorem dL_law_866 : decode cL_law 866 = .ok (.iconst 1, 1) := by decide +kernel
theorem dL_law_867 : decode cL_law 867 = .ok (.iadd, 1) := by decide +kernel
theorem dL_law_868 : decode cL_law 868 = .ok (.iaload, 1) := by decide +kernel
theorem dL_law_869 : decode cL_law 869 = .ok (.aload_n 0, 1) := by decide +kernel
theorem dL_law_870 : decode cL_law 870 = .ok (.iload_n 3, 1) := by decide +kernel
theorem dL_law_871 : decode cL_law 871 = .ok (.iconst 2, 1) := by decide +kernel
theorem dL_law_872 : decode cL_law 872 = .ok (.iadd, 1) := by decide +kernel
theorem dL_law_873 : decode cL_law 873 = .ok (.iaload, 1) := by decide +kernel
theorem dL_law_874 : decode cL_law 874 = .ok (.invokevirtual 105, 3) := by decide +kernel
theorem dL_law_877 : decode cL_law 877 = .ok (.if_icmp .eq 154, 3) := by decide +kernel
theorem dL_law_880 : decode cL_law 880 = .ok (.iconst 0, 1) := by decide +kernel
theorem dL_law_881 : decode cL_law 881 = .ok (.ireturn, 1) := by decide +kernel
theorem dL_law_882 : decode cL_law 882 = .ok (.aload_n 1, 1) := by decide +kernel
theorem dL_law_883 : decode cL_law 883 = .ok (.aload_n 0, 1) := by decide +kernel
theorem dL_law_884 : decode cL_law 884 = .ok (.iload_n 3, 1) := by decide +kernel
theorem dL_law_885 : decode cL_law 885 = .ok (.iconst 1, 1) := by decide +kernel
theorem dL_law_886 : decode cL_law 886 = .ok (.iadd, 1) := by decide +kernel
theorem dL_law_887 : decode cL_law 887 = .ok (.iaload, 1) := by decide +kernel
theorem dL_law_888 : decode cL_law 888 = .ok (.aload_n 0, 1) := by decide +kernel
theorem dL_law_889 : decode cL_law 889 = .ok (.iload_n 3, 1) := by decide +kernel
theorem dL_law_890 : decode cL_law 890 = .ok (.iconst 2, 1) := by decide +kernel
theorem dL_law_891 : decode cL_law 891 = .ok (.iadd, 1) := by decide +kernel
theorem dL_law_892 : decode cL_law 892 = .ok (.iaload, 1) := by decide +kernel
theorem dL_law_893 : decode cL_law 893 = .ok (.invokevirtual 106, 3) := by decide +kernel
theorem dL_law_896 : decode cL_law 896 = .ok (.aload_n 2, 1) := by decide +kernel
theorem dL_law_897 : decode cL_law 897 = .ok (.aload_n 0, 1) := by decide +kernel
theorem dL_law_898 : decode cL_law 898 = .ok (.iload_n 3, 1) := by decide +kernel
theorem dL_law_899 : decode cL_law 899 = .ok (.iconst 1, 1) := by decide +kernel
theorem dL_law_900 : decode cL_law 900 = .ok (.iadd, 1) := by decide +kernel
theorem dL_law_901 : decode cL_law 901 = .ok (.iaload, 1) := by decide +kernel
theorem dL_law_902 : decode cL_law 902 = .ok (.aload_n 0, 1) := by decide +kernel
theorem dL_law_903 : decode cL_law 903 = .ok (.iload_n 3, 1) := by decide +kernel
theorem dL_law_904 : decode cL_law 904 = .ok (.iconst 2, 1) := by decide +kernel
theorem dL_law_905 : decode cL_law 905 = .ok (.iadd, 1) := by decide +kernel
theorem dL_law_906 : decode cL_law 906 = .ok (.iaload, 1) := by decide +kernel
theorem dL_law_907 : decode cL_law 907 = .ok (.invokevirtual 109, 3) := by decide +kernel
theorem dL_law_910 : decode cL_law 910 = .ok (.if_icmp .eq 121, 3) := by decide +kernel
theorem dL_law_913 : decode cL_law 913 = .ok (.iconst 0, 1) := by decide +kernel
theorem dL_law_914 : decode cL_law 914 = .ok (.ireturn, 1) := by decide +kernel
theorem dL_law_915 : decode cL_law 915 = .ok (.aload_n 1, 1) := by decide +kernel
theorem dL_law_916 : decode cL_law 916 = .ok (.aload_n 0, 1) := by decide +kernel
theorem dL_law_917 : decode cL_law 917 = .ok (.iload_n 3, 1) := by decide +kernel
theorem dL_law_918 : decode cL_law 918 = .ok (.iconst 1, 1) := by decide +kernel
theorem dL_law_919 : decode cL_law 919 = .ok (.iadd, 1) := by decide +kernel
theorem dL_law_920 : decode cL_law 920 = .ok (.iaload, 1) := by decide +kernel
theorem dL_law_921 : decode cL_law 921 = .ok (.aload_n 0, 1) := by decide +kernel
theorem dL_law_922 : decode cL_law 922 = .ok (.iload_n 3, 1) := by decide +kernel
theorem dL_law_923 : decode cL_law 923 = .ok (.iconst 2, 1) := by decide +kernel
theorem dL_law_924 : decode cL_law 924 = .ok (.iadd, 1) := by decide +kernel
theorem dL_law_925 : decode cL_law 925 = .ok (.iaload, 1) := by decide +kernel
theorem dL_law_926 : decode cL_law 926 = .ok (.invokevirtual 110, 3) := by decide +kernel
theorem dL_law_929 : decode cL_law 929 = .ok (.aload_n 2, 1) := by decide +kernel
theorem dL_law_930 : decode cL_law 930 = .ok (.aload_n 0, 1) := by decide +kernel
theorem dL_law_931 : decode cL_law 931 = .ok (.iload_n 3, 1) := by decide +kernel
theorem dL_law_932 : decode cL_law 932 = .ok (.iconst 1, 1) := by decide +kernel
theorem dL_law_933 : decode cL_law 933 = .ok (.iadd, 1) := by decide +kernel
theorem dL_law_934 : decode cL_law 934 = .ok (.iaload, 1) := by decide +kernel
theorem dL_law_935 : decode cL_law 935 = .ok (.aload_n 0, 1) := by decide +kernel
theorem dL_law_936 : decode cL_law 936 = .ok (.iload_n 3, 1) := by decide +kernel
theorem dL_law_937 : decode cL_law 937 = .ok (.iconst 2, 1) := by decide +kernel
theorem dL_law_938 : decode cL_law 938 = .ok (.iadd, 1) := by decide +kernel
theorem dL_law_939 : decode cL_law 939 = .ok (.iaload, 1) := by decide +kernel
theorem dL_law_940 : decode cL_law 940 = .ok (.invokevirtual 113, 3) := by decide +kernel
theorem dL_law_943 : decode cL_law 943 = .ok (.if_icmp .eq 88, 3) := by decide +kernel
theorem dL_law_946 : decode cL_law 946 = .ok (.iconst 0, 1) := by decide +kernel
theorem dL_law_947 : decode cL_law 947 = .ok (.ireturn, 1) := by decide +kernel
theorem dL_law_948 : decode cL_law 948 = .ok (.aload_n 1, 1) := by decide +kernel
theorem dL_law_949 : decode cL_law 949 = .ok (.aload_n 0, 1) := by decide +kernel
theorem dL_law_950 : decode cL_law 950 = .ok (.iload_n 3, 1) := by decide +kernel
theorem dL_law_951 : decode cL_law 951 = .ok (.iconst 1, 1) := by decide +kernel
theorem dL_law_952 : decode cL_law 952 = .ok (.iadd, 1) := by decide +kernel
theorem dL_law_953 : decode cL_law 953 = .ok (.iaload, 1) := by decide +kernel
theorem dL_law_954 : decode cL_law 954 = .ok (.invokevirtual 114, 3) := by decide +kernel
theorem dL_law_957 : decode cL_law 957 = .ok (.aload_n 2, 1) := by decide +kernel
theorem dL_law_958 : decode cL_law 958 = .ok (.aload_n 0, 1) := by decide +kernel
theorem dL_law_959 : decode cL_law 959 = .ok (.iload_n 3, 1) := by decide +kernel
theorem dL_law_960 : decode cL_law 960 = .ok (.iconst 1, 1) := by decide +kernel
theorem dL_law_961 : decode cL_law 961 = .ok (.iadd, 1) := by decide +kernel
theorem dL_law_962 : decode cL_law 962 = .ok (.iaload, 1) := by decide +kernel
theorem dL_law_963 : decode cL_law 963 = .ok (.invokevirtual 117, 3) := by decide +kernel
theorem dL_law_966 : decode cL_law 966 = .ok (.if_icmp .eq 65, 3) := by decide +kernel
theorem dL_law_969 : decode cL_law 969 = .ok (.iconst 0, 1) := by decide +kernel
theorem dL_law_970 : decode cL_law 970 = .ok (.ireturn, 1) := by decide +kernel
theorem dL_law_971 : decode cL_law 971 = .ok (.aload_n 1, 1) := by decide +kernel
theorem dL_law_972 : decode cL_law 972 = .ok (.aload_n 0, 1) := by decide +kernel
theorem dL_law_973 : decode cL_law 973 = .ok (.iload_n 3, 1) := by decide +kernel
theorem dL_law_974 : decode cL_law 974 = .ok (.iconst 1, 1) := by decide +kernel
theorem dL_law_975 : decode cL_law 975 = .ok (.iadd, 1) := by decide +kernel
theorem dL_law_976 : decode cL_law 976 = .ok (.iaload, 1) := by decide +kernel
theorem dL_law_977 : decode cL_law 977 = .ok (.invokevirtual 118, 3) := by decide +kernel
theorem dL_law_980 : decode cL_law 980 = .ok (.aload_n 2, 1) := by decide +kernel
theorem dL_law_981 : decode cL_law 981 = .ok (.aload_n 0, 1) := by decide +kernel
theorem dL_law_982 : decode cL_law 982 = .ok (.iload_n 3, 1) := by decide +kernel
theorem dL_law_983 : decode cL_law 983 = .ok (.iconst 1, 1) := by decide +kernel
theorem dL_law_984 : decode cL_law 984 = .ok (.iadd, 1) := by decide +kernel
theorem dL_law_985 : decode cL_law 985 = .ok (.iaload, 1) := by decide +kernel
theorem dL_law_986 : decode cL_law 986 = .ok (.invokevirtual 121, 3) := by decide +kernel
theorem dL_law_989 : decode cL_law 989 = .ok (.if_icmp .eq 42, 3) := by decide +kernel
theorem dL_law_992 : decode cL_law 992 = .ok (.iconst 0, 1) := by decide +kernel
theorem dL_law_993 : decode cL_law 993 = .ok (.ireturn, 1) := by decide +kernel
theorem dL_law_994 : decode cL_law 994 = .ok (.aload_n 1, 1) := by decide +kernel
theorem dL_law_995 : decode cL_law 995 = .ok (.aload_n 0, 1) := by decide +kernel
theorem dL_law_996 : decode cL_law 996 = .ok (.iload_n 3, 1) := by decide +kernel
theorem dL_law_997 : decode cL_law 997 = .ok (.iconst 1, 1) := by decide +kernel
theorem dL_law_998 : decode cL_law 998 = .ok (.iadd, 1) := by decide +kernel
theorem dL_law_999 : decode cL_law 999 = .ok (.iaload, 1) := by decide +kernel
theorem dL_law_1000 : decode cL_law 1000 = .ok (.invokevirtual 122, 3) := by decide +kernel
theorem dL_law_1003 : decode cL_law 1003 = .ok (.aload_n 2, 1) := by decide +kernel
theorem dL_law_1004 : decode cL_law 1004 = .ok (.aload_n 0, 1) := by decide +kernel
theorem dL_law_1005 : decode cL_law 1005 = .ok (.iload_n 3, 1) := by decide +kernel
theorem dL_law_1006 : decode cL_law 1006 = .ok (.iconst 1, 1) := by decide +kernel
theorem dL_law_1007 : decode cL_law 1007 = .ok (.iadd, 1) := by decide +kernel
theorem dL_law_1008 : decode cL_law 1008 = .ok (.iaload, 1) := by decide +kernel
theorem dL_law_1009 : decode cL_law 1009 = .ok (.invokevirtual 125, 3) := by decide +kernel
theorem dL_law_1012 : decode cL_law 1012 = .ok (.if_icmp .eq 19, 3) := by decide +kernel
theorem dL_law_1015 : decode cL_law 1015 = .ok (.iconst 0, 1) := by decide +kernel
theorem dL_law_1016 : decode cL_law 1016 = .ok (.ireturn, 1) := by decide +kernel
theorem dL_law_1017 : decode cL_law 1017 = .ok (.aload_n 1, 1) := by decide +kernel
theorem dL_law_1018 : decode cL_law 1018 = .ok (.invokevirtual 126, 3) := by decide +kernel
theorem dL_law_1021 : decode cL_law 1021 = .ok (.aload_n 2, 1) := by decide +kernel
theorem dL_law_1022 : decode cL_law 1022 = .ok (.invokevirtual 130, 3) := by decide +kernel
theorem dL_law_1025 : decode cL_law 1025 = .ok (.lcmp, 1) := by decide +kernel
theorem dL_law_1026 : decode cL_law 1026 = .ok (.ifCond .eq 5, 3) := by decide +kernel
theorem dL_law_1029 : decode cL_law 1029 = .ok (.iconst 0, 1) := by decide +kernel
theorem dL_law_1030 : decode cL_law 1030 = .ok (.ireturn, 1) := by decide +kernel
theorem dL_law_1031 : decode cL_law 1031 = .ok (.iinc 3 4, 3) := by decide +kernel
theorem dL_law_1034 : decode cL_law 1034 = .ok (.goto (-1016), 3) := by decide +kernel
theorem dL_law_1037 : decode cL_law 1037 = .ok (.iconst 1, 1) := by decide +kernel
theorem dL_law_1038 : decode cL_law 1038 = .ok (.ireturn, 1) := by decide +kernel
end
section
/-! the store: cells by kind t and number r; ints I t r k, longs J t r k -/
abbrev MI : Type := Nat → Nat → Nat → Int32
abbrev MJ : Type := Nat → Nat → Nat → Int64
abbrev Geo : Type := (Nat → ClassId) × (Nat → Nat → Nat) × (Nat → Nat → Nat) × (Nat → Prop) × (Nat → ClassId) × (Nat → Nat)
abbrev gD (g : Geo) : va_G := (g.1, g.2.1)
abbrev gad (g : Geo) : Nat → Nat → Nat := g.2.2.1
abbrev gA (g : Geo) : Nat → Prop := g.2.2.2.1
abbrev gc (g : Geo) : Nat → ClassId := g.2.2.2.2.1
abbrev gs (g : Geo) : Nat → Nat := g.2.2.2.2.2
def gtys (g : Geo) : List (ClassId × FieldType) := [(gc g 0, .int), (gc g 1, .long), (gc g 2, .boolean), (gc g 3, .object "EvenStride$Runner"), (gc g 4, .object "EvenStride$Yard")]
def cel (g : Geo) (I : MI) (J : MJ) (t r : Nat) : va_E := match t with
  | 0 => .inr (0, [.ref (gad g 9 0), .ref (gad g 10 0), .ref (gad g 11 0), .long (J 0 r 3), .int (I 0 r 4), .int (I 0 r 5)])
  | 1 => .inr (1, [.ref (gad g 12 0), .int (I 1 r 1), .int (I 1 r 2), .int (I 1 r 3), .int (I 1 r 4)])
  | 2 => .inr (2, [.ref (gad g 13 r)])
  | 3 => .inr (3, [.ref (gad g 14 0), .int (I 3 r 1), .int (I 3 r 2), .int (I 3 r 3), .int (I 3 r 4), .int (I 3 r 5), .int (I 3 r 6)])
  | 4 => .inr (4, [.ref (gad g 15 r), .ref (gad g 16 r), .int (I 4 r 2), .int (I 4 r 3), .int (I 4 r 4), .int (I 4 r 5), .int (I 4 r 6), .int (I 4 r 7)])
  | 5 => .inr (5, [.ref (gad g 17 0), .ref (gad g 18 0), .int (I 5 r 2), .int (I 5 r 3), .int (I 5 r 4), .int (I 5 r 5), .int (I 5 r 6), va_rf (if I 5 r 7 = 0 then none else some (gad g 2 0))])
  | 6 => .inr (6, [.ref (gad g 19 r), .int (I 6 r 1), .int (I 6 r 2), .int (I 6 r 3), .int (I 6 r 4)])
  | 7 => .inr (7, [.ref (gad g 6 0), .ref (gad g 20 0), .ref (gad g 21 0), .ref (gad g 3 0), .ref (gad g 2 0), .ref (gad g 2 1), .ref (gad g 4 24), .ref (gad g 0 0), .ref (gad g 5 0), .ref (gad g 1 0), .ref (gad g 22 0), .ref (gad g 23 0), .ref (gad g 24 0), .int (I 7 r 13), .long (J 7 r 14)])
  | 8 => .inr (8, [.int (I 8 r 0), .long (J 8 r 1), .ref (gad g 25 0), .ref (gad g 26 0), .ref (gad g 27 0), .ref (gad g 28 0), .ref (gad g 29 0), .ref (gad g 30 0), .int (I 8 r 8), .int (I 8 r 9), .int (I 8 r 10), .int (I 8 r 11), .int (I 8 r 12), .int (I 8 r 13), .int (I 8 r 14), .ref (gad g 31 0), .ref (gad g 32 0), .ref (gad g 33 0), .ref (gad g 34 0), .int (I 8 r 19), .ref (gad g 35 0), .ref (gad g 36 0), .ref (gad g 37 0), .ref (gad g 38 0), .long (J 8 r 24)])
  | 9 => .inl (gc g 0, 8, .inl (I 9 r))
  | 10 => .inl (gc g 0, 8, .inl (I 10 r))
  | 11 => .inl (gc g 0, 3, .inl (I 11 r))
  | 12 => .inl (gc g 0, 6, .inl (I 12 r))
  | 13 => .inl (gc g 0, 6, .inl (I 13 r))
  | 14 => .inl (gc g 0, 200, .inl (I 14 r))
  | 15 => .inl (gc g 0, 3, .inl (I 15 r))
  | 16 => .inl (gc g 0, 12, .inl (I 16 r))
  | 17 => .inl (gc g 0, 10, .inl (I 17 r))
  | 18 => .inl (gc g 0, 10, .inl (I 18 r))
  | 19 => .inl (gc g 3, 8, .inr (.inr (.inr (.inr (fun k => some (gad g 4 (8 * r + k)))))))
  | 20 => .inl (gc g 4, 2, .inr (.inr (.inr (.inr (fun k => some (gad g 6 (1 + k)))))))
  | 21 => .inl (gc g 0, 3, .inl (I 21 r))
  | 22 => .inl (gc g 0, 8, .inl (I 22 r))
  | 23 => .inl (gc g 0, 8, .inl (I 23 r))
  | 24 => .inl (gc g 0, 8, .inl (I 24 r))
  | 25 => .inl (gc g 0, 171, .inl (I 25 r))
  | 26 => .inl (gc g 0, 342, .inl (I 26 r))
  | 27 => .inl (gc g 2, 2, .inl (I 27 r))
  | 28 => .inl (gc g 0, 3, .inl (I 28 r))
  | 29 => .inl (gc g 0, 12, .inl (I 29 r))
  | 30 => .inl (gc g 0, 200, .inl (I 30 r))
  | 31 => .inl (gc g 0, 24, .inl (I 31 r))
  | 32 => .inl (gc g 0, 20, .inl (I 32 r))
  | 33 => .inl (gc g 0, 6, .inl (I 33 r))
  | 34 => .inl (gc g 0, 12, .inl (I 34 r))
  | 35 => .inl (gc g 0, 12, .inl (I 35 r))
  | 36 => .inl (gc g 0, 8, .inl (I 36 r))
  | 37 => .inl (gc g 1, 8, .inr (.inl (J 37 r)))
  | _ => .inl (gc g 0, 8, .inl (I t r))
def cntL : List Nat := [1, 1, 2, 1, 25, 1, 3, 1, 1, 1, 1, 1, 1, 2, 1, 25, 25, 1, 1, 3, 1, 1, 1, 1, 1, 1, 1, 1, 1, 1, 1, 1, 1, 1, 1, 1, 1, 1, 1]
def cnt (t : Nat) : Nat := cntL.getD t 0
def keys : List (Nat × Nat) := (List.range 39).flatMap (fun t => (List.range (cnt t)).map (fun r => (t, r)))
theorem keys_nd : keys.Nodup := by decide +kernel
theorem keys_mem {t r : Nat} (h : r < cnt t) : (t, r) ∈ keys := by
  have ht : t < 39 := by
    rcases Nat.lt_or_ge t 39 with q | q
    · exact q
    · have e : cnt t = 0 := by
        unfold cnt
        rw [List.getD_eq_getElem?_getD, List.getElem?_eq_none (by simpa [cntL] using q)]
        rfl
      omega
  exact List.mem_flatMap.mpr ⟨t, List.mem_range.mpr ht, List.mem_map.mpr ⟨r, List.mem_range.mpr h, rfl⟩⟩
def wl (g : Geo) (I : MI) (J : MJ) : va_W := keys.map (fun q => (gad g q.1 q.2, cel g I J q.1 q.2))
theorem wl_at {t r : Nat} (h : r < cnt t) : ∃ k : Nat, keys[k]? = some (t, r) := List.mem_iff_getElem?.mp (keys_mem h)
theorem wl_get {g : Geo} {I : MI} {J : MJ} {t r k : Nat} (hk : keys[k]? = some (t, r)) : (wl g I J)[k]? = some (gad g t r, cel g I J t r) := by
  unfold wl
  rw [List.getElem?_map, hk]
  rfl
theorem keys_inj {i j : Nat} {q : Nat × Nat} (h1 : keys[i]? = some q) (h2 : keys[j]? = some q) : i = j := by
  have hi : i < keys.length := (List.getElem?_eq_some_iff.mp h1).1
  exact (List.getElem?_inj hi keys_nd).mp (h1.trans h2.symm)
theorem wl_set {g : Geo} {I I' : MI} {J J' : MJ} {t r k : Nat} {e : va_E} (hk : keys[k]? = some (t, r)) (he : cel g I' J' t r = e) (ho : ∀ t' r' : Nat, ¬ (t' = t ∧ r' = r) → cel g I' J' t' r' = cel g I J t' r') : (wl g I J).set k (gad g t r, e) = wl g I' J' := by
  apply List.ext_getElem?
  intro j
  by_cases hj : k = j
  · subst hj
    rw [wl_get hk, List.getElem?_set_self (by rw [wl, List.length_map]; exact (List.getElem?_eq_some_iff.mp hk).1), he]
  · rw [List.getElem?_set_ne hj]
    unfold wl
    rw [List.getElem?_map, List.getElem?_map]
    cases hq : keys[j]? with
    | none => rfl
    | some q =>
      have hne : ¬ (q.1 = t ∧ q.2 = r) := fun h => hj (keys_inj hk (by rw [hq]; exact congrArg some (Prod.ext h.1 h.2)))
      exact congrArg some (Prod.ext rfl (ho q.1 q.2 hne).symm)
theorem cel_congr {g : Geo} {I I' : MI} {J J' : MJ} (t r : Nat) (hI : I' t r = I t r) (hJ : J' t r = J t r) : cel g I' J' t r = cel g I J t r := by
  unfold cel
  split <;> simp only [hI, hJ]
def up3 (I : MI) (t r k : Nat) (v : Int32) : MI := fun t' r' k' => if t' = t ∧ r' = r ∧ k' = k then v else I t' r' k'
def up3L (J : MJ) (t r k : Nat) (v : Int64) : MJ := fun t' r' k' => if t' = t ∧ r' = r ∧ k' = k then v else J t' r' k'
def row3 (I : MI) (t r : Nat) (f : Nat → Int32) : MI := fun t' r' k' => if t' = t ∧ r' = r then f k' else I t' r' k'
theorem up3_o {I : MI} {t r k t' r' : Nat} {v : Int32} (h : ¬ (t' = t ∧ r' = r)) : up3 I t r k v t' r' = I t' r' := by
  funext k'
  exact if_neg (fun q => h ⟨q.1, q.2.1⟩)
theorem up3L_o {J : MJ} {t r k t' r' : Nat} {v : Int64} (h : ¬ (t' = t ∧ r' = r)) : up3L J t r k v t' r' = J t' r' := by
  funext k'
  exact if_neg (fun q => h ⟨q.1, q.2.1⟩)
theorem row3_o {I : MI} {t r t' r' : Nat} {f : Nat → Int32} (h : ¬ (t' = t ∧ r' = r)) : row3 I t r f t' r' = I t' r' := by
  funext k'
  exact if_neg h
theorem up3_r {I : MI} {t r k : Nat} {v : Int32} : up3 I t r k v t r = upd (I t r) k v := by
  funext j
  by_cases h : j = k <;> simp [up3, upd, h]
theorem up3L_r {J : MJ} {t r k : Nat} {v : Int64} : up3L J t r k v t r = vp_updL (J t r) k v := by
  funext j
  by_cases h : j = k <;> simp [up3L, vp_updL, h]
theorem row3_r {I : MI} {t r : Nat} {f : Nat → Int32} : row3 I t r f t r = f := by
  funext j
  simp [row3]
theorem wl_setI {g : Geo} {I : MI} {J : MJ} {t r k j : Nat} {v : Int32} {e : va_E} (hk : keys[k]? = some (t, r)) (he : cel g (up3 I t r j v) J t r = e) : (wl g I J).set k (gad g t r, e) = wl g (up3 I t r j v) J := wl_set hk he (fun t' r' h => cel_congr t' r' (up3_o h) rfl)
theorem wl_setJ {g : Geo} {I : MI} {J : MJ} {t r k j : Nat} {v : Int64} {e : va_E} (hk : keys[k]? = some (t, r)) (he : cel g I (up3L J t r j v) t r = e) : (wl g I J).set k (gad g t r, e) = wl g I (up3L J t r j v) := wl_set hk he (fun t' r' h => cel_congr t' r' rfl (up3L_o h))
theorem wl_setR {g : Geo} {I : MI} {J : MJ} {t r k : Nat} {f : Nat → Int32} {e : va_E} (hk : keys[k]? = some (t, r)) (he : cel g (row3 I t r f) J t r = e) : (wl g I J).set k (gad g t r, e) = wl g (row3 I t r f) J := wl_set hk he (fun t' r' h => cel_congr t' r' (row3_o h) rfl)
def GD (g : Geo) : Prop := (∀ q ∈ keys, ∀ q' ∈ keys, gad g q.1 q.2 = gad g q'.1 q'.2 → q = q') ∧ ∀ q ∈ keys, gA g (gad g q.1 q.2)
theorem GD.D {g : Geo} (h : GD g) (I : MI) (J : MJ) : va_D (gA g) (wl g I J) := by
  have key : ∀ (i : Nat) (x : Nat × va_E), (wl g I J)[i]? = some x → ∃ q : Nat × Nat, keys[i]? = some q ∧ x.1 = gad g q.1 q.2 := by
    intro i x hx
    unfold wl at hx
    rw [List.getElem?_map] at hx
    cases hq : keys[i]? with
    | none => rw [hq] at hx; cases hx
    | some q =>
      rw [hq] at hx
      exact ⟨q, rfl, (congrArg Prod.fst (Option.some.inj hx)).symm⟩
  refine ⟨fun i j x y hx hy e => ?_, fun k x hx => ?_⟩
  · obtain ⟨q, h1, h2⟩ := key i x hx
    obtain ⟨q', h3, h4⟩ := key j y hy
    have e2 : q = q' := h.1 q (List.mem_of_getElem? h1) q' (List.mem_of_getElem? h3) (by rw [← h2, ← h4]; exact e)
    subst e2
    exact keys_inj h1 h3
  · obtain ⟨q, h1, h2⟩ := key k x hx
    rw [h2]
    exact h.2 q (List.mem_of_getElem? h1)
def nestL : List (String × Nat × MethodName × String) := [("EvenStride$Yard", 21, ⟨"EvenStride$Runner", "<init>", "()V"⟩, "EvenStride"), ("EvenStride", 26, ⟨"EvenStride$RuleText", "<init>", "()V"⟩, "EvenStride"), ("EvenStride", 43, ⟨"EvenStride$Runner", "<init>", "()V"⟩, "EvenStride"), ("EvenStride", 50, ⟨"EvenStride$Field", "<init>", "()V"⟩, "EvenStride"), ("EvenStride", 57, ⟨"EvenStride$Stable", "<init>", "()V"⟩, "EvenStride"), ("EvenStride", 64, ⟨"EvenStride$Hulls", "<init>", "()V"⟩, "EvenStride"), ("EvenStride$Runner", 47, ⟨"EvenStride", "within", "(III)Z"⟩, "EvenStride"), ("EvenStride$RuleText", 46, ⟨"EvenStride", "isOf", "(II)Z"⟩, "EvenStride"), ("EvenStride$RuleText", 61, ⟨"EvenStride", "within", "(III)Z"⟩, "EvenStride"), ("EvenStride$Rule", 36, ⟨"EvenStride", "clamp", "(III)I"⟩, "EvenStride"), ("EvenStride$Runner", 76, ⟨"EvenStride", "clamp", "(III)I"⟩, "EvenStride"), ("EvenStride$Field", 32, ⟨"EvenStride", "clamp", "(III)I"⟩, "EvenStride"), ("EvenStride$Stable", 57, ⟨"EvenStride", "clamp", "(III)I"⟩, "EvenStride")]
def nestOf (q : String × Nat × MethodName × String) : Cond := .methodLinkNest q.1 q.2.1 q.2.2.1 q.2.2.2
theorem nest_in : ∀ q ∈ nestL, nestOf q ∈ lw_tbl := by decide +kernel
def wG : List Cond := lw_tbl.filter goodWord
theorem wG_in {w : Cond} (h : w ∈ lw_tbl) (hg : goodWord w = true) : w ∈ wG := List.mem_filter.mpr ⟨h, hg⟩
theorem wG_t {w : Cond} {i : Nat} (h : tables_1[i]? = some w) (hg : goodWord w = true) : w ∈ wG := wG_in (List.mem_append_right _ (List.mem_of_getElem? h)) hg
theorem wG_good {b : List Cond} (hb : ∀ w ∈ b, w ∈ wG) : GoodIn wG b := fun w h => ⟨hb w h, good_of_word (List.mem_filter.mp (hb w h)).2⟩
theorem wG_cons {y : MethodName} {cc : ByteArray} {n : Nat} {r : Option FieldType} (h : Cond.code y cc n r ∈ wG) : ∀ w ∈ (Cond.code y cc n r :: wG), w ∈ wG := fun w hw => (List.mem_cons.mp hw).elim (fun e => by rw [e]; exact h) id
def GK (g : Geo) (U : State) : Prop := va_K (gD g) vwCl (gtys g) U ∧ ∀ q ∈ nestL, va_Nw (nestOf q) U
def stC (k : Nat) : String := match k with
  | 0 => "EvenStride$Rule"
  | 1 => "EvenStride"
  | 2 => "EvenStride"
  | 3 => "EvenStride"
  | 4 => "EvenStride"
  | _ => "EvenStride"
def stN (k : Nat) : String := match k with
  | 0 => "AT_FIRST"
  | 1 => "SET_MOST"
  | 2 => "SET_LEAST"
  | 3 => "TUNE_MOST"
  | 4 => "KIND_TRACE"
  | _ => "KIND_ABOVE"
def stV (k j : Nat) : Int32 := (match k with
  | 0 => ([1, 1, 1, 1, 200, 200] : List Int32)
  | 1 => ([2, 9, 20, 20, 20, 200] : List Int32)
  | 2 => ([0, -9, -20, -20, -20, 0] : List Int32)
  | 3 => ([5, 50, 50] : List Int32)
  | 4 => ([1, 10, 100, 1000, 10000, 100000, 1000000] : List Int32)
  | _ => ([0, 0, 0, 2, 0, 0, 3] : List Int32)).getD j 0
def stL (k : Nat) : Nat := match k with
  | 0 => 6
  | 1 => 6
  | 2 => 6
  | 3 => 3
  | 4 => 7
  | _ => 7
def GZ (g : Geo) (U : State) (H : Heap) : Prop := ∀ k, k < 6 → va_Z (stC k) (stN k) "[I" (.ref (gs g k)) (gA g) U H ∧ va_T .int (gs g k) (stL k) (fun j => .int (stV k j)) (gA g) U H
def GS (g : Geo) (I : MI) (J : MJ) (U : State) : Prop := va_P (gD g) vwCl (wl g I J) U.heap ∧ GK g U ∧ GZ g U U.heap ∧ GD g
theorem GK.warm {g : Geo} {s U : State} (hW : s.WarmedH U.vm) (h : GK g s) : GK g U := ⟨va_K.moved hW.alike h.1, fun q hq => va_Nw.warmM hW (h.2 q hq)⟩
theorem GZ.moved {g : Geo} {u U : State} {H H1 : Heap} (hvm : u.vm.Alike U.vm) (hq : ∀ a : Nat, a < H.size → ¬ gA g a → H1[a]? = H[a]?) (h : GZ g u H) : GZ g U H1 := fun k hk => ⟨((h k hk).1.moved hvm).kept hq, ((h k hk).2.moved hvm).kept hq⟩
theorem GS.blind {g : Geo} {I : MI} {J : MJ} (av : List Value) : FrameBlind (va_Pc av (GS g I J)) := fun a U f mk q => ⟨q.1, q.2.1, ⟨va_K.moved (u := U) (U := U.calling f mk a) (Vm.Alike.refl U.vm) q.2.2.1.1, fun x hx => va_Nw.same rfl (u := U) (U := U.calling f mk a) rfl (q.2.2.1.2 x hx)⟩, GZ.moved (u := U) (U := U.calling f mk a) (Vm.Alike.refl U.vm) (fun _ _ _ => rfl) q.2.2.2.1, q.2.2.2.2⟩
def Qg (g : Geo) (post : Option Value → MI → MJ → Prop) : Array Value → State → Outcome → State → Prop := fun _ st oc t => (∃ (v : Option Value) (I' : MI) (J' : MJ), oc = .returned v ∧ post v I' J' ∧ GS g I' J' t) ∧ va_F (gA g) st t
def PI (q : Int32 → MI → MJ → Prop) : Option Value → MI → MJ → Prop := fun v I J => ∃ r : Int32, v = some (.int r) ∧ q r I J
def PL (q : Int64 → MI → MJ → Prop) : Option Value → MI → MJ → Prop := fun v I J => ∃ r : Int64, v = some (.long r) ∧ q r I J
def PV (q : MI → MJ → Prop) : Option Value → MI → MJ → Prop := fun v I J => v = none ∧ q I J
def Rm (fr lo : Nat) : Room := { frames := fr, cells := 0, slots := 0, locals := lo }
/-- a method's contract over the store -/
def Ct (g : Geo) (l : Launch) (y : MethodName) (cc : ByteArray) (nL : Nat) (ret : Option FieldType) (fr lo : Nat) (av : List Value) (I : MI) (J : MJ) (post : Option Value → MI → MJ → Prop) : Prop := Met l y (Cond.code y cc nL ret :: wG) (Rm fr lo) (va_Pc av (GS g I J)) (Qg g post) 0 0 (gA g)
def Cx (g : Geo) (p : Program) (s : State) (m : MethodId) (args : Array Value) (meth : Method) (c : Code) (cc : ByteArray) (nL : Nat) (own : String) (ret : Option FieldType) : Prop := p.tables.exec = Jvm.exec ∧ c.code = cc ∧ c.maxLocals = nL ∧ s.vm.findClass own = some m.cls ∧ (∀ w ∈ wG, w.before args s = true) ∧ GK g s ∧ GZ g s s.heap ∧ GD g ∧ meth.locks = false ∧ meth.sig.returnType = ret
def Wf (p : Program) (l : Launch) (e : Env) (R : Room) (s : State) (m : MethodId) (args : Array Value) (below : List Frame) (meth : Method) (c : Code) (Q : State → Prop) (g : Geo) (I : MI) (J : MJ) (fr : JFrame) : Prop := ∀ (H : Heap) (locs : List Loc), va_P (gD g) vwCl (wl g I J) H → va_S (gA g) s.heap H locs → W p l e R s m args below meth c H locs 0 0 Q fr
theorem Ct.of {g : Geo} {l : Launch} {y : MethodName} {cc : ByteArray} {nL : Nat} {ret : Option FieldType} {fr lo : Nat} {av : List Value} {I : MI} {J : MJ} {post : Option Value → MI → MJ → Prop} (hy : plainName y.cls = true)
    (body : ∀ (p : Program) (e : Env) (s : State) (m : MethodId) (below : List Frame) (meth : Method) (c : Code), Cx g p s m av.toArray meth c cc nL y.cls ret → Wf p l e (Rm fr lo) s m av.toArray below meth c (MQ below (Qg g post) av.toArray s 0 0 (gA g)) g I J (entryFrame m av.toArray nL)) : Ct g l y cc nL ret fr lo av I J post := by
  refine Met.ofW (cc := cc) (maxL := nL) (ret := ret) hy rfl ?_
  intro p e s m args below meth c s₁ B hml hv
  obtain ⟨rfl, hP, hK, hZ, hD⟩ := hv
  have hts := atoms_spec (ws := Cond.code y cc nL ret :: wG) B.pre
  exact body p e s m below meth c ⟨B.exec, B.bytes, hml, findClass_of_methodNamed B.named, fun w h => hts w (List.mem_cons_of_mem _ h), hK, hZ, hD, B.notSynchronized, B.returns⟩ s.heap [] hP va_S.rf
section FR
variable {p : Program} {l : Launch} {e : Env} {R : Room} {s : State} {m : MethodId} {args : Array Value} {below : List Frame} {meth : Method} {c : Code} {Q : State → Prop} {g : Geo} {cc : ByteArray} {nL0 : Nat} {own : String} {ret : Option FieldType} {pc : Nat} {ls : Array Slot} {rest : List Value} {I : MI} {J : MJ}
theorem f_iconst (C : Cx g p s m args meth c cc nL0 own ret) {n : Int} {v : Int32} (hdg : decode cc pc = .ok (.iconst n, 1)) (hv : Int32.ofInt n = v) (k : Wf p l e R s m args below meth c Q g I J (F0 m (pc + 1) ls (.int v :: rest))) : Wf p l e R s m args below meth c Q g I J (F0 m pc ls (rest)) := fun H locs hP hS => lv_iconst C.1 C.2.1 hdg hv (k H locs hP hS)
theorem f_iload_n (C : Cx g p s m args meth c cc nL0 own ret) {k : Fin 4} {i : Nat} {x : Int32} (hdg : decode cc pc = .ok (.iload_n k, 1)) (hi : (k : Nat) = i) (hl : ls[i]? = some (.val (.int x))) (k : Wf p l e R s m args below meth c Q g I J (F0 m (pc + 1) ls (.int x :: rest))) : Wf p l e R s m args below meth c Q g I J (F0 m pc ls (rest)) := fun H locs hP hS => lv_iload_n C.1 C.2.1 hdg hi hl (k H locs hP hS)
theorem f_iload (C : Cx g p s m args meth c cc nL0 own ret) {i : Nat} {x : Int32} (hdg : decode cc pc = .ok (.iload i, 2)) (hl : ls[i]? = some (.val (.int x))) (k : Wf p l e R s m args below meth c Q g I J (F0 m (pc + 2) ls (.int x :: rest))) : Wf p l e R s m args below meth c Q g I J (F0 m pc ls (rest)) := fun H locs hP hS => lv_iload C.1 C.2.1 hdg hl (k H locs hP hS)
theorem f_istore (C : Cx g p s m args meth c cc nL0 own ret) {i nL : Nat} {x : Int32} {lv lv' : List (Nat × Value)} (hdg : decode cc pc = .ok (.istore i, 2)) (h : lv_has ls nL lv) (hn : i < nL) (hl : (i, Value.int x) :: lv.filter (fun q => !(q.1 == i) && !(q.1 + 1 == i && q.2.category == 2)) = lv') (kk : ∀ ls' : Array Slot, lv_has ls' nL lv' → Wf p l e R s m args below meth c Q g I J (F0 m (pc + 2) ls' rest)) : Wf p l e R s m args below meth c Q g I J (F0 m pc ls (.int x :: rest)) := fun H locs hP hS => lv_istore C.1 C.2.1 hdg h hn hl (fun ls' h' => kk ls' h' H locs hP hS)
theorem f_istore_n (C : Cx g p s m args meth c cc nL0 own ret) {k : Fin 4} {i nL : Nat} {x : Int32} {lv lv' : List (Nat × Value)} (hdg : decode cc pc = .ok (.istore_n k, 1)) (hi : (k : Nat) = i) (h : lv_has ls nL lv) (hn : i < nL) (hl : (i, Value.int x) :: lv.filter (fun q => !(q.1 == i) && !(q.1 + 1 == i && q.2.category == 2)) = lv') (kk : ∀ ls' : Array Slot, lv_has ls' nL lv' → Wf p l e R s m args below meth c Q g I J (F0 m (pc + 1) ls' rest)) : Wf p l e R s m args below meth c Q g I J (F0 m pc ls (.int x :: rest)) := fun H locs hP hS => lv_istore_n C.1 C.2.1 hdg hi h hn hl (fun ls' h' => kk ls' h' H locs hP hS)
theorem f_lstore_n (C : Cx g p s m args meth c cc nL0 own ret) {k : Fin 4} {i nL : Nat} {x : Int64} {lv lv' : List (Nat × Value)} (hdg : decode cc pc = .ok (.lstore_n k, 1)) (hi : (k : Nat) = i) (h : lv_has ls nL lv) (hn : i + 1 < nL) (hl : (i, Value.long x) :: lv.filter (fun q => !(q.1 == i) && (!(q.1 == i + 1) && !(q.1 + 1 == i && q.2.category == 2))) = lv') (kk : ∀ ls' : Array Slot, lv_has ls' nL lv' → Wf p l e R s m args below meth c Q g I J (F0 m (pc + 1) ls' rest)) : Wf p l e R s m args below meth c Q g I J (F0 m pc ls (.long x :: rest)) := fun H locs hP hS => lv_lstore_n C.1 C.2.1 hdg hi h hn hl (fun ls' h' => kk ls' h' H locs hP hS)
theorem f_lstore (C : Cx g p s m args meth c cc nL0 own ret) {i nL : Nat} {x : Int64} {lv lv' : List (Nat × Value)} (hdg : decode cc pc = .ok (.lstore i, 2)) (h : lv_has ls nL lv) (hn : i + 1 < nL) (hl : (i, Value.long x) :: lv.filter (fun q => !(q.1 == i) && (!(q.1 == i + 1) && !(q.1 + 1 == i && q.2.category == 2))) = lv') (kk : ∀ ls' : Array Slot, lv_has ls' nL lv' → Wf p l e R s m args below meth c Q g I J (F0 m (pc + 2) ls' rest)) : Wf p l e R s m args below meth c Q g I J (F0 m pc ls (.long x :: rest)) := fun H locs hP hS => lv_lstore C.1 C.2.1 hdg h hn hl (fun ls' h' => kk ls' h' H locs hP hS)
theorem f_lload (C : Cx g p s m args meth c cc nL0 own ret) {i : Nat} {x : Int64} (hdg : decode cc pc = .ok (.lload i, 2)) (hl : ls[i]? = some (.val (.long x))) (k : Wf p l e R s m args below meth c Q g I J (F0 m (pc + 2) ls (.long x :: rest))) : Wf p l e R s m args below meth c Q g I J (F0 m pc ls (rest)) := fun H locs hP hS => lv_lload C.1 C.2.1 hdg hl (k H locs hP hS)
theorem f_lload_n (C : Cx g p s m args meth c cc nL0 own ret) {k : Fin 4} {i : Nat} {x : Int64} (hdg : decode cc pc = .ok (.lload_n k, 1)) (hi : (k : Nat) = i) (hl : ls[i]? = some (.val (.long x))) (k : Wf p l e R s m args below meth c Q g I J (F0 m (pc + 1) ls (.long x :: rest))) : Wf p l e R s m args below meth c Q g I J (F0 m pc ls (rest)) := fun H locs hP hS => lv_lload_n C.1 C.2.1 hdg hi hl (k H locs hP hS)
theorem f_aload_n (C : Cx g p s m args meth c cc nL0 own ret) {k : Fin 4} {i : Nat} {x : Nat} (hdg : decode cc pc = .ok (.aload_n k, 1)) (hi : (k : Nat) = i) (hl : ls[i]? = some (.val (.ref x))) (k : Wf p l e R s m args below meth c Q g I J (F0 m (pc + 1) ls (.ref x :: rest))) : Wf p l e R s m args below meth c Q g I J (F0 m pc ls (rest)) := fun H locs hP hS => lv_aload_n C.1 C.2.1 hdg hi hl (k H locs hP hS)
theorem f_aload (C : Cx g p s m args meth c cc nL0 own ret) {i : Nat} {x : Nat} (hdg : decode cc pc = .ok (.aload i, 2)) (hl : ls[i]? = some (.val (.ref x))) (k : Wf p l e R s m args below meth c Q g I J (F0 m (pc + 2) ls (.ref x :: rest))) : Wf p l e R s m args below meth c Q g I J (F0 m pc ls (rest)) := fun H locs hP hS => lv_aload C.1 C.2.1 hdg hl (k H locs hP hS)
theorem f_astore (C : Cx g p s m args meth c cc nL0 own ret) {i nL : Nat} {x : Nat} {lv lv' : List (Nat × Value)} (hdg : decode cc pc = .ok (.astore i, 2)) (h : lv_has ls nL lv) (hn : i < nL) (hl : (i, Value.ref x) :: lv.filter (fun q => !(q.1 == i) && !(q.1 + 1 == i && q.2.category == 2)) = lv') (kk : ∀ ls' : Array Slot, lv_has ls' nL lv' → Wf p l e R s m args below meth c Q g I J (F0 m (pc + 2) ls' rest)) : Wf p l e R s m args below meth c Q g I J (F0 m pc ls (.ref x :: rest)) := fun H locs hP hS => lv_astore C.1 C.2.1 hdg h hn hl (fun ls' h' => kk ls' h' H locs hP hS)
theorem f_astore_n (C : Cx g p s m args meth c cc nL0 own ret) {k : Fin 4} {i nL : Nat} {x : Nat} {lv lv' : List (Nat × Value)} (hdg : decode cc pc = .ok (.astore_n k, 1)) (hi : (k : Nat) = i) (h : lv_has ls nL lv) (hn : i < nL) (hl : (i, Value.ref x) :: lv.filter (fun q => !(q.1 == i) && !(q.1 + 1 == i && q.2.category == 2)) = lv') (kk : ∀ ls' : Array Slot, lv_has ls' nL lv' → Wf p l e R s m args below meth c Q g I J (F0 m (pc + 1) ls' rest)) : Wf p l e R s m args below meth c Q g I J (F0 m pc ls (.ref x :: rest)) := fun H locs hP hS => lv_astore_n C.1 C.2.1 hdg hi h hn hl (fun ls' h' => kk ls' h' H locs hP hS)
theorem f_iinc (C : Cx g p s m args meth c cc nL0 own ret) {i nL k : Nat} {n : Int} {x v : Int32} {lv lv' : List (Nat × Value)} (hdg : decode cc pc = .ok (.iinc i n, 3)) (h : lv_has ls nL lv) (hk : lv[k]? = some (i, .int x)) (hv : x + Int32.ofInt n = v) (hn : i < nL) (hl : (i, Value.int v) :: lv.filter (fun q => !(q.1 == i) && !(q.1 + 1 == i && q.2.category == 2)) = lv') (kk : ∀ ls' : Array Slot, lv_has ls' nL lv' → Wf p l e R s m args below meth c Q g I J (F0 m (pc + 3) ls' rest)) : Wf p l e R s m args below meth c Q g I J (F0 m pc ls rest) := fun H locs hP hS => lv_iinc C.1 C.2.1 hdg h hk hv hn hl (fun ls' h' => kk ls' h' H locs hP hS)
theorem f_dup (C : Cx g p s m args meth c cc nL0 own ret) {va : Value} (hdg : decode cc pc = .ok (.dup, 1)) (hva : va.category = 1) (k : Wf p l e R s m args below meth c Q g I J (F0 m (pc + 1) ls (va :: va :: rest))) : Wf p l e R s m args below meth c Q g I J (F0 m pc ls (va :: rest)) := fun H locs hP hS => lv_dup C.1 C.2.1 hdg hva (k H locs hP hS)
theorem f_dup2_11 (C : Cx g p s m args meth c cc nL0 own ret) {va vb : Value} (hdg : decode cc pc = .ok (.dup2, 1)) (hva : va.category = 1) (hvb : vb.category = 1) (k : Wf p l e R s m args below meth c Q g I J (F0 m (pc + 1) ls (va :: vb :: va :: vb :: rest))) : Wf p l e R s m args below meth c Q g I J (F0 m pc ls (va :: vb :: rest)) := fun H locs hP hS => lv_dup2_11 C.1 C.2.1 hdg hva hvb (k H locs hP hS)
theorem f_pop (C : Cx g p s m args meth c cc nL0 own ret) {va : Value} (hdg : decode cc pc = .ok (.pop, 1)) (hva : va.category = 1) (k : Wf p l e R s m args below meth c Q g I J (F0 m (pc + 1) ls (rest))) : Wf p l e R s m args below meth c Q g I J (F0 m pc ls (va :: rest)) := fun H locs hP hS => lv_pop C.1 C.2.1 hdg hva (k H locs hP hS)
theorem f_iadd (C : Cx g p s m args meth c cc nL0 own ret) {x y : Int32} (hdg : decode cc pc = .ok (.iadd, 1)) (k : Wf p l e R s m args below meth c Q g I J (F0 m (pc + 1) ls (.int (x + y) :: rest))) : Wf p l e R s m args below meth c Q g I J (F0 m pc ls (.int y :: .int x :: rest)) := fun H locs hP hS => lv_iadd C.1 C.2.1 hdg (k H locs hP hS)
theorem f_isub (C : Cx g p s m args meth c cc nL0 own ret) {x y : Int32} (hdg : decode cc pc = .ok (.isub, 1)) (k : Wf p l e R s m args below meth c Q g I J (F0 m (pc + 1) ls (.int (x - y) :: rest))) : Wf p l e R s m args below meth c Q g I J (F0 m pc ls (.int y :: .int x :: rest)) := fun H locs hP hS => lv_isub C.1 C.2.1 hdg (k H locs hP hS)
theorem f_imul (C : Cx g p s m args meth c cc nL0 own ret) {x y : Int32} (hdg : decode cc pc = .ok (.imul, 1)) (k : Wf p l e R s m args below meth c Q g I J (F0 m (pc + 1) ls (.int (x * y) :: rest))) : Wf p l e R s m args below meth c Q g I J (F0 m pc ls (.int y :: .int x :: rest)) := fun H locs hP hS => lv_imul C.1 C.2.1 hdg (k H locs hP hS)
theorem f_idiv (C : Cx g p s m args meth c cc nL0 own ret) {x y : Int32} (hdg : decode cc pc = .ok (.idiv, 1)) (hne : ¬ y = 0) (k : Wf p l e R s m args below meth c Q g I J (F0 m (pc + 1) ls (.int (x / y) :: rest))) : Wf p l e R s m args below meth c Q g I J (F0 m pc ls (.int y :: .int x :: rest)) := fun H locs hP hS => lv_idiv C.1 C.2.1 hdg hne (k H locs hP hS)
theorem f_irem (C : Cx g p s m args meth c cc nL0 own ret) {x y : Int32} (hdg : decode cc pc = .ok (.irem, 1)) (hne : ¬ y = 0) (k : Wf p l e R s m args below meth c Q g I J (F0 m (pc + 1) ls (.int (x - x / y * y) :: rest))) : Wf p l e R s m args below meth c Q g I J (F0 m pc ls (.int y :: .int x :: rest)) := fun H locs hP hS => lv_irem C.1 C.2.1 hdg hne (k H locs hP hS)
theorem f_ineg (C : Cx g p s m args meth c cc nL0 own ret) {x : Int32} (hdg : decode cc pc = .ok (.ineg, 1)) (k : Wf p l e R s m args below meth c Q g I J (F0 m (pc + 1) ls (.int (-x) :: rest))) : Wf p l e R s m args below meth c Q g I J (F0 m pc ls (.int x :: rest)) := fun H locs hP hS => lv_ineg C.1 C.2.1 hdg (k H locs hP hS)
theorem f_iand (C : Cx g p s m args meth c cc nL0 own ret) {x y : Int32} (hdg : decode cc pc = .ok (.iand, 1)) (k : Wf p l e R s m args below meth c Q g I J (F0 m (pc + 1) ls (.int (x &&& y) :: rest))) : Wf p l e R s m args below meth c Q g I J (F0 m pc ls (.int y :: .int x :: rest)) := fun H locs hP hS => lv_iand C.1 C.2.1 hdg (k H locs hP hS)
theorem f_ior (C : Cx g p s m args meth c cc nL0 own ret) {x y : Int32} (hdg : decode cc pc = .ok (.ior, 1)) (k : Wf p l e R s m args below meth c Q g I J (F0 m (pc + 1) ls (.int (x ||| y) :: rest))) : Wf p l e R s m args below meth c Q g I J (F0 m pc ls (.int y :: .int x :: rest)) := fun H locs hP hS => lv_ior C.1 C.2.1 hdg (k H locs hP hS)
theorem f_ixor (C : Cx g p s m args meth c cc nL0 own ret) {x y : Int32} (hdg : decode cc pc = .ok (.ixor, 1)) (k : Wf p l e R s m args below meth c Q g I J (F0 m (pc + 1) ls (.int (x ^^^ y) :: rest))) : Wf p l e R s m args below meth c Q g I J (F0 m pc ls (.int y :: .int x :: rest)) := fun H locs hP hS => lv_ixor C.1 C.2.1 hdg (k H locs hP hS)
theorem f_ishl (C : Cx g p s m args meth c cc nL0 own ret) {x y : Int32} (hdg : decode cc pc = .ok (.ishl, 1)) (k : Wf p l e R s m args below meth c Q g I J (F0 m (pc + 1) ls (.int (x <<< (y &&& 31)) :: rest))) : Wf p l e R s m args below meth c Q g I J (F0 m pc ls (.int y :: .int x :: rest)) := fun H locs hP hS => lv_ishl C.1 C.2.1 hdg (k H locs hP hS)
theorem f_ishr (C : Cx g p s m args meth c cc nL0 own ret) {x y : Int32} (hdg : decode cc pc = .ok (.ishr, 1)) (k : Wf p l e R s m args below meth c Q g I J (F0 m (pc + 1) ls (.int (x >>> (y &&& 31)) :: rest))) : Wf p l e R s m args below meth c Q g I J (F0 m pc ls (.int y :: .int x :: rest)) := fun H locs hP hS => lv_ishr C.1 C.2.1 hdg (k H locs hP hS)
theorem f_iushr (C : Cx g p s m args meth c cc nL0 own ret) {x y v : Int32} (hdg : decode cc pc = .ok (.iushr, 1)) (hv : (x.toUInt32 >>> (y.toUInt32 &&& Int32.toUInt32 31)).toInt32 = v) (k : Wf p l e R s m args below meth c Q g I J (F0 m (pc + 1) ls (.int v :: rest))) : Wf p l e R s m args below meth c Q g I J (F0 m pc ls (.int y :: .int x :: rest)) := fun H locs hP hS => lv_iushr C.1 C.2.1 hdg hv (k H locs hP hS)
theorem f_ladd (C : Cx g p s m args meth c cc nL0 own ret) {x y : Int64} (hdg : decode cc pc = .ok (.ladd, 1)) (k : Wf p l e R s m args below meth c Q g I J (F0 m (pc + 1) ls (.long (x + y) :: rest))) : Wf p l e R s m args below meth c Q g I J (F0 m pc ls (.long y :: .long x :: rest)) := fun H locs hP hS => lv_ladd C.1 C.2.1 hdg (k H locs hP hS)
theorem f_lsub (C : Cx g p s m args meth c cc nL0 own ret) {x y : Int64} (hdg : decode cc pc = .ok (.lsub, 1)) (k : Wf p l e R s m args below meth c Q g I J (F0 m (pc + 1) ls (.long (x - y) :: rest))) : Wf p l e R s m args below meth c Q g I J (F0 m pc ls (.long y :: .long x :: rest)) := fun H locs hP hS => lv_lsub C.1 C.2.1 hdg (k H locs hP hS)
theorem f_lmul (C : Cx g p s m args meth c cc nL0 own ret) {x y : Int64} (hdg : decode cc pc = .ok (.lmul, 1)) (k : Wf p l e R s m args below meth c Q g I J (F0 m (pc + 1) ls (.long (x * y) :: rest))) : Wf p l e R s m args below meth c Q g I J (F0 m pc ls (.long y :: .long x :: rest)) := fun H locs hP hS => lv_lmul C.1 C.2.1 hdg (k H locs hP hS)
theorem f_land (C : Cx g p s m args meth c cc nL0 own ret) {x y : Int64} (hdg : decode cc pc = .ok (.land, 1)) (k : Wf p l e R s m args below meth c Q g I J (F0 m (pc + 1) ls (.long (x &&& y) :: rest))) : Wf p l e R s m args below meth c Q g I J (F0 m pc ls (.long y :: .long x :: rest)) := fun H locs hP hS => lv_land C.1 C.2.1 hdg (k H locs hP hS)
theorem f_lor (C : Cx g p s m args meth c cc nL0 own ret) {x y : Int64} (hdg : decode cc pc = .ok (.lor, 1)) (k : Wf p l e R s m args below meth c Q g I J (F0 m (pc + 1) ls (.long (x ||| y) :: rest))) : Wf p l e R s m args below meth c Q g I J (F0 m pc ls (.long y :: .long x :: rest)) := fun H locs hP hS => lv_lor C.1 C.2.1 hdg (k H locs hP hS)
theorem f_lshl (C : Cx g p s m args meth c cc nL0 own ret) {x v : Int64} {y : Int32} (hdg : decode cc pc = .ok (.lshl, 1)) (hv : x <<< (y.toInt64 &&& 63) = v) (k : Wf p l e R s m args below meth c Q g I J (F0 m (pc + 1) ls (.long v :: rest))) : Wf p l e R s m args below meth c Q g I J (F0 m pc ls (.int y :: .long x :: rest)) := fun H locs hP hS => lv_lshl C.1 C.2.1 hdg hv (k H locs hP hS)
theorem f_lshr (C : Cx g p s m args meth c cc nL0 own ret) {x v : Int64} {y : Int32} (hdg : decode cc pc = .ok (.lshr, 1)) (hv : x >>> (y.toInt64 &&& 63) = v) (k : Wf p l e R s m args below meth c Q g I J (F0 m (pc + 1) ls (.long v :: rest))) : Wf p l e R s m args below meth c Q g I J (F0 m pc ls (.int y :: .long x :: rest)) := fun H locs hP hS => lv_lshr C.1 C.2.1 hdg hv (k H locs hP hS)
theorem f_lushr (C : Cx g p s m args meth c cc nL0 own ret) {x v : Int64} {y : Int32} (hdg : decode cc pc = .ok (.lushr, 1)) (hv : (x.toUInt64 >>> (y.toInt64.toUInt64 &&& Int64.toUInt64 63)).toInt64 = v) (k : Wf p l e R s m args below meth c Q g I J (F0 m (pc + 1) ls (.long v :: rest))) : Wf p l e R s m args below meth c Q g I J (F0 m pc ls (.int y :: .long x :: rest)) := fun H locs hP hS => lv_lushr C.1 C.2.1 hdg hv (k H locs hP hS)
theorem f_lneg (C : Cx g p s m args meth c cc nL0 own ret) {x : Int64} (hdg : decode cc pc = .ok (.lneg, 1)) (k : Wf p l e R s m args below meth c Q g I J (F0 m (pc + 1) ls (.long (-x) :: rest))) : Wf p l e R s m args below meth c Q g I J (F0 m pc ls (.long x :: rest)) := fun H locs hP hS => lv_lneg C.1 C.2.1 hdg (k H locs hP hS)
theorem f_i2l (C : Cx g p s m args meth c cc nL0 own ret) {x : Int32} {v : Int64} (hdg : decode cc pc = .ok (.i2l, 1)) (hv : x.toInt64 = v) (k : Wf p l e R s m args below meth c Q g I J (F0 m (pc + 1) ls (.long v :: rest))) : Wf p l e R s m args below meth c Q g I J (F0 m pc ls (.int x :: rest)) := fun H locs hP hS => lv_i2l C.1 C.2.1 hdg hv (k H locs hP hS)
theorem f_l2i (C : Cx g p s m args meth c cc nL0 own ret) {x : Int64} {v : Int32} (hdg : decode cc pc = .ok (.l2i, 1)) (hv : x.toInt32 = v) (k : Wf p l e R s m args below meth c Q g I J (F0 m (pc + 1) ls (.int v :: rest))) : Wf p l e R s m args below meth c Q g I J (F0 m pc ls (.long x :: rest)) := fun H locs hP hS => lv_l2i C.1 C.2.1 hdg hv (k H locs hP hS)
theorem f_lcmp (C : Cx g p s m args meth c cc nL0 own ret) {x y : Int64} (hdg : decode cc pc = .ok (.lcmp, 1)) (k : Wf p l e R s m args below meth c Q g I J (F0 m (pc + 1) ls (.int (lg_cmp x y) :: rest))) : Wf p l e R s m args below meth c Q g I J (F0 m pc ls (.long y :: .long x :: rest)) := fun H locs hP hS => W.lcmp C.1 C.2.1 hdg (k H locs hP hS)
theorem f_goto (C : Cx g p s m args meth c cc nL0 own ret) {off : Int} {tgt : Nat} (hdg : decode cc pc = .ok (.goto off, 3)) (ht : (pc : Int) + off = (tgt : Int)) (k : Wf p l e R s m args below meth c Q g I J (F0 m tgt ls rest)) : Wf p l e R s m args below meth c Q g I J (F0 m pc ls rest) := fun H locs hP hS => lv_goto C.1 C.2.1 hdg ht (k H locs hP hS)
theorem f_tableIn (C : Cx g p s m args meth c cc nL0 own ret) {dflt lo hi : Int} {offs : Array Int} {len : Nat} {x : Int32} {off : Int} {tgt : Nat} (hdg : decode cc pc = .ok (.tableswitch dflt lo hi offs, len)) (h1 : ¬ x.toInt < lo) (h2 : ¬ hi < x.toInt) (ho : offs[(x.toInt - lo).toNat]? = some off) (ht : (pc : Int) + off = (tgt : Int)) (k : Wf p l e R s m args below meth c Q g I J (F0 m tgt ls rest)) : Wf p l e R s m args below meth c Q g I J (F0 m pc ls (.int x :: rest)) := fun H locs hP hS => lv_tableIn C.1 C.2.1 hdg h1 h2 ho ht (k H locs hP hS)
theorem f_tableOut (C : Cx g p s m args meth c cc nL0 own ret) {dflt lo hi : Int} {offs : Array Int} {len : Nat} {x : Int32} {tgt : Nat} (hdg : decode cc pc = .ok (.tableswitch dflt lo hi offs, len)) (h : x.toInt < lo ∨ hi < x.toInt) (ht : (pc : Int) + dflt = (tgt : Int)) (k : Wf p l e R s m args below meth c Q g I J (F0 m tgt ls rest)) : Wf p l e R s m args below meth c Q g I J (F0 m pc ls (.int x :: rest)) := fun H locs hP hS => lv_tableOut C.1 C.2.1 hdg h ht (k H locs hP hS)
theorem f_lookup (C : Cx g p s m args meth c cc nL0 own ret) {dflt : Int} {ps : Array (Int × Int)} {len : Nat} {x : Int32} {off : Int} {tgt : Nat} (hdg : decode cc pc = .ok (.lookupswitch dflt ps, len)) (hp : (ps.toList.zip (ps.toList.drop 1)).all (fun (a, next) => a.1 < next.1) = true) (ho : Op.lookupswitch.offset ps.toList dflt x.toInt = off) (ht : (pc : Int) + off = (tgt : Int)) (k : Wf p l e R s m args below meth c Q g I J (F0 m tgt ls rest)) : Wf p l e R s m args below meth c Q g I J (F0 m pc ls (.int x :: rest)) := fun H locs hP hS => lv_lookup C.1 C.2.1 hdg hp ho ht (k H locs hP hS)
theorem f_bipush (C : Cx g p s m args meth c cc nL0 own ret) {n : Int} {v : Int32} (hdg : decode cc pc = .ok (.bipush n, 2)) (hv : (Int8.ofInt n).toInt32 = v) (k : Wf p l e R s m args below meth c Q g I J (F0 m (pc + 2) ls (.int v :: rest))) : Wf p l e R s m args below meth c Q g I J (F0 m pc ls (rest)) := fun H locs hP hS => lv_bipush C.1 C.2.1 hdg hv (k H locs hP hS)
theorem f_sipush (C : Cx g p s m args meth c cc nL0 own ret) {n : Int} {v : Int32} (hdg : decode cc pc = .ok (.sipush n, 3)) (hv : (Int16.ofInt n).toInt32 = v) (k : Wf p l e R s m args below meth c Q g I J (F0 m (pc + 3) ls (.int v :: rest))) : Wf p l e R s m args below meth c Q g I J (F0 m pc ls (rest)) := fun H locs hP hS => lv_sipush C.1 C.2.1 hdg hv (k H locs hP hS)
theorem f_ldc (C : Cx g p s m args meth c cc nL0 own ret) {index : Nat} {v : Int32} (hconst : Jvm.Cond.constant own index v ∈ wG) (hdg : decode cc pc = .ok (.ldc index, 2)) (k : Wf p l e R s m args below meth c Q g I J (F0 m (pc + 2) ls (.int v :: rest))) : Wf p l e R s m args below meth c Q g I J (F0 m pc ls rest) := fun H locs hP hS => lv_ldc C.1 C.2.1 C.2.2.2.1 (C.2.2.2.2.1 _ hconst) hdg (k H locs hP hS)
theorem f_ldcw (C : Cx g p s m args meth c cc nL0 own ret) {index : Nat} {v : Int32} (hconst : Jvm.Cond.constant own index v ∈ wG) (hdg : decode cc pc = .ok (.ldc_w index, 3)) (k : Wf p l e R s m args below meth c Q g I J (F0 m (pc + 3) ls (.int v :: rest))) : Wf p l e R s m args below meth c Q g I J (F0 m pc ls rest) := fun H locs hP hS => lv_ldcw C.1 C.2.1 C.2.2.2.1 (C.2.2.2.2.1 _ hconst) hdg (k H locs hP hS)
theorem f_lconst (C : Cx g p s m args meth c cc nL0 own ret) {n : Fin 2} {v : Int64} (hdg : decode cc pc = .ok (.lconst n, 1)) (hv : Int64.ofNat (n : Nat) = v) (k : Wf p l e R s m args below meth c Q g I J (F0 m (pc + 1) ls (.long v :: rest))) : Wf p l e R s m args below meth c Q g I J (F0 m pc ls (rest)) := fun H locs hP hS => lv_lconst C.1 C.2.1 hdg hv (k H locs hP hS)
theorem f_ldc2 (C : Cx g p s m args meth c cc nL0 own ret) {index : Nat} {v : Int64} (hconst : Jvm.Cond.constantLong own index v ∈ wG) (hdg : decode cc pc = .ok (.ldc2_w index, 3)) (k : Wf p l e R s m args below meth c Q g I J (F0 m (pc + 3) ls (.long v :: rest))) : Wf p l e R s m args below meth c Q g I J (F0 m pc ls rest) := fun H locs hP hS => lv_ldc2 C.1 C.2.1 C.2.2.2.1 (C.2.2.2.2.1 _ hconst) hdg (k H locs hP hS)
theorem f_ifnonnull (C : Cx g p s m args meth c cc nL0 own ret) {x : Nat} {off : Int} {tgt : Nat} (hdg : decode cc pc = .ok (.ifnonnull off, 3)) (ht : (pc : Int) + off = (tgt : Int)) (k : Wf p l e R s m args below meth c Q g I J (F0 m tgt ls rest)) : Wf p l e R s m args below meth c Q g I J (F0 m pc ls (.ref x :: rest)) := fun H locs hP hS => lv_ifnonnull C.1 C.2.1 hdg ht (k H locs hP hS)
theorem f_ifnonnullN (C : Cx g p s m args meth c cc nL0 own ret) {off : Int} (hdg : decode cc pc = .ok (.ifnonnull off, 3)) (k : Wf p l e R s m args below meth c Q g I J (F0 m (pc + 3) ls rest)) : Wf p l e R s m args below meth c Q g I J (F0 m pc ls (.null :: rest)) := fun H locs hP hS => lv_ifnonnullN C.1 C.2.1 hdg (k H locs hP hS)
theorem f_icmp_eq (C : Cx g p s m args meth c cc nL0 own ret) {x y : Int32} {off : Int} {tgt : Nat} (hdg : decode cc pc = .ok (.if_icmp .eq off, 3)) (ht : (pc : Int) + off = (tgt : Int)) (kt : x = y → Wf p l e R s m args below meth c Q g I J (F0 m tgt ls rest)) (kf : ¬ x = y → Wf p l e R s m args below meth c Q g I J (F0 m (pc + 3) ls rest)) : Wf p l e R s m args below meth c Q g I J (F0 m pc ls (.int y :: .int x :: rest)) := fun H locs hP hS => lv_icmp_eq C.1 C.2.1 hdg ht (fun h => kt h H locs hP hS) (fun h => kf h H locs hP hS)
theorem f_icmp_ne (C : Cx g p s m args meth c cc nL0 own ret) {x y : Int32} {off : Int} {tgt : Nat} (hdg : decode cc pc = .ok (.if_icmp .ne off, 3)) (ht : (pc : Int) + off = (tgt : Int)) (kt : ¬ x = y → Wf p l e R s m args below meth c Q g I J (F0 m tgt ls rest)) (kf : x = y → Wf p l e R s m args below meth c Q g I J (F0 m (pc + 3) ls rest)) : Wf p l e R s m args below meth c Q g I J (F0 m pc ls (.int y :: .int x :: rest)) := fun H locs hP hS => lv_icmp_ne C.1 C.2.1 hdg ht (fun h => kt h H locs hP hS) (fun h => kf h H locs hP hS)
theorem f_icmp_lt (C : Cx g p s m args meth c cc nL0 own ret) {x y : Int32} {off : Int} {tgt : Nat} (hdg : decode cc pc = .ok (.if_icmp .lt off, 3)) (ht : (pc : Int) + off = (tgt : Int)) (kt : x < y → Wf p l e R s m args below meth c Q g I J (F0 m tgt ls rest)) (kf : ¬ x < y → Wf p l e R s m args below meth c Q g I J (F0 m (pc + 3) ls rest)) : Wf p l e R s m args below meth c Q g I J (F0 m pc ls (.int y :: .int x :: rest)) := fun H locs hP hS => lv_icmp_lt C.1 C.2.1 hdg ht (fun h => kt h H locs hP hS) (fun h => kf h H locs hP hS)
theorem f_icmp_ge (C : Cx g p s m args meth c cc nL0 own ret) {x y : Int32} {off : Int} {tgt : Nat} (hdg : decode cc pc = .ok (.if_icmp .ge off, 3)) (ht : (pc : Int) + off = (tgt : Int)) (kt : y ≤ x → Wf p l e R s m args below meth c Q g I J (F0 m tgt ls rest)) (kf : ¬ y ≤ x → Wf p l e R s m args below meth c Q g I J (F0 m (pc + 3) ls rest)) : Wf p l e R s m args below meth c Q g I J (F0 m pc ls (.int y :: .int x :: rest)) := fun H locs hP hS => lv_icmp_ge C.1 C.2.1 hdg ht (fun h => kt h H locs hP hS) (fun h => kf h H locs hP hS)
theorem f_icmp_gt (C : Cx g p s m args meth c cc nL0 own ret) {x y : Int32} {off : Int} {tgt : Nat} (hdg : decode cc pc = .ok (.if_icmp .gt off, 3)) (ht : (pc : Int) + off = (tgt : Int)) (kt : y < x → Wf p l e R s m args below meth c Q g I J (F0 m tgt ls rest)) (kf : ¬ y < x → Wf p l e R s m args below meth c Q g I J (F0 m (pc + 3) ls rest)) : Wf p l e R s m args below meth c Q g I J (F0 m pc ls (.int y :: .int x :: rest)) := fun H locs hP hS => lv_icmp_gt C.1 C.2.1 hdg ht (fun h => kt h H locs hP hS) (fun h => kf h H locs hP hS)
theorem f_icmp_le (C : Cx g p s m args meth c cc nL0 own ret) {x y : Int32} {off : Int} {tgt : Nat} (hdg : decode cc pc = .ok (.if_icmp .le off, 3)) (ht : (pc : Int) + off = (tgt : Int)) (kt : x ≤ y → Wf p l e R s m args below meth c Q g I J (F0 m tgt ls rest)) (kf : ¬ x ≤ y → Wf p l e R s m args below meth c Q g I J (F0 m (pc + 3) ls rest)) : Wf p l e R s m args below meth c Q g I J (F0 m pc ls (.int y :: .int x :: rest)) := fun H locs hP hS => lv_icmp_le C.1 C.2.1 hdg ht (fun h => kt h H locs hP hS) (fun h => kf h H locs hP hS)
theorem f_if_eq (C : Cx g p s m args meth c cc nL0 own ret) {x : Int32} {off : Int} {tgt : Nat} (hdg : decode cc pc = .ok (.ifCond .eq off, 3)) (ht : (pc : Int) + off = (tgt : Int)) (kt : x = 0 → Wf p l e R s m args below meth c Q g I J (F0 m tgt ls rest)) (kf : ¬ x = 0 → Wf p l e R s m args below meth c Q g I J (F0 m (pc + 3) ls rest)) : Wf p l e R s m args below meth c Q g I J (F0 m pc ls (.int x :: rest)) := fun H locs hP hS => lv_if_eq C.1 C.2.1 hdg ht (fun h => kt h H locs hP hS) (fun h => kf h H locs hP hS)
theorem f_if_ne (C : Cx g p s m args meth c cc nL0 own ret) {x : Int32} {off : Int} {tgt : Nat} (hdg : decode cc pc = .ok (.ifCond .ne off, 3)) (ht : (pc : Int) + off = (tgt : Int)) (kt : ¬ x = 0 → Wf p l e R s m args below meth c Q g I J (F0 m tgt ls rest)) (kf : x = 0 → Wf p l e R s m args below meth c Q g I J (F0 m (pc + 3) ls rest)) : Wf p l e R s m args below meth c Q g I J (F0 m pc ls (.int x :: rest)) := fun H locs hP hS => lv_if_ne C.1 C.2.1 hdg ht (fun h => kt h H locs hP hS) (fun h => kf h H locs hP hS)
theorem f_if_lt (C : Cx g p s m args meth c cc nL0 own ret) {x : Int32} {off : Int} {tgt : Nat} (hdg : decode cc pc = .ok (.ifCond .lt off, 3)) (ht : (pc : Int) + off = (tgt : Int)) (kt : x < 0 → Wf p l e R s m args below meth c Q g I J (F0 m tgt ls rest)) (kf : ¬ x < 0 → Wf p l e R s m args below meth c Q g I J (F0 m (pc + 3) ls rest)) : Wf p l e R s m args below meth c Q g I J (F0 m pc ls (.int x :: rest)) := fun H locs hP hS => lv_if_lt C.1 C.2.1 hdg ht (fun h => kt h H locs hP hS) (fun h => kf h H locs hP hS)
theorem f_if_ge (C : Cx g p s m args meth c cc nL0 own ret) {x : Int32} {off : Int} {tgt : Nat} (hdg : decode cc pc = .ok (.ifCond .ge off, 3)) (ht : (pc : Int) + off = (tgt : Int)) (kt : 0 ≤ x → Wf p l e R s m args below meth c Q g I J (F0 m tgt ls rest)) (kf : ¬ 0 ≤ x → Wf p l e R s m args below meth c Q g I J (F0 m (pc + 3) ls rest)) : Wf p l e R s m args below meth c Q g I J (F0 m pc ls (.int x :: rest)) := fun H locs hP hS => lv_if_ge C.1 C.2.1 hdg ht (fun h => kt h H locs hP hS) (fun h => kf h H locs hP hS)
theorem f_if_gt (C : Cx g p s m args meth c cc nL0 own ret) {x : Int32} {off : Int} {tgt : Nat} (hdg : decode cc pc = .ok (.ifCond .gt off, 3)) (ht : (pc : Int) + off = (tgt : Int)) (kt : 0 < x → Wf p l e R s m args below meth c Q g I J (F0 m tgt ls rest)) (kf : ¬ 0 < x → Wf p l e R s m args below meth c Q g I J (F0 m (pc + 3) ls rest)) : Wf p l e R s m args below meth c Q g I J (F0 m pc ls (.int x :: rest)) := fun H locs hP hS => lv_if_gt C.1 C.2.1 hdg ht (fun h => kt h H locs hP hS) (fun h => kf h H locs hP hS)
theorem f_if_le (C : Cx g p s m args meth c cc nL0 own ret) {x : Int32} {off : Int} {tgt : Nat} (hdg : decode cc pc = .ok (.ifCond .le off, 3)) (ht : (pc : Int) + off = (tgt : Int)) (kt : x ≤ 0 → Wf p l e R s m args below meth c Q g I J (F0 m tgt ls rest)) (kf : ¬ x ≤ 0 → Wf p l e R s m args below meth c Q g I J (F0 m (pc + 3) ls rest)) : Wf p l e R s m args below meth c Q g I J (F0 m pc ls (.int x :: rest)) := fun H locs hP hS => lv_if_le C.1 C.2.1 hdg ht (fun h => kt h H locs hP hS) (fun h => kf h H locs hP hS)
theorem f_iret {v : Int32} {q : Int32 → MI → MJ → Prop} (C : Cx g p s m args meth c cc nL0 own (some .int)) (hq : q v I J) (hdg : decode cc pc = .ok (.ireturn, 1)) : Wf p l e R s m args below meth c (MQ below (Qg g (PI q)) args s 0 0 (gA g)) g I J (F0 m pc ls [.int v]) := fun H locs hP hS =>
  W.iret C.1 C.2.1 C.2.2.2.2.2.2.2.2.2 (fun t ht hW => ⟨⟨some (.int v), I, J, rfl, ⟨v, rfl, hq⟩, by rw [ht]; exact hP, C.2.2.2.2.2.1.warm hW, by rw [ht]; exact C.2.2.2.2.2.2.1.moved hW.alike hS.2.1, C.2.2.2.2.2.2.2.1⟩, hS.F ht⟩) hS.2.2 hdg C.2.2.2.2.2.2.2.2.1
theorem f_lret {v : Int64} {q : Int64 → MI → MJ → Prop} (C : Cx g p s m args meth c cc nL0 own (some .long)) (hq : q v I J) (hdg : decode cc pc = .ok (.lreturn, 1)) : Wf p l e R s m args below meth c (MQ below (Qg g (PL q)) args s 0 0 (gA g)) g I J (F0 m pc ls [.long v]) := fun H locs hP hS =>
  W.lret C.1 C.2.1 C.2.2.2.2.2.2.2.2.2 (fun t ht hW => ⟨⟨some (.long v), I, J, rfl, ⟨v, rfl, hq⟩, by rw [ht]; exact hP, C.2.2.2.2.2.1.warm hW, by rw [ht]; exact C.2.2.2.2.2.2.1.moved hW.alike hS.2.1, C.2.2.2.2.2.2.2.1⟩, hS.F ht⟩) hS.2.2 hdg C.2.2.2.2.2.2.2.2.1
theorem f_zret {v : Int32} {q : Int32 → MI → MJ → Prop} (C : Cx g p s m args meth c cc nL0 own (some .boolean)) (hn : v = 0 ∨ v = 1) (hq : q v I J) (hdg : decode cc pc = .ok (.ireturn, 1)) : Wf p l e R s m args below meth c (MQ below (Qg g (PI q)) args s 0 0 (gA g)) g I J (F0 m pc ls [.int v]) := fun H locs hP hS =>
  W.zret C.1 C.2.1 C.2.2.2.2.2.2.2.2.2 (by rcases hn with rfl | rfl <;> decide +kernel) (fun t ht hW => ⟨⟨some (.int v), I, J, rfl, ⟨v, rfl, hq⟩, by rw [ht]; exact hP, C.2.2.2.2.2.1.warm hW, by rw [ht]; exact C.2.2.2.2.2.2.1.moved hW.alike hS.2.1, C.2.2.2.2.2.2.2.1⟩, hS.F ht⟩) hS.2.2 hdg C.2.2.2.2.2.2.2.2.1
theorem f_vret {q : MI → MJ → Prop} (C : Cx g p s m args meth c cc nL0 own none) (hq : q I J) (hdg : decode cc pc = .ok (.return_, 1)) : Wf p l e R s m args below meth c (MQ below (Qg g (PV q)) args s 0 0 (gA g)) g I J (F0 m pc ls []) := fun H locs hP hS =>
  W.vret C.1 C.2.1 C.2.2.2.2.2.2.2.2.2 (fun t ht hW => ⟨⟨none, I, J, rfl, ⟨rfl, hq⟩, by rw [ht]; exact hP, C.2.2.2.2.2.1.warm hW, by rw [ht]; exact C.2.2.2.2.2.2.1.moved hW.alike hS.2.1, C.2.2.2.2.2.2.2.1⟩, hS.F ht⟩) hS.2.2 hdg C.2.2.2.2.2.2.2.2.1
theorem f_get {ref C0 : String} {T0 : u_T} {N ci index t r : Nat} {fs : List Value} {v : Value} (C : Cx g p s m args meth c cc nL0 own ret) (hr : r < cnt t) (hc : cel g I J t r = .inr (ci, fs)) (hin : ∀ w ∈ u_ws C0 T0 N, w ∈ wG) (hcl : vwCl[ci]? = some (C0, T0, N)) (k : Nat) (hk : k < N) (hlink : Cond.fieldLink own index ref (T0 k).2.1 (T0 k).2.2.1 ∈ wG) (hsame : (T0 k).1 = ref) (hv : fs[k]? = some v) (hdg : decode cc pc = .ok (.getfield index, 3)) (kk : Wf p l e R s m args below meth c Q g I J (F0 m (pc + 3) ls (v :: rest))) : Wf p l e R s m args below meth c Q g I J (F0 m pc ls (.ref (gad g t r) :: rest)) := fun H locs hP hS => by
  obtain ⟨j, hj⟩ := wl_at hr
  exact va_get C.1 C.2.1 C.2.2.2.2.1 hin C.2.2.2.1 C.2.2.2.2.2.1.1 hP j (by rw [wl_get hj, hc]) hcl k hk (C.2.2.2.2.1 _ hlink) (by rw [hsame]; exact fun _ h => h) hv hdg (kk H locs hP hS)
theorem f_putI {ref C0 : String} {T0 : u_T} {N ci index t r : Nat} {fs : List Value} {v : Int32} {ty : FieldType} (C : Cx g p s m args meth c cc nL0 own ret) (hr : r < cnt t) (k : Nat) (hc : cel g I J t r = .inr (ci, fs)) (hc2 : cel g (up3 I t r k v) J t r = .inr (ci, fs.set k (.int v))) (hin : ∀ w ∈ u_ws C0 T0 N, w ∈ wG) (ty0 : Nat → FieldType) (hty : ∀ k, k < N → parseFieldDescriptor (T0 k).2.2.1 = some (ty0 k)) (hnm : ∀ a, a < N → ∀ b, b < N → a ≠ b → (T0 a).2.1 ≠ (T0 b).2.1) (hcl : vwCl[ci]? = some (C0, T0, N)) (hk : k < N) (hlink : Cond.fieldLink own index ref (T0 k).2.1 (T0 k).2.2.1 ∈ wG) (hsame : (T0 k).1 = ref) (hfin : (T0 k).2.2.2 = false) (hd : parseFieldDescriptor (T0 k).2.2.1 = some ty) (hn : narrow ty (.int v) = .int v ∧ fits ty (.int v) = true) (hl : k < fs.length) (hdg : decode cc pc = .ok (.putfield index, 3)) (kk : Wf p l e R s m args below meth c Q g (up3 I t r k v) J (F0 m (pc + 3) ls rest)) : Wf p l e R s m args below meth c Q g I J (F0 m pc ls (.int v :: .ref (gad g t r) :: rest)) := fun H locs hP hS => by
  obtain ⟨j, hj⟩ := wl_at hr
  refine va_put C.1 C.2.1 C.2.2.2.2.1 hin ty0 hty hnm C.2.2.2.1 C.2.2.2.2.2.1.1 hP (C.2.2.2.2.2.2.2.1.D I J) hS j (by rw [wl_get hj, hc]) hcl k hk (C.2.2.2.2.1 _ hlink) (by rw [hsame]; exact fun _ h => h) hfin hd hn.1 hn.2 hl hdg (fun H1 locs1 hP1 hD1 hS1 => kk H1 locs1 ?_ hS1)
  rw [wl_setI hj hc2] at hP1
  exact hP1
theorem f_putJ {ref C0 : String} {T0 : u_T} {N ci index t r : Nat} {fs : List Value} {v : Int64} (C : Cx g p s m args meth c cc nL0 own ret) (hr : r < cnt t) (k : Nat) (hc : cel g I J t r = .inr (ci, fs)) (hc2 : cel g I (up3L J t r k v) t r = .inr (ci, fs.set k (.long v))) (hin : ∀ w ∈ u_ws C0 T0 N, w ∈ wG) (ty0 : Nat → FieldType) (hty : ∀ k, k < N → parseFieldDescriptor (T0 k).2.2.1 = some (ty0 k)) (hnm : ∀ a, a < N → ∀ b, b < N → a ≠ b → (T0 a).2.1 ≠ (T0 b).2.1) (hcl : vwCl[ci]? = some (C0, T0, N)) (hk : k < N) (hlink : Cond.fieldLink own index ref (T0 k).2.1 (T0 k).2.2.1 ∈ wG) (hsame : (T0 k).1 = ref) (hfin : (T0 k).2.2.2 = false) (hd : parseFieldDescriptor (T0 k).2.2.1 = some .long) (hl : k < fs.length) (hdg : decode cc pc = .ok (.putfield index, 3)) (kk : Wf p l e R s m args below meth c Q g I (up3L J t r k v) (F0 m (pc + 3) ls rest)) : Wf p l e R s m args below meth c Q g I J (F0 m pc ls (.long v :: .ref (gad g t r) :: rest)) := fun H locs hP hS => by
  obtain ⟨j, hj⟩ := wl_at hr
  refine va_put C.1 C.2.1 C.2.2.2.2.1 hin ty0 hty hnm C.2.2.2.1 C.2.2.2.2.2.1.1 hP (C.2.2.2.2.2.2.2.1.D I J) hS j (by rw [wl_get hj, hc]) hcl k hk (C.2.2.2.2.1 _ hlink) (by rw [hsame]; exact fun _ h => h) hfin hd rfl rfl hl hdg (fun H1 locs1 hP1 hD1 hS1 => kk H1 locs1 ?_ hS1)
  rw [wl_setJ hj hc2] at hP1
  exact hP1
theorem f_iald {t r n : Nat} {i : Int32} (C : Cx g p s m args meth c cc nL0 own ret) (hr : r < cnt t) (hc : cel g I J t r = .inl (gc g 0, n, .inl (I t r))) (hin : vp_in i n) (hdg : decode cc pc = .ok (.iaload, 1)) (kk : Wf p l e R s m args below meth c Q g I J (F0 m (pc + 1) ls (.int (I t r i.toNatClampNeg) :: rest))) : Wf p l e R s m args below meth c Q g I J (F0 m pc ls (.int i :: .ref (gad g t r) :: rest)) := fun H locs hP hS => by
  obtain ⟨j, hj⟩ := wl_at hr
  exact va_iald C.1 C.2.1 C.2.2.2.2.2.1.1 hP j 0 (by rw [wl_get hj, hc]) rfl hin hdg (kk H locs hP hS)
theorem f_zald {t r n : Nat} {i : Int32} (C : Cx g p s m args meth c cc nL0 own ret) (hr : r < cnt t) (hc : cel g I J t r = .inl (gc g 2, n, .inl (I t r))) (hin : vp_in i n) (hdg : decode cc pc = .ok (.baload, 1)) (kk : Wf p l e R s m args below meth c Q g I J (F0 m (pc + 1) ls (.int (I t r i.toNatClampNeg) :: rest))) : Wf p l e R s m args below meth c Q g I J (F0 m pc ls (.int i :: .ref (gad g t r) :: rest)) := fun H locs hP hS => by
  obtain ⟨j, hj⟩ := wl_at hr
  exact va_zald C.1 C.2.1 C.2.2.2.2.2.1.1 hP j 2 (by rw [wl_get hj, hc]) rfl hin hdg (kk H locs hP hS)
theorem f_lald {t r n : Nat} {i : Int32} (C : Cx g p s m args meth c cc nL0 own ret) (hr : r < cnt t) (hc : cel g I J t r = .inl (gc g 1, n, .inr (.inl (J t r)))) (hin : vp_in i n) (hdg : decode cc pc = .ok (.laload, 1)) (kk : Wf p l e R s m args below meth c Q g I J (F0 m (pc + 1) ls (.long (J t r i.toNatClampNeg) :: rest))) : Wf p l e R s m args below meth c Q g I J (F0 m pc ls (.int i :: .ref (gad g t r) :: rest)) := fun H locs hP hS => by
  obtain ⟨j, hj⟩ := wl_at hr
  exact va_lald C.1 C.2.1 C.2.2.2.2.2.1.1 hP j 1 (by rw [wl_get hj, hc]) rfl hin hdg (kk H locs hP hS)
theorem f_iast {t r n : Nat} {i x : Int32} (C : Cx g p s m args meth c cc nL0 own ret) (hr : r < cnt t) (hc : ∀ I' : MI, cel g I' J t r = .inl (gc g 0, n, .inl (I' t r))) (hin : vp_in i n) (hdg : decode cc pc = .ok (.iastore, 1)) (kk : Wf p l e R s m args below meth c Q g (up3 I t r i.toNatClampNeg x) J (F0 m (pc + 1) ls rest)) : Wf p l e R s m args below meth c Q g I J (F0 m pc ls (.int x :: .int i :: .ref (gad g t r) :: rest)) := fun H locs hP hS => by
  obtain ⟨j, hj⟩ := wl_at hr
  refine va_iast C.1 C.2.1 C.2.2.2.2.2.1.1 hP (C.2.2.2.2.2.2.2.1.D I J) hS j 0 (by rw [wl_get hj, hc]) rfl hin hdg (fun H1 locs1 hP1 hD1 hS1 => kk H1 locs1 ?_ hS1)
  rw [wl_setI (j := i.toNatClampNeg) (v := x) hj (by rw [hc, up3_r])] at hP1
  exact hP1
theorem f_zast {t r n : Nat} {i x : Int32} (C : Cx g p s m args meth c cc nL0 own ret) (hr : r < cnt t) (hc : ∀ I' : MI, cel g I' J t r = .inl (gc g 2, n, .inl (I' t r))) (hin : vp_in i n) (hx : vp_nar .boolean x = x) (hdg : decode cc pc = .ok (.bastore, 1)) (kk : Wf p l e R s m args below meth c Q g (up3 I t r i.toNatClampNeg x) J (F0 m (pc + 1) ls rest)) : Wf p l e R s m args below meth c Q g I J (F0 m pc ls (.int x :: .int i :: .ref (gad g t r) :: rest)) := fun H locs hP hS => by
  obtain ⟨j, hj⟩ := wl_at hr
  refine va_zast C.1 C.2.1 C.2.2.2.2.2.1.1 hP (C.2.2.2.2.2.2.2.1.D I J) hS j 2 (by rw [wl_get hj, hc]) rfl hin hdg (fun H1 locs1 hP1 hD1 hS1 => kk H1 locs1 ?_ hS1)
  rw [hx, wl_setI (j := i.toNatClampNeg) (v := x) hj (by rw [hc, up3_r])] at hP1
  exact hP1
theorem f_last {t r n : Nat} {i : Int32} {x : Int64} (C : Cx g p s m args meth c cc nL0 own ret) (hr : r < cnt t) (hc : ∀ J' : MJ, cel g I J' t r = .inl (gc g 1, n, .inr (.inl (J' t r)))) (hin : vp_in i n) (hdg : decode cc pc = .ok (.lastore, 1)) (kk : Wf p l e R s m args below meth c Q g I (up3L J t r i.toNatClampNeg x) (F0 m (pc + 1) ls rest)) : Wf p l e R s m args below meth c Q g I J (F0 m pc ls (.long x :: .int i :: .ref (gad g t r) :: rest)) := fun H locs hP hS => by
  obtain ⟨j, hj⟩ := wl_at hr
  refine va_last C.1 C.2.1 C.2.2.2.2.2.1.1 hP (C.2.2.2.2.2.2.2.1.D I J) hS j 1 (by rw [wl_get hj, hc]) rfl hin hdg (fun H1 locs1 hP1 hD1 hS1 => kk H1 locs1 ?_ hS1)
  rw [wl_setJ (j := i.toNatClampNeg) (v := x) hj (by rw [hc, up3L_r])] at hP1
  exact hP1
theorem f_aldR {r : Nat} {i : Int32} (C : Cx g p s m args meth c cc nL0 own ret) (hr : r < 3) (hin : vp_in i 8) (hdg : decode cc pc = .ok (.aaload, 1)) (kk : Wf p l e R s m args below meth c Q g I J (F0 m (pc + 1) ls (.ref (gad g 4 (8 * r + i.toNatClampNeg)) :: rest))) : Wf p l e R s m args below meth c Q g I J (F0 m pc ls (.int i :: .ref (gad g 19 r) :: rest)) := fun H locs hP hS => by
  obtain ⟨j, hj⟩ := wl_at (t := 19) (r := r) hr
  exact va_aldq C.1 C.2.1 C.2.2.2.2.2.1.1 hP j 3 (f := fun k => some (gad g 4 (8 * r + k))) (by rw [wl_get hj]; rfl) rfl hin hdg (kk H locs hP hS)
theorem f_aldY {r : Nat} {i : Int32} (C : Cx g p s m args meth c cc nL0 own ret) (hr : r < 1) (hin : vp_in i 2) (hdg : decode cc pc = .ok (.aaload, 1)) (kk : Wf p l e R s m args below meth c Q g I J (F0 m (pc + 1) ls (.ref (gad g 6 (1 + i.toNatClampNeg)) :: rest))) : Wf p l e R s m args below meth c Q g I J (F0 m pc ls (.int i :: .ref (gad g 20 r) :: rest)) := fun H locs hP hS => by
  obtain ⟨j, hj⟩ := wl_at (t := 20) (r := r) hr
  exact va_aldq C.1 C.2.1 C.2.2.2.2.2.1.1 hP j 4 (f := fun k => some (gad g 6 (1 + k))) (by rw [wl_get hj]; rfl) rfl hin hdg (kk H locs hP hS)
theorem f_gets {ref : String} {index : Nat} (k : Nat) (hk : k < 6) (C : Cx g p s m args meth c cc nL0 own ret) (hlink : Cond.fieldLink own index ref (stN k) "[I" ∈ wG) (hsame : stC k = ref) (hdg : decode cc pc = .ok (.getstatic index, 3)) (kk : Wf p l e R s m args below meth c Q g I J (F0 m (pc + 3) ls (.ref (gs g k) :: rest))) : Wf p l e R s m args below meth c Q g I J (F0 m pc ls rest) := fun H locs hP hS =>
  va_gets C.1 C.2.1 (C.2.2.2.2.2.2.1 k hk).1 hS C.2.2.2.1 (C.2.2.2.2.1 _ hlink) (by rw [hsame]; exact fun _ h => h) hdg (kk H locs hP hS)
theorem f_ialdS {i : Int32} (k : Nat) (hk : k < 6) (C : Cx g p s m args meth c cc nL0 own ret) (hin : vp_in i (stL k)) (hdg : decode cc pc = .ok (.iaload, 1)) (kk : Wf p l e R s m args below meth c Q g I J (F0 m (pc + 1) ls (.int (stV k i.toNatClampNeg) :: rest))) : Wf p l e R s m args below meth c Q g I J (F0 m pc ls (.int i :: .ref (gs g k) :: rest)) := fun H locs hP hS =>
  va_ti C.1 C.2.1 (C.2.2.2.2.2.2.1 k hk).2 hS hin rfl hdg (kk H locs hP hS)
theorem f_alenS {v : Int32} (k : Nat) (hk : k < 6) (C : Cx g p s m args meth c cc nL0 own ret) (hv : Int32.ofNat (stL k) = v) (hdg : decode cc pc = .ok (.arraylength, 1)) (kk : Wf p l e R s m args below meth c Q g I J (F0 m (pc + 1) ls (.int v :: rest))) : Wf p l e R s m args below meth c Q g I J (F0 m pc ls (.ref (gs g k) :: rest)) := fun H locs hP hS =>
  va_tlen C.1 C.2.1 (C.2.2.2.2.2.2.1 k hk).2 hS hv hdg (kk H locs hP hS)
theorem f_copy {t0 r0 t r n0 n1 index : Nat} {sp dp n : Int32} (C : Cx g p s m args meth c cc nL0 own ret) (hml : ls.size = nL0) (hlink : Cond.methodLink own index arraycopyName ∈ wG) (hr0 : r0 < cnt t0) (hr : r < cnt t) (hc0 : cel g I J t0 r0 = .inl (gc g 0, n0, .inl (I t0 r0))) (hc : ∀ I' : MI, cel g I' J t r = .inl (gc g 0, n1, .inl (I' t r)))
    (h1 : ¬ sp < 0) (h2 : ¬ dp < 0) (h3 : ¬ n < 0) (h4 : sp.toNatClampNeg + n.toNatClampNeg ≤ n0) (h5 : dp.toNatClampNeg + n.toNatClampNeg ≤ n1) (hnat : Cond.native arraycopyName ∈ wG) (hstat : Cond.static arraycopyName ∈ wG) (hini : Cond.initialized "java/lang/System" ∈ wG)
    (hframes : 1 ≤ R.frames) (hlocals : (rest.map fun v => v.category).sum + (nativeFrameWords "java/lang/System" "arraycopy" 5 + 11) ≤ R.locals) (hdg : decode cc pc = .ok (.invokestatic index, 3)) (kk : Wf p l e R s m args below meth c Q g (row3 I t r (va_cpy (I t0 r0) (I t r) sp.toNatClampNeg dp.toNatClampNeg n.toNatClampNeg)) J (F0 m (pc + 3) ls rest)) : Wf p l e R s m args below meth c Q g I J (F0 m pc ls (.int n :: .int dp :: .ref (gad g t r) :: .int sp :: .ref (gad g t0 r0) :: rest)) := fun H locs hP hS => by
  obtain ⟨j0, hj0⟩ := wl_at hr0
  obtain ⟨j, hj⟩ := wl_at hr
  refine va_copyi C.1 C.2.1 (by rw [C.2.2.1, hml]) C.2.2.2.1 (C.2.2.2.2.1 _ hlink) (C.2.2.2.2.1 _ hnat) (C.2.2.2.2.1 _ hstat) (C.2.2.2.2.1 _ hini) C.2.2.2.2.2.1.1 hP (C.2.2.2.2.2.2.2.1.D I J) hS j0 j 0 0 (ty := .int) (by rw [wl_get hj0, hc0]) (by rw [wl_get hj, hc]) rfl rfl rfl h1 h2 h3 h4 h5 (fun _ _ => rfl) hframes hlocals hdg (fun H1 locs1 hP1 hD1 hS1 => kk H1 locs1 ?_ hS1)
  rw [wl_setR hj (by rw [hc, row3_r])] at hP1
  exact hP1
theorem f_call {post : Option Value → MI → MJ → Prop} {st0 : List Value} {aa : Array Value} (hr : ∀ (H : Heap) (locs : List Loc), va_P (gD g) vwCl (wl g I J) H → va_S (gA g) s.heap H locs → va_Run p l e R s m args below meth c H locs 0 0 0 0 (F0 m pc ls st0) rest (Qg g post aa) (gA g)) (kk : ∀ (v : Option Value) (I' : MI) (J' : MJ), post v I' J' → Wf p l e R s m args below meth c Q g I' J' (F0 m (pc + 3) ls (v.toList ++ rest))) : Wf p l e R s m args below meth c Q g I J (F0 m pc ls st0) := by
  intro H locs hP hS T hT X
  obtain ⟨v, st₀, t, T', L, h0, X', hL, e1, e2, ⟨⟨v', I', J', hv, hp, hG⟩, hz, hk⟩, st⟩ := hr H locs hP hS T hT X
  cases hv
  rw [h0] at hz hk
  obtain ⟨t2, a1, b1⟩ := kk v I' J' hp T'.heap (locs ++ L) (by rw [e1]; exact hG.1)
    ⟨Nat.le_trans hS.1 (by rw [e1]; exact hz), fun q h1 h2 => by rw [e1, hk q (Nat.lt_of_lt_of_le h1 hS.1) h2]; exact hS.2.1 q h1 h2, fun q hq => by
      rcases List.mem_append.mp hq with h | h
      · exact hS.2.2 q h
      · exact hL q h⟩ T' rfl X'
  exact ⟨t2, st t2 a1, b1⟩
def okM (y : MethodName) (cc : ByteArray) (nL : Nat) (ret : Option FieldType) (n : Nat) : Prop := Cond.code y cc nL ret ∈ wG ∧ Cond.initialized y.cls ∈ wG ∧ (y.cls ≠ "java/lang/invoke/MethodHandle" ∧ y.cls ≠ "java/lang/invoke/VarHandle" ∧ (parseMethodDescriptor y.desc).map (fun d => d.parameters.length) = some n)
theorem f_callB {y : MethodName} {cc' : ByteArray} {nL n index fr lo : Nat} {rt : Option FieldType} (C : Cx g p s m args meth c cc nL0 own ret) (ho : okM y cc' nL rt n) (hl : Cond.methodLink own index y ∈ wG) (hR : fr + 1 ≤ R.frames ∧ 8 + (nL + 11) + lo ≤ R.locals) : CallB R s args own index y cc' nL rt (Cond.code y cc' nL rt :: wG) (Rm fr lo) 0 0 n :=
  callB_of n C.2.2.2.2.1 (wG_good (wG_cons ho.1)) rfl rfl rfl (C.2.2.2.2.1 _ ho.2.1) (C.2.2.2.2.1 _ hl) ho.2.2 hR
theorem f_callN {y : MethodName} {cc' : ByteArray} {nL n index fr lo : Nat} {rt : Option FieldType} {host : String} (C : Cx g p s m args meth c cc nL0 own ret) (ho : okM y cc' nL rt n) (hl : (own, index, y, host) ∈ nestL) (hR : fr + 1 ≤ R.frames ∧ 8 + (nL + 11) + lo ≤ R.locals) : va_CN R s args own index y host cc' nL rt (Cond.code y cc' nL rt :: wG) (Rm fr lo) 0 0 n :=
  va_cnB n C.2.2.2.2.1 (wG_good (wG_cons ho.1)) rfl rfl rfl (C.2.2.2.2.2.1.2 _ hl) (C.2.2.2.2.1 _ ho.2.1) ho.2.2 hR
theorem f_pre (C : Cx g p s m args meth c cc nL0 own ret) {av : List Value} {H : Heap} {locs : List Loc} (hP : va_P (gD g) vwCl (wl g I J) H) (hS : va_S (gA g) s.heap H locs) : ∀ U : State, U.heap = H → s.WarmedH U.vm → va_Pc av (GS g I J) av.toArray U := fun U hU hW =>
  ⟨rfl, by rw [hU]; exact hP, C.2.2.2.2.2.1.warm hW, by rw [hU]; exact C.2.2.2.2.2.2.1.moved hW.alike hS.2.1, C.2.2.2.2.2.2.2.1⟩
theorem f_recv {t r ci : Nat} {fs : List Value} {q : vw_C} (C : Cx g p s m args meth c cc nL0 own ret) {H : Heap} (hP : va_P (gD g) vwCl (wl g I J) H) (hr : r < cnt t) (hc : cel g I J t r = .inr (ci, fs)) (hcl : vwCl[ci]? = some q) : ∃ cellB : Cell, H[gad g t r]? = some cellB ∧ cellB.vm.isStatics = false ∧ s.vm.findClass q.1 = some cellB.cls := by
  obtain ⟨j, hj⟩ := wl_at hr
  exact va_recv C.2.2.2.2.2.1.1 hP hcl (by rw [wl_get hj, hc])
theorem f_cVi {y : MethodName} {cc' : ByteArray} {nL n index fr lo : Nat} {rt : Option FieldType} {As : List Value} {q : Int32 → MI → MJ → Prop} {t r ci : Nat} {fs : List Value} {T0 : u_T} {N : Nat} (C : Cx g p s m args meth c cc nL0 own ret) (hM : Ct g l y cc' nL rt fr lo (.ref (gad g t r) :: As) I J (PI q)) (ho : okM y cc' nL rt n) (hi : Cond.instanceMethod y ∈ wG) (hs : Cond.selects y.cls y y ∈ wG) (hl : Cond.methodLink own index y ∈ wG) (hR : fr + 1 ≤ R.frames ∧ 8 + (nL + 11) + lo ≤ R.locals) (hr : r < cnt t) (hc : cel g I J t r = .inr (ci, fs)) (hcl : vwCl[ci]? = some (y.cls, T0, N)) (hn : As.length = n) (hls : ls.size = nL0) (hrest : (rest.map fun v => v.category).sum ≤ 8) (hdg : decode cc pc = .ok (.invokevirtual index, 3)) (kk : ∀ (x : Int32) (I' : MI) (J' : MJ), q x I' J' → Wf p l e R s m args below meth c Q g I' J' (F0 m (pc + 3) ls (.int x :: rest))) : Wf p l e R s m args below meth c Q g I J (F0 m pc ls (As.reverse ++ .ref (gad g t r) :: rest)) :=
  f_call (fun H locs hP hS => va_runV (Ts := wG) ⟨C.1, C.2.1, C.2.2.1, C.2.2.2.1, C.2.2.2.2.1⟩ hM ⟨f_callB C ho hl hR, C.2.2.2.2.1 _ hi, C.2.2.2.2.1 _ hs⟩ ⟨GS.blind _, f_recv C hP hr hc hcl, f_pre C hP hS⟩ rfl hn hls rfl (lv_room hrest) hdg ⟨Nat.zero_le _, Nat.zero_le _⟩) (fun v I' J' h => by obtain ⟨x, rfl, h⟩ := h; exact kk x I' J' h)
theorem f_cSi {y : MethodName} {cc' : ByteArray} {nL n index fr lo : Nat} {rt : Option FieldType} {As : List Value} {q : Int32 → MI → MJ → Prop} (C : Cx g p s m args meth c cc nL0 own ret) (hM : Ct g l y cc' nL rt fr lo As I J (PI q)) (ho : okM y cc' nL rt n) (hi : Cond.static y ∈ wG) (hl : Cond.methodLink own index y ∈ wG) (hR : fr + 1 ≤ R.frames ∧ 8 + (nL + 11) + lo ≤ R.locals) (hn : As.length = n) (hls : ls.size = nL0) (hrest : (rest.map fun v => v.category).sum ≤ 8) (hdg : decode cc pc = .ok (.invokestatic index, 3)) (kk : ∀ (x : Int32) (I' : MI) (J' : MJ), q x I' J' → Wf p l e R s m args below meth c Q g I' J' (F0 m (pc + 3) ls (.int x :: rest))) : Wf p l e R s m args below meth c Q g I J (F0 m pc ls (As.reverse ++ rest)) :=
  f_call (fun H locs hP hS => va_runS (Ts := wG) ⟨C.1, C.2.1, C.2.2.1, C.2.2.2.1, C.2.2.2.2.1⟩ hM ⟨f_callB C ho hl hR, C.2.2.2.2.1 _ hi⟩ ⟨GS.blind _, f_pre C hP hS⟩ rfl hn hls rfl (lv_room hrest) hdg ⟨Nat.zero_le _, Nat.zero_le _⟩) (fun v I' J' h => by obtain ⟨x, rfl, h⟩ := h; exact kk x I' J' h)
theorem f_cNi {y : MethodName} {cc' : ByteArray} {nL n index fr lo : Nat} {rt : Option FieldType} {As : List Value} {q : Int32 → MI → MJ → Prop} {host : String} (C : Cx g p s m args meth c cc nL0 own ret) (hM : Ct g l y cc' nL rt fr lo As I J (PI q)) (ho : okM y cc' nL rt n) (hi : Cond.static y ∈ wG) (hl : (own, index, y, host) ∈ nestL) (hR : fr + 1 ≤ R.frames ∧ 8 + (nL + 11) + lo ≤ R.locals) (hn : As.length = n) (hls : ls.size = nL0) (hrest : (rest.map fun v => v.category).sum ≤ 8) (hdg : decode cc pc = .ok (.invokestatic index, 3)) (kk : ∀ (x : Int32) (I' : MI) (J' : MJ), q x I' J' → Wf p l e R s m args below meth c Q g I' J' (F0 m (pc + 3) ls (.int x :: rest))) : Wf p l e R s m args below meth c Q g I J (F0 m pc ls (As.reverse ++ rest)) :=
  f_call (fun H locs hP hS => va_runSN (Ts := wG) ⟨C.1, C.2.1, C.2.2.1, C.2.2.2.1, C.2.2.2.2.1⟩ hM ⟨f_callN C ho hl hR, C.2.2.2.2.1 _ hi, trivial⟩ ⟨GS.blind _, f_pre C hP hS⟩ rfl hn hls rfl (lv_room hrest) hdg ⟨Nat.zero_le _, Nat.zero_le _⟩) (fun v I' J' h => by obtain ⟨x, rfl, h⟩ := h; exact kk x I' J' h)
theorem f_cVl {y : MethodName} {cc' : ByteArray} {nL n index fr lo : Nat} {rt : Option FieldType} {As : List Value} {q : Int64 → MI → MJ → Prop} {t r ci : Nat} {fs : List Value} {T0 : u_T} {N : Nat} (C : Cx g p s m args meth c cc nL0 own ret) (hM : Ct g l y cc' nL rt fr lo (.ref (gad g t r) :: As) I J (PL q)) (ho : okM y cc' nL rt n) (hi : Cond.instanceMethod y ∈ wG) (hs : Cond.selects y.cls y y ∈ wG) (hl : Cond.methodLink own index y ∈ wG) (hR : fr + 1 ≤ R.frames ∧ 8 + (nL + 11) + lo ≤ R.locals) (hr : r < cnt t) (hc : cel g I J t r = .inr (ci, fs)) (hcl : vwCl[ci]? = some (y.cls, T0, N)) (hn : As.length = n) (hls : ls.size = nL0) (hrest : (rest.map fun v => v.category).sum ≤ 8) (hdg : decode cc pc = .ok (.invokevirtual index, 3)) (kk : ∀ (x : Int64) (I' : MI) (J' : MJ), q x I' J' → Wf p l e R s m args below meth c Q g I' J' (F0 m (pc + 3) ls (.long x :: rest))) : Wf p l e R s m args below meth c Q g I J (F0 m pc ls (As.reverse ++ .ref (gad g t r) :: rest)) :=
  f_call (fun H locs hP hS => va_runV (Ts := wG) ⟨C.1, C.2.1, C.2.2.1, C.2.2.2.1, C.2.2.2.2.1⟩ hM ⟨f_callB C ho hl hR, C.2.2.2.2.1 _ hi, C.2.2.2.2.1 _ hs⟩ ⟨GS.blind _, f_recv C hP hr hc hcl, f_pre C hP hS⟩ rfl hn hls rfl (lv_room hrest) hdg ⟨Nat.zero_le _, Nat.zero_le _⟩) (fun v I' J' h => by obtain ⟨x, rfl, h⟩ := h; exact kk x I' J' h)
theorem f_cSl {y : MethodName} {cc' : ByteArray} {nL n index fr lo : Nat} {rt : Option FieldType} {As : List Value} {q : Int64 → MI → MJ → Prop} (C : Cx g p s m args meth c cc nL0 own ret) (hM : Ct g l y cc' nL rt fr lo As I J (PL q)) (ho : okM y cc' nL rt n) (hi : Cond.static y ∈ wG) (hl : Cond.methodLink own index y ∈ wG) (hR : fr + 1 ≤ R.frames ∧ 8 + (nL + 11) + lo ≤ R.locals) (hn : As.length = n) (hls : ls.size = nL0) (hrest : (rest.map fun v => v.category).sum ≤ 8) (hdg : decode cc pc = .ok (.invokestatic index, 3)) (kk : ∀ (x : Int64) (I' : MI) (J' : MJ), q x I' J' → Wf p l e R s m args below meth c Q g I' J' (F0 m (pc + 3) ls (.long x :: rest))) : Wf p l e R s m args below meth c Q g I J (F0 m pc ls (As.reverse ++ rest)) :=
  f_call (fun H locs hP hS => va_runS (Ts := wG) ⟨C.1, C.2.1, C.2.2.1, C.2.2.2.1, C.2.2.2.2.1⟩ hM ⟨f_callB C ho hl hR, C.2.2.2.2.1 _ hi⟩ ⟨GS.blind _, f_pre C hP hS⟩ rfl hn hls rfl (lv_room hrest) hdg ⟨Nat.zero_le _, Nat.zero_le _⟩) (fun v I' J' h => by obtain ⟨x, rfl, h⟩ := h; exact kk x I' J' h)
theorem f_cNl {y : MethodName} {cc' : ByteArray} {nL n index fr lo : Nat} {rt : Option FieldType} {As : List Value} {q : Int64 → MI → MJ → Prop} {host : String} (C : Cx g p s m args meth c cc nL0 own ret) (hM : Ct g l y cc' nL rt fr lo As I J (PL q)) (ho : okM y cc' nL rt n) (hi : Cond.static y ∈ wG) (hl : (own, index, y, host) ∈ nestL) (hR : fr + 1 ≤ R.frames ∧ 8 + (nL + 11) + lo ≤ R.locals) (hn : As.length = n) (hls : ls.size = nL0) (hrest : (rest.map fun v => v.category).sum ≤ 8) (hdg : decode cc pc = .ok (.invokestatic index, 3)) (kk : ∀ (x : Int64) (I' : MI) (J' : MJ), q x I' J' → Wf p l e R s m args below meth c Q g I' J' (F0 m (pc + 3) ls (.long x :: rest))) : Wf p l e R s m args below meth c Q g I J (F0 m pc ls (As.reverse ++ rest)) :=
  f_call (fun H locs hP hS => va_runSN (Ts := wG) ⟨C.1, C.2.1, C.2.2.1, C.2.2.2.1, C.2.2.2.2.1⟩ hM ⟨f_callN C ho hl hR, C.2.2.2.2.1 _ hi, trivial⟩ ⟨GS.blind _, f_pre C hP hS⟩ rfl hn hls rfl (lv_room hrest) hdg ⟨Nat.zero_le _, Nat.zero_le _⟩) (fun v I' J' h => by obtain ⟨x, rfl, h⟩ := h; exact kk x I' J' h)
theorem f_cVv {y : MethodName} {cc' : ByteArray} {nL n index fr lo : Nat} {rt : Option FieldType} {As : List Value} {q : MI → MJ → Prop} {t r ci : Nat} {fs : List Value} {T0 : u_T} {N : Nat} (C : Cx g p s m args meth c cc nL0 own ret) (hM : Ct g l y cc' nL rt fr lo (.ref (gad g t r) :: As) I J (PV q)) (ho : okM y cc' nL rt n) (hi : Cond.instanceMethod y ∈ wG) (hs : Cond.selects y.cls y y ∈ wG) (hl : Cond.methodLink own index y ∈ wG) (hR : fr + 1 ≤ R.frames ∧ 8 + (nL + 11) + lo ≤ R.locals) (hr : r < cnt t) (hc : cel g I J t r = .inr (ci, fs)) (hcl : vwCl[ci]? = some (y.cls, T0, N)) (hn : As.length = n) (hls : ls.size = nL0) (hrest : (rest.map fun v => v.category).sum ≤ 8) (hdg : decode cc pc = .ok (.invokevirtual index, 3)) (kk : ∀ (I' : MI) (J' : MJ), q I' J' → Wf p l e R s m args below meth c Q g I' J' (F0 m (pc + 3) ls (rest))) : Wf p l e R s m args below meth c Q g I J (F0 m pc ls (As.reverse ++ .ref (gad g t r) :: rest)) :=
  f_call (fun H locs hP hS => va_runV (Ts := wG) ⟨C.1, C.2.1, C.2.2.1, C.2.2.2.1, C.2.2.2.2.1⟩ hM ⟨f_callB C ho hl hR, C.2.2.2.2.1 _ hi, C.2.2.2.2.1 _ hs⟩ ⟨GS.blind _, f_recv C hP hr hc hcl, f_pre C hP hS⟩ rfl hn hls rfl (lv_room hrest) hdg ⟨Nat.zero_le _, Nat.zero_le _⟩) (fun v I' J' h => by obtain ⟨rfl, h⟩ := h; exact kk I' J' h)
theorem f_cSv {y : MethodName} {cc' : ByteArray} {nL n index fr lo : Nat} {rt : Option FieldType} {As : List Value} {q : MI → MJ → Prop} (C : Cx g p s m args meth c cc nL0 own ret) (hM : Ct g l y cc' nL rt fr lo As I J (PV q)) (ho : okM y cc' nL rt n) (hi : Cond.static y ∈ wG) (hl : Cond.methodLink own index y ∈ wG) (hR : fr + 1 ≤ R.frames ∧ 8 + (nL + 11) + lo ≤ R.locals) (hn : As.length = n) (hls : ls.size = nL0) (hrest : (rest.map fun v => v.category).sum ≤ 8) (hdg : decode cc pc = .ok (.invokestatic index, 3)) (kk : ∀ (I' : MI) (J' : MJ), q I' J' → Wf p l e R s m args below meth c Q g I' J' (F0 m (pc + 3) ls (rest))) : Wf p l e R s m args below meth c Q g I J (F0 m pc ls (As.reverse ++ rest)) :=
  f_call (fun H locs hP hS => va_runS (Ts := wG) ⟨C.1, C.2.1, C.2.2.1, C.2.2.2.1, C.2.2.2.2.1⟩ hM ⟨f_callB C ho hl hR, C.2.2.2.2.1 _ hi⟩ ⟨GS.blind _, f_pre C hP hS⟩ rfl hn hls rfl (lv_room hrest) hdg ⟨Nat.zero_le _, Nat.zero_le _⟩) (fun v I' J' h => by obtain ⟨rfl, h⟩ := h; exact kk I' J' h)
theorem f_cNv {y : MethodName} {cc' : ByteArray} {nL n index fr lo : Nat} {rt : Option FieldType} {As : List Value} {q : MI → MJ → Prop} {host : String} (C : Cx g p s m args meth c cc nL0 own ret) (hM : Ct g l y cc' nL rt fr lo As I J (PV q)) (ho : okM y cc' nL rt n) (hi : Cond.static y ∈ wG) (hl : (own, index, y, host) ∈ nestL) (hR : fr + 1 ≤ R.frames ∧ 8 + (nL + 11) + lo ≤ R.locals) (hn : As.length = n) (hls : ls.size = nL0) (hrest : (rest.map fun v => v.category).sum ≤ 8) (hdg : decode cc pc = .ok (.invokestatic index, 3)) (kk : ∀ (I' : MI) (J' : MJ), q I' J' → Wf p l e R s m args below meth c Q g I' J' (F0 m (pc + 3) ls (rest))) : Wf p l e R s m args below meth c Q g I J (F0 m pc ls (As.reverse ++ rest)) :=
  f_call (fun H locs hP hS => va_runSN (Ts := wG) ⟨C.1, C.2.1, C.2.2.1, C.2.2.2.1, C.2.2.2.2.1⟩ hM ⟨f_callN C ho hl hR, C.2.2.2.2.1 _ hi, trivial⟩ ⟨GS.blind _, f_pre C hP hS⟩ rfl hn hls rfl (lv_room hrest) hdg ⟨Nat.zero_le _, Nat.zero_le _⟩) (fun v I' J' h => by obtain ⟨rfl, h⟩ := h; exact kk I' J' h)
end FR
end
