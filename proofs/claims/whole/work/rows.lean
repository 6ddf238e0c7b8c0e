section
-- ===== PART A: goes FIRST, ahead of the names: the tables' words, and 'selects' of the private methods out of them =====
/-- a private method of a class that the tables say can be made, by its rows of tables_1 -/
def lw_okq (q : MethodName × Nat) : Prop := (q.1.cls ≠ "java/lang/invoke/MethodHandle" ∧ q.1.cls ≠ "java/lang/invoke/VarHandle") ∧ Cond.instantiable q.1.cls q.2 ∈ tables_1 ∧ Cond.privateMethod q.1 ∈ tables_1 ∧ Cond.instanceMethod q.1 ∈ tables_1
theorem lw_p0 : lw_okq (⟨"java/lang/Throwable", "fillInStackTrace", "(I)Ljava/lang/Throwable;"⟩, 6) := ⟨⟨by decide +kernel, by decide +kernel⟩, List.mem_of_getElem? (i := 360) (by decide +kernel), List.mem_of_getElem? (i := 358) (by decide +kernel), List.mem_of_getElem? (i := 359) (by decide +kernel)⟩
theorem lw_p1 : lw_okq (⟨"HoleFiller$Operations", "addArgument", "(II)V"⟩, 3) := ⟨⟨by decide +kernel, by decide +kernel⟩, List.mem_of_getElem? (i := 47) (by decide +kernel), List.mem_of_getElem? (i := 395) (by decide +kernel), List.mem_of_getElem? (i := 396) (by decide +kernel)⟩
theorem lw_p2 : lw_okq (⟨"HoleFiller", "slotAt", "(I)LHoleFiller$Slot;"⟩, 9) := ⟨⟨by decide +kernel, by decide +kernel⟩, List.mem_of_getElem? (i := 20) (by decide +kernel), List.mem_of_getElem? (i := 424) (by decide +kernel), List.mem_of_getElem? (i := 425) (by decide +kernel)⟩
theorem lw_p3 : lw_okq (⟨"HoleFiller", "mayStand", "(LHoleFiller$Slot;II)Z"⟩, 9) := ⟨⟨by decide +kernel, by decide +kernel⟩, List.mem_of_getElem? (i := 20) (by decide +kernel), List.mem_of_getElem? (i := 463) (by decide +kernel), List.mem_of_getElem? (i := 464) (by decide +kernel)⟩
theorem lw_p4 : lw_okq (⟨"HoleFiller$Slot", "boundHere", "()I"⟩, 10) := ⟨⟨by decide +kernel, by decide +kernel⟩, List.mem_of_getElem? (i := 107) (by decide +kernel), List.mem_of_getElem? (i := 475) (by decide +kernel), List.mem_of_getElem? (i := 476) (by decide +kernel)⟩
theorem lw_p5 : lw_okq (⟨"HoleFiller", "hasRoom", "(LHoleFiller$Slot;II)Z"⟩, 9) := ⟨⟨by decide +kernel, by decide +kernel⟩, List.mem_of_getElem? (i := 20) (by decide +kernel), List.mem_of_getElem? (i := 494) (by decide +kernel), List.mem_of_getElem? (i := 495) (by decide +kernel)⟩
theorem lw_p6 : lw_okq (⟨"HoleFiller$Slot", "write", "(II)V"⟩, 10) := ⟨⟨by decide +kernel, by decide +kernel⟩, List.mem_of_getElem? (i := 107) (by decide +kernel), List.mem_of_getElem? (i := 517) (by decide +kernel), List.mem_of_getElem? (i := 518) (by decide +kernel)⟩
theorem lw_p7 : lw_okq (⟨"HoleFiller", "startBoth", "(II)V"⟩, 9) := ⟨⟨by decide +kernel, by decide +kernel⟩, List.mem_of_getElem? (i := 20) (by decide +kernel), List.mem_of_getElem? (i := 547) (by decide +kernel), List.mem_of_getElem? (i := 548) (by decide +kernel)⟩
theorem lw_p8 : lw_okq (⟨"HoleFiller$Cursor", "leaveEnded", "()V"⟩, 12) := ⟨⟨by decide +kernel, by decide +kernel⟩, List.mem_of_getElem? (i := 148) (by decide +kernel), List.mem_of_getElem? (i := 573) (by decide +kernel), List.mem_of_getElem? (i := 574) (by decide +kernel)⟩
theorem lw_p9 : lw_okq (⟨"HoleFiller$Cursor", "outside", "(II)I"⟩, 12) := ⟨⟨by decide +kernel, by decide +kernel⟩, List.mem_of_getElem? (i := 148) (by decide +kernel), List.mem_of_getElem? (i := 588) (by decide +kernel), List.mem_of_getElem? (i := 589) (by decide +kernel)⟩
theorem lw_p10 : lw_okq (⟨"HoleFiller$Cursor", "enterFilling", "()Z"⟩, 12) := ⟨⟨by decide +kernel, by decide +kernel⟩, List.mem_of_getElem? (i := 148) (by decide +kernel), List.mem_of_getElem? (i := 593) (by decide +kernel), List.mem_of_getElem? (i := 594) (by decide +kernel)⟩
theorem lw_p11 : lw_okq (⟨"HoleFiller$Unifier", "narrowToSame", "()I"⟩, 9) := ⟨⟨by decide +kernel, by decide +kernel⟩, List.mem_of_getElem? (i := 200) (by decide +kernel), List.mem_of_getElem? (i := 597) (by decide +kernel), List.mem_of_getElem? (i := 598) (by decide +kernel)⟩
theorem lw_p12 : lw_okq (⟨"HoleFiller$Unifier", "joinHoles", "()I"⟩, 9) := ⟨⟨by decide +kernel, by decide +kernel⟩, List.mem_of_getElem? (i := 200) (by decide +kernel), List.mem_of_getElem? (i := 638) (by decide +kernel), List.mem_of_getElem? (i := 639) (by decide +kernel)⟩
theorem lw_p13 : lw_okq (⟨"HoleFiller$Unifier", "fillWithTerm", "(LHoleFiller$Cursor;LHoleFiller$Cursor;)I"⟩, 9) := ⟨⟨by decide +kernel, by decide +kernel⟩, List.mem_of_getElem? (i := 200) (by decide +kernel), List.mem_of_getElem? (i := 646) (by decide +kernel), List.mem_of_getElem? (i := 647) (by decide +kernel)⟩
theorem lw_p14 : lw_okq (⟨"HoleFiller$Unifier", "admitTerm", "(LHoleFiller$Cursor;)I"⟩, 9) := ⟨⟨by decide +kernel, by decide +kernel⟩, List.mem_of_getElem? (i := 200) (by decide +kernel), List.mem_of_getElem? (i := 654) (by decide +kernel), List.mem_of_getElem? (i := 655) (by decide +kernel)⟩
theorem lw_p15 : lw_okq (⟨"HoleFiller$Unifier", "isForeign", "(LHoleFiller$Cursor;I)Z"⟩, 9) := ⟨⟨by decide +kernel, by decide +kernel⟩, List.mem_of_getElem? (i := 200) (by decide +kernel), List.mem_of_getElem? (i := 658) (by decide +kernel), List.mem_of_getElem? (i := 659) (by decide +kernel)⟩
def lw_privs_1 : List (MethodName × Nat) := [(⟨"java/lang/Throwable", "fillInStackTrace", "(I)Ljava/lang/Throwable;"⟩, 6), (⟨"HoleFiller$Operations", "addArgument", "(II)V"⟩, 3), (⟨"HoleFiller", "slotAt", "(I)LHoleFiller$Slot;"⟩, 9), (⟨"HoleFiller", "mayStand", "(LHoleFiller$Slot;II)Z"⟩, 9), (⟨"HoleFiller$Slot", "boundHere", "()I"⟩, 10), (⟨"HoleFiller", "hasRoom", "(LHoleFiller$Slot;II)Z"⟩, 9), (⟨"HoleFiller$Slot", "write", "(II)V"⟩, 10), (⟨"HoleFiller", "startBoth", "(II)V"⟩, 9), (⟨"HoleFiller$Cursor", "leaveEnded", "()V"⟩, 12), (⟨"HoleFiller$Cursor", "outside", "(II)I"⟩, 12), (⟨"HoleFiller$Cursor", "enterFilling", "()Z"⟩, 12), (⟨"HoleFiller$Unifier", "narrowToSame", "()I"⟩, 9), (⟨"HoleFiller$Unifier", "joinHoles", "()I"⟩, 9), (⟨"HoleFiller$Unifier", "fillWithTerm", "(LHoleFiller$Cursor;LHoleFiller$Cursor;)I"⟩, 9), (⟨"HoleFiller$Unifier", "admitTerm", "(LHoleFiller$Cursor;)I"⟩, 9), (⟨"HoleFiller$Unifier", "isForeign", "(LHoleFiller$Cursor;I)Z"⟩, 9)]
theorem lw_r1 : ∀ q ∈ lw_privs_1, lw_okq q := List.forall_mem_cons.mpr ⟨lw_p0, List.forall_mem_cons.mpr ⟨lw_p1, List.forall_mem_cons.mpr ⟨lw_p2, List.forall_mem_cons.mpr ⟨lw_p3, List.forall_mem_cons.mpr ⟨lw_p4, List.forall_mem_cons.mpr ⟨lw_p5, List.forall_mem_cons.mpr ⟨lw_p6, List.forall_mem_cons.mpr ⟨lw_p7, List.forall_mem_cons.mpr ⟨lw_p8, List.forall_mem_cons.mpr ⟨lw_p9, List.forall_mem_cons.mpr ⟨lw_p10, List.forall_mem_cons.mpr ⟨lw_p11, List.forall_mem_cons.mpr ⟨lw_p12, List.forall_mem_cons.mpr ⟨lw_p13, List.forall_mem_cons.mpr ⟨lw_p14, List.forall_mem_cons.mpr ⟨lw_p15, fun _ h => absurd h List.not_mem_nil⟩⟩⟩⟩⟩⟩⟩⟩⟩⟩⟩⟩⟩⟩⟩⟩
theorem lw_p16 : lw_okq (⟨"HoleFiller$Unifier", "dropForeign", "(LHoleFiller$Cursor;)I"⟩, 9) := ⟨⟨by decide +kernel, by decide +kernel⟩, List.mem_of_getElem? (i := 200) (by decide +kernel), List.mem_of_getElem? (i := 662) (by decide +kernel), List.mem_of_getElem? (i := 663) (by decide +kernel)⟩
theorem lw_p17 : lw_okq (⟨"HoleFiller$Unifier", "dueAfter", "(LHoleFiller$Cursor;I)I"⟩, 9) := ⟨⟨by decide +kernel, by decide +kernel⟩, List.mem_of_getElem? (i := 200) (by decide +kernel), List.mem_of_getElem? (i := 666) (by decide +kernel), List.mem_of_getElem? (i := 667) (by decide +kernel)⟩
theorem lw_p18 : lw_okq (⟨"HoleFiller$Unifier", "copyTerm", "(LHoleFiller$Cursor;LHoleFiller$Cursor;)V"⟩, 9) := ⟨⟨by decide +kernel, by decide +kernel⟩, List.mem_of_getElem? (i := 200) (by decide +kernel), List.mem_of_getElem? (i := 671) (by decide +kernel), List.mem_of_getElem? (i := 672) (by decide +kernel)⟩
theorem lw_p19 : lw_okq (⟨"HoleFiller$Unifier", "copyHere", "(LHoleFiller$Cursor;LHoleFiller$Cursor;)V"⟩, 9) := ⟨⟨by decide +kernel, by decide +kernel⟩, List.mem_of_getElem? (i := 200) (by decide +kernel), List.mem_of_getElem? (i := 675) (by decide +kernel), List.mem_of_getElem? (i := 676) (by decide +kernel)⟩
theorem lw_p20 : lw_okq (⟨"HoleFiller$Unifier", "inside", "(LHoleFiller$Cursor;II)I"⟩, 9) := ⟨⟨by decide +kernel, by decide +kernel⟩, List.mem_of_getElem? (i := 200) (by decide +kernel), List.mem_of_getElem? (i := 679) (by decide +kernel), List.mem_of_getElem? (i := 680) (by decide +kernel)⟩
theorem lw_p21 : lw_okq (⟨"HoleFiller$Holes", "sumFrom", "(II)I"⟩, 9) := ⟨⟨by decide +kernel, by decide +kernel⟩, List.mem_of_getElem? (i := 64) (by decide +kernel), List.mem_of_getElem? (i := 693) (by decide +kernel), List.mem_of_getElem? (i := 694) (by decide +kernel)⟩
theorem lw_p22 : lw_okq (⟨"HoleFiller$Reader", "takeHole", "(LHoleFiller$Cursor;)V"⟩, 5) := ⟨⟨by decide +kernel, by decide +kernel⟩, List.mem_of_getElem? (i := 236) (by decide +kernel), List.mem_of_getElem? (i := 719) (by decide +kernel), List.mem_of_getElem? (i := 720) (by decide +kernel)⟩
theorem lw_p23 : lw_okq (⟨"HoleFiller$Reader", "append", "(I)V"⟩, 5) := ⟨⟨by decide +kernel, by decide +kernel⟩, List.mem_of_getElem? (i := 236) (by decide +kernel), List.mem_of_getElem? (i := 729) (by decide +kernel), List.mem_of_getElem? (i := 730) (by decide +kernel)⟩
theorem lw_p24 : lw_okq (⟨"HoleFiller", "refuseUntold", "(I)V"⟩, 9) := ⟨⟨by decide +kernel, by decide +kernel⟩, List.mem_of_getElem? (i := 20) (by decide +kernel), List.mem_of_getElem? (i := 776) (by decide +kernel), List.mem_of_getElem? (i := 777) (by decide +kernel)⟩
theorem lw_p25 : lw_okq (⟨"HoleFiller$Cursor", "bitOf", "(I)I"⟩, 12) := ⟨⟨by decide +kernel, by decide +kernel⟩, List.mem_of_getElem? (i := 148) (by decide +kernel), List.mem_of_getElem? (i := 793) (by decide +kernel), List.mem_of_getElem? (i := 794) (by decide +kernel)⟩
theorem lw_p26 : lw_okq (⟨"HoleFillerModel", "fails", "(ZZ)Z"⟩, 40) := ⟨⟨by decide +kernel, by decide +kernel⟩, List.mem_of_getElem? (i := 797) (by decide +kernel), List.mem_of_getElem? (i := 935) (by decide +kernel), List.mem_of_getElem? (i := 936) (by decide +kernel)⟩
theorem lw_p27 : lw_okq (⟨"HoleFillerModel", "fits", "(III)Z"⟩, 40) := ⟨⟨by decide +kernel, by decide +kernel⟩, List.mem_of_getElem? (i := 797) (by decide +kernel), List.mem_of_getElem? (i := 954) (by decide +kernel), List.mem_of_getElem? (i := 955) (by decide +kernel)⟩
theorem lw_p28 : lw_okq (⟨"HoleFillerModel", "isTooWide", "(III)Z"⟩, 40) := ⟨⟨by decide +kernel, by decide +kernel⟩, List.mem_of_getElem? (i := 797) (by decide +kernel), List.mem_of_getElem? (i := 958) (by decide +kernel), List.mem_of_getElem? (i := 959) (by decide +kernel)⟩
theorem lw_p29 : lw_okq (⟨"HoleFillerModel", "wait", "(III)V"⟩, 40) := ⟨⟨by decide +kernel, by decide +kernel⟩, List.mem_of_getElem? (i := 797) (by decide +kernel), List.mem_of_getElem? (i := 962) (by decide +kernel), List.mem_of_getElem? (i := 963) (by decide +kernel)⟩
theorem lw_p30 : lw_okq (⟨"HoleFillerModel", "refuses", "(II)Z"⟩, 40) := ⟨⟨by decide +kernel, by decide +kernel⟩, List.mem_of_getElem? (i := 797) (by decide +kernel), List.mem_of_getElem? (i := 970) (by decide +kernel), List.mem_of_getElem? (i := 971) (by decide +kernel)⟩
theorem lw_p31 : lw_okq (⟨"HoleFillerModel", "isWhole", "(I)Z"⟩, 40) := ⟨⟨by decide +kernel, by decide +kernel⟩, List.mem_of_getElem? (i := 797) (by decide +kernel), List.mem_of_getElem? (i := 974) (by decide +kernel), List.mem_of_getElem? (i := 975) (by decide +kernel)⟩
def lw_privs_2 : List (MethodName × Nat) := [(⟨"HoleFiller$Unifier", "dropForeign", "(LHoleFiller$Cursor;)I"⟩, 9), (⟨"HoleFiller$Unifier", "dueAfter", "(LHoleFiller$Cursor;I)I"⟩, 9), (⟨"HoleFiller$Unifier", "copyTerm", "(LHoleFiller$Cursor;LHoleFiller$Cursor;)V"⟩, 9), (⟨"HoleFiller$Unifier", "copyHere", "(LHoleFiller$Cursor;LHoleFiller$Cursor;)V"⟩, 9), (⟨"HoleFiller$Unifier", "inside", "(LHoleFiller$Cursor;II)I"⟩, 9), (⟨"HoleFiller$Holes", "sumFrom", "(II)I"⟩, 9), (⟨"HoleFiller$Reader", "takeHole", "(LHoleFiller$Cursor;)V"⟩, 5), (⟨"HoleFiller$Reader", "append", "(I)V"⟩, 5), (⟨"HoleFiller", "refuseUntold", "(I)V"⟩, 9), (⟨"HoleFiller$Cursor", "bitOf", "(I)I"⟩, 12), (⟨"HoleFillerModel", "fails", "(ZZ)Z"⟩, 40), (⟨"HoleFillerModel", "fits", "(III)Z"⟩, 40), (⟨"HoleFillerModel", "isTooWide", "(III)Z"⟩, 40), (⟨"HoleFillerModel", "wait", "(III)V"⟩, 40), (⟨"HoleFillerModel", "refuses", "(II)Z"⟩, 40), (⟨"HoleFillerModel", "isWhole", "(I)Z"⟩, 40)]
theorem lw_r2 : ∀ q ∈ lw_privs_2, lw_okq q := List.forall_mem_cons.mpr ⟨lw_p16, List.forall_mem_cons.mpr ⟨lw_p17, List.forall_mem_cons.mpr ⟨lw_p18, List.forall_mem_cons.mpr ⟨lw_p19, List.forall_mem_cons.mpr ⟨lw_p20, List.forall_mem_cons.mpr ⟨lw_p21, List.forall_mem_cons.mpr ⟨lw_p22, List.forall_mem_cons.mpr ⟨lw_p23, List.forall_mem_cons.mpr ⟨lw_p24, List.forall_mem_cons.mpr ⟨lw_p25, List.forall_mem_cons.mpr ⟨lw_p26, List.forall_mem_cons.mpr ⟨lw_p27, List.forall_mem_cons.mpr ⟨lw_p28, List.forall_mem_cons.mpr ⟨lw_p29, List.forall_mem_cons.mpr ⟨lw_p30, List.forall_mem_cons.mpr ⟨lw_p31, fun _ h => absurd h List.not_mem_nil⟩⟩⟩⟩⟩⟩⟩⟩⟩⟩⟩⟩⟩⟩⟩⟩
theorem lw_p32 : lw_okq (⟨"HoleFillerModel", "slot", "([II)I"⟩, 40) := ⟨⟨by decide +kernel, by decide +kernel⟩, List.mem_of_getElem? (i := 797) (by decide +kernel), List.mem_of_getElem? (i := 978) (by decide +kernel), List.mem_of_getElem? (i := 979) (by decide +kernel)⟩
theorem lw_p33 : lw_okq (⟨"HoleFillerModel", "write", "([II)I"⟩, 40) := ⟨⟨by decide +kernel, by decide +kernel⟩, List.mem_of_getElem? (i := 797) (by decide +kernel), List.mem_of_getElem? (i := 982) (by decide +kernel), List.mem_of_getElem? (i := 983) (by decide +kernel)⟩
theorem lw_p34 : lw_okq (⟨"HoleFillerModel", "again", "([II)I"⟩, 40) := ⟨⟨by decide +kernel, by decide +kernel⟩, List.mem_of_getElem? (i := 797) (by decide +kernel), List.mem_of_getElem? (i := 986) (by decide +kernel), List.mem_of_getElem? (i := 987) (by decide +kernel)⟩
theorem lw_p35 : lw_okq (⟨"HoleFillerModel", "measure", "([III)V"⟩, 40) := ⟨⟨by decide +kernel, by decide +kernel⟩, List.mem_of_getElem? (i := 797) (by decide +kernel), List.mem_of_getElem? (i := 993) (by decide +kernel), List.mem_of_getElem? (i := 994) (by decide +kernel)⟩
theorem lw_p36 : lw_okq (⟨"HoleFillerModel", "equation", "([III[III)V"⟩, 40) := ⟨⟨by decide +kernel, by decide +kernel⟩, List.mem_of_getElem? (i := 797) (by decide +kernel), List.mem_of_getElem? (i := 997) (by decide +kernel), List.mem_of_getElem? (i := 998) (by decide +kernel)⟩
theorem lw_p37 : lw_okq (⟨"HoleFillerModel", "step", "()I"⟩, 40) := ⟨⟨by decide +kernel, by decide +kernel⟩, List.mem_of_getElem? (i := 797) (by decide +kernel), List.mem_of_getElem? (i := 1001) (by decide +kernel), List.mem_of_getElem? (i := 1002) (by decide +kernel)⟩
theorem lw_p38 : lw_okq (⟨"HoleFillerModel", "same", "()I"⟩, 40) := ⟨⟨by decide +kernel, by decide +kernel⟩, List.mem_of_getElem? (i := 797) (by decide +kernel), List.mem_of_getElem? (i := 1005) (by decide +kernel), List.mem_of_getElem? (i := 1006) (by decide +kernel)⟩
theorem lw_p39 : lw_okq (⟨"HoleFillerModel", "isFull", "()Z"⟩, 40) := ⟨⟨by decide +kernel, by decide +kernel⟩, List.mem_of_getElem? (i := 797) (by decide +kernel), List.mem_of_getElem? (i := 1009) (by decide +kernel), List.mem_of_getElem? (i := 1010) (by decide +kernel)⟩
theorem lw_p40 : lw_okq (⟨"HoleFillerModel", "make", "(I)I"⟩, 40) := ⟨⟨by decide +kernel, by decide +kernel⟩, List.mem_of_getElem? (i := 797) (by decide +kernel), List.mem_of_getElem? (i := 1013) (by decide +kernel), List.mem_of_getElem? (i := 1014) (by decide +kernel)⟩
theorem lw_p41 : lw_okq (⟨"HoleFillerModel", "pass", "(II[II)V"⟩, 40) := ⟨⟨by decide +kernel, by decide +kernel⟩, List.mem_of_getElem? (i := 797) (by decide +kernel), List.mem_of_getElem? (i := 1017) (by decide +kernel), List.mem_of_getElem? (i := 1018) (by decide +kernel)⟩
theorem lw_p42 : lw_okq (⟨"HoleFillerModel", "both", "()I"⟩, 40) := ⟨⟨by decide +kernel, by decide +kernel⟩, List.mem_of_getElem? (i := 797) (by decide +kernel), List.mem_of_getElem? (i := 1021) (by decide +kernel), List.mem_of_getElem? (i := 1022) (by decide +kernel)⟩
theorem lw_p43 : lw_okq (⟨"HoleFillerModel", "fill", "([I[II)I"⟩, 40) := ⟨⟨by decide +kernel, by decide +kernel⟩, List.mem_of_getElem? (i := 797) (by decide +kernel), List.mem_of_getElem? (i := 1028) (by decide +kernel), List.mem_of_getElem? (i := 1029) (by decide +kernel)⟩
theorem lw_p44 : lw_okq (⟨"HoleFillerModel", "hindrance", "([I[II)I"⟩, 40) := ⟨⟨by decide +kernel, by decide +kernel⟩, List.mem_of_getElem? (i := 797) (by decide +kernel), List.mem_of_getElem? (i := 1032) (by decide +kernel), List.mem_of_getElem? (i := 1033) (by decide +kernel)⟩
theorem lw_p45 : lw_okq (⟨"HoleFillerModel", "fullSize", "(I)I"⟩, 40) := ⟨⟨by decide +kernel, by decide +kernel⟩, List.mem_of_getElem? (i := 797) (by decide +kernel), List.mem_of_getElem? (i := 1039) (by decide +kernel), List.mem_of_getElem? (i := 1040) (by decide +kernel)⟩
theorem lw_p46 : lw_okq (⟨"HoleFillerModel", "parts", "(I)I"⟩, 40) := ⟨⟨by decide +kernel, by decide +kernel⟩, List.mem_of_getElem? (i := 797) (by decide +kernel), List.mem_of_getElem? (i := 1043) (by decide +kernel), List.mem_of_getElem? (i := 1044) (by decide +kernel)⟩
theorem lw_p47 : lw_okq (⟨"HoleFillerModel", "partEnd", "([II)I"⟩, 40) := ⟨⟨by decide +kernel, by decide +kernel⟩, List.mem_of_getElem? (i := 797) (by decide +kernel), List.mem_of_getElem? (i := 1047) (by decide +kernel), List.mem_of_getElem? (i := 1048) (by decide +kernel)⟩
def lw_privs_3 : List (MethodName × Nat) := [(⟨"HoleFillerModel", "slot", "([II)I"⟩, 40), (⟨"HoleFillerModel", "write", "([II)I"⟩, 40), (⟨"HoleFillerModel", "again", "([II)I"⟩, 40), (⟨"HoleFillerModel", "measure", "([III)V"⟩, 40), (⟨"HoleFillerModel", "equation", "([III[III)V"⟩, 40), (⟨"HoleFillerModel", "step", "()I"⟩, 40), (⟨"HoleFillerModel", "same", "()I"⟩, 40), (⟨"HoleFillerModel", "isFull", "()Z"⟩, 40), (⟨"HoleFillerModel", "make", "(I)I"⟩, 40), (⟨"HoleFillerModel", "pass", "(II[II)V"⟩, 40), (⟨"HoleFillerModel", "both", "()I"⟩, 40), (⟨"HoleFillerModel", "fill", "([I[II)I"⟩, 40), (⟨"HoleFillerModel", "hindrance", "([I[II)I"⟩, 40), (⟨"HoleFillerModel", "fullSize", "(I)I"⟩, 40), (⟨"HoleFillerModel", "parts", "(I)I"⟩, 40), (⟨"HoleFillerModel", "partEnd", "([II)I"⟩, 40)]
theorem lw_r3 : ∀ q ∈ lw_privs_3, lw_okq q := List.forall_mem_cons.mpr ⟨lw_p32, List.forall_mem_cons.mpr ⟨lw_p33, List.forall_mem_cons.mpr ⟨lw_p34, List.forall_mem_cons.mpr ⟨lw_p35, List.forall_mem_cons.mpr ⟨lw_p36, List.forall_mem_cons.mpr ⟨lw_p37, List.forall_mem_cons.mpr ⟨lw_p38, List.forall_mem_cons.mpr ⟨lw_p39, List.forall_mem_cons.mpr ⟨lw_p40, List.forall_mem_cons.mpr ⟨lw_p41, List.forall_mem_cons.mpr ⟨lw_p42, List.forall_mem_cons.mpr ⟨lw_p43, List.forall_mem_cons.mpr ⟨lw_p44, List.forall_mem_cons.mpr ⟨lw_p45, List.forall_mem_cons.mpr ⟨lw_p46, List.forall_mem_cons.mpr ⟨lw_p47, fun _ h => absurd h List.not_mem_nil⟩⟩⟩⟩⟩⟩⟩⟩⟩⟩⟩⟩⟩⟩⟩⟩
theorem lw_p48 : lw_okq (⟨"HoleFillerModel", "rank", "(I[II)V"⟩, 40) := ⟨⟨by decide +kernel, by decide +kernel⟩, List.mem_of_getElem? (i := 797) (by decide +kernel), List.mem_of_getElem? (i := 1055) (by decide +kernel), List.mem_of_getElem? (i := 1056) (by decide +kernel)⟩
def lw_privs_4 : List (MethodName × Nat) := [(⟨"HoleFillerModel", "rank", "(I[II)V"⟩, 40)]
theorem lw_r4 : ∀ q ∈ lw_privs_4, lw_okq q := List.forall_mem_cons.mpr ⟨lw_p48, fun _ h => absurd h List.not_mem_nil⟩
def lw_privs : List (MethodName × Nat) := lw_privs_1 ++ (lw_privs_2 ++ (lw_privs_3 ++ (lw_privs_4)))
def lw_tbl : List Cond := k2_sels lw_privs ++ tables_1
theorem lw_privs_ok : ∀ q ∈ lw_privs, lw_okq q := by
  show ∀ q ∈ lw_privs_1 ++ (lw_privs_2 ++ (lw_privs_3 ++ (lw_privs_4))), lw_okq q
  exact List.forall_mem_append.mpr ⟨lw_r1, List.forall_mem_append.mpr ⟨lw_r2, List.forall_mem_append.mpr ⟨lw_r3, lw_r4⟩⟩⟩
end
section
/-! THE TABLES: the words that ride over calls, the classes and their fields, the arrays' types, what else is taken along. Written by wip/whole/gen_tables.py. -/
def m_Ts : List Cond := lw_tbl.filter goodWord
theorem m_Ts_good : ∀ w ∈ m_Ts, goodWord w = true := fun _ h => (List.mem_filter.mp h).2
theorem m_mem {i : Nat} {w : Cond} (h : lw_tbl[i]? = some w) (hg : goodWord w = true) : w ∈ m_Ts := List.mem_filter.mpr ⟨List.mem_of_getElem? h, hg⟩
def tfH : u_T := fun k => match k with
  | 0 => ("HoleFiller", "operations", "LHoleFiller$Operations;", true)
  | 1 => ("HoleFiller", "holes", "LHoleFiller$Holes;", true)
  | 2 => ("HoleFiller", "slots", "[LHoleFiller$Slot;", true)
  | 3 => ("HoleFiller", "left", "LHoleFiller$Cursor;", true)
  | 4 => ("HoleFiller", "right", "LHoleFiller$Cursor;", true)
  | 5 => ("HoleFiller", "unifier", "LHoleFiller$Unifier;", true)
  | 6 => ("HoleFiller", "reader", "LHoleFiller$Reader;", true)
  | 7 => ("HoleFiller", "unifiedWithout", "I", false)
  | _ => ("HoleFiller", "unifiedWith", "I", false)
def tfC : u_T := fun k => match k with
  | 0 => ("HoleFiller$Cells", "codes", "[I", false)
  | 1 => ("HoleFiller$Cells", "bounds", "[I", false)
  | _ => ("HoleFiller$Cells", "top", "I", false)
def tfU : u_T := fun k => match k with
  | 0 => ("HoleFiller$Cursor", "cells", "LHoleFiller$Cells;", true)
  | 1 => ("HoleFiller$Cursor", "holes", "LHoleFiller$Holes;", true)
  | 2 => ("HoleFiller$Cursor", "next", "[I", true)
  | 3 => ("HoleFiller$Cursor", "end", "[I", true)
  | 4 => ("HoleFiller$Cursor", "boundAbove", "[I", true)
  | 5 => ("HoleFiller$Cursor", "images", "[I", true)
  | 6 => ("HoleFiller$Cursor", "top", "I", false)
  | 7 => ("HoleFiller$Cursor", "sort", "I", false)
  | 8 => ("HoleFiller$Cursor", "number", "I", false)
  | 9 => ("HoleFiller$Cursor", "bound", "I", false)
  | 10 => ("HoleFiller$Cursor", "variables", "[I", true)
  | _ => ("HoleFiller$Cursor", "variableCount", "I", false)
def tfG : u_T := fun k => match k with
  | 0 => ("HoleFiller$Holes", "cells", "LHoleFiller$Cells;", true)
  | 1 => ("HoleFiller$Holes", "parameters", "[I", true)
  | 2 => ("HoleFiller$Holes", "from", "[I", true)
  | 3 => ("HoleFiller$Holes", "to", "[I", true)
  | 4 => ("HoleFiller$Holes", "sizes", "[I", true)
  | 5 => ("HoleFiller$Holes", "order", "[I", true)
  | 6 => ("HoleFiller$Holes", "told", "I", false)
  | 7 => ("HoleFiller$Holes", "made", "I", false)
  | _ => ("HoleFiller$Holes", "filled", "I", false)
def tfO : u_T := fun k => match k with
  | 0 => ("HoleFiller$Operations", "arity", "[I", true)
  | 1 => ("HoleFiller$Operations", "binds", "[I", true)
  | _ => ("HoleFiller$Operations", "told", "I", false)
def tfR : u_T := fun k => match k with
  | 0 => ("HoleFiller$Reader", "items", "[I", false)
  | 1 => ("HoleFiller$Reader", "length", "I", false)
  | 2 => ("HoleFiller$Reader", "openHoles", "I", false)
  | 3 => ("HoleFiller$Reader", "names", "[I", true)
  | _ => ("HoleFiller$Reader", "orders", "[I", true)
def tfS : u_T := fun k => match k with
  | 0 => ("HoleFiller$Slot", "cells", "LHoleFiller$Cells;", true)
  | 1 => ("HoleFiller$Slot", "from", "I", true)
  | 2 => ("HoleFiller$Slot", "due", "[I", true)
  | 3 => ("HoleFiller$Slot", "dueCount", "I", false)
  | 4 => ("HoleFiller$Slot", "depth", "I", false)
  | 5 => ("HoleFiller$Slot", "length", "I", false)
  | 6 => ("HoleFiller$Slot", "ownSize", "I", false)
  | 7 => ("HoleFiller$Slot", "holeVariablesDue", "I", false)
  | 8 => ("HoleFiller$Slot", "holeVariablesFrom", "I", false)
  | _ => ("HoleFiller$Slot", "holeBound", "I", false)
def tfN : u_T := fun k => match k with
  | 0 => ("HoleFiller$Unifier", "cells", "LHoleFiller$Cells;", true)
  | 1 => ("HoleFiller$Unifier", "holes", "LHoleFiller$Holes;", true)
  | 2 => ("HoleFiller$Unifier", "operations", "LHoleFiller$Operations;", true)
  | 3 => ("HoleFiller$Unifier", "left", "LHoleFiller$Cursor;", true)
  | 4 => ("HoleFiller$Unifier", "right", "LHoleFiller$Cursor;", true)
  | 5 => ("HoleFiller$Unifier", "scout", "LHoleFiller$Cursor;", true)
  | 6 => ("HoleFiller$Unifier", "kept", "[I", true)
  | 7 => ("HoleFiller$Unifier", "keptRight", "[I", true)
  | _ => ("HoleFiller$Unifier", "termSize", "I", false)
def tfD : u_T := fun k => match k with
  | 0 => ("HoleFillerModel", "code", "I", false)
  | 1 => ("HoleFillerModel", "operations", "I", false)
  | 2 => ("HoleFillerModel", "told", "I", false)
  | 3 => ("HoleFillerModel", "fresh", "I", false)
  | 4 => ("HoleFillerModel", "arguments", "[I", true)
  | 5 => ("HoleFillerModel", "binds", "[I", true)
  | 6 => ("HoleFillerModel", "parameters", "[I", true)
  | 7 => ("HoleFillerModel", "length", "[I", true)
  | 8 => ("HoleFillerModel", "filling", "[I", true)
  | 9 => ("HoleFillerModel", "filled", "[Z", true)
  | 10 => ("HoleFillerModel", "was", "[Z", true)
  | 11 => ("HoleFillerModel", "items", "[I", true)
  | 12 => ("HoleFillerModel", "many", "[I", true)
  | 13 => ("HoleFillerModel", "sizes", "[I", true)
  | 14 => ("HoleFillerModel", "depths", "[I", true)
  | 15 => ("HoleFillerModel", "due", "[I", true)
  | 16 => ("HoleFillerModel", "kinds", "[I", true)
  | 17 => ("HoleFillerModel", "places", "[I", true)
  | 18 => ("HoleFillerModel", "begun", "[Z", true)
  | 19 => ("HoleFillerModel", "one", "[I", true)
  | 20 => ("HoleFillerModel", "two", "[I", true)
  | 21 => ("HoleFillerModel", "spare", "[I", true)
  | 22 => ("HoleFillerModel", "deep", "[I", true)
  | 23 => ("HoleFillerModel", "left", "[I", true)
  | 24 => ("HoleFillerModel", "at", "[I", true)
  | 25 => ("HoleFillerModel", "pile", "[I", true)
  | 26 => ("HoleFillerModel", "begins", "[I", true)
  | 27 => ("HoleFillerModel", "middles", "[I", true)
  | 28 => ("HoleFillerModel", "ends", "[I", true)
  | 29 => ("HoleFillerModel", "oneLong", "I", false)
  | 30 => ("HoleFillerModel", "twoLong", "I", false)
  | 31 => ("HoleFillerModel", "equations", "I", false)
  | 32 => ("HoleFillerModel", "mapped", "[I", true)
  | 33 => ("HoleFillerModel", "readItems", "[I", true)
  | 34 => ("HoleFillerModel", "numbers", "[I", true)
  | 35 => ("HoleFillerModel", "orders", "[I", true)
  | 36 => ("HoleFillerModel", "readLong", "I", false)
  | 37 => ("HoleFillerModel", "readHoles", "I", false)
  | 38 => ("HoleFillerModel", "good", "I", false)
  | _ => ("HoleFillerModel", "bad", "I", false)
def m_cl : List vw_C := [("HoleFiller", tfH, 9), ("HoleFiller$Cells", tfC, 3), ("HoleFiller$Cursor", tfU, 12), ("HoleFiller$Holes", tfG, 9), ("HoleFiller$Operations", tfO, 3), ("HoleFiller$Reader", tfR, 5), ("HoleFiller$Slot", tfS, 10), ("HoleFiller$Unifier", tfN, 9), ("HoleFillerModel", tfD, 40)]
def m_tys (ac : Nat → ClassId) : List (ClassId × FieldType) := [(ac 0, .int), (ac 1, .boolean), (ac 2, .long), (ac 9, .object "HoleFiller$Slot")]
def m_strs : List (String × Nat × String) := [("HoleFiller", 71, "an argument binds 0 to 2 variables"), ("HoleFiller", 76, "an argument behind one that is not there"), ("HoleFiller", 82, "a hole has 0 to 4 parameters"), ("HoleFiller", 211, "no such slot"), ("HoleFiller", 91, "a depth is 0 to 6"), ("HoleFiller", 103, "no item is due"), ("HoleFiller", 110, "this item can't stand there"), ("HoleFiller", 231, "a term is not whole"), ("HoleFiller", 236, "the terms have other depths"), ("HoleFiller", 160, "no such item was read"), ("HoleFiller", 241, "no such hole was told")]
def m_nestF : List (String × Nat × String × String × String × String) := [("HoleFiller$Unifier", 110, "HoleFiller$Cells", "top", "I", "HoleFiller"), ("HoleFiller$Holes", 46, "HoleFiller$Cells", "top", "I", "HoleFiller"), ("HoleFiller", 207, "HoleFiller$Operations", "told", "I", "HoleFiller"), ("HoleFiller$Cursor", 95, "HoleFiller$Holes", "from", "[I", "HoleFiller"), ("HoleFiller", 192, "HoleFiller$Holes", "from", "[I", "HoleFiller"), ("HoleFiller$Cursor", 98, "HoleFiller$Holes", "to", "[I", "HoleFiller"), ("HoleFiller", 195, "HoleFiller$Holes", "to", "[I", "HoleFiller"), ("HoleFiller", 186, "HoleFiller$Holes", "sizes", "[I", "HoleFiller"), ("HoleFiller", 204, "HoleFiller$Holes", "told", "I", "HoleFiller"), ("HoleFiller", 136, "HoleFiller$Holes", "made", "I", "HoleFiller"), ("HoleFiller", 132, "HoleFiller$Holes", "filled", "I", "HoleFiller"), ("HoleFiller", 238, "HoleFiller$Slot", "from", "I", "HoleFiller"), ("HoleFiller", 233, "HoleFiller$Slot", "depth", "I", "HoleFiller"), ("HoleFiller", 240, "HoleFiller$Slot", "length", "I", "HoleFiller"), ("HoleFiller", 219, "HoleFiller$Slot", "ownSize", "I", "HoleFiller"), ("HoleFiller$Unifier", 50, "HoleFiller$Cursor", "sort", "I", "HoleFiller"), ("HoleFiller$Reader", 41, "HoleFiller$Cursor", "sort", "I", "HoleFiller"), ("HoleFiller$Reader", 48, "HoleFiller$Cursor", "number", "I", "HoleFiller"), ("HoleFiller$Unifier", 54, "HoleFiller$Cursor", "number", "I", "HoleFiller"), ("HoleFiller$Unifier", 142, "HoleFiller$Cursor", "bound", "I", "HoleFiller"), ("HoleFiller$Unifier", 75, "HoleFiller$Cursor", "variables", "[I", "HoleFiller"), ("HoleFiller$Reader", 74, "HoleFiller$Cursor", "variables", "[I", "HoleFiller"), ("HoleFiller$Unifier", 72, "HoleFiller$Cursor", "variableCount", "I", "HoleFiller"), ("HoleFiller$Reader", 71, "HoleFiller$Cursor", "variableCount", "I", "HoleFiller"), ("HoleFiller", 163, "HoleFiller$Reader", "items", "[I", "HoleFiller"), ("HoleFiller", 155, "HoleFiller$Reader", "length", "I", "HoleFiller"), ("HoleFiller", 208, "HoleFiller$Reader", "openHoles", "I", "HoleFiller")]
def m_nestM : List (String × Nat × MethodName × String) := [("HoleFiller", 11, ⟨"HoleFiller$Cells", "<init>", "()V"⟩, "HoleFiller"), ("HoleFiller", 14, ⟨"HoleFiller$Operations", "<init>", "()V"⟩, "HoleFiller"), ("HoleFiller", 60, ⟨"HoleFiller$Reader", "<init>", "()V"⟩, "HoleFiller"), ("HoleFiller$Holes", 42, ⟨"HoleFiller", "at", "([II)I"⟩, "HoleFiller"), ("HoleFiller$Holes", 35, ⟨"HoleFiller", "set", "([III)V"⟩, "HoleFiller"), ("HoleFiller$Operations", 34, ⟨"HoleFiller", "at", "([II)I"⟩, "HoleFiller"), ("HoleFiller$Operations", 30, ⟨"HoleFiller", "set", "([III)V"⟩, "HoleFiller"), ("HoleFiller$Slot", 35, ⟨"HoleFiller", "set", "([III)V"⟩, "HoleFiller"), ("HoleFiller$Slot", 56, ⟨"HoleFiller", "at", "([II)I"⟩, "HoleFiller"), ("HoleFiller$Cells", 22, ⟨"HoleFiller", "at", "([II)I"⟩, "HoleFiller"), ("HoleFiller$Slot", 72, ⟨"HoleFiller", "numberOf", "(I)I"⟩, "HoleFiller"), ("HoleFiller$Slot", 75, ⟨"HoleFiller", "codeOf", "(II)I"⟩, "HoleFiller"), ("HoleFiller$Cells", 26, ⟨"HoleFiller", "set", "([III)V"⟩, "HoleFiller"), ("HoleFiller$Cursor", 39, ⟨"HoleFiller", "set", "([III)V"⟩, "HoleFiller"), ("HoleFiller$Cursor", 43, ⟨"HoleFiller", "at", "([II)I"⟩, "HoleFiller"), ("HoleFiller$Cursor", 72, ⟨"HoleFiller", "sortOf", "(I)I"⟩, "HoleFiller"), ("HoleFiller$Cursor", 75, ⟨"HoleFiller", "numberOf", "(I)I"⟩, "HoleFiller"), ("HoleFiller$Unifier", 78, ⟨"HoleFiller", "at", "([II)I"⟩, "HoleFiller"), ("HoleFiller$Unifier", 82, ⟨"HoleFiller", "set", "([III)V"⟩, "HoleFiller"), ("HoleFiller$Holes", 51, ⟨"HoleFiller", "codeOf", "(II)I"⟩, "HoleFiller"), ("HoleFiller$Unifier", 152, ⟨"HoleFiller", "codeOf", "(II)I"⟩, "HoleFiller"), ("HoleFiller$Holes", 86, ⟨"HoleFiller", "sortOf", "(I)I"⟩, "HoleFiller"), ("HoleFiller$Holes", 89, ⟨"HoleFiller", "numberOf", "(I)I"⟩, "HoleFiller"), ("HoleFiller$Reader", 59, ⟨"HoleFiller", "at", "([II)I"⟩, "HoleFiller"), ("HoleFiller$Reader", 63, ⟨"HoleFiller", "set", "([III)V"⟩, "HoleFiller"), ("HoleFiller$Reader", 51, ⟨"HoleFiller", "codeOf", "(II)I"⟩, "HoleFiller")]
def m_aos : List String := ["HoleFiller$Slot"]
def m_ncs : List (String × String) := [("java/lang/IllegalArgumentException", "java/lang/IllegalStateException"), ("java/lang/IllegalStateException", "java/lang/IllegalArgumentException")]
def m_cas : List (String × String) := [("java/lang/IllegalArgumentException", "java/lang/IllegalArgumentException"), ("java/lang/IllegalStateException", "java/lang/IllegalStateException"), ("java/lang/IndexOutOfBoundsException", "java/lang/IndexOutOfBoundsException")]
def m_decl : List MethodName := [⟨"java/lang/RuntimeException", "<init>", "()V"⟩, ⟨"java/lang/RuntimeException", "<init>", "(Ljava/lang/String;)V"⟩, ⟨"java/lang/Exception", "<init>", "()V"⟩, ⟨"java/lang/Exception", "<init>", "(Ljava/lang/String;)V"⟩, ⟨"java/lang/Throwable", "<init>", "()V"⟩, ⟨"java/lang/Throwable", "<init>", "(Ljava/lang/String;)V"⟩]
theorem m_Ts_int : Cond.arrayClass .int ∈ m_Ts := m_mem (i := 94) (by decide +kernel) rfl
theorem m_Ts_bool : Cond.arrayClass .boolean ∈ m_Ts := m_mem (i := 974) (by decide +kernel) rfl
theorem m_Ts_long : Cond.arrayClass .long ∈ m_Ts := m_mem (i := 1131) (by decide +kernel) rfl
end
section
/-! THE CLEAN LOGIC. Values, cells and heaps without addresses: a reference is the number of its place in the heap, a heap a list of cells. 'Ev' says of a method's place, locals, stack and heap that the machine comes to its end with Q, whatever the addresses are. One row an instruction; calls by Ev of the callee's entry. -/
/-- an int, a long, a reference by its place (none: null), the law's script -/
abbrev MV : Type := Int32 ⊕ Int64 ⊕ Option Nat ⊕ Unit
/-- ints (0) and booleans (1), longs, references (number of the elements' class), an object (number of its class, its fields) -/
abbrev MC : Type := (Nat × Nat × (Nat → Int32)) ⊕ (Nat × (Nat → Int64)) ⊕ (Nat × Nat × (Nat → Option Nat)) ⊕ (Nat × List MV)
abbrev ML : Type := List (Nat × MV)
/-- returned, or thrown an object of the class -/
abbrev MO : Type := Option MV ⊕ String
abbrev mi (x : Int32) : MV := .inl x
abbrev ml (x : Int64) : MV := .inr (.inl x)
abbrev mr (p : Nat) : MV := .inr (.inr (.inl (some p)))
abbrev mn : MV := .inr (.inr (.inl none))
abbrev msc : MV := .inr (.inr (.inr ()))
abbrev cI (n : Nat) (f : Nat → Int32) : MC := .inl (0, n, f)
abbrev cZ (n : Nat) (f : Nat → Int32) : MC := .inl (1, n, f)
abbrev cL (n : Nat) (f : Nat → Int64) : MC := .inr (.inl (n, f))
abbrev cR (ci n : Nat) (f : Nat → Option Nat) : MC := .inr (.inr (.inl (ci, n, f)))
abbrev cO (ci : Nat) (fs : List MV) : MC := .inr (.inr (.inr (ci, fs)))
/-- the script: its address, length, contents -/
abbrev MS : Type := Option (Nat × Nat × (Nat → Int32))
def m_v (al : List Nat) (sc : MS) : MV → Option Value
  | .inl x => some (.int x)
  | .inr (.inl x) => some (.long x)
  | .inr (.inr (.inl none)) => some .null
  | .inr (.inr (.inl (some p))) => (al[p]?).map Value.ref
  | .inr (.inr (.inr _)) => sc.map (fun q => Value.ref q.1)
def m_cat : MV → Nat
  | .inr (.inl _) => 2
  | _ => 1
theorem m_v_cat {al : List Nat} {sc : MS} {v : MV} {V : Value} (h : m_v al sc v = some V) : V.category = m_cat v := by
  rcases v with x | x | (_ | p) | u
  · cases h; rfl
  · cases h; rfl
  · cases h; rfl
  · simp only [m_v, Option.map_eq_some_iff] at h
    obtain ⟨a, -, rfl⟩ := h
    rfl
  · simp only [m_v, Option.map_eq_some_iff] at h
    obtain ⟨a, -, rfl⟩ := h
    rfl
/-- more places: what was there stays -/
def m_le (al al' : List Nat) : Prop := ∃ x, al' = al ++ x
theorem m_le.rf {al : List Nat} : m_le al al := ⟨[], (List.append_nil al).symm⟩
theorem m_le.tr {a b c : List Nat} (h : m_le a b) (k : m_le b c) : m_le a c := by
  obtain ⟨x, rfl⟩ := h
  obtain ⟨y, rfl⟩ := k
  exact ⟨x ++ y, List.append_assoc a x y⟩
theorem m_le.at {a b : List Nat} (h : m_le a b) {p q : Nat} (hp : a[p]? = some q) : b[p]? = some q := by
  obtain ⟨x, rfl⟩ := h
  have hl := (List.getElem?_eq_some_iff.mp hp).1
  rw [List.getElem?_append_left hl]
  exact hp
theorem m_v_le {al al' : List Nat} {sc : MS} {v : MV} {V : Value} (hl : m_le al al') (h : m_v al sc v = some V) : m_v al' sc v = some V := by
  rcases v with x | x | (_ | p) | u
  · exact h
  · exact h
  · exact h
  · simp only [m_v, Option.map_eq_some_iff] at h ⊢
    obtain ⟨a, h1, h2⟩ := h
    exact ⟨a, hl.at h1, h2⟩
  · exact h
theorem m_v_sc {al : List Nat} {sc : MS} {v : MV} {V : Value} (h : m_v al none v = some V) : m_v al sc v = some V := by
  rcases v with x | x | (_ | p) | u
  · exact h
  · exact h
  · exact h
  · exact h
  · cases h
/-- a list of values, one by one -/
def m_vs (al : List Nat) (sc : MS) (vs : List MV) (VS : List Value) : Prop := vs.map (m_v al sc) = VS.map some
theorem m_vs.nil {al : List Nat} {sc : MS} : m_vs al sc [] [] := rfl
theorem m_vs.cons {al : List Nat} {sc : MS} {v : MV} {V : Value} {vs : List MV} {VS : List Value} (h : m_v al sc v = some V) (k : m_vs al sc vs VS) : m_vs al sc (v :: vs) (V :: VS) := by
  unfold m_vs at *
  rw [List.map_cons, List.map_cons, h, k]
theorem m_vs.inv {al : List Nat} {sc : MS} {v : MV} {vs : List MV} {VS : List Value} (h : m_vs al sc (v :: vs) VS) : ∃ V VS', VS = V :: VS' ∧ m_v al sc v = some V ∧ m_vs al sc vs VS' := by
  cases VS with
  | nil => cases h
  | cons V VS' =>
    unfold m_vs at h
    rw [List.map_cons, List.map_cons] at h
    exact ⟨V, VS', rfl, (List.cons.inj h).1, (List.cons.inj h).2⟩
theorem m_vs.inv0 {al : List Nat} {sc : MS} {VS : List Value} (h : m_vs al sc [] VS) : VS = [] := by
  cases VS with
  | nil => rfl
  | cons V VS' => cases h
theorem m_vs.le {al al' : List Nat} {sc : MS} (hl : m_le al al') : ∀ {vs : List MV} {VS : List Value}, m_vs al sc vs VS → m_vs al' sc vs VS := by
  intro vs
  induction vs with
  | nil => intro VS h; rw [h.inv0]; exact m_vs.nil
  | cons v vs ih =>
    intro VS h
    obtain ⟨V, VS', rfl, h1, h2⟩ := h.inv
    exact m_vs.cons (m_v_le hl h1) (ih h2)
theorem m_vs.sc {al : List Nat} {sc : MS} : ∀ {vs : List MV} {VS : List Value}, m_vs al none vs VS → m_vs al sc vs VS := by
  intro vs
  induction vs with
  | nil => intro VS h; rw [h.inv0]; exact m_vs.nil
  | cons v vs ih =>
    intro VS h
    obtain ⟨V, VS', rfl, h1, h2⟩ := h.inv
    exact m_vs.cons (m_v_sc h1) (ih h2)
theorem m_vs.len {al : List Nat} {sc : MS} {vs : List MV} {VS : List Value} (h : m_vs al sc vs VS) : VS.length = vs.length := by
  have h1 := congrArg List.length h
  rw [List.length_map, List.length_map] at h1
  exact h1.symm
theorem m_vs.at {al : List Nat} {sc : MS} {vs : List MV} {VS : List Value} (h : m_vs al sc vs VS) {k : Nat} {v : MV} (hk : vs[k]? = some v) : ∃ V, VS[k]? = some V ∧ m_v al sc v = some V := by
  have h1 := congrArg (fun l : List (Option Value) => l[k]?) h
  simp only [List.getElem?_map, hk, Option.map_some] at h1
  cases hV : VS[k]? with
  | none => rw [hV] at h1; cases h1
  | some V => rw [hV] at h1; exact ⟨V, rfl, Option.some.inj h1⟩
theorem m_vs.set {al : List Nat} {sc : MS} {vs : List MV} {VS : List Value} (h : m_vs al sc vs VS) {k : Nat} {v : MV} {V : Value} (hv : m_v al sc v = some V) : m_vs al sc (vs.set k v) (VS.set k V) := by
  unfold m_vs at *
  rw [List.map_set, List.map_set, h, hv]
theorem m_vs.app {al : List Nat} {sc : MS} {a b : List MV} {A B : List Value} (h : m_vs al sc a A) (k : m_vs al sc b B) : m_vs al sc (a ++ b) (A ++ B) := by
  unfold m_vs at *
  rw [List.map_append, List.map_append, h, k]
theorem m_vs.split {al : List Nat} {sc : MS} : ∀ {a b : List MV} {VS : List Value}, m_vs al sc (a ++ b) VS → ∃ A B, VS = A ++ B ∧ m_vs al sc a A ∧ m_vs al sc b B := by
  intro a
  induction a with
  | nil => intro b VS h; exact ⟨[], VS, rfl, m_vs.nil, h⟩
  | cons v a ih =>
    intro b VS h
    obtain ⟨V, VS', rfl, h1, h2⟩ := m_vs.inv (show m_vs al sc (v :: (a ++ b)) VS from h)
    obtain ⟨A, B, rfl, h3, h4⟩ := ih h2
    exact ⟨V :: A, B, rfl, m_vs.cons h1 h3, h4⟩
theorem m_vs.rev {al : List Nat} {sc : MS} {vs : List MV} {VS : List Value} (h : m_vs al sc vs VS) : m_vs al sc vs.reverse VS.reverse := by
  unfold m_vs at *
  rw [List.map_reverse, List.map_reverse, h]
theorem m_vs.cats {al : List Nat} {sc : MS} : ∀ {vs : List MV} {VS : List Value}, m_vs al sc vs VS → (VS.map fun v => v.category) = vs.map m_cat := by
  intro vs
  induction vs with
  | nil => intro VS h; rw [h.inv0]; rfl
  | cons v vs ih =>
    intro VS h
    obtain ⟨V, VS', rfl, h1, h2⟩ := h.inv
    rw [List.map_cons, List.map_cons, ih h2, m_v_cat h1]
/-- locals: a list of places and values -/
def m_ls (al : List Nat) (sc : MS) (lv : ML) (LV : List (Nat × Value)) : Prop := lv.map (fun q => (q.1, m_v al sc q.2)) = LV.map (fun q => (q.1, some q.2))
theorem m_ls.nil {al : List Nat} {sc : MS} : m_ls al sc [] [] := rfl
theorem m_ls.cons {al : List Nat} {sc : MS} {i : Nat} {v : MV} {V : Value} {lv : ML} {LV : List (Nat × Value)} (h : m_v al sc v = some V) (k : m_ls al sc lv LV) : m_ls al sc ((i, v) :: lv) ((i, V) :: LV) := by
  unfold m_ls at *
  rw [List.map_cons, List.map_cons, h, k]
theorem m_ls.inv {al : List Nat} {sc : MS} {q : Nat × MV} {lv : ML} {LV : List (Nat × Value)} (h : m_ls al sc (q :: lv) LV) : ∃ V LV', LV = (q.1, V) :: LV' ∧ m_v al sc q.2 = some V ∧ m_ls al sc lv LV' := by
  cases LV with
  | nil => cases h
  | cons Q LV' =>
    unfold m_ls at h
    rw [List.map_cons, List.map_cons] at h
    obtain ⟨h1, h2⟩ := List.cons.inj h
    obtain ⟨i, V⟩ := Q
    have h3 := congrArg Prod.fst h1
    have h4 := congrArg Prod.snd h1
    dsimp only at h3 h4
    subst h3
    exact ⟨V, LV', rfl, h4, h2⟩
theorem m_ls.inv0 {al : List Nat} {sc : MS} {LV : List (Nat × Value)} (h : m_ls al sc [] LV) : LV = [] := by
  cases LV with
  | nil => rfl
  | cons V VS' => cases h
theorem m_ls.le {al al' : List Nat} {sc : MS} (hl : m_le al al') : ∀ {lv : ML} {LV : List (Nat × Value)}, m_ls al sc lv LV → m_ls al' sc lv LV := by
  intro lv
  induction lv with
  | nil => intro LV h; rw [h.inv0]; exact m_ls.nil
  | cons v vs ih =>
    intro LV h
    obtain ⟨V, LV', rfl, h1, h2⟩ := h.inv
    exact m_ls.cons (m_v_le hl h1) (ih h2)
theorem m_ls.at {al : List Nat} {sc : MS} : ∀ {lv : ML} {LV : List (Nat × Value)} {i : Nat} {v : MV}, m_ls al sc lv LV → lv.find? (fun q => q.1 == i) = some (i, v) → ∃ V, (i, V) ∈ LV ∧ m_v al sc v = some V := by
  intro lv
  induction lv with
  | nil => intro LV i v h hf; cases hf
  | cons q lv ih =>
    intro LV i v h hf
    obtain ⟨V, LV', rfl, h1, h2⟩ := h.inv
    rw [List.find?_cons] at hf
    split at hf
    · cases hf
      exact ⟨V, List.mem_cons_self, h1⟩
    · obtain ⟨V2, h3, h4⟩ := ih h2 hf
      exact ⟨V2, List.mem_cons_of_mem _ h3, h4⟩
/-- a local is read -/
def m_get (lv : ML) (i : Nat) : Option MV := (lv.find? (fun q => q.1 == i)).map (fun q => q.2)
theorem m_get_find {lv : ML} {i : Nat} {v : MV} (h : m_get lv i = some v) : lv.find? (fun q => q.1 == i) = some (i, v) := by
  unfold m_get at h
  rw [Option.map_eq_some_iff] at h
  obtain ⟨⟨k, w⟩, h1, h2⟩ := h
  have h3 := List.find?_some h1
  dsimp only at h2 h3
  subst h2
  rw [h1, eq_of_beq h3]
/-- a local is written -/
def m_put (lv : ML) (i : Nat) (v : MV) : ML := (i, v) :: lv.filter (fun q => !(q.1 == i) && !(q.1 + 1 == i && m_cat q.2 == 2))
theorem m_ls.filt {al : List Nat} {sc : MS} {i : Nat} : ∀ {lv : ML} {LV : List (Nat × Value)}, m_ls al sc lv LV → m_ls al sc (lv.filter (fun q => !(q.1 == i) && !(q.1 + 1 == i && m_cat q.2 == 2))) (LV.filter (fun q => !(q.1 == i) && !(q.1 + 1 == i && q.2.category == 2))) := by
  intro lv
  induction lv with
  | nil => intro LV h; rw [h.inv0]; exact m_ls.nil
  | cons q lv ih =>
    intro LV h
    obtain ⟨V, LV', rfl, h1, h2⟩ := h.inv
    rw [List.filter_cons, List.filter_cons]
    have h3 : V.category = m_cat q.2 := m_v_cat h1
    dsimp only
    rw [h3]
    split
    · exact m_ls.cons h1 (ih h2)
    · exact ih h2
/-- a cell of the clean heap and the world's cell -/
def m_c (ac : Nat → ClassId) (al : List Nat) (c : MC) (e : va_E) : Prop := match c with
  | .inl (t, n, f) => e = .inl (ac t, n, .inl f)
  | .inr (.inl (n, f)) => e = .inl (ac 2, n, .inr (.inl f))
  | .inr (.inr (.inl (ci, n, f))) => ∃ F : Nat → Option Nat, e = .inl (ac (3 + ci), n, .inr (.inr (.inr (.inr F)))) ∧ ∀ k : Nat, (f k).map (fun p => al[p]?) = (F k).map some
  | .inr (.inr (.inr (ci, fs))) => ∃ FS : List Value, e = .inr (ci, FS) ∧ m_vs al none fs FS
theorem m_c.le {ac : Nat → ClassId} {al al' : List Nat} (hl : m_le al al') {c : MC} {e : va_E} (h : m_c ac al c e) : m_c ac al' c e := by
  rcases c with ⟨t, n, f⟩ | ⟨n, f⟩ | ⟨ci, n, f⟩ | ⟨ci, fs⟩
  · exact h
  · exact h
  · obtain ⟨F, h1, h2⟩ := h
    refine ⟨F, h1, fun k => ?_⟩
    have h3 := h2 k
    cases hf : f k with
    | none => rw [hf] at h3; exact h3
    | some p =>
      rw [hf] at h3
      cases hF : F k with
      | none => rw [hF] at h3; cases h3
      | some a =>
        rw [hF] at h3
        have h4 : al[p]? = some a := Option.some.inj h3
        show some (al'[p]?) = some (some a)
        rw [hl.at h4]
  · obtain ⟨FS, h1, h2⟩ := h
    exact ⟨FS, h1, h2.le hl⟩
/-- the clean heap and the world: the same places -/
def m_al (ws : va_W) : List Nat := ws.map (fun q => q.1)
def m_W (ac : Nat → ClassId) (h : List MC) (ws : va_W) : Prop := ws.length = h.length ∧ ∀ (p : Nat) (c : MC), h[p]? = some c → ∃ (a : Nat) (e : va_E), ws[p]? = some (a, e) ∧ m_c ac (m_al ws) c e
theorem m_al_at {ws : va_W} {p a : Nat} {e : va_E} (h : ws[p]? = some (a, e)) : (m_al ws)[p]? = some a := by
  unfold m_al
  rw [List.getElem?_map, h]
  rfl
theorem m_al_set {ws : va_W} {p a : Nat} {e0 e : va_E} (h : ws[p]? = some (a, e0)) : m_al (ws.set p (a, e)) = m_al ws := by
  unfold m_al
  rw [List.map_set]
  refine List.ext_getElem? fun i => ?_
  by_cases hi : p = i
  · subst hi
    have hl := (List.getElem?_eq_some_iff.mp h).1
    rw [List.getElem?_set_self (by rw [List.length_map]; exact hl), List.getElem?_map, h]
    rfl
  · rw [List.getElem?_set_ne hi]
theorem m_W.get {ac : Nat → ClassId} {h : List MC} {ws : va_W} (H : m_W ac h ws) {p : Nat} {c : MC} (hp : h[p]? = some c) : ∃ (a : Nat) (e : va_E), ws[p]? = some (a, e) ∧ (m_al ws)[p]? = some a ∧ m_c ac (m_al ws) c e := by
  obtain ⟨a, e, h1, h2⟩ := H.2 p c hp
  exact ⟨a, e, h1, m_al_at h1, h2⟩
theorem m_W.set {ac : Nat → ClassId} {h : List MC} {ws : va_W} (H : m_W ac h ws) {p a : Nat} {c : MC} {e0 e : va_E} (hp : ws[p]? = some (a, e0)) (hc : m_c ac (m_al ws) c e) : m_W ac (h.set p c) (ws.set p (a, e)) := by
  refine ⟨by rw [List.length_set, List.length_set]; exact H.1, fun i ci hi => ?_⟩
  rw [m_al_set hp]
  by_cases hip : p = i
  · subst hip
    have hl := (List.getElem?_eq_some_iff.mp hp).1
    have hl2 : p < h.length := by rw [← H.1]; exact hl
    rw [List.getElem?_set_self hl2] at hi
    cases hi
    exact ⟨a, e, List.getElem?_set_self hl, hc⟩
  · rw [List.getElem?_set_ne hip] at hi
    obtain ⟨a1, e1, h1, h2⟩ := H.2 i ci hi
    exact ⟨a1, e1, by rw [List.getElem?_set_ne hip]; exact h1, h2⟩
theorem m_al_push (ws : va_W) (q : Nat) (e : va_E) : m_al (ws ++ [(q, e)]) = m_al ws ++ [q] := by
  unfold m_al
  rw [List.map_append]
  rfl
theorem m_le_push (ws : va_W) (q : Nat) (e : va_E) : m_le (m_al ws) (m_al (ws ++ [(q, e)])) := ⟨[q], m_al_push ws q e⟩
theorem m_W.push {ac : Nat → ClassId} {h : List MC} {ws : va_W} (H : m_W ac h ws) {q : Nat} {c : MC} {e : va_E} (hc : m_c ac (m_al ws) c e) : m_W ac (h ++ [c]) (ws ++ [(q, e)]) := by
  refine ⟨by rw [List.length_append, List.length_append, H.1]; rfl, fun i ci hi => ?_⟩
  by_cases hl : i < h.length
  · rw [List.getElem?_append_left hl] at hi
    obtain ⟨a1, e1, h1, h2⟩ := H.2 i ci hi
    exact ⟨a1, e1, by rw [List.getElem?_append_left (by rw [H.1]; exact hl)]; exact h1, h2.le (m_le_push ws q e)⟩
  · rw [List.getElem?_append_right (by omega)] at hi
    have hz : i - h.length < 1 := (List.getElem?_eq_some_iff.mp hi).1
    have hi0 : i = h.length := by omega
    subst hi0
    rw [Nat.sub_self] at hi
    cases hi
    refine ⟨q, e, ?_, hc.le (m_le_push ws q e)⟩
    rw [List.getElem?_append_right (by rw [H.1]; exact Nat.le_refl _), H.1, Nat.sub_self]
    rfl
theorem m_al_new {ac : Nat → ClassId} {h : List MC} {ws : va_W} (H : m_W ac h ws) (q : Nat) (e : va_E) : (m_al (ws ++ [(q, e)]))[h.length]? = some q := by
  refine m_al_at (e := e) ?_
  rw [List.getElem?_append_right (by rw [H.1]; exact Nat.le_refl _), H.1, Nat.sub_self]
  rfl
/-- a method: name, bytes, locals, type of its answer, table of handlers -/
abbrev MM : Type := MethodName × ByteArray × Nat × Option FieldType × List (Nat × Nat × Nat × Nat)
/-- launch, classes and slots, array classes -/
abbrev MG : Type := Launch × va_G × (Nat → ClassId)
def m_Fr (M : MM) (p : Program) (s : State) (m : MethodId) (args : Array Value) (meth : Method) (c : Code) : Prop :=
  p.tables.exec = Jvm.exec ∧ c.code = M.2.1 ∧ meth.sig.returnType = M.2.2.2.1 ∧ meth.locks = false ∧ c.maxLocals = M.2.2.1 ∧ s.vm.findClass M.1.cls = some m.cls ∧ (∀ w ∈ m_Ts, w.before args s = true) ∧ meth.name = M.1.name ∧ c.exceptionTable.toList = tableOf M.2.2.2.2
/-- where a static of the two that a new Throwable reads lies -/
def m_L (C n d : String) (A : Nat → Prop) (U : State) (H : Heap) : Prop := ∃ (c : ClassId) (k : Class) (i : Nat) (f : Field) (a : Addr) (cell : Cell), U.vm.findClass C = some c ∧ U.fieldFound? C n d = some (c, k, i, f) ∧ f.isStatic = true ∧ k.statics = some a ∧ H[a]? = some cell ∧ cell.vm.isStatics = true ∧ cell.cls = c ∧ f.slot < cell.slots.size ∧ k.staticTypes[f.slot]? = some f.type ∧ ¬ A a
/-- a class can be cast to another -/
def m_Cs (C T : String) (U : State) : Prop := ∃ c t : ClassId, U.vm.findClass C = some c ∧ U.vm.findClass T = some t ∧ U.vm.assignable c t = true
theorem m_Cs.moved {C T : String} {u U : State} (hvm : u.vm.Alike U.vm) (h : m_Cs C T u) : m_Cs C T U := by
  obtain ⟨c, t, h1, h2, h3⟩ := h
  exact ⟨c, t, by rw [hvm.findClass]; exact h1, by rw [hvm.findClass]; exact h2, by rw [hvm.assignable]; exact h3⟩
/-- what isn't a good word: two statics of Throwable, the texts, the links between nest mates, the classes that arrays are made of, the pairs of exceptions that are no kin -/
def m_St (A : Nat → Prop) (s : State) : Prop := (m_L Bundle.tN "UNASSIGNED_STACK" Bundle.steD A s s.heap ∧ m_L Bundle.tN "SUPPRESSED_SENTINEL" Bundle.listD A s s.heap ∧ va_Zq Bundle.tN "UNASSIGNED_STACK" Bundle.steD A s s.heap ∧ va_Zq Bundle.tN "SUPPRESSED_SENTINEL" Bundle.listD A s s.heap) ∧ (∀ (q : Nat) (cell : Cell), A q → s.heap[q]? = some cell → cell.vm.isStatics = false) ∧ (∀ q ∈ m_strs, ∃ sa, vk_R q.1 q.2.1 q.2.2 sa s) ∧ (∀ q ∈ m_nestF, va_Nw (.fieldLinkNest q.1 q.2.1 q.2.2.1 q.2.2.2.1 q.2.2.2.2.1 q.2.2.2.2.2) s) ∧ (∀ q ∈ m_nestM, va_Nw (.methodLinkNest q.1 q.2.1 q.2.2.1 q.2.2.2) s) ∧ (∀ C ∈ m_aos, va_AO C s) ∧ (∀ q ∈ m_ncs, va_Nc q.1 q.2 s) ∧ (∀ q ∈ m_cas, m_Cs q.1 q.2 s) ∧ ∀ y ∈ m_decl, va_Nw (.declares y) s
def m_sc (A : Nat → Prop) (s : State) (sc : MS) : Prop := ∀ q, sc = some q → va_X q.1 q.2.1 q.2.2 s s.heap ∧ q.1 < s.heap.size ∧ ¬ A q.1
/-- the world at the end -/
def m_Wd (g : MG) (al0 : List Nat) (A : Nat → Prop) (h : List MC) (ws : va_W) (t : State) : Prop := m_W g.2.2 h ws ∧ va_P g.2.1 m_cl ws t.heap ∧ va_K g.2.1 m_cl (m_tys g.2.2) t ∧ va_D A ws ∧ m_le al0 (m_al ws)
/-- an end: by return, or by throw -/
def m_E (g : MG) (Q : MO → List MC → Prop) (al0 : List Nat) (A : Nat → Prop) (CT ST : Nat) (s : State) (o : Outcome) (t : State) : Prop :=
  ((∃ (r : Option MV) (V : Option Value) (h' : List MC) (ws' : va_W), o = .returned V ∧ m_vs (m_al ws') none r.toList V.toList ∧ Q (.inl r) h' ∧ m_Wd g al0 A h' ws' t) ∨
   (∃ (E : String) (q : Addr) (ce : Cell) (h' : List MC) (ws' : va_W), o = .threw q ∧ t.heap[q]? = some ce ∧ ce.vm = .none ∧ s.vm.findClass E = some ce.cls ∧ Q (.inr E) h' ∧ m_Wd g al0 A h' ws' t)) ∧
  va_F A s t ∧ s.WarmedH t.vm ∧ ∃ L : List Loc, s.sameButNew ({ t with vm := s.vm } : State) L CT ST ∧ ∀ z ∈ L, A z.base
def m_Z (g : MG) (Q : MO → List MC → Prop) (al0 : List Nat) (A : Nat → Prop) (CT ST : Nat) (below : List Frame) (s : State) : State → Prop := fun t => ∃ o, t.status = .running ∧ Ended t below o ∧ m_E g Q al0 A CT ST s o t
/-- the room that is left: d frames, w words of locals -/
def m_Rm (d w : Nat) (R : Room) : Prop := d ≤ R.frames ∧ w ≤ R.locals
/-- THE JUDGEMENT: from pc, with locals lv, stack st, heap h, the method comes to an end with Q; at most mc cells of ms slots are made -/
def Ev (g : MG) (sc : MS) (M : MM) (d w pc : Nat) (lv : ML) (st : List MV) (h : List MC) (mc ms : Nat) (Q : MO → List MC → Prop) : Prop :=
  ∀ (p : Program) (e : Env) (R : Room) (s : State) (m : MethodId) (args : Array Value) (below : List Frame) (meth : Method) (c : Code) (A : Nat → Prop) (al0 : List Nat) (H : Heap) (locs : List Loc) (cells slots CT ST : Nat) (ls : Array Slot) (ws : va_W) (LV : List (Nat × Value)) (VS : List Value),
    m_Fr M p s m args meth c → m_St A s → m_sc A s sc → m_Rm d w R → cells + mc ≤ CT → slots + ms ≤ ST → CT ≤ R.cells → ST ≤ R.slots → (∀ q, s.heap.size ≤ q → A q) → va_K g.2.1 m_cl (m_tys g.2.2) s →
    va_P g.2.1 m_cl ws H → va_D A ws → va_S A s.heap H locs → m_W g.2.2 h ws → m_le al0 (m_al ws) → lv_has ls M.2.2.1 LV → m_ls (m_al ws) sc lv LV → m_vs (m_al ws) sc st VS →
    W p g.1 e R s m args below meth c H locs cells slots (m_Z g Q al0 A CT ST below s) (F0 m pc ls VS)
/-- a method's return, said of its world -/
theorem m_ret {g : MG} {Q : MO → List MC → Prop} {al0 : List Nat} {A : Nat → Prop} {CT ST : Nat} {below : List Frame} {s : State} {p : Program} {e : Env} {R : Room} {m : MethodId} {args : Array Value} {meth : Method} {c : Code} {H : Heap} {locs : List Loc} {fr : JFrame} {r : Option MV} {V : Option Value} {h : List MC} {ws : va_W}
    (hv : m_vs (m_al ws) none r.toList V.toList) (hq : Q (.inl r) h) (hW : m_W g.2.2 h ws) (hP : va_P g.2.1 m_cl ws H) (hK : va_K g.2.1 m_cl (m_tys g.2.2) s) (hD : va_D A ws) (hal : m_le al0 (m_al ws)) (hS : va_S A s.heap H locs)
    (k : W p g.1 e R s m args below meth c H locs CT ST (MQ below (fun _ _ o t => o = .returned V ∧ t.heap = H) args s CT ST A) fr) : W p g.1 e R s m args below meth c H locs CT ST (m_Z g Q al0 A CT ST below s) fr := by
  intro T hT X
  obtain ⟨t, a1, o, b1, b2, ⟨ho, ht⟩, L, hL1, hL2⟩ := k T hT X
  obtain ⟨-, hW9, hsm⟩ := hL1
  exact ⟨t, a1, o, b1, b2, Or.inl ⟨r, V, h, ws, ho, hv, hq, hW, by rw [ht]; exact hP, va_K.moved hW9.alike hK, hD, hal⟩, hS.F ht, hW9, L, hsm, hL2⟩
end
section
theorem m_v_ref {al : List Nat} {sc : MS} {r : Option Nat ⊕ Unit} {V : Value} (h : m_v al sc (.inr (.inr r)) = some V) : V = .null ∨ ∃ q, V = .ref q := by
  rcases r with (_ | p) | u
  · cases h; exact Or.inl rfl
  · simp only [m_v, Option.map_eq_some_iff] at h
    obtain ⟨a, -, rfl⟩ := h
    exact Or.inr ⟨a, rfl⟩
  · simp only [m_v, Option.map_eq_some_iff] at h
    obtain ⟨a, -, rfl⟩ := h
    exact Or.inr ⟨_, rfl⟩
theorem m_v_mr {al : List Nat} {sc : MS} {r : Nat} {V : Value} (h : m_v al sc (mr r) = some V) : ∃ q, al[r]? = some q ∧ V = .ref q := by
  simp only [m_v, Option.map_eq_some_iff] at h
  obtain ⟨a, h1, rfl⟩ := h
  exact ⟨a, h1, rfl⟩
theorem e_iconst {g : MG} {sc : MS} {M : MM} {d w pc : Nat} {lv : ML} {st : List MV} {h : List MC} {mc ms : Nat} {Q : MO → List MC → Prop} {n : Int} {v : Int32} (hd : decode M.2.1 pc = .ok (.iconst n, 1)) (hv : Int32.ofInt n = v) (k : Ev g sc M d w (pc + 1) lv (mi v :: st) h mc ms Q) : Ev g sc M d w pc lv st h mc ms Q := by
  intro p e R s m args below meth c A al0 H locs cells slots CT ST ls ws LV VS hF hSt hsc hR h1 h2 h3 h4 hA hK hP hD hS hW hal hls hlv hst
  obtain ⟨hx, hb, hr, hlk, hml, hown, hts, hnm, htb⟩ := id hF
  exact lv_iconst hx hb hd hv (k p e R s m args below meth c A al0 H locs cells slots CT ST _ ws _ _ hF hSt hsc hR h1 h2 h3 h4 hA hK hP hD hS hW hal hls hlv (m_vs.cons rfl hst))
theorem e_bipush {g : MG} {sc : MS} {M : MM} {d w pc : Nat} {lv : ML} {st : List MV} {h : List MC} {mc ms : Nat} {Q : MO → List MC → Prop} {n : Int} {v : Int32} (hd : decode M.2.1 pc = .ok (.bipush n, 2)) (hv : (Int8.ofInt n).toInt32 = v) (k : Ev g sc M d w (pc + 2) lv (mi v :: st) h mc ms Q) : Ev g sc M d w pc lv st h mc ms Q := by
  intro p e R s m args below meth c A al0 H locs cells slots CT ST ls ws LV VS hF hSt hsc hR h1 h2 h3 h4 hA hK hP hD hS hW hal hls hlv hst
  obtain ⟨hx, hb, hr, hlk, hml, hown, hts, hnm, htb⟩ := id hF
  exact lv_bipush hx hb hd hv (k p e R s m args below meth c A al0 H locs cells slots CT ST _ ws _ _ hF hSt hsc hR h1 h2 h3 h4 hA hK hP hD hS hW hal hls hlv (m_vs.cons rfl hst))
theorem e_sipush {g : MG} {sc : MS} {M : MM} {d w pc : Nat} {lv : ML} {st : List MV} {h : List MC} {mc ms : Nat} {Q : MO → List MC → Prop} {n : Int} {v : Int32} (hd : decode M.2.1 pc = .ok (.sipush n, 3)) (hv : (Int16.ofInt n).toInt32 = v) (k : Ev g sc M d w (pc + 3) lv (mi v :: st) h mc ms Q) : Ev g sc M d w pc lv st h mc ms Q := by
  intro p e R s m args below meth c A al0 H locs cells slots CT ST ls ws LV VS hF hSt hsc hR h1 h2 h3 h4 hA hK hP hD hS hW hal hls hlv hst
  obtain ⟨hx, hb, hr, hlk, hml, hown, hts, hnm, htb⟩ := id hF
  exact lv_sipush hx hb hd hv (k p e R s m args below meth c A al0 H locs cells slots CT ST _ ws _ _ hF hSt hsc hR h1 h2 h3 h4 hA hK hP hD hS hW hal hls hlv (m_vs.cons rfl hst))
theorem e_ldc {g : MG} {sc : MS} {M : MM} {d w pc : Nat} {lv : ML} {st : List MV} {h : List MC} {mc ms : Nat} {Q : MO → List MC → Prop} {i : Nat} {v : Int32} (hd : decode M.2.1 pc = .ok (.ldc i, 2)) (hw : Cond.constant M.1.cls i v ∈ m_Ts) (k : Ev g sc M d w (pc + 2) lv (mi v :: st) h mc ms Q) : Ev g sc M d w pc lv st h mc ms Q := by
  intro p e R s m args below meth c A al0 H locs cells slots CT ST ls ws LV VS hF hSt hsc hR h1 h2 h3 h4 hA hK hP hD hS hW hal hls hlv hst
  obtain ⟨hx, hb, hr, hlk, hml, hown, hts, hnm, htb⟩ := id hF
  exact lv_ldc hx hb hown (hts _ hw) hd (k p e R s m args below meth c A al0 H locs cells slots CT ST _ ws _ _ hF hSt hsc hR h1 h2 h3 h4 hA hK hP hD hS hW hal hls hlv (m_vs.cons rfl hst))
theorem e_lconst {g : MG} {sc : MS} {M : MM} {d w pc : Nat} {lv : ML} {st : List MV} {h : List MC} {mc ms : Nat} {Q : MO → List MC → Prop} {n : Fin 2} {v : Int64} (hd : decode M.2.1 pc = .ok (.lconst n, 1)) (hv : Int64.ofNat (n : Nat) = v) (k : Ev g sc M d w (pc + 1) lv (ml v :: st) h mc ms Q) : Ev g sc M d w pc lv st h mc ms Q := by
  intro p e R s m args below meth c A al0 H locs cells slots CT ST ls ws LV VS hF hSt hsc hR h1 h2 h3 h4 hA hK hP hD hS hW hal hls hlv hst
  obtain ⟨hx, hb, hr, hlk, hml, hown, hts, hnm, htb⟩ := id hF
  exact lv_lconst hx hb hd hv (k p e R s m args below meth c A al0 H locs cells slots CT ST _ ws _ _ hF hSt hsc hR h1 h2 h3 h4 hA hK hP hD hS hW hal hls hlv (m_vs.cons rfl hst))
theorem e_null {g : MG} {sc : MS} {M : MM} {d w pc : Nat} {lv : ML} {st : List MV} {h : List MC} {mc ms : Nat} {Q : MO → List MC → Prop} (hd : decode M.2.1 pc = .ok (.aconst_null, 1)) (k : Ev g sc M d w (pc + 1) lv (mn :: st) h mc ms Q) : Ev g sc M d w pc lv st h mc ms Q := by
  intro p e R s m args below meth c A al0 H locs cells slots CT ST ls ws LV VS hF hSt hsc hR h1 h2 h3 h4 hA hK hP hD hS hW hal hls hlv hst
  obtain ⟨hx, hb, hr, hlk, hml, hown, hts, hnm, htb⟩ := id hF
  exact lv_null hx hb hd (k p e R s m args below meth c A al0 H locs cells slots CT ST _ ws _ _ hF hSt hsc hR h1 h2 h3 h4 hA hK hP hD hS hW hal hls hlv (m_vs.cons rfl hst))
theorem e_iload_n {g : MG} {sc : MS} {M : MM} {d w pc : Nat} {lv : ML} {st : List MV} {h : List MC} {mc ms : Nat} {Q : MO → List MC → Prop} {k9 : Fin 4} {i : Nat} {x : Int32} (hd : decode M.2.1 pc = .ok (.iload_n k9, 1)) (hi : (k9 : Nat) = i) (hg : m_get lv i = some (mi x)) (k : Ev g sc M d w (pc + 1) lv (mi x :: st) h mc ms Q) : Ev g sc M d w pc lv st h mc ms Q := by
  intro p e R s m args below meth c A al0 H locs cells slots CT ST ls ws LV VS hF hSt hsc hR h1 h2 h3 h4 hA hK hP hD hS hW hal hls hlv hst
  obtain ⟨hx, hb, hr, hlk, hml, hown, hts, hnm, htb⟩ := id hF
  obtain ⟨V, hV1, hV2⟩ := hlv.at (m_get_find hg)
  cases hV2
  exact lv_iload_n hx hb hd hi (hls.2.2 _ hV1) (k p e R s m args below meth c A al0 H locs cells slots CT ST _ ws _ _ hF hSt hsc hR h1 h2 h3 h4 hA hK hP hD hS hW hal hls hlv (m_vs.cons rfl hst))
theorem e_aload_n {g : MG} {sc : MS} {M : MM} {d w pc : Nat} {lv : ML} {st : List MV} {h : List MC} {mc ms : Nat} {Q : MO → List MC → Prop} {k9 : Fin 4} {i : Nat} {r : Option Nat ⊕ Unit} (hd : decode M.2.1 pc = .ok (.aload_n k9, 1)) (hi : (k9 : Nat) = i) (hg : m_get lv i = some (.inr (.inr r))) (k : Ev g sc M d w (pc + 1) lv (.inr (.inr r) :: st) h mc ms Q) : Ev g sc M d w pc lv st h mc ms Q := by
  intro p e R s m args below meth c A al0 H locs cells slots CT ST ls ws LV VS hF hSt hsc hR h1 h2 h3 h4 hA hK hP hD hS hW hal hls hlv hst
  obtain ⟨hx, hb, hr, hlk, hml, hown, hts, hnm, htb⟩ := id hF
  obtain ⟨V, hV1, hV2⟩ := hlv.at (m_get_find hg)
  rcases m_v_ref hV2 with rfl | ⟨q, rfl⟩
  · exact lv_aload_nN hx hb hd hi (hls.2.2 _ hV1) (k p e R s m args below meth c A al0 H locs cells slots CT ST _ ws _ _ hF hSt hsc hR h1 h2 h3 h4 hA hK hP hD hS hW hal hls hlv (m_vs.cons hV2 hst))
  · exact lv_aload_n hx hb hd hi (hls.2.2 _ hV1) (k p e R s m args below meth c A al0 H locs cells slots CT ST _ ws _ _ hF hSt hsc hR h1 h2 h3 h4 hA hK hP hD hS hW hal hls hlv (m_vs.cons hV2 hst))
theorem e_istore_n {g : MG} {sc : MS} {M : MM} {d w pc : Nat} {lv : ML} {st : List MV} {h : List MC} {mc ms : Nat} {Q : MO → List MC → Prop} {k9 : Fin 4} {i : Nat} {x : Int32} (hd : decode M.2.1 pc = .ok (.istore_n k9, 1)) (hi : (k9 : Nat) = i) (hn : i < M.2.2.1) {lv2 : ML} (hlv2 : m_put lv i (mi x) = lv2) (k : Ev g sc M d w (pc + 1) lv2 st h mc ms Q) : Ev g sc M d w pc lv (mi x :: st) h mc ms Q := by
  intro p e R s m args below meth c A al0 H locs cells slots CT ST ls ws LV VS hF hSt hsc hR h1 h2 h3 h4 hA hK hP hD hS hW hal hls hlv hst
  obtain ⟨hx, hb, hr, hlk, hml, hown, hts, hnm, htb⟩ := id hF
  subst hlv2
  obtain ⟨V, VS', rfl, hV, hst1⟩ := hst.inv
  have hsr := hst1
  cases hV
  exact lv_istore_n hx hb hd hi hls hn rfl (fun ls hls' => k p e R s m args below meth c A al0 H locs cells slots CT ST _ ws _ _ hF hSt hsc hR h1 h2 h3 h4 hA hK hP hD hS hW hal hls' (m_ls.cons rfl hlv.filt) hsr)
theorem e_astore_n {g : MG} {sc : MS} {M : MM} {d w pc : Nat} {lv : ML} {st : List MV} {h : List MC} {mc ms : Nat} {Q : MO → List MC → Prop} {k9 : Fin 4} {i : Nat} {r : Option Nat ⊕ Unit} (hd : decode M.2.1 pc = .ok (.astore_n k9, 1)) (hi : (k9 : Nat) = i) (hn : i < M.2.2.1) {lv2 : ML} (hlv2 : m_put lv i (.inr (.inr r)) = lv2) (k : Ev g sc M d w (pc + 1) lv2 st h mc ms Q) : Ev g sc M d w pc lv (.inr (.inr r) :: st) h mc ms Q := by
  intro p e R s m args below meth c A al0 H locs cells slots CT ST ls ws LV VS hF hSt hsc hR h1 h2 h3 h4 hA hK hP hD hS hW hal hls hlv hst
  obtain ⟨hx, hb, hr, hlk, hml, hown, hts, hnm, htb⟩ := id hF
  subst hlv2
  obtain ⟨V, VS', rfl, hV, hst1⟩ := hst.inv
  have hsr := hst1
  rcases m_v_ref hV with rfl | ⟨q, rfl⟩
  · exact lv_astore_nN hx hb hd hi hls hn rfl (fun ls hls' => k p e R s m args below meth c A al0 H locs cells slots CT ST _ ws _ _ hF hSt hsc hR h1 h2 h3 h4 hA hK hP hD hS hW hal hls' (m_ls.cons hV hlv.filt) hsr)
  · exact lv_astore_n hx hb hd hi hls hn rfl (fun ls hls' => k p e R s m args below meth c A al0 H locs cells slots CT ST _ ws _ _ hF hSt hsc hR h1 h2 h3 h4 hA hK hP hD hS hW hal hls' (m_ls.cons hV hlv.filt) hsr)
theorem e_iload {g : MG} {sc : MS} {M : MM} {d w pc : Nat} {lv : ML} {st : List MV} {h : List MC} {mc ms : Nat} {Q : MO → List MC → Prop} {i : Nat} {x : Int32} (hd : decode M.2.1 pc = .ok (.iload i, 2)) (hg : m_get lv i = some (mi x)) (k : Ev g sc M d w (pc + 2) lv (mi x :: st) h mc ms Q) : Ev g sc M d w pc lv st h mc ms Q := by
  intro p e R s m args below meth c A al0 H locs cells slots CT ST ls ws LV VS hF hSt hsc hR h1 h2 h3 h4 hA hK hP hD hS hW hal hls hlv hst
  obtain ⟨hx, hb, hr, hlk, hml, hown, hts, hnm, htb⟩ := id hF
  obtain ⟨V, hV1, hV2⟩ := hlv.at (m_get_find hg)
  cases hV2
  exact lv_iload hx hb hd (hls.2.2 _ hV1) (k p e R s m args below meth c A al0 H locs cells slots CT ST _ ws _ _ hF hSt hsc hR h1 h2 h3 h4 hA hK hP hD hS hW hal hls hlv (m_vs.cons rfl hst))
theorem e_aload {g : MG} {sc : MS} {M : MM} {d w pc : Nat} {lv : ML} {st : List MV} {h : List MC} {mc ms : Nat} {Q : MO → List MC → Prop} {i : Nat} {r : Option Nat ⊕ Unit} (hd : decode M.2.1 pc = .ok (.aload i, 2)) (hg : m_get lv i = some (.inr (.inr r))) (k : Ev g sc M d w (pc + 2) lv (.inr (.inr r) :: st) h mc ms Q) : Ev g sc M d w pc lv st h mc ms Q := by
  intro p e R s m args below meth c A al0 H locs cells slots CT ST ls ws LV VS hF hSt hsc hR h1 h2 h3 h4 hA hK hP hD hS hW hal hls hlv hst
  obtain ⟨hx, hb, hr, hlk, hml, hown, hts, hnm, htb⟩ := id hF
  obtain ⟨V, hV1, hV2⟩ := hlv.at (m_get_find hg)
  rcases m_v_ref hV2 with rfl | ⟨q, rfl⟩
  · exact lv_aloadN hx hb hd (hls.2.2 _ hV1) (k p e R s m args below meth c A al0 H locs cells slots CT ST _ ws _ _ hF hSt hsc hR h1 h2 h3 h4 hA hK hP hD hS hW hal hls hlv (m_vs.cons hV2 hst))
  · exact lv_aload hx hb hd (hls.2.2 _ hV1) (k p e R s m args below meth c A al0 H locs cells slots CT ST _ ws _ _ hF hSt hsc hR h1 h2 h3 h4 hA hK hP hD hS hW hal hls hlv (m_vs.cons hV2 hst))
theorem e_istore {g : MG} {sc : MS} {M : MM} {d w pc : Nat} {lv : ML} {st : List MV} {h : List MC} {mc ms : Nat} {Q : MO → List MC → Prop} {i : Nat} {x : Int32} (hd : decode M.2.1 pc = .ok (.istore i, 2)) (hn : i < M.2.2.1) {lv2 : ML} (hlv2 : m_put lv i (mi x) = lv2) (k : Ev g sc M d w (pc + 2) lv2 st h mc ms Q) : Ev g sc M d w pc lv (mi x :: st) h mc ms Q := by
  intro p e R s m args below meth c A al0 H locs cells slots CT ST ls ws LV VS hF hSt hsc hR h1 h2 h3 h4 hA hK hP hD hS hW hal hls hlv hst
  obtain ⟨hx, hb, hr, hlk, hml, hown, hts, hnm, htb⟩ := id hF
  subst hlv2
  obtain ⟨V, VS', rfl, hV, hst1⟩ := hst.inv
  have hsr := hst1
  cases hV
  exact lv_istore hx hb hd hls hn rfl (fun ls hls' => k p e R s m args below meth c A al0 H locs cells slots CT ST _ ws _ _ hF hSt hsc hR h1 h2 h3 h4 hA hK hP hD hS hW hal hls' (m_ls.cons rfl hlv.filt) hsr)
theorem e_astore {g : MG} {sc : MS} {M : MM} {d w pc : Nat} {lv : ML} {st : List MV} {h : List MC} {mc ms : Nat} {Q : MO → List MC → Prop} {i : Nat} {r : Option Nat ⊕ Unit} (hd : decode M.2.1 pc = .ok (.astore i, 2)) (hn : i < M.2.2.1) {lv2 : ML} (hlv2 : m_put lv i (.inr (.inr r)) = lv2) (k : Ev g sc M d w (pc + 2) lv2 st h mc ms Q) : Ev g sc M d w pc lv (.inr (.inr r) :: st) h mc ms Q := by
  intro p e R s m args below meth c A al0 H locs cells slots CT ST ls ws LV VS hF hSt hsc hR h1 h2 h3 h4 hA hK hP hD hS hW hal hls hlv hst
  obtain ⟨hx, hb, hr, hlk, hml, hown, hts, hnm, htb⟩ := id hF
  subst hlv2
  obtain ⟨V, VS', rfl, hV, hst1⟩ := hst.inv
  have hsr := hst1
  rcases m_v_ref hV with rfl | ⟨q, rfl⟩
  · exact lv_astoreN hx hb hd hls hn rfl (fun ls hls' => k p e R s m args below meth c A al0 H locs cells slots CT ST _ ws _ _ hF hSt hsc hR h1 h2 h3 h4 hA hK hP hD hS hW hal hls' (m_ls.cons hV hlv.filt) hsr)
  · exact lv_astore hx hb hd hls hn rfl (fun ls hls' => k p e R s m args below meth c A al0 H locs cells slots CT ST _ ws _ _ hF hSt hsc hR h1 h2 h3 h4 hA hK hP hD hS hW hal hls' (m_ls.cons hV hlv.filt) hsr)
theorem e_iinc {g : MG} {sc : MS} {M : MM} {d w pc : Nat} {lv : ML} {st : List MV} {h : List MC} {mc ms : Nat} {Q : MO → List MC → Prop} {i : Nat} {n : Int} {x v : Int32} (hd : decode M.2.1 pc = .ok (.iinc i n, 3)) (hg : m_get lv i = some (mi x)) (hv : x + Int32.ofInt n = v) (hn : i < M.2.2.1) {lv2 : ML} (hlv2 : m_put lv i (mi v) = lv2) (k : Ev g sc M d w (pc + 3) lv2 st h mc ms Q) : Ev g sc M d w pc lv st h mc ms Q := by
  intro p e R s m args below meth c A al0 H locs cells slots CT ST ls ws LV VS hF hSt hsc hR h1 h2 h3 h4 hA hK hP hD hS hW hal hls hlv hst
  obtain ⟨hx, hb, hr, hlk, hml, hown, hts, hnm, htb⟩ := id hF
  subst hlv2
  obtain ⟨V, hV1, hV2⟩ := hlv.at (m_get_find hg)
  cases hV2
  obtain ⟨k9, hk9⟩ := List.getElem?_of_mem hV1
  exact lv_iinc hx hb hd hls hk9 hv hn rfl (fun ls hls' => k p e R s m args below meth c A al0 H locs cells slots CT ST _ ws _ _ hF hSt hsc hR h1 h2 h3 h4 hA hK hP hD hS hW hal hls' (m_ls.cons rfl hlv.filt) hst)
theorem e_iadd {g : MG} {sc : MS} {M : MM} {d w pc : Nat} {lv : ML} {st : List MV} {h : List MC} {mc ms : Nat} {Q : MO → List MC → Prop} {x y : Int32} (hd : decode M.2.1 pc = .ok (.iadd, 1)) (k : Ev g sc M d w (pc + 1) lv (mi (x + y) :: st) h mc ms Q) : Ev g sc M d w pc lv (mi y :: mi x :: st) h mc ms Q := by
  intro p e R s m args below meth c A al0 H locs cells slots CT ST ls ws LV VS hF hSt hsc hR h1 h2 h3 h4 hA hK hP hD hS hW hal hls hlv hst
  obtain ⟨hx, hb, hr, hlk, hml, hown, hts, hnm, htb⟩ := id hF
  obtain ⟨V, VS', rfl, hV, hst1⟩ := hst.inv
  obtain ⟨V2, VS2, rfl, hV2, hst2⟩ := hst1.inv
  have hsr := hst2
  cases hV
  cases hV2
  exact lv_iadd hx hb hd (k p e R s m args below meth c A al0 H locs cells slots CT ST _ ws _ _ hF hSt hsc hR h1 h2 h3 h4 hA hK hP hD hS hW hal hls hlv (m_vs.cons rfl hsr))
theorem e_isub {g : MG} {sc : MS} {M : MM} {d w pc : Nat} {lv : ML} {st : List MV} {h : List MC} {mc ms : Nat} {Q : MO → List MC → Prop} {x y : Int32} (hd : decode M.2.1 pc = .ok (.isub, 1)) (k : Ev g sc M d w (pc + 1) lv (mi (x - y) :: st) h mc ms Q) : Ev g sc M d w pc lv (mi y :: mi x :: st) h mc ms Q := by
  intro p e R s m args below meth c A al0 H locs cells slots CT ST ls ws LV VS hF hSt hsc hR h1 h2 h3 h4 hA hK hP hD hS hW hal hls hlv hst
  obtain ⟨hx, hb, hr, hlk, hml, hown, hts, hnm, htb⟩ := id hF
  obtain ⟨V, VS', rfl, hV, hst1⟩ := hst.inv
  obtain ⟨V2, VS2, rfl, hV2, hst2⟩ := hst1.inv
  have hsr := hst2
  cases hV
  cases hV2
  exact lv_isub hx hb hd (k p e R s m args below meth c A al0 H locs cells slots CT ST _ ws _ _ hF hSt hsc hR h1 h2 h3 h4 hA hK hP hD hS hW hal hls hlv (m_vs.cons rfl hsr))
theorem e_imul {g : MG} {sc : MS} {M : MM} {d w pc : Nat} {lv : ML} {st : List MV} {h : List MC} {mc ms : Nat} {Q : MO → List MC → Prop} {x y : Int32} (hd : decode M.2.1 pc = .ok (.imul, 1)) (k : Ev g sc M d w (pc + 1) lv (mi (x * y) :: st) h mc ms Q) : Ev g sc M d w pc lv (mi y :: mi x :: st) h mc ms Q := by
  intro p e R s m args below meth c A al0 H locs cells slots CT ST ls ws LV VS hF hSt hsc hR h1 h2 h3 h4 hA hK hP hD hS hW hal hls hlv hst
  obtain ⟨hx, hb, hr, hlk, hml, hown, hts, hnm, htb⟩ := id hF
  obtain ⟨V, VS', rfl, hV, hst1⟩ := hst.inv
  obtain ⟨V2, VS2, rfl, hV2, hst2⟩ := hst1.inv
  have hsr := hst2
  cases hV
  cases hV2
  exact lv_imul hx hb hd (k p e R s m args below meth c A al0 H locs cells slots CT ST _ ws _ _ hF hSt hsc hR h1 h2 h3 h4 hA hK hP hD hS hW hal hls hlv (m_vs.cons rfl hsr))
theorem e_iand {g : MG} {sc : MS} {M : MM} {d w pc : Nat} {lv : ML} {st : List MV} {h : List MC} {mc ms : Nat} {Q : MO → List MC → Prop} {x y : Int32} (hd : decode M.2.1 pc = .ok (.iand, 1)) (k : Ev g sc M d w (pc + 1) lv (mi (x &&& y) :: st) h mc ms Q) : Ev g sc M d w pc lv (mi y :: mi x :: st) h mc ms Q := by
  intro p e R s m args below meth c A al0 H locs cells slots CT ST ls ws LV VS hF hSt hsc hR h1 h2 h3 h4 hA hK hP hD hS hW hal hls hlv hst
  obtain ⟨hx, hb, hr, hlk, hml, hown, hts, hnm, htb⟩ := id hF
  obtain ⟨V, VS', rfl, hV, hst1⟩ := hst.inv
  obtain ⟨V2, VS2, rfl, hV2, hst2⟩ := hst1.inv
  have hsr := hst2
  cases hV
  cases hV2
  exact lv_iand hx hb hd (k p e R s m args below meth c A al0 H locs cells slots CT ST _ ws _ _ hF hSt hsc hR h1 h2 h3 h4 hA hK hP hD hS hW hal hls hlv (m_vs.cons rfl hsr))
theorem e_ior {g : MG} {sc : MS} {M : MM} {d w pc : Nat} {lv : ML} {st : List MV} {h : List MC} {mc ms : Nat} {Q : MO → List MC → Prop} {x y : Int32} (hd : decode M.2.1 pc = .ok (.ior, 1)) (k : Ev g sc M d w (pc + 1) lv (mi (x ||| y) :: st) h mc ms Q) : Ev g sc M d w pc lv (mi y :: mi x :: st) h mc ms Q := by
  intro p e R s m args below meth c A al0 H locs cells slots CT ST ls ws LV VS hF hSt hsc hR h1 h2 h3 h4 hA hK hP hD hS hW hal hls hlv hst
  obtain ⟨hx, hb, hr, hlk, hml, hown, hts, hnm, htb⟩ := id hF
  obtain ⟨V, VS', rfl, hV, hst1⟩ := hst.inv
  obtain ⟨V2, VS2, rfl, hV2, hst2⟩ := hst1.inv
  have hsr := hst2
  cases hV
  cases hV2
  exact lv_ior hx hb hd (k p e R s m args below meth c A al0 H locs cells slots CT ST _ ws _ _ hF hSt hsc hR h1 h2 h3 h4 hA hK hP hD hS hW hal hls hlv (m_vs.cons rfl hsr))
theorem e_ixor {g : MG} {sc : MS} {M : MM} {d w pc : Nat} {lv : ML} {st : List MV} {h : List MC} {mc ms : Nat} {Q : MO → List MC → Prop} {x y : Int32} (hd : decode M.2.1 pc = .ok (.ixor, 1)) (k : Ev g sc M d w (pc + 1) lv (mi (x ^^^ y) :: st) h mc ms Q) : Ev g sc M d w pc lv (mi y :: mi x :: st) h mc ms Q := by
  intro p e R s m args below meth c A al0 H locs cells slots CT ST ls ws LV VS hF hSt hsc hR h1 h2 h3 h4 hA hK hP hD hS hW hal hls hlv hst
  obtain ⟨hx, hb, hr, hlk, hml, hown, hts, hnm, htb⟩ := id hF
  obtain ⟨V, VS', rfl, hV, hst1⟩ := hst.inv
  obtain ⟨V2, VS2, rfl, hV2, hst2⟩ := hst1.inv
  have hsr := hst2
  cases hV
  cases hV2
  exact lv_ixor hx hb hd (k p e R s m args below meth c A al0 H locs cells slots CT ST _ ws _ _ hF hSt hsc hR h1 h2 h3 h4 hA hK hP hD hS hW hal hls hlv (m_vs.cons rfl hsr))
theorem e_ishl {g : MG} {sc : MS} {M : MM} {d w pc : Nat} {lv : ML} {st : List MV} {h : List MC} {mc ms : Nat} {Q : MO → List MC → Prop} {x y : Int32} (hd : decode M.2.1 pc = .ok (.ishl, 1)) (k : Ev g sc M d w (pc + 1) lv (mi (x <<< (y &&& 31)) :: st) h mc ms Q) : Ev g sc M d w pc lv (mi y :: mi x :: st) h mc ms Q := by
  intro p e R s m args below meth c A al0 H locs cells slots CT ST ls ws LV VS hF hSt hsc hR h1 h2 h3 h4 hA hK hP hD hS hW hal hls hlv hst
  obtain ⟨hx, hb, hr, hlk, hml, hown, hts, hnm, htb⟩ := id hF
  obtain ⟨V, VS', rfl, hV, hst1⟩ := hst.inv
  obtain ⟨V2, VS2, rfl, hV2, hst2⟩ := hst1.inv
  have hsr := hst2
  cases hV
  cases hV2
  exact lv_ishl hx hb hd (k p e R s m args below meth c A al0 H locs cells slots CT ST _ ws _ _ hF hSt hsc hR h1 h2 h3 h4 hA hK hP hD hS hW hal hls hlv (m_vs.cons rfl hsr))
theorem e_ishr {g : MG} {sc : MS} {M : MM} {d w pc : Nat} {lv : ML} {st : List MV} {h : List MC} {mc ms : Nat} {Q : MO → List MC → Prop} {x y : Int32} (hd : decode M.2.1 pc = .ok (.ishr, 1)) (k : Ev g sc M d w (pc + 1) lv (mi (x >>> (y &&& 31)) :: st) h mc ms Q) : Ev g sc M d w pc lv (mi y :: mi x :: st) h mc ms Q := by
  intro p e R s m args below meth c A al0 H locs cells slots CT ST ls ws LV VS hF hSt hsc hR h1 h2 h3 h4 hA hK hP hD hS hW hal hls hlv hst
  obtain ⟨hx, hb, hr, hlk, hml, hown, hts, hnm, htb⟩ := id hF
  obtain ⟨V, VS', rfl, hV, hst1⟩ := hst.inv
  obtain ⟨V2, VS2, rfl, hV2, hst2⟩ := hst1.inv
  have hsr := hst2
  cases hV
  cases hV2
  exact lv_ishr hx hb hd (k p e R s m args below meth c A al0 H locs cells slots CT ST _ ws _ _ hF hSt hsc hR h1 h2 h3 h4 hA hK hP hD hS hW hal hls hlv (m_vs.cons rfl hsr))
theorem e_iushr {g : MG} {sc : MS} {M : MM} {d w pc : Nat} {lv : ML} {st : List MV} {h : List MC} {mc ms : Nat} {Q : MO → List MC → Prop} {x y v : Int32} (hd : decode M.2.1 pc = .ok (.iushr, 1)) (hv : (x.toUInt32 >>> (y.toUInt32 &&& Int32.toUInt32 31)).toInt32 = v) (k : Ev g sc M d w (pc + 1) lv (mi v :: st) h mc ms Q) : Ev g sc M d w pc lv (mi y :: mi x :: st) h mc ms Q := by
  intro p e R s m args below meth c A al0 H locs cells slots CT ST ls ws LV VS hF hSt hsc hR h1 h2 h3 h4 hA hK hP hD hS hW hal hls hlv hst
  obtain ⟨hx, hb, hr, hlk, hml, hown, hts, hnm, htb⟩ := id hF
  obtain ⟨V, VS', rfl, hV, hst1⟩ := hst.inv
  obtain ⟨V2, VS2, rfl, hV2, hst2⟩ := hst1.inv
  have hsr := hst2
  cases hV
  cases hV2
  exact lv_iushr hx hb hd hv (k p e R s m args below meth c A al0 H locs cells slots CT ST _ ws _ _ hF hSt hsc hR h1 h2 h3 h4 hA hK hP hD hS hW hal hls hlv (m_vs.cons rfl hsr))
theorem e_ineg {g : MG} {sc : MS} {M : MM} {d w pc : Nat} {lv : ML} {st : List MV} {h : List MC} {mc ms : Nat} {Q : MO → List MC → Prop} {x : Int32} (hd : decode M.2.1 pc = .ok (.ineg, 1)) (k : Ev g sc M d w (pc + 1) lv (mi (-x) :: st) h mc ms Q) : Ev g sc M d w pc lv (mi x :: st) h mc ms Q := by
  intro p e R s m args below meth c A al0 H locs cells slots CT ST ls ws LV VS hF hSt hsc hR h1 h2 h3 h4 hA hK hP hD hS hW hal hls hlv hst
  obtain ⟨hx, hb, hr, hlk, hml, hown, hts, hnm, htb⟩ := id hF
  obtain ⟨V, VS', rfl, hV, hst1⟩ := hst.inv
  have hsr := hst1
  cases hV
  exact lv_ineg hx hb hd (k p e R s m args below meth c A al0 H locs cells slots CT ST _ ws _ _ hF hSt hsc hR h1 h2 h3 h4 hA hK hP hD hS hW hal hls hlv (m_vs.cons rfl hsr))
theorem e_i2l {g : MG} {sc : MS} {M : MM} {d w pc : Nat} {lv : ML} {st : List MV} {h : List MC} {mc ms : Nat} {Q : MO → List MC → Prop} {x : Int32} (hd : decode M.2.1 pc = .ok (.i2l, 1)) (k : Ev g sc M d w (pc + 1) lv (ml x.toInt64 :: st) h mc ms Q) : Ev g sc M d w pc lv (mi x :: st) h mc ms Q := by
  intro p e R s m args below meth c A al0 H locs cells slots CT ST ls ws LV VS hF hSt hsc hR h1 h2 h3 h4 hA hK hP hD hS hW hal hls hlv hst
  obtain ⟨hx, hb, hr, hlk, hml, hown, hts, hnm, htb⟩ := id hF
  obtain ⟨V, VS', rfl, hV, hst1⟩ := hst.inv
  have hsr := hst1
  cases hV
  exact lv_i2l hx hb hd rfl (k p e R s m args below meth c A al0 H locs cells slots CT ST _ ws _ _ hF hSt hsc hR h1 h2 h3 h4 hA hK hP hD hS hW hal hls hlv (m_vs.cons rfl hsr))
theorem e_dup {g : MG} {sc : MS} {M : MM} {d w pc : Nat} {lv : ML} {st : List MV} {h : List MC} {mc ms : Nat} {Q : MO → List MC → Prop} {v : MV} (hd : decode M.2.1 pc = .ok (.dup, 1)) (hc : m_cat v = 1) (k : Ev g sc M d w (pc + 1) lv (v :: v :: st) h mc ms Q) : Ev g sc M d w pc lv (v :: st) h mc ms Q := by
  intro p e R s m args below meth c A al0 H locs cells slots CT ST ls ws LV VS hF hSt hsc hR h1 h2 h3 h4 hA hK hP hD hS hW hal hls hlv hst
  obtain ⟨hx, hb, hr, hlk, hml, hown, hts, hnm, htb⟩ := id hF
  obtain ⟨V, VS', rfl, hV, hst1⟩ := hst.inv
  have hsr := hst1
  exact lv_dup hx hb hd ((m_v_cat hV).trans hc) (k p e R s m args below meth c A al0 H locs cells slots CT ST _ ws _ _ hF hSt hsc hR h1 h2 h3 h4 hA hK hP hD hS hW hal hls hlv (m_vs.cons hV (m_vs.cons hV hsr)))
theorem e_pop {g : MG} {sc : MS} {M : MM} {d w pc : Nat} {lv : ML} {st : List MV} {h : List MC} {mc ms : Nat} {Q : MO → List MC → Prop} {v : MV} (hd : decode M.2.1 pc = .ok (.pop, 1)) (hc : m_cat v = 1) (k : Ev g sc M d w (pc + 1) lv st h mc ms Q) : Ev g sc M d w pc lv (v :: st) h mc ms Q := by
  intro p e R s m args below meth c A al0 H locs cells slots CT ST ls ws LV VS hF hSt hsc hR h1 h2 h3 h4 hA hK hP hD hS hW hal hls hlv hst
  obtain ⟨hx, hb, hr, hlk, hml, hown, hts, hnm, htb⟩ := id hF
  obtain ⟨V, VS', rfl, hV, hst1⟩ := hst.inv
  have hsr := hst1
  exact lv_pop hx hb hd ((m_v_cat hV).trans hc) (k p e R s m args below meth c A al0 H locs cells slots CT ST _ ws _ _ hF hSt hsc hR h1 h2 h3 h4 hA hK hP hD hS hW hal hls hlv hsr)
theorem e_dup_x1 {g : MG} {sc : MS} {M : MM} {d w pc : Nat} {lv : ML} {st : List MV} {h : List MC} {mc ms : Nat} {Q : MO → List MC → Prop} {v y9 : MV} (hd : decode M.2.1 pc = .ok (.dup_x1, 1)) (hc : m_cat v = 1) (hc2 : m_cat y9 = 1) (k : Ev g sc M d w (pc + 1) lv (v :: y9 :: v :: st) h mc ms Q) : Ev g sc M d w pc lv (v :: y9 :: st) h mc ms Q := by
  intro p e R s m args below meth c A al0 H locs cells slots CT ST ls ws LV VS hF hSt hsc hR h1 h2 h3 h4 hA hK hP hD hS hW hal hls hlv hst
  obtain ⟨hx, hb, hr, hlk, hml, hown, hts, hnm, htb⟩ := id hF
  obtain ⟨V, VS', rfl, hV, hst1⟩ := hst.inv
  obtain ⟨V2, VS2, rfl, hV2, hst2⟩ := hst1.inv
  have hsr := hst2
  exact lv_dup_x1 hx hb hd ((m_v_cat hV).trans hc) ((m_v_cat hV2).trans hc2) (k p e R s m args below meth c A al0 H locs cells slots CT ST _ ws _ _ hF hSt hsc hR h1 h2 h3 h4 hA hK hP hD hS hW hal hls hlv (m_vs.cons hV (m_vs.cons hV2 (m_vs.cons hV hsr))))
theorem e_dup_x2 {g : MG} {sc : MS} {M : MM} {d w pc : Nat} {lv : ML} {st : List MV} {h : List MC} {mc ms : Nat} {Q : MO → List MC → Prop} {v y9 z : MV} (hd : decode M.2.1 pc = .ok (.dup_x2, 1)) (hc : m_cat v = 1) (hc2 : m_cat y9 = 1) (hc3 : m_cat z = 1) (k : Ev g sc M d w (pc + 1) lv (v :: y9 :: z :: v :: st) h mc ms Q) : Ev g sc M d w pc lv (v :: y9 :: z :: st) h mc ms Q := by
  intro p e R s m args below meth c A al0 H locs cells slots CT ST ls ws LV VS hF hSt hsc hR h1 h2 h3 h4 hA hK hP hD hS hW hal hls hlv hst
  obtain ⟨hx, hb, hr, hlk, hml, hown, hts, hnm, htb⟩ := id hF
  obtain ⟨V, VS', rfl, hV, hst1⟩ := hst.inv
  obtain ⟨V2, VS2, rfl, hV2, hst2⟩ := hst1.inv
  obtain ⟨V3, VS3, rfl, hV3, hst3⟩ := hst2.inv
  have hsr := hst3
  exact lv_dup_x2 hx hb hd ((m_v_cat hV).trans hc) ((m_v_cat hV2).trans hc2) ((m_v_cat hV3).trans hc3) (k p e R s m args below meth c A al0 H locs cells slots CT ST _ ws _ _ hF hSt hsc hR h1 h2 h3 h4 hA hK hP hD hS hW hal hls hlv (m_vs.cons hV (m_vs.cons hV2 (m_vs.cons hV3 (m_vs.cons hV hsr)))))
theorem e_dup2 {g : MG} {sc : MS} {M : MM} {d w pc : Nat} {lv : ML} {st : List MV} {h : List MC} {mc ms : Nat} {Q : MO → List MC → Prop} {v y9 : MV} (hd : decode M.2.1 pc = .ok (.dup2, 1)) (hc : m_cat v = 1) (hc2 : m_cat y9 = 1) (k : Ev g sc M d w (pc + 1) lv (v :: y9 :: v :: y9 :: st) h mc ms Q) : Ev g sc M d w pc lv (v :: y9 :: st) h mc ms Q := by
  intro p e R s m args below meth c A al0 H locs cells slots CT ST ls ws LV VS hF hSt hsc hR h1 h2 h3 h4 hA hK hP hD hS hW hal hls hlv hst
  obtain ⟨hx, hb, hr, hlk, hml, hown, hts, hnm, htb⟩ := id hF
  obtain ⟨V, VS', rfl, hV, hst1⟩ := hst.inv
  obtain ⟨V2, VS2, rfl, hV2, hst2⟩ := hst1.inv
  have hsr := hst2
  exact lv_dup2_11 hx hb hd ((m_v_cat hV).trans hc) ((m_v_cat hV2).trans hc2) (k p e R s m args below meth c A al0 H locs cells slots CT ST _ ws _ _ hF hSt hsc hR h1 h2 h3 h4 hA hK hP hD hS hW hal hls hlv (m_vs.cons hV (m_vs.cons hV2 (m_vs.cons hV (m_vs.cons hV2 hsr)))))
theorem e_if_eq {g : MG} {sc : MS} {M : MM} {d w pc : Nat} {lv : ML} {st : List MV} {h : List MC} {mc ms : Nat} {Q : MO → List MC → Prop} {x : Int32} {off : Int} {tgt : Nat} (hd : decode M.2.1 pc = .ok (.ifCond .eq off, 3)) (ht : (pc : Int) + off = (tgt : Int)) (kt : x = 0 → Ev g sc M d w tgt lv st h mc ms Q) (kf : ¬ x = 0 → Ev g sc M d w (pc + 3) lv st h mc ms Q) : Ev g sc M d w pc lv (mi x :: st) h mc ms Q := by
  intro p e R s m args below meth c A al0 H locs cells slots CT ST ls ws LV VS hF hSt hsc hR h1 h2 h3 h4 hA hK hP hD hS hW hal hls hlv hst
  obtain ⟨hx, hb, hr, hlk, hml, hown, hts, hnm, htb⟩ := id hF
  obtain ⟨V, VS', rfl, hV, hst1⟩ := hst.inv
  have hsr := hst1
  cases hV
  exact lv_if_eq hx hb hd ht (fun q => kt q p e R s m args below meth c A al0 H locs cells slots CT ST _ ws _ _ hF hSt hsc hR h1 h2 h3 h4 hA hK hP hD hS hW hal hls hlv hsr) (fun q => kf q p e R s m args below meth c A al0 H locs cells slots CT ST _ ws _ _ hF hSt hsc hR h1 h2 h3 h4 hA hK hP hD hS hW hal hls hlv hsr)
theorem e_icmp_eq {g : MG} {sc : MS} {M : MM} {d w pc : Nat} {lv : ML} {st : List MV} {h : List MC} {mc ms : Nat} {Q : MO → List MC → Prop} {x y : Int32} {off : Int} {tgt : Nat} (hd : decode M.2.1 pc = .ok (.if_icmp .eq off, 3)) (ht : (pc : Int) + off = (tgt : Int)) (kt : x = y → Ev g sc M d w tgt lv st h mc ms Q) (kf : ¬ x = y → Ev g sc M d w (pc + 3) lv st h mc ms Q) : Ev g sc M d w pc lv (mi y :: mi x :: st) h mc ms Q := by
  intro p e R s m args below meth c A al0 H locs cells slots CT ST ls ws LV VS hF hSt hsc hR h1 h2 h3 h4 hA hK hP hD hS hW hal hls hlv hst
  obtain ⟨hx, hb, hr, hlk, hml, hown, hts, hnm, htb⟩ := id hF
  obtain ⟨V, VS', rfl, hV, hst1⟩ := hst.inv
  obtain ⟨V2, VS2, rfl, hV2, hst2⟩ := hst1.inv
  have hsr := hst2
  cases hV
  cases hV2
  exact lv_icmp_eq hx hb hd ht (fun q => kt q p e R s m args below meth c A al0 H locs cells slots CT ST _ ws _ _ hF hSt hsc hR h1 h2 h3 h4 hA hK hP hD hS hW hal hls hlv hsr) (fun q => kf q p e R s m args below meth c A al0 H locs cells slots CT ST _ ws _ _ hF hSt hsc hR h1 h2 h3 h4 hA hK hP hD hS hW hal hls hlv hsr)
theorem e_if_ne {g : MG} {sc : MS} {M : MM} {d w pc : Nat} {lv : ML} {st : List MV} {h : List MC} {mc ms : Nat} {Q : MO → List MC → Prop} {x : Int32} {off : Int} {tgt : Nat} (hd : decode M.2.1 pc = .ok (.ifCond .ne off, 3)) (ht : (pc : Int) + off = (tgt : Int)) (kt : ¬ x = 0 → Ev g sc M d w tgt lv st h mc ms Q) (kf : x = 0 → Ev g sc M d w (pc + 3) lv st h mc ms Q) : Ev g sc M d w pc lv (mi x :: st) h mc ms Q := by
  intro p e R s m args below meth c A al0 H locs cells slots CT ST ls ws LV VS hF hSt hsc hR h1 h2 h3 h4 hA hK hP hD hS hW hal hls hlv hst
  obtain ⟨hx, hb, hr, hlk, hml, hown, hts, hnm, htb⟩ := id hF
  obtain ⟨V, VS', rfl, hV, hst1⟩ := hst.inv
  have hsr := hst1
  cases hV
  exact lv_if_ne hx hb hd ht (fun q => kt q p e R s m args below meth c A al0 H locs cells slots CT ST _ ws _ _ hF hSt hsc hR h1 h2 h3 h4 hA hK hP hD hS hW hal hls hlv hsr) (fun q => kf q p e R s m args below meth c A al0 H locs cells slots CT ST _ ws _ _ hF hSt hsc hR h1 h2 h3 h4 hA hK hP hD hS hW hal hls hlv hsr)
theorem e_icmp_ne {g : MG} {sc : MS} {M : MM} {d w pc : Nat} {lv : ML} {st : List MV} {h : List MC} {mc ms : Nat} {Q : MO → List MC → Prop} {x y : Int32} {off : Int} {tgt : Nat} (hd : decode M.2.1 pc = .ok (.if_icmp .ne off, 3)) (ht : (pc : Int) + off = (tgt : Int)) (kt : ¬ x = y → Ev g sc M d w tgt lv st h mc ms Q) (kf : x = y → Ev g sc M d w (pc + 3) lv st h mc ms Q) : Ev g sc M d w pc lv (mi y :: mi x :: st) h mc ms Q := by
  intro p e R s m args below meth c A al0 H locs cells slots CT ST ls ws LV VS hF hSt hsc hR h1 h2 h3 h4 hA hK hP hD hS hW hal hls hlv hst
  obtain ⟨hx, hb, hr, hlk, hml, hown, hts, hnm, htb⟩ := id hF
  obtain ⟨V, VS', rfl, hV, hst1⟩ := hst.inv
  obtain ⟨V2, VS2, rfl, hV2, hst2⟩ := hst1.inv
  have hsr := hst2
  cases hV
  cases hV2
  exact lv_icmp_ne hx hb hd ht (fun q => kt q p e R s m args below meth c A al0 H locs cells slots CT ST _ ws _ _ hF hSt hsc hR h1 h2 h3 h4 hA hK hP hD hS hW hal hls hlv hsr) (fun q => kf q p e R s m args below meth c A al0 H locs cells slots CT ST _ ws _ _ hF hSt hsc hR h1 h2 h3 h4 hA hK hP hD hS hW hal hls hlv hsr)
theorem e_if_lt {g : MG} {sc : MS} {M : MM} {d w pc : Nat} {lv : ML} {st : List MV} {h : List MC} {mc ms : Nat} {Q : MO → List MC → Prop} {x : Int32} {off : Int} {tgt : Nat} (hd : decode M.2.1 pc = .ok (.ifCond .lt off, 3)) (ht : (pc : Int) + off = (tgt : Int)) (kt : x < 0 → Ev g sc M d w tgt lv st h mc ms Q) (kf : ¬ x < 0 → Ev g sc M d w (pc + 3) lv st h mc ms Q) : Ev g sc M d w pc lv (mi x :: st) h mc ms Q := by
  intro p e R s m args below meth c A al0 H locs cells slots CT ST ls ws LV VS hF hSt hsc hR h1 h2 h3 h4 hA hK hP hD hS hW hal hls hlv hst
  obtain ⟨hx, hb, hr, hlk, hml, hown, hts, hnm, htb⟩ := id hF
  obtain ⟨V, VS', rfl, hV, hst1⟩ := hst.inv
  have hsr := hst1
  cases hV
  exact lv_if_lt hx hb hd ht (fun q => kt q p e R s m args below meth c A al0 H locs cells slots CT ST _ ws _ _ hF hSt hsc hR h1 h2 h3 h4 hA hK hP hD hS hW hal hls hlv hsr) (fun q => kf q p e R s m args below meth c A al0 H locs cells slots CT ST _ ws _ _ hF hSt hsc hR h1 h2 h3 h4 hA hK hP hD hS hW hal hls hlv hsr)
theorem e_icmp_lt {g : MG} {sc : MS} {M : MM} {d w pc : Nat} {lv : ML} {st : List MV} {h : List MC} {mc ms : Nat} {Q : MO → List MC → Prop} {x y : Int32} {off : Int} {tgt : Nat} (hd : decode M.2.1 pc = .ok (.if_icmp .lt off, 3)) (ht : (pc : Int) + off = (tgt : Int)) (kt : x < y → Ev g sc M d w tgt lv st h mc ms Q) (kf : ¬ x < y → Ev g sc M d w (pc + 3) lv st h mc ms Q) : Ev g sc M d w pc lv (mi y :: mi x :: st) h mc ms Q := by
  intro p e R s m args below meth c A al0 H locs cells slots CT ST ls ws LV VS hF hSt hsc hR h1 h2 h3 h4 hA hK hP hD hS hW hal hls hlv hst
  obtain ⟨hx, hb, hr, hlk, hml, hown, hts, hnm, htb⟩ := id hF
  obtain ⟨V, VS', rfl, hV, hst1⟩ := hst.inv
  obtain ⟨V2, VS2, rfl, hV2, hst2⟩ := hst1.inv
  have hsr := hst2
  cases hV
  cases hV2
  exact lv_icmp_lt hx hb hd ht (fun q => kt q p e R s m args below meth c A al0 H locs cells slots CT ST _ ws _ _ hF hSt hsc hR h1 h2 h3 h4 hA hK hP hD hS hW hal hls hlv hsr) (fun q => kf q p e R s m args below meth c A al0 H locs cells slots CT ST _ ws _ _ hF hSt hsc hR h1 h2 h3 h4 hA hK hP hD hS hW hal hls hlv hsr)
theorem e_if_ge {g : MG} {sc : MS} {M : MM} {d w pc : Nat} {lv : ML} {st : List MV} {h : List MC} {mc ms : Nat} {Q : MO → List MC → Prop} {x : Int32} {off : Int} {tgt : Nat} (hd : decode M.2.1 pc = .ok (.ifCond .ge off, 3)) (ht : (pc : Int) + off = (tgt : Int)) (kt : 0 ≤ x → Ev g sc M d w tgt lv st h mc ms Q) (kf : ¬ 0 ≤ x → Ev g sc M d w (pc + 3) lv st h mc ms Q) : Ev g sc M d w pc lv (mi x :: st) h mc ms Q := by
  intro p e R s m args below meth c A al0 H locs cells slots CT ST ls ws LV VS hF hSt hsc hR h1 h2 h3 h4 hA hK hP hD hS hW hal hls hlv hst
  obtain ⟨hx, hb, hr, hlk, hml, hown, hts, hnm, htb⟩ := id hF
  obtain ⟨V, VS', rfl, hV, hst1⟩ := hst.inv
  have hsr := hst1
  cases hV
  exact lv_if_ge hx hb hd ht (fun q => kt q p e R s m args below meth c A al0 H locs cells slots CT ST _ ws _ _ hF hSt hsc hR h1 h2 h3 h4 hA hK hP hD hS hW hal hls hlv hsr) (fun q => kf q p e R s m args below meth c A al0 H locs cells slots CT ST _ ws _ _ hF hSt hsc hR h1 h2 h3 h4 hA hK hP hD hS hW hal hls hlv hsr)
theorem e_icmp_ge {g : MG} {sc : MS} {M : MM} {d w pc : Nat} {lv : ML} {st : List MV} {h : List MC} {mc ms : Nat} {Q : MO → List MC → Prop} {x y : Int32} {off : Int} {tgt : Nat} (hd : decode M.2.1 pc = .ok (.if_icmp .ge off, 3)) (ht : (pc : Int) + off = (tgt : Int)) (kt : y ≤ x → Ev g sc M d w tgt lv st h mc ms Q) (kf : ¬ y ≤ x → Ev g sc M d w (pc + 3) lv st h mc ms Q) : Ev g sc M d w pc lv (mi y :: mi x :: st) h mc ms Q := by
  intro p e R s m args below meth c A al0 H locs cells slots CT ST ls ws LV VS hF hSt hsc hR h1 h2 h3 h4 hA hK hP hD hS hW hal hls hlv hst
  obtain ⟨hx, hb, hr, hlk, hml, hown, hts, hnm, htb⟩ := id hF
  obtain ⟨V, VS', rfl, hV, hst1⟩ := hst.inv
  obtain ⟨V2, VS2, rfl, hV2, hst2⟩ := hst1.inv
  have hsr := hst2
  cases hV
  cases hV2
  exact lv_icmp_ge hx hb hd ht (fun q => kt q p e R s m args below meth c A al0 H locs cells slots CT ST _ ws _ _ hF hSt hsc hR h1 h2 h3 h4 hA hK hP hD hS hW hal hls hlv hsr) (fun q => kf q p e R s m args below meth c A al0 H locs cells slots CT ST _ ws _ _ hF hSt hsc hR h1 h2 h3 h4 hA hK hP hD hS hW hal hls hlv hsr)
theorem e_if_gt {g : MG} {sc : MS} {M : MM} {d w pc : Nat} {lv : ML} {st : List MV} {h : List MC} {mc ms : Nat} {Q : MO → List MC → Prop} {x : Int32} {off : Int} {tgt : Nat} (hd : decode M.2.1 pc = .ok (.ifCond .gt off, 3)) (ht : (pc : Int) + off = (tgt : Int)) (kt : 0 < x → Ev g sc M d w tgt lv st h mc ms Q) (kf : ¬ 0 < x → Ev g sc M d w (pc + 3) lv st h mc ms Q) : Ev g sc M d w pc lv (mi x :: st) h mc ms Q := by
  intro p e R s m args below meth c A al0 H locs cells slots CT ST ls ws LV VS hF hSt hsc hR h1 h2 h3 h4 hA hK hP hD hS hW hal hls hlv hst
  obtain ⟨hx, hb, hr, hlk, hml, hown, hts, hnm, htb⟩ := id hF
  obtain ⟨V, VS', rfl, hV, hst1⟩ := hst.inv
  have hsr := hst1
  cases hV
  exact lv_if_gt hx hb hd ht (fun q => kt q p e R s m args below meth c A al0 H locs cells slots CT ST _ ws _ _ hF hSt hsc hR h1 h2 h3 h4 hA hK hP hD hS hW hal hls hlv hsr) (fun q => kf q p e R s m args below meth c A al0 H locs cells slots CT ST _ ws _ _ hF hSt hsc hR h1 h2 h3 h4 hA hK hP hD hS hW hal hls hlv hsr)
theorem e_icmp_gt {g : MG} {sc : MS} {M : MM} {d w pc : Nat} {lv : ML} {st : List MV} {h : List MC} {mc ms : Nat} {Q : MO → List MC → Prop} {x y : Int32} {off : Int} {tgt : Nat} (hd : decode M.2.1 pc = .ok (.if_icmp .gt off, 3)) (ht : (pc : Int) + off = (tgt : Int)) (kt : y < x → Ev g sc M d w tgt lv st h mc ms Q) (kf : ¬ y < x → Ev g sc M d w (pc + 3) lv st h mc ms Q) : Ev g sc M d w pc lv (mi y :: mi x :: st) h mc ms Q := by
  intro p e R s m args below meth c A al0 H locs cells slots CT ST ls ws LV VS hF hSt hsc hR h1 h2 h3 h4 hA hK hP hD hS hW hal hls hlv hst
  obtain ⟨hx, hb, hr, hlk, hml, hown, hts, hnm, htb⟩ := id hF
  obtain ⟨V, VS', rfl, hV, hst1⟩ := hst.inv
  obtain ⟨V2, VS2, rfl, hV2, hst2⟩ := hst1.inv
  have hsr := hst2
  cases hV
  cases hV2
  exact lv_icmp_gt hx hb hd ht (fun q => kt q p e R s m args below meth c A al0 H locs cells slots CT ST _ ws _ _ hF hSt hsc hR h1 h2 h3 h4 hA hK hP hD hS hW hal hls hlv hsr) (fun q => kf q p e R s m args below meth c A al0 H locs cells slots CT ST _ ws _ _ hF hSt hsc hR h1 h2 h3 h4 hA hK hP hD hS hW hal hls hlv hsr)
theorem e_if_le {g : MG} {sc : MS} {M : MM} {d w pc : Nat} {lv : ML} {st : List MV} {h : List MC} {mc ms : Nat} {Q : MO → List MC → Prop} {x : Int32} {off : Int} {tgt : Nat} (hd : decode M.2.1 pc = .ok (.ifCond .le off, 3)) (ht : (pc : Int) + off = (tgt : Int)) (kt : x ≤ 0 → Ev g sc M d w tgt lv st h mc ms Q) (kf : ¬ x ≤ 0 → Ev g sc M d w (pc + 3) lv st h mc ms Q) : Ev g sc M d w pc lv (mi x :: st) h mc ms Q := by
  intro p e R s m args below meth c A al0 H locs cells slots CT ST ls ws LV VS hF hSt hsc hR h1 h2 h3 h4 hA hK hP hD hS hW hal hls hlv hst
  obtain ⟨hx, hb, hr, hlk, hml, hown, hts, hnm, htb⟩ := id hF
  obtain ⟨V, VS', rfl, hV, hst1⟩ := hst.inv
  have hsr := hst1
  cases hV
  exact lv_if_le hx hb hd ht (fun q => kt q p e R s m args below meth c A al0 H locs cells slots CT ST _ ws _ _ hF hSt hsc hR h1 h2 h3 h4 hA hK hP hD hS hW hal hls hlv hsr) (fun q => kf q p e R s m args below meth c A al0 H locs cells slots CT ST _ ws _ _ hF hSt hsc hR h1 h2 h3 h4 hA hK hP hD hS hW hal hls hlv hsr)
theorem e_icmp_le {g : MG} {sc : MS} {M : MM} {d w pc : Nat} {lv : ML} {st : List MV} {h : List MC} {mc ms : Nat} {Q : MO → List MC → Prop} {x y : Int32} {off : Int} {tgt : Nat} (hd : decode M.2.1 pc = .ok (.if_icmp .le off, 3)) (ht : (pc : Int) + off = (tgt : Int)) (kt : x ≤ y → Ev g sc M d w tgt lv st h mc ms Q) (kf : ¬ x ≤ y → Ev g sc M d w (pc + 3) lv st h mc ms Q) : Ev g sc M d w pc lv (mi y :: mi x :: st) h mc ms Q := by
  intro p e R s m args below meth c A al0 H locs cells slots CT ST ls ws LV VS hF hSt hsc hR h1 h2 h3 h4 hA hK hP hD hS hW hal hls hlv hst
  obtain ⟨hx, hb, hr, hlk, hml, hown, hts, hnm, htb⟩ := id hF
  obtain ⟨V, VS', rfl, hV, hst1⟩ := hst.inv
  obtain ⟨V2, VS2, rfl, hV2, hst2⟩ := hst1.inv
  have hsr := hst2
  cases hV
  cases hV2
  exact lv_icmp_le hx hb hd ht (fun q => kt q p e R s m args below meth c A al0 H locs cells slots CT ST _ ws _ _ hF hSt hsc hR h1 h2 h3 h4 hA hK hP hD hS hW hal hls hlv hsr) (fun q => kf q p e R s m args below meth c A al0 H locs cells slots CT ST _ ws _ _ hF hSt hsc hR h1 h2 h3 h4 hA hK hP hD hS hW hal hls hlv hsr)
theorem e_goto {g : MG} {sc : MS} {M : MM} {d w pc : Nat} {lv : ML} {st : List MV} {h : List MC} {mc ms : Nat} {Q : MO → List MC → Prop} {off : Int} {tgt : Nat} (hd : decode M.2.1 pc = .ok (.goto off, 3)) (ht : (pc : Int) + off = (tgt : Int)) (k : Ev g sc M d w tgt lv st h mc ms Q) : Ev g sc M d w pc lv st h mc ms Q := by
  intro p e R s m args below meth c A al0 H locs cells slots CT ST ls ws LV VS hF hSt hsc hR h1 h2 h3 h4 hA hK hP hD hS hW hal hls hlv hst
  obtain ⟨hx, hb, hr, hlk, hml, hown, hts, hnm, htb⟩ := id hF
  exact lv_goto hx hb hd ht (k p e R s m args below meth c A al0 H locs cells slots CT ST _ ws _ _ hF hSt hsc hR h1 h2 h3 h4 hA hK hP hD hS hW hal hls hlv hst)
theorem e_ifnull0 {g : MG} {sc : MS} {M : MM} {d w pc : Nat} {lv : ML} {st : List MV} {h : List MC} {mc ms : Nat} {Q : MO → List MC → Prop} {off : Int} {tgt : Nat} (hd : decode M.2.1 pc = .ok (.ifnull off, 3)) (ht : (pc : Int) + off = (tgt : Int)) (k : Ev g sc M d w tgt lv st h mc ms Q) : Ev g sc M d w pc lv (mn :: st) h mc ms Q := by
  intro p e R s m args below meth c A al0 H locs cells slots CT ST ls ws LV VS hF hSt hsc hR h1 h2 h3 h4 hA hK hP hD hS hW hal hls hlv hst
  obtain ⟨hx, hb, hr, hlk, hml, hown, hts, hnm, htb⟩ := id hF
  obtain ⟨V, VS', rfl, hV, hst1⟩ := hst.inv
  have hsr := hst1
  cases hV
  exact lv_ifnullN hx hb hd ht (k p e R s m args below meth c A al0 H locs cells slots CT ST _ ws _ _ hF hSt hsc hR h1 h2 h3 h4 hA hK hP hD hS hW hal hls hlv hsr)
theorem e_ifnull1 {g : MG} {sc : MS} {M : MM} {d w pc : Nat} {lv : ML} {st : List MV} {h : List MC} {mc ms : Nat} {Q : MO → List MC → Prop} {r : Nat} {off : Int} (hd : decode M.2.1 pc = .ok (.ifnull off, 3)) (k : Ev g sc M d w (pc + 3) lv st h mc ms Q) : Ev g sc M d w pc lv (mr r :: st) h mc ms Q := by
  intro p e R s m args below meth c A al0 H locs cells slots CT ST ls ws LV VS hF hSt hsc hR h1 h2 h3 h4 hA hK hP hD hS hW hal hls hlv hst
  obtain ⟨hx, hb, hr, hlk, hml, hown, hts, hnm, htb⟩ := id hF
  obtain ⟨V, VS', rfl, hV, hst1⟩ := hst.inv
  have hsr := hst1
  obtain ⟨q, -, rfl⟩ := m_v_mr hV
  exact lv_ifnull hx hb hd (k p e R s m args below meth c A al0 H locs cells slots CT ST _ ws _ _ hF hSt hsc hR h1 h2 h3 h4 hA hK hP hD hS hW hal hls hlv hsr)
theorem e_ifnonnull0 {g : MG} {sc : MS} {M : MM} {d w pc : Nat} {lv : ML} {st : List MV} {h : List MC} {mc ms : Nat} {Q : MO → List MC → Prop} {off : Int} (hd : decode M.2.1 pc = .ok (.ifnonnull off, 3)) (k : Ev g sc M d w (pc + 3) lv st h mc ms Q) : Ev g sc M d w pc lv (mn :: st) h mc ms Q := by
  intro p e R s m args below meth c A al0 H locs cells slots CT ST ls ws LV VS hF hSt hsc hR h1 h2 h3 h4 hA hK hP hD hS hW hal hls hlv hst
  obtain ⟨hx, hb, hr, hlk, hml, hown, hts, hnm, htb⟩ := id hF
  obtain ⟨V, VS', rfl, hV, hst1⟩ := hst.inv
  have hsr := hst1
  cases hV
  exact lv_ifnonnullN hx hb hd (k p e R s m args below meth c A al0 H locs cells slots CT ST _ ws _ _ hF hSt hsc hR h1 h2 h3 h4 hA hK hP hD hS hW hal hls hlv hsr)
theorem e_ifnonnull1 {g : MG} {sc : MS} {M : MM} {d w pc : Nat} {lv : ML} {st : List MV} {h : List MC} {mc ms : Nat} {Q : MO → List MC → Prop} {r : Nat} {off : Int} {tgt : Nat} (hd : decode M.2.1 pc = .ok (.ifnonnull off, 3)) (ht : (pc : Int) + off = (tgt : Int)) (k : Ev g sc M d w tgt lv st h mc ms Q) : Ev g sc M d w pc lv (mr r :: st) h mc ms Q := by
  intro p e R s m args below meth c A al0 H locs cells slots CT ST ls ws LV VS hF hSt hsc hR h1 h2 h3 h4 hA hK hP hD hS hW hal hls hlv hst
  obtain ⟨hx, hb, hr, hlk, hml, hown, hts, hnm, htb⟩ := id hF
  obtain ⟨V, VS', rfl, hV, hst1⟩ := hst.inv
  have hsr := hst1
  obtain ⟨q, -, rfl⟩ := m_v_mr hV
  exact lv_ifnonnull hx hb hd ht (k p e R s m args below meth c A al0 H locs cells slots CT ST _ ws _ _ hF hSt hsc hR h1 h2 h3 h4 hA hK hP hD hS hW hal hls hlv hsr)
theorem e_tableIn {g : MG} {sc : MS} {M : MM} {d w pc : Nat} {lv : ML} {st : List MV} {h : List MC} {mc ms : Nat} {Q : MO → List MC → Prop} {dflt lo hi : Int} {offs : Array Int} {len : Nat} {x : Int32} {off : Int} {tgt : Nat} (hd : decode M.2.1 pc = .ok (.tableswitch dflt lo hi offs, len)) (q1 : ¬ x.toInt < lo) (q2 : ¬ hi < x.toInt) (ho : offs[(x.toInt - lo).toNat]? = some off) (ht : (pc : Int) + off = (tgt : Int)) (k : Ev g sc M d w tgt lv st h mc ms Q) : Ev g sc M d w pc lv (mi x :: st) h mc ms Q := by
  intro p e R s m args below meth c A al0 H locs cells slots CT ST ls ws LV VS hF hSt hsc hR h1 h2 h3 h4 hA hK hP hD hS hW hal hls hlv hst
  obtain ⟨hx, hb, hr, hlk, hml, hown, hts, hnm, htb⟩ := id hF
  obtain ⟨V, VS', rfl, hV, hst1⟩ := hst.inv
  have hsr := hst1
  cases hV
  exact lv_tableIn hx hb hd q1 q2 ho ht (k p e R s m args below meth c A al0 H locs cells slots CT ST _ ws _ _ hF hSt hsc hR h1 h2 h3 h4 hA hK hP hD hS hW hal hls hlv hsr)
theorem e_tableOut {g : MG} {sc : MS} {M : MM} {d w pc : Nat} {lv : ML} {st : List MV} {h : List MC} {mc ms : Nat} {Q : MO → List MC → Prop} {dflt lo hi : Int} {offs : Array Int} {len : Nat} {x : Int32} {tgt : Nat} (hd : decode M.2.1 pc = .ok (.tableswitch dflt lo hi offs, len)) (q1 : x.toInt < lo ∨ hi < x.toInt) (ht : (pc : Int) + dflt = (tgt : Int)) (k : Ev g sc M d w tgt lv st h mc ms Q) : Ev g sc M d w pc lv (mi x :: st) h mc ms Q := by
  intro p e R s m args below meth c A al0 H locs cells slots CT ST ls ws LV VS hF hSt hsc hR h1 h2 h3 h4 hA hK hP hD hS hW hal hls hlv hst
  obtain ⟨hx, hb, hr, hlk, hml, hown, hts, hnm, htb⟩ := id hF
  obtain ⟨V, VS', rfl, hV, hst1⟩ := hst.inv
  have hsr := hst1
  cases hV
  exact lv_tableOut hx hb hd q1 ht (k p e R s m args below meth c A al0 H locs cells slots CT ST _ ws _ _ hF hSt hsc hR h1 h2 h3 h4 hA hK hP hD hS hW hal hls hlv hsr)
theorem e_lookup {g : MG} {sc : MS} {M : MM} {d w pc : Nat} {lv : ML} {st : List MV} {h : List MC} {mc ms : Nat} {Q : MO → List MC → Prop} {dflt : Int} {ps : Array (Int × Int)} {len : Nat} {x : Int32} {off : Int} {tgt : Nat} (hd : decode M.2.1 pc = .ok (.lookupswitch dflt ps, len)) (q1 : (ps.toList.zip (ps.toList.drop 1)).all (fun (a, next) => a.1 < next.1) = true) (ho : Op.lookupswitch.offset ps.toList dflt x.toInt = off) (ht : (pc : Int) + off = (tgt : Int)) (k : Ev g sc M d w tgt lv st h mc ms Q) : Ev g sc M d w pc lv (mi x :: st) h mc ms Q := by
  intro p e R s m args below meth c A al0 H locs cells slots CT ST ls ws LV VS hF hSt hsc hR h1 h2 h3 h4 hA hK hP hD hS hW hal hls hlv hst
  obtain ⟨hx, hb, hr, hlk, hml, hown, hts, hnm, htb⟩ := id hF
  obtain ⟨V, VS', rfl, hV, hst1⟩ := hst.inv
  have hsr := hst1
  cases hV
  exact lv_lookup hx hb hd q1 ho ht (k p e R s m args below meth c A al0 H locs cells slots CT ST _ ws _ _ hF hSt hsc hR h1 h2 h3 h4 hA hK hP hD hS hW hal hls hlv hsr)
theorem e_topi {g : MG} {sc : MS} {M : MM} {d w pc : Nat} {lv : ML} {st : List MV} {h : List MC} {mc ms : Nat} {Q : MO → List MC → Prop} {x : Int32} (k : ∀ y : Int32, y = x → Ev g sc M d w pc lv (mi y :: st) h mc ms Q) : Ev g sc M d w pc lv (mi x :: st) h mc ms Q := k x rfl
end
section
/-- no script among what is kept -/
def m_nsc : MV → Bool
  | .inr (.inr (.inr _)) => false
  | _ => true
theorem m_v_none {al : List Nat} {sc : MS} {v : MV} {V : Value} (hn : m_nsc v = true) (h : m_v al sc v = some V) : m_v al none v = some V := by
  rcases v with x | x | (_ | p) | u
  · exact h
  · exact h
  · exact h
  · exact h
  · cases hn
theorem m_v_rf {al : List Nat} {sc : MS} {r F : Option Nat} (h : r.map (fun p => al[p]?) = F.map some) : m_v al sc (.inr (.inr (.inl r))) = some (va_rf F) := by
  cases r with
  | none =>
    cases F with
    | none => rfl
    | some a => cases h
  | some p =>
    cases F with
    | none => cases h
    | some a =>
      have h4 : al[p]? = some a := Option.some.inj h
      simp only [m_v, h4, Option.map_some]
      rfl
theorem m_rf_up {al : List Nat} {f F : Nat → Option Nat} (h : ∀ k : Nat, (f k).map (fun p => al[p]?) = (F k).map some) {j p a : Nat} (hp : al[p]? = some a) : ∀ k : Nat, (va_up f j (some p) k).map (fun p => al[p]?) = (va_up F j (some a) k).map some := by
  intro k
  unfold va_up
  by_cases hk : k = j
  · rw [if_pos hk, if_pos hk]
    show some (al[p]?) = some (some a)
    rw [hp]
  · rw [if_neg hk, if_neg hk]
    exact h k
/-- arrays of references to class ci stand in the table of types -/
def m_oa (ci : Nat) : Prop := ∀ ac : Nat → ClassId, ∃ (t0 : Nat) (q : vw_C), (m_tys ac)[t0]? = some (ac (3 + ci), .object q.1) ∧ m_cl[ci]? = some q
/-- a field: own class's pool index i is field k of class ci -/
def m_fl (own : String) (i ci k : Nat) : Prop := ∃ (C : String) (T : u_T) (N : Nat), m_cl[ci]? = some (C, T, N) ∧ k < N ∧ (∀ w ∈ u_ws C T N, w ∈ m_Ts) ∧ (Cond.fieldLink own i (T k).1 (T k).2.1 (T k).2.2.1 ∈ m_Ts ∨ ∃ host, (own, i, (T k).1, (T k).2.1, (T k).2.2.1, host) ∈ m_nestF)
/-- .. and may be written: its type -/
def m_fp (own : String) (i ci k : Nat) (ty : FieldType) (fin : Bool) : Prop := ∃ (C : String) (T : u_T) (N : Nat) (ty0 : Nat → FieldType), m_cl[ci]? = some (C, T, N) ∧ k < N ∧ (∀ w ∈ u_ws C T N, w ∈ m_Ts) ∧ (Cond.fieldLink own i (T k).1 (T k).2.1 (T k).2.2.1 ∈ m_Ts ∨ (fin = false ∧ ∃ host, (own, i, (T k).1, (T k).2.1, (T k).2.2.1, host) ∈ m_nestF)) ∧ (∀ a, a < N → parseFieldDescriptor (T a).2.2.1 = some (ty0 a)) ∧ (∀ a, a < N → ∀ b, b < N → a ≠ b → (T a).2.1 ≠ (T b).2.1) ∧ (T k).2.2.2 = fin ∧ (T k).1 = (if fin then own else (T k).1) ∧ parseFieldDescriptor (T k).2.2.1 = some ty
def m_fits (ty : FieldType) (v : MV) : Prop := ∀ (al : List Nat) (sc : MS) (V : Value), m_v al sc v = some V → narrow ty V = V ∧ fits ty V = true
theorem m_fits_i (x : Int32) : m_fits .int (mi x) := fun _ _ V h => by cases h; exact ⟨rfl, rfl⟩
theorem m_fits_o (C : String) (r : Option Nat ⊕ Unit) : m_fits (.object C) (.inr (.inr r)) := fun _ _ V h => by rcases m_v_ref h with rfl | ⟨q, rfl⟩ <;> exact ⟨rfl, rfl⟩
theorem m_fits_a (t : FieldType) (r : Option Nat ⊕ Unit) : m_fits (.array t) (.inr (.inr r)) := fun _ _ V h => by rcases m_v_ref h with rfl | ⟨q, rfl⟩ <;> exact ⟨rfl, rfl⟩
theorem m_c_o {ac : Nat → ClassId} {al : List Nat} {ci : Nat} {fs : List MV} {e : va_E} (h : m_c ac al (cO ci fs) e) : ∃ FS : List Value, e = .inr (ci, FS) ∧ m_vs al none fs FS := h
theorem m_c_r {ac : Nat → ClassId} {al : List Nat} {ci n : Nat} {f : Nat → Option Nat} {e : va_E} (h : m_c ac al (cR ci n f) e) : ∃ F : Nat → Option Nat, e = .inl (ac (3 + ci), n, .inr (.inr (.inr (.inr F)))) ∧ ∀ k : Nat, (f k).map (fun p => al[p]?) = (F k).map some := h
theorem m_c_i {ac : Nat → ClassId} {al : List Nat} {n : Nat} {f : Nat → Int32} {e : va_E} (h : m_c ac al (cI n f) e) : e = .inl (ac 0, n, .inl f) := h
theorem m_c_z {ac : Nat → ClassId} {al : List Nat} {n : Nat} {f : Nat → Int32} {e : va_E} (h : m_c ac al (cZ n f) e) : e = .inl (ac 1, n, .inl f) := h
theorem m_c_l {ac : Nat → ClassId} {al : List Nat} {n : Nat} {f : Nat → Int64} {e : va_E} (h : m_c ac al (cL n f) e) : e = .inl (ac 2, n, .inr (.inl f)) := h
/-- a reference on the stack and its cell -/
theorem m_ref {ac : Nat → ClassId} {h : List MC} {ws : va_W} {sc : MS} (hW : m_W ac h ws) {r : Nat} {c : MC} {V : Value} (hr : h[r]? = some c) (hV : m_v (m_al ws) sc (mr r) = some V) : ∃ (a : Nat) (e : va_E), V = .ref a ∧ ws[r]? = some (a, e) ∧ m_c ac (m_al ws) c e := by
  obtain ⟨q, hq, rfl⟩ := m_v_mr hV
  obtain ⟨a, e, e1, e2, e3⟩ := hW.get hr
  cases Option.some.inj (hq.symm.trans e2)
  exact ⟨_, e, rfl, e1, e3⟩
theorem e_getfield {g : MG} {sc : MS} {M : MM} {d w pc : Nat} {lv : ML} {st : List MV} {h : List MC} {mc ms : Nat} {Q : MO → List MC → Prop} {i ci k r : Nat} {fs : List MV} {v : MV} (hd : decode M.2.1 pc = .ok (.getfield i, 3)) (hf : m_fl M.1.cls i ci k) (ho : h[r]? = some (cO ci fs)) (hv : fs[k]? = some v) (kk : Ev g sc M d w (pc + 3) lv (v :: st) h mc ms Q) : Ev g sc M d w pc lv (mr r :: st) h mc ms Q := by
  intro p e R s m args below meth c A al0 H locs cells slots CT ST ls ws LV VS hF hSt hsc hR h1 h2 h3 h4 hA hK hP hD hS hW hal hls hlv hst
  obtain ⟨hx, hb, hr, hlk, hml, hown, hts, hnm, htb⟩ := id hF
  obtain ⟨V0, VS0, rfl, hV0, hst1⟩ := hst.inv
  have hsr := hst1
  obtain ⟨a, e9, rfl, hwr, hc9⟩ := m_ref hW ho hV0
  obtain ⟨FS, rfl, hfs⟩ := m_c_o hc9
  obtain ⟨V, hV, hVv⟩ := hfs.at hv
  obtain ⟨C, T, N, hc, hk, hin, hl | ⟨host, hl⟩⟩ := hf
  · exact va_get hx hb hts hin hown hK hP r hwr hc k hk (hts _ hl) (fun _ q => q) hV hd (kk p e R s m args below meth c A al0 H locs cells slots CT ST _ _ _ _ hF hSt hsc hR h1 h2 h3 h4 hA hK hP hD hS hW hal hls hlv (m_vs.cons (m_v_sc hVv) hsr))
  · exact va_getN hx hb hts hin hown hK hP r hwr hc k hk (va_Nw.use rfl (hSt.2.2.2.1 _ hl)) (fun _ q => q) hV hd (kk p e R s m args below meth c A al0 H locs cells slots CT ST _ _ _ _ hF hSt hsc hR h1 h2 h3 h4 hA hK hP hD hS hW hal hls hlv (m_vs.cons (m_v_sc hVv) hsr))
theorem e_putfield {g : MG} {sc : MS} {M : MM} {d w pc : Nat} {lv : ML} {st : List MV} {h : List MC} {mc ms : Nat} {Q : MO → List MC → Prop} {i ci k r : Nat} {fs : List MV} {v : MV} {ty : FieldType} (hd : decode M.2.1 pc = .ok (.putfield i, 3)) (hf : m_fp M.1.cls i ci k ty false) (ho : h[r]? = some (cO ci fs)) (hkl : k < fs.length) (hty : m_fits ty v) (hnsc : m_nsc v = true) (kk : Ev g sc M d w (pc + 3) lv st (h.set r (cO ci (fs.set k v))) mc ms Q) : Ev g sc M d w pc lv (v :: mr r :: st) h mc ms Q := by
  intro p e R s m args below meth c A al0 H locs cells slots CT ST ls ws LV VS hF hSt hsc hR h1 h2 h3 h4 hA hK hP hD hS hW hal hls hlv hst
  obtain ⟨hx, hb, hr, hlk, hml, hown, hts, hnm, htb⟩ := id hF
  obtain ⟨V0, VS0, rfl, hV0, hst1⟩ := hst.inv
  obtain ⟨V1, VS1, rfl, hV1, hst2⟩ := hst1.inv
  have hsr := hst2
  obtain ⟨a, e9, rfl, hwr, hc9⟩ := m_ref hW ho hV1
  obtain ⟨FS, rfl, hfs⟩ := m_c_o hc9
  obtain ⟨hn, hfit⟩ := hty _ _ _ hV0
  have hl9 : k < FS.length := by rw [hfs.len]; exact hkl
  obtain ⟨C, T, N, ty0, hc, hk, hin, hl, ht0, hnm9, hfin, hdecl, hpd⟩ := hf
  rcases hl with hl | ⟨-, host, hl⟩
  · exact va_put hx hb hts hin ty0 ht0 hnm9 hown hK hP hD hS r hwr hc k hk (hts _ hl) (fun _ q => q) hfin hpd hn hfit hl9 hd (fun H9 locs9 hP9 hD9 hS9 => kk p e R s m args below meth c A al0 H9 locs9 cells slots CT ST _ _ _ _ hF hSt hsc hR h1 h2 h3 h4 hA hK hP9 hD9 hS9 (hW.set hwr ⟨_, rfl, hfs.set (m_v_none hnsc hV0)⟩) (by rw [m_al_set hwr]; exact hal) hls (by rw [m_al_set hwr]; exact hlv) (by rw [m_al_set hwr]; exact hsr))
  · exact va_putN hx hb hts hin ty0 ht0 hnm9 hown hK hP hD hS r hwr hc k hk (va_Nw.use rfl (hSt.2.2.2.1 _ hl)) (fun _ q => q) hfin hpd hn hfit hl9 hd (fun H9 locs9 hP9 hD9 hS9 => kk p e R s m args below meth c A al0 H9 locs9 cells slots CT ST _ _ _ _ hF hSt hsc hR h1 h2 h3 h4 hA hK hP9 hD9 hS9 (hW.set hwr ⟨_, rfl, hfs.set (m_v_none hnsc hV0)⟩) (by rw [m_al_set hwr]; exact hal) hls (by rw [m_al_set hwr]; exact hlv) (by rw [m_al_set hwr]; exact hsr))
theorem e_putfinal {g : MG} {sc : MS} {M : MM} {d w pc : Nat} {lv : ML} {st : List MV} {h : List MC} {mc ms : Nat} {Q : MO → List MC → Prop} {i ci k r : Nat} {fs : List MV} {v : MV} {ty : FieldType} (hd : decode M.2.1 pc = .ok (.putfield i, 3)) (hf : m_fp M.1.cls i ci k ty true) (ho : h[r]? = some (cO ci fs)) (hkl : k < fs.length) (hty : m_fits ty v) (hnsc : m_nsc v = true) (hin2 : M.1.name = "<init>") (kk : Ev g sc M d w (pc + 3) lv st (h.set r (cO ci (fs.set k v))) mc ms Q) : Ev g sc M d w pc lv (v :: mr r :: st) h mc ms Q := by
  intro p e R s m args below meth c A al0 H locs cells slots CT ST ls ws LV VS hF hSt hsc hR h1 h2 h3 h4 hA hK hP hD hS hW hal hls hlv hst
  obtain ⟨hx, hb, hr, hlk, hml, hown, hts, hnm, htb⟩ := id hF
  obtain ⟨V0, VS0, rfl, hV0, hst1⟩ := hst.inv
  obtain ⟨V1, VS1, rfl, hV1, hst2⟩ := hst1.inv
  have hsr := hst2
  obtain ⟨a, e9, rfl, hwr, hc9⟩ := m_ref hW ho hV1
  obtain ⟨FS, rfl, hfs⟩ := m_c_o hc9
  obtain ⟨hn, hfit⟩ := hty _ _ _ hV0
  have hl9 : k < FS.length := by rw [hfs.len]; exact hkl
  obtain ⟨C, T, N, ty0, hc, hk, hin, hl, ht0, hnm9, hfin, hdecl, hpd⟩ := hf
  rcases hl with hl | ⟨hl, -⟩
  · exact va_putF hx hb hts hin ty0 ht0 hnm9 hown hK hP hD hS r hwr hc k hk (hts _ hl) (fun _ q => q) hfin (hnm.trans hin2) hdecl hpd hn hfit hl9 hd (fun H9 locs9 hP9 hD9 hS9 => kk p e R s m args below meth c A al0 H9 locs9 cells slots CT ST _ _ _ _ hF hSt hsc hR h1 h2 h3 h4 hA hK hP9 hD9 hS9 (hW.set hwr ⟨_, rfl, hfs.set (m_v_none hnsc hV0)⟩) (by rw [m_al_set hwr]; exact hal) hls (by rw [m_al_set hwr]; exact hlv) (by rw [m_al_set hwr]; exact hsr))
  · cases hl
theorem e_iaload {g : MG} {sc : MS} {M : MM} {d w pc : Nat} {lv : ML} {st : List MV} {h : List MC} {mc ms : Nat} {Q : MO → List MC → Prop} {r n : Nat} {f : Nat → Int32} {i : Int32} (hd : decode M.2.1 pc = .ok (.iaload, 1)) (ho : h[r]? = some (cI n f)) (hin : vp_in i n) (kk : Ev g sc M d w (pc + 1) lv (mi (f i.toNatClampNeg) :: st) h mc ms Q) : Ev g sc M d w pc lv (mi i :: mr r :: st) h mc ms Q := by
  intro p e R s m args below meth c A al0 H locs cells slots CT ST ls ws LV VS hF hSt hsc hR h1 h2 h3 h4 hA hK hP hD hS hW hal hls hlv hst
  obtain ⟨hx, hb, hr, hlk, hml, hown, hts, hnm, htb⟩ := id hF
  obtain ⟨V0, VS0, rfl, hV0, hst1⟩ := hst.inv
  obtain ⟨V1, VS1, rfl, hV1, hst2⟩ := hst1.inv
  have hsr := hst2
  cases hV0
  obtain ⟨a, e9, rfl, hwr, hc9⟩ := m_ref hW ho hV1
  obtain rfl := m_c_i hc9
  exact va_iald hx hb hK hP r 0 hwr rfl hin hd (kk p e R s m args below meth c A al0 H locs cells slots CT ST _ _ _ _ hF hSt hsc hR h1 h2 h3 h4 hA hK hP hD hS hW hal hls hlv (m_vs.cons rfl hsr))
theorem e_laload {g : MG} {sc : MS} {M : MM} {d w pc : Nat} {lv : ML} {st : List MV} {h : List MC} {mc ms : Nat} {Q : MO → List MC → Prop} {r n : Nat} {f : Nat → Int64} {i : Int32} (hd : decode M.2.1 pc = .ok (.laload, 1)) (ho : h[r]? = some (cL n f)) (hin : vp_in i n) (kk : Ev g sc M d w (pc + 1) lv (ml (f i.toNatClampNeg) :: st) h mc ms Q) : Ev g sc M d w pc lv (mi i :: mr r :: st) h mc ms Q := by
  intro p e R s m args below meth c A al0 H locs cells slots CT ST ls ws LV VS hF hSt hsc hR h1 h2 h3 h4 hA hK hP hD hS hW hal hls hlv hst
  obtain ⟨hx, hb, hr, hlk, hml, hown, hts, hnm, htb⟩ := id hF
  obtain ⟨V0, VS0, rfl, hV0, hst1⟩ := hst.inv
  obtain ⟨V1, VS1, rfl, hV1, hst2⟩ := hst1.inv
  have hsr := hst2
  cases hV0
  obtain ⟨a, e9, rfl, hwr, hc9⟩ := m_ref hW ho hV1
  obtain rfl := m_c_l hc9
  exact va_lald hx hb hK hP r 2 hwr rfl hin hd (kk p e R s m args below meth c A al0 H locs cells slots CT ST _ _ _ _ hF hSt hsc hR h1 h2 h3 h4 hA hK hP hD hS hW hal hls hlv (m_vs.cons rfl hsr))
theorem e_baload {g : MG} {sc : MS} {M : MM} {d w pc : Nat} {lv : ML} {st : List MV} {h : List MC} {mc ms : Nat} {Q : MO → List MC → Prop} {r n : Nat} {f : Nat → Int32} {i : Int32} (hd : decode M.2.1 pc = .ok (.baload, 1)) (ho : h[r]? = some (cZ n f)) (hin : vp_in i n) (kk : Ev g sc M d w (pc + 1) lv (mi (f i.toNatClampNeg) :: st) h mc ms Q) : Ev g sc M d w pc lv (mi i :: mr r :: st) h mc ms Q := by
  intro p e R s m args below meth c A al0 H locs cells slots CT ST ls ws LV VS hF hSt hsc hR h1 h2 h3 h4 hA hK hP hD hS hW hal hls hlv hst
  obtain ⟨hx, hb, hr, hlk, hml, hown, hts, hnm, htb⟩ := id hF
  obtain ⟨V0, VS0, rfl, hV0, hst1⟩ := hst.inv
  obtain ⟨V1, VS1, rfl, hV1, hst2⟩ := hst1.inv
  have hsr := hst2
  cases hV0
  obtain ⟨a, e9, rfl, hwr, hc9⟩ := m_ref hW ho hV1
  obtain rfl := m_c_z hc9
  exact va_zald hx hb hK hP r 1 hwr rfl hin hd (kk p e R s m args below meth c A al0 H locs cells slots CT ST _ _ _ _ hF hSt hsc hR h1 h2 h3 h4 hA hK hP hD hS hW hal hls hlv (m_vs.cons rfl hsr))
theorem e_iastore {g : MG} {sc : MS} {M : MM} {d w pc : Nat} {lv : ML} {st : List MV} {h : List MC} {mc ms : Nat} {Q : MO → List MC → Prop} {r n : Nat} {f : Nat → Int32} {i : Int32} {x : Int32} (hd : decode M.2.1 pc = .ok (.iastore, 1)) (ho : h[r]? = some (cI n f)) (hin : vp_in i n) (kk : Ev g sc M d w (pc + 1) lv st (h.set r (cI n (upd f i.toNatClampNeg x))) mc ms Q) : Ev g sc M d w pc lv (mi x :: mi i :: mr r :: st) h mc ms Q := by
  intro p e R s m args below meth c A al0 H locs cells slots CT ST ls ws LV VS hF hSt hsc hR h1 h2 h3 h4 hA hK hP hD hS hW hal hls hlv hst
  obtain ⟨hx, hb, hr, hlk, hml, hown, hts, hnm, htb⟩ := id hF
  obtain ⟨V0, VS0, rfl, hV0, hst1⟩ := hst.inv
  obtain ⟨V1, VS1, rfl, hV1, hst2⟩ := hst1.inv
  obtain ⟨V2, VS2, rfl, hV2, hst3⟩ := hst2.inv
  have hsr := hst3
  cases hV0
  cases hV1
  obtain ⟨a, e9, rfl, hwr, hc9⟩ := m_ref hW ho hV2
  obtain rfl := m_c_i hc9
  exact va_iast hx hb hK hP hD hS r 0 hwr rfl hin hd (fun H9 locs9 hP9 hD9 hS9 => kk p e R s m args below meth c A al0 H9 locs9 cells slots CT ST _ _ _ _ hF hSt hsc hR h1 h2 h3 h4 hA hK hP9 hD9 hS9 (hW.set hwr rfl) (by rw [m_al_set hwr]; exact hal) hls (by rw [m_al_set hwr]; exact hlv) (by rw [m_al_set hwr]; exact hsr))
theorem e_lastore {g : MG} {sc : MS} {M : MM} {d w pc : Nat} {lv : ML} {st : List MV} {h : List MC} {mc ms : Nat} {Q : MO → List MC → Prop} {r n : Nat} {f : Nat → Int64} {i : Int32} {x : Int64} (hd : decode M.2.1 pc = .ok (.lastore, 1)) (ho : h[r]? = some (cL n f)) (hin : vp_in i n) (kk : Ev g sc M d w (pc + 1) lv st (h.set r (cL n (vp_updL f i.toNatClampNeg x))) mc ms Q) : Ev g sc M d w pc lv (ml x :: mi i :: mr r :: st) h mc ms Q := by
  intro p e R s m args below meth c A al0 H locs cells slots CT ST ls ws LV VS hF hSt hsc hR h1 h2 h3 h4 hA hK hP hD hS hW hal hls hlv hst
  obtain ⟨hx, hb, hr, hlk, hml, hown, hts, hnm, htb⟩ := id hF
  obtain ⟨V0, VS0, rfl, hV0, hst1⟩ := hst.inv
  obtain ⟨V1, VS1, rfl, hV1, hst2⟩ := hst1.inv
  obtain ⟨V2, VS2, rfl, hV2, hst3⟩ := hst2.inv
  have hsr := hst3
  cases hV0
  cases hV1
  obtain ⟨a, e9, rfl, hwr, hc9⟩ := m_ref hW ho hV2
  obtain rfl := m_c_l hc9
  exact va_last hx hb hK hP hD hS r 2 hwr rfl hin hd (fun H9 locs9 hP9 hD9 hS9 => kk p e R s m args below meth c A al0 H9 locs9 cells slots CT ST _ _ _ _ hF hSt hsc hR h1 h2 h3 h4 hA hK hP9 hD9 hS9 (hW.set hwr rfl) (by rw [m_al_set hwr]; exact hal) hls (by rw [m_al_set hwr]; exact hlv) (by rw [m_al_set hwr]; exact hsr))
theorem e_bastore {g : MG} {sc : MS} {M : MM} {d w pc : Nat} {lv : ML} {st : List MV} {h : List MC} {mc ms : Nat} {Q : MO → List MC → Prop} {r n : Nat} {f : Nat → Int32} {i : Int32} {x : Int32} (hd : decode M.2.1 pc = .ok (.bastore, 1)) (ho : h[r]? = some (cZ n f)) (hin : vp_in i n) (hz : vp_nar .boolean x = x) (kk : Ev g sc M d w (pc + 1) lv st (h.set r (cZ n (upd f i.toNatClampNeg x))) mc ms Q) : Ev g sc M d w pc lv (mi x :: mi i :: mr r :: st) h mc ms Q := by
  intro p e R s m args below meth c A al0 H locs cells slots CT ST ls ws LV VS hF hSt hsc hR h1 h2 h3 h4 hA hK hP hD hS hW hal hls hlv hst
  obtain ⟨hx, hb, hr, hlk, hml, hown, hts, hnm, htb⟩ := id hF
  obtain ⟨V0, VS0, rfl, hV0, hst1⟩ := hst.inv
  obtain ⟨V1, VS1, rfl, hV1, hst2⟩ := hst1.inv
  obtain ⟨V2, VS2, rfl, hV2, hst3⟩ := hst2.inv
  have hsr := hst3
  cases hV0
  cases hV1
  obtain ⟨a, e9, rfl, hwr, hc9⟩ := m_ref hW ho hV2
  obtain rfl := m_c_z hc9
  exact va_zast hx hb hK hP hD hS r 1 hwr rfl hin hd (fun H9 locs9 hP9 hD9 hS9 => kk p e R s m args below meth c A al0 H9 locs9 cells slots CT ST _ _ _ _ hF hSt hsc hR h1 h2 h3 h4 hA hK hP9 hD9 hS9 (hW.set hwr (by rw [hz]; rfl)) (by rw [m_al_set hwr]; exact hal) hls (by rw [m_al_set hwr]; exact hlv) (by rw [m_al_set hwr]; exact hsr))
theorem e_aaload {g : MG} {sc : MS} {M : MM} {d w pc : Nat} {lv : ML} {st : List MV} {h : List MC} {mc ms : Nat} {Q : MO → List MC → Prop} {r ci n : Nat} {f : Nat → Option Nat} {i : Int32} (hd : decode M.2.1 pc = .ok (.aaload, 1)) (hoa : m_oa ci) (ho : h[r]? = some (cR ci n f)) (hin : vp_in i n) (kk : Ev g sc M d w (pc + 1) lv (.inr (.inr (.inl (f i.toNatClampNeg))) :: st) h mc ms Q) : Ev g sc M d w pc lv (mi i :: mr r :: st) h mc ms Q := by
  intro p e R s m args below meth c A al0 H locs cells slots CT ST ls ws LV VS hF hSt hsc hR h1 h2 h3 h4 hA hK hP hD hS hW hal hls hlv hst
  obtain ⟨hx, hb, hr, hlk, hml, hown, hts, hnm, htb⟩ := id hF
  obtain ⟨V0, VS0, rfl, hV0, hst1⟩ := hst.inv
  obtain ⟨V1, VS1, rfl, hV1, hst2⟩ := hst1.inv
  have hsr := hst2
  cases hV0
  obtain ⟨a, e9, rfl, hwr, hc9⟩ := m_ref hW ho hV1
  obtain ⟨F, rfl, hF9⟩ := m_c_r hc9
  obtain ⟨t0, q9, ht0, hq9⟩ := hoa g.2.2
  exact va_aldq hx hb hK hP r t0 hwr ht0 hin hd (kk p e R s m args below meth c A al0 H locs cells slots CT ST _ _ _ _ hF hSt hsc hR h1 h2 h3 h4 hA hK hP hD hS hW hal hls hlv (m_vs.cons (m_v_rf (hF9 _)) hsr))
theorem e_aastore {g : MG} {sc : MS} {M : MM} {d w pc : Nat} {lv : ML} {st : List MV} {h : List MC} {mc ms : Nat} {Q : MO → List MC → Prop} {r ci n v : Nat} {f : Nat → Option Nat} {vs : List MV} {i : Int32} (hd : decode M.2.1 pc = .ok (.aastore, 1)) (hoa : m_oa ci) (ho : h[r]? = some (cR ci n f)) (hv : h[v]? = some (cO ci vs)) (hin : vp_in i n) (kk : Ev g sc M d w (pc + 1) lv st (h.set r (cR ci n (va_up f i.toNatClampNeg (some v)))) mc ms Q) : Ev g sc M d w pc lv (mr v :: mi i :: mr r :: st) h mc ms Q := by
  intro p e R s m args below meth c A al0 H locs cells slots CT ST ls ws LV VS hF hSt hsc hR h1 h2 h3 h4 hA hK hP hD hS hW hal hls hlv hst
  obtain ⟨hx, hb, hr, hlk, hml, hown, hts, hnm, htb⟩ := id hF
  obtain ⟨V0, VS0, rfl, hV0, hst1⟩ := hst.inv
  obtain ⟨V1, VS1, rfl, hV1, hst2⟩ := hst1.inv
  obtain ⟨V2, VS2, rfl, hV2, hst3⟩ := hst2.inv
  have hsr := hst3
  cases hV1
  obtain ⟨a, e9, rfl, hwr, hc9⟩ := m_ref hW ho hV2
  obtain ⟨F, rfl, hF9⟩ := m_c_r hc9
  obtain ⟨a2, e2, rfl, hwv, hc2⟩ := m_ref hW hv hV0
  obtain ⟨FS, rfl, hfs⟩ := m_c_o hc2
  obtain ⟨t0, q9, ht0, hq9⟩ := hoa g.2.2
  exact va_astq hx hb hK hP hD hS r t0 v ci hwr ht0 hwv hq9 hin hd (fun H9 locs9 hP9 hD9 hS9 => kk p e R s m args below meth c A al0 H9 locs9 cells slots CT ST _ _ _ _ hF hSt hsc hR h1 h2 h3 h4 hA hK hP9 hD9 hS9 (hW.set hwr ⟨_, rfl, m_rf_up hF9 (m_al_at hwv)⟩) (by rw [m_al_set hwr]; exact hal) hls (by rw [m_al_set hwr]; exact hlv) (by rw [m_al_set hwr]; exact hsr))
theorem e_alenI {g : MG} {sc : MS} {M : MM} {d w pc : Nat} {lv : ML} {st : List MV} {h : List MC} {mc ms : Nat} {Q : MO → List MC → Prop} {r n : Nat} {f : Nat → Int32} (hd : decode M.2.1 pc = .ok (.arraylength, 1)) (ho : h[r]? = some (cI n f)) (kk : Ev g sc M d w (pc + 1) lv (mi (Int32.ofNat n) :: st) h mc ms Q) : Ev g sc M d w pc lv (mr r :: st) h mc ms Q := by
  intro p e R s m args below meth c A al0 H locs cells slots CT ST ls ws LV VS hF hSt hsc hR h1 h2 h3 h4 hA hK hP hD hS hW hal hls hlv hst
  obtain ⟨hx, hb, hr, hlk, hml, hown, hts, hnm, htb⟩ := id hF
  obtain ⟨V0, VS0, rfl, hV0, hst1⟩ := hst.inv
  have hsr := hst1
  obtain ⟨a, e9, rfl, hwr, hc9⟩ := m_ref hW ho hV0
  obtain rfl := m_c_i hc9
  exact va_alen hx hb hK hP r 0 hwr rfl rfl hd (kk p e R s m args below meth c A al0 H locs cells slots CT ST _ _ _ _ hF hSt hsc hR h1 h2 h3 h4 hA hK hP hD hS hW hal hls hlv (m_vs.cons rfl hsr))
theorem e_alenL {g : MG} {sc : MS} {M : MM} {d w pc : Nat} {lv : ML} {st : List MV} {h : List MC} {mc ms : Nat} {Q : MO → List MC → Prop} {r n : Nat} {f : Nat → Int64} (hd : decode M.2.1 pc = .ok (.arraylength, 1)) (ho : h[r]? = some (cL n f)) (kk : Ev g sc M d w (pc + 1) lv (mi (Int32.ofNat n) :: st) h mc ms Q) : Ev g sc M d w pc lv (mr r :: st) h mc ms Q := by
  intro p e R s m args below meth c A al0 H locs cells slots CT ST ls ws LV VS hF hSt hsc hR h1 h2 h3 h4 hA hK hP hD hS hW hal hls hlv hst
  obtain ⟨hx, hb, hr, hlk, hml, hown, hts, hnm, htb⟩ := id hF
  obtain ⟨V0, VS0, rfl, hV0, hst1⟩ := hst.inv
  have hsr := hst1
  obtain ⟨a, e9, rfl, hwr, hc9⟩ := m_ref hW ho hV0
  obtain rfl := m_c_l hc9
  exact va_alen hx hb hK hP r 2 hwr rfl rfl hd (kk p e R s m args below meth c A al0 H locs cells slots CT ST _ _ _ _ hF hSt hsc hR h1 h2 h3 h4 hA hK hP hD hS hW hal hls hlv (m_vs.cons rfl hsr))
theorem e_alenR {g : MG} {sc : MS} {M : MM} {d w pc : Nat} {lv : ML} {st : List MV} {h : List MC} {mc ms : Nat} {Q : MO → List MC → Prop} {r ci n : Nat} {f : Nat → Option Nat} (hd : decode M.2.1 pc = .ok (.arraylength, 1)) (hoa : m_oa ci) (ho : h[r]? = some (cR ci n f)) (kk : Ev g sc M d w (pc + 1) lv (mi (Int32.ofNat n) :: st) h mc ms Q) : Ev g sc M d w pc lv (mr r :: st) h mc ms Q := by
  intro p e R s m args below meth c A al0 H locs cells slots CT ST ls ws LV VS hF hSt hsc hR h1 h2 h3 h4 hA hK hP hD hS hW hal hls hlv hst
  obtain ⟨hx, hb, hr, hlk, hml, hown, hts, hnm, htb⟩ := id hF
  obtain ⟨V0, VS0, rfl, hV0, hst1⟩ := hst.inv
  have hsr := hst1
  obtain ⟨a, e9, rfl, hwr, hc9⟩ := m_ref hW ho hV0
  obtain ⟨F, rfl, hF9⟩ := m_c_r hc9
  obtain ⟨t0, q9, ht0, hq9⟩ := hoa g.2.2
  exact va_alen hx hb hK hP r t0 hwr ht0 rfl hd (kk p e R s m args below meth c A al0 H locs cells slots CT ST _ _ _ _ hF hSt hsc hR h1 h2 h3 h4 hA hK hP hD hS hW hal hls hlv (m_vs.cons rfl hsr))
theorem e_siaload {g : MG} {sc : MS} {M : MM} {d w pc : Nat} {lv : ML} {st : List MV} {h : List MC} {mc ms : Nat} {Q : MO → List MC → Prop} {b L : Nat} {xs : Nat → Int32} {i : Int32} (hd : decode M.2.1 pc = .ok (.iaload, 1)) (hs : sc = some (b, L, xs)) (hin : vp_in i L) (kk : Ev g sc M d w (pc + 1) lv (mi (xs i.toNatClampNeg) :: st) h mc ms Q) : Ev g sc M d w pc lv (mi i :: msc :: st) h mc ms Q := by
  intro p e R s m args below meth c A al0 H locs cells slots CT ST ls ws LV VS hF hSt hsc hR h1 h2 h3 h4 hA hK hP hD hS hW hal hls hlv hst
  obtain ⟨hx, hb, hr, hlk, hml, hown, hts, hnm, htb⟩ := id hF
  obtain ⟨V0, VS0, rfl, hV0, hst1⟩ := hst.inv
  obtain ⟨V1, VS1, rfl, hV1, hst2⟩ := hst1.inv
  have hsr := hst2
  cases hV0
  obtain ⟨hX, hbl, hbA⟩ := hsc _ hs
  rw [hs] at hV1
  cases hV1
  exact va_sld hx hb hX hbl hbA hS hin hd (kk p e R s m args below meth c A al0 H locs cells slots CT ST _ _ _ _ hF hSt hsc hR h1 h2 h3 h4 hA hK hP hD hS hW hal hls hlv (m_vs.cons rfl hsr))
theorem e_slen {g : MG} {sc : MS} {M : MM} {d w pc : Nat} {lv : ML} {st : List MV} {h : List MC} {mc ms : Nat} {Q : MO → List MC → Prop} {b L : Nat} {xs : Nat → Int32} (hd : decode M.2.1 pc = .ok (.arraylength, 1)) (hs : sc = some (b, L, xs)) (kk : Ev g sc M d w (pc + 1) lv (mi (Int32.ofNat L) :: st) h mc ms Q) : Ev g sc M d w pc lv (msc :: st) h mc ms Q := by
  intro p e R s m args below meth c A al0 H locs cells slots CT ST ls ws LV VS hF hSt hsc hR h1 h2 h3 h4 hA hK hP hD hS hW hal hls hlv hst
  obtain ⟨hx, hb, hr, hlk, hml, hown, hts, hnm, htb⟩ := id hF
  obtain ⟨V0, VS0, rfl, hV0, hst1⟩ := hst.inv
  have hsr := hst1
  obtain ⟨hX, hbl, hbA⟩ := hsc _ hs
  rw [hs] at hV0
  cases hV0
  exact va_slen hx hb hX hbl hbA hS hd (kk p e R s m args below meth c A al0 H locs cells slots CT ST _ _ _ _ hF hSt hsc hR h1 h2 h3 h4 hA hK hP hD hS hW hal hls hlv (m_vs.cons rfl hsr))
theorem e_ireturn {g : MG} {sc : MS} {M : MM} {d w pc : Nat} {lv : ML} {h : List MC} {mc ms : Nat} {Q : MO → List MC → Prop} {x : Int32} {ty : FieldType} (hd : decode M.2.1 pc = .ok (.ireturn, 1)) (hret : M.2.2.2.1 = some ty) (hn : narrow ty (.int x) = .int x) (kk : Q (.inl (some (mi x))) h) : Ev g sc M d w pc lv ([mi x]) h mc ms Q := by
  intro p e R s m args below meth c A al0 H locs cells slots CT ST ls ws LV VS hF hSt hsc hR h1 h2 h3 h4 hA hK hP hD hS hW hal hls hlv hst
  obtain ⟨hx, hb, hr, hlk, hml, hown, hts, hnm, htb⟩ := id hF
  obtain ⟨V0, VS0, rfl, hV0, hst1⟩ := hst.inv
  have hsr := hst1
  cases hV0
  obtain rfl := hsr.inv0
  refine W.widen (k := CT) (n := ST) (by omega) (by omega) ?_
  exact m_ret (r := some (mi x)) (m_vs.cons rfl m_vs.nil) kk hW hP hK hD hal hS (W.zret hx hb (hr.trans hret) hn (fun t ht hW9 => ⟨rfl, ht⟩) hS.2.2 hd hlk)
theorem e_return {g : MG} {sc : MS} {M : MM} {d w pc : Nat} {lv : ML} {h : List MC} {mc ms : Nat} {Q : MO → List MC → Prop} (hd : decode M.2.1 pc = .ok (.return_, 1)) (hret : M.2.2.2.1 = none) (kk : Q (.inl none) h) : Ev g sc M d w pc lv ([]) h mc ms Q := by
  intro p e R s m args below meth c A al0 H locs cells slots CT ST ls ws LV VS hF hSt hsc hR h1 h2 h3 h4 hA hK hP hD hS hW hal hls hlv hst
  obtain ⟨hx, hb, hr, hlk, hml, hown, hts, hnm, htb⟩ := id hF
  obtain rfl := hst.inv0
  refine W.widen (k := CT) (n := ST) (by omega) (by omega) ?_
  exact m_ret (r := none) m_vs.nil kk hW hP hK hD hal hS (W.vret hx hb (hr.trans hret) (fun t ht hW9 => ⟨rfl, ht⟩) hS.2.2 hd hlk)
theorem e_areturn {g : MG} {sc : MS} {M : MM} {d w pc : Nat} {lv : ML} {h : List MC} {mc ms : Nat} {Q : MO → List MC → Prop} {r : Option Nat} {rt : FieldType} (hd : decode M.2.1 pc = .ok (.areturn, 1)) (hret : M.2.2.2.1 = some rt) (hrt : (∃ n, rt = .object n) ∨ ∃ t, rt = .array t) (kk : Q (.inl (some (.inr (.inr (.inl r))))) h) : Ev g sc M d w pc lv ([.inr (.inr (.inl r))]) h mc ms Q := by
  intro p e R s m args below meth c A al0 H locs cells slots CT ST ls ws LV VS hF hSt hsc hR h1 h2 h3 h4 hA hK hP hD hS hW hal hls hlv hst
  obtain ⟨hx, hb, hr, hlk, hml, hown, hts, hnm, htb⟩ := id hF
  obtain ⟨V0, VS0, rfl, hV0, hst1⟩ := hst.inv
  have hsr := hst1
  obtain rfl := hsr.inv0
  have hv9 := m_v_ref hV0
  have hV9 : m_v (m_al ws) none (.inr (.inr (.inl r))) = some V0 := m_v_none (by cases r <;> rfl) hV0
  refine W.widen (k := CT) (n := ST) (by omega) (by omega) ?_
  exact m_ret (r := some (.inr (.inr (.inl r)))) (m_vs.cons hV9 m_vs.nil) kk hW hP hK hD hal hS (W.aret hx hb (hr.trans hret) hrt hv9 (fun t ht hW9 => ⟨rfl, ht⟩) hS.2.2 hd hlk)
end
section
/-- a class may be made: its fields at their beginning -/
def m_nw (own : String) (i ci : Nat) (fs : List MV) (N : Nat) : Prop := ∃ (C : String) (T : u_T) (ty : Nat → FieldType) (FS : List Value), m_cl[ci]? = some (C, T, N) ∧ (∀ w ∈ u_ws C T N, w ∈ m_Ts) ∧ (∀ k, k < N → parseFieldDescriptor (T k).2.2.1 = some (ty k)) ∧ Cond.classLink own i C ∈ m_Ts ∧ Cond.instantiable C N ∈ m_Ts ∧ Cond.initialized C ∈ m_Ts ∧ (∀ j, j < N → defaultValue (ty j) = vp_V FS j) ∧ m_vs [] none fs FS
theorem m_le_nil (al : List Nat) : m_le [] al := ⟨al, rfl⟩
theorem e_new {g : MG} {sc : MS} {M : MM} {d w pc : Nat} {lv : ML} {st : List MV} {h : List MC} {mc ms : Nat} {Q : MO → List MC → Prop} {i ci N : Nat} {fs : List MV} (hd : decode M.2.1 pc = .ok (.new i, 3)) (hw : m_nw M.1.cls i ci fs N) (kk : Ev g sc M d w (pc + 3) lv (mr h.length :: st) (h ++ [cO ci fs]) mc ms Q) : Ev g sc M d w pc lv st h (mc + 1) (ms + N) Q := by
  intro p e R s m args below meth c A al0 H locs cells slots CT ST ls ws LV VS hF hSt hsc hR h1 h2 h3 h4 hA hK hP hD hS hW hal hls hlv hst
  obtain ⟨hx, hb, hr, hlk, hml, hown, hts, hnm, htb⟩ := id hF
  obtain ⟨C, T, ty, FS, hc, hin, hty, hcl, hinst, hini, hfs, hvs⟩ := hw
  refine va_new hx hb hts hin ty hty hown (hts _ hcl) (hts _ hinst) (hts _ hini) hK hP hD hS hA hc hfs (by omega) (by omega) hd (fun q H9 hP9 hD9 hS9 => ?_)
  have hle := m_le_push ws q (.inr (ci, FS))
  exact kk p e R s m args below meth c A al0 H9 locs (cells + 1) (slots + N) CT ST _ _ _ _ hF hSt hsc hR (by omega) (by omega) h3 h4 hA hK hP9 hD9 hS9 (hW.push ⟨FS, rfl, hvs.le (m_le_nil _)⟩) (hal.tr hle) hls (hlv.le hle) (m_vs.cons (by simp only [m_v, m_al_new hW, Option.map_some]) (hst.le hle))
theorem m_ac {D : va_G} {cl : List vw_C} {tys : List (ClassId × FieldType)} {s : State} {a b : ClassId} {ty : FieldType} (hty : ty = .int ∨ ty = .long ∨ ty = .boolean ∨ ∃ C, ty = .object C) (h1 : va_K D cl tys s) {t0 : Nat} (ht : tys[t0]? = some (a, ty)) (h2 : va_K D cl (tys ++ [(b, ty)]) s) : b = a := by
  have e1 := (h1.2 t0 _ ht).2
  have e2 := (h2.2 tys.length (b, ty) (by simp)).2
  rcases hty with rfl | rfl | rfl | ⟨C, rfl⟩
  · exact Option.some.inj (Eq.trans (Eq.symm e2) e1)
  · exact Option.some.inj (Eq.trans (Eq.symm e2) e1)
  · exact Option.some.inj (Eq.trans (Eq.symm e2) e1)
  · obtain ⟨_, _, _, _, _, e3⟩ := e1
    obtain ⟨_, _, _, _, _, e4⟩ := e2
    exact Option.some.inj (e4.symm.trans e3)
theorem e_newI {g : MG} {sc : MS} {M : MM} {d w pc : Nat} {lv : ML} {st : List MV} {h : List MC} {mc ms : Nat} {Q : MO → List MC → Prop} {n : Int32} {N : Nat} (hd : decode M.2.1 pc = .ok (.newarray .int, 2)) (hn : ¬ n < 0) (hN : n.toNatClampNeg = N) (hb9 : N ≤ 1000000) (kk : Ev g sc M d w (pc + 2) lv (mr h.length :: st) (h ++ [cI N (fun _ => 0)]) mc ms Q) : Ev g sc M d w pc lv (mi n :: st) h (mc + 1) (ms + N) Q := by
  intro p e R s m args below meth c A al0 H locs cells slots CT ST ls ws LV VS hF hSt hsc hR h1 h2 h3 h4 hA hK hP hD hS hW hal hls hlv hst
  obtain ⟨hx, hb, hr, hlk, hml, hown, hts, hnm, htb⟩ := id hF
  obtain ⟨V0, VS0, rfl, hV0, hst1⟩ := hst.inv
  have hsr := hst1
  cases hV0
  refine va_newa (atype := .int) (ty := .int) (a0 := (N, .inl (fun _ => 0))) hx hb (hts _ m_Ts_int) rfl hK hP hD hS hA (fun cA => rfl) hn hN (by show N * 4 ≤ _; omega) (by omega) (by omega) hd (fun q cA H9 hK9 hP9 hD9 hS9 => ?_)
  obtain rfl : cA = g.2.2 0 := m_ac (Or.inl rfl) hK (t0 := 0) rfl hK9
  have hle := m_le_push ws q (.inl (g.2.2 0, N, .inl (fun _ => (0 : Int32))))
  exact kk p e R s m args below meth c A al0 H9 locs (cells + 1) (slots + N) CT ST _ _ _ _ hF hSt hsc hR (by omega) (by omega) h3 h4 hA hK hP9 hD9 hS9 (hW.push rfl) (hal.tr hle) hls (hlv.le hle) (m_vs.cons (by simp only [m_v, m_al_new hW, Option.map_some]) (hsr.le hle))
theorem e_newL {g : MG} {sc : MS} {M : MM} {d w pc : Nat} {lv : ML} {st : List MV} {h : List MC} {mc ms : Nat} {Q : MO → List MC → Prop} {n : Int32} {N : Nat} (hd : decode M.2.1 pc = .ok (.newarray .long, 2)) (hn : ¬ n < 0) (hN : n.toNatClampNeg = N) (hb9 : N ≤ 1000000) (kk : Ev g sc M d w (pc + 2) lv (mr h.length :: st) (h ++ [cL N (fun _ => 0)]) mc ms Q) : Ev g sc M d w pc lv (mi n :: st) h (mc + 1) (ms + N) Q := by
  intro p e R s m args below meth c A al0 H locs cells slots CT ST ls ws LV VS hF hSt hsc hR h1 h2 h3 h4 hA hK hP hD hS hW hal hls hlv hst
  obtain ⟨hx, hb, hr, hlk, hml, hown, hts, hnm, htb⟩ := id hF
  obtain ⟨V0, VS0, rfl, hV0, hst1⟩ := hst.inv
  have hsr := hst1
  cases hV0
  refine va_newa (atype := .long) (ty := .long) (a0 := (N, .inr (.inl (fun _ => 0)))) hx hb (hts _ m_Ts_long) rfl hK hP hD hS hA (fun cA => rfl) hn hN (by show N * 8 ≤ _; omega) (by omega) (by omega) hd (fun q cA H9 hK9 hP9 hD9 hS9 => ?_)
  obtain rfl : cA = g.2.2 2 := m_ac (Or.inr (Or.inl rfl)) hK (t0 := 2) rfl hK9
  have hle := m_le_push ws q (.inl (g.2.2 2, N, .inr (.inl (fun _ => (0 : Int64)))))
  exact kk p e R s m args below meth c A al0 H9 locs (cells + 1) (slots + N) CT ST _ _ _ _ hF hSt hsc hR (by omega) (by omega) h3 h4 hA hK hP9 hD9 hS9 (hW.push rfl) (hal.tr hle) hls (hlv.le hle) (m_vs.cons (by simp only [m_v, m_al_new hW, Option.map_some]) (hsr.le hle))
theorem e_newZ {g : MG} {sc : MS} {M : MM} {d w pc : Nat} {lv : ML} {st : List MV} {h : List MC} {mc ms : Nat} {Q : MO → List MC → Prop} {n : Int32} {N : Nat} (hd : decode M.2.1 pc = .ok (.newarray .boolean, 2)) (hn : ¬ n < 0) (hN : n.toNatClampNeg = N) (hb9 : N ≤ 1000000) (kk : Ev g sc M d w (pc + 2) lv (mr h.length :: st) (h ++ [cZ N (fun _ => 0)]) mc ms Q) : Ev g sc M d w pc lv (mi n :: st) h (mc + 1) (ms + N) Q := by
  intro p e R s m args below meth c A al0 H locs cells slots CT ST ls ws LV VS hF hSt hsc hR h1 h2 h3 h4 hA hK hP hD hS hW hal hls hlv hst
  obtain ⟨hx, hb, hr, hlk, hml, hown, hts, hnm, htb⟩ := id hF
  obtain ⟨V0, VS0, rfl, hV0, hst1⟩ := hst.inv
  have hsr := hst1
  cases hV0
  refine va_newa (atype := .boolean) (ty := .boolean) (a0 := (N, .inl (fun _ => 0))) hx hb (hts _ m_Ts_bool) rfl hK hP hD hS hA (fun cA => rfl) hn hN (by show N * 1 ≤ _; omega) (by omega) (by omega) hd (fun q cA H9 hK9 hP9 hD9 hS9 => ?_)
  obtain rfl : cA = g.2.2 1 := m_ac (Or.inr (Or.inr (Or.inl rfl))) hK (t0 := 1) rfl hK9
  have hle := m_le_push ws q (.inl (g.2.2 1, N, .inl (fun _ => (0 : Int32))))
  exact kk p e R s m args below meth c A al0 H9 locs (cells + 1) (slots + N) CT ST _ _ _ _ hF hSt hsc hR (by omega) (by omega) h3 h4 hA hK hP9 hD9 hS9 (hW.push rfl) (hal.tr hle) hls (hlv.le hle) (m_vs.cons (by simp only [m_v, m_al_new hW, Option.map_some]) (hsr.le hle))
theorem e_newR {g : MG} {sc : MS} {M : MM} {d w pc : Nat} {lv : ML} {st : List MV} {h : List MC} {mc ms : Nat} {Q : MO → List MC → Prop} {i ci : Nat} {n : Int32} {N : Nat} {q : vw_C} (hd : decode M.2.1 pc = .ok (.anewarray i, 3)) (hoa : m_oa ci) (hq : m_cl[ci]? = some q) (hcl : Cond.classLink M.1.cls i q.1 ∈ m_Ts) (hao : q.1 ∈ m_aos) (hn : ¬ n < 0) (hN : n.toNatClampNeg = N) (hb9 : N ≤ 1000000) (kk : Ev g sc M d w (pc + 3) lv (mr h.length :: st) (h ++ [cR ci N (fun _ => none)]) mc ms Q) : Ev g sc M d w pc lv (mi n :: st) h (mc + 1) (ms + N) Q := by
  intro p e R s m args below meth c A al0 H locs cells slots CT ST ls ws LV VS hF hSt hsc hR h1 h2 h3 h4 hA hK hP hD hS hW hal hls hlv hst
  obtain ⟨hx, hb, hr, hlk, hml, hown, hts, hnm, htb⟩ := id hF
  obtain ⟨V0, VS0, rfl, hV0, hst1⟩ := hst.inv
  have hsr := hst1
  cases hV0
  obtain ⟨t0, q9, ht0, hq9⟩ := hoa g.2.2
  cases Option.some.inj (hq.symm.trans hq9)
  refine va_newq hx hb hown (hts _ hcl) (hSt.2.2.2.2.2.1 _ hao) hK hP hD hS hA hn hN (by omega) (by omega) (by omega) hd (fun a cA H9 hK9 hP9 hD9 hS9 => ?_)
  obtain rfl : cA = g.2.2 (3 + ci) := m_ac (Or.inr (Or.inr (Or.inr ⟨_, rfl⟩))) hK ht0 hK9
  have hle := m_le_push ws a (.inl (g.2.2 (3 + ci), N, .inr (.inr (.inr (.inr (fun _ => none))))))
  exact kk p e R s m args below meth c A al0 H9 locs (cells + 1) (slots + N) CT ST _ _ _ _ hF hSt hsc hR (by omega) (by omega) h3 h4 hA hK hP9 hD9 hS9 (hW.push ⟨_, rfl, fun _ => rfl⟩) (hal.tr hle) hls (hlv.le hle) (m_vs.cons (by simp only [m_v, m_al_new hW, Option.map_some]) (hsr.le hle))
end
section
/-! CALLS: an instruction that invokes y with AV comes to y's entry (m_Iv); y's contract is a free theorem whose end is m_E: by return or by throw; behind it the caller's frame goes on, or the thrown thing lies over it. -/
def m_Iv (p : Program) (l : Launch) (e : Env) (R : Room) (s : State) (m : MethodId) (args : Array Value) (below : List Frame) (meth : Method) (c : Code) (H : Heap) (locs : List Loc) (cells slots : Nat) (fr : JFrame) (rest : List Value) (y : MethodName) (AV : List Value) : Prop :=
  ∀ T : State, T.heap = H → Stand p l e R s m args below meth c T locs cells slots → ∃ (vm₁ : Vm) (mk : MethodId), Stand p l e R s m args below meth c (T.setVm vm₁) locs cells slots ∧ s.methodNamed? y = some mk ∧
    ∀ target, (∀ acts, Steps p.tables e below (doInvoke e ((T.setVm vm₁).setTop { fr with stack := rest }) acts mk AV.toArray).1 target) → Steps p.tables e below (T.setTop fr) target
section IV
variable {p : Program} {l : Launch} {e : Env} {R : Room} {s : State} {m : MethodId} {args : Array Value} {below : List Frame} {meth : Method} {c : Code} {H : Heap} {locs : List Loc} {cells slots : Nat} {fr : JFrame} {rest As : List Value} {y : MethodName} {own host : String} {i n : Nat} {b : Addr}
theorem m_ivV (hx : p.tables.exec = Jvm.exec) (hown : s.vm.findClass own = some m.cls) (hl : (Cond.methodLink own i y).before args s = true ∨ (Cond.methodLinkNest own i y host).before args s = true) (hin : (Cond.instanceMethod y).before args s = true) (hse : (Cond.selects y.cls y y).before args s = true)
    (hy : y.cls ≠ "java/lang/invoke/MethodHandle" ∧ y.cls ≠ "java/lang/invoke/VarHandle") (hsig : ∀ mk meth9, s.methodNamed? y = some mk → s.vm.method? mk = some meth9 → As.length = meth9.sig.parameters.length)
    (hrc : ∃ cell : Cell, H[b]? = some cell ∧ cell.vm.isStatics = false ∧ s.vm.findClass y.cls = some cell.cls) (hg : fr.method = m) (hst : fr.stack = As.reverse ++ .ref b :: rest) (hd : decode c.code fr.pc = .ok (.invokevirtual i, 3)) :
    m_Iv p l e R s m args below meth c H locs cells slots fr rest y (.ref b :: As) := by
  intro T hT X
  obtain ⟨mk, methM, hnamed, hmethM, hstM, habM⟩ := Cond.instanceMethod_spec hin
  obtain ⟨cell, hcB, hoB, hclB⟩ := hrc
  obtain ⟨c2, r2, m2, q1, q2, q3, q4, kP, hkP, hkPi⟩ := Cond.selects_spec hse
  cases hclB.symm.trans q1
  cases (State.methodFound?_of_named hnamed hy).symm.trans q2
  cases hnamed.symm.trans q3
  have hsel : selectMethod e.platform s.vm cell.cls mk = .method mk := by rw [Launch.admits_selectMethod X.admits]; exact q4
  have hcell : T.heap[b]? = some cell := by rw [hT]; exact hcB
  have hobj : ∀ z, cell.vm ≠ .statics z := fun z h => by rw [h] at hoB; cases hoB
  rcases hl with hl | hl
  · obtain ⟨vm₁, X₁, st⟩ := X.invokevirtual hx hown hl hnamed hmethM hstM hkP hkPi hy hcell hobj hsel hmethM habM hkP hkPi hg (hsig mk methM hnamed hmethM) hst hd
    exact ⟨vm₁, mk, X₁, hnamed, st⟩
  · obtain ⟨vm₁, X₁, st⟩ := X.invokevirtualNest hx hown hl hnamed hmethM hstM hkP hkPi hy hcell hobj hsel hmethM habM hkP hkPi hg (hsig mk methM hnamed hmethM) hst hd
    exact ⟨vm₁, mk, X₁, hnamed, st⟩
theorem m_ivS (hx : p.tables.exec = Jvm.exec) (hown : s.vm.findClass own = some m.cls) (hl : (Cond.methodLink own i y).before args s = true ∨ (Cond.methodLinkNest own i y host).before args s = true) (hstt : (Cond.static y).before args s = true) (hini : (Cond.initialized y.cls).before args s = true)
    (hy : y.cls ≠ "java/lang/invoke/MethodHandle" ∧ y.cls ≠ "java/lang/invoke/VarHandle") {mk : MethodId} {methM : Method} (hnamed : s.methodNamed? y = some mk) (hmethM : s.vm.method? mk = some methM) (hsig : As.length = methM.sig.parameters.length)
    (hg : fr.method = m) (hst : fr.stack = As.reverse ++ rest) (hd : decode c.code fr.pc = .ok (.invokestatic i, 3)) :
    m_Iv p l e R s m args below meth c H locs cells slots fr rest y As := by
  intro T hT X
  have hstatic : methM.isStatic = true := Cond.static_spec hnamed hmethM hstt
  obtain ⟨kP, hkP, -⟩ := className_of_methodNamed hnamed
  have hinitP : kP.init = .initialized := Cond.initialized_spec (findClass_of_methodNamed hnamed) hkP hini
  rcases hl with hl | hl
  · obtain ⟨vm₁, X₁, st⟩ := X.invokestatic hx hown hl hnamed hmethM hstatic hkP hinitP hy hg hsig hst hd
    exact ⟨vm₁, mk, X₁, hnamed, st⟩
  · obtain ⟨vm₁, X₁, st⟩ := X.invokestaticNest hx hown hl hnamed hmethM hstatic hkP hinitP hy hg hsig hst hd
    exact ⟨vm₁, mk, X₁, hnamed, st⟩
theorem m_ivI {bytes : ByteArray} {maxL : Nat} (hx : p.tables.exec = Jvm.exec) (hown : s.vm.findClass own = some m.cls) (hl : (Cond.methodLink own i y).before args s = true ∨ (Cond.methodLinkNest own i y host).before args s = true) (hin : (Cond.instanceMethod y).before args s = true) (hnm : y.name = "<init>") (hcode : (Cond.code y bytes maxL none).before args s = true)
    (hy : y.cls ≠ "java/lang/invoke/MethodHandle" ∧ y.cls ≠ "java/lang/invoke/VarHandle") (hlen : ∀ sig, parseMethodDescriptor y.desc = some sig → As.length = sig.parameters.length)
    (hg : fr.method = m) (hst : fr.stack = As.reverse ++ .ref b :: rest) (hd : decode c.code fr.pc = .ok (.invokespecial i, 3)) :
    m_Iv p l e R s m args below meth c H locs cells slots fr rest y (.ref b :: As) := by
  intro T hT X
  have hpl : e.platform.magicAccessors = ({} : Platform).magicAccessors := by rw [X.admits.platform]
  subst hg
  rcases hl with hl | hl
  · obtain ⟨mk, methM, cM, kP, vm₁, hnamed, -, -, -, -, -, -, -, hW₁, st⟩ := Steps.initColdArgs (e := e) X.here hx X.warmed hpl hown hnm hy hl hin hcode (f := fr) rfl hlen hst hd
    exact ⟨vm₁, mk, X.noted hW₁, hnamed, st⟩
  · obtain ⟨mk, methM, cM, kP, vm₁, hnamed, -, -, -, -, -, -, -, hW₁, st⟩ := Steps.initColdArgsNest (e := e) X.here hx X.warmed hpl hown hnm hy hl hin hcode (f := fr) rfl hlen hst hd
    exact ⟨vm₁, mk, X.noted hW₁, hnamed, st⟩
end IV
/-- an object of some class lies thrown over the frame fr -/
def m_X (p : Program) (l : Launch) (e : Env) (R : Room) (s : State) (m : MethodId) (args : Array Value) (below : List Frame) (meth : Method) (c : Code) (H : Heap) (locs : List Loc) (cells slots : Nat) (Z : State → Prop) (fr : JFrame) (q : Addr) : Prop :=
  ∀ T : State, T.heap = H → Stand p l e R s m args below meth c T locs cells slots → ∃ t, Steps p.tables e below ((T.setTop fr).pushFrame (.throwing q)) t ∧ Z t
/-- a method's contract: whatever stands below, from what 'm_Pc' says it ends by m_E -/
def m_Ct (g : MG) (y : MethodName) (wl : List Cond) (rm : Room) (Q : MO → List MC → Prop) (ws : va_W) (AV : List Value) (sz : Nat) (Pc : State → Prop) : Prop :=
  Jvm.Free.MetFree g.1 y (headSpec wl rm) (fun a U => a = AV.toArray ∧ Pc U) (fun _ _ _ _ _ => True) (fun _ st o t => m_E g Q (m_al ws) (va_A ws sz) rm.cells rm.slots st o t)
theorem m_Ct.go {g : MG} {y : MethodName} {wl : List Cond} {rm : Room} {Q9 : MO → List MC → Prop} {ws : va_W} {AV : List Value} {Pc : State → Prop} {p : Program} {e : Env} {R : Room} {s : State} {m : MethodId} {args : Array Value} {below : List Frame} {meth : Method} {c : Code} {A : Nat → Prop} {H : Heap} {locs : List Loc} {cells slots pc : Nat} {ls : Array Slot} {st0 rest : List Value} {ig : Instr} {Z : State → Prop} {maxL : Nat}
    (hM : m_Ct g y wl rm Q9 ws AV H.size Pc) (hI : m_Iv p g.1 e R s m args below meth c H locs cells slots (F0 m pc ls st0) rest y AV)
    (hwl : ∀ w ∈ wl, ∀ (a' : Array Value) (U : State), s.WarmedH U.vm → w.before a' U = true) (hini : (Cond.initialized y.cls).before args s = true)
    (hcd : ∀ (mk : MethodId) (U : State), s.WarmedH U.vm → U.methodNamed? y = some mk → ∃ (methY : Method) (cY : Code), U.vm.method? mk = some methY ∧ methY.code = some cY ∧ cY.maxLocals = maxL)
    (hfr : rm.frames + 1 ≤ R.frames) (hlo : 8 + (maxL + 11) + rm.locals ≤ R.locals) (hce : cells + rm.cells ≤ R.cells) (hsl : slots + rm.slots ≤ R.slots) (h8 : (rest.map fun v => v.category).sum ≤ 8) (hsz : ls.size = c.maxLocals) (hd : decode c.code pc = .ok (ig, 3))
    (hPc : ∀ U : State, U.heap = H → s.WarmedH U.vm → Pc U)
    (hA : ∀ q, s.heap.size ≤ q → A q) (hD : va_D A ws) (hS : va_S A s.heap H locs)
    (kr : ∀ (r : Option MV) (V : Option Value) (h1 : List MC) (ws1 : va_W) (H1 : Heap) (locs1 : List Loc), Q9 (.inl r) h1 → m_vs (m_al ws1) none r.toList V.toList → m_W g.2.2 h1 ws1 → va_P g.2.1 m_cl ws1 H1 → va_D A ws1 → m_le (m_al ws) (m_al ws1) → va_S A s.heap H1 locs1 → W p g.1 e R s m args below meth c H1 locs1 (cells + rm.cells) (slots + rm.slots) Z (F0 m (pc + 3) ls (V.toList ++ rest)))
    (kx : ∀ (E : String) (q : Addr) (ce : Cell) (h1 : List MC) (ws1 : va_W) (H1 : Heap) (locs1 : List Loc), Q9 (.inr E) h1 → H1[q]? = some ce → ce.vm = .none → s.vm.findClass E = some ce.cls → m_W g.2.2 h1 ws1 → va_P g.2.1 m_cl ws1 H1 → va_D A ws1 → m_le (m_al ws) (m_al ws1) → va_S A s.heap H1 locs1 → m_X p g.1 e R s m args below meth c H1 locs1 (cells + rm.cells) (slots + rm.slots) Z (F0 m pc ls rest) q) :
    W p g.1 e R s m args below meth c H locs cells slots Z (F0 m pc ls st0) := by
  have hFr : ∀ q, va_A ws H.size q → A q := by
    intro q hq
    rcases hq with ⟨k, e9, hk⟩ | hq
    · exact hD.2 k _ hk
    · exact hA q (Nat.le_trans hS.1 hq)
  intro T hT X0
  obtain ⟨vm₁, mk, X, hnm, hgo⟩ := hI T hT X0
  obtain ⟨U, hUe⟩ : ∃ U, U = T.setVm vm₁ := ⟨_, rfl⟩
  rw [← hUe] at X hgo
  have hUH : U.heap = H := by rw [hUe]; exact hT
  have hn : U.methodNamed? y = some mk := X.named hnm
  have hpre : (headSpec wl rm).pre.before AV.toArray U = true := atoms_intro fun w hw => hwl w hw _ _ X.warmed
  obtain ⟨methY, cY, hmY, hcY, hlY⟩ := hcd mk U X.warmed hn
  obtain ⟨kY, hkY, -⟩ := className_of_methodNamed hn
  have hini9 : (Cond.initialized y.cls).before AV.toArray U = true := word_at X.warmed (Or.inl (by first | rfl | simp [Cond.onTables, Cond.keeps, Cond.steady])) hini
  have hinitY : kY.init = .initialized := Cond.initialized_spec (findClass_of_methodNamed hn) hkY hini9
  obtain ⟨fr, hfre⟩ : ∃ fr : JFrame, fr = F0 m pc ls rest := ⟨_, rfl⟩
  have hat : At U fr.method c below := by rw [hfre]; exact X.here
  have hdf : decode c.code fr.pc = .ok (ig, 3) := by rw [hfre]; exact hd
  have hsf : fr.locals.size = c.maxLocals := by rw [hfre]; exact hsz
  have h89 : 2 * fr.monitorRoom + (fr.stack.map fun v => v.category).sum ≤ 8 := by rw [hfre]; exact lv_room (rest := rest) h8
  have happ : (headSpec wl rm).appliesLoose y e.platform (U.calling fr mk AV.toArray) = true :=
    Spec.appliesLoose_calling (g := fr) hat hdf hn hkY hinitY (X.room_calling (g := fr) (R' := (headSpec wl rm).room) hsf hmY hcY hfr (by rw [hlY]; show _ ≤ _; have q9 : (headSpec wl rm).room.locals = rm.locals := rfl; omega) hce hsl) hpre
  obtain ⟨mid, hmid⟩ := hat.above
  have hfrm : (U.setTop fr).frames = (.java fr :: mid) ++ below := by rw [State.frames_setTop' fr hat.top, hmid]; rfl
  have hP9 : AV.toArray = AV.toArray ∧ Pc (U.calling fr mk AV.toArray) := ⟨rfl, hPc _ hUH X.warmed⟩
  obtain ⟨o, s₂, hsteps, -, hend, hq⟩ := Jvm.Free.Steps.callFree hM p X.admits X.cas X.clock (acts := []) hfrm happ hP9 trivial
  have hq' : m_E g Q9 (m_al ws) (va_A ws H.size) rm.cells rm.slots (U.calling fr mk AV.toArray) o s₂ := hq
  rw [State.frames_setTop' fr hat.top] at hend
  obtain ⟨hcase, hFF, hW₂, L, hsm, hL⟩ := hq'
  have hW' : U.WarmedH s₂.vm := hW₂
  obtain ⟨g₀, hg0⟩ := Option.isSome_iff_exists.mp hat.top
  obtain ⟨r0, hr0⟩ := State.topJava?_eq_some.mp hg0
  obtain ⟨e2, q2, q3, q4, q5, q6⟩ := hsm
  have e3 : s₂ = ({ (U.calling fr mk AV.toArray).setFrames s₂.frames with heap := s₂.heap, slotsUsed := s₂.slotsUsed } : State).setVm s₂.vm := by
    have : s₂ = ({ s₂ with vm := (U.calling fr mk AV.toArray).vm } : State).setVm s₂.vm := rfl
    rw [e2] at this
    exact this
  have hr' : (({ U with heap := s₂.heap, slotsUsed := s₂.slotsUsed } : State).setVm s₂.vm).frames = .java g₀ :: r0 := hr0
  have hsame : U.sameButNew ({ U with heap := s₂.heap, slotsUsed := s₂.slotsUsed } : State) L rm.cells rm.slots := by
    refine ⟨?_, q2, q3, q4, q5, q6⟩
    obtain ⟨t, ht, -⟩ := State.frames_cons hr0
    show ({ U with heap := s₂.heap, slotsUsed := s₂.slotsUsed } : State) = { U.setFrames U.frames with heap := s₂.heap, slotsUsed := s₂.slotsUsed }
    rw [State.setFrames_self ht]
  have XB : Stand p g.1 e R s m args below meth c (({ U with heap := s₂.heap, slotsUsed := s₂.slotsUsed } : State).setVm s₂.vm) (locs ++ L) (cells + rm.cells) (slots + rm.slots) :=
    ⟨X.admits, X.cas, X.clock, X.frames, X.room, X.hears, X.method, X.code, (X.here.setHeapUsed s₂.heap s₂.slotsUsed).setVm hW'.alike, X.tail, State.WarmedH.trans X.warmed hW', X.limits, X.bytes, X.same.trans (hsame.setVm s.vm)⟩
  have hS1 : va_S A s.heap s₂.heap (locs ++ L) := by
    obtain ⟨hz, hk⟩ := hFF
    have hcz : (U.calling fr mk AV.toArray).heap = H := hUH
    rw [hcz] at hz hk
    refine ⟨Nat.le_trans hS.1 hz, fun q g1 g2 => ?_, fun z hz9 => ?_⟩
    · rw [hk q (Nat.lt_of_lt_of_le g1 hS.1) (fun z => g2 (hFr q z))]
      exact hS.2.1 q g1 g2
    · rcases List.mem_append.mp hz9 with h9 | h9
      · exact hS.2.2 z h9
      · exact hFr _ (hL z h9)
  rcases hcase with ⟨r, V, h1, ws1, rfl, hrv, hQ, hW1, hP1, hK1, hD1, hle⟩ | ⟨E, q, ce, h1, ws1, rfl, hce9, hcv, hcl, hQ, hW1, hP1, hK1, hD1, hle⟩
  · obtain ⟨t2, a1, b1⟩ := kr r V h1 ws1 s₂.heap (locs ++ L) hQ hrv hW1 hP1 (hD1.weaken (fun _ _ _ h9 => hFr _ h9)) hle hS1 (({ U with heap := s₂.heap, slotsUsed := s₂.slotsUsed } : State).setVm s₂.vm) rfl XB
    refine ⟨t2, hgo _ fun acts => ?_, b1⟩
    rw [doInvoke_state]
    obtain ⟨c₂, i₂, len₂, hc₂, hd₂, hf₂⟩ := hend
    have hcc : c₂ = c := by
      have g1 : s₂.code? fr.method = U.code? fr.method := by
        rw [State.code?_eq, State.code?_eq, hW'.alike.method?]
      exact Option.some.inj (hc₂.symm.trans (g1.trans hat.code))
    subst hcc
    have hlen : len₂ = 3 := by rw [hdf] at hd₂; cases hd₂; rfl
    subst hlen
    have hs₂ : s₂ = (({ U with heap := s₂.heap, slotsUsed := s₂.slotsUsed } : State).setVm s₂.vm).setTop { fr with pc := fr.pc + 3, stack := V.toList ++ fr.stack } := by
      refine e3.trans ?_
      rw [hf₂, State.calling_eq hat.top, State.setFrames_setFrames, State.setTop_of_frames _ hr', hr0]
      rfl
    subst hfre
    refine Steps.trans ?_ a1
    have hsx := hsteps
    rw [hs₂] at hsx
    exact hsx
  · have hclE : s.vm.findClass E = some ce.cls := by
      have g1 : U.vm.findClass E = some ce.cls := hcl
      rw [X.warmed.alike.findClass] at g1
      exact g1
    obtain ⟨t2, a1, b1⟩ := kx E q ce h1 ws1 s₂.heap (locs ++ L) hQ hce9 hcv hclE hW1 hP1 (hD1.weaken (fun _ _ _ h9 => hFr _ h9)) hle hS1 (({ U with heap := s₂.heap, slotsUsed := s₂.slotsUsed } : State).setVm s₂.vm) rfl XB
    refine ⟨t2, hgo _ fun acts => ?_, b1⟩
    rw [doInvoke_state]
    have hf₂ : s₂.frames = .throwing q :: .java fr :: U.frames.tail := hend
    have hs₂ : s₂ = ((({ U with heap := s₂.heap, slotsUsed := s₂.slotsUsed } : State).setVm s₂.vm).setTop fr).pushFrame (.throwing q) := by
      refine e3.trans ?_
      rw [hf₂, State.calling_eq hat.top, State.setFrames_setFrames, State.pushFrame, State.frames_setTop _ hr', State.setTop_of_frames _ hr', State.setFrames_setFrames]
      rw [hr0]
      rfl
    subst hfre
    refine Steps.trans ?_ a1
    have hsx := hsteps
    rw [hs₂] at hsx
    exact hsx
end
section
/-! CONTRACTS OUT OF Ev, AND CALLS BY THEM -/
def m_rm (d w mc ms : Nat) : Room := { frames := d, cells := mc, slots := ms, locals := w }
def m_args : Nat → List MV → ML
  | _, [] => []
  | i, v :: vs => (i, v) :: m_args (if m_cat v = 2 then i + 2 else i + 1) vs
theorem m_args_ls {al : List Nat} {sc : MS} : ∀ {vs : List MV} {VS : List Value} (i : Nat), m_vs al sc vs VS → m_ls al sc (m_args i vs) (lv_args i VS) := by
  intro vs
  induction vs with
  | nil => intro VS i h; rw [h.inv0]; exact m_ls.nil
  | cons v vs ih =>
    intro VS i h
    obtain ⟨V, VS', rfl, h1, h2⟩ := h.inv
    unfold m_args lv_args
    rw [m_v_cat h1]
    exact m_ls.cons h1 (ih _ h2)
theorem m_sl_len {al : List Nat} {sc : MS} : ∀ {vs : List MV} {VS : List Value}, m_vs al sc vs VS → (lg_sl VS).length = (vs.map m_cat).sum := by
  intro vs
  induction vs with
  | nil => intro VS h; rw [h.inv0]; rfl
  | cons v vs ih =>
    intro VS h
    obtain ⟨V, VS', rfl, h1, h2⟩ := h.inv
    have h3 := ih h2
    have h4 := m_v_cat h1
    unfold lg_sl at h3 ⊢
    rw [List.flatMap_cons, List.length_append, h3, List.map_cons, List.sum_cons, ← h4]
    rcases lv_cat V with q | q <;> simp [q]
theorem m_vs_none {al : List Nat} {sc : MS} : ∀ {vs : List MV} {VS : List Value}, vs.all m_nsc = true → m_vs al sc vs VS → m_vs al none vs VS := by
  intro vs
  induction vs with
  | nil => intro VS _ h; exact h
  | cons v vs ih =>
    intro VS hn h
    obtain ⟨V, VS', rfl, h1, h2⟩ := h.inv
    simp only [List.all_cons, Bool.and_eq_true] at hn
    exact m_vs.cons (m_v_none hn.1 h1) (ih hn.2 h2)
theorem m_L.moved {C n d : String} {A : Nat → Prop} {u U : State} {H : Heap} (hvm : u.vm.Alike U.vm) (h : m_L C n d A u H) : m_L C n d A U H := by
  obtain ⟨c, k, i, f, a, cell, h1, h2, h3, h4, h5, h6, h7, h8, h9, h10⟩ := h
  obtain ⟨k', hi', he⟩ := State.fieldFound?_setVm hvm h2
  exact ⟨c, k', i, f, a, cell, by rw [hvm.findClass]; exact h1, hi', h3, by rw [he]; exact h4, h5, h6, h7, h8, by rw [he]; exact h9, h10⟩
theorem m_L.kept {C n d : String} {A : Nat → Prop} {U : State} {H H1 : Heap} (h : m_L C n d A U H) (hq : ∀ a : Nat, a < H.size → ¬ A a → H1[a]? = H[a]?) : m_L C n d A U H1 := by
  obtain ⟨c, k, i, f, a, cell, h1, h2, h3, h4, h5, h6, h7, h8, h9, h10⟩ := h
  exact ⟨c, k, i, f, a, cell, h1, h2, h3, h4, by rw [hq a (Array.getElem?_eq_some_iff.mp h5).1 h10]; exact h5, h6, h7, h8, h9, h10⟩
theorem m_L.narrow {C n d : String} {A B : Nat → Prop} {U : State} {H : Heap} (h : m_L C n d A U H) (hAB : ∀ q, B q → A q) : m_L C n d B U H := by
  obtain ⟨c, k, i, f, a, cell, h1, h2, h3, h4, h5, h6, h7, h8, h9, h10⟩ := h
  exact ⟨c, k, i, f, a, cell, h1, h2, h3, h4, h5, h6, h7, h8, h9, fun z => h10 (hAB a z)⟩
theorem m_L.word {C n d : String} {A : Nat → Prop} {s : State} {args : Array Value} (h : m_L C n d A s s.heap) : (Cond.laysStatic C n d).before args s = true := by
  obtain ⟨c, k, i, f, a, cell, h1, h2, h3, h4, h5, h6, h7, h8, h9, -⟩ := h
  simp [Cond.before, Cond.holds, Cond.value, h1, h2, h3, h4, h5, h6, h7, h8, h9]
theorem m_Z.isRef {C n d : String} {v : Value} {A : Nat → Prop} {s : State} {args : Array Value} (h : va_Z C n d v A s s.heap) (hv : v = .null ∨ ∃ t, v = .ref t) : (Cond.isRef (.static C n d)).before args s = true := by
  obtain ⟨cf, kf, fi, f, a, cell, h1, h2, h3, h4, h5, h6, h7, -⟩ := h
  have he : (Term.static C n d).eval args s none [] s = some v := by
    simp [Term.eval, State.fieldNamed?, h1, h2, h4, h5, h6, h7]
  rcases hv with rfl | ⟨t, rfl⟩ <;> simp [Cond.before, Cond.holds, Cond.value, he, Value.isRef]
theorem m_Zq.isRef {C n d : String} {A : Nat → Prop} {s : State} {args : Array Value} (h : va_Zq C n d A s s.heap) : (Cond.isRef (.static C n d)).before args s = true := by
  rcases h with h | ⟨t, h⟩
  · exact m_Z.isRef h (Or.inl rfl)
  · exact m_Z.isRef h (Or.inr ⟨t, rfl⟩)
theorem m_nst {D : va_G} {ws : va_W} {H : Heap} (hP : va_P D m_cl ws H) : ∀ (q : Nat) (cell : Cell), va_A ws H.size q → H[q]? = some cell → cell.vm.isStatics = false := by
  intro q cell hq hc
  rcases hq with ⟨k, e, hk⟩ | hq
  · have h := hP k _ hk
    rcases e with x | o
    · have h2 : H[q]? = some (vp_cell x.1 x.2) := h
      cases Option.some.inj (hc.symm.trans h2)
      obtain ⟨c, n, f | f | f | f | f⟩ := x <;> rfl
    · obtain ⟨r, -, cell2, g1, -, g3, -⟩ := h
      cases Option.some.inj (hc.symm.trans g1)
      rw [g3]; rfl
  · rw [Array.getElem?_eq_none hq] at hc
    cases hc
/-- what a callee finds -/
def m_Pc (g : MG) (ws : va_W) (sz : Nat) (U : State) : Prop := U.heap.size = sz ∧ va_P g.2.1 m_cl ws U.heap ∧ va_K g.2.1 m_cl (m_tys g.2.2) U ∧ va_D (fun _ => True) ws ∧ m_St (va_A ws sz) U
theorem m_St_to {D : va_G} {A : Nat → Prop} {ws : va_W} {s U : State} (hW : s.WarmedH U.vm) (h : m_St A s) (hP : va_P D m_cl ws U.heap) (hk : ∀ a : Nat, a < s.heap.size → ¬ A a → U.heap[a]? = s.heap[a]?) (hAB : ∀ q, va_A ws U.heap.size q → A q) : m_St (va_A ws U.heap.size) U := by
  obtain ⟨⟨a1, a2, a3, a4⟩, -, h3, h4, h5, h6, h7, h8, h9⟩ := h
  refine ⟨⟨((a1.kept hk).moved hW.alike).narrow hAB, ((a2.kept hk).moved hW.alike).narrow hAB, va_Zq.narrow (va_Zq.moved hW.alike (va_Zq.kept a3 hk)) hAB, va_Zq.narrow (va_Zq.moved hW.alike (va_Zq.kept a4 hk)) hAB⟩, m_nst hP, fun q hq => ?_, fun q hq => va_Nw.warmF hW (h4 q hq), fun q hq => va_Nw.warmM hW (h5 q hq), fun C hC => va_AO.moved hW.alike (h6 C hC), fun q hq => va_Nc.moved hW.alike (h7 q hq), fun q hq => (h8 q hq).moved hW.alike, fun y hy => va_Nw.warmD hW (h9 y hy)⟩
  obtain ⟨sa, hsa⟩ := h3 q hq
  exact ⟨sa, vk_R.warm hW hsa⟩
theorem m_pcU {g : MG} {ws : va_W} {s : State} {H : Heap} {A : Nat → Prop} {locs : List Loc} (hSt : m_St A s) (hA : ∀ q, s.heap.size ≤ q → A q) (hK : va_K g.2.1 m_cl (m_tys g.2.2) s) (hP : va_P g.2.1 m_cl ws H) (hD : va_D A ws) (hS : va_S A s.heap H locs) : ∀ U : State, U.heap = H → s.WarmedH U.vm → m_Pc g ws H.size U := by
  intro U hU hW9
  subst hU
  refine ⟨rfl, hP, va_K.moved hW9.alike hK, hD.weaken (fun _ _ _ _ => trivial), m_St_to hW9 hSt hP (fun a h1 h2 => hS.2.1 a h1 h2) (fun q hq => ?_)⟩
  rcases hq with ⟨k, e9, hk⟩ | hq
  · exact hD.2 k _ hk
  · exact hA q (Nat.le_trans hS.1 hq)
/-- a method's words: its head is its own code -/
def m_hd (N : MM) : Cond := match N.2.2.2.2 with
  | [] => .code N.1 N.2.1 N.2.2.1 N.2.2.2.1
  | _ => .codeWith N.1 N.2.1 N.2.2.1 N.2.2.2.1 N.2.2.2.2
def m_wl (N : MM) : List Cond := m_hd N :: m_Ts
def m_me (N : MM) (n : Nat) : Prop := m_hd N ∈ m_Ts ∧ plainName N.1.cls = true ∧ (N.1.cls ≠ "java/lang/invoke/MethodHandle" ∧ N.1.cls ≠ "java/lang/invoke/VarHandle") ∧ (parseMethodDescriptor N.1.desc).map (fun d => d.parameters.length) = some n ∧ Cond.initialized N.1.cls ∈ m_Ts
/-- what the head says -/
theorem m_hd_spec {N : MM} {args : Array Value} {s : State} {m : MethodId} (h : (m_hd N).before args s = true) (hn : s.methodNamed? N.1 = some m) : ∃ (meth : Method) (c : Code), s.vm.method? m = some meth ∧ meth.code = some c ∧ c.code = N.2.1 ∧ c.maxLocals = N.2.2.1 ∧ meth.sig.returnType = N.2.2.2.1 ∧ meth.locks = false ∧ c.exceptionTable.toList = tableOf N.2.2.2.2 ∧ parseMethodDescriptor N.1.desc = some meth.sig := by
  obtain ⟨y, bytes, maxL, ret, hh⟩ := N
  cases hh with
  | nil =>
    obtain ⟨meth, c, g1, g2, g3, g4, g5, g6, g7, g8⟩ := Cond.code_spec hn h
    exact ⟨meth, c, g1, g2, g3, g4, g5, g6, by rw [Array.isEmpty_iff.mp g7]; rfl, g8⟩
  | cons a l =>
    obtain ⟨m9, meth, c, hn9, g1, g2, g3, g4, g7, g5, g6, g8⟩ := Cond.codeWith_spec h
    cases hn.symm.trans hn9
    exact ⟨meth, c, g1, g2, g3, g4, g5, g6, by rw [← g7, table_eq], g8⟩
theorem m_named {N : MM} {args : Array Value} {s : State} (h : (m_hd N).before args s = true) : ∃ mk, s.methodNamed? N.1 = some mk := by
  obtain ⟨y, bytes, maxL, ret, hh⟩ := N
  cases hh with
  | nil => exact Cond.code_named h
  | cons a l =>
    obtain ⟨m9, meth, c, hn9, -⟩ := Cond.codeWith_spec h
    exact ⟨m9, hn9⟩
theorem m_good (N : MM) (hc : m_hd N ∈ m_Ts) : ∀ w ∈ m_wl N, w ∈ m_Ts := by
  intro w hw
  rcases List.mem_cons.mp hw with rfl | hw
  · exact hc
  · exact hw
theorem m_met {g : MG} {N : MM} {d w n : Nat} {av : List MV} {h : List MC} {mc ms : Nat} {Q : MO → List MC → Prop} (hN : m_me N n) (hE : Ev g none N d w 0 (m_args 0 av) [] h mc ms Q) (hsl : (av.map m_cat).sum ≤ N.2.2.1) {ws : va_W} {AV : List Value} (hW : m_W g.2.2 h ws) (hvs : m_vs (m_al ws) none av AV) (sz : Nat) :
    m_Ct g N.1 (m_wl N) (m_rm d w mc ms) Q ws AV sz (m_Pc g ws sz) := by
  obtain ⟨hc, hpl, -⟩ := hN
  refine Jvm.Free.MetFree.of_bodyS (code := N.2.1) (maxLocals := N.2.2.1) (ret := N.2.2.2.1) hpl ?_ ?_
  · intro args s m h9 hn
    obtain ⟨meth, c, g1, g2, g3, g4, g5, g6, -, -⟩ := m_hd_spec (atoms_spec (ws := m_wl N) h9 _ List.mem_cons_self) hn
    exact ⟨meth, c, g1, g2, g3, g4, g5, g6⟩
  · intro p e s m args below meth c s₁ B hml hv _
    obtain ⟨rfl, hsz, hP, hK, hD0, hSt⟩ := hv
    subst hsz
    have hh0 : s₁.heap = s.heap := by rw [B.state]; rfl
    have hD := hD0.self (sz := s.heap.size)
    have hl := lv_entry AV (n := N.2.2.1) (by rw [m_sl_len hvs]; exact hsl)
    have ht : c.exceptionTable.toList = tableOf N.2.2.2.2 := by
      obtain ⟨meth9, c9, g1, g2, -, -, -, -, g7, -⟩ := m_hd_spec (atoms_spec (ws := m_wl N) B.pre _ List.mem_cons_self) B.named
      cases Option.some.inj (g1.symm.trans B.method)
      cases Option.some.inj (g2.symm.trans (Stand.of_body B).code)
      exact g7
    have K := hE p e (headSpec (m_wl N) (m_rm d w mc ms)).room s m AV.toArray below meth c (va_A ws s.heap.size) (m_al ws) s.heap [] 0 0 mc ms _ ws _ _ ⟨B.exec, B.bytes, B.returns, B.notSynchronized, hml, findClass_of_methodNamed B.named, fun w hw => atoms_spec (ws := m_wl N) B.pre w (List.mem_cons_of_mem _ hw), (name_of_methodNamed B.named B.method).1, ht⟩ hSt (fun q h9 => by cases h9) ⟨Nat.le_refl _, Nat.le_refl _⟩ (by omega) (by omega) (Nat.le_refl _) (Nat.le_refl _) (fun q h9 => Or.inr h9) hK hP hD va_S.rf hW m_le.rf hl (m_args_ls 0 hvs) m_vs.nil
    rw [← lg_entry_eq] at K
    obtain ⟨t, a1, o, b1, b2, b3⟩ := K s₁ hh0 (Stand.of_body B)
    exact ⟨t, o, a1, b1, b2, b3⟩
/-- an object of class E was thrown over the frame at pc -/
def Ex (g : MG) (sc : MS) (M : MM) (d w pc : Nat) (lv : ML) (h : List MC) (mc ms : Nat) (Q : MO → List MC → Prop) (E : String) : Prop :=
  ∀ (p : Program) (e : Env) (R : Room) (s : State) (m : MethodId) (args : Array Value) (below : List Frame) (meth : Method) (c : Code) (A : Nat → Prop) (al0 : List Nat) (H : Heap) (locs : List Loc) (cells slots CT ST : Nat) (ls : Array Slot) (ws : va_W) (LV : List (Nat × Value)) (VS : List Value) (q9 : Addr) (ce : Cell),
    m_Fr M p s m args meth c → m_St A s → m_sc A s sc → m_Rm d w R → cells + mc ≤ CT → slots + ms ≤ ST → CT ≤ R.cells → ST ≤ R.slots → (∀ q, s.heap.size ≤ q → A q) → va_K g.2.1 m_cl (m_tys g.2.2) s →
    va_P g.2.1 m_cl ws H → va_D A ws → va_S A s.heap H locs → m_W g.2.2 h ws → m_le al0 (m_al ws) → lv_has ls M.2.2.1 LV → m_ls (m_al ws) sc lv LV → H[q9]? = some ce → ce.vm = .none → s.vm.findClass E = some ce.cls →
    m_X p g.1 e R s m args below meth c H locs cells slots (m_Z g Q al0 A CT ST below s) (F0 m pc ls VS) q9
theorem x_out {g : MG} {sc : MS} {M : MM} {d w pc : Nat} {lv : ML} {h : List MC} {mc ms : Nat} {Q : MO → List MC → Prop} {E : String} (hh : M.2.2.2.2 = []) (k : Q (.inr E) h) : Ex g sc M d w pc lv h mc ms Q E := by
  intro p e R s m args below meth c A al0 H locs cells slots CT ST ls ws LV VS q9 ce hF hSt hsc hR h1 h2 h3 h4 hA hK hP hD hS hW hal hls hlv hce hcv hcl
  obtain ⟨hx, hb, hr, hlk, hml, hown, hts, hnm, htb⟩ := id hF
  intro T hT X
  obtain ⟨st, hrun, hend, hW9, hsm⟩ := X.leaveThrown q9 (g := F0 m pc ls VS) rfl rfl rfl (fun x hx9 => by rw [htb, hh] at hx9; cases hx9) hlk
  refine ⟨_, st, .threw q9, hrun, hend, Or.inr ⟨E, q9, ce, h, ws, rfl, ?_, hcv, hcl, k, hW, ?_, va_K.moved hW9.alike hK, hD, hal⟩, ?_, hW9, locs, hsm.mono (by omega) (by omega), hS.2.2⟩
  · show T.heap[q9]? = some ce
    rw [hT]; exact hce
  · show va_P _ _ _ T.heap
    rw [hT]; exact hP
  · exact hS.F hT
/-- the links of a call: virtual, static, <init>; between nest mates too -/
def m_lk (own : String) (i : Nat) (N : MM) : Prop := Cond.methodLink own i N.1 ∈ m_Ts ∨ ∃ host, (own, i, N.1, host) ∈ m_nestM
theorem m_lk.use {own : String} {i : Nat} {N : MM} {args : Array Value} {A : Nat → Prop} {s : State} (h : m_lk own i N) (hts : ∀ w ∈ m_Ts, w.before args s = true) (hSt : m_St A s) : ∃ host, (Cond.methodLink own i N.1).before args s = true ∨ (Cond.methodLinkNest own i N.1 host).before args s = true := by
  rcases h with h | ⟨host, h⟩
  · exact ⟨"", Or.inl (hts _ h)⟩
  · exact ⟨host, Or.inr (va_Nw.use rfl (hSt.2.2.2.2.1 _ h))⟩
def m_lV (own : String) (i : Nat) (N : MM) : Prop := Cond.instanceMethod N.1 ∈ m_Ts ∧ Cond.selects N.1.cls N.1 N.1 ∈ m_Ts ∧ m_lk own i N
def m_lS (own : String) (i : Nat) (N : MM) : Prop := Cond.static N.1 ∈ m_Ts ∧ m_lk own i N
def m_lI (own : String) (i : Nat) (N : MM) : Prop := Cond.instanceMethod N.1 ∈ m_Ts ∧ N.1.name = "<init>" ∧ N.2.2.2.1 = none ∧ N.2.2.2.2 = [] ∧ m_lk own i N
theorem e_invV {g : MG} {sc : MS} {M N : MM} {d d2 w w2 pc : Nat} {lv : ML} {st st' : List MV} {h : List MC} {mc1 ms1 mc2 ms2 : Nat} {Q Q9 : MO → List MC → Prop} {i n r ci : Nat} {av : List MV} {fs : List MV} {T : u_T} {NN : Nat} (hd : decode M.2.1 pc = .ok (.invokevirtual i, 3)) (hN : m_me N n) (hl : m_lV M.1.cls i N) (hst0 : st = av.reverse ++ mr r :: st') (hn : av.length = n) (hsl : ((mr r :: av).map m_cat).sum ≤ N.2.2.1) (hns : av.all m_nsc = true) (h8 : (st'.map m_cat).sum ≤ 8) (hd2 : d2 + 1 ≤ d) (hw2 : 19 + N.2.2.1 + w2 ≤ w) (ho : h[r]? = some (cO ci fs)) (hci : m_cl[ci]? = some (N.1.cls, T, NN)) (hE : Ev g none N d2 w2 0 (m_args 0 (mr r :: av)) [] h mc1 ms1 Q9) (kr : ∀ (r : Option MV) (h9 : List MC), Q9 (.inl r) h9 → Ev g sc M d w (pc + 3) lv (r.toList ++ st') h9 mc2 ms2 Q) (kx : ∀ (E : String) (h9 : List MC), Q9 (.inr E) h9 → Ex g sc M d w pc lv h9 mc2 ms2 Q E) : Ev g sc M d w pc lv st h (mc1 + mc2) (ms1 + ms2) Q := by
  intro p e R s m args below meth c A al0 H locs cells slots CT ST ls ws LV VS hF hSt hsc hR h1 h2 h3 h4 hA hK hP hD hS hW hal hls hlv hst
  obtain ⟨hx, hb, hr, hlk, hml, hown, hts, hnm, htb⟩ := id hF
  subst hst0
  obtain ⟨AVr, REST0, rfl, hav, hrest0⟩ := hst.split
  obtain ⟨V9, REST, rfl, hV9, hrest⟩ := hrest0.inv
  obtain ⟨a, e9, rfl, hwr, hc9⟩ := m_ref hW ho hV9
  obtain ⟨FS, rfl, hfs⟩ := m_c_o hc9
  have hav2 : m_vs (m_al ws) none av AVr.reverse := by
    have q := (m_vs_none (by rw [List.all_reverse]; exact hns) hav).rev
    rw [List.reverse_reverse] at q
    exact q
  have hlen : ∀ sig, parseMethodDescriptor N.1.desc = some sig → AVr.reverse.length = sig.parameters.length := by
    intro sig h9
    have q := hN.2.2.2.1
    rw [h9] at q
    rw [hav2.len, hn]
    exact (Option.some.inj q).symm
  have hav3 : m_vs (m_al ws) none (mr r :: av) (Value.ref a :: AVr.reverse) := m_vs.cons (m_v_none rfl hV9) hav2
  obtain ⟨l1, l2, l3⟩ := hl
  obtain ⟨host, l3⟩ := l3.use hts hSt
  have hI : m_Iv p g.1 e R s m args below meth c H locs cells slots (F0 m pc ls (AVr ++ Value.ref a :: REST)) REST N.1 (Value.ref a :: AVr.reverse) := by
    refine m_ivV hx hown l3 (hts _ l1) (hts _ l2) hN.2.2.1 (fun mk meth9 g1 g2 => ?_) (va_recv hK hP hci hwr) rfl (by rw [List.reverse_reverse]) (by rw [hb]; exact hd)
    obtain ⟨meth8, c8, g3, -, -, -, -, -, -, g4⟩ := m_hd_spec (hts _ hN.1) g1
    cases Option.some.inj (g3.symm.trans g2)
    exact hlen _ g4
  refine m_Ct.go (rm := m_rm d2 w2 mc1 ms1) (maxL := N.2.2.1) (m_met hN hE hsl hW hav3 H.size) hI (fun w9 hw9 a' U hU => word_at hU (good_of_word (m_Ts_good w9 (m_good N hN.1 w9 hw9))) (hts w9 (m_good N hN.1 w9 hw9))) (hts _ hN.2.2.2.2) (fun mk9 U hU hn9 => ?_) (Nat.le_trans hd2 hR.1) (by show 8 + (N.2.2.1 + 11) + w2 ≤ _; have q := hR.2; omega) (by show cells + mc1 ≤ _; omega) (by show slots + ms1 ≤ _; omega) (by rw [hrest.cats]; exact h8) (by rw [hml]; exact hls.1) (by rw [hb]; exact hd) (m_pcU hSt hA hK hP hD hS) hA hD hS (fun r V h9 ws1 H1 locs1 hq hrv hW1 hP1 hD1 hle hS1 => ?_) (fun E q9 ce h9 ws1 H1 locs1 hq hce hcv hcl hW1 hP1 hD1 hle hS1 => ?_)
  · have hw9 : (m_hd N).before #[] U = true := word_at hU (good_of_word (m_Ts_good _ hN.1)) (hts _ hN.1)
    obtain ⟨methY, cY, g1, g2, -, g4, -⟩ := m_hd_spec hw9 hn9
    exact ⟨methY, cY, g1, g2, g4⟩
  · exact kr r h9 hq p e R s m args below meth c A al0 H1 locs1 _ _ CT ST _ _ _ _ hF hSt hsc hR (by show cells + mc1 + mc2 ≤ _; omega) (by show slots + ms1 + ms2 ≤ _; omega) h3 h4 hA hK hP1 hD1 hS1 hW1 (hal.tr hle) hls (hlv.le hle) (hrv.sc.app (hrest.le hle))
  · exact kx E h9 hq p e R s m args below meth c A al0 H1 locs1 _ _ CT ST _ _ _ _ q9 ce hF hSt hsc hR (by show cells + mc1 + mc2 ≤ _; omega) (by show slots + ms1 + ms2 ≤ _; omega) h3 h4 hA hK hP1 hD1 hS1 hW1 (hal.tr hle) hls (hlv.le hle) hce hcv hcl
theorem e_invS {g : MG} {sc : MS} {M N : MM} {d d2 w w2 pc : Nat} {lv : ML} {st st' : List MV} {h : List MC} {mc1 ms1 mc2 ms2 : Nat} {Q Q9 : MO → List MC → Prop} {i n : Nat} {av : List MV} (hd : decode M.2.1 pc = .ok (.invokestatic i, 3)) (hN : m_me N n) (hl : m_lS M.1.cls i N) (hst0 : st = av.reverse ++ st') (hn : av.length = n) (hsl : (av.map m_cat).sum ≤ N.2.2.1) (hns : av.all m_nsc = true) (h8 : (st'.map m_cat).sum ≤ 8) (hd2 : d2 + 1 ≤ d) (hw2 : 19 + N.2.2.1 + w2 ≤ w) (hE : Ev g none N d2 w2 0 (m_args 0 av) [] h mc1 ms1 Q9) (kr : ∀ (r : Option MV) (h9 : List MC), Q9 (.inl r) h9 → Ev g sc M d w (pc + 3) lv (r.toList ++ st') h9 mc2 ms2 Q) (kx : ∀ (E : String) (h9 : List MC), Q9 (.inr E) h9 → Ex g sc M d w pc lv h9 mc2 ms2 Q E) : Ev g sc M d w pc lv st h (mc1 + mc2) (ms1 + ms2) Q := by
  intro p e R s m args below meth c A al0 H locs cells slots CT ST ls ws LV VS hF hSt hsc hR h1 h2 h3 h4 hA hK hP hD hS hW hal hls hlv hst
  obtain ⟨hx, hb, hr, hlk, hml, hown, hts, hnm, htb⟩ := id hF
  subst hst0
  obtain ⟨AVr, REST, rfl, hav, hrest⟩ := hst.split
  have hav2 : m_vs (m_al ws) none av AVr.reverse := by
    have q := (m_vs_none (by rw [List.all_reverse]; exact hns) hav).rev
    rw [List.reverse_reverse] at q
    exact q
  have hlen : ∀ sig, parseMethodDescriptor N.1.desc = some sig → AVr.reverse.length = sig.parameters.length := by
    intro sig h9
    have q := hN.2.2.2.1
    rw [h9] at q
    rw [hav2.len, hn]
    exact (Option.some.inj q).symm
  obtain ⟨l1, l3⟩ := hl
  obtain ⟨host, l3⟩ := l3.use hts hSt
  have hI : m_Iv p g.1 e R s m args below meth c H locs cells slots (F0 m pc ls (AVr ++ REST)) REST N.1 AVr.reverse := by
    obtain ⟨mk, hnamed⟩ : ∃ mk, s.methodNamed? N.1 = some mk := m_named (hts _ hN.1)
    obtain ⟨meth8, c8, g3, -, -, -, -, -, -, g4⟩ := m_hd_spec (hts _ hN.1) hnamed
    exact m_ivS hx hown l3 (hts _ l1) (hts _ hN.2.2.2.2) hN.2.2.1 hnamed g3 (hlen _ g4) rfl (by rw [List.reverse_reverse]) (by rw [hb]; exact hd)
  refine m_Ct.go (rm := m_rm d2 w2 mc1 ms1) (maxL := N.2.2.1) (m_met hN hE hsl hW hav2 H.size) hI (fun w9 hw9 a' U hU => word_at hU (good_of_word (m_Ts_good w9 (m_good N hN.1 w9 hw9))) (hts w9 (m_good N hN.1 w9 hw9))) (hts _ hN.2.2.2.2) (fun mk9 U hU hn9 => ?_) (Nat.le_trans hd2 hR.1) (by show 8 + (N.2.2.1 + 11) + w2 ≤ _; have q := hR.2; omega) (by show cells + mc1 ≤ _; omega) (by show slots + ms1 ≤ _; omega) (by rw [hrest.cats]; exact h8) (by rw [hml]; exact hls.1) (by rw [hb]; exact hd) (m_pcU hSt hA hK hP hD hS) hA hD hS (fun r V h9 ws1 H1 locs1 hq hrv hW1 hP1 hD1 hle hS1 => ?_) (fun E q9 ce h9 ws1 H1 locs1 hq hce hcv hcl hW1 hP1 hD1 hle hS1 => ?_)
  · have hw9 : (m_hd N).before #[] U = true := word_at hU (good_of_word (m_Ts_good _ hN.1)) (hts _ hN.1)
    obtain ⟨methY, cY, g1, g2, -, g4, -⟩ := m_hd_spec hw9 hn9
    exact ⟨methY, cY, g1, g2, g4⟩
  · exact kr r h9 hq p e R s m args below meth c A al0 H1 locs1 _ _ CT ST _ _ _ _ hF hSt hsc hR (by show cells + mc1 + mc2 ≤ _; omega) (by show slots + ms1 + ms2 ≤ _; omega) h3 h4 hA hK hP1 hD1 hS1 hW1 (hal.tr hle) hls (hlv.le hle) (hrv.sc.app (hrest.le hle))
  · exact kx E h9 hq p e R s m args below meth c A al0 H1 locs1 _ _ CT ST _ _ _ _ q9 ce hF hSt hsc hR (by show cells + mc1 + mc2 ≤ _; omega) (by show slots + ms1 + ms2 ≤ _; omega) h3 h4 hA hK hP1 hD1 hS1 hW1 (hal.tr hle) hls (hlv.le hle) hce hcv hcl
theorem e_invI {g : MG} {sc : MS} {M N : MM} {d d2 w w2 pc : Nat} {lv : ML} {st st' : List MV} {h : List MC} {mc1 ms1 mc2 ms2 : Nat} {Q Q9 : MO → List MC → Prop} {i n r : Nat} {av : List MV} {cc9 : MC} (hd : decode M.2.1 pc = .ok (.invokespecial i, 3)) (hN : m_me N n) (hl : m_lI M.1.cls i N) (hst0 : st = av.reverse ++ mr r :: st') (hn : av.length = n) (hsl : ((mr r :: av).map m_cat).sum ≤ N.2.2.1) (hns : av.all m_nsc = true) (h8 : (st'.map m_cat).sum ≤ 8) (hd2 : d2 + 1 ≤ d) (hw2 : 19 + N.2.2.1 + w2 ≤ w) (ho : h[r]? = some cc9) (hE : Ev g none N d2 w2 0 (m_args 0 (mr r :: av)) [] h mc1 ms1 Q9) (kr : ∀ (r : Option MV) (h9 : List MC), Q9 (.inl r) h9 → Ev g sc M d w (pc + 3) lv (r.toList ++ st') h9 mc2 ms2 Q) (kx : ∀ (E : String) (h9 : List MC), Q9 (.inr E) h9 → Ex g sc M d w pc lv h9 mc2 ms2 Q E) : Ev g sc M d w pc lv st h (mc1 + mc2) (ms1 + ms2) Q := by
  intro p e R s m args below meth c A al0 H locs cells slots CT ST ls ws LV VS hF hSt hsc hR h1 h2 h3 h4 hA hK hP hD hS hW hal hls hlv hst
  obtain ⟨hx, hb, hr, hlk, hml, hown, hts, hnm, htb⟩ := id hF
  subst hst0
  obtain ⟨AVr, REST0, rfl, hav, hrest0⟩ := hst.split
  obtain ⟨V9, REST, rfl, hV9, hrest⟩ := hrest0.inv
  obtain ⟨a, e9, rfl, hwr, hc9⟩ := m_ref hW ho hV9
  have hav2 : m_vs (m_al ws) none av AVr.reverse := by
    have q := (m_vs_none (by rw [List.all_reverse]; exact hns) hav).rev
    rw [List.reverse_reverse] at q
    exact q
  have hlen : ∀ sig, parseMethodDescriptor N.1.desc = some sig → AVr.reverse.length = sig.parameters.length := by
    intro sig h9
    have q := hN.2.2.2.1
    rw [h9] at q
    rw [hav2.len, hn]
    exact (Option.some.inj q).symm
  have hav3 : m_vs (m_al ws) none (mr r :: av) (Value.ref a :: AVr.reverse) := m_vs.cons (m_v_none rfl hV9) hav2
  obtain ⟨l1, l2, l4, l5, l3⟩ := hl
  obtain ⟨host, l3⟩ := l3.use hts hSt
  have hcode : (Cond.code N.1 N.2.1 N.2.2.1 none).before args s = true := by
    have q := hts _ hN.1
    unfold m_hd at q
    rw [l5, l4] at q
    exact q
  have hI : m_Iv p g.1 e R s m args below meth c H locs cells slots (F0 m pc ls (AVr ++ Value.ref a :: REST)) REST N.1 (Value.ref a :: AVr.reverse) :=
    m_ivI hx hown l3 (hts _ l1) l2 hcode hN.2.2.1 hlen rfl (by rw [List.reverse_reverse]) (by rw [hb]; exact hd)
  refine m_Ct.go (rm := m_rm d2 w2 mc1 ms1) (maxL := N.2.2.1) (m_met hN hE hsl hW hav3 H.size) hI (fun w9 hw9 a' U hU => word_at hU (good_of_word (m_Ts_good w9 (m_good N hN.1 w9 hw9))) (hts w9 (m_good N hN.1 w9 hw9))) (hts _ hN.2.2.2.2) (fun mk9 U hU hn9 => ?_) (Nat.le_trans hd2 hR.1) (by show 8 + (N.2.2.1 + 11) + w2 ≤ _; have q := hR.2; omega) (by show cells + mc1 ≤ _; omega) (by show slots + ms1 ≤ _; omega) (by rw [hrest.cats]; exact h8) (by rw [hml]; exact hls.1) (by rw [hb]; exact hd) (m_pcU hSt hA hK hP hD hS) hA hD hS (fun r V h9 ws1 H1 locs1 hq hrv hW1 hP1 hD1 hle hS1 => ?_) (fun E q9 ce h9 ws1 H1 locs1 hq hce hcv hcl hW1 hP1 hD1 hle hS1 => ?_)
  · have hw9 : (m_hd N).before #[] U = true := word_at hU (good_of_word (m_Ts_good _ hN.1)) (hts _ hN.1)
    obtain ⟨methY, cY, g1, g2, -, g4, -⟩ := m_hd_spec hw9 hn9
    exact ⟨methY, cY, g1, g2, g4⟩
  · exact kr r h9 hq p e R s m args below meth c A al0 H1 locs1 _ _ CT ST _ _ _ _ hF hSt hsc hR (by show cells + mc1 + mc2 ≤ _; omega) (by show slots + ms1 + ms2 ≤ _; omega) h3 h4 hA hK hP1 hD1 hS1 hW1 (hal.tr hle) hls (hlv.le hle) (hrv.sc.app (hrest.le hle))
  · exact kx E h9 hq p e R s m args below meth c A al0 H1 locs1 _ _ CT ST _ _ _ _ q9 ce hF hSt hsc hR (by show cells + mc1 + mc2 ≤ _; omega) (by show slots + ms1 + ms2 ≤ _; omega) h3 h4 hA hK hP1 hD1 hS1 hW1 (hal.tr hle) hls (hlv.le hle) hce hcv hcl
theorem e_objInit {g : MG} {sc : MS} {M : MM} {d w pc : Nat} {lv : ML} {st : List MV} {h : List MC} {mc ms : Nat} {Q : MO → List MC → Prop} {i r : Nat} (hd : decode M.2.1 pc = .ok (.invokespecial i, 3)) (hl : Cond.methodLink M.1.cls i Lib.objectInit ∈ m_Ts) (hi : Cond.instanceMethod Lib.objectInit ∈ m_Ts) (hc : Cond.code Lib.objectInit ⟨#[0xb1]⟩ 1 none ∈ m_Ts) (h8 : (st.map m_cat).sum ≤ 8) (hd1 : 1 ≤ d) (hw1 : 20 ≤ w) (kk : Ev g sc M d w (pc + 3) lv st h mc ms Q) : Ev g sc M d w pc lv (mr r :: st) h mc ms Q := by
  intro p e R s m args below meth c A al0 H locs cells slots CT ST ls ws LV VS hF hSt hsc hR h1 h2 h3 h4 hA hK hP hD hS hW hal hls hlv hst
  obtain ⟨hx, hb, hr, hlk, hml, hown, hts, hnm, htb⟩ := id hF
  obtain ⟨V, VS', rfl, hV, hsr⟩ := hst.inv
  obtain ⟨q, -, rfl⟩ := m_v_mr hV
  have h89 : 2 * (F0 m pc ls (Value.ref q :: VS')).monitorRoom + (VS'.map fun v => v.category).sum ≤ 8 := lv_room (by rw [hsr.cats]; exact h8)
  have q1 := hR.1
  have q2 := hR.2
  exact W.objInit hx hb hown (hts _ hl) (hts _ hi) (hts _ hc) rfl (by rw [hml]; exact hls.1) rfl hd (by omega) (by omega) (kk p e R s m args below meth c A al0 H locs cells slots CT ST _ _ _ _ hF hSt hsc hR h1 h2 h3 h4 hA hK hP hD hS hW hal hls hlv hsr)
end
section
/-! THROWING AND CATCHING -/
/-- where the walk stands now may be its beginning: nothing is written yet, the room is what is left -/
theorem m_again {p : Program} {l : Launch} {e : Env} {R R' : Room} {s : State} {m : MethodId} {args : Array Value} {below : List Frame} {meth : Method} {c : Code} {T : State} {locs : List Loc} {cells slots : Nat} (X : Stand p l e R s m args below meth c T locs cells slots) (hf : R'.frames ≤ R.frames) (hl : R'.locals ≤ R.locals) (hc : cells + R'.cells ≤ R.cells) (hs : slots + R'.slots ≤ R.slots) :
    Stand p l e R' ((T.setVm s.vm).setFrames (.invoking m args :: below)) m args below meth c T [] 0 0 := by
  have htop : (T.setVm s.vm).topJava?.isSome := X.here.top
  have hcur : (T.setVm s.vm).cur < (T.setVm s.vm).threads.size := State.cur_lt_of_top htop
  have hF : ((T.setVm s.vm).setFrames (.invoking m args :: below)).frames = .invoking m args :: below := State.frames_setFrames _ hcur
  have hlim : e.platform.stackLimits (T.setVm s.vm).me = e.platform.stackLimits s.me := X.limits
  have hbyt : (T.setVm s.vm).me.stackBytes = s.me.stackBytes := X.bytes
  have hloc : ((T.setVm s.vm).setFrames (.invoking m args :: below)).localsInUse = s.localsInUse := by
    rw [State.localsInUse_invoking hF (meth := meth) (c := c) X.method X.code, State.localsInUse_invoking X.frames X.method X.code]
  have hroom : ((T.setVm s.vm).setFrames (.invoking m args :: below)).hasRoom e.platform R' = true := by
    have h := X.room
    simp only [State.hasRoom, Bool.and_eq_true, decide_eq_true_eq] at h ⊢
    obtain ⟨⟨⟨⟨g1, g2, g3, g4, g5, g6⟩, g7⟩, g8⟩, -⟩ := h
    rw [X.frames, List.length_cons] at g2 g3
    have q1 := X.heapSize
    have q2 := X.used
    simp only [hF, hloc, List.length_cons, State.stackLimits_setFrames, State.stackBytes_setFrames, hlim, hbyt]
    have k1 : ((T.setVm s.vm).setFrames (.invoking m args :: below)).heap.size + R'.cells ≤ e.platform.maxCells := by
      show T.heap.size + R'.cells ≤ _
      omega
    have k2 : ((T.setVm s.vm).setFrames (.invoking m args :: below)).slotsUsed + R'.slots ≤ e.platform.maxSlots := by
      show T.slotsUsed + R'.slots ≤ _
      omega
    exact ⟨⟨⟨⟨by omega, by omega, by omega, by omega, by omega, g6⟩, k1⟩, k2⟩, X.book⟩
  obtain ⟨g₀, hg0⟩ := Option.isSome_iff_exists.mp htop
  obtain ⟨r, hr⟩ := State.topJava?_eq_some.mp hg0
  have hsame : ((T.setVm s.vm).setFrames (.invoking m args :: below)).sameButNew (T.setVm s.vm) [] 0 0 := by
    have hdrop : T.heap.toList.drop T.heap.size = [] := List.drop_eq_nil_of_le (Nat.le_of_eq Array.length_toList)
    refine ⟨?_, Nat.le_refl _, Nat.le_refl _, ?_, ?_, fun a c9 h9 => ⟨c9, h9, rfl, rfl, fun _ _ => rfl⟩⟩
    · obtain ⟨t, ht, -⟩ := State.frames_cons hr
      show T.setVm s.vm = { ((T.setVm s.vm).setFrames (.invoking m args :: below)).setFrames (T.setVm s.vm).frames with heap := T.heap, slotsUsed := T.slotsUsed }
      rw [State.setFrames_setFrames, State.setFrames_self ht]
      rfl
    · show T.slotsUsed = T.slotsUsed + ((T.heap.toList.drop T.heap.size).map (·.slots.size)).sum
      rw [hdrop]
      rfl
    · show ((T.heap.toList.drop T.heap.size).map (·.slots.size)).sum ≤ 0
      rw [hdrop]
      exact Nat.le_refl _
  exact ⟨X.admits, X.cas, X.clock, hF, hroom, X.hears, X.method, X.code, X.here, X.tail, X.warmed, by rw [State.stackLimits_setFrames]; rfl, by rw [State.stackBytes_setFrames]; rfl, hsame⟩
/-- what didn't change: all that was there, where nothing was written -/
theorem m_sameH {s U : State} {k n : Nat} (h : s.sameButNew ({ U with vm := s.vm } : State) [] k n) : s.heap.size ≤ U.heap.size ∧ ∀ q : Nat, q < s.heap.size → U.heap[q]? = s.heap[q]? := by
  obtain ⟨-, h2, -, -, -, h6⟩ := h
  refine ⟨h2, fun q hq => ?_⟩
  have hc : s.heap[q]? = some s.heap[q] := Array.getElem?_eq_getElem hq
  obtain ⟨c', g1, g2, g3, g4⟩ := h6 q _ hc
  have hsl : c'.slots = (s.heap[q]).slots := Array.ext_getElem? fun i => g4 i (fun hm => by cases hm)
  have hcc : c' = s.heap[q] := by
    rw [hsl] at g2
    exact g2
  show U.heap[q]? = _
  have g5 : U.heap[q]? = some c' := g1
  rw [g5, hcc, hc]
/-- the words of a throw with a text that ride along; the four others speak of the heap -/
def m_nh (w : Cond) : Bool := match w with
  | .isRef _ => false
  | .laysStatic _ _ _ => false
  | _ => true
/-- a throw of a new object with a text -/
def m_tw (own : String) (ik is ic : Nat) (cls text : String) (names : List String) : Prop := (Bundle.fit cls = true ∧ ∀ n ∈ names, Bundle.fit n = true) ∧ Cond.classLink own ik cls ∈ m_Ts ∧ Cond.initialized cls ∈ m_Ts ∧ (own, is, text) ∈ m_strs ∧ (∀ w ∈ Bundle.ownAtoms own ic cls names, (w ∈ m_Ts ∨ (∃ q ∈ m_cas, w = .castable q.1 q.2) ∨ ∃ y ∈ m_decl, w = .declares y) ∨ w = .isRef (.static Bundle.tN "UNASSIGNED_STACK" Bundle.steD) ∨ w = .isRef (.static Bundle.tN "SUPPRESSED_SENTINEL" Bundle.listD) ∨ w = .laysStatic Bundle.tN "UNASSIGNED_STACK" Bundle.steD ∨ w = .laysStatic Bundle.tN "SUPPRESSED_SENTINEL" Bundle.listD)
set_option maxHeartbeats 1000000 in
theorem e_throw {g : MG} {sc : MS} {M : MM} {d w pc : Nat} {lv : ML} {st : List MV} {h : List MC} {mc ms : Nat} {Q : MO → List MC → Prop} {ik is ic : Nat} {cls text : String} {names : List String} (hl : g.1.stackTraces = false) (d0 : decode M.2.1 pc = .ok (.new ik, 3)) (d3 : decode M.2.1 (pc + 3) = .ok (.dup, 1)) (d4 : decode M.2.1 (pc + 4) = .ok (.ldc is, 2)) (d6 : decode M.2.1 (pc + 6) = .ok (.invokespecial ic, 3)) (d9 : decode M.2.1 (pc + 9) = .ok (.athrow, 1)) (hw : m_tw M.1.cls ik is ic cls text names) (hh : M.2.2.2.2 = []) (h8 : (st.map m_cat).sum ≤ 8) (hd6 : names.length + 4 ≤ d) (hw6 : 51 + 13 * (names.length + 1) ≤ w) (hc1 : 1 ≤ mc) (hs6 : 6 ≤ ms) (k : Q (.inr cls) h) : Ev g sc M d w pc lv st h mc ms Q := by
  intro p e R s m args below meth c A al0 H locs cells slots CT ST ls ws LV VS hF hSt hsc hR h1 h2 h3 h4 hA hK hP hD hS hW hal hls hlv hst
  obtain ⟨hx, hb, hr, hlk, hml, hown, hts, hnm, htb⟩ := id hF
  obtain ⟨⟨hcls, hnames⟩, hk, hini, hstr, hat⟩ := hw
  obtain ⟨sa, hsa⟩ := hSt.2.2.1 _ hstr
  have q1 := hR.1
  have q2 := hR.2
  have q3 := hst.cats
  intro T hT X
  have htr : e.platform.stackTraces = false := (show e.platform.stackTraces = g.1.stackTraces by rw [X.admits.platform]).trans hl
  have Y := m_again X (R' := { frames := R.frames, locals := R.locals, cells := 1, slots := 6 }) (Nat.le_refl _) (Nat.le_refl _) (by show cells + 1 ≤ _; omega) (by show slots + 6 ≤ _; omega)
  obtain ⟨s', hs'⟩ : ∃ z, z = (T.setVm s.vm).setFrames (.invoking m args :: below) := ⟨_, rfl⟩
  rw [← hs'] at Y
  have hvm : s'.vm = s.vm := by rw [hs']; rfl
  have hhp : s'.heap = H := by rw [hs']; exact hT
  have hW0 : s.WarmedH s'.vm := by rw [hvm]; exact State.WarmedH.refl s
  have hT9 : ∀ w9 ∈ m_Ts, w9.before args s' = true := fun w9 hw9 => word_at hW0 (good_of_word (m_Ts_good w9 hw9)) (hts w9 hw9)
  obtain ⟨⟨a1, a2, a3, a4⟩, hns, -, -, -, -, -, hcas, hdec⟩ := hSt
  have b1 : m_L Bundle.tN "UNASSIGNED_STACK" Bundle.steD A s' s'.heap := by rw [hhp]; exact (a1.kept hS.2.1).moved hW0.alike
  have b2 : m_L Bundle.tN "SUPPRESSED_SENTINEL" Bundle.listD A s' s'.heap := by rw [hhp]; exact (a2.kept hS.2.1).moved hW0.alike
  have b3 : va_Zq Bundle.tN "UNASSIGNED_STACK" Bundle.steD A s' s'.heap := by rw [hhp]; exact va_Zq.moved hW0.alike (va_Zq.kept a3 hS.2.1)
  have b4 : va_Zq Bundle.tN "SUPPRESSED_SENTINEL" Bundle.listD A s' s'.heap := by rw [hhp]; exact va_Zq.moved hW0.alike (va_Zq.kept a4 hS.2.1)
  have hall : ∀ w9 ∈ Bundle.ownAtoms M.1.cls ic cls names, w9.before args s' = true := by
    intro w9 hw9
    rcases hat w9 hw9 with (h9 | ⟨q, hq, rfl⟩ | ⟨y, hy, rfl⟩) | rfl | rfl | rfl | rfl
    · exact hT9 w9 h9
    · obtain ⟨c9, t9, g1, g2, g3⟩ := (hcas q hq).moved hW0.alike
      simp [Cond.before, Cond.holds, Cond.value, g1, g2, g3]
    · exact va_Nw.use rfl (va_Nw.warmD hW0 (hdec y hy))
    · exact m_Zq.isRef b3
    · exact m_Zq.isRef b4
    · exact b1.word
    · exact b2.word
  have hown' : s'.vm.findClass M.1.cls = some m.cls := by rw [hvm]; exact hown
  obtain ⟨vm₁, cX, kX, hfX, hkX, -, -, X₁, st1⟩ := Y.newCold hx (own := M.1.cls) (C := cls) (index := ik) (n := 6) hown' (hT9 _ hk) (hall _ (by simp [Bundle.ownAtoms])) (hT9 _ hini) (g := F0 m pc ls VS) rfl (by rw [hb]; exact d0) (Nat.le_refl _) (Nat.le_refl _)
  generalize hT1 : (T.setVm vm₁).pushCell { cls := cX, slots := kX.instanceTypes.map defaultValue, vm := .none } = T1 at X₁ st1
  have hcellA : T1.heap[T.heap.size]? = some (freshCell cX kX) := by rw [← hT1]; exact State.heap_pushCell_size _ _
  have d3' : decode c.code (pc + 3) = .ok (.dup, 1) := by rw [hb]; exact d3
  have d4' : decode c.code (pc + 4) = .ok (.ldc is, 2) := by rw [hb]; exact d4
  have hsa' : vk_R M.1.cls is text sa s' := vk_R.warm hW0 hsa
  have hcat : (Value.ref T.heap.size).category = 1 := rfl
  obtain ⟨U, hsteps, hrun, hend, hW9, hsame, ce, hce, hO⟩ := X₁.ctorThrowS hx htr (own := M.1.cls) (cls := cls) (names := names) (ic := ic) hown' hcls hnames hall (fun x hx9 => nomatch hx9) hfX hkX hcellA (by rw [hhp, hT]; exact Nat.le_refl _) (msg := .ref sa) rfl
    (g := { method := m, pc := pc + 6, locals := ls, stack := .ref sa :: .ref T.heap.size :: .ref T.heap.size :: VS, locked := none }) rfl (by rw [hml]; exact hls.1) rfl rfl (rest := VS) rfl (by rw [hb]; exact d6) (by rw [hb]; exact d9) (fun x hx9 => by rw [htb, hh] at hx9; cases hx9) (by show names.length + 3 < R.frames; omega) (by
      show 2 * 0 + _ + _ ≤ R.locals
      simp only [List.map_cons, List.sum_cons, hcat, q3]
      omega) hlk
  obtain ⟨f1, f2⟩ := m_sameH hsame
  rw [hhp] at f1 f2
  have hWs : s.WarmedH U.vm := State.WarmedH.trans hW0 hW9
  have hcl : s.vm.findClass cls = some ce.cls := by
    have h9 := hO.cls
    rw [hvm] at h9
    exact h9
  have hbig : s.sameButNew ({ U with vm := s.vm } : State) locs CT ST := by
    subst hs'
    obtain ⟨e1, e2⟩ := hsame
    rw [State.setFrames_setFrames] at e1
    have g2 : (T.setVm s.vm).sameButNew ({ U with vm := s.vm } : State) [] (0 + 1) (0 + 6) := ⟨e1, e2⟩
    have g3 := X.same.trans g2
    rw [List.append_nil] at g3
    exact g3.mono (by omega) (by omega)
  refine ⟨U, ?_, .threw T.heap.size, hrun, hend, Or.inr ⟨cls, T.heap.size, ce, h, ws, rfl, hce, hO.vm, hcl, k, hW, hP.kept (fun i q hi => f2 _ (hP i q hi).lt), va_K.moved hWs.alike hK, hD, hal⟩, ⟨Nat.le_trans hS.1 f1, fun q g1 g2 => (f2 q (Nat.lt_of_lt_of_le g1 hS.1)).trans (hS.2.1 q g1 g2)⟩, hWs, locs, hbig, hS.2.2⟩
  refine st1 _ ?_
  show Steps p.tables e below (T1.setTop { method := m, pc := pc + 3, locals := ls, stack := .ref T.heap.size :: VS, locked := none }) _
  jvm_step X₁.here [X₁.here.top, hx, d3', Value.category]
  exact X₁.ldcString hx (own := M.1.cls) (text := text) (index := is) (a := sa) hown' hsa'.1 hsa'.2
    (g := { method := m, pc := pc + 4, locals := ls, stack := .ref T.heap.size :: .ref T.heap.size :: VS, locked := none }) rfl d4' _ hsteps
end
section
/-- a row of the table whose class may still have to be linked: it takes the thing, or the search goes on; the tables note the link -/
theorem m_row {Q : Handler → Pre} {E : CtlPost} {e : Env} {d : Bool} {acts : List Action} {s : State} {f : JFrame} {a : Addr} {x : ExceptionTableEntry} {t : List ExceptionTableEntry} {c : ClassId} {cell : Cell} (hx : covers x f.pc = true) (h0 : x.catchType ≠ 0)
    (hl : s.vm.ClassLinks e.platform f.method.cls x.catchType c) (hcell : s.heap[a]? = some cell) (hobj : cell.vm.isStatics = false) (hk : ∃ k, s.vm.classes[cell.cls]? = some k) (hc : ∃ k, s.vm.classes[c]? = some k) :
    wp (findHandler.go f a (x :: t)) Q E e d acts s ↔ if s.vm.assignable cell.cls c = true then Q (.found x.handlerPc) d acts (s.setVm (s.vm.noted f.method.cls x.catchType (.cls c))) else wp (findHandler.go f a t) Q E e d acts (s.setVm (s.vm.noted f.method.cls x.catchType (.cls c))) := by
  have hns : ∀ k, cell.vm ≠ .statics k := VmData.ne_statics_of hobj
  have hal : s.vm.Alike (s.vm.noted f.method.cls x.catchType (.cls c)) := (Vm.Alike.refl s.vm).noted _ _ _
  obtain ⟨k1, hk1⟩ := hk
  obtain ⟨k2, hk2⟩ := hc
  obtain ⟨k3, hk3, -⟩ := hal.2.2 _ _ hk1
  obtain ⟨k4, hk4, -⟩ := hal.2.2 _ _ hk2
  obtain ⟨o1, o2⟩ := (resolveClass_links e.toSetting hl).op (op := VmOp.resolveClass f.method.cls x.catchType) rfl
  simp only [covers] at hx
  cases hfit : s.vm.assignable cell.cls c
  · have h9 : (s.vm.noted f.method.cls x.catchType (.cls c)).assignable cell.cls c = false := by rw [hal.assignable]; exact hfit
    simp [findHandler.go, hx, h0, o1, o2, hcell, hns, hk3, hk4, h9, VmOp.dirties, VmOp.acts]
  · have h9 : (s.vm.noted f.method.cls x.catchType (.cls c)).assignable cell.cls c = true := by rw [hal.assignable]; exact hfit
    simp [findHandler.go, hx, h0, o1, o2, hcell, hns, hk3, hk4, h9, VmOp.dirties, VmOp.acts]
/-- the frame at the handler, once the search has found it -/
theorem m_caught {tb : Tables} {e : Env} {s target : State} {g : JFrame} {c : Code} {below : List Frame} {a : Addr} {pc : Nat} {vm' : Vm} (h : At s g.method c below)
    (hfind : ∀ (Q : Handler → Pre) (E : CtlPost) (d : Bool) (acts : List Action), wp (findHandler g a) Q E e d acts ((s.setTop g).pushFrame (.throwing a)) ↔ Q (.found pc) d acts (((s.setTop g).pushFrame (.throwing a)).setVm vm'))
    (hrest : Steps tb e below ((s.setVm vm').setTop { g with pc := pc, stack := [.ref a] }) target) : Steps tb e below ((s.setTop g).pushFrame (.throwing a)) target := by
  have hstep : ∀ r : List Frame, (stepThrowing e ((s.setTop g).pushFrame (.throwing a)) a (.java g :: r)).Is ((((s.setTop g).pushFrame (.throwing a)).setVm vm').setFrames (.java { g with pc := pc, stack := [.ref a] } :: r)) [] := by
    intro r
    simp only [stepThrowing, searchFrame, vmDo]
    generalize hr : Sem.go _ e false [] ((s.setTop g).pushFrame (.throwing a)) = res
    obtain ⟨as, rfl, ha⟩ := Sem.eq_ok_of hr (a := Handler.found pc) (s' := ((s.setTop g).pushFrame (.throwing a)).setVm vm') (acts' := []) (by simp [hfind _ _ _ _])
    exact ⟨rfl, ha⟩
  obtain ⟨hgo, hw⟩ := h.throwing a
  refine Steps.head hgo hw ?_
  rw [stepThread_throwing (frames_entered h.top _), (hstep _).1]
  obtain ⟨g₀, hg⟩ := Option.isSome_iff_exists.mp h.top
  obtain ⟨r, hr⟩ := State.topJava?_eq_some.mp hg
  have hr' : (s.setVm vm').frames = .java g₀ :: r := hr
  rw [State.setTop_of_frames _ hr'] at hrest
  have e1 : ∀ (u : State) (F G : List Frame), ((u.setFrames F).setVm vm').setFrames G = (u.setVm vm').setFrames G := by
    intro u F G
    have q : (u.setFrames F).setVm vm' = (u.setVm vm').setFrames F := rfl
    rw [q, State.setFrames_setFrames]
  rw [hr, List.tail_cons, State.pushFrame, e1, State.setTop_of_frames _ hr, e1]
  exact hrest
/-- caught: by the first row of the table, or by the second where the first one's class is no kin; the handler keeps the thing in a local that nobody reads -/
theorem x_catch {g : MG} {sc : MS} {M : MM} {d w pc : Nat} {lv : ML} {h : List MC} {mc ms : Nat} {Q : MO → List MC → Prop} {E nm : String} {k9 : Fin 4} {i : Nat} (pre : List ExceptionTableEntry) (x : ExceptionTableEntry) (suf : List ExceptionTableEntry) (hsplit : tableOf M.2.2.2.2 = pre ++ x :: suf)
    (hpass : ∀ z ∈ pre, covers z pc = true ∧ z.catchType ≠ 0 ∧ ∃ nm : String, Cond.classLink M.1.cls z.catchType nm ∈ m_Ts ∧ (E, nm) ∈ m_ncs) (hx9 : covers x pc = true) (h0 : x.catchType ≠ 0) (hlink : Cond.classLink M.1.cls x.catchType nm ∈ m_Ts) (hcast : (E, nm) ∈ m_cas)
    (hd : decode M.2.1 x.handlerPc = .ok (.astore_n k9, 1)) (hi : (k9 : Nat) = i) (hn : i < M.2.2.1) {lv2 : ML} (hlv2 : lv.filter (fun q => !(q.1 == i) && !(q.1 + 1 == i && m_cat q.2 == 2)) = lv2) (kk : Ev g sc M d w (x.handlerPc + 1) lv2 [] h mc ms Q) : Ex g sc M d w pc lv h mc ms Q E := by
  intro p e R s m args below meth c A al0 H locs cells slots CT ST ls ws LV VS q9 ce hF hSt hsc hR h1 h2 h3 h4 hA hK hP hD hS hW hal hls hlv hce hcv hcl
  obtain ⟨hx, hb, hr, hlk, hml, hown, hts, hnm, htb⟩ := id hF
  subst hlv2
  intro T hT X
  have hpl : e.platform.magicAccessors = ({} : Platform).magicAccessors := by rw [X.admits.platform]
  have hobj : ce.vm.isStatics = false := by rw [hcv]; rfl
  obtain ⟨k0, hk0, -⟩ := Vm.findClass_spec hcl
  -- the search, from any tables that are warmer
  have hgo : ∀ (ps : List ExceptionTableEntry), (∀ z ∈ ps, z ∈ pre) → ∀ (S : State), s.WarmedH S.vm → S.heap[q9]? = some ce → ∃ vm', s.WarmedH vm' ∧ ∀ (Q9 : Handler → Pre) (E9 : CtlPost) (d9 : Bool) (acts : List Action), wp (findHandler.go (F0 m pc ls VS) q9 (ps ++ x :: suf)) Q9 E9 e d9 acts S ↔ Q9 (.found x.handlerPc) d9 acts (S.setVm vm') := by
    intro ps
    induction ps with
    | nil =>
      intro _ S hW9 hce9
      obtain ⟨c3, c4, hc3, hc4, hasg⟩ := hSt.2.2.2.2.2.2.2.1 _ hcast
      have hc3' : s.vm.findClass E = some c3 := hc3
      have hc4' : s.vm.findClass nm = some c4 := hc4
      cases Option.some.inj (hc3'.symm.trans hcl)
      obtain ⟨c5, hc5, hcl5⟩ := Cond.classLink_spec hown (hts _ hlink) e.platform hpl
      cases Option.some.inj (hc4'.symm.trans hc5)
      obtain ⟨dk, _, _, kt, hd9, _, _, _, _, hkt, _, hopen⟩ := hcl5.here
      obtain ⟨k1, hk1, -⟩ := hW9.alike.2.2 _ _ hk0
      obtain ⟨k2, hk2, -⟩ := hW9.alike.2.2 _ _ hkt
      refine ⟨_, hW9.noted hd9 hopen (State.rightAt_cls hcl5), fun Q9 E9 d9 acts => ?_⟩
      rw [List.nil_append, m_row (f := F0 m pc ls VS) hx9 h0 (hW9.classLinks hcl5) hce9 hobj ⟨k1, hk1⟩ ⟨k2, hk2⟩, if_pos (by rw [hW9.alike.assignable]; exact hasg)]
    | cons y ys ih =>
      intro hmem S hW9 hce9
      obtain ⟨hcov, hy0, nm2, hl2, hn2⟩ := hpass y (hmem y List.mem_cons_self)
      obtain ⟨c6, t6, hc6, ht6, hno⟩ := hSt.2.2.2.2.2.2.1 _ hn2
      have hc6' : s.vm.findClass E = some c6 := hc6
      cases Option.some.inj (hc6'.symm.trans hcl)
      obtain ⟨c5, hc5, hcl5⟩ := Cond.classLink_spec hown (hts _ hl2) e.platform hpl
      have ht6' : s.vm.findClass nm2 = some t6 := ht6
      cases Option.some.inj (ht6'.symm.trans hc5)
      obtain ⟨dk, _, _, kt, hd9, _, _, _, _, hkt, _, hopen⟩ := hcl5.here
      obtain ⟨k1, hk1, -⟩ := hW9.alike.2.2 _ _ hk0
      obtain ⟨k2, hk2, -⟩ := hW9.alike.2.2 _ _ hkt
      obtain ⟨vm', hW', hq⟩ := ih (fun z hz => hmem z (List.mem_cons_of_mem _ hz)) (S.setVm (S.vm.noted m.cls y.catchType (.cls t6))) (hW9.noted hd9 hopen (State.rightAt_cls hcl5)) hce9
      refine ⟨vm', hW', fun Q9 E9 d9 acts => ?_⟩
      rw [List.cons_append, m_row (f := F0 m pc ls VS) hcov hy0 (hW9.classLinks hcl5) hce9 hobj ⟨k1, hk1⟩ ⟨k2, hk2⟩, if_neg (by rw [hW9.alike.assignable, hno]; exact Bool.false_ne_true)]
      exact hq Q9 E9 d9 acts
  obtain ⟨vm', hW', hq⟩ := hgo pre (fun _ h9 => h9) ((T.setTop (F0 m pc ls VS)).pushFrame (.throwing q9)) X.warmed (by show T.heap[q9]? = _; rw [hT]; exact hce)
  have XV : Stand p g.1 e R s m args below meth c (T.setVm vm') locs cells slots := X.noted hW'
  have K : W p g.1 e R s m args below meth c H locs cells slots (m_Z g Q al0 A CT ST below s) (F0 m x.handlerPc ls [.ref q9]) := by
    refine lv_astore_n hx hb hd hi hls hn rfl (fun ls9 hls9 => ?_)
    exact kk p e R s m args below meth c A al0 H locs cells slots CT ST _ _ _ _ hF hSt hsc hR h1 h2 h3 h4 hA hK hP hD hS hW hal ⟨hls9.1, hls9.2.1, fun z hz => hls9.2.2 z (List.mem_cons_of_mem _ hz)⟩ hlv.filt m_vs.nil
  obtain ⟨t, a1, b1⟩ := K (T.setVm vm') hT XV
  refine ⟨t, m_caught (g := F0 m pc ls VS) X.here (vm' := vm') (pc := x.handlerPc) (fun Q9 E9 d9 acts => ?_) a1, b1⟩
  rw [Jvm.W.findHandler_eq (s := (T.setTop (F0 m pc ls VS)).pushFrame (.throwing q9)) (f := F0 m pc ls VS) (meth := meth) (code := c) X.method' X.code, htb, hsplit]
  exact hq Q9 E9 d9 acts
end
section
theorem e_mmax {g : MG} {sc : MS} {M : MM} {d w pc : Nat} {lv : ML} {st : List MV} {h : List MC} {mc ms : Nat} {Q : MO → List MC → Prop} {i : Nat} {x y : Int32} (hd : decode M.2.1 pc = .ok (.invokestatic i, 3)) (hl : Cond.methodLink M.1.cls i Lib.Math.max.name ∈ m_Ts) (hs : Cond.static Lib.Math.max.name ∈ m_Ts) (hi : Cond.initialized "java/lang/Math" ∈ m_Ts) (hc : Cond.code Lib.Math.max.name Lib.Math.max.code 2 (some .int) ∈ m_Ts) (h8 : (st.map m_cat).sum ≤ 8) (hd1 : 1 ≤ d) (hw1 : 21 ≤ w) (kk : Ev g sc M d w (pc + 3) lv (mi (if x < y then y else x) :: st) h mc ms Q) : Ev g sc M d w pc lv (mi y :: mi x :: st) h mc ms Q := by
  intro p e R s m args below meth c A al0 H locs cells slots CT ST ls ws LV VS hF hSt hsc hR h1 h2 h3 h4 hA hK hP hD hS hW hal hls hlv hst
  obtain ⟨hx, hb, hr, hlk, hml, hown, hts, hnm, htb⟩ := id hF
  obtain ⟨V0, VS0, rfl, hV0, hst1⟩ := hst.inv
  obtain ⟨V1, VS1, rfl, hV1, hst2⟩ := hst1.inv
  cases hV0
  cases hV1
  have q1 := hR.1
  have q2 := hR.2
  have q3 := hst2.cats
  exact va_mmax hx hb (by rw [hml]; exact hls.1.symm) hown (hts _ hl) (hts _ hs) (hts _ hi) (hts _ hc) (by omega) (by rw [q3]; omega) (by omega) (by omega) hd (kk p e R s m args below meth c A al0 H locs cells slots CT ST _ _ _ _ hF hSt hsc hR h1 h2 h3 h4 hA hK hP hD hS hW hal hls hlv (m_vs.cons rfl hst2))
theorem e_mmin {g : MG} {sc : MS} {M : MM} {d w pc : Nat} {lv : ML} {st : List MV} {h : List MC} {mc ms : Nat} {Q : MO → List MC → Prop} {i : Nat} {x y : Int32} (hd : decode M.2.1 pc = .ok (.invokestatic i, 3)) (hl : Cond.methodLink M.1.cls i Lib.Math.min.name ∈ m_Ts) (hs : Cond.static Lib.Math.min.name ∈ m_Ts) (hi : Cond.initialized "java/lang/Math" ∈ m_Ts) (hc : Cond.code Lib.Math.min.name Lib.Math.min.code 2 (some .int) ∈ m_Ts) (h8 : (st.map m_cat).sum ≤ 8) (hd1 : 1 ≤ d) (hw1 : 21 ≤ w) (kk : Ev g sc M d w (pc + 3) lv (mi (if y < x then y else x) :: st) h mc ms Q) : Ev g sc M d w pc lv (mi y :: mi x :: st) h mc ms Q := by
  intro p e R s m args below meth c A al0 H locs cells slots CT ST ls ws LV VS hF hSt hsc hR h1 h2 h3 h4 hA hK hP hD hS hW hal hls hlv hst
  obtain ⟨hx, hb, hr, hlk, hml, hown, hts, hnm, htb⟩ := id hF
  obtain ⟨V0, VS0, rfl, hV0, hst1⟩ := hst.inv
  obtain ⟨V1, VS1, rfl, hV1, hst2⟩ := hst1.inv
  cases hV0
  cases hV1
  have q1 := hR.1
  have q2 := hR.2
  have q3 := hst2.cats
  exact va_mmin hx hb (by rw [hml]; exact hls.1.symm) hown (hts _ hl) (hts _ hs) (hts _ hi) (hts _ hc) (by omega) (by rw [q3]; omega) (by omega) (by omega) hd (kk p e R s m args below meth c A al0 H locs cells slots CT ST _ _ _ _ hF hSt hsc hR h1 h2 h3 h4 hA hK hP hD hS hW hal hls hlv (m_vs.cons rfl hst2))
theorem e_copyi {g : MG} {sc : MS} {M : MM} {d w pc : Nat} {lv : ML} {st : List MV} {h : List MC} {mc ms : Nat} {Q : MO → List MC → Prop} {i r0 r1 n0 n1 : Nat} {f f1 : Nat → Int32} {sp dp n : Int32} (hd : decode M.2.1 pc = .ok (.invokestatic i, 3)) (hl : Cond.methodLink M.1.cls i arraycopyName ∈ m_Ts) (hnat : Cond.native arraycopyName ∈ m_Ts) (hs : Cond.static arraycopyName ∈ m_Ts) (hi : Cond.initialized "java/lang/System" ∈ m_Ts) (ho : h[r0]? = some (cI n0 f)) (ho1 : h[r1]? = some (cI n1 f1)) (g1 : ¬ sp < 0) (g2 : ¬ dp < 0) (g3 : ¬ n < 0) (g4 : sp.toNatClampNeg + n.toNatClampNeg ≤ n0) (g5 : dp.toNatClampNeg + n.toNatClampNeg ≤ n1) (h8 : (st.map m_cat).sum ≤ 8) (hd1 : 1 ≤ d) (hw1 : 8 + (nativeFrameWords "java/lang/System" "arraycopy" 5 + 11) ≤ w) (kk : Ev g sc M d w (pc + 3) lv st (h.set r1 (cI n1 (va_cpy f f1 sp.toNatClampNeg dp.toNatClampNeg n.toNatClampNeg))) mc ms Q) : Ev g sc M d w pc lv (mi n :: mi dp :: mr r1 :: mi sp :: mr r0 :: st) h mc ms Q := by
  intro p e R s m args below meth c A al0 H locs cells slots CT ST ls ws LV VS hF hSt hsc hR h1 h2 h3 h4 hA hK hP hD hS hW hal hls hlv hst
  obtain ⟨hx, hb, hr, hlk, hml, hown, hts, hnm, htb⟩ := id hF
  obtain ⟨V0, VS0, rfl, hV0, hst1⟩ := hst.inv
  obtain ⟨V1, VS1, rfl, hV1, hst2⟩ := hst1.inv
  obtain ⟨V2, VS2, rfl, hV2, hst3⟩ := hst2.inv
  obtain ⟨V3, VS3, rfl, hV3, hst4⟩ := hst3.inv
  obtain ⟨V4, VS4, rfl, hV4, hst5⟩ := hst4.inv
  cases hV0
  cases hV1
  cases hV3
  obtain ⟨a1, e1, rfl, hw1', hc1⟩ := m_ref hW ho1 hV2
  obtain rfl := m_c_i hc1
  obtain ⟨a0, e0, rfl, hw0', hc0⟩ := m_ref hW ho hV4
  obtain rfl := m_c_i hc0
  have q1 := hR.1
  have q2 := hR.2
  have q3 := hst5.cats
  refine va_copyi hx hb (by rw [hml]; exact hls.1.symm) hown (hts _ hl) (hts _ hnat) (hts _ hs) (hts _ hi) hK hP hD hS r0 r1 0 0 hw0' hw1' rfl rfl rfl g1 g2 g3 g4 g5 (fun _ _ => rfl) (by omega) (by rw [q3]; omega) hd (fun H9 locs9 hP9 hD9 hS9 => ?_)
  exact kk p e R s m args below meth c A al0 H9 locs9 cells slots CT ST _ _ _ _ hF hSt hsc hR h1 h2 h3 h4 hA hK hP9 hD9 hS9 (hW.set hw1' rfl) (by rw [m_al_set hw1']; exact hal) hls (by rw [m_al_set hw1']; exact hlv) (by rw [m_al_set hw1']; exact hst5)
end
section
/-! FACTS of the tables: methods, fields, makings, links. Written by wip/whole/gen_facts.py. -/
theorem m_sub {ws : List Cond} (h : ws.all (fun w => decide (w ∈ lw_tbl) && goodWord w) = true) : ∀ w ∈ ws, w ∈ m_Ts := by
  intro w hw
  have h1 := List.all_eq_true.mp h w hw
  simp only [Bool.and_eq_true, decide_eq_true_eq] at h1
  exact List.mem_filter.mpr h1
/-- which words of a throw the tables hold -/
def m_twb (w : Cond) : Bool := (decide (w ∈ lw_tbl) && goodWord w) || m_cas.any (fun q => decide (w = .castable q.1 q.2)) || m_decl.any (fun y => decide (w = .declares y)) || decide (w = .isRef (.static Bundle.tN "UNASSIGNED_STACK" Bundle.steD)) || decide (w = .isRef (.static Bundle.tN "SUPPRESSED_SENTINEL" Bundle.listD)) || decide (w = .laysStatic Bundle.tN "UNASSIGNED_STACK" Bundle.steD) || decide (w = .laysStatic Bundle.tN "SUPPRESSED_SENTINEL" Bundle.listD)
theorem m_tw_of {own : String} {ik is ic : Nat} {cls text : String} {names : List String} (h1 : Bundle.fit cls = true) (h2 : ∀ n ∈ names, Bundle.fit n = true) (h3 : Cond.classLink own ik cls ∈ m_Ts) (h4 : Cond.initialized cls ∈ m_Ts) (h5 : (own, is, text) ∈ m_strs) (h6 : (Bundle.ownAtoms own ic cls names).all m_twb = true) : m_tw own ik is ic cls text names := by
  refine ⟨⟨h1, h2⟩, h3, h4, h5, fun w hw => ?_⟩
  have h7 := List.all_eq_true.mp h6 w hw
  simp only [m_twb, Bool.or_eq_true, Bool.and_eq_true, decide_eq_true_eq, List.any_eq_true] at h7
  rcases h7 with (((((h7 | ⟨q, hq, h7⟩) | ⟨y, hy, h7⟩) | h7) | h7) | h7) | h7
  · exact Or.inl (Or.inl (List.mem_filter.mpr h7))
  · exact Or.inl (Or.inr (Or.inl ⟨q, hq, h7⟩))
  · exact Or.inl (Or.inr (Or.inr ⟨y, hy, h7⟩))
  · exact Or.inr (Or.inl h7)
  · exact Or.inr (Or.inr (Or.inl h7))
  · exact Or.inr (Or.inr (Or.inr (Or.inl h7)))
  · exact Or.inr (Or.inr (Or.inr (Or.inr h7)))
theorem u_H : ∀ w ∈ u_ws "HoleFiller" tfH 9, w ∈ m_Ts := m_sub (by decide +kernel)
def tyH : Nat → FieldType := fun k => match k with
  | 0 => .object "HoleFiller$Operations"
  | 1 => .object "HoleFiller$Holes"
  | 2 => .array (.object "HoleFiller$Slot")
  | 3 => .object "HoleFiller$Cursor"
  | 4 => .object "HoleFiller$Cursor"
  | 5 => .object "HoleFiller$Unifier"
  | 6 => .object "HoleFiller$Reader"
  | 7 => .int
  | _ => .int
theorem tyH_ok : ∀ k, k < 9 → parseFieldDescriptor (tfH k).2.2.1 = some (tyH k) := by decide +kernel
theorem nmH : ∀ a, a < 9 → ∀ b, b < 9 → a ≠ b → (tfH a).2.1 ≠ (tfH b).2.1 := by decide +kernel
theorem u_C : ∀ w ∈ u_ws "HoleFiller$Cells" tfC 3, w ∈ m_Ts := m_sub (by decide +kernel)
def tyC : Nat → FieldType := fun k => match k with
  | 0 => .array .int
  | 1 => .array .int
  | _ => .int
theorem tyC_ok : ∀ k, k < 3 → parseFieldDescriptor (tfC k).2.2.1 = some (tyC k) := by decide +kernel
theorem nmC : ∀ a, a < 3 → ∀ b, b < 3 → a ≠ b → (tfC a).2.1 ≠ (tfC b).2.1 := by decide +kernel
theorem u_U : ∀ w ∈ u_ws "HoleFiller$Cursor" tfU 12, w ∈ m_Ts := m_sub (by decide +kernel)
def tyU : Nat → FieldType := fun k => match k with
  | 0 => .object "HoleFiller$Cells"
  | 1 => .object "HoleFiller$Holes"
  | 2 => .array .int
  | 3 => .array .int
  | 4 => .array .int
  | 5 => .array .int
  | 6 => .int
  | 7 => .int
  | 8 => .int
  | 9 => .int
  | 10 => .array .int
  | _ => .int
theorem tyU_ok : ∀ k, k < 12 → parseFieldDescriptor (tfU k).2.2.1 = some (tyU k) := by decide +kernel
theorem nmU : ∀ a, a < 12 → ∀ b, b < 12 → a ≠ b → (tfU a).2.1 ≠ (tfU b).2.1 := by decide +kernel
theorem u_G : ∀ w ∈ u_ws "HoleFiller$Holes" tfG 9, w ∈ m_Ts := m_sub (by decide +kernel)
def tyG : Nat → FieldType := fun k => match k with
  | 0 => .object "HoleFiller$Cells"
  | 1 => .array .int
  | 2 => .array .int
  | 3 => .array .int
  | 4 => .array .int
  | 5 => .array .int
  | 6 => .int
  | 7 => .int
  | _ => .int
theorem tyG_ok : ∀ k, k < 9 → parseFieldDescriptor (tfG k).2.2.1 = some (tyG k) := by decide +kernel
theorem nmG : ∀ a, a < 9 → ∀ b, b < 9 → a ≠ b → (tfG a).2.1 ≠ (tfG b).2.1 := by decide +kernel
theorem u_O : ∀ w ∈ u_ws "HoleFiller$Operations" tfO 3, w ∈ m_Ts := m_sub (by decide +kernel)
def tyO : Nat → FieldType := fun k => match k with
  | 0 => .array .int
  | 1 => .array .int
  | _ => .int
theorem tyO_ok : ∀ k, k < 3 → parseFieldDescriptor (tfO k).2.2.1 = some (tyO k) := by decide +kernel
theorem nmO : ∀ a, a < 3 → ∀ b, b < 3 → a ≠ b → (tfO a).2.1 ≠ (tfO b).2.1 := by decide +kernel
theorem u_R : ∀ w ∈ u_ws "HoleFiller$Reader" tfR 5, w ∈ m_Ts := m_sub (by decide +kernel)
def tyR : Nat → FieldType := fun k => match k with
  | 0 => .array .int
  | 1 => .int
  | 2 => .int
  | 3 => .array .int
  | _ => .array .int
theorem tyR_ok : ∀ k, k < 5 → parseFieldDescriptor (tfR k).2.2.1 = some (tyR k) := by decide +kernel
theorem nmR : ∀ a, a < 5 → ∀ b, b < 5 → a ≠ b → (tfR a).2.1 ≠ (tfR b).2.1 := by decide +kernel
theorem u_S : ∀ w ∈ u_ws "HoleFiller$Slot" tfS 10, w ∈ m_Ts := m_sub (by decide +kernel)
def tyS : Nat → FieldType := fun k => match k with
  | 0 => .object "HoleFiller$Cells"
  | 1 => .int
  | 2 => .array .int
  | 3 => .int
  | 4 => .int
  | 5 => .int
  | 6 => .int
  | 7 => .int
  | 8 => .int
  | _ => .int
theorem tyS_ok : ∀ k, k < 10 → parseFieldDescriptor (tfS k).2.2.1 = some (tyS k) := by decide +kernel
theorem nmS : ∀ a, a < 10 → ∀ b, b < 10 → a ≠ b → (tfS a).2.1 ≠ (tfS b).2.1 := by decide +kernel
theorem u_N : ∀ w ∈ u_ws "HoleFiller$Unifier" tfN 9, w ∈ m_Ts := m_sub (by decide +kernel)
def tyN : Nat → FieldType := fun k => match k with
  | 0 => .object "HoleFiller$Cells"
  | 1 => .object "HoleFiller$Holes"
  | 2 => .object "HoleFiller$Operations"
  | 3 => .object "HoleFiller$Cursor"
  | 4 => .object "HoleFiller$Cursor"
  | 5 => .object "HoleFiller$Cursor"
  | 6 => .array .int
  | 7 => .array .int
  | _ => .int
theorem tyN_ok : ∀ k, k < 9 → parseFieldDescriptor (tfN k).2.2.1 = some (tyN k) := by decide +kernel
theorem nmN : ∀ a, a < 9 → ∀ b, b < 9 → a ≠ b → (tfN a).2.1 ≠ (tfN b).2.1 := by decide +kernel
theorem u_D : ∀ w ∈ u_ws "HoleFillerModel" tfD 40, w ∈ m_Ts := m_sub (by decide +kernel)
def tyD : Nat → FieldType := fun k => match k with
  | 0 => .int
  | 1 => .int
  | 2 => .int
  | 3 => .int
  | 4 => .array .int
  | 5 => .array .int
  | 6 => .array .int
  | 7 => .array .int
  | 8 => .array .int
  | 9 => .array .boolean
  | 10 => .array .boolean
  | 11 => .array .int
  | 12 => .array .int
  | 13 => .array .int
  | 14 => .array .int
  | 15 => .array .int
  | 16 => .array .int
  | 17 => .array .int
  | 18 => .array .boolean
  | 19 => .array .int
  | 20 => .array .int
  | 21 => .array .int
  | 22 => .array .int
  | 23 => .array .int
  | 24 => .array .int
  | 25 => .array .int
  | 26 => .array .int
  | 27 => .array .int
  | 28 => .array .int
  | 29 => .int
  | 30 => .int
  | 31 => .int
  | 32 => .array .int
  | 33 => .array .int
  | 34 => .array .int
  | 35 => .array .int
  | 36 => .int
  | 37 => .int
  | 38 => .int
  | _ => .int
theorem tyD_ok : ∀ k, k < 40 → parseFieldDescriptor (tfD k).2.2.1 = some (tyD k) := by decide +kernel
theorem nmD : ∀ a, a < 40 → ∀ b, b < 40 → a ≠ b → (tfD a).2.1 ≠ (tfD b).2.1 := by decide +kernel
def M_H_init : MM := (⟨"HoleFiller", "<init>", "()V"⟩, prog_1_method_1_code, 3, none, [])
theorem me_H_init : m_me M_H_init 0 := ⟨m_mem (i := 72) (by decide +kernel) rfl, by decide +kernel, by decide +kernel, by decide +kernel, m_mem (i := 50) (by decide +kernel) rfl⟩
def M_Ob_init : MM := (⟨"java/lang/Object", "<init>", "()V"⟩, object_method_1_code, 1, none, [])
def M_C_init : MM := (⟨"HoleFiller$Cells", "<init>", "()V"⟩, prog_2_method_1_code, 1, none, [])
theorem me_C_init : m_me M_C_init 0 := ⟨m_mem (i := 80) (by decide +kernel) rfl, by decide +kernel, by decide +kernel, by decide +kernel, m_mem (i := 51) (by decide +kernel) rfl⟩
def M_O_init : MM := (⟨"HoleFiller$Operations", "<init>", "()V"⟩, prog_5_method_1_code, 1, none, [])
theorem me_O_init : m_me M_O_init 0 := ⟨m_mem (i := 99) (by decide +kernel) rfl, by decide +kernel, by decide +kernel, by decide +kernel, m_mem (i := 52) (by decide +kernel) rfl⟩
def M_G_init : MM := (⟨"HoleFiller$Holes", "<init>", "(LHoleFiller$Cells;)V"⟩, prog_4_method_1_code, 2, none, [])
theorem me_G_init : m_me M_G_init 1 := ⟨m_mem (i := 116) (by decide +kernel) rfl, by decide +kernel, by decide +kernel, by decide +kernel, m_mem (i := 53) (by decide +kernel) rfl⟩
def M_S_init : MM := (⟨"HoleFiller$Slot", "<init>", "(LHoleFiller$Cells;I)V"⟩, prog_7_method_1_code, 3, none, [])
theorem me_S_init : m_me M_S_init 2 := ⟨m_mem (i := 159) (by decide +kernel) rfl, by decide +kernel, by decide +kernel, by decide +kernel, m_mem (i := 54) (by decide +kernel) rfl⟩
def M_U_init : MM := (⟨"HoleFiller$Cursor", "<init>", "(LHoleFiller$Cells;LHoleFiller$Holes;)V"⟩, prog_3_method_1_code, 3, none, [])
theorem me_U_init : m_me M_U_init 2 := ⟨m_mem (i := 200) (by decide +kernel) rfl, by decide +kernel, by decide +kernel, by decide +kernel, m_mem (i := 55) (by decide +kernel) rfl⟩
def M_N_init : MM := (⟨"HoleFiller$Unifier", "<init>", "(LHoleFiller$Cells;LHoleFiller$Holes;LHoleFiller$Operations;LHoleFiller$Cursor;LHoleFiller$Cursor;)V"⟩, prog_8_method_1_code, 6, none, [])
theorem me_N_init : m_me M_N_init 5 := ⟨m_mem (i := 252) (by decide +kernel) rfl, by decide +kernel, by decide +kernel, by decide +kernel, m_mem (i := 56) (by decide +kernel) rfl⟩
def M_R_init : MM := (⟨"HoleFiller$Reader", "<init>", "()V"⟩, prog_6_method_1_code, 1, none, [])
theorem me_R_init : m_me M_R_init 0 := ⟨m_mem (i := 288) (by decide +kernel) rfl, by decide +kernel, by decide +kernel, by decide +kernel, m_mem (i := 57) (by decide +kernel) rfl⟩
def M_H_empty : MM := (⟨"HoleFiller", "empty", "()I"⟩, prog_1_method_12_code, 3, (Option.some FieldType.int), [])
theorem me_H_empty : m_me M_H_empty 0 := ⟨m_mem (i := 340) (by decide +kernel) rfl, by decide +kernel, by decide +kernel, by decide +kernel, m_mem (i := 50) (by decide +kernel) rfl⟩
def M_G_isOpen : MM := (⟨"HoleFiller$Holes", "isOpen", "(I)Z"⟩, prog_4_method_4_code, 2, (Option.some FieldType.boolean), [])
theorem me_G_isOpen : m_me M_G_isOpen 1 := ⟨m_mem (i := 344) (by decide +kernel) rfl, by decide +kernel, by decide +kernel, by decide +kernel, m_mem (i := 53) (by decide +kernel) rfl⟩
def M_H_at : MM := (⟨"HoleFiller", "at", "([II)I"⟩, prog_1_method_20_code, 2, (Option.some FieldType.int), [])
theorem me_H_at : m_me M_H_at 2 := ⟨m_mem (i := 347) (by decide +kernel) rfl, by decide +kernel, by decide +kernel, by decide +kernel, m_mem (i := 50) (by decide +kernel) rfl⟩
def M_G_undoTo : MM := (⟨"HoleFiller$Holes", "undoTo", "(II)V"⟩, prog_4_method_8_code, 5, none, [])
theorem me_G_undoTo : m_me M_G_undoTo 2 := ⟨m_mem (i := 351) (by decide +kernel) rfl, by decide +kernel, by decide +kernel, by decide +kernel, m_mem (i := 53) (by decide +kernel) rfl⟩
def M_H_set : MM := (⟨"HoleFiller", "set", "([III)V"⟩, prog_1_method_21_code, 3, none, [])
theorem me_H_set : m_me M_H_set 3 := ⟨m_mem (i := 354) (by decide +kernel) rfl, by decide +kernel, by decide +kernel, by decide +kernel, m_mem (i := 50) (by decide +kernel) rfl⟩
def M_H_count : MM := (⟨"HoleFiller", "count", "(I)I"⟩, prog_1_method_13_code, 2, (Option.some FieldType.int), [])
theorem me_H_count : m_me M_H_count 1 := ⟨m_mem (i := 358) (by decide +kernel) rfl, by decide +kernel, by decide +kernel, by decide +kernel, m_mem (i := 50) (by decide +kernel) rfl⟩
def M_H_operation : MM := (⟨"HoleFiller", "operation", "(III)I"⟩, prog_1_method_2_code, 4, (Option.some FieldType.int), [])
theorem me_H_operation : m_me M_H_operation 3 := ⟨m_mem (i := 366) (by decide +kernel) rfl, by decide +kernel, by decide +kernel, by decide +kernel, m_mem (i := 50) (by decide +kernel) rfl⟩
def M_H_mayBind : MM := (⟨"HoleFiller", "mayBind", "(I)Z"⟩, prog_1_method_14_code, 1, (Option.some FieldType.boolean), [])
theorem me_H_mayBind : m_me M_H_mayBind 1 := ⟨m_mem (i := 369) (by decide +kernel) rfl, by decide +kernel, by decide +kernel, by decide +kernel, m_mem (i := 50) (by decide +kernel) rfl⟩
def M_O_tell : MM := (⟨"HoleFiller$Operations", "tell", "(III)I"⟩, prog_5_method_2_code, 5, (Option.some FieldType.int), [])
theorem me_O_tell : m_me M_O_tell 3 := ⟨m_mem (i := 442) (by decide +kernel) rfl, by decide +kernel, by decide +kernel, by decide +kernel, m_mem (i := 52) (by decide +kernel) rfl⟩
def M_O_addArgument : MM := (⟨"HoleFiller$Operations", "addArgument", "(II)V"⟩, prog_5_method_3_code, 4, none, [])
theorem me_O_addArgument : m_me M_O_addArgument 2 := ⟨m_mem (i := 446) (by decide +kernel) rfl, by decide +kernel, by decide +kernel, by decide +kernel, m_mem (i := 52) (by decide +kernel) rfl⟩
def M_O_arityOf : MM := (⟨"HoleFiller$Operations", "arityOf", "(I)I"⟩, prog_5_method_4_code, 2, (Option.some FieldType.int), [])
theorem me_O_arityOf : m_me M_O_arityOf 1 := ⟨m_mem (i := 450) (by decide +kernel) rfl, by decide +kernel, by decide +kernel, by decide +kernel, m_mem (i := 52) (by decide +kernel) rfl⟩
def M_H_hole : MM := (⟨"HoleFiller", "hole", "(I)I"⟩, prog_1_method_3_code, 2, (Option.some FieldType.int), [])
theorem me_H_hole : m_me M_H_hole 1 := ⟨m_mem (i := 459) (by decide +kernel) rfl, by decide +kernel, by decide +kernel, by decide +kernel, m_mem (i := 50) (by decide +kernel) rfl⟩
def M_G_tell : MM := (⟨"HoleFiller$Holes", "tell", "(I)I"⟩, prog_4_method_2_code, 2, (Option.some FieldType.int), [])
theorem me_G_tell : m_me M_G_tell 1 := ⟨m_mem (i := 464) (by decide +kernel) rfl, by decide +kernel, by decide +kernel, by decide +kernel, m_mem (i := 53) (by decide +kernel) rfl⟩
def M_H_begin : MM := (⟨"HoleFiller", "begin", "(II)I"⟩, prog_1_method_4_code, 4, (Option.some FieldType.int), [])
theorem me_H_begin : m_me M_H_begin 2 := ⟨m_mem (i := 471) (by decide +kernel) rfl, by decide +kernel, by decide +kernel, by decide +kernel, m_mem (i := 50) (by decide +kernel) rfl⟩
def M_H_slotAt : MM := (⟨"HoleFiller", "slotAt", "(I)LHoleFiller$Slot;"⟩, prog_1_method_15_code, 3, (Option.some (FieldType.object "HoleFiller$Slot")), [])
theorem me_H_slotAt : m_me M_H_slotAt 1 := ⟨m_mem (i := 475) (by decide +kernel) rfl, by decide +kernel, by decide +kernel, by decide +kernel, m_mem (i := 50) (by decide +kernel) rfl⟩
def M_S_restart : MM := (⟨"HoleFiller$Slot", "restart", "(I)V"⟩, prog_7_method_2_code, 2, none, [])
theorem me_S_restart : m_me M_S_restart 1 := ⟨m_mem (i := 481) (by decide +kernel) rfl, by decide +kernel, by decide +kernel, by decide +kernel, m_mem (i := 54) (by decide +kernel) rfl⟩
def M_S_itemsDue : MM := (⟨"HoleFiller$Slot", "itemsDue", "()I"⟩, prog_7_method_3_code, 1, (Option.some FieldType.int), [])
theorem me_S_itemsDue : m_me M_S_itemsDue 0 := ⟨m_mem (i := 486) (by decide +kernel) rfl, by decide +kernel, by decide +kernel, by decide +kernel, m_mem (i := 54) (by decide +kernel) rfl⟩
def M_H_put : MM := (⟨"HoleFiller", "put", "(III)I"⟩, prog_1_method_5_code, 5, (Option.some FieldType.int), [])
theorem me_H_put : m_me M_H_put 3 := ⟨m_mem (i := 494) (by decide +kernel) rfl, by decide +kernel, by decide +kernel, by decide +kernel, m_mem (i := 50) (by decide +kernel) rfl⟩
def M_H_mayStand : MM := (⟨"HoleFiller", "mayStand", "(LHoleFiller$Slot;II)Z"⟩, prog_1_method_16_code, 4, (Option.some FieldType.boolean), [])
theorem me_H_mayStand : m_me M_H_mayStand 3 := ⟨m_mem (i := 514) (by decide +kernel) rfl, by decide +kernel, by decide +kernel, by decide +kernel, m_mem (i := 50) (by decide +kernel) rfl⟩
def M_S_mayTakeVariable : MM := (⟨"HoleFiller$Slot", "mayTakeVariable", "(I)Z"⟩, prog_7_method_8_code, 3, (Option.some FieldType.boolean), [])
theorem me_S_mayTakeVariable : m_me M_S_mayTakeVariable 1 := ⟨m_mem (i := 518) (by decide +kernel) rfl, by decide +kernel, by decide +kernel, by decide +kernel, m_mem (i := 54) (by decide +kernel) rfl⟩
def M_S_variablesHere : MM := (⟨"HoleFiller$Slot", "variablesHere", "()I"⟩, prog_7_method_6_code, 1, (Option.some FieldType.int), [])
theorem me_S_variablesHere : m_me M_S_variablesHere 0 := ⟨m_mem (i := 522) (by decide +kernel) rfl, by decide +kernel, by decide +kernel, by decide +kernel, m_mem (i := 54) (by decide +kernel) rfl⟩
def M_S_boundHere : MM := (⟨"HoleFiller$Slot", "boundHere", "()I"⟩, prog_7_method_7_code, 1, (Option.some FieldType.int), [])
theorem me_S_boundHere : m_me M_S_boundHere 0 := ⟨m_mem (i := 526) (by decide +kernel) rfl, by decide +kernel, by decide +kernel, by decide +kernel, m_mem (i := 54) (by decide +kernel) rfl⟩
def M_S_isBehindHole : MM := (⟨"HoleFiller$Slot", "isBehindHole", "()Z"⟩, prog_7_method_5_code, 1, (Option.some FieldType.boolean), [])
theorem me_S_isBehindHole : m_me M_S_isBehindHole 0 := ⟨m_mem (i := 530) (by decide +kernel) rfl, by decide +kernel, by decide +kernel, by decide +kernel, m_mem (i := 54) (by decide +kernel) rfl⟩
def M_C_codeAt : MM := (⟨"HoleFiller$Cells", "codeAt", "(I)I"⟩, prog_2_method_2_code, 2, (Option.some FieldType.int), [])
theorem me_C_codeAt : m_me M_C_codeAt 1 := ⟨m_mem (i := 535) (by decide +kernel) rfl, by decide +kernel, by decide +kernel, by decide +kernel, m_mem (i := 51) (by decide +kernel) rfl⟩
def M_H_numberOf : MM := (⟨"HoleFiller", "numberOf", "(I)I"⟩, prog_1_method_24_code, 1, (Option.some FieldType.int), [])
theorem me_H_numberOf : m_me M_H_numberOf 1 := ⟨m_mem (i := 539) (by decide +kernel) rfl, by decide +kernel, by decide +kernel, by decide +kernel, m_mem (i := 50) (by decide +kernel) rfl⟩
def M_H_hasRoom : MM := (⟨"HoleFiller", "hasRoom", "(LHoleFiller$Slot;II)Z"⟩, prog_1_method_17_code, 4, (Option.some FieldType.boolean), [])
theorem me_H_hasRoom : m_me M_H_hasRoom 3 := ⟨m_mem (i := 545) (by decide +kernel) rfl, by decide +kernel, by decide +kernel, by decide +kernel, m_mem (i := 50) (by decide +kernel) rfl⟩
def M_O_mostBound : MM := (⟨"HoleFiller$Operations", "mostBound", "(I)I"⟩, prog_5_method_6_code, 4, (Option.some FieldType.int), [])
theorem me_O_mostBound : m_me M_O_mostBound 1 := ⟨m_mem (i := 550) (by decide +kernel) rfl, by decide +kernel, by decide +kernel, by decide +kernel, m_mem (i := 52) (by decide +kernel) rfl⟩
def M_O_boundBy : MM := (⟨"HoleFiller$Operations", "boundBy", "(II)I"⟩, prog_5_method_5_code, 3, (Option.some FieldType.int), [])
theorem me_O_boundBy : m_me M_O_boundBy 2 := ⟨m_mem (i := 554) (by decide +kernel) rfl, by decide +kernel, by decide +kernel, by decide +kernel, m_mem (i := 52) (by decide +kernel) rfl⟩
def M_Ma_max : MM := (⟨"java/lang/Math", "max", "(II)I"⟩, prog_16_method_65_code, 2, (Option.some FieldType.int), [])
def M_S_takeVariable : MM := (⟨"HoleFiller$Slot", "takeVariable", "(I)V"⟩, prog_7_method_9_code, 3, none, [])
theorem me_S_takeVariable : m_me M_S_takeVariable 1 := ⟨m_mem (i := 561) (by decide +kernel) rfl, by decide +kernel, by decide +kernel, by decide +kernel, m_mem (i := 54) (by decide +kernel) rfl⟩
def M_H_codeOf : MM := (⟨"HoleFiller", "codeOf", "(II)I"⟩, prog_1_method_22_code, 2, (Option.some FieldType.int), [])
theorem me_H_codeOf : m_me M_H_codeOf 2 := ⟨m_mem (i := 564) (by decide +kernel) rfl, by decide +kernel, by decide +kernel, by decide +kernel, m_mem (i := 50) (by decide +kernel) rfl⟩
def M_S_write : MM := (⟨"HoleFiller$Slot", "write", "(II)V"⟩, prog_7_method_12_code, 3, none, [])
theorem me_S_write : m_me M_S_write 2 := ⟨m_mem (i := 568) (by decide +kernel) rfl, by decide +kernel, by decide +kernel, by decide +kernel, m_mem (i := 54) (by decide +kernel) rfl⟩
def M_C_write : MM := (⟨"HoleFiller$Cells", "write", "(III)V"⟩, prog_2_method_4_code, 4, none, [])
theorem me_C_write : m_me M_C_write 3 := ⟨m_mem (i := 572) (by decide +kernel) rfl, by decide +kernel, by decide +kernel, by decide +kernel, m_mem (i := 51) (by decide +kernel) rfl⟩
def M_S_takeOperation : MM := (⟨"HoleFiller$Slot", "takeOperation", "(ILHoleFiller$Operations;)V"⟩, prog_7_method_10_code, 5, none, [])
theorem me_S_takeOperation : m_me M_S_takeOperation 2 := ⟨m_mem (i := 577) (by decide +kernel) rfl, by decide +kernel, by decide +kernel, by decide +kernel, m_mem (i := 54) (by decide +kernel) rfl⟩
def M_G_parametersOf : MM := (⟨"HoleFiller$Holes", "parametersOf", "(I)I"⟩, prog_4_method_5_code, 2, (Option.some FieldType.int), [])
theorem me_G_parametersOf : m_me M_G_parametersOf 1 := ⟨m_mem (i := 583) (by decide +kernel) rfl, by decide +kernel, by decide +kernel, by decide +kernel, m_mem (i := 53) (by decide +kernel) rfl⟩
def M_S_takeHole : MM := (⟨"HoleFiller$Slot", "takeHole", "(II)V"⟩, prog_7_method_11_code, 4, none, [])
theorem me_S_takeHole : m_me M_S_takeHole 2 := ⟨m_mem (i := 587) (by decide +kernel) rfl, by decide +kernel, by decide +kernel, by decide +kernel, m_mem (i := 54) (by decide +kernel) rfl⟩
def M_H_unify : MM := (⟨"HoleFiller", "unify", "(II)I"⟩, prog_1_method_6_code, 6, (Option.some FieldType.int), [])
theorem me_H_unify : m_me M_H_unify 2 := ⟨m_mem (i := 594) (by decide +kernel) rfl, by decide +kernel, by decide +kernel, by decide +kernel, m_mem (i := 50) (by decide +kernel) rfl⟩
def M_H_startBoth : MM := (⟨"HoleFiller", "startBoth", "(II)V"⟩, prog_1_method_18_code, 5, none, [])
theorem me_H_startBoth : m_me M_H_startBoth 2 := ⟨m_mem (i := 598) (by decide +kernel) rfl, by decide +kernel, by decide +kernel, by decide +kernel, m_mem (i := 50) (by decide +kernel) rfl⟩
def M_S_isWhole : MM := (⟨"HoleFiller$Slot", "isWhole", "()Z"⟩, prog_7_method_4_code, 1, (Option.some FieldType.boolean), [])
theorem me_S_isWhole : m_me M_S_isWhole 0 := ⟨m_mem (i := 602) (by decide +kernel) rfl, by decide +kernel, by decide +kernel, by decide +kernel, m_mem (i := 54) (by decide +kernel) rfl⟩
def M_U_startAt : MM := (⟨"HoleFiller$Cursor", "startAt", "(II)V"⟩, prog_3_method_2_code, 3, none, [])
theorem me_U_startAt : m_me M_U_startAt 2 := ⟨m_mem (i := 609) (by decide +kernel) rfl, by decide +kernel, by decide +kernel, by decide +kernel, m_mem (i := 55) (by decide +kernel) rfl⟩
def M_N_solve : MM := (⟨"HoleFiller$Unifier", "solve", "()I"⟩, prog_8_method_2_code, 3, (Option.some FieldType.int), [])
theorem me_N_solve : m_me M_N_solve 0 := ⟨m_mem (i := 614) (by decide +kernel) rfl, by decide +kernel, by decide +kernel, by decide +kernel, m_mem (i := 56) (by decide +kernel) rfl⟩
def M_U_advance : MM := (⟨"HoleFiller$Cursor", "advance", "()Z"⟩, prog_3_method_4_code, 6, (Option.some FieldType.boolean), [])
theorem me_U_advance : m_me M_U_advance 0 := ⟨m_mem (i := 619) (by decide +kernel) rfl, by decide +kernel, by decide +kernel, by decide +kernel, m_mem (i := 55) (by decide +kernel) rfl⟩
def M_U_leaveEnded : MM := (⟨"HoleFiller$Cursor", "leaveEnded", "()V"⟩, prog_3_method_5_code, 1, none, [])
theorem me_U_leaveEnded : m_me M_U_leaveEnded 0 := ⟨m_mem (i := 624) (by decide +kernel) rfl, by decide +kernel, by decide +kernel, by decide +kernel, m_mem (i := 55) (by decide +kernel) rfl⟩
def M_C_boundAt : MM := (⟨"HoleFiller$Cells", "boundAt", "(I)I"⟩, prog_2_method_3_code, 2, (Option.some FieldType.int), [])
theorem me_C_boundAt : m_me M_C_boundAt 1 := ⟨m_mem (i := 629) (by decide +kernel) rfl, by decide +kernel, by decide +kernel, by decide +kernel, m_mem (i := 51) (by decide +kernel) rfl⟩
def M_H_sortOf : MM := (⟨"HoleFiller", "sortOf", "(I)I"⟩, prog_1_method_23_code, 1, (Option.some FieldType.int), [])
theorem me_H_sortOf : m_me M_H_sortOf 1 := ⟨m_mem (i := 633) (by decide +kernel) rfl, by decide +kernel, by decide +kernel, by decide +kernel, m_mem (i := 50) (by decide +kernel) rfl⟩
def M_U_outside : MM := (⟨"HoleFiller$Cursor", "outside", "(II)I"⟩, prog_3_method_7_code, 4, (Option.some FieldType.int), [])
theorem me_U_outside : m_me M_U_outside 2 := ⟨m_mem (i := 639) (by decide +kernel) rfl, by decide +kernel, by decide +kernel, by decide +kernel, m_mem (i := 55) (by decide +kernel) rfl⟩
def M_U_enterFilling : MM := (⟨"HoleFiller$Cursor", "enterFilling", "()Z"⟩, prog_3_method_6_code, 2, (Option.some FieldType.boolean), [])
theorem me_U_enterFilling : m_me M_U_enterFilling 0 := ⟨m_mem (i := 644) (by decide +kernel) rfl, by decide +kernel, by decide +kernel, by decide +kernel, m_mem (i := 55) (by decide +kernel) rfl⟩
def M_N_narrowToSame : MM := (⟨"HoleFiller$Unifier", "narrowToSame", "()I"⟩, prog_8_method_3_code, 3, (Option.some FieldType.int), [])
theorem me_N_narrowToSame : m_me M_N_narrowToSame 0 := ⟨m_mem (i := 648) (by decide +kernel) rfl, by decide +kernel, by decide +kernel, by decide +kernel, m_mem (i := 56) (by decide +kernel) rfl⟩
def M_G_makeNew : MM := (⟨"HoleFiller$Holes", "makeNew", "(I)I"⟩, prog_4_method_3_code, 3, (Option.some FieldType.int), [])
theorem me_G_makeNew : m_me M_G_makeNew 1 := ⟨m_mem (i := 654) (by decide +kernel) rfl, by decide +kernel, by decide +kernel, by decide +kernel, m_mem (i := 53) (by decide +kernel) rfl⟩
def M_G_fillWithHole : MM := (⟨"HoleFiller$Holes", "fillWithHole", "(II[I)Z"⟩, prog_4_method_6_code, 7, (Option.some FieldType.boolean), [])
theorem me_G_fillWithHole : m_me M_G_fillWithHole 3 := ⟨m_mem (i := 658) (by decide +kernel) rfl, by decide +kernel, by decide +kernel, by decide +kernel, m_mem (i := 53) (by decide +kernel) rfl⟩
def M_C_append : MM := (⟨"HoleFiller$Cells", "append", "(II)V"⟩, prog_2_method_5_code, 3, none, [])
theorem me_C_append : m_me M_C_append 2 := ⟨m_mem (i := 663) (by decide +kernel) rfl, by decide +kernel, by decide +kernel, by decide +kernel, m_mem (i := 51) (by decide +kernel) rfl⟩
def M_Ar_copyOf : MM := (⟨"java/util/Arrays", "copyOf", "([II)[I"⟩, prog_21_method_123_code, 3, (Option.some (FieldType.array FieldType.int)), [])
theorem me_Ar_copyOf : m_me M_Ar_copyOf 2 := ⟨m_mem (i := 667) (by decide +kernel) rfl, by decide +kernel, by decide +kernel, by decide +kernel, m_mem (i := 65) (by decide +kernel) rfl⟩
def M_Ma_min : MM := (⟨"java/lang/Math", "min", "(II)I"⟩, prog_16_method_69_code, 2, (Option.some FieldType.int), [])
def M_G_fillFrom : MM := (⟨"HoleFiller$Holes", "fillFrom", "(II)V"⟩, prog_4_method_7_code, 3, none, [])
theorem me_G_fillFrom : m_me M_G_fillFrom 2 := ⟨m_mem (i := 685) (by decide +kernel) rfl, by decide +kernel, by decide +kernel, by decide +kernel, m_mem (i := 53) (by decide +kernel) rfl⟩
def M_N_joinHoles : MM := (⟨"HoleFiller$Unifier", "joinHoles", "()I"⟩, prog_8_method_4_code, 4, (Option.some FieldType.int), [])
theorem me_N_joinHoles : m_me M_N_joinHoles 0 := ⟨m_mem (i := 689) (by decide +kernel) rfl, by decide +kernel, by decide +kernel, by decide +kernel, m_mem (i := 56) (by decide +kernel) rfl⟩
def M_U_parameterFor : MM := (⟨"HoleFiller$Cursor", "parameterFor", "(I)I"⟩, prog_3_method_8_code, 3, (Option.some FieldType.int), [])
theorem me_U_parameterFor : m_me M_U_parameterFor 1 := ⟨m_mem (i := 693) (by decide +kernel) rfl, by decide +kernel, by decide +kernel, by decide +kernel, m_mem (i := 55) (by decide +kernel) rfl⟩
def M_N_fillWithTerm : MM := (⟨"HoleFiller$Unifier", "fillWithTerm", "(LHoleFiller$Cursor;LHoleFiller$Cursor;)I"⟩, prog_8_method_5_code, 5, (Option.some FieldType.int), [])
theorem me_N_fillWithTerm : m_me M_N_fillWithTerm 2 := ⟨m_mem (i := 697) (by decide +kernel) rfl, by decide +kernel, by decide +kernel, by decide +kernel, m_mem (i := 56) (by decide +kernel) rfl⟩
def M_U_copyFrom : MM := (⟨"HoleFiller$Cursor", "copyFrom", "(LHoleFiller$Cursor;)V"⟩, prog_3_method_3_code, 3, none, [])
theorem me_U_copyFrom : m_me M_U_copyFrom 1 := ⟨m_mem (i := 701) (by decide +kernel) rfl, by decide +kernel, by decide +kernel, by decide +kernel, m_mem (i := 55) (by decide +kernel) rfl⟩
def M_N_admitTerm : MM := (⟨"HoleFiller$Unifier", "admitTerm", "(LHoleFiller$Cursor;)I"⟩, prog_8_method_6_code, 5, (Option.some FieldType.int), [])
theorem me_N_admitTerm : m_me M_N_admitTerm 1 := ⟨m_mem (i := 705) (by decide +kernel) rfl, by decide +kernel, by decide +kernel, by decide +kernel, m_mem (i := 56) (by decide +kernel) rfl⟩
def M_N_isForeign : MM := (⟨"HoleFiller$Unifier", "isForeign", "(LHoleFiller$Cursor;I)Z"⟩, prog_8_method_8_code, 4, (Option.some FieldType.boolean), [])
theorem me_N_isForeign : m_me M_N_isForeign 2 := ⟨m_mem (i := 709) (by decide +kernel) rfl, by decide +kernel, by decide +kernel, by decide +kernel, m_mem (i := 56) (by decide +kernel) rfl⟩
def M_N_dropForeign : MM := (⟨"HoleFiller$Unifier", "dropForeign", "(LHoleFiller$Cursor;)I"⟩, prog_8_method_9_code, 4, (Option.some FieldType.int), [])
theorem me_N_dropForeign : m_me M_N_dropForeign 1 := ⟨m_mem (i := 713) (by decide +kernel) rfl, by decide +kernel, by decide +kernel, by decide +kernel, m_mem (i := 56) (by decide +kernel) rfl⟩
def M_N_dueAfter : MM := (⟨"HoleFiller$Unifier", "dueAfter", "(LHoleFiller$Cursor;I)I"⟩, prog_8_method_7_code, 4, (Option.some FieldType.int), [])
theorem me_N_dueAfter : m_me M_N_dueAfter 2 := ⟨m_mem (i := 717) (by decide +kernel) rfl, by decide +kernel, by decide +kernel, by decide +kernel, m_mem (i := 56) (by decide +kernel) rfl⟩
def M_N_copyTerm : MM := (⟨"HoleFiller$Unifier", "copyTerm", "(LHoleFiller$Cursor;LHoleFiller$Cursor;)V"⟩, prog_8_method_10_code, 5, none, [])
theorem me_N_copyTerm : m_me M_N_copyTerm 2 := ⟨m_mem (i := 722) (by decide +kernel) rfl, by decide +kernel, by decide +kernel, by decide +kernel, m_mem (i := 56) (by decide +kernel) rfl⟩
def M_N_copyHere : MM := (⟨"HoleFiller$Unifier", "copyHere", "(LHoleFiller$Cursor;LHoleFiller$Cursor;)V"⟩, prog_8_method_11_code, 7, none, [])
theorem me_N_copyHere : m_me M_N_copyHere 2 := ⟨m_mem (i := 726) (by decide +kernel) rfl, by decide +kernel, by decide +kernel, by decide +kernel, m_mem (i := 56) (by decide +kernel) rfl⟩
def M_N_inside : MM := (⟨"HoleFiller$Unifier", "inside", "(LHoleFiller$Cursor;II)I"⟩, prog_8_method_12_code, 4, (Option.some FieldType.int), [])
theorem me_N_inside : m_me M_N_inside 3 := ⟨m_mem (i := 730) (by decide +kernel) rfl, by decide +kernel, by decide +kernel, by decide +kernel, m_mem (i := 56) (by decide +kernel) rfl⟩
def M_G_measureAll : MM := (⟨"HoleFiller$Holes", "measureAll", "()I"⟩, prog_4_method_9_code, 5, (Option.some FieldType.int), [])
theorem me_G_measureAll : m_me M_G_measureAll 0 := ⟨m_mem (i := 737) (by decide +kernel) rfl, by decide +kernel, by decide +kernel, by decide +kernel, m_mem (i := 53) (by decide +kernel) rfl⟩
def M_Ar_fill : MM := (⟨"java/util/Arrays", "fill", "([II)V"⟩, prog_21_method_103_code, 4, none, [])
theorem me_Ar_fill : m_me M_Ar_fill 2 := ⟨m_mem (i := 740) (by decide +kernel) rfl, by decide +kernel, by decide +kernel, by decide +kernel, m_mem (i := 65) (by decide +kernel) rfl⟩
def M_G_sumFrom : MM := (⟨"HoleFiller$Holes", "sumFrom", "(II)I"⟩, prog_4_method_10_code, 7, (Option.some FieldType.int), [])
theorem me_G_sumFrom : m_me M_G_sumFrom 2 := ⟨m_mem (i := 744) (by decide +kernel) rfl, by decide +kernel, by decide +kernel, by decide +kernel, m_mem (i := 53) (by decide +kernel) rfl⟩
def M_U_standsAs : MM := (⟨"HoleFiller$Cursor", "standsAs", "(LHoleFiller$Cursor;)Z"⟩, prog_3_method_9_code, 3, (Option.some FieldType.boolean), [])
theorem me_U_standsAs : m_me M_U_standsAs 1 := ⟨m_mem (i := 752) (by decide +kernel) rfl, by decide +kernel, by decide +kernel, by decide +kernel, m_mem (i := 55) (by decide +kernel) rfl⟩
def M_H_read : MM := (⟨"HoleFiller", "read", "(I)I"⟩, prog_1_method_7_code, 2, (Option.some FieldType.int), [])
theorem me_H_read : m_me M_H_read 1 := ⟨m_mem (i := 759) (by decide +kernel) rfl, by decide +kernel, by decide +kernel, by decide +kernel, m_mem (i := 50) (by decide +kernel) rfl⟩
def M_R_takeAll : MM := (⟨"HoleFiller$Reader", "takeAll", "(LHoleFiller$Cursor;)V"⟩, prog_6_method_2_code, 3, none, [])
theorem me_R_takeAll : m_me M_R_takeAll 1 := ⟨m_mem (i := 763) (by decide +kernel) rfl, by decide +kernel, by decide +kernel, by decide +kernel, m_mem (i := 57) (by decide +kernel) rfl⟩
def M_R_takeHole : MM := (⟨"HoleFiller$Reader", "takeHole", "(LHoleFiller$Cursor;)V"⟩, prog_6_method_3_code, 6, none, [])
theorem me_R_takeHole : m_me M_R_takeHole 1 := ⟨m_mem (i := 770) (by decide +kernel) rfl, by decide +kernel, by decide +kernel, by decide +kernel, m_mem (i := 57) (by decide +kernel) rfl⟩
def M_R_risingOrder : MM := (⟨"HoleFiller$Reader", "risingOrder", "(LHoleFiller$Cursor;)I"⟩, prog_6_method_4_code, 5, (Option.some FieldType.int), [])
theorem me_R_risingOrder : m_me M_R_risingOrder 1 := ⟨m_mem (i := 775) (by decide +kernel) rfl, by decide +kernel, by decide +kernel, by decide +kernel, m_mem (i := 57) (by decide +kernel) rfl⟩
def M_R_append : MM := (⟨"HoleFiller$Reader", "append", "(I)V"⟩, prog_6_method_5_code, 2, none, [])
theorem me_R_append : m_me M_R_append 1 := ⟨m_mem (i := 780) (by decide +kernel) rfl, by decide +kernel, by decide +kernel, by decide +kernel, m_mem (i := 57) (by decide +kernel) rfl⟩
def M_H_item : MM := (⟨"HoleFiller", "item", "(I)I"⟩, prog_1_method_8_code, 2, (Option.some FieldType.int), [])
theorem me_H_item : m_me M_H_item 1 := ⟨m_mem (i := 789) (by decide +kernel) rfl, by decide +kernel, by decide +kernel, by decide +kernel, m_mem (i := 50) (by decide +kernel) rfl⟩
def M_H_isSame : MM := (⟨"HoleFiller", "isSame", "(II)Z"⟩, prog_1_method_9_code, 5, (Option.some FieldType.boolean), [])
theorem me_H_isSame : m_me M_H_isSame 2 := ⟨m_mem (i := 813) (by decide +kernel) rfl, by decide +kernel, by decide +kernel, by decide +kernel, m_mem (i := 50) (by decide +kernel) rfl⟩
def M_H_size : MM := (⟨"HoleFiller", "size", "(I)I"⟩, prog_1_method_10_code, 2, (Option.some FieldType.int), [])
theorem me_H_size : m_me M_H_size 1 := ⟨m_mem (i := 823) (by decide +kernel) rfl, by decide +kernel, by decide +kernel, by decide +kernel, m_mem (i := 50) (by decide +kernel) rfl⟩
def M_H_refuseUntold : MM := (⟨"HoleFiller", "refuseUntold", "(I)V"⟩, prog_1_method_19_code, 2, none, [])
theorem me_H_refuseUntold : m_me M_H_refuseUntold 1 := ⟨m_mem (i := 827) (by decide +kernel) rfl, by decide +kernel, by decide +kernel, by decide +kernel, m_mem (i := 50) (by decide +kernel) rfl⟩
def M_H_uses : MM := (⟨"HoleFiller", "uses", "(I)I"⟩, prog_1_method_11_code, 4, (Option.some FieldType.int), [])
theorem me_H_uses : m_me M_H_uses 1 := ⟨m_mem (i := 836) (by decide +kernel) rfl, by decide +kernel, by decide +kernel, by decide +kernel, m_mem (i := 50) (by decide +kernel) rfl⟩
def M_U_freeBits : MM := (⟨"HoleFiller$Cursor", "freeBits", "()I"⟩, prog_3_method_10_code, 3, (Option.some FieldType.int), [])
theorem me_U_freeBits : m_me M_U_freeBits 0 := ⟨m_mem (i := 840) (by decide +kernel) rfl, by decide +kernel, by decide +kernel, by decide +kernel, m_mem (i := 55) (by decide +kernel) rfl⟩
def M_U_bitOf : MM := (⟨"HoleFiller$Cursor", "bitOf", "(I)I"⟩, prog_3_method_11_code, 2, (Option.some FieldType.int), [])
theorem me_U_bitOf : m_me M_U_bitOf 1 := ⟨m_mem (i := 844) (by decide +kernel) rfl, by decide +kernel, by decide +kernel, by decide +kernel, m_mem (i := 55) (by decide +kernel) rfl⟩
def M_D_init : MM := (⟨"HoleFillerModel", "<init>", "()V"⟩, prog_10_method_1_code, 1, none, [])
theorem me_D_init : m_me M_D_init 0 := ⟨m_mem (i := 849) (by decide +kernel) rfl, by decide +kernel, by decide +kernel, by decide +kernel, m_mem (i := 58) (by decide +kernel) rfl⟩
def M_D_thrown : MM := (⟨"HoleFillerModel", "thrown", "()I"⟩, prog_10_method_2_code, 1, (Option.some FieldType.int), [])
theorem me_D_thrown : m_me M_D_thrown 0 := ⟨m_mem (i := 978) (by decide +kernel) rfl, by decide +kernel, by decide +kernel, by decide +kernel, m_mem (i := 58) (by decide +kernel) rfl⟩
def M_D_operation : MM := (⟨"HoleFillerModel", "operation", "(III)I"⟩, prog_10_method_4_code, 5, (Option.some FieldType.int), [])
theorem me_D_operation : m_me M_D_operation 3 := ⟨m_mem (i := 982) (by decide +kernel) rfl, by decide +kernel, by decide +kernel, by decide +kernel, m_mem (i := 58) (by decide +kernel) rfl⟩
def M_D_fails : MM := (⟨"HoleFillerModel", "fails", "(ZZ)Z"⟩, prog_10_method_3_code, 3, (Option.some FieldType.boolean), [])
theorem me_D_fails : m_me M_D_fails 2 := ⟨m_mem (i := 986) (by decide +kernel) rfl, by decide +kernel, by decide +kernel, by decide +kernel, m_mem (i := 58) (by decide +kernel) rfl⟩
def M_D_hole : MM := (⟨"HoleFillerModel", "hole", "(I)I"⟩, prog_10_method_5_code, 2, (Option.some FieldType.int), [])
theorem me_D_hole : m_me M_D_hole 1 := ⟨m_mem (i := 990) (by decide +kernel) rfl, by decide +kernel, by decide +kernel, by decide +kernel, m_mem (i := 58) (by decide +kernel) rfl⟩
def M_D_begin : MM := (⟨"HoleFillerModel", "begin", "(II)I"⟩, prog_10_method_7_code, 3, (Option.some FieldType.int), [])
theorem me_D_begin : m_me M_D_begin 2 := ⟨m_mem (i := 994) (by decide +kernel) rfl, by decide +kernel, by decide +kernel, by decide +kernel, m_mem (i := 58) (by decide +kernel) rfl⟩
def M_D_isSlot : MM := (⟨"HoleFillerModel", "isSlot", "(I)Z"⟩, prog_10_method_6_code, 1, (Option.some FieldType.boolean), [])
theorem me_D_isSlot : m_me M_D_isSlot 1 := ⟨m_mem (i := 997) (by decide +kernel) rfl, by decide +kernel, by decide +kernel, by decide +kernel, m_mem (i := 58) (by decide +kernel) rfl⟩
def M_D_put : MM := (⟨"HoleFillerModel", "put", "(III)I"⟩, prog_10_method_11_code, 9, (Option.some FieldType.int), [])
theorem me_D_put : m_me M_D_put 3 := ⟨m_mem (i := 1001) (by decide +kernel) rfl, by decide +kernel, by decide +kernel, by decide +kernel, m_mem (i := 58) (by decide +kernel) rfl⟩
def M_D_fits : MM := (⟨"HoleFillerModel", "fits", "(III)Z"⟩, prog_10_method_9_code, 7, (Option.some FieldType.boolean), [])
theorem me_D_fits : m_me M_D_fits 3 := ⟨m_mem (i := 1005) (by decide +kernel) rfl, by decide +kernel, by decide +kernel, by decide +kernel, m_mem (i := 58) (by decide +kernel) rfl⟩
def M_D_isTooWide : MM := (⟨"HoleFillerModel", "isTooWide", "(III)Z"⟩, prog_10_method_10_code, 6, (Option.some FieldType.boolean), [])
theorem me_D_isTooWide : m_me M_D_isTooWide 3 := ⟨m_mem (i := 1009) (by decide +kernel) rfl, by decide +kernel, by decide +kernel, by decide +kernel, m_mem (i := 58) (by decide +kernel) rfl⟩
def M_D_wait : MM := (⟨"HoleFillerModel", "wait", "(III)V"⟩, prog_10_method_8_code, 4, none, [])
theorem me_D_wait : m_me M_D_wait 3 := ⟨m_mem (i := 1013) (by decide +kernel) rfl, by decide +kernel, by decide +kernel, by decide +kernel, m_mem (i := 58) (by decide +kernel) rfl⟩
def M_D_unify : MM := (⟨"HoleFillerModel", "unify", "(II)I"⟩, prog_10_method_33_code, 6, (Option.some FieldType.int), [])
theorem me_D_unify : m_me M_D_unify 2 := ⟨m_mem (i := 1017) (by decide +kernel) rfl, by decide +kernel, by decide +kernel, by decide +kernel, m_mem (i := 58) (by decide +kernel) rfl⟩
def M_D_refuses : MM := (⟨"HoleFillerModel", "refuses", "(II)Z"⟩, prog_10_method_32_code, 4, (Option.some FieldType.boolean), [])
theorem me_D_refuses : m_me M_D_refuses 2 := ⟨m_mem (i := 1021) (by decide +kernel) rfl, by decide +kernel, by decide +kernel, by decide +kernel, m_mem (i := 58) (by decide +kernel) rfl⟩
def M_D_isWhole : MM := (⟨"HoleFillerModel", "isWhole", "(I)Z"⟩, prog_10_method_31_code, 2, (Option.some FieldType.boolean), [])
theorem me_D_isWhole : m_me M_D_isWhole 1 := ⟨m_mem (i := 1025) (by decide +kernel) rfl, by decide +kernel, by decide +kernel, by decide +kernel, m_mem (i := 58) (by decide +kernel) rfl⟩
def M_D_slot : MM := (⟨"HoleFillerModel", "slot", "([II)I"⟩, prog_10_method_18_code, 4, (Option.some FieldType.int), [])
theorem me_D_slot : m_me M_D_slot 2 := ⟨m_mem (i := 1029) (by decide +kernel) rfl, by decide +kernel, by decide +kernel, by decide +kernel, m_mem (i := 58) (by decide +kernel) rfl⟩
def M_D_write : MM := (⟨"HoleFillerModel", "write", "([II)I"⟩, prog_10_method_17_code, 6, (Option.some FieldType.int), [])
theorem me_D_write : m_me M_D_write 2 := ⟨m_mem (i := 1033) (by decide +kernel) rfl, by decide +kernel, by decide +kernel, by decide +kernel, m_mem (i := 58) (by decide +kernel) rfl⟩
def M_D_again : MM := (⟨"HoleFillerModel", "again", "([II)I"⟩, prog_10_method_16_code, 10, (Option.some FieldType.int), [])
theorem me_D_again : m_me M_D_again 2 := ⟨m_mem (i := 1037) (by decide +kernel) rfl, by decide +kernel, by decide +kernel, by decide +kernel, m_mem (i := 58) (by decide +kernel) rfl⟩
def M_D_sort : MM := (⟨"HoleFillerModel", "sort", "(I)I"⟩, prog_10_method_12_code, 1, (Option.some FieldType.int), [])
theorem me_D_sort : m_me M_D_sort 1 := ⟨m_mem (i := 1040) (by decide +kernel) rfl, by decide +kernel, by decide +kernel, by decide +kernel, m_mem (i := 58) (by decide +kernel) rfl⟩
def M_D_measure : MM := (⟨"HoleFillerModel", "measure", "([III)V"⟩, prog_10_method_13_code, 10, none, [])
theorem me_D_measure : m_me M_D_measure 3 := ⟨m_mem (i := 1044) (by decide +kernel) rfl, by decide +kernel, by decide +kernel, by decide +kernel, m_mem (i := 58) (by decide +kernel) rfl⟩
def M_D_equation : MM := (⟨"HoleFillerModel", "equation", "([III[III)V"⟩, prog_10_method_23_code, 9, none, [])
theorem me_D_equation : m_me M_D_equation 6 := ⟨m_mem (i := 1048) (by decide +kernel) rfl, by decide +kernel, by decide +kernel, by decide +kernel, m_mem (i := 58) (by decide +kernel) rfl⟩
def M_D_step : MM := (⟨"HoleFillerModel", "step", "()I"⟩, prog_10_method_24_code, 4, (Option.some FieldType.int), [])
theorem me_D_step : m_me M_D_step 0 := ⟨m_mem (i := 1052) (by decide +kernel) rfl, by decide +kernel, by decide +kernel, by decide +kernel, m_mem (i := 58) (by decide +kernel) rfl⟩
def M_D_same : MM := (⟨"HoleFillerModel", "same", "()I"⟩, prog_10_method_26_code, 4, (Option.some FieldType.int), [])
theorem me_D_same : m_me M_D_same 0 := ⟨m_mem (i := 1056) (by decide +kernel) rfl, by decide +kernel, by decide +kernel, by decide +kernel, m_mem (i := 58) (by decide +kernel) rfl⟩
def M_D_isFull : MM := (⟨"HoleFillerModel", "isFull", "()Z"⟩, prog_10_method_19_code, 1, (Option.some FieldType.boolean), [])
theorem me_D_isFull : m_me M_D_isFull 0 := ⟨m_mem (i := 1060) (by decide +kernel) rfl, by decide +kernel, by decide +kernel, by decide +kernel, m_mem (i := 58) (by decide +kernel) rfl⟩
def M_D_make : MM := (⟨"HoleFillerModel", "make", "(I)I"⟩, prog_10_method_20_code, 3, (Option.some FieldType.int), [])
theorem me_D_make : m_me M_D_make 1 := ⟨m_mem (i := 1064) (by decide +kernel) rfl, by decide +kernel, by decide +kernel, by decide +kernel, m_mem (i := 58) (by decide +kernel) rfl⟩
def M_D_pass : MM := (⟨"HoleFillerModel", "pass", "(II[II)V"⟩, prog_10_method_21_code, 6, none, [])
theorem me_D_pass : m_me M_D_pass 4 := ⟨m_mem (i := 1068) (by decide +kernel) rfl, by decide +kernel, by decide +kernel, by decide +kernel, m_mem (i := 58) (by decide +kernel) rfl⟩
def M_D_both : MM := (⟨"HoleFillerModel", "both", "()I"⟩, prog_10_method_28_code, 6, (Option.some FieldType.int), [])
theorem me_D_both : m_me M_D_both 0 := ⟨m_mem (i := 1072) (by decide +kernel) rfl, by decide +kernel, by decide +kernel, by decide +kernel, m_mem (i := 58) (by decide +kernel) rfl⟩
def M_D_find : MM := (⟨"HoleFillerModel", "find", "([IIII)I"⟩, prog_10_method_27_code, 5, (Option.some FieldType.int), [])
theorem me_D_find : m_me M_D_find 4 := ⟨m_mem (i := 1075) (by decide +kernel) rfl, by decide +kernel, by decide +kernel, by decide +kernel, m_mem (i := 58) (by decide +kernel) rfl⟩
def M_D_fill : MM := (⟨"HoleFillerModel", "fill", "([I[II)I"⟩, prog_10_method_30_code, 11, (Option.some FieldType.int), [])
theorem me_D_fill : m_me M_D_fill 3 := ⟨m_mem (i := 1079) (by decide +kernel) rfl, by decide +kernel, by decide +kernel, by decide +kernel, m_mem (i := 58) (by decide +kernel) rfl⟩
def M_D_hindrance : MM := (⟨"HoleFillerModel", "hindrance", "([I[II)I"⟩, prog_10_method_29_code, 9, (Option.some FieldType.int), [])
theorem me_D_hindrance : m_me M_D_hindrance 3 := ⟨m_mem (i := 1083) (by decide +kernel) rfl, by decide +kernel, by decide +kernel, by decide +kernel, m_mem (i := 58) (by decide +kernel) rfl⟩
def M_D_sizeOf : MM := (⟨"HoleFillerModel", "sizeOf", "([II[I)I"⟩, prog_10_method_15_code, 5, (Option.some FieldType.int), [])
theorem me_D_sizeOf : m_me M_D_sizeOf 3 := ⟨m_mem (i := 1086) (by decide +kernel) rfl, by decide +kernel, by decide +kernel, by decide +kernel, m_mem (i := 58) (by decide +kernel) rfl⟩
def M_D_fullSize : MM := (⟨"HoleFillerModel", "fullSize", "(I)I"⟩, prog_10_method_22_code, 3, (Option.some FieldType.int), [])
theorem me_D_fullSize : m_me M_D_fullSize 1 := ⟨m_mem (i := 1090) (by decide +kernel) rfl, by decide +kernel, by decide +kernel, by decide +kernel, m_mem (i := 58) (by decide +kernel) rfl⟩
def M_D_parts : MM := (⟨"HoleFillerModel", "parts", "(I)I"⟩, prog_10_method_25_code, 7, (Option.some FieldType.int), [])
theorem me_D_parts : m_me M_D_parts 1 := ⟨m_mem (i := 1094) (by decide +kernel) rfl, by decide +kernel, by decide +kernel, by decide +kernel, m_mem (i := 58) (by decide +kernel) rfl⟩
def M_D_partEnd : MM := (⟨"HoleFillerModel", "partEnd", "([II)I"⟩, prog_10_method_14_code, 6, (Option.some FieldType.int), [])
theorem me_D_partEnd : m_me M_D_partEnd 2 := ⟨m_mem (i := 1098) (by decide +kernel) rfl, by decide +kernel, by decide +kernel, by decide +kernel, m_mem (i := 58) (by decide +kernel) rfl⟩
def M_D_read : MM := (⟨"HoleFillerModel", "read", "(I)I"⟩, prog_10_method_35_code, 5, (Option.some FieldType.int), [])
theorem me_D_read : m_me M_D_read 1 := ⟨m_mem (i := 1102) (by decide +kernel) rfl, by decide +kernel, by decide +kernel, by decide +kernel, m_mem (i := 58) (by decide +kernel) rfl⟩
def M_D_rank : MM := (⟨"HoleFillerModel", "rank", "(I[II)V"⟩, prog_10_method_34_code, 7, none, [])
theorem me_D_rank : m_me M_D_rank 3 := ⟨m_mem (i := 1106) (by decide +kernel) rfl, by decide +kernel, by decide +kernel, by decide +kernel, m_mem (i := 58) (by decide +kernel) rfl⟩
def M_D_item : MM := (⟨"HoleFillerModel", "item", "(I)I"⟩, prog_10_method_36_code, 2, (Option.some FieldType.int), [])
theorem me_D_item : m_me M_D_item 1 := ⟨m_mem (i := 1110) (by decide +kernel) rfl, by decide +kernel, by decide +kernel, by decide +kernel, m_mem (i := 58) (by decide +kernel) rfl⟩
def M_D_isSame : MM := (⟨"HoleFillerModel", "isSame", "(II)Z"⟩, prog_10_method_37_code, 5, (Option.some FieldType.boolean), [])
theorem me_D_isSame : m_me M_D_isSame 2 := ⟨m_mem (i := 1114) (by decide +kernel) rfl, by decide +kernel, by decide +kernel, by decide +kernel, m_mem (i := 58) (by decide +kernel) rfl⟩
def M_D_size : MM := (⟨"HoleFillerModel", "size", "(I)I"⟩, prog_10_method_38_code, 2, (Option.some FieldType.int), [])
theorem me_D_size : m_me M_D_size 1 := ⟨m_mem (i := 1118) (by decide +kernel) rfl, by decide +kernel, by decide +kernel, by decide +kernel, m_mem (i := 58) (by decide +kernel) rfl⟩
def M_D_uses : MM := (⟨"HoleFillerModel", "uses", "(I)I"⟩, prog_10_method_39_code, 5, (Option.some FieldType.int), [])
theorem me_D_uses : m_me M_D_uses 1 := ⟨m_mem (i := 1122) (by decide +kernel) rfl, by decide +kernel, by decide +kernel, by decide +kernel, m_mem (i := 58) (by decide +kernel) rfl⟩
def M_D_empty : MM := (⟨"HoleFillerModel", "empty", "()I"⟩, prog_10_method_40_code, 3, (Option.some FieldType.int), [])
theorem me_D_empty : m_me M_D_empty 0 := ⟨m_mem (i := 1126) (by decide +kernel) rfl, by decide +kernel, by decide +kernel, by decide +kernel, m_mem (i := 58) (by decide +kernel) rfl⟩
def M_D_count : MM := (⟨"HoleFillerModel", "count", "(I)I"⟩, prog_10_method_41_code, 4, (Option.some FieldType.int), [])
theorem me_D_count : m_me M_D_count 1 := ⟨m_mem (i := 1130) (by decide +kernel) rfl, by decide +kernel, by decide +kernel, by decide +kernel, m_mem (i := 58) (by decide +kernel) rfl⟩
def M_L_operation : MM := (⟨"HoleFillerLaw", "operation", "(LHoleFiller;III[J)I"⟩, method_3_code, 6, (Option.some FieldType.int), [((0), (12), (15), (13))])
theorem me_L_operation : m_me M_L_operation 5 := ⟨m_mem (i := 361) (by decide +kernel) rfl, by decide +kernel, by decide +kernel, by decide +kernel, m_mem (i := 49) (by decide +kernel) rfl⟩
def M_L_hole : MM := (⟨"HoleFillerLaw", "hole", "(LHoleFiller;I[J)I"⟩, method_4_code, 4, (Option.some FieldType.int), [((0), (9), (12), (13))])
theorem me_L_hole : m_me M_L_hole 3 := ⟨m_mem (i := 455) (by decide +kernel) rfl, by decide +kernel, by decide +kernel, by decide +kernel, m_mem (i := 49) (by decide +kernel) rfl⟩
def M_L_begin : MM := (⟨"HoleFillerLaw", "begin", "(LHoleFiller;II[J)I"⟩, method_5_code, 5, (Option.some FieldType.int), [((0), (10), (13), (13))])
theorem me_L_begin : m_me M_L_begin 4 := ⟨m_mem (i := 467) (by decide +kernel) rfl, by decide +kernel, by decide +kernel, by decide +kernel, m_mem (i := 49) (by decide +kernel) rfl⟩
def M_L_put : MM := (⟨"HoleFillerLaw", "put", "(LHoleFiller;III[J)I"⟩, method_6_code, 6, (Option.some FieldType.int), [((0), (12), (15), (26)), ((0), (12), (19), (13))])
theorem me_L_put : m_me M_L_put 5 := ⟨m_mem (i := 489) (by decide +kernel) rfl, by decide +kernel, by decide +kernel, by decide +kernel, m_mem (i := 49) (by decide +kernel) rfl⟩
def M_L_unify : MM := (⟨"HoleFillerLaw", "unify", "(LHoleFiller;II[J)I"⟩, method_7_code, 5, (Option.some FieldType.int), [((0), (10), (13), (13)), ((0), (10), (17), (26))])
theorem me_L_unify : m_me M_L_unify 4 := ⟨m_mem (i := 590) (by decide +kernel) rfl, by decide +kernel, by decide +kernel, by decide +kernel, m_mem (i := 49) (by decide +kernel) rfl⟩
def M_L_read : MM := (⟨"HoleFillerLaw", "read", "(LHoleFiller;I[J)I"⟩, method_8_code, 4, (Option.some FieldType.int), [((0), (9), (12), (13)), ((0), (9), (15), (26))])
theorem me_L_read : m_me M_L_read 3 := ⟨m_mem (i := 755) (by decide +kernel) rfl, by decide +kernel, by decide +kernel, by decide +kernel, m_mem (i := 49) (by decide +kernel) rfl⟩
def M_L_item : MM := (⟨"HoleFillerLaw", "item", "(LHoleFiller;I[J)I"⟩, method_9_code, 4, (Option.some FieldType.int), [((0), (9), (12), (37))])
theorem me_L_item : m_me M_L_item 3 := ⟨m_mem (i := 784) (by decide +kernel) rfl, by decide +kernel, by decide +kernel, by decide +kernel, m_mem (i := 49) (by decide +kernel) rfl⟩
def M_L_isSame : MM := (⟨"HoleFillerLaw", "isSame", "(LHoleFiller;II[J)I"⟩, method_10_code, 5, (Option.some FieldType.int), [((0), (17), (20), (13)), ((0), (17), (24), (26))])
theorem me_L_isSame : m_me M_L_isSame 4 := ⟨m_mem (i := 809) (by decide +kernel) rfl, by decide +kernel, by decide +kernel, by decide +kernel, m_mem (i := 49) (by decide +kernel) rfl⟩
def M_L_size : MM := (⟨"HoleFillerLaw", "size", "(LHoleFiller;I[J)I"⟩, method_11_code, 4, (Option.some FieldType.int), [((0), (9), (12), (13))])
theorem me_L_size : m_me M_L_size 3 := ⟨m_mem (i := 819) (by decide +kernel) rfl, by decide +kernel, by decide +kernel, by decide +kernel, m_mem (i := 49) (by decide +kernel) rfl⟩
def M_L_uses : MM := (⟨"HoleFillerLaw", "uses", "(LHoleFiller;I[J)I"⟩, method_12_code, 4, (Option.some FieldType.int), [((0), (9), (12), (13))])
theorem me_L_uses : m_me M_L_uses 3 := ⟨m_mem (i := 832) (by decide +kernel) rfl, by decide +kernel, by decide +kernel, by decide +kernel, m_mem (i := 49) (by decide +kernel) rfl⟩
theorem f_H_15 : m_fl "HoleFiller" 15 0 0 := ⟨_, _, _, rfl, by decide, u_H, Or.inl (m_mem (i := 309) (by decide +kernel) rfl)⟩
theorem p_H_15 : m_fp "HoleFiller" 15 0 0 (.object "HoleFiller$Operations") true := ⟨_, _, _, tyH, rfl, by decide, u_H, Or.inl (m_mem (i := 309) (by decide +kernel) rfl), tyH_ok, nmH, rfl, by decide +kernel, by decide +kernel⟩
theorem f_H_24 : m_fl "HoleFiller" 24 0 1 := ⟨_, _, _, rfl, by decide, u_H, Or.inl (m_mem (i := 310) (by decide +kernel) rfl)⟩
theorem p_H_24 : m_fp "HoleFiller" 24 0 1 (.object "HoleFiller$Holes") true := ⟨_, _, _, tyH, rfl, by decide, u_H, Or.inl (m_mem (i := 310) (by decide +kernel) rfl), tyH_ok, nmH, rfl, by decide +kernel, by decide +kernel⟩
theorem f_H_30 : m_fl "HoleFiller" 30 0 2 := ⟨_, _, _, rfl, by decide, u_H, Or.inl (m_mem (i := 311) (by decide +kernel) rfl)⟩
theorem p_H_30 : m_fp "HoleFiller" 30 0 2 (.array (.object "HoleFiller$Slot")) true := ⟨_, _, _, tyH, rfl, by decide, u_H, Or.inl (m_mem (i := 311) (by decide +kernel) rfl), tyH_ok, nmH, rfl, by decide +kernel, by decide +kernel⟩
theorem f_H_42 : m_fl "HoleFiller" 42 0 3 := ⟨_, _, _, rfl, by decide, u_H, Or.inl (m_mem (i := 312) (by decide +kernel) rfl)⟩
theorem p_H_42 : m_fp "HoleFiller" 42 0 3 (.object "HoleFiller$Cursor") true := ⟨_, _, _, tyH, rfl, by decide, u_H, Or.inl (m_mem (i := 312) (by decide +kernel) rfl), tyH_ok, nmH, rfl, by decide +kernel, by decide +kernel⟩
theorem f_H_46 : m_fl "HoleFiller" 46 0 4 := ⟨_, _, _, rfl, by decide, u_H, Or.inl (m_mem (i := 313) (by decide +kernel) rfl)⟩
theorem p_H_46 : m_fp "HoleFiller" 46 0 4 (.object "HoleFiller$Cursor") true := ⟨_, _, _, tyH, rfl, by decide, u_H, Or.inl (m_mem (i := 313) (by decide +kernel) rfl), tyH_ok, nmH, rfl, by decide +kernel, by decide +kernel⟩
theorem f_H_54 : m_fl "HoleFiller" 54 0 5 := ⟨_, _, _, rfl, by decide, u_H, Or.inl (m_mem (i := 314) (by decide +kernel) rfl)⟩
theorem p_H_54 : m_fp "HoleFiller" 54 0 5 (.object "HoleFiller$Unifier") true := ⟨_, _, _, tyH, rfl, by decide, u_H, Or.inl (m_mem (i := 314) (by decide +kernel) rfl), tyH_ok, nmH, rfl, by decide +kernel, by decide +kernel⟩
theorem f_H_61 : m_fl "HoleFiller" 61 0 6 := ⟨_, _, _, rfl, by decide, u_H, Or.inl (m_mem (i := 315) (by decide +kernel) rfl)⟩
theorem p_H_61 : m_fp "HoleFiller" 61 0 6 (.object "HoleFiller$Reader") true := ⟨_, _, _, tyH, rfl, by decide, u_H, Or.inl (m_mem (i := 315) (by decide +kernel) rfl), tyH_ok, nmH, rfl, by decide +kernel, by decide +kernel⟩
theorem f_H_132 : m_fl "HoleFiller" 132 3 8 := ⟨_, _, _, rfl, by decide, u_G, Or.inr ⟨"HoleFiller", by decide +kernel⟩⟩
theorem f_H_136 : m_fl "HoleFiller" 136 3 7 := ⟨_, _, _, rfl, by decide, u_G, Or.inr ⟨"HoleFiller", by decide +kernel⟩⟩
theorem f_H_142 : m_fl "HoleFiller" 142 0 7 := ⟨_, _, _, rfl, by decide, u_H, Or.inl (m_mem (i := 316) (by decide +kernel) rfl)⟩
theorem p_H_142 : m_fp "HoleFiller" 142 0 7 (.int) false := ⟨_, _, _, tyH, rfl, by decide, u_H, Or.inl (m_mem (i := 316) (by decide +kernel) rfl), tyH_ok, nmH, rfl, by decide +kernel, by decide +kernel⟩
theorem f_H_148 : m_fl "HoleFiller" 148 0 8 := ⟨_, _, _, rfl, by decide, u_H, Or.inl (m_mem (i := 317) (by decide +kernel) rfl)⟩
theorem p_H_148 : m_fp "HoleFiller" 148 0 8 (.int) false := ⟨_, _, _, tyH, rfl, by decide, u_H, Or.inl (m_mem (i := 317) (by decide +kernel) rfl), tyH_ok, nmH, rfl, by decide +kernel, by decide +kernel⟩
theorem f_H_155 : m_fl "HoleFiller" 155 5 1 := ⟨_, _, _, rfl, by decide, u_R, Or.inr ⟨"HoleFiller", by decide +kernel⟩⟩
theorem f_H_163 : m_fl "HoleFiller" 163 5 0 := ⟨_, _, _, rfl, by decide, u_R, Or.inr ⟨"HoleFiller", by decide +kernel⟩⟩
theorem f_H_186 : m_fl "HoleFiller" 186 3 4 := ⟨_, _, _, rfl, by decide, u_G, Or.inr ⟨"HoleFiller", by decide +kernel⟩⟩
theorem f_H_192 : m_fl "HoleFiller" 192 3 2 := ⟨_, _, _, rfl, by decide, u_G, Or.inr ⟨"HoleFiller", by decide +kernel⟩⟩
theorem f_H_195 : m_fl "HoleFiller" 195 3 3 := ⟨_, _, _, rfl, by decide, u_G, Or.inr ⟨"HoleFiller", by decide +kernel⟩⟩
theorem f_H_204 : m_fl "HoleFiller" 204 3 6 := ⟨_, _, _, rfl, by decide, u_G, Or.inr ⟨"HoleFiller", by decide +kernel⟩⟩
theorem f_H_207 : m_fl "HoleFiller" 207 4 2 := ⟨_, _, _, rfl, by decide, u_O, Or.inr ⟨"HoleFiller", by decide +kernel⟩⟩
theorem f_H_208 : m_fl "HoleFiller" 208 5 2 := ⟨_, _, _, rfl, by decide, u_R, Or.inr ⟨"HoleFiller", by decide +kernel⟩⟩
theorem f_H_219 : m_fl "HoleFiller" 219 6 6 := ⟨_, _, _, rfl, by decide, u_S, Or.inr ⟨"HoleFiller", by decide +kernel⟩⟩
theorem f_H_233 : m_fl "HoleFiller" 233 6 4 := ⟨_, _, _, rfl, by decide, u_S, Or.inr ⟨"HoleFiller", by decide +kernel⟩⟩
theorem f_H_238 : m_fl "HoleFiller" 238 6 1 := ⟨_, _, _, rfl, by decide, u_S, Or.inr ⟨"HoleFiller", by decide +kernel⟩⟩
theorem f_H_240 : m_fl "HoleFiller" 240 6 5 := ⟨_, _, _, rfl, by decide, u_S, Or.inr ⟨"HoleFiller", by decide +kernel⟩⟩
theorem f_C_9 : m_fl "HoleFiller$Cells" 9 1 0 := ⟨_, _, _, rfl, by decide, u_C, Or.inl (m_mem (i := 82) (by decide +kernel) rfl)⟩
theorem p_C_9 : m_fp "HoleFiller$Cells" 9 1 0 (.array .int) false := ⟨_, _, _, tyC, rfl, by decide, u_C, Or.inl (m_mem (i := 82) (by decide +kernel) rfl), tyC_ok, nmC, rfl, by decide +kernel, by decide +kernel⟩
theorem f_C_15 : m_fl "HoleFiller$Cells" 15 1 1 := ⟨_, _, _, rfl, by decide, u_C, Or.inl (m_mem (i := 83) (by decide +kernel) rfl)⟩
theorem p_C_15 : m_fp "HoleFiller$Cells" 15 1 1 (.array .int) false := ⟨_, _, _, tyC, rfl, by decide, u_C, Or.inl (m_mem (i := 83) (by decide +kernel) rfl), tyC_ok, nmC, rfl, by decide +kernel, by decide +kernel⟩
theorem f_C_18 : m_fl "HoleFiller$Cells" 18 1 2 := ⟨_, _, _, rfl, by decide, u_C, Or.inl (m_mem (i := 84) (by decide +kernel) rfl)⟩
theorem p_C_18 : m_fp "HoleFiller$Cells" 18 1 2 (.int) false := ⟨_, _, _, tyC, rfl, by decide, u_C, Or.inl (m_mem (i := 84) (by decide +kernel) rfl), tyC_ok, nmC, rfl, by decide +kernel, by decide +kernel⟩
theorem f_U_9 : m_fl "HoleFiller$Cursor" 9 2 2 := ⟨_, _, _, rfl, by decide, u_U, Or.inl (m_mem (i := 204) (by decide +kernel) rfl)⟩
theorem p_U_9 : m_fp "HoleFiller$Cursor" 9 2 2 (.array .int) true := ⟨_, _, _, tyU, rfl, by decide, u_U, Or.inl (m_mem (i := 204) (by decide +kernel) rfl), tyU_ok, nmU, rfl, by decide +kernel, by decide +kernel⟩
theorem f_U_15 : m_fl "HoleFiller$Cursor" 15 2 3 := ⟨_, _, _, rfl, by decide, u_U, Or.inl (m_mem (i := 205) (by decide +kernel) rfl)⟩
theorem p_U_15 : m_fp "HoleFiller$Cursor" 15 2 3 (.array .int) true := ⟨_, _, _, tyU, rfl, by decide, u_U, Or.inl (m_mem (i := 205) (by decide +kernel) rfl), tyU_ok, nmU, rfl, by decide +kernel, by decide +kernel⟩
theorem f_U_18 : m_fl "HoleFiller$Cursor" 18 2 4 := ⟨_, _, _, rfl, by decide, u_U, Or.inl (m_mem (i := 206) (by decide +kernel) rfl)⟩
theorem p_U_18 : m_fp "HoleFiller$Cursor" 18 2 4 (.array .int) true := ⟨_, _, _, tyU, rfl, by decide, u_U, Or.inl (m_mem (i := 206) (by decide +kernel) rfl), tyU_ok, nmU, rfl, by decide +kernel, by decide +kernel⟩
theorem f_U_21 : m_fl "HoleFiller$Cursor" 21 2 5 := ⟨_, _, _, rfl, by decide, u_U, Or.inl (m_mem (i := 207) (by decide +kernel) rfl)⟩
theorem p_U_21 : m_fp "HoleFiller$Cursor" 21 2 5 (.array .int) true := ⟨_, _, _, tyU, rfl, by decide, u_U, Or.inl (m_mem (i := 207) (by decide +kernel) rfl), tyU_ok, nmU, rfl, by decide +kernel, by decide +kernel⟩
theorem f_U_24 : m_fl "HoleFiller$Cursor" 24 2 10 := ⟨_, _, _, rfl, by decide, u_U, Or.inl (m_mem (i := 217) (by decide +kernel) rfl)⟩
theorem p_U_24 : m_fp "HoleFiller$Cursor" 24 2 10 (.array .int) true := ⟨_, _, _, tyU, rfl, by decide, u_U, Or.inl (m_mem (i := 217) (by decide +kernel) rfl), tyU_ok, nmU, rfl, by decide +kernel, by decide +kernel⟩
theorem f_U_27 : m_fl "HoleFiller$Cursor" 27 2 0 := ⟨_, _, _, rfl, by decide, u_U, Or.inl (m_mem (i := 202) (by decide +kernel) rfl)⟩
theorem p_U_27 : m_fp "HoleFiller$Cursor" 27 2 0 (.object "HoleFiller$Cells") true := ⟨_, _, _, tyU, rfl, by decide, u_U, Or.inl (m_mem (i := 202) (by decide +kernel) rfl), tyU_ok, nmU, rfl, by decide +kernel, by decide +kernel⟩
theorem f_U_31 : m_fl "HoleFiller$Cursor" 31 2 1 := ⟨_, _, _, rfl, by decide, u_U, Or.inl (m_mem (i := 203) (by decide +kernel) rfl)⟩
theorem p_U_31 : m_fp "HoleFiller$Cursor" 31 2 1 (.object "HoleFiller$Holes") true := ⟨_, _, _, tyU, rfl, by decide, u_U, Or.inl (m_mem (i := 203) (by decide +kernel) rfl), tyU_ok, nmU, rfl, by decide +kernel, by decide +kernel⟩
theorem f_U_35 : m_fl "HoleFiller$Cursor" 35 2 6 := ⟨_, _, _, rfl, by decide, u_U, Or.inl (m_mem (i := 208) (by decide +kernel) rfl)⟩
theorem p_U_35 : m_fp "HoleFiller$Cursor" 35 2 6 (.int) false := ⟨_, _, _, tyU, rfl, by decide, u_U, Or.inl (m_mem (i := 208) (by decide +kernel) rfl), tyU_ok, nmU, rfl, by decide +kernel, by decide +kernel⟩
theorem f_U_47 : m_fl "HoleFiller$Cursor" 47 2 7 := ⟨_, _, _, rfl, by decide, u_U, Or.inl (m_mem (i := 211) (by decide +kernel) rfl)⟩
theorem p_U_47 : m_fp "HoleFiller$Cursor" 47 2 7 (.int) false := ⟨_, _, _, tyU, rfl, by decide, u_U, Or.inl (m_mem (i := 211) (by decide +kernel) rfl), tyU_ok, nmU, rfl, by decide +kernel, by decide +kernel⟩
theorem f_U_50 : m_fl "HoleFiller$Cursor" 50 2 8 := ⟨_, _, _, rfl, by decide, u_U, Or.inl (m_mem (i := 214) (by decide +kernel) rfl)⟩
theorem p_U_50 : m_fp "HoleFiller$Cursor" 50 2 8 (.int) false := ⟨_, _, _, tyU, rfl, by decide, u_U, Or.inl (m_mem (i := 214) (by decide +kernel) rfl), tyU_ok, nmU, rfl, by decide +kernel, by decide +kernel⟩
theorem f_U_53 : m_fl "HoleFiller$Cursor" 53 2 9 := ⟨_, _, _, rfl, by decide, u_U, Or.inl (m_mem (i := 215) (by decide +kernel) rfl)⟩
theorem p_U_53 : m_fp "HoleFiller$Cursor" 53 2 9 (.int) false := ⟨_, _, _, tyU, rfl, by decide, u_U, Or.inl (m_mem (i := 215) (by decide +kernel) rfl), tyU_ok, nmU, rfl, by decide +kernel, by decide +kernel⟩
theorem f_U_56 : m_fl "HoleFiller$Cursor" 56 2 11 := ⟨_, _, _, rfl, by decide, u_U, Or.inl (m_mem (i := 222) (by decide +kernel) rfl)⟩
theorem p_U_56 : m_fp "HoleFiller$Cursor" 56 2 11 (.int) false := ⟨_, _, _, tyU, rfl, by decide, u_U, Or.inl (m_mem (i := 222) (by decide +kernel) rfl), tyU_ok, nmU, rfl, by decide +kernel, by decide +kernel⟩
theorem f_U_95 : m_fl "HoleFiller$Cursor" 95 3 2 := ⟨_, _, _, rfl, by decide, u_G, Or.inr ⟨"HoleFiller", by decide +kernel⟩⟩
theorem f_U_98 : m_fl "HoleFiller$Cursor" 98 3 3 := ⟨_, _, _, rfl, by decide, u_G, Or.inr ⟨"HoleFiller", by decide +kernel⟩⟩
theorem f_G_9 : m_fl "HoleFiller$Holes" 9 3 1 := ⟨_, _, _, rfl, by decide, u_G, Or.inl (m_mem (i := 119) (by decide +kernel) rfl)⟩
theorem p_G_9 : m_fp "HoleFiller$Holes" 9 3 1 (.array .int) true := ⟨_, _, _, tyG, rfl, by decide, u_G, Or.inl (m_mem (i := 119) (by decide +kernel) rfl), tyG_ok, nmG, rfl, by decide +kernel, by decide +kernel⟩
theorem f_G_15 : m_fl "HoleFiller$Holes" 15 3 2 := ⟨_, _, _, rfl, by decide, u_G, Or.inl (m_mem (i := 120) (by decide +kernel) rfl)⟩
theorem p_G_15 : m_fp "HoleFiller$Holes" 15 3 2 (.array .int) true := ⟨_, _, _, tyG, rfl, by decide, u_G, Or.inl (m_mem (i := 120) (by decide +kernel) rfl), tyG_ok, nmG, rfl, by decide +kernel, by decide +kernel⟩
theorem f_G_18 : m_fl "HoleFiller$Holes" 18 3 3 := ⟨_, _, _, rfl, by decide, u_G, Or.inl (m_mem (i := 123) (by decide +kernel) rfl)⟩
theorem p_G_18 : m_fp "HoleFiller$Holes" 18 3 3 (.array .int) true := ⟨_, _, _, tyG, rfl, by decide, u_G, Or.inl (m_mem (i := 123) (by decide +kernel) rfl), tyG_ok, nmG, rfl, by decide +kernel, by decide +kernel⟩
theorem f_G_21 : m_fl "HoleFiller$Holes" 21 3 4 := ⟨_, _, _, rfl, by decide, u_G, Or.inl (m_mem (i := 126) (by decide +kernel) rfl)⟩
theorem p_G_21 : m_fp "HoleFiller$Holes" 21 3 4 (.array .int) true := ⟨_, _, _, tyG, rfl, by decide, u_G, Or.inl (m_mem (i := 126) (by decide +kernel) rfl), tyG_ok, nmG, rfl, by decide +kernel, by decide +kernel⟩
theorem f_G_24 : m_fl "HoleFiller$Holes" 24 3 5 := ⟨_, _, _, rfl, by decide, u_G, Or.inl (m_mem (i := 128) (by decide +kernel) rfl)⟩
theorem p_G_24 : m_fp "HoleFiller$Holes" 24 3 5 (.array .int) true := ⟨_, _, _, tyG, rfl, by decide, u_G, Or.inl (m_mem (i := 128) (by decide +kernel) rfl), tyG_ok, nmG, rfl, by decide +kernel, by decide +kernel⟩
theorem f_G_27 : m_fl "HoleFiller$Holes" 27 3 0 := ⟨_, _, _, rfl, by decide, u_G, Or.inl (m_mem (i := 118) (by decide +kernel) rfl)⟩
theorem p_G_27 : m_fp "HoleFiller$Holes" 27 3 0 (.object "HoleFiller$Cells") true := ⟨_, _, _, tyG, rfl, by decide, u_G, Or.inl (m_mem (i := 118) (by decide +kernel) rfl), tyG_ok, nmG, rfl, by decide +kernel, by decide +kernel⟩
theorem f_G_31 : m_fl "HoleFiller$Holes" 31 3 6 := ⟨_, _, _, rfl, by decide, u_G, Or.inl (m_mem (i := 129) (by decide +kernel) rfl)⟩
theorem p_G_31 : m_fp "HoleFiller$Holes" 31 3 6 (.int) false := ⟨_, _, _, tyG, rfl, by decide, u_G, Or.inl (m_mem (i := 129) (by decide +kernel) rfl), tyG_ok, nmG, rfl, by decide +kernel, by decide +kernel⟩
theorem f_G_39 : m_fl "HoleFiller$Holes" 39 3 7 := ⟨_, _, _, rfl, by decide, u_G, Or.inl (m_mem (i := 131) (by decide +kernel) rfl)⟩
theorem p_G_39 : m_fp "HoleFiller$Holes" 39 3 7 (.int) false := ⟨_, _, _, tyG, rfl, by decide, u_G, Or.inl (m_mem (i := 131) (by decide +kernel) rfl), tyG_ok, nmG, rfl, by decide +kernel, by decide +kernel⟩
theorem f_G_46 : m_fl "HoleFiller$Holes" 46 1 2 := ⟨_, _, _, rfl, by decide, u_C, Or.inr ⟨"HoleFiller", by decide +kernel⟩⟩
theorem p_G_46 : m_fp "HoleFiller$Holes" 46 1 2 (.int) false := ⟨_, _, _, tyC, rfl, by decide, u_C, Or.inr ⟨rfl, "HoleFiller", by decide +kernel⟩, tyC_ok, nmC, rfl, by decide +kernel, by decide +kernel⟩
theorem f_G_66 : m_fl "HoleFiller$Holes" 66 3 8 := ⟨_, _, _, rfl, by decide, u_G, Or.inl (m_mem (i := 134) (by decide +kernel) rfl)⟩
theorem p_G_66 : m_fp "HoleFiller$Holes" 66 3 8 (.int) false := ⟨_, _, _, tyG, rfl, by decide, u_G, Or.inl (m_mem (i := 134) (by decide +kernel) rfl), tyG_ok, nmG, rfl, by decide +kernel, by decide +kernel⟩
theorem f_O_9 : m_fl "HoleFiller$Operations" 9 4 0 := ⟨_, _, _, rfl, by decide, u_O, Or.inl (m_mem (i := 101) (by decide +kernel) rfl)⟩
theorem p_O_9 : m_fp "HoleFiller$Operations" 9 4 0 (.array .int) true := ⟨_, _, _, tyO, rfl, by decide, u_O, Or.inl (m_mem (i := 101) (by decide +kernel) rfl), tyO_ok, nmO, rfl, by decide +kernel, by decide +kernel⟩
theorem f_O_15 : m_fl "HoleFiller$Operations" 15 4 1 := ⟨_, _, _, rfl, by decide, u_O, Or.inl (m_mem (i := 102) (by decide +kernel) rfl)⟩
theorem p_O_15 : m_fp "HoleFiller$Operations" 15 4 1 (.array .int) true := ⟨_, _, _, tyO, rfl, by decide, u_O, Or.inl (m_mem (i := 102) (by decide +kernel) rfl), tyO_ok, nmO, rfl, by decide +kernel, by decide +kernel⟩
theorem f_O_18 : m_fl "HoleFiller$Operations" 18 4 2 := ⟨_, _, _, rfl, by decide, u_O, Or.inl (m_mem (i := 103) (by decide +kernel) rfl)⟩
theorem p_O_18 : m_fp "HoleFiller$Operations" 18 4 2 (.int) false := ⟨_, _, _, tyO, rfl, by decide, u_O, Or.inl (m_mem (i := 103) (by decide +kernel) rfl), tyO_ok, nmO, rfl, by decide +kernel, by decide +kernel⟩
theorem f_R_9 : m_fl "HoleFiller$Reader" 9 5 0 := ⟨_, _, _, rfl, by decide, u_R, Or.inl (m_mem (i := 290) (by decide +kernel) rfl)⟩
theorem p_R_9 : m_fp "HoleFiller$Reader" 9 5 0 (.array .int) false := ⟨_, _, _, tyR, rfl, by decide, u_R, Or.inl (m_mem (i := 290) (by decide +kernel) rfl), tyR_ok, nmR, rfl, by decide +kernel, by decide +kernel⟩
theorem f_R_15 : m_fl "HoleFiller$Reader" 15 5 3 := ⟨_, _, _, rfl, by decide, u_R, Or.inl (m_mem (i := 296) (by decide +kernel) rfl)⟩
theorem p_R_15 : m_fp "HoleFiller$Reader" 15 5 3 (.array .int) true := ⟨_, _, _, tyR, rfl, by decide, u_R, Or.inl (m_mem (i := 296) (by decide +kernel) rfl), tyR_ok, nmR, rfl, by decide +kernel, by decide +kernel⟩
theorem f_R_18 : m_fl "HoleFiller$Reader" 18 5 4 := ⟨_, _, _, rfl, by decide, u_R, Or.inl (m_mem (i := 297) (by decide +kernel) rfl)⟩
theorem p_R_18 : m_fp "HoleFiller$Reader" 18 5 4 (.array .int) true := ⟨_, _, _, tyR, rfl, by decide, u_R, Or.inl (m_mem (i := 297) (by decide +kernel) rfl), tyR_ok, nmR, rfl, by decide +kernel, by decide +kernel⟩
theorem f_R_21 : m_fl "HoleFiller$Reader" 21 5 1 := ⟨_, _, _, rfl, by decide, u_R, Or.inl (m_mem (i := 292) (by decide +kernel) rfl)⟩
theorem p_R_21 : m_fp "HoleFiller$Reader" 21 5 1 (.int) false := ⟨_, _, _, tyR, rfl, by decide, u_R, Or.inl (m_mem (i := 292) (by decide +kernel) rfl), tyR_ok, nmR, rfl, by decide +kernel, by decide +kernel⟩
theorem f_R_25 : m_fl "HoleFiller$Reader" 25 5 2 := ⟨_, _, _, rfl, by decide, u_R, Or.inl (m_mem (i := 294) (by decide +kernel) rfl)⟩
theorem p_R_25 : m_fp "HoleFiller$Reader" 25 5 2 (.int) false := ⟨_, _, _, tyR, rfl, by decide, u_R, Or.inl (m_mem (i := 294) (by decide +kernel) rfl), tyR_ok, nmR, rfl, by decide +kernel, by decide +kernel⟩
theorem f_R_41 : m_fl "HoleFiller$Reader" 41 2 7 := ⟨_, _, _, rfl, by decide, u_U, Or.inr ⟨"HoleFiller", by decide +kernel⟩⟩
theorem f_R_48 : m_fl "HoleFiller$Reader" 48 2 8 := ⟨_, _, _, rfl, by decide, u_U, Or.inr ⟨"HoleFiller", by decide +kernel⟩⟩
theorem f_R_71 : m_fl "HoleFiller$Reader" 71 2 11 := ⟨_, _, _, rfl, by decide, u_U, Or.inr ⟨"HoleFiller", by decide +kernel⟩⟩
theorem f_R_74 : m_fl "HoleFiller$Reader" 74 2 10 := ⟨_, _, _, rfl, by decide, u_U, Or.inr ⟨"HoleFiller", by decide +kernel⟩⟩
theorem f_S_9 : m_fl "HoleFiller$Slot" 9 6 2 := ⟨_, _, _, rfl, by decide, u_S, Or.inl (m_mem (i := 164) (by decide +kernel) rfl)⟩
theorem p_S_9 : m_fp "HoleFiller$Slot" 9 6 2 (.array .int) true := ⟨_, _, _, tyS, rfl, by decide, u_S, Or.inl (m_mem (i := 164) (by decide +kernel) rfl), tyS_ok, nmS, rfl, by decide +kernel, by decide +kernel⟩
theorem f_S_15 : m_fl "HoleFiller$Slot" 15 6 0 := ⟨_, _, _, rfl, by decide, u_S, Or.inl (m_mem (i := 161) (by decide +kernel) rfl)⟩
theorem p_S_15 : m_fp "HoleFiller$Slot" 15 6 0 (.object "HoleFiller$Cells") true := ⟨_, _, _, tyS, rfl, by decide, u_S, Or.inl (m_mem (i := 161) (by decide +kernel) rfl), tyS_ok, nmS, rfl, by decide +kernel, by decide +kernel⟩
theorem f_S_19 : m_fl "HoleFiller$Slot" 19 6 1 := ⟨_, _, _, rfl, by decide, u_S, Or.inl (m_mem (i := 162) (by decide +kernel) rfl)⟩
theorem p_S_19 : m_fp "HoleFiller$Slot" 19 6 1 (.int) true := ⟨_, _, _, tyS, rfl, by decide, u_S, Or.inl (m_mem (i := 162) (by decide +kernel) rfl), tyS_ok, nmS, rfl, by decide +kernel, by decide +kernel⟩
theorem f_S_23 : m_fl "HoleFiller$Slot" 23 6 4 := ⟨_, _, _, rfl, by decide, u_S, Or.inl (m_mem (i := 166) (by decide +kernel) rfl)⟩
theorem p_S_23 : m_fp "HoleFiller$Slot" 23 6 4 (.int) false := ⟨_, _, _, tyS, rfl, by decide, u_S, Or.inl (m_mem (i := 166) (by decide +kernel) rfl), tyS_ok, nmS, rfl, by decide +kernel, by decide +kernel⟩
theorem f_S_26 : m_fl "HoleFiller$Slot" 26 6 5 := ⟨_, _, _, rfl, by decide, u_S, Or.inl (m_mem (i := 168) (by decide +kernel) rfl)⟩
theorem p_S_26 : m_fp "HoleFiller$Slot" 26 6 5 (.int) false := ⟨_, _, _, tyS, rfl, by decide, u_S, Or.inl (m_mem (i := 168) (by decide +kernel) rfl), tyS_ok, nmS, rfl, by decide +kernel, by decide +kernel⟩
theorem f_S_29 : m_fl "HoleFiller$Slot" 29 6 6 := ⟨_, _, _, rfl, by decide, u_S, Or.inl (m_mem (i := 170) (by decide +kernel) rfl)⟩
theorem p_S_29 : m_fp "HoleFiller$Slot" 29 6 6 (.int) false := ⟨_, _, _, tyS, rfl, by decide, u_S, Or.inl (m_mem (i := 170) (by decide +kernel) rfl), tyS_ok, nmS, rfl, by decide +kernel, by decide +kernel⟩
theorem f_S_32 : m_fl "HoleFiller$Slot" 32 6 7 := ⟨_, _, _, rfl, by decide, u_S, Or.inl (m_mem (i := 172) (by decide +kernel) rfl)⟩
theorem p_S_32 : m_fp "HoleFiller$Slot" 32 6 7 (.int) false := ⟨_, _, _, tyS, rfl, by decide, u_S, Or.inl (m_mem (i := 172) (by decide +kernel) rfl), tyS_ok, nmS, rfl, by decide +kernel, by decide +kernel⟩
theorem f_S_39 : m_fl "HoleFiller$Slot" 39 6 3 := ⟨_, _, _, rfl, by decide, u_S, Or.inl (m_mem (i := 165) (by decide +kernel) rfl)⟩
theorem p_S_39 : m_fp "HoleFiller$Slot" 39 6 3 (.int) false := ⟨_, _, _, tyS, rfl, by decide, u_S, Or.inl (m_mem (i := 165) (by decide +kernel) rfl), tyS_ok, nmS, rfl, by decide +kernel, by decide +kernel⟩
theorem f_S_53 : m_fl "HoleFiller$Slot" 53 6 9 := ⟨_, _, _, rfl, by decide, u_S, Or.inl (m_mem (i := 174) (by decide +kernel) rfl)⟩
theorem p_S_53 : m_fp "HoleFiller$Slot" 53 6 9 (.int) false := ⟨_, _, _, tyS, rfl, by decide, u_S, Or.inl (m_mem (i := 174) (by decide +kernel) rfl), tyS_ok, nmS, rfl, by decide +kernel, by decide +kernel⟩
theorem f_S_63 : m_fl "HoleFiller$Slot" 63 6 8 := ⟨_, _, _, rfl, by decide, u_S, Or.inl (m_mem (i := 173) (by decide +kernel) rfl)⟩
theorem p_S_63 : m_fp "HoleFiller$Slot" 63 6 8 (.int) false := ⟨_, _, _, tyS, rfl, by decide, u_S, Or.inl (m_mem (i := 173) (by decide +kernel) rfl), tyS_ok, nmS, rfl, by decide +kernel, by decide +kernel⟩
theorem f_N_9 : m_fl "HoleFiller$Unifier" 9 7 6 := ⟨_, _, _, rfl, by decide, u_N, Or.inl (m_mem (i := 262) (by decide +kernel) rfl)⟩
theorem p_N_9 : m_fp "HoleFiller$Unifier" 9 7 6 (.array .int) true := ⟨_, _, _, tyN, rfl, by decide, u_N, Or.inl (m_mem (i := 262) (by decide +kernel) rfl), tyN_ok, nmN, rfl, by decide +kernel, by decide +kernel⟩
theorem f_N_15 : m_fl "HoleFiller$Unifier" 15 7 7 := ⟨_, _, _, rfl, by decide, u_N, Or.inl (m_mem (i := 263) (by decide +kernel) rfl)⟩
theorem p_N_15 : m_fp "HoleFiller$Unifier" 15 7 7 (.array .int) true := ⟨_, _, _, tyN, rfl, by decide, u_N, Or.inl (m_mem (i := 263) (by decide +kernel) rfl), tyN_ok, nmN, rfl, by decide +kernel, by decide +kernel⟩
theorem f_N_18 : m_fl "HoleFiller$Unifier" 18 7 0 := ⟨_, _, _, rfl, by decide, u_N, Or.inl (m_mem (i := 256) (by decide +kernel) rfl)⟩
theorem p_N_18 : m_fp "HoleFiller$Unifier" 18 7 0 (.object "HoleFiller$Cells") true := ⟨_, _, _, tyN, rfl, by decide, u_N, Or.inl (m_mem (i := 256) (by decide +kernel) rfl), tyN_ok, nmN, rfl, by decide +kernel, by decide +kernel⟩
theorem f_N_22 : m_fl "HoleFiller$Unifier" 22 7 1 := ⟨_, _, _, rfl, by decide, u_N, Or.inl (m_mem (i := 257) (by decide +kernel) rfl)⟩
theorem p_N_22 : m_fp "HoleFiller$Unifier" 22 7 1 (.object "HoleFiller$Holes") true := ⟨_, _, _, tyN, rfl, by decide, u_N, Or.inl (m_mem (i := 257) (by decide +kernel) rfl), tyN_ok, nmN, rfl, by decide +kernel, by decide +kernel⟩
theorem f_N_26 : m_fl "HoleFiller$Unifier" 26 7 2 := ⟨_, _, _, rfl, by decide, u_N, Or.inl (m_mem (i := 258) (by decide +kernel) rfl)⟩
theorem p_N_26 : m_fp "HoleFiller$Unifier" 26 7 2 (.object "HoleFiller$Operations") true := ⟨_, _, _, tyN, rfl, by decide, u_N, Or.inl (m_mem (i := 258) (by decide +kernel) rfl), tyN_ok, nmN, rfl, by decide +kernel, by decide +kernel⟩
theorem f_N_30 : m_fl "HoleFiller$Unifier" 30 7 3 := ⟨_, _, _, rfl, by decide, u_N, Or.inl (m_mem (i := 259) (by decide +kernel) rfl)⟩
theorem p_N_30 : m_fp "HoleFiller$Unifier" 30 7 3 (.object "HoleFiller$Cursor") true := ⟨_, _, _, tyN, rfl, by decide, u_N, Or.inl (m_mem (i := 259) (by decide +kernel) rfl), tyN_ok, nmN, rfl, by decide +kernel, by decide +kernel⟩
theorem f_N_34 : m_fl "HoleFiller$Unifier" 34 7 4 := ⟨_, _, _, rfl, by decide, u_N, Or.inl (m_mem (i := 260) (by decide +kernel) rfl)⟩
theorem p_N_34 : m_fp "HoleFiller$Unifier" 34 7 4 (.object "HoleFiller$Cursor") true := ⟨_, _, _, tyN, rfl, by decide, u_N, Or.inl (m_mem (i := 260) (by decide +kernel) rfl), tyN_ok, nmN, rfl, by decide +kernel, by decide +kernel⟩
theorem f_N_42 : m_fl "HoleFiller$Unifier" 42 7 5 := ⟨_, _, _, rfl, by decide, u_N, Or.inl (m_mem (i := 261) (by decide +kernel) rfl)⟩
theorem p_N_42 : m_fp "HoleFiller$Unifier" 42 7 5 (.object "HoleFiller$Cursor") true := ⟨_, _, _, tyN, rfl, by decide, u_N, Or.inl (m_mem (i := 261) (by decide +kernel) rfl), tyN_ok, nmN, rfl, by decide +kernel, by decide +kernel⟩
theorem f_N_50 : m_fl "HoleFiller$Unifier" 50 2 7 := ⟨_, _, _, rfl, by decide, u_U, Or.inr ⟨"HoleFiller", by decide +kernel⟩⟩
theorem f_N_54 : m_fl "HoleFiller$Unifier" 54 2 8 := ⟨_, _, _, rfl, by decide, u_U, Or.inr ⟨"HoleFiller", by decide +kernel⟩⟩
theorem f_N_72 : m_fl "HoleFiller$Unifier" 72 2 11 := ⟨_, _, _, rfl, by decide, u_U, Or.inr ⟨"HoleFiller", by decide +kernel⟩⟩
theorem f_N_75 : m_fl "HoleFiller$Unifier" 75 2 10 := ⟨_, _, _, rfl, by decide, u_U, Or.inr ⟨"HoleFiller", by decide +kernel⟩⟩
theorem f_N_107 : m_fl "HoleFiller$Unifier" 107 7 8 := ⟨_, _, _, rfl, by decide, u_N, Or.inl (m_mem (i := 264) (by decide +kernel) rfl)⟩
theorem p_N_107 : m_fp "HoleFiller$Unifier" 107 7 8 (.int) false := ⟨_, _, _, tyN, rfl, by decide, u_N, Or.inl (m_mem (i := 264) (by decide +kernel) rfl), tyN_ok, nmN, rfl, by decide +kernel, by decide +kernel⟩
theorem f_N_110 : m_fl "HoleFiller$Unifier" 110 1 2 := ⟨_, _, _, rfl, by decide, u_C, Or.inr ⟨"HoleFiller", by decide +kernel⟩⟩
theorem f_N_142 : m_fl "HoleFiller$Unifier" 142 2 9 := ⟨_, _, _, rfl, by decide, u_U, Or.inr ⟨"HoleFiller", by decide +kernel⟩⟩
theorem f_D_7 : m_fl "HoleFillerModel" 7 8 4 := ⟨_, _, _, rfl, by decide, u_D, Or.inl (m_mem (i := 857) (by decide +kernel) rfl)⟩
theorem p_D_7 : m_fp "HoleFillerModel" 7 8 4 (.array .int) true := ⟨_, _, _, tyD, rfl, by decide, u_D, Or.inl (m_mem (i := 857) (by decide +kernel) rfl), tyD_ok, nmD, rfl, by decide +kernel, by decide +kernel⟩
theorem f_D_13 : m_fl "HoleFillerModel" 13 8 5 := ⟨_, _, _, rfl, by decide, u_D, Or.inl (m_mem (i := 858) (by decide +kernel) rfl)⟩
theorem p_D_13 : m_fp "HoleFillerModel" 13 8 5 (.array .int) true := ⟨_, _, _, tyD, rfl, by decide, u_D, Or.inl (m_mem (i := 858) (by decide +kernel) rfl), tyD_ok, nmD, rfl, by decide +kernel, by decide +kernel⟩
theorem f_D_16 : m_fl "HoleFillerModel" 16 8 6 := ⟨_, _, _, rfl, by decide, u_D, Or.inl (m_mem (i := 859) (by decide +kernel) rfl)⟩
theorem p_D_16 : m_fp "HoleFillerModel" 16 8 6 (.array .int) true := ⟨_, _, _, tyD, rfl, by decide, u_D, Or.inl (m_mem (i := 859) (by decide +kernel) rfl), tyD_ok, nmD, rfl, by decide +kernel, by decide +kernel⟩
theorem f_D_19 : m_fl "HoleFillerModel" 19 8 7 := ⟨_, _, _, rfl, by decide, u_D, Or.inl (m_mem (i := 860) (by decide +kernel) rfl)⟩
theorem p_D_19 : m_fp "HoleFillerModel" 19 8 7 (.array .int) true := ⟨_, _, _, tyD, rfl, by decide, u_D, Or.inl (m_mem (i := 860) (by decide +kernel) rfl), tyD_ok, nmD, rfl, by decide +kernel, by decide +kernel⟩
theorem f_D_23 : m_fl "HoleFillerModel" 23 8 8 := ⟨_, _, _, rfl, by decide, u_D, Or.inl (m_mem (i := 861) (by decide +kernel) rfl)⟩
theorem p_D_23 : m_fp "HoleFillerModel" 23 8 8 (.array .int) true := ⟨_, _, _, tyD, rfl, by decide, u_D, Or.inl (m_mem (i := 861) (by decide +kernel) rfl), tyD_ok, nmD, rfl, by decide +kernel, by decide +kernel⟩
theorem f_D_26 : m_fl "HoleFillerModel" 26 8 9 := ⟨_, _, _, rfl, by decide, u_D, Or.inl (m_mem (i := 862) (by decide +kernel) rfl)⟩
theorem p_D_26 : m_fp "HoleFillerModel" 26 8 9 (.array .boolean) true := ⟨_, _, _, tyD, rfl, by decide, u_D, Or.inl (m_mem (i := 862) (by decide +kernel) rfl), tyD_ok, nmD, rfl, by decide +kernel, by decide +kernel⟩
theorem f_D_30 : m_fl "HoleFillerModel" 30 8 10 := ⟨_, _, _, rfl, by decide, u_D, Or.inl (m_mem (i := 863) (by decide +kernel) rfl)⟩
theorem p_D_30 : m_fp "HoleFillerModel" 30 8 10 (.array .boolean) true := ⟨_, _, _, tyD, rfl, by decide, u_D, Or.inl (m_mem (i := 863) (by decide +kernel) rfl), tyD_ok, nmD, rfl, by decide +kernel, by decide +kernel⟩
theorem f_D_33 : m_fl "HoleFillerModel" 33 8 11 := ⟨_, _, _, rfl, by decide, u_D, Or.inl (m_mem (i := 864) (by decide +kernel) rfl)⟩
theorem p_D_33 : m_fp "HoleFillerModel" 33 8 11 (.array .int) true := ⟨_, _, _, tyD, rfl, by decide, u_D, Or.inl (m_mem (i := 864) (by decide +kernel) rfl), tyD_ok, nmD, rfl, by decide +kernel, by decide +kernel⟩
theorem f_D_36 : m_fl "HoleFillerModel" 36 8 12 := ⟨_, _, _, rfl, by decide, u_D, Or.inl (m_mem (i := 865) (by decide +kernel) rfl)⟩
theorem p_D_36 : m_fp "HoleFillerModel" 36 8 12 (.array .int) true := ⟨_, _, _, tyD, rfl, by decide, u_D, Or.inl (m_mem (i := 865) (by decide +kernel) rfl), tyD_ok, nmD, rfl, by decide +kernel, by decide +kernel⟩
theorem f_D_39 : m_fl "HoleFillerModel" 39 8 13 := ⟨_, _, _, rfl, by decide, u_D, Or.inl (m_mem (i := 866) (by decide +kernel) rfl)⟩
theorem p_D_39 : m_fp "HoleFillerModel" 39 8 13 (.array .int) true := ⟨_, _, _, tyD, rfl, by decide, u_D, Or.inl (m_mem (i := 866) (by decide +kernel) rfl), tyD_ok, nmD, rfl, by decide +kernel, by decide +kernel⟩
theorem f_D_42 : m_fl "HoleFillerModel" 42 8 14 := ⟨_, _, _, rfl, by decide, u_D, Or.inl (m_mem (i := 867) (by decide +kernel) rfl)⟩
theorem p_D_42 : m_fp "HoleFillerModel" 42 8 14 (.array .int) true := ⟨_, _, _, tyD, rfl, by decide, u_D, Or.inl (m_mem (i := 867) (by decide +kernel) rfl), tyD_ok, nmD, rfl, by decide +kernel, by decide +kernel⟩
theorem f_D_45 : m_fl "HoleFillerModel" 45 8 15 := ⟨_, _, _, rfl, by decide, u_D, Or.inl (m_mem (i := 868) (by decide +kernel) rfl)⟩
theorem p_D_45 : m_fp "HoleFillerModel" 45 8 15 (.array .int) true := ⟨_, _, _, tyD, rfl, by decide, u_D, Or.inl (m_mem (i := 868) (by decide +kernel) rfl), tyD_ok, nmD, rfl, by decide +kernel, by decide +kernel⟩
theorem f_D_48 : m_fl "HoleFillerModel" 48 8 16 := ⟨_, _, _, rfl, by decide, u_D, Or.inl (m_mem (i := 869) (by decide +kernel) rfl)⟩
theorem p_D_48 : m_fp "HoleFillerModel" 48 8 16 (.array .int) true := ⟨_, _, _, tyD, rfl, by decide, u_D, Or.inl (m_mem (i := 869) (by decide +kernel) rfl), tyD_ok, nmD, rfl, by decide +kernel, by decide +kernel⟩
theorem f_D_51 : m_fl "HoleFillerModel" 51 8 17 := ⟨_, _, _, rfl, by decide, u_D, Or.inl (m_mem (i := 870) (by decide +kernel) rfl)⟩
theorem p_D_51 : m_fp "HoleFillerModel" 51 8 17 (.array .int) true := ⟨_, _, _, tyD, rfl, by decide, u_D, Or.inl (m_mem (i := 870) (by decide +kernel) rfl), tyD_ok, nmD, rfl, by decide +kernel, by decide +kernel⟩
theorem f_D_54 : m_fl "HoleFillerModel" 54 8 18 := ⟨_, _, _, rfl, by decide, u_D, Or.inl (m_mem (i := 871) (by decide +kernel) rfl)⟩
theorem p_D_54 : m_fp "HoleFillerModel" 54 8 18 (.array .boolean) true := ⟨_, _, _, tyD, rfl, by decide, u_D, Or.inl (m_mem (i := 871) (by decide +kernel) rfl), tyD_ok, nmD, rfl, by decide +kernel, by decide +kernel⟩
theorem f_D_57 : m_fl "HoleFillerModel" 57 8 19 := ⟨_, _, _, rfl, by decide, u_D, Or.inl (m_mem (i := 872) (by decide +kernel) rfl)⟩
theorem p_D_57 : m_fp "HoleFillerModel" 57 8 19 (.array .int) true := ⟨_, _, _, tyD, rfl, by decide, u_D, Or.inl (m_mem (i := 872) (by decide +kernel) rfl), tyD_ok, nmD, rfl, by decide +kernel, by decide +kernel⟩
theorem f_D_60 : m_fl "HoleFillerModel" 60 8 20 := ⟨_, _, _, rfl, by decide, u_D, Or.inl (m_mem (i := 873) (by decide +kernel) rfl)⟩
theorem p_D_60 : m_fp "HoleFillerModel" 60 8 20 (.array .int) true := ⟨_, _, _, tyD, rfl, by decide, u_D, Or.inl (m_mem (i := 873) (by decide +kernel) rfl), tyD_ok, nmD, rfl, by decide +kernel, by decide +kernel⟩
theorem f_D_63 : m_fl "HoleFillerModel" 63 8 21 := ⟨_, _, _, rfl, by decide, u_D, Or.inl (m_mem (i := 874) (by decide +kernel) rfl)⟩
theorem p_D_63 : m_fp "HoleFillerModel" 63 8 21 (.array .int) true := ⟨_, _, _, tyD, rfl, by decide, u_D, Or.inl (m_mem (i := 874) (by decide +kernel) rfl), tyD_ok, nmD, rfl, by decide +kernel, by decide +kernel⟩
theorem f_D_66 : m_fl "HoleFillerModel" 66 8 22 := ⟨_, _, _, rfl, by decide, u_D, Or.inl (m_mem (i := 875) (by decide +kernel) rfl)⟩
theorem p_D_66 : m_fp "HoleFillerModel" 66 8 22 (.array .int) true := ⟨_, _, _, tyD, rfl, by decide, u_D, Or.inl (m_mem (i := 875) (by decide +kernel) rfl), tyD_ok, nmD, rfl, by decide +kernel, by decide +kernel⟩
theorem f_D_69 : m_fl "HoleFillerModel" 69 8 23 := ⟨_, _, _, rfl, by decide, u_D, Or.inl (m_mem (i := 876) (by decide +kernel) rfl)⟩
theorem p_D_69 : m_fp "HoleFillerModel" 69 8 23 (.array .int) true := ⟨_, _, _, tyD, rfl, by decide, u_D, Or.inl (m_mem (i := 876) (by decide +kernel) rfl), tyD_ok, nmD, rfl, by decide +kernel, by decide +kernel⟩
theorem p_D_72 : m_fp "HoleFillerModel" 72 8 24 (.array .int) true := ⟨_, _, _, tyD, rfl, by decide, u_D, Or.inl (m_mem (i := 877) (by decide +kernel) rfl), tyD_ok, nmD, rfl, by decide +kernel, by decide +kernel⟩
theorem f_D_76 : m_fl "HoleFillerModel" 76 8 25 := ⟨_, _, _, rfl, by decide, u_D, Or.inl (m_mem (i := 878) (by decide +kernel) rfl)⟩
theorem p_D_76 : m_fp "HoleFillerModel" 76 8 25 (.array .int) true := ⟨_, _, _, tyD, rfl, by decide, u_D, Or.inl (m_mem (i := 878) (by decide +kernel) rfl), tyD_ok, nmD, rfl, by decide +kernel, by decide +kernel⟩
theorem f_D_79 : m_fl "HoleFillerModel" 79 8 26 := ⟨_, _, _, rfl, by decide, u_D, Or.inl (m_mem (i := 879) (by decide +kernel) rfl)⟩
theorem p_D_79 : m_fp "HoleFillerModel" 79 8 26 (.array .int) true := ⟨_, _, _, tyD, rfl, by decide, u_D, Or.inl (m_mem (i := 879) (by decide +kernel) rfl), tyD_ok, nmD, rfl, by decide +kernel, by decide +kernel⟩
theorem f_D_82 : m_fl "HoleFillerModel" 82 8 27 := ⟨_, _, _, rfl, by decide, u_D, Or.inl (m_mem (i := 880) (by decide +kernel) rfl)⟩
theorem p_D_82 : m_fp "HoleFillerModel" 82 8 27 (.array .int) true := ⟨_, _, _, tyD, rfl, by decide, u_D, Or.inl (m_mem (i := 880) (by decide +kernel) rfl), tyD_ok, nmD, rfl, by decide +kernel, by decide +kernel⟩
theorem f_D_85 : m_fl "HoleFillerModel" 85 8 28 := ⟨_, _, _, rfl, by decide, u_D, Or.inl (m_mem (i := 881) (by decide +kernel) rfl)⟩
theorem p_D_85 : m_fp "HoleFillerModel" 85 8 28 (.array .int) true := ⟨_, _, _, tyD, rfl, by decide, u_D, Or.inl (m_mem (i := 881) (by decide +kernel) rfl), tyD_ok, nmD, rfl, by decide +kernel, by decide +kernel⟩
theorem f_D_88 : m_fl "HoleFillerModel" 88 8 32 := ⟨_, _, _, rfl, by decide, u_D, Or.inl (m_mem (i := 885) (by decide +kernel) rfl)⟩
theorem p_D_88 : m_fp "HoleFillerModel" 88 8 32 (.array .int) true := ⟨_, _, _, tyD, rfl, by decide, u_D, Or.inl (m_mem (i := 885) (by decide +kernel) rfl), tyD_ok, nmD, rfl, by decide +kernel, by decide +kernel⟩
theorem f_D_91 : m_fl "HoleFillerModel" 91 8 33 := ⟨_, _, _, rfl, by decide, u_D, Or.inl (m_mem (i := 886) (by decide +kernel) rfl)⟩
theorem p_D_91 : m_fp "HoleFillerModel" 91 8 33 (.array .int) true := ⟨_, _, _, tyD, rfl, by decide, u_D, Or.inl (m_mem (i := 886) (by decide +kernel) rfl), tyD_ok, nmD, rfl, by decide +kernel, by decide +kernel⟩
theorem f_D_94 : m_fl "HoleFillerModel" 94 8 34 := ⟨_, _, _, rfl, by decide, u_D, Or.inl (m_mem (i := 887) (by decide +kernel) rfl)⟩
theorem p_D_94 : m_fp "HoleFillerModel" 94 8 34 (.array .int) true := ⟨_, _, _, tyD, rfl, by decide, u_D, Or.inl (m_mem (i := 887) (by decide +kernel) rfl), tyD_ok, nmD, rfl, by decide +kernel, by decide +kernel⟩
theorem f_D_97 : m_fl "HoleFillerModel" 97 8 35 := ⟨_, _, _, rfl, by decide, u_D, Or.inl (m_mem (i := 888) (by decide +kernel) rfl)⟩
theorem p_D_97 : m_fp "HoleFillerModel" 97 8 35 (.array .int) true := ⟨_, _, _, tyD, rfl, by decide, u_D, Or.inl (m_mem (i := 888) (by decide +kernel) rfl), tyD_ok, nmD, rfl, by decide +kernel, by decide +kernel⟩
theorem f_D_100 : m_fl "HoleFillerModel" 100 8 0 := ⟨_, _, _, rfl, by decide, u_D, Or.inl (m_mem (i := 853) (by decide +kernel) rfl)⟩
theorem p_D_100 : m_fp "HoleFillerModel" 100 8 0 (.int) false := ⟨_, _, _, tyD, rfl, by decide, u_D, Or.inl (m_mem (i := 853) (by decide +kernel) rfl), tyD_ok, nmD, rfl, by decide +kernel, by decide +kernel⟩
theorem f_D_108 : m_fl "HoleFillerModel" 108 8 1 := ⟨_, _, _, rfl, by decide, u_D, Or.inl (m_mem (i := 854) (by decide +kernel) rfl)⟩
theorem p_D_108 : m_fp "HoleFillerModel" 108 8 1 (.int) false := ⟨_, _, _, tyD, rfl, by decide, u_D, Or.inl (m_mem (i := 854) (by decide +kernel) rfl), tyD_ok, nmD, rfl, by decide +kernel, by decide +kernel⟩
theorem f_D_111 : m_fl "HoleFillerModel" 111 8 2 := ⟨_, _, _, rfl, by decide, u_D, Or.inl (m_mem (i := 855) (by decide +kernel) rfl)⟩
theorem p_D_111 : m_fp "HoleFillerModel" 111 8 2 (.int) false := ⟨_, _, _, tyD, rfl, by decide, u_D, Or.inl (m_mem (i := 855) (by decide +kernel) rfl), tyD_ok, nmD, rfl, by decide +kernel, by decide +kernel⟩
theorem f_D_144 : m_fl "HoleFillerModel" 144 8 3 := ⟨_, _, _, rfl, by decide, u_D, Or.inl (m_mem (i := 856) (by decide +kernel) rfl)⟩
theorem p_D_144 : m_fp "HoleFillerModel" 144 8 3 (.int) false := ⟨_, _, _, tyD, rfl, by decide, u_D, Or.inl (m_mem (i := 856) (by decide +kernel) rfl), tyD_ok, nmD, rfl, by decide +kernel, by decide +kernel⟩
theorem f_D_151 : m_fl "HoleFillerModel" 151 8 31 := ⟨_, _, _, rfl, by decide, u_D, Or.inl (m_mem (i := 884) (by decide +kernel) rfl)⟩
theorem p_D_151 : m_fp "HoleFillerModel" 151 8 31 (.int) false := ⟨_, _, _, tyD, rfl, by decide, u_D, Or.inl (m_mem (i := 884) (by decide +kernel) rfl), tyD_ok, nmD, rfl, by decide +kernel, by decide +kernel⟩
theorem f_D_154 : m_fl "HoleFillerModel" 154 8 29 := ⟨_, _, _, rfl, by decide, u_D, Or.inl (m_mem (i := 882) (by decide +kernel) rfl)⟩
theorem p_D_154 : m_fp "HoleFillerModel" 154 8 29 (.int) false := ⟨_, _, _, tyD, rfl, by decide, u_D, Or.inl (m_mem (i := 882) (by decide +kernel) rfl), tyD_ok, nmD, rfl, by decide +kernel, by decide +kernel⟩
theorem f_D_157 : m_fl "HoleFillerModel" 157 8 30 := ⟨_, _, _, rfl, by decide, u_D, Or.inl (m_mem (i := 883) (by decide +kernel) rfl)⟩
theorem p_D_157 : m_fp "HoleFillerModel" 157 8 30 (.int) false := ⟨_, _, _, tyD, rfl, by decide, u_D, Or.inl (m_mem (i := 883) (by decide +kernel) rfl), tyD_ok, nmD, rfl, by decide +kernel, by decide +kernel⟩
theorem f_D_215 : m_fl "HoleFillerModel" 215 8 38 := ⟨_, _, _, rfl, by decide, u_D, Or.inl (m_mem (i := 891) (by decide +kernel) rfl)⟩
theorem p_D_215 : m_fp "HoleFillerModel" 215 8 38 (.int) false := ⟨_, _, _, tyD, rfl, by decide, u_D, Or.inl (m_mem (i := 891) (by decide +kernel) rfl), tyD_ok, nmD, rfl, by decide +kernel, by decide +kernel⟩
theorem f_D_218 : m_fl "HoleFillerModel" 218 8 39 := ⟨_, _, _, rfl, by decide, u_D, Or.inl (m_mem (i := 892) (by decide +kernel) rfl)⟩
theorem p_D_218 : m_fp "HoleFillerModel" 218 8 39 (.int) false := ⟨_, _, _, tyD, rfl, by decide, u_D, Or.inl (m_mem (i := 892) (by decide +kernel) rfl), tyD_ok, nmD, rfl, by decide +kernel, by decide +kernel⟩
theorem f_D_221 : m_fl "HoleFillerModel" 221 8 37 := ⟨_, _, _, rfl, by decide, u_D, Or.inl (m_mem (i := 890) (by decide +kernel) rfl)⟩
theorem p_D_221 : m_fp "HoleFillerModel" 221 8 37 (.int) false := ⟨_, _, _, tyD, rfl, by decide, u_D, Or.inl (m_mem (i := 890) (by decide +kernel) rfl), tyD_ok, nmD, rfl, by decide +kernel, by decide +kernel⟩
theorem f_D_224 : m_fl "HoleFillerModel" 224 8 36 := ⟨_, _, _, rfl, by decide, u_D, Or.inl (m_mem (i := 889) (by decide +kernel) rfl)⟩
theorem p_D_224 : m_fp "HoleFillerModel" 224 8 36 (.int) false := ⟨_, _, _, tyD, rfl, by decide, u_D, Or.inl (m_mem (i := 889) (by decide +kernel) rfl), tyD_ok, nmD, rfl, by decide +kernel, by decide +kernel⟩
theorem lo_H_3 : Cond.methodLink "HoleFiller" 3 Lib.objectInit ∈ m_Ts := m_mem (i := 73) (by decide +kernel) rfl
theorem l_H_11 : m_lI "HoleFiller" 11 M_C_init := ⟨m_mem (i := 79) (by decide +kernel) rfl, rfl, rfl, rfl, Or.inr ⟨"HoleFiller", by decide +kernel⟩⟩
theorem l_H_14 : m_lI "HoleFiller" 14 M_O_init := ⟨m_mem (i := 98) (by decide +kernel) rfl, rfl, rfl, rfl, Or.inr ⟨"HoleFiller", by decide +kernel⟩⟩
theorem l_H_21 : m_lI "HoleFiller" 21 M_G_init := ⟨m_mem (i := 115) (by decide +kernel) rfl, rfl, rfl, rfl, Or.inl (m_mem (i := 114) (by decide +kernel) rfl)⟩
theorem l_H_34 : m_lI "HoleFiller" 34 M_S_init := ⟨m_mem (i := 158) (by decide +kernel) rfl, rfl, rfl, rfl, Or.inl (m_mem (i := 157) (by decide +kernel) rfl)⟩
theorem l_H_39 : m_lI "HoleFiller" 39 M_U_init := ⟨m_mem (i := 199) (by decide +kernel) rfl, rfl, rfl, rfl, Or.inl (m_mem (i := 198) (by decide +kernel) rfl)⟩
theorem l_H_51 : m_lI "HoleFiller" 51 M_N_init := ⟨m_mem (i := 251) (by decide +kernel) rfl, rfl, rfl, rfl, Or.inl (m_mem (i := 250) (by decide +kernel) rfl)⟩
theorem l_H_60 : m_lI "HoleFiller" 60 M_R_init := ⟨m_mem (i := 287) (by decide +kernel) rfl, rfl, rfl, rfl, Or.inr ⟨"HoleFiller", by decide +kernel⟩⟩
theorem l_H_65 : m_lS "HoleFiller" 65 M_H_mayBind := ⟨m_mem (i := 368) (by decide +kernel) rfl, Or.inl (m_mem (i := 367) (by decide +kernel) rfl)⟩
theorem l_H_78 : m_lV "HoleFiller" 78 M_O_tell := ⟨m_mem (i := 440) (by decide +kernel) rfl, m_mem (i := 441) (by decide +kernel) rfl, Or.inl (m_mem (i := 439) (by decide +kernel) rfl)⟩
theorem l_H_84 : m_lV "HoleFiller" 84 M_G_tell := ⟨m_mem (i := 462) (by decide +kernel) rfl, m_mem (i := 463) (by decide +kernel) rfl, Or.inl (m_mem (i := 461) (by decide +kernel) rfl)⟩
theorem l_H_87 : m_lV "HoleFiller" 87 M_H_slotAt := ⟨m_mem (i := 474) (by decide +kernel) rfl, m_mem (i := 2) (by decide +kernel) rfl, Or.inl (m_mem (i := 472) (by decide +kernel) rfl)⟩
theorem l_H_93 : m_lV "HoleFiller" 93 M_S_restart := ⟨m_mem (i := 479) (by decide +kernel) rfl, m_mem (i := 480) (by decide +kernel) rfl, Or.inl (m_mem (i := 478) (by decide +kernel) rfl)⟩
theorem l_H_97 : m_lV "HoleFiller" 97 M_S_itemsDue := ⟨m_mem (i := 484) (by decide +kernel) rfl, m_mem (i := 485) (by decide +kernel) rfl, Or.inl (m_mem (i := 483) (by decide +kernel) rfl)⟩
theorem l_H_106 : m_lV "HoleFiller" 106 M_H_mayStand := ⟨m_mem (i := 513) (by decide +kernel) rfl, m_mem (i := 3) (by decide +kernel) rfl, Or.inl (m_mem (i := 511) (by decide +kernel) rfl)⟩
theorem l_H_112 : m_lV "HoleFiller" 112 M_H_hasRoom := ⟨m_mem (i := 544) (by decide +kernel) rfl, m_mem (i := 5) (by decide +kernel) rfl, Or.inl (m_mem (i := 542) (by decide +kernel) rfl)⟩
theorem l_H_115 : m_lV "HoleFiller" 115 M_S_takeVariable := ⟨m_mem (i := 559) (by decide +kernel) rfl, m_mem (i := 560) (by decide +kernel) rfl, Or.inl (m_mem (i := 558) (by decide +kernel) rfl)⟩
theorem l_H_118 : m_lV "HoleFiller" 118 M_S_takeOperation := ⟨m_mem (i := 575) (by decide +kernel) rfl, m_mem (i := 576) (by decide +kernel) rfl, Or.inl (m_mem (i := 574) (by decide +kernel) rfl)⟩
theorem l_H_122 : m_lV "HoleFiller" 122 M_G_parametersOf := ⟨m_mem (i := 581) (by decide +kernel) rfl, m_mem (i := 582) (by decide +kernel) rfl, Or.inl (m_mem (i := 580) (by decide +kernel) rfl)⟩
theorem l_H_125 : m_lV "HoleFiller" 125 M_S_takeHole := ⟨m_mem (i := 585) (by decide +kernel) rfl, m_mem (i := 586) (by decide +kernel) rfl, Or.inl (m_mem (i := 584) (by decide +kernel) rfl)⟩
theorem l_H_129 : m_lV "HoleFiller" 129 M_H_startBoth := ⟨m_mem (i := 597) (by decide +kernel) rfl, m_mem (i := 7) (by decide +kernel) rfl, Or.inl (m_mem (i := 595) (by decide +kernel) rfl)⟩
theorem l_H_139 : m_lV "HoleFiller" 139 M_N_solve := ⟨m_mem (i := 612) (by decide +kernel) rfl, m_mem (i := 613) (by decide +kernel) rfl, Or.inl (m_mem (i := 611) (by decide +kernel) rfl)⟩
theorem l_H_145 : m_lV "HoleFiller" 145 M_G_undoTo := ⟨m_mem (i := 349) (by decide +kernel) rfl, m_mem (i := 350) (by decide +kernel) rfl, Or.inl (m_mem (i := 348) (by decide +kernel) rfl)⟩
theorem l_H_151 : m_lV "HoleFiller" 151 M_R_takeAll := ⟨m_mem (i := 761) (by decide +kernel) rfl, m_mem (i := 762) (by decide +kernel) rfl, Or.inl (m_mem (i := 760) (by decide +kernel) rfl)⟩
theorem l_H_167 : m_lS "HoleFiller" 167 M_H_at := ⟨m_mem (i := 346) (by decide +kernel) rfl, Or.inl (m_mem (i := 806) (by decide +kernel) rfl)⟩
theorem l_H_172 : m_lV "HoleFiller" 172 M_U_advance := ⟨m_mem (i := 617) (by decide +kernel) rfl, m_mem (i := 618) (by decide +kernel) rfl, Or.inl (m_mem (i := 815) (by decide +kernel) rfl)⟩
theorem l_H_176 : m_lV "HoleFiller" 176 M_U_standsAs := ⟨m_mem (i := 750) (by decide +kernel) rfl, m_mem (i := 751) (by decide +kernel) rfl, Or.inl (m_mem (i := 816) (by decide +kernel) rfl)⟩
theorem l_H_180 : m_lV "HoleFiller" 180 M_H_refuseUntold := ⟨m_mem (i := 826) (by decide +kernel) rfl, m_mem (i := 24) (by decide +kernel) rfl, Or.inl (m_mem (i := 824) (by decide +kernel) rfl)⟩
theorem l_H_183 : m_lV "HoleFiller" 183 M_G_measureAll := ⟨m_mem (i := 735) (by decide +kernel) rfl, m_mem (i := 736) (by decide +kernel) rfl, Or.inl (m_mem (i := 829) (by decide +kernel) rfl)⟩
theorem l_H_189 : m_lV "HoleFiller" 189 M_G_isOpen := ⟨m_mem (i := 342) (by decide +kernel) rfl, m_mem (i := 343) (by decide +kernel) rfl, Or.inl (m_mem (i := 341) (by decide +kernel) rfl)⟩
theorem l_H_198 : m_lV "HoleFiller" 198 M_U_startAt := ⟨m_mem (i := 607) (by decide +kernel) rfl, m_mem (i := 608) (by decide +kernel) rfl, Or.inl (m_mem (i := 606) (by decide +kernel) rfl)⟩
theorem l_H_201 : m_lV "HoleFiller" 201 M_U_freeBits := ⟨m_mem (i := 838) (by decide +kernel) rfl, m_mem (i := 839) (by decide +kernel) rfl, Or.inl (m_mem (i := 837) (by decide +kernel) rfl)⟩
theorem l_H_213 : m_lV "HoleFiller" 213 M_S_mayTakeVariable := ⟨m_mem (i := 516) (by decide +kernel) rfl, m_mem (i := 517) (by decide +kernel) rfl, Or.inl (m_mem (i := 515) (by decide +kernel) rfl)⟩
theorem l_H_216 : m_lV "HoleFiller" 216 M_S_isBehindHole := ⟨m_mem (i := 528) (by decide +kernel) rfl, m_mem (i := 529) (by decide +kernel) rfl, Or.inl (m_mem (i := 540) (by decide +kernel) rfl)⟩
theorem l_H_222 : m_lV "HoleFiller" 222 M_S_variablesHere := ⟨m_mem (i := 520) (by decide +kernel) rfl, m_mem (i := 521) (by decide +kernel) rfl, Or.inl (m_mem (i := 546) (by decide +kernel) rfl)⟩
theorem l_H_225 : m_lV "HoleFiller" 225 M_O_mostBound := ⟨m_mem (i := 548) (by decide +kernel) rfl, m_mem (i := 549) (by decide +kernel) rfl, Or.inl (m_mem (i := 547) (by decide +kernel) rfl)⟩
theorem l_H_228 : m_lV "HoleFiller" 228 M_S_isWhole := ⟨m_mem (i := 600) (by decide +kernel) rfl, m_mem (i := 601) (by decide +kernel) rfl, Or.inl (m_mem (i := 599) (by decide +kernel) rfl)⟩
theorem lo_C_3 : Cond.methodLink "HoleFiller$Cells" 3 Lib.objectInit ∈ m_Ts := m_mem (i := 81) (by decide +kernel) rfl
theorem l_C_22 : m_lS "HoleFiller$Cells" 22 M_H_at := ⟨m_mem (i := 346) (by decide +kernel) rfl, Or.inr ⟨"HoleFiller", by decide +kernel⟩⟩
theorem l_C_26 : m_lS "HoleFiller$Cells" 26 M_H_set := ⟨m_mem (i := 353) (by decide +kernel) rfl, Or.inr ⟨"HoleFiller", by decide +kernel⟩⟩
theorem l_C_31 : m_lS "HoleFiller$Cells" 31 M_Ar_copyOf := ⟨m_mem (i := 666) (by decide +kernel) rfl, Or.inl (m_mem (i := 665) (by decide +kernel) rfl)⟩
theorem lo_U_3 : Cond.methodLink "HoleFiller$Cursor" 3 Lib.objectInit ∈ m_Ts := m_mem (i := 201) (by decide +kernel) rfl
theorem l_U_39 : m_lS "HoleFiller$Cursor" 39 M_H_set := ⟨m_mem (i := 353) (by decide +kernel) rfl, Or.inr ⟨"HoleFiller", by decide +kernel⟩⟩
theorem l_U_43 : m_lS "HoleFiller$Cursor" 43 M_H_at := ⟨m_mem (i := 346) (by decide +kernel) rfl, Or.inr ⟨"HoleFiller", by decide +kernel⟩⟩
theorem l_U_60 : m_lV "HoleFiller$Cursor" 60 M_U_leaveEnded := ⟨m_mem (i := 623) (by decide +kernel) rfl, m_mem (i := 8) (by decide +kernel) rfl, Or.inl (m_mem (i := 621) (by decide +kernel) rfl)⟩
theorem l_U_63 : m_lV "HoleFiller$Cursor" 63 M_C_boundAt := ⟨m_mem (i := 627) (by decide +kernel) rfl, m_mem (i := 628) (by decide +kernel) rfl, Or.inl (m_mem (i := 626) (by decide +kernel) rfl)⟩
theorem l_U_69 : m_lV "HoleFiller$Cursor" 69 M_C_codeAt := ⟨m_mem (i := 533) (by decide +kernel) rfl, m_mem (i := 534) (by decide +kernel) rfl, Or.inl (m_mem (i := 630) (by decide +kernel) rfl)⟩
theorem l_U_72 : m_lS "HoleFiller$Cursor" 72 M_H_sortOf := ⟨m_mem (i := 632) (by decide +kernel) rfl, Or.inr ⟨"HoleFiller", by decide +kernel⟩⟩
theorem l_U_75 : m_lS "HoleFiller$Cursor" 75 M_H_numberOf := ⟨m_mem (i := 538) (by decide +kernel) rfl, Or.inr ⟨"HoleFiller", by decide +kernel⟩⟩
theorem l_U_78 : m_lV "HoleFiller$Cursor" 78 M_G_parametersOf := ⟨m_mem (i := 581) (by decide +kernel) rfl, m_mem (i := 582) (by decide +kernel) rfl, Or.inl (m_mem (i := 635) (by decide +kernel) rfl)⟩
theorem l_U_83 : m_lV "HoleFiller$Cursor" 83 M_U_outside := ⟨m_mem (i := 638) (by decide +kernel) rfl, m_mem (i := 9) (by decide +kernel) rfl, Or.inl (m_mem (i := 636) (by decide +kernel) rfl)⟩
theorem l_U_87 : m_lV "HoleFiller$Cursor" 87 M_G_isOpen := ⟨m_mem (i := 342) (by decide +kernel) rfl, m_mem (i := 343) (by decide +kernel) rfl, Or.inl (m_mem (i := 640) (by decide +kernel) rfl)⟩
theorem l_U_91 : m_lV "HoleFiller$Cursor" 91 M_U_enterFilling := ⟨m_mem (i := 643) (by decide +kernel) rfl, m_mem (i := 10) (by decide +kernel) rfl, Or.inl (m_mem (i := 641) (by decide +kernel) rfl)⟩
theorem l_U_101 : m_lV "HoleFiller$Cursor" 101 M_U_bitOf := ⟨m_mem (i := 843) (by decide +kernel) rfl, m_mem (i := 25) (by decide +kernel) rfl, Or.inl (m_mem (i := 841) (by decide +kernel) rfl)⟩
theorem lo_G_3 : Cond.methodLink "HoleFiller$Holes" 3 Lib.objectInit ∈ m_Ts := m_mem (i := 117) (by decide +kernel) rfl
theorem l_G_35 : m_lS "HoleFiller$Holes" 35 M_H_set := ⟨m_mem (i := 353) (by decide +kernel) rfl, Or.inr ⟨"HoleFiller", by decide +kernel⟩⟩
theorem l_G_42 : m_lS "HoleFiller$Holes" 42 M_H_at := ⟨m_mem (i := 346) (by decide +kernel) rfl, Or.inr ⟨"HoleFiller", by decide +kernel⟩⟩
theorem l_G_51 : m_lS "HoleFiller$Holes" 51 M_H_codeOf := ⟨m_mem (i := 563) (by decide +kernel) rfl, Or.inr ⟨"HoleFiller", by decide +kernel⟩⟩
theorem l_G_55 : m_lV "HoleFiller$Holes" 55 M_C_append := ⟨m_mem (i := 661) (by decide +kernel) rfl, m_mem (i := 662) (by decide +kernel) rfl, Or.inl (m_mem (i := 660) (by decide +kernel) rfl)⟩
theorem l_G_59 : m_lV "HoleFiller$Holes" 59 M_G_parametersOf := ⟨m_mem (i := 581) (by decide +kernel) rfl, m_mem (i := 582) (by decide +kernel) rfl, Or.inl (m_mem (i := 681) (by decide +kernel) rfl)⟩
theorem l_G_63 : m_lV "HoleFiller$Holes" 63 M_G_fillFrom := ⟨m_mem (i := 683) (by decide +kernel) rfl, m_mem (i := 684) (by decide +kernel) rfl, Or.inl (m_mem (i := 682) (by decide +kernel) rfl)⟩
theorem l_G_69 : m_lS "HoleFiller$Holes" 69 M_Ar_fill := ⟨m_mem (i := 739) (by decide +kernel) rfl, Or.inl (m_mem (i := 738) (by decide +kernel) rfl)⟩
theorem l_G_75 : m_lV "HoleFiller$Holes" 75 M_G_sumFrom := ⟨m_mem (i := 743) (by decide +kernel) rfl, m_mem (i := 21) (by decide +kernel) rfl, Or.inl (m_mem (i := 741) (by decide +kernel) rfl)⟩
theorem l_G_78 : m_lS "HoleFiller$Holes" 78 M_Ma_max := ⟨m_mem (i := 556) (by decide +kernel) rfl, Or.inl (m_mem (i := 748) (by decide +kernel) rfl)⟩
theorem l_G_83 : m_lV "HoleFiller$Holes" 83 M_C_codeAt := ⟨m_mem (i := 533) (by decide +kernel) rfl, m_mem (i := 534) (by decide +kernel) rfl, Or.inl (m_mem (i := 745) (by decide +kernel) rfl)⟩
theorem l_G_86 : m_lS "HoleFiller$Holes" 86 M_H_sortOf := ⟨m_mem (i := 632) (by decide +kernel) rfl, Or.inr ⟨"HoleFiller", by decide +kernel⟩⟩
theorem l_G_89 : m_lS "HoleFiller$Holes" 89 M_H_numberOf := ⟨m_mem (i := 538) (by decide +kernel) rfl, Or.inr ⟨"HoleFiller", by decide +kernel⟩⟩
theorem lo_O_3 : Cond.methodLink "HoleFiller$Operations" 3 Lib.objectInit ∈ m_Ts := m_mem (i := 100) (by decide +kernel) rfl
theorem l_O_22 : m_lV "HoleFiller$Operations" 22 M_O_addArgument := ⟨m_mem (i := 445) (by decide +kernel) rfl, m_mem (i := 1) (by decide +kernel) rfl, Or.inl (m_mem (i := 443) (by decide +kernel) rfl)⟩
theorem l_O_26 : m_lV "HoleFiller$Operations" 26 M_O_arityOf := ⟨m_mem (i := 448) (by decide +kernel) rfl, m_mem (i := 449) (by decide +kernel) rfl, Or.inl (m_mem (i := 447) (by decide +kernel) rfl)⟩
theorem l_O_30 : m_lS "HoleFiller$Operations" 30 M_H_set := ⟨m_mem (i := 353) (by decide +kernel) rfl, Or.inr ⟨"HoleFiller", by decide +kernel⟩⟩
theorem l_O_34 : m_lS "HoleFiller$Operations" 34 M_H_at := ⟨m_mem (i := 346) (by decide +kernel) rfl, Or.inr ⟨"HoleFiller", by decide +kernel⟩⟩
theorem l_O_38 : m_lV "HoleFiller$Operations" 38 M_O_boundBy := ⟨m_mem (i := 552) (by decide +kernel) rfl, m_mem (i := 553) (by decide +kernel) rfl, Or.inl (m_mem (i := 551) (by decide +kernel) rfl)⟩
theorem l_O_42 : m_lS "HoleFiller$Operations" 42 M_Ma_max := ⟨m_mem (i := 556) (by decide +kernel) rfl, Or.inl (m_mem (i := 555) (by decide +kernel) rfl)⟩
theorem lo_R_3 : Cond.methodLink "HoleFiller$Reader" 3 Lib.objectInit ∈ m_Ts := m_mem (i := 289) (by decide +kernel) rfl
theorem l_R_28 : m_lS "HoleFiller$Reader" 28 M_Ar_fill := ⟨m_mem (i := 739) (by decide +kernel) rfl, Or.inl (m_mem (i := 764) (by decide +kernel) rfl)⟩
theorem l_R_35 : m_lV "HoleFiller$Reader" 35 M_U_advance := ⟨m_mem (i := 617) (by decide +kernel) rfl, m_mem (i := 618) (by decide +kernel) rfl, Or.inl (m_mem (i := 766) (by decide +kernel) rfl)⟩
theorem l_R_44 : m_lV "HoleFiller$Reader" 44 M_R_takeHole := ⟨m_mem (i := 769) (by decide +kernel) rfl, m_mem (i := 22) (by decide +kernel) rfl, Or.inl (m_mem (i := 767) (by decide +kernel) rfl)⟩
theorem l_R_51 : m_lS "HoleFiller$Reader" 51 M_H_codeOf := ⟨m_mem (i := 563) (by decide +kernel) rfl, Or.inr ⟨"HoleFiller", by decide +kernel⟩⟩
theorem l_R_55 : m_lV "HoleFiller$Reader" 55 M_R_append := ⟨m_mem (i := 779) (by decide +kernel) rfl, m_mem (i := 23) (by decide +kernel) rfl, Or.inl (m_mem (i := 777) (by decide +kernel) rfl)⟩
theorem l_R_59 : m_lS "HoleFiller$Reader" 59 M_H_at := ⟨m_mem (i := 346) (by decide +kernel) rfl, Or.inr ⟨"HoleFiller", by decide +kernel⟩⟩
theorem l_R_63 : m_lS "HoleFiller$Reader" 63 M_H_set := ⟨m_mem (i := 353) (by decide +kernel) rfl, Or.inr ⟨"HoleFiller", by decide +kernel⟩⟩
theorem l_R_67 : m_lS "HoleFiller$Reader" 67 M_R_risingOrder := ⟨m_mem (i := 774) (by decide +kernel) rfl, Or.inl (m_mem (i := 773) (by decide +kernel) rfl)⟩
theorem l_R_77 : m_lS "HoleFiller$Reader" 77 M_Ar_copyOf := ⟨m_mem (i := 666) (by decide +kernel) rfl, Or.inl (m_mem (i := 781) (by decide +kernel) rfl)⟩
theorem lo_S_3 : Cond.methodLink "HoleFiller$Slot" 3 Lib.objectInit ∈ m_Ts := m_mem (i := 160) (by decide +kernel) rfl
theorem l_S_35 : m_lS "HoleFiller$Slot" 35 M_H_set := ⟨m_mem (i := 353) (by decide +kernel) rfl, Or.inr ⟨"HoleFiller", by decide +kernel⟩⟩
theorem l_S_42 : m_lV "HoleFiller$Slot" 42 M_S_itemsDue := ⟨m_mem (i := 484) (by decide +kernel) rfl, m_mem (i := 485) (by decide +kernel) rfl, Or.inl (m_mem (i := 603) (by decide +kernel) rfl)⟩
theorem l_S_46 : m_lV "HoleFiller$Slot" 46 M_S_boundHere := ⟨m_mem (i := 525) (by decide +kernel) rfl, m_mem (i := 4) (by decide +kernel) rfl, Or.inl (m_mem (i := 523) (by decide +kernel) rfl)⟩
theorem l_S_49 : m_lV "HoleFiller$Slot" 49 M_S_isBehindHole := ⟨m_mem (i := 528) (by decide +kernel) rfl, m_mem (i := 529) (by decide +kernel) rfl, Or.inl (m_mem (i := 527) (by decide +kernel) rfl)⟩
theorem l_S_56 : m_lS "HoleFiller$Slot" 56 M_H_at := ⟨m_mem (i := 346) (by decide +kernel) rfl, Or.inr ⟨"HoleFiller", by decide +kernel⟩⟩
theorem l_S_60 : m_lV "HoleFiller$Slot" 60 M_S_variablesHere := ⟨m_mem (i := 520) (by decide +kernel) rfl, m_mem (i := 521) (by decide +kernel) rfl, Or.inl (m_mem (i := 519) (by decide +kernel) rfl)⟩
theorem l_S_66 : m_lV "HoleFiller$Slot" 66 M_C_codeAt := ⟨m_mem (i := 533) (by decide +kernel) rfl, m_mem (i := 534) (by decide +kernel) rfl, Or.inl (m_mem (i := 532) (by decide +kernel) rfl)⟩
theorem l_S_72 : m_lS "HoleFiller$Slot" 72 M_H_numberOf := ⟨m_mem (i := 538) (by decide +kernel) rfl, Or.inr ⟨"HoleFiller", by decide +kernel⟩⟩
theorem l_S_75 : m_lS "HoleFiller$Slot" 75 M_H_codeOf := ⟨m_mem (i := 563) (by decide +kernel) rfl, Or.inr ⟨"HoleFiller", by decide +kernel⟩⟩
theorem l_S_79 : m_lV "HoleFiller$Slot" 79 M_S_write := ⟨m_mem (i := 567) (by decide +kernel) rfl, m_mem (i := 6) (by decide +kernel) rfl, Or.inl (m_mem (i := 565) (by decide +kernel) rfl)⟩
theorem l_S_83 : m_lV "HoleFiller$Slot" 83 M_O_arityOf := ⟨m_mem (i := 448) (by decide +kernel) rfl, m_mem (i := 449) (by decide +kernel) rfl, Or.inl (m_mem (i := 578) (by decide +kernel) rfl)⟩
theorem l_S_88 : m_lV "HoleFiller$Slot" 88 M_O_boundBy := ⟨m_mem (i := 552) (by decide +kernel) rfl, m_mem (i := 553) (by decide +kernel) rfl, Or.inl (m_mem (i := 579) (by decide +kernel) rfl)⟩
theorem l_S_91 : m_lV "HoleFiller$Slot" 91 M_C_write := ⟨m_mem (i := 570) (by decide +kernel) rfl, m_mem (i := 571) (by decide +kernel) rfl, Or.inl (m_mem (i := 569) (by decide +kernel) rfl)⟩
theorem lo_N_3 : Cond.methodLink "HoleFiller$Unifier" 3 Lib.objectInit ∈ m_Ts := m_mem (i := 253) (by decide +kernel) rfl
theorem l_N_39 : m_lI "HoleFiller$Unifier" 39 M_U_init := ⟨m_mem (i := 199) (by decide +kernel) rfl, rfl, rfl, rfl, Or.inl (m_mem (i := 255) (by decide +kernel) rfl)⟩
theorem l_N_46 : m_lV "HoleFiller$Unifier" 46 M_U_advance := ⟨m_mem (i := 617) (by decide +kernel) rfl, m_mem (i := 618) (by decide +kernel) rfl, Or.inl (m_mem (i := 616) (by decide +kernel) rfl)⟩
theorem l_N_57 : m_lV "HoleFiller$Unifier" 57 M_N_narrowToSame := ⟨m_mem (i := 647) (by decide +kernel) rfl, m_mem (i := 11) (by decide +kernel) rfl, Or.inl (m_mem (i := 645) (by decide +kernel) rfl)⟩
theorem l_N_61 : m_lV "HoleFiller$Unifier" 61 M_N_joinHoles := ⟨m_mem (i := 688) (by decide +kernel) rfl, m_mem (i := 12) (by decide +kernel) rfl, Or.inl (m_mem (i := 686) (by decide +kernel) rfl)⟩
theorem l_N_64 : m_lV "HoleFiller$Unifier" 64 M_N_fillWithTerm := ⟨m_mem (i := 696) (by decide +kernel) rfl, m_mem (i := 13) (by decide +kernel) rfl, Or.inl (m_mem (i := 694) (by decide +kernel) rfl)⟩
theorem l_N_68 : m_lV "HoleFiller$Unifier" 68 M_U_standsAs := ⟨m_mem (i := 750) (by decide +kernel) rfl, m_mem (i := 751) (by decide +kernel) rfl, Or.inl (m_mem (i := 749) (by decide +kernel) rfl)⟩
theorem l_N_78 : m_lS "HoleFiller$Unifier" 78 M_H_at := ⟨m_mem (i := 346) (by decide +kernel) rfl, Or.inr ⟨"HoleFiller", by decide +kernel⟩⟩
theorem l_N_82 : m_lS "HoleFiller$Unifier" 82 M_H_set := ⟨m_mem (i := 353) (by decide +kernel) rfl, Or.inr ⟨"HoleFiller", by decide +kernel⟩⟩
theorem l_N_86 : m_lV "HoleFiller$Unifier" 86 M_G_makeNew := ⟨m_mem (i := 652) (by decide +kernel) rfl, m_mem (i := 653) (by decide +kernel) rfl, Or.inl (m_mem (i := 651) (by decide +kernel) rfl)⟩
theorem l_N_92 : m_lV "HoleFiller$Unifier" 92 M_G_fillWithHole := ⟨m_mem (i := 656) (by decide +kernel) rfl, m_mem (i := 657) (by decide +kernel) rfl, Or.inl (m_mem (i := 655) (by decide +kernel) rfl)⟩
theorem l_N_96 : m_lV "HoleFiller$Unifier" 96 M_U_parameterFor := ⟨m_mem (i := 691) (by decide +kernel) rfl, m_mem (i := 692) (by decide +kernel) rfl, Or.inl (m_mem (i := 690) (by decide +kernel) rfl)⟩
theorem l_N_99 : m_lV "HoleFiller$Unifier" 99 M_U_copyFrom := ⟨m_mem (i := 699) (by decide +kernel) rfl, m_mem (i := 700) (by decide +kernel) rfl, Or.inl (m_mem (i := 698) (by decide +kernel) rfl)⟩
theorem l_N_103 : m_lV "HoleFiller$Unifier" 103 M_N_admitTerm := ⟨m_mem (i := 704) (by decide +kernel) rfl, m_mem (i := 14) (by decide +kernel) rfl, Or.inl (m_mem (i := 702) (by decide +kernel) rfl)⟩
theorem l_N_115 : m_lV "HoleFiller$Unifier" 115 M_N_copyTerm := ⟨m_mem (i := 721) (by decide +kernel) rfl, m_mem (i := 18) (by decide +kernel) rfl, Or.inl (m_mem (i := 719) (by decide +kernel) rfl)⟩
theorem l_N_119 : m_lV "HoleFiller$Unifier" 119 M_G_fillFrom := ⟨m_mem (i := 683) (by decide +kernel) rfl, m_mem (i := 684) (by decide +kernel) rfl, Or.inl (m_mem (i := 733) (by decide +kernel) rfl)⟩
theorem l_N_123 : m_lV "HoleFiller$Unifier" 123 M_G_measureAll := ⟨m_mem (i := 735) (by decide +kernel) rfl, m_mem (i := 736) (by decide +kernel) rfl, Or.inl (m_mem (i := 734) (by decide +kernel) rfl)⟩
theorem l_N_126 : m_lV "HoleFiller$Unifier" 126 M_N_isForeign := ⟨m_mem (i := 708) (by decide +kernel) rfl, m_mem (i := 15) (by decide +kernel) rfl, Or.inl (m_mem (i := 706) (by decide +kernel) rfl)⟩
theorem l_N_130 : m_lV "HoleFiller$Unifier" 130 M_N_dropForeign := ⟨m_mem (i := 712) (by decide +kernel) rfl, m_mem (i := 16) (by decide +kernel) rfl, Or.inl (m_mem (i := 710) (by decide +kernel) rfl)⟩
theorem l_N_133 : m_lV "HoleFiller$Unifier" 133 M_N_dueAfter := ⟨m_mem (i := 716) (by decide +kernel) rfl, m_mem (i := 17) (by decide +kernel) rfl, Or.inl (m_mem (i := 714) (by decide +kernel) rfl)⟩
theorem l_N_137 : m_lV "HoleFiller$Unifier" 137 M_O_arityOf := ⟨m_mem (i := 448) (by decide +kernel) rfl, m_mem (i := 449) (by decide +kernel) rfl, Or.inl (m_mem (i := 718) (by decide +kernel) rfl)⟩
theorem l_N_145 : m_lV "HoleFiller$Unifier" 145 M_N_copyHere := ⟨m_mem (i := 725) (by decide +kernel) rfl, m_mem (i := 19) (by decide +kernel) rfl, Or.inl (m_mem (i := 723) (by decide +kernel) rfl)⟩
theorem l_N_148 : m_lV "HoleFiller$Unifier" 148 M_N_inside := ⟨m_mem (i := 729) (by decide +kernel) rfl, m_mem (i := 20) (by decide +kernel) rfl, Or.inl (m_mem (i := 727) (by decide +kernel) rfl)⟩
theorem l_N_152 : m_lS "HoleFiller$Unifier" 152 M_H_codeOf := ⟨m_mem (i := 563) (by decide +kernel) rfl, Or.inr ⟨"HoleFiller", by decide +kernel⟩⟩
theorem l_N_156 : m_lV "HoleFiller$Unifier" 156 M_C_append := ⟨m_mem (i := 661) (by decide +kernel) rfl, m_mem (i := 662) (by decide +kernel) rfl, Or.inl (m_mem (i := 732) (by decide +kernel) rfl)⟩
theorem l_L_7 : m_lV "HoleFillerLaw" 7 M_H_operation := ⟨m_mem (i := 364) (by decide +kernel) rfl, m_mem (i := 365) (by decide +kernel) rfl, Or.inl (m_mem (i := 363) (by decide +kernel) rfl)⟩
theorem l_L_15 : m_lV "HoleFillerLaw" 15 M_H_hole := ⟨m_mem (i := 457) (by decide +kernel) rfl, m_mem (i := 458) (by decide +kernel) rfl, Or.inl (m_mem (i := 456) (by decide +kernel) rfl)⟩
theorem l_L_19 : m_lV "HoleFillerLaw" 19 M_H_begin := ⟨m_mem (i := 469) (by decide +kernel) rfl, m_mem (i := 470) (by decide +kernel) rfl, Or.inl (m_mem (i := 468) (by decide +kernel) rfl)⟩
theorem l_L_23 : m_lV "HoleFillerLaw" 23 M_H_put := ⟨m_mem (i := 492) (by decide +kernel) rfl, m_mem (i := 493) (by decide +kernel) rfl, Or.inl (m_mem (i := 491) (by decide +kernel) rfl)⟩
theorem l_L_28 : m_lV "HoleFillerLaw" 28 M_H_unify := ⟨m_mem (i := 592) (by decide +kernel) rfl, m_mem (i := 593) (by decide +kernel) rfl, Or.inl (m_mem (i := 591) (by decide +kernel) rfl)⟩
theorem l_L_31 : m_lV "HoleFillerLaw" 31 M_H_read := ⟨m_mem (i := 757) (by decide +kernel) rfl, m_mem (i := 758) (by decide +kernel) rfl, Or.inl (m_mem (i := 756) (by decide +kernel) rfl)⟩
theorem l_L_34 : m_lV "HoleFillerLaw" 34 M_H_item := ⟨m_mem (i := 787) (by decide +kernel) rfl, m_mem (i := 788) (by decide +kernel) rfl, Or.inl (m_mem (i := 786) (by decide +kernel) rfl)⟩
theorem l_L_39 : m_lV "HoleFillerLaw" 39 M_H_isSame := ⟨m_mem (i := 811) (by decide +kernel) rfl, m_mem (i := 812) (by decide +kernel) rfl, Or.inl (m_mem (i := 810) (by decide +kernel) rfl)⟩
theorem l_L_43 : m_lV "HoleFillerLaw" 43 M_H_size := ⟨m_mem (i := 821) (by decide +kernel) rfl, m_mem (i := 822) (by decide +kernel) rfl, Or.inl (m_mem (i := 820) (by decide +kernel) rfl)⟩
theorem l_L_46 : m_lV "HoleFillerLaw" 46 M_H_uses := ⟨m_mem (i := 834) (by decide +kernel) rfl, m_mem (i := 835) (by decide +kernel) rfl, Or.inl (m_mem (i := 833) (by decide +kernel) rfl)⟩
theorem lo_D_1 : Cond.methodLink "HoleFillerModel" 1 Lib.objectInit ∈ m_Ts := m_mem (i := 850) (by decide +kernel) rfl
theorem l_D_104 : m_lV "HoleFillerModel" 104 M_D_fails := ⟨m_mem (i := 985) (by decide +kernel) rfl, m_mem (i := 26) (by decide +kernel) rfl, Or.inl (m_mem (i := 983) (by decide +kernel) rfl)⟩
theorem l_D_114 : m_lS "HoleFillerModel" 114 M_D_isSlot := ⟨m_mem (i := 996) (by decide +kernel) rfl, Or.inl (m_mem (i := 995) (by decide +kernel) rfl)⟩
theorem l_D_118 : m_lV "HoleFillerModel" 118 M_D_fits := ⟨m_mem (i := 1004) (by decide +kernel) rfl, m_mem (i := 27) (by decide +kernel) rfl, Or.inl (m_mem (i := 1002) (by decide +kernel) rfl)⟩
theorem l_D_122 : m_lV "HoleFillerModel" 122 M_D_isTooWide := ⟨m_mem (i := 1008) (by decide +kernel) rfl, m_mem (i := 28) (by decide +kernel) rfl, Or.inl (m_mem (i := 1006) (by decide +kernel) rfl)⟩
theorem l_D_125 : m_lV "HoleFillerModel" 125 M_D_wait := ⟨m_mem (i := 1012) (by decide +kernel) rfl, m_mem (i := 29) (by decide +kernel) rfl, Or.inl (m_mem (i := 1010) (by decide +kernel) rfl)⟩
theorem l_D_129 : m_lS "HoleFillerModel" 129 M_D_sort := ⟨m_mem (i := 1039) (by decide +kernel) rfl, Or.inl (m_mem (i := 1038) (by decide +kernel) rfl)⟩
theorem l_D_133 : m_lV "HoleFillerModel" 133 M_D_measure := ⟨m_mem (i := 1043) (by decide +kernel) rfl, m_mem (i := 35) (by decide +kernel) rfl, Or.inl (m_mem (i := 1041) (by decide +kernel) rfl)⟩
theorem l_D_137 : m_lV "HoleFillerModel" 137 M_D_again := ⟨m_mem (i := 1036) (by decide +kernel) rfl, m_mem (i := 34) (by decide +kernel) rfl, Or.inl (m_mem (i := 1034) (by decide +kernel) rfl)⟩
theorem l_D_141 : m_lV "HoleFillerModel" 141 M_D_write := ⟨m_mem (i := 1032) (by decide +kernel) rfl, m_mem (i := 33) (by decide +kernel) rfl, Or.inl (m_mem (i := 1030) (by decide +kernel) rfl)⟩
theorem l_D_147 : m_lS "HoleFillerModel" 147 M_D_sizeOf := ⟨m_mem (i := 1085) (by decide +kernel) rfl, Or.inl (m_mem (i := 1084) (by decide +kernel) rfl)⟩
theorem l_D_160 : m_lV "HoleFillerModel" 160 M_D_same := ⟨m_mem (i := 1055) (by decide +kernel) rfl, m_mem (i := 38) (by decide +kernel) rfl, Or.inl (m_mem (i := 1053) (by decide +kernel) rfl)⟩
theorem l_D_164 : m_lV "HoleFillerModel" 164 M_D_both := ⟨m_mem (i := 1071) (by decide +kernel) rfl, m_mem (i := 42) (by decide +kernel) rfl, Or.inl (m_mem (i := 1069) (by decide +kernel) rfl)⟩
theorem l_D_167 : m_lV "HoleFillerModel" 167 M_D_fill := ⟨m_mem (i := 1078) (by decide +kernel) rfl, m_mem (i := 43) (by decide +kernel) rfl, Or.inl (m_mem (i := 1076) (by decide +kernel) rfl)⟩
theorem l_D_171 : m_lV "HoleFillerModel" 171 M_D_parts := ⟨m_mem (i := 1093) (by decide +kernel) rfl, m_mem (i := 46) (by decide +kernel) rfl, Or.inl (m_mem (i := 1091) (by decide +kernel) rfl)⟩
theorem l_D_174 : m_lV "HoleFillerModel" 174 M_D_partEnd := ⟨m_mem (i := 1097) (by decide +kernel) rfl, m_mem (i := 47) (by decide +kernel) rfl, Or.inl (m_mem (i := 1095) (by decide +kernel) rfl)⟩
theorem l_D_177 : m_lV "HoleFillerModel" 177 M_D_equation := ⟨m_mem (i := 1047) (by decide +kernel) rfl, m_mem (i := 36) (by decide +kernel) rfl, Or.inl (m_mem (i := 1045) (by decide +kernel) rfl)⟩
theorem l_D_181 : m_lV "HoleFillerModel" 181 M_D_isFull := ⟨m_mem (i := 1059) (by decide +kernel) rfl, m_mem (i := 39) (by decide +kernel) rfl, Or.inl (m_mem (i := 1057) (by decide +kernel) rfl)⟩
theorem l_D_185 : m_lV "HoleFillerModel" 185 M_D_make := ⟨m_mem (i := 1063) (by decide +kernel) rfl, m_mem (i := 40) (by decide +kernel) rfl, Or.inl (m_mem (i := 1061) (by decide +kernel) rfl)⟩
theorem l_D_188 : m_lV "HoleFillerModel" 188 M_D_pass := ⟨m_mem (i := 1067) (by decide +kernel) rfl, m_mem (i := 41) (by decide +kernel) rfl, Or.inl (m_mem (i := 1065) (by decide +kernel) rfl)⟩
theorem l_D_192 : m_lS "HoleFillerModel" 192 M_D_find := ⟨m_mem (i := 1074) (by decide +kernel) rfl, Or.inl (m_mem (i := 1073) (by decide +kernel) rfl)⟩
theorem l_D_196 : m_lV "HoleFillerModel" 196 M_D_hindrance := ⟨m_mem (i := 1082) (by decide +kernel) rfl, m_mem (i := 44) (by decide +kernel) rfl, Or.inl (m_mem (i := 1080) (by decide +kernel) rfl)⟩
theorem l_D_199 : m_lV "HoleFillerModel" 199 M_D_fullSize := ⟨m_mem (i := 1089) (by decide +kernel) rfl, m_mem (i := 45) (by decide +kernel) rfl, Or.inl (m_mem (i := 1087) (by decide +kernel) rfl)⟩
theorem l_D_202 : m_lV "HoleFillerModel" 202 M_D_isWhole := ⟨m_mem (i := 1024) (by decide +kernel) rfl, m_mem (i := 31) (by decide +kernel) rfl, Or.inl (m_mem (i := 1022) (by decide +kernel) rfl)⟩
theorem l_D_205 : m_lV "HoleFillerModel" 205 M_D_refuses := ⟨m_mem (i := 1020) (by decide +kernel) rfl, m_mem (i := 30) (by decide +kernel) rfl, Or.inl (m_mem (i := 1018) (by decide +kernel) rfl)⟩
theorem l_D_209 : m_lV "HoleFillerModel" 209 M_D_slot := ⟨m_mem (i := 1028) (by decide +kernel) rfl, m_mem (i := 32) (by decide +kernel) rfl, Or.inl (m_mem (i := 1026) (by decide +kernel) rfl)⟩
theorem l_D_212 : m_lV "HoleFillerModel" 212 M_D_step := ⟨m_mem (i := 1051) (by decide +kernel) rfl, m_mem (i := 37) (by decide +kernel) rfl, Or.inl (m_mem (i := 1049) (by decide +kernel) rfl)⟩
theorem l_D_227 : m_lV "HoleFillerModel" 227 M_D_rank := ⟨m_mem (i := 1105) (by decide +kernel) rfl, m_mem (i := 48) (by decide +kernel) rfl, Or.inl (m_mem (i := 1103) (by decide +kernel) rfl)⟩
theorem l_Ar_304 : m_lS "java/util/Arrays" 304 M_Ma_min := ⟨m_mem (i := 676) (by decide +kernel) rfl, Or.inl (m_mem (i := 675) (by decide +kernel) rfl)⟩
theorem oi_inst : Cond.instanceMethod Lib.objectInit ∈ m_Ts := m_mem (i := 74) (by decide +kernel) rfl
theorem oi_code : Cond.code Lib.objectInit ⟨#[0xb1]⟩ 1 none ∈ m_Ts := m_mem (i := 75) (by decide +kernel) rfl
theorem nw_H_9 : m_nw "HoleFiller" 9 1 [mn, mn, mi 0] 3 := ⟨_, _, tyC, [.null, .null, .int 0], rfl, u_C, tyC_ok, m_mem (i := 76) (by decide +kernel) rfl, m_mem (i := 77) (by decide +kernel) rfl, m_mem (i := 51) (by decide +kernel) rfl, by decide +kernel, rfl⟩
theorem nw_H_12 : m_nw "HoleFiller" 12 4 [mn, mn, mi 0] 3 := ⟨_, _, tyO, [.null, .null, .int 0], rfl, u_O, tyO_ok, m_mem (i := 95) (by decide +kernel) rfl, m_mem (i := 96) (by decide +kernel) rfl, m_mem (i := 52) (by decide +kernel) rfl, by decide +kernel, rfl⟩
theorem nw_H_19 : m_nw "HoleFiller" 19 3 [mn, mn, mn, mn, mn, mn, mi 0, mi 0, mi 0] 9 := ⟨_, _, tyG, [.null, .null, .null, .null, .null, .null, .int 0, .int 0, .int 0], rfl, u_G, tyG_ok, m_mem (i := 112) (by decide +kernel) rfl, m_mem (i := 113) (by decide +kernel) rfl, m_mem (i := 53) (by decide +kernel) rfl, by decide +kernel, rfl⟩
theorem nw_H_28 : m_nw "HoleFiller" 28 6 [mn, mi 0, mn, mi 0, mi 0, mi 0, mi 0, mi 0, mi 0, mi 0] 10 := ⟨_, _, tyS, [.null, .int 0, .null, .int 0, .int 0, .int 0, .int 0, .int 0, .int 0, .int 0], rfl, u_S, tyS_ok, m_mem (i := 154) (by decide +kernel) rfl, m_mem (i := 156) (by decide +kernel) rfl, m_mem (i := 54) (by decide +kernel) rfl, by decide +kernel, rfl⟩
theorem nw_H_37 : m_nw "HoleFiller" 37 2 [mn, mn, mn, mn, mn, mn, mi 0, mi 0, mi 0, mi 0, mn, mi 0] 12 := ⟨_, _, tyU, [.null, .null, .null, .null, .null, .null, .int 0, .int 0, .int 0, .int 0, .null, .int 0], rfl, u_U, tyU_ok, m_mem (i := 196) (by decide +kernel) rfl, m_mem (i := 197) (by decide +kernel) rfl, m_mem (i := 55) (by decide +kernel) rfl, by decide +kernel, rfl⟩
theorem nw_H_49 : m_nw "HoleFiller" 49 7 [mn, mn, mn, mn, mn, mn, mn, mn, mi 0] 9 := ⟨_, _, tyN, [.null, .null, .null, .null, .null, .null, .null, .null, .int 0], rfl, u_N, tyN_ok, m_mem (i := 248) (by decide +kernel) rfl, m_mem (i := 249) (by decide +kernel) rfl, m_mem (i := 56) (by decide +kernel) rfl, by decide +kernel, rfl⟩
theorem nw_H_58 : m_nw "HoleFiller" 58 5 [mn, mi 0, mi 0, mn, mn] 5 := ⟨_, _, tyR, [.null, .int 0, .int 0, .null, .null], rfl, u_R, tyR_ok, m_mem (i := 284) (by decide +kernel) rfl, m_mem (i := 285) (by decide +kernel) rfl, m_mem (i := 57) (by decide +kernel) rfl, by decide +kernel, rfl⟩
theorem nw_N_37 : m_nw "HoleFiller$Unifier" 37 2 [mn, mn, mn, mn, mn, mn, mi 0, mi 0, mi 0, mi 0, mn, mi 0] 12 := ⟨_, _, tyU, [.null, .null, .null, .null, .null, .null, .int 0, .int 0, .int 0, .int 0, .null, .int 0], rfl, u_U, tyU_ok, m_mem (i := 254) (by decide +kernel) rfl, m_mem (i := 197) (by decide +kernel) rfl, m_mem (i := 55) (by decide +kernel) rfl, by decide +kernel, rfl⟩
theorem ms_max : Cond.static Lib.Math.max.name ∈ m_Ts := m_mem (i := 556) (by decide +kernel) rfl
theorem mc_max : Cond.code Lib.Math.max.name Lib.Math.max.code 2 (some .int) ∈ m_Ts := m_mem (i := 557) (by decide +kernel) rfl
theorem ms_min : Cond.static Lib.Math.min.name ∈ m_Ts := m_mem (i := 676) (by decide +kernel) rfl
theorem mc_min : Cond.code Lib.Math.min.name Lib.Math.min.code 2 (some .int) ∈ m_Ts := m_mem (i := 677) (by decide +kernel) rfl
theorem mi_Math : Cond.initialized "java/lang/Math" ∈ m_Ts := m_mem (i := 64) (by decide +kernel) rfl
theorem lm_G_78 : Cond.methodLink "HoleFiller$Holes" 78 Lib.Math.max.name ∈ m_Ts := m_mem (i := 748) (by decide +kernel) rfl
theorem lm_O_42 : Cond.methodLink "HoleFiller$Operations" 42 Lib.Math.max.name ∈ m_Ts := m_mem (i := 555) (by decide +kernel) rfl
theorem ac_lk : Cond.methodLink "java/util/Arrays" 150 arraycopyName ∈ m_Ts := m_mem (i := 678) (by decide +kernel) rfl
theorem ac_nat : Cond.native arraycopyName ∈ m_Ts := m_mem (i := 680) (by decide +kernel) rfl
theorem ac_st : Cond.static arraycopyName ∈ m_Ts := m_mem (i := 679) (by decide +kernel) rfl
theorem ac_ini : Cond.initialized "java/lang/System" ∈ m_Ts := m_mem (i := 66) (by decide +kernel) rfl
theorem lm_Ar_304 : Cond.methodLink "java/util/Arrays" 304 Lib.Math.min.name ∈ m_Ts := m_mem (i := 675) (by decide +kernel) rfl
theorem k_H_171 : Cond.constant "HoleFiller" 171 1000000 ∈ m_Ts := m_mem (i := 814) (by decide +kernel) rfl
theorem k_C_30 : Cond.constant "HoleFiller$Cells" 30 130800 ∈ m_Ts := m_mem (i := 664) (by decide +kernel) rfl
theorem k_U_59 : Cond.constant "HoleFiller$Cursor" 59 1000000 ∈ m_Ts := m_mem (i := 620) (by decide +kernel) rfl
theorem k_R_34 : Cond.constant "HoleFiller$Reader" 34 1000000 ∈ m_Ts := m_mem (i := 765) (by decide +kernel) rfl
theorem k_N_45 : Cond.constant "HoleFiller$Unifier" 45 1000000 ∈ m_Ts := m_mem (i := 615) (by decide +kernel) rfl
theorem k_D_22 : Cond.constant "HoleFillerModel" 22 129600 ∈ m_Ts := m_mem (i := 851) (by decide +kernel) rfl
theorem k_D_75 : Cond.constant "HoleFillerModel" 75 131072 ∈ m_Ts := m_mem (i := 852) (by decide +kernel) rfl
theorem tw_H_71 : m_tw "HoleFiller" 69 71 73 "java/lang/IllegalArgumentException" "an argument binds 0 to 2 variables" ["java/lang/RuntimeException", "java/lang/Exception"] := m_tw_of (by decide +kernel) (by decide +kernel) (m_mem (i := 370) (by decide +kernel) rfl) (m_mem (i := 62) (by decide +kernel) rfl) (by decide +kernel) (by decide +kernel)
theorem tw_H_76 : m_tw "HoleFiller" 69 76 73 "java/lang/IllegalArgumentException" "an argument behind one that is not there" ["java/lang/RuntimeException", "java/lang/Exception"] := m_tw_of (by decide +kernel) (by decide +kernel) (m_mem (i := 370) (by decide +kernel) rfl) (m_mem (i := 62) (by decide +kernel) rfl) (by decide +kernel) (by decide +kernel)
theorem tw_H_82 : m_tw "HoleFiller" 69 82 73 "java/lang/IllegalArgumentException" "a hole has 0 to 4 parameters" ["java/lang/RuntimeException", "java/lang/Exception"] := m_tw_of (by decide +kernel) (by decide +kernel) (m_mem (i := 370) (by decide +kernel) rfl) (m_mem (i := 62) (by decide +kernel) rfl) (by decide +kernel) (by decide +kernel)
theorem tw_H_91 : m_tw "HoleFiller" 69 91 73 "java/lang/IllegalArgumentException" "a depth is 0 to 6" ["java/lang/RuntimeException", "java/lang/Exception"] := m_tw_of (by decide +kernel) (by decide +kernel) (m_mem (i := 370) (by decide +kernel) rfl) (m_mem (i := 62) (by decide +kernel) rfl) (by decide +kernel) (by decide +kernel)
theorem tw_H_211 : m_tw "HoleFiller" 69 211 73 "java/lang/IllegalArgumentException" "no such slot" ["java/lang/RuntimeException", "java/lang/Exception"] := m_tw_of (by decide +kernel) (by decide +kernel) (m_mem (i := 370) (by decide +kernel) rfl) (m_mem (i := 62) (by decide +kernel) rfl) (by decide +kernel) (by decide +kernel)
theorem tw_H_103 : m_tw "HoleFiller" 101 103 105 "java/lang/IllegalStateException" "no item is due" ["java/lang/RuntimeException", "java/lang/Exception"] := m_tw_of (by decide +kernel) (by decide +kernel) (m_mem (i := 495) (by decide +kernel) rfl) (m_mem (i := 63) (by decide +kernel) rfl) (by decide +kernel) (by decide +kernel)
theorem tw_H_110 : m_tw "HoleFiller" 69 110 73 "java/lang/IllegalArgumentException" "this item can't stand there" ["java/lang/RuntimeException", "java/lang/Exception"] := m_tw_of (by decide +kernel) (by decide +kernel) (m_mem (i := 370) (by decide +kernel) rfl) (m_mem (i := 62) (by decide +kernel) rfl) (by decide +kernel) (by decide +kernel)
theorem tw_H_231 : m_tw "HoleFiller" 101 231 105 "java/lang/IllegalStateException" "a term is not whole" ["java/lang/RuntimeException", "java/lang/Exception"] := m_tw_of (by decide +kernel) (by decide +kernel) (m_mem (i := 495) (by decide +kernel) rfl) (m_mem (i := 63) (by decide +kernel) rfl) (by decide +kernel) (by decide +kernel)
theorem tw_H_236 : m_tw "HoleFiller" 101 236 105 "java/lang/IllegalStateException" "the terms have other depths" ["java/lang/RuntimeException", "java/lang/Exception"] := m_tw_of (by decide +kernel) (by decide +kernel) (m_mem (i := 495) (by decide +kernel) rfl) (m_mem (i := 63) (by decide +kernel) rfl) (by decide +kernel) (by decide +kernel)
theorem tw_H_160 : m_tw "HoleFiller" 158 160 162 "java/lang/IndexOutOfBoundsException" "no such item was read" ["java/lang/RuntimeException", "java/lang/Exception"] := m_tw_of (by decide +kernel) (by decide +kernel) (m_mem (i := 790) (by decide +kernel) rfl) (m_mem (i := 67) (by decide +kernel) rfl) (by decide +kernel) (by decide +kernel)
theorem tw_H_241 : m_tw "HoleFiller" 69 241 73 "java/lang/IllegalArgumentException" "no such hole was told" ["java/lang/RuntimeException", "java/lang/Exception"] := m_tw_of (by decide +kernel) (by decide +kernel) (m_mem (i := 370) (by decide +kernel) rfl) (m_mem (i := 62) (by decide +kernel) rfl) (by decide +kernel) (by decide +kernel)
end
section
theorem d_Ar_copyOf_0 : decode M_Ar_copyOf.2.1 0 = .ok (.iload_n 1, 1) := by decide +kernel
theorem d_Ar_copyOf_1 : decode M_Ar_copyOf.2.1 1 = .ok (.aload_n 0, 1) := by decide +kernel
theorem d_Ar_copyOf_2 : decode M_Ar_copyOf.2.1 2 = .ok (.arraylength, 1) := by decide +kernel
theorem d_Ar_copyOf_3 : decode M_Ar_copyOf.2.1 3 = .ok (.if_icmp .ne 11, 3) := by decide +kernel
theorem d_Ar_copyOf_6 : decode M_Ar_copyOf.2.1 6 = .ok (.aload_n 0, 1) := by decide +kernel
theorem d_Ar_copyOf_7 : decode M_Ar_copyOf.2.1 7 = .ok (.invokevirtual 316, 3) := by decide +kernel
theorem d_Ar_copyOf_10 : decode M_Ar_copyOf.2.1 10 = .ok (.checkcast 317, 3) := by decide +kernel
theorem d_Ar_copyOf_13 : decode M_Ar_copyOf.2.1 13 = .ok (.areturn, 1) := by decide +kernel
theorem d_Ar_copyOf_14 : decode M_Ar_copyOf.2.1 14 = .ok (.iload_n 1, 1) := by decide +kernel
theorem d_Ar_copyOf_15 : decode M_Ar_copyOf.2.1 15 = .ok (.newarray .int, 2) := by decide +kernel
theorem d_Ar_copyOf_17 : decode M_Ar_copyOf.2.1 17 = .ok (.astore_n 2, 1) := by decide +kernel
theorem d_Ar_copyOf_18 : decode M_Ar_copyOf.2.1 18 = .ok (.aload_n 0, 1) := by decide +kernel
theorem d_Ar_copyOf_19 : decode M_Ar_copyOf.2.1 19 = .ok (.iconst 0, 1) := by decide +kernel
theorem d_Ar_copyOf_20 : decode M_Ar_copyOf.2.1 20 = .ok (.aload_n 2, 1) := by decide +kernel
theorem d_Ar_copyOf_21 : decode M_Ar_copyOf.2.1 21 = .ok (.iconst 0, 1) := by decide +kernel
theorem d_Ar_copyOf_22 : decode M_Ar_copyOf.2.1 22 = .ok (.aload_n 0, 1) := by decide +kernel
theorem d_Ar_copyOf_23 : decode M_Ar_copyOf.2.1 23 = .ok (.arraylength, 1) := by decide +kernel
theorem d_Ar_copyOf_24 : decode M_Ar_copyOf.2.1 24 = .ok (.iload_n 1, 1) := by decide +kernel
theorem d_Ar_copyOf_25 : decode M_Ar_copyOf.2.1 25 = .ok (.invokestatic 304, 3) := by decide +kernel
theorem d_Ar_copyOf_28 : decode M_Ar_copyOf.2.1 28 = .ok (.invokestatic 150, 3) := by decide +kernel
theorem d_Ar_copyOf_31 : decode M_Ar_copyOf.2.1 31 = .ok (.aload_n 2, 1) := by decide +kernel
theorem d_Ar_copyOf_32 : decode M_Ar_copyOf.2.1 32 = .ok (.areturn, 1) := by decide +kernel
theorem d_Ar_fill_0 : decode M_Ar_fill.2.1 0 = .ok (.iconst 0, 1) := by decide +kernel
theorem d_Ar_fill_1 : decode M_Ar_fill.2.1 1 = .ok (.istore_n 2, 1) := by decide +kernel
theorem d_Ar_fill_2 : decode M_Ar_fill.2.1 2 = .ok (.aload_n 0, 1) := by decide +kernel
theorem d_Ar_fill_3 : decode M_Ar_fill.2.1 3 = .ok (.arraylength, 1) := by decide +kernel
theorem d_Ar_fill_4 : decode M_Ar_fill.2.1 4 = .ok (.istore_n 3, 1) := by decide +kernel
theorem d_Ar_fill_5 : decode M_Ar_fill.2.1 5 = .ok (.iload_n 2, 1) := by decide +kernel
theorem d_Ar_fill_6 : decode M_Ar_fill.2.1 6 = .ok (.iload_n 3, 1) := by decide +kernel
theorem d_Ar_fill_7 : decode M_Ar_fill.2.1 7 = .ok (.if_icmp .ge 13, 3) := by decide +kernel
theorem d_Ar_fill_10 : decode M_Ar_fill.2.1 10 = .ok (.aload_n 0, 1) := by decide +kernel
theorem d_Ar_fill_11 : decode M_Ar_fill.2.1 11 = .ok (.iload_n 2, 1) := by decide +kernel
theorem d_Ar_fill_12 : decode M_Ar_fill.2.1 12 = .ok (.iload_n 1, 1) := by decide +kernel
theorem d_Ar_fill_13 : decode M_Ar_fill.2.1 13 = .ok (.iastore, 1) := by decide +kernel
theorem d_Ar_fill_14 : decode M_Ar_fill.2.1 14 = .ok (.iinc 2 1, 3) := by decide +kernel
theorem d_Ar_fill_17 : decode M_Ar_fill.2.1 17 = .ok (.goto (-12), 3) := by decide +kernel
theorem d_Ar_fill_20 : decode M_Ar_fill.2.1 20 = .ok (.return_, 1) := by decide +kernel
end
section
theorem d_C_init_0 : decode M_C_init.2.1 0 = .ok (.aload_n 0, 1) := by decide +kernel
theorem d_C_init_1 : decode M_C_init.2.1 1 = .ok (.invokespecial 3, 3) := by decide +kernel
theorem d_C_init_4 : decode M_C_init.2.1 4 = .ok (.aload_n 0, 1) := by decide +kernel
theorem d_C_init_5 : decode M_C_init.2.1 5 = .ok (.sipush 2048, 3) := by decide +kernel
theorem d_C_init_8 : decode M_C_init.2.1 8 = .ok (.newarray .int, 2) := by decide +kernel
theorem d_C_init_10 : decode M_C_init.2.1 10 = .ok (.putfield 9, 3) := by decide +kernel
theorem d_C_init_13 : decode M_C_init.2.1 13 = .ok (.aload_n 0, 1) := by decide +kernel
theorem d_C_init_14 : decode M_C_init.2.1 14 = .ok (.sipush 2048, 3) := by decide +kernel
theorem d_C_init_17 : decode M_C_init.2.1 17 = .ok (.newarray .int, 2) := by decide +kernel
theorem d_C_init_19 : decode M_C_init.2.1 19 = .ok (.putfield 15, 3) := by decide +kernel
theorem d_C_init_22 : decode M_C_init.2.1 22 = .ok (.aload_n 0, 1) := by decide +kernel
theorem d_C_init_23 : decode M_C_init.2.1 23 = .ok (.sipush 1200, 3) := by decide +kernel
theorem d_C_init_26 : decode M_C_init.2.1 26 = .ok (.putfield 18, 3) := by decide +kernel
theorem d_C_init_29 : decode M_C_init.2.1 29 = .ok (.return_, 1) := by decide +kernel
theorem d_C_codeAt_0 : decode M_C_codeAt.2.1 0 = .ok (.aload_n 0, 1) := by decide +kernel
theorem d_C_codeAt_1 : decode M_C_codeAt.2.1 1 = .ok (.getfield 9, 3) := by decide +kernel
theorem d_C_codeAt_4 : decode M_C_codeAt.2.1 4 = .ok (.iload_n 1, 1) := by decide +kernel
theorem d_C_codeAt_5 : decode M_C_codeAt.2.1 5 = .ok (.invokestatic 22, 3) := by decide +kernel
theorem d_C_codeAt_8 : decode M_C_codeAt.2.1 8 = .ok (.ireturn, 1) := by decide +kernel
theorem d_C_write_0 : decode M_C_write.2.1 0 = .ok (.aload_n 0, 1) := by decide +kernel
theorem d_C_write_1 : decode M_C_write.2.1 1 = .ok (.getfield 9, 3) := by decide +kernel
theorem d_C_write_4 : decode M_C_write.2.1 4 = .ok (.iload_n 1, 1) := by decide +kernel
theorem d_C_write_5 : decode M_C_write.2.1 5 = .ok (.iload_n 2, 1) := by decide +kernel
theorem d_C_write_6 : decode M_C_write.2.1 6 = .ok (.invokestatic 26, 3) := by decide +kernel
theorem d_C_write_9 : decode M_C_write.2.1 9 = .ok (.aload_n 0, 1) := by decide +kernel
theorem d_C_write_10 : decode M_C_write.2.1 10 = .ok (.getfield 15, 3) := by decide +kernel
theorem d_C_write_13 : decode M_C_write.2.1 13 = .ok (.iload_n 1, 1) := by decide +kernel
theorem d_C_write_14 : decode M_C_write.2.1 14 = .ok (.iload_n 3, 1) := by decide +kernel
theorem d_C_write_15 : decode M_C_write.2.1 15 = .ok (.invokestatic 26, 3) := by decide +kernel
theorem d_C_write_18 : decode M_C_write.2.1 18 = .ok (.return_, 1) := by decide +kernel
theorem d_C_boundAt_0 : decode M_C_boundAt.2.1 0 = .ok (.aload_n 0, 1) := by decide +kernel
theorem d_C_boundAt_1 : decode M_C_boundAt.2.1 1 = .ok (.getfield 15, 3) := by decide +kernel
theorem d_C_boundAt_4 : decode M_C_boundAt.2.1 4 = .ok (.iload_n 1, 1) := by decide +kernel
theorem d_C_boundAt_5 : decode M_C_boundAt.2.1 5 = .ok (.invokestatic 22, 3) := by decide +kernel
theorem d_C_boundAt_8 : decode M_C_boundAt.2.1 8 = .ok (.ireturn, 1) := by decide +kernel
theorem d_C_append_0 : decode M_C_append.2.1 0 = .ok (.aload_n 0, 1) := by decide +kernel
theorem d_C_append_1 : decode M_C_append.2.1 1 = .ok (.getfield 18, 3) := by decide +kernel
theorem d_C_append_4 : decode M_C_append.2.1 4 = .ok (.aload_n 0, 1) := by decide +kernel
theorem d_C_append_5 : decode M_C_append.2.1 5 = .ok (.getfield 9, 3) := by decide +kernel
theorem d_C_append_8 : decode M_C_append.2.1 8 = .ok (.arraylength, 1) := by decide +kernel
theorem d_C_append_9 : decode M_C_append.2.1 9 = .ok (.if_icmp .lt 49, 3) := by decide +kernel
theorem d_C_append_12 : decode M_C_append.2.1 12 = .ok (.aload_n 0, 1) := by decide +kernel
theorem d_C_append_13 : decode M_C_append.2.1 13 = .ok (.getfield 9, 3) := by decide +kernel
theorem d_C_append_16 : decode M_C_append.2.1 16 = .ok (.arraylength, 1) := by decide +kernel
theorem d_C_append_17 : decode M_C_append.2.1 17 = .ok (.ldc 30, 2) := by decide +kernel
theorem d_C_append_19 : decode M_C_append.2.1 19 = .ok (.if_icmp .ge 39, 3) := by decide +kernel
theorem d_C_append_22 : decode M_C_append.2.1 22 = .ok (.aload_n 0, 1) := by decide +kernel
theorem d_C_append_23 : decode M_C_append.2.1 23 = .ok (.aload_n 0, 1) := by decide +kernel
theorem d_C_append_24 : decode M_C_append.2.1 24 = .ok (.getfield 9, 3) := by decide +kernel
theorem d_C_append_27 : decode M_C_append.2.1 27 = .ok (.iconst 2, 1) := by decide +kernel
theorem d_C_append_28 : decode M_C_append.2.1 28 = .ok (.aload_n 0, 1) := by decide +kernel
theorem d_C_append_29 : decode M_C_append.2.1 29 = .ok (.getfield 9, 3) := by decide +kernel
theorem d_C_append_32 : decode M_C_append.2.1 32 = .ok (.arraylength, 1) := by decide +kernel
theorem d_C_append_33 : decode M_C_append.2.1 33 = .ok (.imul, 1) := by decide +kernel
theorem d_C_append_34 : decode M_C_append.2.1 34 = .ok (.invokestatic 31, 3) := by decide +kernel
theorem d_C_append_37 : decode M_C_append.2.1 37 = .ok (.putfield 9, 3) := by decide +kernel
theorem d_C_append_40 : decode M_C_append.2.1 40 = .ok (.aload_n 0, 1) := by decide +kernel
theorem d_C_append_41 : decode M_C_append.2.1 41 = .ok (.aload_n 0, 1) := by decide +kernel
theorem d_C_append_42 : decode M_C_append.2.1 42 = .ok (.getfield 15, 3) := by decide +kernel
theorem d_C_append_45 : decode M_C_append.2.1 45 = .ok (.iconst 2, 1) := by decide +kernel
theorem d_C_append_46 : decode M_C_append.2.1 46 = .ok (.aload_n 0, 1) := by decide +kernel
theorem d_C_append_47 : decode M_C_append.2.1 47 = .ok (.getfield 15, 3) := by decide +kernel
theorem d_C_append_50 : decode M_C_append.2.1 50 = .ok (.arraylength, 1) := by decide +kernel
theorem d_C_append_51 : decode M_C_append.2.1 51 = .ok (.imul, 1) := by decide +kernel
theorem d_C_append_52 : decode M_C_append.2.1 52 = .ok (.invokestatic 31, 3) := by decide +kernel
theorem d_C_append_55 : decode M_C_append.2.1 55 = .ok (.putfield 15, 3) := by decide +kernel
theorem d_C_append_58 : decode M_C_append.2.1 58 = .ok (.aload_n 0, 1) := by decide +kernel
theorem d_C_append_59 : decode M_C_append.2.1 59 = .ok (.getfield 18, 3) := by decide +kernel
theorem d_C_append_62 : decode M_C_append.2.1 62 = .ok (.ifCond .lt 47, 3) := by decide +kernel
theorem d_C_append_65 : decode M_C_append.2.1 65 = .ok (.aload_n 0, 1) := by decide +kernel
theorem d_C_append_66 : decode M_C_append.2.1 66 = .ok (.getfield 18, 3) := by decide +kernel
theorem d_C_append_69 : decode M_C_append.2.1 69 = .ok (.aload_n 0, 1) := by decide +kernel
theorem d_C_append_70 : decode M_C_append.2.1 70 = .ok (.getfield 9, 3) := by decide +kernel
theorem d_C_append_73 : decode M_C_append.2.1 73 = .ok (.arraylength, 1) := by decide +kernel
theorem d_C_append_74 : decode M_C_append.2.1 74 = .ok (.if_icmp .ge 35, 3) := by decide +kernel
theorem d_C_append_77 : decode M_C_append.2.1 77 = .ok (.aload_n 0, 1) := by decide +kernel
theorem d_C_append_78 : decode M_C_append.2.1 78 = .ok (.getfield 18, 3) := by decide +kernel
theorem d_C_append_81 : decode M_C_append.2.1 81 = .ok (.aload_n 0, 1) := by decide +kernel
theorem d_C_append_82 : decode M_C_append.2.1 82 = .ok (.getfield 15, 3) := by decide +kernel
theorem d_C_append_85 : decode M_C_append.2.1 85 = .ok (.arraylength, 1) := by decide +kernel
theorem d_C_append_86 : decode M_C_append.2.1 86 = .ok (.if_icmp .ge 23, 3) := by decide +kernel
theorem d_C_append_89 : decode M_C_append.2.1 89 = .ok (.aload_n 0, 1) := by decide +kernel
theorem d_C_append_90 : decode M_C_append.2.1 90 = .ok (.getfield 9, 3) := by decide +kernel
theorem d_C_append_93 : decode M_C_append.2.1 93 = .ok (.aload_n 0, 1) := by decide +kernel
theorem d_C_append_94 : decode M_C_append.2.1 94 = .ok (.getfield 18, 3) := by decide +kernel
theorem d_C_append_97 : decode M_C_append.2.1 97 = .ok (.iload_n 1, 1) := by decide +kernel
theorem d_C_append_98 : decode M_C_append.2.1 98 = .ok (.iastore, 1) := by decide +kernel
theorem d_C_append_99 : decode M_C_append.2.1 99 = .ok (.aload_n 0, 1) := by decide +kernel
theorem d_C_append_100 : decode M_C_append.2.1 100 = .ok (.getfield 15, 3) := by decide +kernel
theorem d_C_append_103 : decode M_C_append.2.1 103 = .ok (.aload_n 0, 1) := by decide +kernel
theorem d_C_append_104 : decode M_C_append.2.1 104 = .ok (.getfield 18, 3) := by decide +kernel
theorem d_C_append_107 : decode M_C_append.2.1 107 = .ok (.iload_n 2, 1) := by decide +kernel
theorem d_C_append_108 : decode M_C_append.2.1 108 = .ok (.iastore, 1) := by decide +kernel
theorem d_C_append_109 : decode M_C_append.2.1 109 = .ok (.aload_n 0, 1) := by decide +kernel
theorem d_C_append_110 : decode M_C_append.2.1 110 = .ok (.dup, 1) := by decide +kernel
theorem d_C_append_111 : decode M_C_append.2.1 111 = .ok (.getfield 18, 3) := by decide +kernel
theorem d_C_append_114 : decode M_C_append.2.1 114 = .ok (.iconst 1, 1) := by decide +kernel
theorem d_C_append_115 : decode M_C_append.2.1 115 = .ok (.iadd, 1) := by decide +kernel
theorem d_C_append_116 : decode M_C_append.2.1 116 = .ok (.putfield 18, 3) := by decide +kernel
theorem d_C_append_119 : decode M_C_append.2.1 119 = .ok (.return_, 1) := by decide +kernel
end
section
theorem d_D_init_0 : decode M_D_init.2.1 0 = .ok (.aload_n 0, 1) := by decide +kernel
theorem d_D_init_1 : decode M_D_init.2.1 1 = .ok (.invokespecial 1, 3) := by decide +kernel
theorem d_D_init_4 : decode M_D_init.2.1 4 = .ok (.aload_n 0, 1) := by decide +kernel
theorem d_D_init_5 : decode M_D_init.2.1 5 = .ok (.bipush 16, 2) := by decide +kernel
theorem d_D_init_7 : decode M_D_init.2.1 7 = .ok (.newarray .int, 2) := by decide +kernel
theorem d_D_init_9 : decode M_D_init.2.1 9 = .ok (.putfield 7, 3) := by decide +kernel
theorem d_D_init_12 : decode M_D_init.2.1 12 = .ok (.aload_n 0, 1) := by decide +kernel
theorem d_D_init_13 : decode M_D_init.2.1 13 = .ok (.bipush 48, 2) := by decide +kernel
theorem d_D_init_15 : decode M_D_init.2.1 15 = .ok (.newarray .int, 2) := by decide +kernel
theorem d_D_init_17 : decode M_D_init.2.1 17 = .ok (.putfield 13, 3) := by decide +kernel
theorem d_D_init_20 : decode M_D_init.2.1 20 = .ok (.aload_n 0, 1) := by decide +kernel
theorem d_D_init_21 : decode M_D_init.2.1 21 = .ok (.sipush 324, 3) := by decide +kernel
theorem d_D_init_24 : decode M_D_init.2.1 24 = .ok (.newarray .int, 2) := by decide +kernel
theorem d_D_init_26 : decode M_D_init.2.1 26 = .ok (.putfield 16, 3) := by decide +kernel
theorem d_D_init_29 : decode M_D_init.2.1 29 = .ok (.aload_n 0, 1) := by decide +kernel
theorem d_D_init_30 : decode M_D_init.2.1 30 = .ok (.sipush 324, 3) := by decide +kernel
theorem d_D_init_33 : decode M_D_init.2.1 33 = .ok (.newarray .int, 2) := by decide +kernel
theorem d_D_init_35 : decode M_D_init.2.1 35 = .ok (.putfield 19, 3) := by decide +kernel
theorem d_D_init_38 : decode M_D_init.2.1 38 = .ok (.aload_n 0, 1) := by decide +kernel
theorem d_D_init_39 : decode M_D_init.2.1 39 = .ok (.ldc 22, 2) := by decide +kernel
theorem d_D_init_41 : decode M_D_init.2.1 41 = .ok (.newarray .int, 2) := by decide +kernel
theorem d_D_init_43 : decode M_D_init.2.1 43 = .ok (.putfield 23, 3) := by decide +kernel
theorem d_D_init_46 : decode M_D_init.2.1 46 = .ok (.aload_n 0, 1) := by decide +kernel
theorem d_D_init_47 : decode M_D_init.2.1 47 = .ok (.sipush 324, 3) := by decide +kernel
theorem d_D_init_50 : decode M_D_init.2.1 50 = .ok (.newarray .boolean, 2) := by decide +kernel
theorem d_D_init_52 : decode M_D_init.2.1 52 = .ok (.putfield 26, 3) := by decide +kernel
theorem d_D_init_55 : decode M_D_init.2.1 55 = .ok (.aload_n 0, 1) := by decide +kernel
theorem d_D_init_56 : decode M_D_init.2.1 56 = .ok (.sipush 324, 3) := by decide +kernel
theorem d_D_init_59 : decode M_D_init.2.1 59 = .ok (.newarray .boolean, 2) := by decide +kernel
theorem d_D_init_61 : decode M_D_init.2.1 61 = .ok (.putfield 30, 3) := by decide +kernel
theorem d_D_init_64 : decode M_D_init.2.1 64 = .ok (.aload_n 0, 1) := by decide +kernel
theorem d_D_init_65 : decode M_D_init.2.1 65 = .ok (.sipush 1280, 3) := by decide +kernel
theorem d_D_init_68 : decode M_D_init.2.1 68 = .ok (.newarray .int, 2) := by decide +kernel
theorem d_D_init_70 : decode M_D_init.2.1 70 = .ok (.putfield 33, 3) := by decide +kernel
theorem d_D_init_73 : decode M_D_init.2.1 73 = .ok (.aload_n 0, 1) := by decide +kernel
theorem d_D_init_74 : decode M_D_init.2.1 74 = .ok (.bipush 8, 2) := by decide +kernel
theorem d_D_init_76 : decode M_D_init.2.1 76 = .ok (.newarray .int, 2) := by decide +kernel
theorem d_D_init_78 : decode M_D_init.2.1 78 = .ok (.putfield 36, 3) := by decide +kernel
theorem d_D_init_81 : decode M_D_init.2.1 81 = .ok (.aload_n 0, 1) := by decide +kernel
theorem d_D_init_82 : decode M_D_init.2.1 82 = .ok (.bipush 8, 2) := by decide +kernel
theorem d_D_init_84 : decode M_D_init.2.1 84 = .ok (.newarray .int, 2) := by decide +kernel
theorem d_D_init_86 : decode M_D_init.2.1 86 = .ok (.putfield 39, 3) := by decide +kernel
theorem d_D_init_89 : decode M_D_init.2.1 89 = .ok (.aload_n 0, 1) := by decide +kernel
theorem d_D_init_90 : decode M_D_init.2.1 90 = .ok (.bipush 8, 2) := by decide +kernel
theorem d_D_init_92 : decode M_D_init.2.1 92 = .ok (.newarray .int, 2) := by decide +kernel
theorem d_D_init_94 : decode M_D_init.2.1 94 = .ok (.putfield 42, 3) := by decide +kernel
theorem d_D_init_97 : decode M_D_init.2.1 97 = .ok (.aload_n 0, 1) := by decide +kernel
theorem d_D_init_98 : decode M_D_init.2.1 98 = .ok (.bipush 8, 2) := by decide +kernel
theorem d_D_init_100 : decode M_D_init.2.1 100 = .ok (.newarray .int, 2) := by decide +kernel
theorem d_D_init_102 : decode M_D_init.2.1 102 = .ok (.putfield 45, 3) := by decide +kernel
theorem d_D_init_105 : decode M_D_init.2.1 105 = .ok (.aload_n 0, 1) := by decide +kernel
theorem d_D_init_106 : decode M_D_init.2.1 106 = .ok (.sipush 1280, 3) := by decide +kernel
theorem d_D_init_109 : decode M_D_init.2.1 109 = .ok (.newarray .int, 2) := by decide +kernel
theorem d_D_init_111 : decode M_D_init.2.1 111 = .ok (.putfield 48, 3) := by decide +kernel
theorem d_D_init_114 : decode M_D_init.2.1 114 = .ok (.aload_n 0, 1) := by decide +kernel
theorem d_D_init_115 : decode M_D_init.2.1 115 = .ok (.sipush 1280, 3) := by decide +kernel
theorem d_D_init_118 : decode M_D_init.2.1 118 = .ok (.newarray .int, 2) := by decide +kernel
theorem d_D_init_120 : decode M_D_init.2.1 120 = .ok (.putfield 51, 3) := by decide +kernel
theorem d_D_init_123 : decode M_D_init.2.1 123 = .ok (.aload_n 0, 1) := by decide +kernel
theorem d_D_init_124 : decode M_D_init.2.1 124 = .ok (.bipush 8, 2) := by decide +kernel
theorem d_D_init_126 : decode M_D_init.2.1 126 = .ok (.newarray .boolean, 2) := by decide +kernel
theorem d_D_init_128 : decode M_D_init.2.1 128 = .ok (.putfield 54, 3) := by decide +kernel
theorem d_D_init_131 : decode M_D_init.2.1 131 = .ok (.aload_n 0, 1) := by decide +kernel
theorem d_D_init_132 : decode M_D_init.2.1 132 = .ok (.sipush 16384, 3) := by decide +kernel
theorem d_D_init_135 : decode M_D_init.2.1 135 = .ok (.newarray .int, 2) := by decide +kernel
theorem d_D_init_137 : decode M_D_init.2.1 137 = .ok (.putfield 57, 3) := by decide +kernel
theorem d_D_init_140 : decode M_D_init.2.1 140 = .ok (.aload_n 0, 1) := by decide +kernel
theorem d_D_init_141 : decode M_D_init.2.1 141 = .ok (.sipush 16384, 3) := by decide +kernel
theorem d_D_init_144 : decode M_D_init.2.1 144 = .ok (.newarray .int, 2) := by decide +kernel
theorem d_D_init_146 : decode M_D_init.2.1 146 = .ok (.putfield 60, 3) := by decide +kernel
theorem d_D_init_149 : decode M_D_init.2.1 149 = .ok (.aload_n 0, 1) := by decide +kernel
theorem d_D_init_150 : decode M_D_init.2.1 150 = .ok (.sipush 16384, 3) := by decide +kernel
theorem d_D_init_153 : decode M_D_init.2.1 153 = .ok (.newarray .int, 2) := by decide +kernel
theorem d_D_init_155 : decode M_D_init.2.1 155 = .ok (.putfield 63, 3) := by decide +kernel
theorem d_D_init_158 : decode M_D_init.2.1 158 = .ok (.aload_n 0, 1) := by decide +kernel
theorem d_D_init_159 : decode M_D_init.2.1 159 = .ok (.sipush 16384, 3) := by decide +kernel
theorem d_D_init_162 : decode M_D_init.2.1 162 = .ok (.newarray .int, 2) := by decide +kernel
theorem d_D_init_164 : decode M_D_init.2.1 164 = .ok (.putfield 66, 3) := by decide +kernel
theorem d_D_init_167 : decode M_D_init.2.1 167 = .ok (.aload_n 0, 1) := by decide +kernel
theorem d_D_init_168 : decode M_D_init.2.1 168 = .ok (.sipush 4096, 3) := by decide +kernel
theorem d_D_init_171 : decode M_D_init.2.1 171 = .ok (.newarray .int, 2) := by decide +kernel
theorem d_D_init_173 : decode M_D_init.2.1 173 = .ok (.putfield 69, 3) := by decide +kernel
theorem d_D_init_176 : decode M_D_init.2.1 176 = .ok (.aload_n 0, 1) := by decide +kernel
theorem d_D_init_177 : decode M_D_init.2.1 177 = .ok (.sipush 4096, 3) := by decide +kernel
theorem d_D_init_180 : decode M_D_init.2.1 180 = .ok (.newarray .int, 2) := by decide +kernel
theorem d_D_init_182 : decode M_D_init.2.1 182 = .ok (.putfield 72, 3) := by decide +kernel
theorem d_D_init_185 : decode M_D_init.2.1 185 = .ok (.aload_n 0, 1) := by decide +kernel
theorem d_D_init_186 : decode M_D_init.2.1 186 = .ok (.ldc 75, 2) := by decide +kernel
theorem d_D_init_188 : decode M_D_init.2.1 188 = .ok (.newarray .int, 2) := by decide +kernel
theorem d_D_init_190 : decode M_D_init.2.1 190 = .ok (.putfield 76, 3) := by decide +kernel
theorem d_D_init_193 : decode M_D_init.2.1 193 = .ok (.aload_n 0, 1) := by decide +kernel
theorem d_D_init_194 : decode M_D_init.2.1 194 = .ok (.sipush 4096, 3) := by decide +kernel
theorem d_D_init_197 : decode M_D_init.2.1 197 = .ok (.newarray .int, 2) := by decide +kernel
theorem d_D_init_199 : decode M_D_init.2.1 199 = .ok (.putfield 79, 3) := by decide +kernel
theorem d_D_init_202 : decode M_D_init.2.1 202 = .ok (.aload_n 0, 1) := by decide +kernel
theorem d_D_init_203 : decode M_D_init.2.1 203 = .ok (.sipush 4096, 3) := by decide +kernel
theorem d_D_init_206 : decode M_D_init.2.1 206 = .ok (.newarray .int, 2) := by decide +kernel
theorem d_D_init_208 : decode M_D_init.2.1 208 = .ok (.putfield 82, 3) := by decide +kernel
theorem d_D_init_211 : decode M_D_init.2.1 211 = .ok (.aload_n 0, 1) := by decide +kernel
theorem d_D_init_212 : decode M_D_init.2.1 212 = .ok (.sipush 4096, 3) := by decide +kernel
theorem d_D_init_215 : decode M_D_init.2.1 215 = .ok (.newarray .int, 2) := by decide +kernel
theorem d_D_init_217 : decode M_D_init.2.1 217 = .ok (.putfield 85, 3) := by decide +kernel
theorem d_D_init_220 : decode M_D_init.2.1 220 = .ok (.aload_n 0, 1) := by decide +kernel
theorem d_D_init_221 : decode M_D_init.2.1 221 = .ok (.sipush 16384, 3) := by decide +kernel
theorem d_D_init_224 : decode M_D_init.2.1 224 = .ok (.newarray .int, 2) := by decide +kernel
theorem d_D_init_226 : decode M_D_init.2.1 226 = .ok (.putfield 88, 3) := by decide +kernel
theorem d_D_init_229 : decode M_D_init.2.1 229 = .ok (.aload_n 0, 1) := by decide +kernel
theorem d_D_init_230 : decode M_D_init.2.1 230 = .ok (.sipush 16384, 3) := by decide +kernel
theorem d_D_init_233 : decode M_D_init.2.1 233 = .ok (.newarray .int, 2) := by decide +kernel
theorem d_D_init_235 : decode M_D_init.2.1 235 = .ok (.putfield 91, 3) := by decide +kernel
theorem d_D_init_238 : decode M_D_init.2.1 238 = .ok (.aload_n 0, 1) := by decide +kernel
theorem d_D_init_239 : decode M_D_init.2.1 239 = .ok (.sipush 324, 3) := by decide +kernel
theorem d_D_init_242 : decode M_D_init.2.1 242 = .ok (.newarray .int, 2) := by decide +kernel
theorem d_D_init_244 : decode M_D_init.2.1 244 = .ok (.putfield 94, 3) := by decide +kernel
theorem d_D_init_247 : decode M_D_init.2.1 247 = .ok (.aload_n 0, 1) := by decide +kernel
theorem d_D_init_248 : decode M_D_init.2.1 248 = .ok (.sipush 1296, 3) := by decide +kernel
theorem d_D_init_251 : decode M_D_init.2.1 251 = .ok (.newarray .int, 2) := by decide +kernel
theorem d_D_init_253 : decode M_D_init.2.1 253 = .ok (.putfield 97, 3) := by decide +kernel
theorem d_D_init_256 : decode M_D_init.2.1 256 = .ok (.return_, 1) := by decide +kernel
theorem d_D_thrown_0 : decode M_D_thrown.2.1 0 = .ok (.aload_n 0, 1) := by decide +kernel
theorem d_D_thrown_1 : decode M_D_thrown.2.1 1 = .ok (.getfield 100, 3) := by decide +kernel
theorem d_D_thrown_4 : decode M_D_thrown.2.1 4 = .ok (.ireturn, 1) := by decide +kernel
theorem d_D_operation_0 : decode M_D_operation.2.1 0 = .ok (.iload_n 1, 1) := by decide +kernel
theorem d_D_operation_1 : decode M_D_operation.2.1 1 = .ok (.iconst (-1), 1) := by decide +kernel
theorem d_D_operation_2 : decode M_D_operation.2.1 2 = .ok (.if_icmp .lt 48, 3) := by decide +kernel
theorem d_D_operation_5 : decode M_D_operation.2.1 5 = .ok (.iload_n 1, 1) := by decide +kernel
theorem d_D_operation_6 : decode M_D_operation.2.1 6 = .ok (.iconst 3, 1) := by decide +kernel
theorem d_D_operation_7 : decode M_D_operation.2.1 7 = .ok (.if_icmp .ge 43, 3) := by decide +kernel
theorem d_D_operation_10 : decode M_D_operation.2.1 10 = .ok (.iload_n 2, 1) := by decide +kernel
theorem d_D_operation_11 : decode M_D_operation.2.1 11 = .ok (.iconst (-1), 1) := by decide +kernel
theorem d_D_operation_12 : decode M_D_operation.2.1 12 = .ok (.if_icmp .lt 38, 3) := by decide +kernel
theorem d_D_operation_15 : decode M_D_operation.2.1 15 = .ok (.iload_n 2, 1) := by decide +kernel
theorem d_D_operation_16 : decode M_D_operation.2.1 16 = .ok (.iconst 3, 1) := by decide +kernel
theorem d_D_operation_17 : decode M_D_operation.2.1 17 = .ok (.if_icmp .ge 33, 3) := by decide +kernel
theorem d_D_operation_20 : decode M_D_operation.2.1 20 = .ok (.iload_n 3, 1) := by decide +kernel
theorem d_D_operation_21 : decode M_D_operation.2.1 21 = .ok (.iconst (-1), 1) := by decide +kernel
theorem d_D_operation_22 : decode M_D_operation.2.1 22 = .ok (.if_icmp .lt 28, 3) := by decide +kernel
theorem d_D_operation_25 : decode M_D_operation.2.1 25 = .ok (.iload_n 3, 1) := by decide +kernel
theorem d_D_operation_26 : decode M_D_operation.2.1 26 = .ok (.iconst 3, 1) := by decide +kernel
theorem d_D_operation_27 : decode M_D_operation.2.1 27 = .ok (.if_icmp .ge 23, 3) := by decide +kernel
theorem d_D_operation_30 : decode M_D_operation.2.1 30 = .ok (.iload_n 1, 1) := by decide +kernel
theorem d_D_operation_31 : decode M_D_operation.2.1 31 = .ok (.ifCond .ge 7, 3) := by decide +kernel
theorem d_D_operation_34 : decode M_D_operation.2.1 34 = .ok (.iload_n 2, 1) := by decide +kernel
theorem d_D_operation_35 : decode M_D_operation.2.1 35 = .ok (.ifCond .ge 15, 3) := by decide +kernel
theorem d_D_operation_38 : decode M_D_operation.2.1 38 = .ok (.iload_n 2, 1) := by decide +kernel
theorem d_D_operation_39 : decode M_D_operation.2.1 39 = .ok (.ifCond .ge 7, 3) := by decide +kernel
theorem d_D_operation_42 : decode M_D_operation.2.1 42 = .ok (.iload_n 3, 1) := by decide +kernel
theorem d_D_operation_43 : decode M_D_operation.2.1 43 = .ok (.ifCond .ge 7, 3) := by decide +kernel
theorem d_D_operation_46 : decode M_D_operation.2.1 46 = .ok (.iconst 1, 1) := by decide +kernel
theorem d_D_operation_47 : decode M_D_operation.2.1 47 = .ok (.goto 4, 3) := by decide +kernel
theorem d_D_operation_50 : decode M_D_operation.2.1 50 = .ok (.iconst 0, 1) := by decide +kernel
theorem d_D_operation_51 : decode M_D_operation.2.1 51 = .ok (.istore 4, 2) := by decide +kernel
theorem d_D_operation_53 : decode M_D_operation.2.1 53 = .ok (.aload_n 0, 1) := by decide +kernel
theorem d_D_operation_54 : decode M_D_operation.2.1 54 = .ok (.iload 4, 2) := by decide +kernel
theorem d_D_operation_56 : decode M_D_operation.2.1 56 = .ok (.ifCond .ne 7, 3) := by decide +kernel
theorem d_D_operation_59 : decode M_D_operation.2.1 59 = .ok (.iconst 1, 1) := by decide +kernel
theorem d_D_operation_60 : decode M_D_operation.2.1 60 = .ok (.goto 4, 3) := by decide +kernel
theorem d_D_operation_63 : decode M_D_operation.2.1 63 = .ok (.iconst 0, 1) := by decide +kernel
theorem d_D_operation_64 : decode M_D_operation.2.1 64 = .ok (.iconst 0, 1) := by decide +kernel
theorem d_D_operation_65 : decode M_D_operation.2.1 65 = .ok (.invokevirtual 104, 3) := by decide +kernel
theorem d_D_operation_68 : decode M_D_operation.2.1 68 = .ok (.ifCond .eq 5, 3) := by decide +kernel
theorem d_D_operation_71 : decode M_D_operation.2.1 71 = .ok (.iconst 0, 1) := by decide +kernel
theorem d_D_operation_72 : decode M_D_operation.2.1 72 = .ok (.ireturn, 1) := by decide +kernel
theorem d_D_operation_73 : decode M_D_operation.2.1 73 = .ok (.aload_n 0, 1) := by decide +kernel
theorem d_D_operation_74 : decode M_D_operation.2.1 74 = .ok (.getfield 108, 3) := by decide +kernel
theorem d_D_operation_77 : decode M_D_operation.2.1 77 = .ok (.bipush 16, 2) := by decide +kernel
theorem d_D_operation_79 : decode M_D_operation.2.1 79 = .ok (.if_icmp .ne 5, 3) := by decide +kernel
theorem d_D_operation_82 : decode M_D_operation.2.1 82 = .ok (.iconst (-1), 1) := by decide +kernel
theorem d_D_operation_83 : decode M_D_operation.2.1 83 = .ok (.ireturn, 1) := by decide +kernel
theorem d_D_operation_84 : decode M_D_operation.2.1 84 = .ok (.aload_n 0, 1) := by decide +kernel
theorem d_D_operation_85 : decode M_D_operation.2.1 85 = .ok (.getfield 7, 3) := by decide +kernel
theorem d_D_operation_88 : decode M_D_operation.2.1 88 = .ok (.aload_n 0, 1) := by decide +kernel
theorem d_D_operation_89 : decode M_D_operation.2.1 89 = .ok (.getfield 108, 3) := by decide +kernel
theorem d_D_operation_92 : decode M_D_operation.2.1 92 = .ok (.iload_n 1, 1) := by decide +kernel
theorem d_D_operation_93 : decode M_D_operation.2.1 93 = .ok (.ifCond .ge 7, 3) := by decide +kernel
theorem d_D_operation_96 : decode M_D_operation.2.1 96 = .ok (.iconst 0, 1) := by decide +kernel
theorem d_D_operation_97 : decode M_D_operation.2.1 97 = .ok (.goto 20, 3) := by decide +kernel
theorem d_D_operation_100 : decode M_D_operation.2.1 100 = .ok (.iload_n 2, 1) := by decide +kernel
theorem d_D_operation_101 : decode M_D_operation.2.1 101 = .ok (.ifCond .ge 7, 3) := by decide +kernel
theorem d_D_operation_104 : decode M_D_operation.2.1 104 = .ok (.iconst 1, 1) := by decide +kernel
theorem d_D_operation_105 : decode M_D_operation.2.1 105 = .ok (.goto 12, 3) := by decide +kernel
theorem d_D_operation_108 : decode M_D_operation.2.1 108 = .ok (.iload_n 3, 1) := by decide +kernel
theorem d_D_operation_109 : decode M_D_operation.2.1 109 = .ok (.ifCond .ge 7, 3) := by decide +kernel
theorem d_D_operation_112 : decode M_D_operation.2.1 112 = .ok (.iconst 2, 1) := by decide +kernel
theorem d_D_operation_113 : decode M_D_operation.2.1 113 = .ok (.goto 4, 3) := by decide +kernel
theorem d_D_operation_116 : decode M_D_operation.2.1 116 = .ok (.iconst 3, 1) := by decide +kernel
theorem d_D_operation_117 : decode M_D_operation.2.1 117 = .ok (.iastore, 1) := by decide +kernel
theorem d_D_operation_118 : decode M_D_operation.2.1 118 = .ok (.aload_n 0, 1) := by decide +kernel
theorem d_D_operation_119 : decode M_D_operation.2.1 119 = .ok (.getfield 13, 3) := by decide +kernel
theorem d_D_operation_122 : decode M_D_operation.2.1 122 = .ok (.iconst 3, 1) := by decide +kernel
theorem d_D_operation_123 : decode M_D_operation.2.1 123 = .ok (.aload_n 0, 1) := by decide +kernel
theorem d_D_operation_124 : decode M_D_operation.2.1 124 = .ok (.getfield 108, 3) := by decide +kernel
theorem d_D_operation_127 : decode M_D_operation.2.1 127 = .ok (.imul, 1) := by decide +kernel
theorem d_D_operation_128 : decode M_D_operation.2.1 128 = .ok (.iload_n 1, 1) := by decide +kernel
theorem d_D_operation_129 : decode M_D_operation.2.1 129 = .ok (.iastore, 1) := by decide +kernel
theorem d_D_operation_130 : decode M_D_operation.2.1 130 = .ok (.aload_n 0, 1) := by decide +kernel
theorem d_D_operation_131 : decode M_D_operation.2.1 131 = .ok (.getfield 13, 3) := by decide +kernel
theorem d_D_operation_134 : decode M_D_operation.2.1 134 = .ok (.iconst 3, 1) := by decide +kernel
theorem d_D_operation_135 : decode M_D_operation.2.1 135 = .ok (.aload_n 0, 1) := by decide +kernel
theorem d_D_operation_136 : decode M_D_operation.2.1 136 = .ok (.getfield 108, 3) := by decide +kernel
theorem d_D_operation_139 : decode M_D_operation.2.1 139 = .ok (.imul, 1) := by decide +kernel
theorem d_D_operation_140 : decode M_D_operation.2.1 140 = .ok (.iconst 1, 1) := by decide +kernel
theorem d_D_operation_141 : decode M_D_operation.2.1 141 = .ok (.iadd, 1) := by decide +kernel
theorem d_D_operation_142 : decode M_D_operation.2.1 142 = .ok (.iload_n 2, 1) := by decide +kernel
theorem d_D_operation_143 : decode M_D_operation.2.1 143 = .ok (.iastore, 1) := by decide +kernel
theorem d_D_operation_144 : decode M_D_operation.2.1 144 = .ok (.aload_n 0, 1) := by decide +kernel
theorem d_D_operation_145 : decode M_D_operation.2.1 145 = .ok (.getfield 13, 3) := by decide +kernel
theorem d_D_operation_148 : decode M_D_operation.2.1 148 = .ok (.iconst 3, 1) := by decide +kernel
theorem d_D_operation_149 : decode M_D_operation.2.1 149 = .ok (.aload_n 0, 1) := by decide +kernel
theorem d_D_operation_150 : decode M_D_operation.2.1 150 = .ok (.getfield 108, 3) := by decide +kernel
theorem d_D_operation_153 : decode M_D_operation.2.1 153 = .ok (.imul, 1) := by decide +kernel
theorem d_D_operation_154 : decode M_D_operation.2.1 154 = .ok (.iconst 2, 1) := by decide +kernel
theorem d_D_operation_155 : decode M_D_operation.2.1 155 = .ok (.iadd, 1) := by decide +kernel
theorem d_D_operation_156 : decode M_D_operation.2.1 156 = .ok (.iload_n 3, 1) := by decide +kernel
theorem d_D_operation_157 : decode M_D_operation.2.1 157 = .ok (.iastore, 1) := by decide +kernel
theorem d_D_operation_158 : decode M_D_operation.2.1 158 = .ok (.aload_n 0, 1) := by decide +kernel
theorem d_D_operation_159 : decode M_D_operation.2.1 159 = .ok (.dup, 1) := by decide +kernel
theorem d_D_operation_160 : decode M_D_operation.2.1 160 = .ok (.getfield 108, 3) := by decide +kernel
theorem d_D_operation_163 : decode M_D_operation.2.1 163 = .ok (.iconst 1, 1) := by decide +kernel
theorem d_D_operation_164 : decode M_D_operation.2.1 164 = .ok (.iadd, 1) := by decide +kernel
theorem d_D_operation_165 : decode M_D_operation.2.1 165 = .ok (.putfield 108, 3) := by decide +kernel
theorem d_D_operation_168 : decode M_D_operation.2.1 168 = .ok (.aload_n 0, 1) := by decide +kernel
theorem d_D_operation_169 : decode M_D_operation.2.1 169 = .ok (.getfield 108, 3) := by decide +kernel
theorem d_D_operation_172 : decode M_D_operation.2.1 172 = .ok (.iconst 1, 1) := by decide +kernel
theorem d_D_operation_173 : decode M_D_operation.2.1 173 = .ok (.isub, 1) := by decide +kernel
theorem d_D_operation_174 : decode M_D_operation.2.1 174 = .ok (.ireturn, 1) := by decide +kernel
theorem d_D_fails_0 : decode M_D_fails.2.1 0 = .ok (.aload_n 0, 1) := by decide +kernel
theorem d_D_fails_1 : decode M_D_fails.2.1 1 = .ok (.iload_n 1, 1) := by decide +kernel
theorem d_D_fails_2 : decode M_D_fails.2.1 2 = .ok (.ifCond .eq 7, 3) := by decide +kernel
theorem d_D_fails_5 : decode M_D_fails.2.1 5 = .ok (.iconst 1, 1) := by decide +kernel
theorem d_D_fails_6 : decode M_D_fails.2.1 6 = .ok (.goto 12, 3) := by decide +kernel
theorem d_D_fails_9 : decode M_D_fails.2.1 9 = .ok (.iload_n 2, 1) := by decide +kernel
theorem d_D_fails_10 : decode M_D_fails.2.1 10 = .ok (.ifCond .eq 7, 3) := by decide +kernel
theorem d_D_fails_13 : decode M_D_fails.2.1 13 = .ok (.iconst 2, 1) := by decide +kernel
theorem d_D_fails_14 : decode M_D_fails.2.1 14 = .ok (.goto 4, 3) := by decide +kernel
theorem d_D_fails_17 : decode M_D_fails.2.1 17 = .ok (.iconst 0, 1) := by decide +kernel
theorem d_D_fails_18 : decode M_D_fails.2.1 18 = .ok (.putfield 100, 3) := by decide +kernel
theorem d_D_fails_21 : decode M_D_fails.2.1 21 = .ok (.aload_n 0, 1) := by decide +kernel
theorem d_D_fails_22 : decode M_D_fails.2.1 22 = .ok (.getfield 100, 3) := by decide +kernel
theorem d_D_fails_25 : decode M_D_fails.2.1 25 = .ok (.ifCond .le 7, 3) := by decide +kernel
theorem d_D_fails_28 : decode M_D_fails.2.1 28 = .ok (.iconst 1, 1) := by decide +kernel
theorem d_D_fails_29 : decode M_D_fails.2.1 29 = .ok (.goto 4, 3) := by decide +kernel
theorem d_D_fails_32 : decode M_D_fails.2.1 32 = .ok (.iconst 0, 1) := by decide +kernel
theorem d_D_fails_33 : decode M_D_fails.2.1 33 = .ok (.ireturn, 1) := by decide +kernel
theorem d_D_hole_0 : decode M_D_hole.2.1 0 = .ok (.aload_n 0, 1) := by decide +kernel
theorem d_D_hole_1 : decode M_D_hole.2.1 1 = .ok (.iload_n 1, 1) := by decide +kernel
theorem d_D_hole_2 : decode M_D_hole.2.1 2 = .ok (.ifCond .lt 8, 3) := by decide +kernel
theorem d_D_hole_5 : decode M_D_hole.2.1 5 = .ok (.iload_n 1, 1) := by decide +kernel
theorem d_D_hole_6 : decode M_D_hole.2.1 6 = .ok (.iconst 4, 1) := by decide +kernel
theorem d_D_hole_7 : decode M_D_hole.2.1 7 = .ok (.if_icmp .le 7, 3) := by decide +kernel
theorem d_D_hole_10 : decode M_D_hole.2.1 10 = .ok (.iconst 1, 1) := by decide +kernel
theorem d_D_hole_11 : decode M_D_hole.2.1 11 = .ok (.goto 4, 3) := by decide +kernel
theorem d_D_hole_14 : decode M_D_hole.2.1 14 = .ok (.iconst 0, 1) := by decide +kernel
theorem d_D_hole_15 : decode M_D_hole.2.1 15 = .ok (.iconst 0, 1) := by decide +kernel
theorem d_D_hole_16 : decode M_D_hole.2.1 16 = .ok (.invokevirtual 104, 3) := by decide +kernel
theorem d_D_hole_19 : decode M_D_hole.2.1 19 = .ok (.ifCond .eq 5, 3) := by decide +kernel
theorem d_D_hole_22 : decode M_D_hole.2.1 22 = .ok (.iconst 0, 1) := by decide +kernel
theorem d_D_hole_23 : decode M_D_hole.2.1 23 = .ok (.ireturn, 1) := by decide +kernel
theorem d_D_hole_24 : decode M_D_hole.2.1 24 = .ok (.aload_n 0, 1) := by decide +kernel
theorem d_D_hole_25 : decode M_D_hole.2.1 25 = .ok (.getfield 111, 3) := by decide +kernel
theorem d_D_hole_28 : decode M_D_hole.2.1 28 = .ok (.bipush 24, 2) := by decide +kernel
theorem d_D_hole_30 : decode M_D_hole.2.1 30 = .ok (.if_icmp .ne 5, 3) := by decide +kernel
theorem d_D_hole_33 : decode M_D_hole.2.1 33 = .ok (.iconst (-1), 1) := by decide +kernel
theorem d_D_hole_34 : decode M_D_hole.2.1 34 = .ok (.ireturn, 1) := by decide +kernel
theorem d_D_hole_35 : decode M_D_hole.2.1 35 = .ok (.aload_n 0, 1) := by decide +kernel
theorem d_D_hole_36 : decode M_D_hole.2.1 36 = .ok (.getfield 16, 3) := by decide +kernel
theorem d_D_hole_39 : decode M_D_hole.2.1 39 = .ok (.aload_n 0, 1) := by decide +kernel
theorem d_D_hole_40 : decode M_D_hole.2.1 40 = .ok (.getfield 111, 3) := by decide +kernel
theorem d_D_hole_43 : decode M_D_hole.2.1 43 = .ok (.iload_n 1, 1) := by decide +kernel
theorem d_D_hole_44 : decode M_D_hole.2.1 44 = .ok (.iastore, 1) := by decide +kernel
theorem d_D_hole_45 : decode M_D_hole.2.1 45 = .ok (.aload_n 0, 1) := by decide +kernel
theorem d_D_hole_46 : decode M_D_hole.2.1 46 = .ok (.getfield 26, 3) := by decide +kernel
theorem d_D_hole_49 : decode M_D_hole.2.1 49 = .ok (.aload_n 0, 1) := by decide +kernel
theorem d_D_hole_50 : decode M_D_hole.2.1 50 = .ok (.getfield 111, 3) := by decide +kernel
theorem d_D_hole_53 : decode M_D_hole.2.1 53 = .ok (.iconst 0, 1) := by decide +kernel
theorem d_D_hole_54 : decode M_D_hole.2.1 54 = .ok (.bastore, 1) := by decide +kernel
theorem d_D_hole_55 : decode M_D_hole.2.1 55 = .ok (.aload_n 0, 1) := by decide +kernel
theorem d_D_hole_56 : decode M_D_hole.2.1 56 = .ok (.dup, 1) := by decide +kernel
theorem d_D_hole_57 : decode M_D_hole.2.1 57 = .ok (.getfield 111, 3) := by decide +kernel
theorem d_D_hole_60 : decode M_D_hole.2.1 60 = .ok (.iconst 1, 1) := by decide +kernel
theorem d_D_hole_61 : decode M_D_hole.2.1 61 = .ok (.iadd, 1) := by decide +kernel
theorem d_D_hole_62 : decode M_D_hole.2.1 62 = .ok (.putfield 111, 3) := by decide +kernel
theorem d_D_hole_65 : decode M_D_hole.2.1 65 = .ok (.aload_n 0, 1) := by decide +kernel
theorem d_D_hole_66 : decode M_D_hole.2.1 66 = .ok (.getfield 111, 3) := by decide +kernel
theorem d_D_hole_69 : decode M_D_hole.2.1 69 = .ok (.iconst 1, 1) := by decide +kernel
theorem d_D_hole_70 : decode M_D_hole.2.1 70 = .ok (.isub, 1) := by decide +kernel
theorem d_D_hole_71 : decode M_D_hole.2.1 71 = .ok (.ireturn, 1) := by decide +kernel
theorem d_D_begin_0 : decode M_D_begin.2.1 0 = .ok (.aload_n 0, 1) := by decide +kernel
theorem d_D_begin_1 : decode M_D_begin.2.1 1 = .ok (.iload_n 1, 1) := by decide +kernel
theorem d_D_begin_2 : decode M_D_begin.2.1 2 = .ok (.invokestatic 114, 3) := by decide +kernel
theorem d_D_begin_5 : decode M_D_begin.2.1 5 = .ok (.ifCond .eq 13, 3) := by decide +kernel
theorem d_D_begin_8 : decode M_D_begin.2.1 8 = .ok (.iload_n 2, 1) := by decide +kernel
theorem d_D_begin_9 : decode M_D_begin.2.1 9 = .ok (.ifCond .lt 9, 3) := by decide +kernel
theorem d_D_begin_12 : decode M_D_begin.2.1 12 = .ok (.iload_n 2, 1) := by decide +kernel
theorem d_D_begin_13 : decode M_D_begin.2.1 13 = .ok (.bipush 6, 2) := by decide +kernel
theorem d_D_begin_15 : decode M_D_begin.2.1 15 = .ok (.if_icmp .le 7, 3) := by decide +kernel
theorem d_D_begin_18 : decode M_D_begin.2.1 18 = .ok (.iconst 1, 1) := by decide +kernel
theorem d_D_begin_19 : decode M_D_begin.2.1 19 = .ok (.goto 4, 3) := by decide +kernel
theorem d_D_begin_22 : decode M_D_begin.2.1 22 = .ok (.iconst 0, 1) := by decide +kernel
theorem d_D_begin_23 : decode M_D_begin.2.1 23 = .ok (.iconst 0, 1) := by decide +kernel
theorem d_D_begin_24 : decode M_D_begin.2.1 24 = .ok (.invokevirtual 104, 3) := by decide +kernel
theorem d_D_begin_27 : decode M_D_begin.2.1 27 = .ok (.ifCond .eq 5, 3) := by decide +kernel
theorem d_D_begin_30 : decode M_D_begin.2.1 30 = .ok (.iconst 0, 1) := by decide +kernel
theorem d_D_begin_31 : decode M_D_begin.2.1 31 = .ok (.ireturn, 1) := by decide +kernel
theorem d_D_begin_32 : decode M_D_begin.2.1 32 = .ok (.aload_n 0, 1) := by decide +kernel
theorem d_D_begin_33 : decode M_D_begin.2.1 33 = .ok (.getfield 54, 3) := by decide +kernel
theorem d_D_begin_36 : decode M_D_begin.2.1 36 = .ok (.iload_n 1, 1) := by decide +kernel
theorem d_D_begin_37 : decode M_D_begin.2.1 37 = .ok (.iconst 1, 1) := by decide +kernel
theorem d_D_begin_38 : decode M_D_begin.2.1 38 = .ok (.bastore, 1) := by decide +kernel
theorem d_D_begin_39 : decode M_D_begin.2.1 39 = .ok (.aload_n 0, 1) := by decide +kernel
theorem d_D_begin_40 : decode M_D_begin.2.1 40 = .ok (.getfield 36, 3) := by decide +kernel
theorem d_D_begin_43 : decode M_D_begin.2.1 43 = .ok (.iload_n 1, 1) := by decide +kernel
theorem d_D_begin_44 : decode M_D_begin.2.1 44 = .ok (.iconst 0, 1) := by decide +kernel
theorem d_D_begin_45 : decode M_D_begin.2.1 45 = .ok (.iastore, 1) := by decide +kernel
theorem d_D_begin_46 : decode M_D_begin.2.1 46 = .ok (.aload_n 0, 1) := by decide +kernel
theorem d_D_begin_47 : decode M_D_begin.2.1 47 = .ok (.getfield 39, 3) := by decide +kernel
theorem d_D_begin_50 : decode M_D_begin.2.1 50 = .ok (.iload_n 1, 1) := by decide +kernel
theorem d_D_begin_51 : decode M_D_begin.2.1 51 = .ok (.iconst 0, 1) := by decide +kernel
theorem d_D_begin_52 : decode M_D_begin.2.1 52 = .ok (.iastore, 1) := by decide +kernel
theorem d_D_begin_53 : decode M_D_begin.2.1 53 = .ok (.aload_n 0, 1) := by decide +kernel
theorem d_D_begin_54 : decode M_D_begin.2.1 54 = .ok (.getfield 42, 3) := by decide +kernel
theorem d_D_begin_57 : decode M_D_begin.2.1 57 = .ok (.iload_n 1, 1) := by decide +kernel
theorem d_D_begin_58 : decode M_D_begin.2.1 58 = .ok (.iload_n 2, 1) := by decide +kernel
theorem d_D_begin_59 : decode M_D_begin.2.1 59 = .ok (.iastore, 1) := by decide +kernel
theorem d_D_begin_60 : decode M_D_begin.2.1 60 = .ok (.aload_n 0, 1) := by decide +kernel
theorem d_D_begin_61 : decode M_D_begin.2.1 61 = .ok (.getfield 45, 3) := by decide +kernel
theorem d_D_begin_64 : decode M_D_begin.2.1 64 = .ok (.iload_n 1, 1) := by decide +kernel
theorem d_D_begin_65 : decode M_D_begin.2.1 65 = .ok (.iconst 1, 1) := by decide +kernel
theorem d_D_begin_66 : decode M_D_begin.2.1 66 = .ok (.iastore, 1) := by decide +kernel
theorem d_D_begin_67 : decode M_D_begin.2.1 67 = .ok (.aload_n 0, 1) := by decide +kernel
theorem d_D_begin_68 : decode M_D_begin.2.1 68 = .ok (.getfield 48, 3) := by decide +kernel
theorem d_D_begin_71 : decode M_D_begin.2.1 71 = .ok (.sipush 160, 3) := by decide +kernel
theorem d_D_begin_74 : decode M_D_begin.2.1 74 = .ok (.iload_n 1, 1) := by decide +kernel
theorem d_D_begin_75 : decode M_D_begin.2.1 75 = .ok (.imul, 1) := by decide +kernel
theorem d_D_begin_76 : decode M_D_begin.2.1 76 = .ok (.iload_n 2, 1) := by decide +kernel
theorem d_D_begin_77 : decode M_D_begin.2.1 77 = .ok (.iastore, 1) := by decide +kernel
theorem d_D_begin_78 : decode M_D_begin.2.1 78 = .ok (.iconst 1, 1) := by decide +kernel
theorem d_D_begin_79 : decode M_D_begin.2.1 79 = .ok (.ireturn, 1) := by decide +kernel
theorem d_D_isSlot_0 : decode M_D_isSlot.2.1 0 = .ok (.iload_n 0, 1) := by decide +kernel
theorem d_D_isSlot_1 : decode M_D_isSlot.2.1 1 = .ok (.ifCond .lt 13, 3) := by decide +kernel
theorem d_D_isSlot_4 : decode M_D_isSlot.2.1 4 = .ok (.iload_n 0, 1) := by decide +kernel
theorem d_D_isSlot_5 : decode M_D_isSlot.2.1 5 = .ok (.bipush 8, 2) := by decide +kernel
theorem d_D_isSlot_7 : decode M_D_isSlot.2.1 7 = .ok (.if_icmp .ge 7, 3) := by decide +kernel
theorem d_D_isSlot_10 : decode M_D_isSlot.2.1 10 = .ok (.iconst 1, 1) := by decide +kernel
theorem d_D_isSlot_11 : decode M_D_isSlot.2.1 11 = .ok (.goto 4, 3) := by decide +kernel
theorem d_D_isSlot_14 : decode M_D_isSlot.2.1 14 = .ok (.iconst 0, 1) := by decide +kernel
theorem d_D_isSlot_15 : decode M_D_isSlot.2.1 15 = .ok (.ireturn, 1) := by decide +kernel
theorem d_D_put_0 : decode M_D_put.2.1 0 = .ok (.iload_n 1, 1) := by decide +kernel
theorem d_D_put_1 : decode M_D_put.2.1 1 = .ok (.invokestatic 114, 3) := by decide +kernel
theorem d_D_put_4 : decode M_D_put.2.1 4 = .ok (.istore 4, 2) := by decide +kernel
theorem d_D_put_6 : decode M_D_put.2.1 6 = .ok (.iload 4, 2) := by decide +kernel
theorem d_D_put_8 : decode M_D_put.2.1 8 = .ok (.ifCond .eq 16, 3) := by decide +kernel
theorem d_D_put_11 : decode M_D_put.2.1 11 = .ok (.aload_n 0, 1) := by decide +kernel
theorem d_D_put_12 : decode M_D_put.2.1 12 = .ok (.getfield 45, 3) := by decide +kernel
theorem d_D_put_15 : decode M_D_put.2.1 15 = .ok (.iload_n 1, 1) := by decide +kernel
theorem d_D_put_16 : decode M_D_put.2.1 16 = .ok (.iaload, 1) := by decide +kernel
theorem d_D_put_17 : decode M_D_put.2.1 17 = .ok (.ifCond .ne 7, 3) := by decide +kernel
theorem d_D_put_20 : decode M_D_put.2.1 20 = .ok (.iconst 1, 1) := by decide +kernel
theorem d_D_put_21 : decode M_D_put.2.1 21 = .ok (.goto 4, 3) := by decide +kernel
theorem d_D_put_24 : decode M_D_put.2.1 24 = .ok (.iconst 0, 1) := by decide +kernel
theorem d_D_put_25 : decode M_D_put.2.1 25 = .ok (.istore 5, 2) := by decide +kernel
theorem d_D_put_27 : decode M_D_put.2.1 27 = .ok (.aload_n 0, 1) := by decide +kernel
theorem d_D_put_28 : decode M_D_put.2.1 28 = .ok (.iload 5, 2) := by decide +kernel
theorem d_D_put_30 : decode M_D_put.2.1 30 = .ok (.iload 4, 2) := by decide +kernel
theorem d_D_put_32 : decode M_D_put.2.1 32 = .ok (.ifCond .eq 18, 3) := by decide +kernel
theorem d_D_put_35 : decode M_D_put.2.1 35 = .ok (.iload 5, 2) := by decide +kernel
theorem d_D_put_37 : decode M_D_put.2.1 37 = .ok (.ifCond .ne 17, 3) := by decide +kernel
theorem d_D_put_40 : decode M_D_put.2.1 40 = .ok (.aload_n 0, 1) := by decide +kernel
theorem d_D_put_41 : decode M_D_put.2.1 41 = .ok (.iload_n 1, 1) := by decide +kernel
theorem d_D_put_42 : decode M_D_put.2.1 42 = .ok (.iload_n 2, 1) := by decide +kernel
theorem d_D_put_43 : decode M_D_put.2.1 43 = .ok (.iload_n 3, 1) := by decide +kernel
theorem d_D_put_44 : decode M_D_put.2.1 44 = .ok (.invokevirtual 118, 3) := by decide +kernel
theorem d_D_put_47 : decode M_D_put.2.1 47 = .ok (.ifCond .ne 7, 3) := by decide +kernel
theorem d_D_put_50 : decode M_D_put.2.1 50 = .ok (.iconst 1, 1) := by decide +kernel
theorem d_D_put_51 : decode M_D_put.2.1 51 = .ok (.goto 4, 3) := by decide +kernel
theorem d_D_put_54 : decode M_D_put.2.1 54 = .ok (.iconst 0, 1) := by decide +kernel
theorem d_D_put_55 : decode M_D_put.2.1 55 = .ok (.invokevirtual 104, 3) := by decide +kernel
theorem d_D_put_58 : decode M_D_put.2.1 58 = .ok (.ifCond .eq 5, 3) := by decide +kernel
theorem d_D_put_61 : decode M_D_put.2.1 61 = .ok (.iconst 0, 1) := by decide +kernel
theorem d_D_put_62 : decode M_D_put.2.1 62 = .ok (.ireturn, 1) := by decide +kernel
theorem d_D_put_63 : decode M_D_put.2.1 63 = .ok (.aload_n 0, 1) := by decide +kernel
theorem d_D_put_64 : decode M_D_put.2.1 64 = .ok (.getfield 48, 3) := by decide +kernel
theorem d_D_put_67 : decode M_D_put.2.1 67 = .ok (.sipush 160, 3) := by decide +kernel
theorem d_D_put_70 : decode M_D_put.2.1 70 = .ok (.iload_n 1, 1) := by decide +kernel
theorem d_D_put_71 : decode M_D_put.2.1 71 = .ok (.imul, 1) := by decide +kernel
theorem d_D_put_72 : decode M_D_put.2.1 72 = .ok (.aload_n 0, 1) := by decide +kernel
theorem d_D_put_73 : decode M_D_put.2.1 73 = .ok (.getfield 45, 3) := by decide +kernel
theorem d_D_put_76 : decode M_D_put.2.1 76 = .ok (.iload_n 1, 1) := by decide +kernel
theorem d_D_put_77 : decode M_D_put.2.1 77 = .ok (.iaload, 1) := by decide +kernel
theorem d_D_put_78 : decode M_D_put.2.1 78 = .ok (.iadd, 1) := by decide +kernel
theorem d_D_put_79 : decode M_D_put.2.1 79 = .ok (.iconst 1, 1) := by decide +kernel
theorem d_D_put_80 : decode M_D_put.2.1 80 = .ok (.isub, 1) := by decide +kernel
theorem d_D_put_81 : decode M_D_put.2.1 81 = .ok (.iaload, 1) := by decide +kernel
theorem d_D_put_82 : decode M_D_put.2.1 82 = .ok (.istore 6, 2) := by decide +kernel
theorem d_D_put_84 : decode M_D_put.2.1 84 = .ok (.iload 6, 2) := by decide +kernel
theorem d_D_put_86 : decode M_D_put.2.1 86 = .ok (.bipush 100, 2) := by decide +kernel
theorem d_D_put_88 : decode M_D_put.2.1 88 = .ok (.if_icmp .ge 27, 3) := by decide +kernel
theorem d_D_put_91 : decode M_D_put.2.1 91 = .ok (.aload_n 0, 1) := by decide +kernel
theorem d_D_put_92 : decode M_D_put.2.1 92 = .ok (.getfield 39, 3) := by decide +kernel
theorem d_D_put_95 : decode M_D_put.2.1 95 = .ok (.iload_n 1, 1) := by decide +kernel
theorem d_D_put_96 : decode M_D_put.2.1 96 = .ok (.iaload, 1) := by decide +kernel
theorem d_D_put_97 : decode M_D_put.2.1 97 = .ok (.bipush 30, 2) := by decide +kernel
theorem d_D_put_99 : decode M_D_put.2.1 99 = .ok (.if_icmp .eq 14, 3) := by decide +kernel
theorem d_D_put_102 : decode M_D_put.2.1 102 = .ok (.aload_n 0, 1) := by decide +kernel
theorem d_D_put_103 : decode M_D_put.2.1 103 = .ok (.iload_n 2, 1) := by decide +kernel
theorem d_D_put_104 : decode M_D_put.2.1 104 = .ok (.iload_n 3, 1) := by decide +kernel
theorem d_D_put_105 : decode M_D_put.2.1 105 = .ok (.iload 6, 2) := by decide +kernel
theorem d_D_put_107 : decode M_D_put.2.1 107 = .ok (.invokevirtual 122, 3) := by decide +kernel
theorem d_D_put_110 : decode M_D_put.2.1 110 = .ok (.ifCond .eq 5, 3) := by decide +kernel
theorem d_D_put_113 : decode M_D_put.2.1 113 = .ok (.iconst (-1), 1) := by decide +kernel
theorem d_D_put_114 : decode M_D_put.2.1 114 = .ok (.ireturn, 1) := by decide +kernel
theorem d_D_put_115 : decode M_D_put.2.1 115 = .ok (.aload_n 0, 1) := by decide +kernel
theorem d_D_put_116 : decode M_D_put.2.1 116 = .ok (.getfield 36, 3) := by decide +kernel
theorem d_D_put_119 : decode M_D_put.2.1 119 = .ok (.iload_n 1, 1) := by decide +kernel
theorem d_D_put_120 : decode M_D_put.2.1 120 = .ok (.iaload, 1) := by decide +kernel
theorem d_D_put_121 : decode M_D_put.2.1 121 = .ok (.istore 7, 2) := by decide +kernel
theorem d_D_put_123 : decode M_D_put.2.1 123 = .ok (.aload_n 0, 1) := by decide +kernel
theorem d_D_put_124 : decode M_D_put.2.1 124 = .ok (.getfield 33, 3) := by decide +kernel
theorem d_D_put_127 : decode M_D_put.2.1 127 = .ok (.sipush 160, 3) := by decide +kernel
theorem d_D_put_130 : decode M_D_put.2.1 130 = .ok (.iload_n 1, 1) := by decide +kernel
theorem d_D_put_131 : decode M_D_put.2.1 131 = .ok (.imul, 1) := by decide +kernel
theorem d_D_put_132 : decode M_D_put.2.1 132 = .ok (.iload 7, 2) := by decide +kernel
theorem d_D_put_134 : decode M_D_put.2.1 134 = .ok (.iadd, 1) := by decide +kernel
theorem d_D_put_135 : decode M_D_put.2.1 135 = .ok (.iconst 4, 1) := by decide +kernel
theorem d_D_put_136 : decode M_D_put.2.1 136 = .ok (.iload_n 3, 1) := by decide +kernel
theorem d_D_put_137 : decode M_D_put.2.1 137 = .ok (.imul, 1) := by decide +kernel
theorem d_D_put_138 : decode M_D_put.2.1 138 = .ok (.iload_n 2, 1) := by decide +kernel
theorem d_D_put_139 : decode M_D_put.2.1 139 = .ok (.iadd, 1) := by decide +kernel
theorem d_D_put_140 : decode M_D_put.2.1 140 = .ok (.iastore, 1) := by decide +kernel
theorem d_D_put_141 : decode M_D_put.2.1 141 = .ok (.aload_n 0, 1) := by decide +kernel
theorem d_D_put_142 : decode M_D_put.2.1 142 = .ok (.getfield 36, 3) := by decide +kernel
theorem d_D_put_145 : decode M_D_put.2.1 145 = .ok (.iload_n 1, 1) := by decide +kernel
theorem d_D_put_146 : decode M_D_put.2.1 146 = .ok (.dup2, 1) := by decide +kernel
theorem d_D_put_147 : decode M_D_put.2.1 147 = .ok (.iaload, 1) := by decide +kernel
theorem d_D_put_148 : decode M_D_put.2.1 148 = .ok (.iconst 1, 1) := by decide +kernel
theorem d_D_put_149 : decode M_D_put.2.1 149 = .ok (.iadd, 1) := by decide +kernel
theorem d_D_put_150 : decode M_D_put.2.1 150 = .ok (.iastore, 1) := by decide +kernel
theorem d_D_put_151 : decode M_D_put.2.1 151 = .ok (.aload_n 0, 1) := by decide +kernel
theorem d_D_put_152 : decode M_D_put.2.1 152 = .ok (.getfield 45, 3) := by decide +kernel
theorem d_D_put_155 : decode M_D_put.2.1 155 = .ok (.iload_n 1, 1) := by decide +kernel
theorem d_D_put_156 : decode M_D_put.2.1 156 = .ok (.dup2, 1) := by decide +kernel
theorem d_D_put_157 : decode M_D_put.2.1 157 = .ok (.iaload, 1) := by decide +kernel
theorem d_D_put_158 : decode M_D_put.2.1 158 = .ok (.iconst 1, 1) := by decide +kernel
theorem d_D_put_159 : decode M_D_put.2.1 159 = .ok (.isub, 1) := by decide +kernel
theorem d_D_put_160 : decode M_D_put.2.1 160 = .ok (.iastore, 1) := by decide +kernel
theorem d_D_put_161 : decode M_D_put.2.1 161 = .ok (.iload 6, 2) := by decide +kernel
theorem d_D_put_163 : decode M_D_put.2.1 163 = .ok (.bipush 100, 2) := by decide +kernel
theorem d_D_put_165 : decode M_D_put.2.1 165 = .ok (.if_icmp .lt 10, 3) := by decide +kernel
theorem d_D_put_168 : decode M_D_put.2.1 168 = .ok (.aload_n 0, 1) := by decide +kernel
theorem d_D_put_169 : decode M_D_put.2.1 169 = .ok (.getfield 45, 3) := by decide +kernel
theorem d_D_put_172 : decode M_D_put.2.1 172 = .ok (.iload_n 1, 1) := by decide +kernel
theorem d_D_put_173 : decode M_D_put.2.1 173 = .ok (.iaload, 1) := by decide +kernel
theorem d_D_put_174 : decode M_D_put.2.1 174 = .ok (.ireturn, 1) := by decide +kernel
theorem d_D_put_175 : decode M_D_put.2.1 175 = .ok (.aload_n 0, 1) := by decide +kernel
theorem d_D_put_176 : decode M_D_put.2.1 176 = .ok (.getfield 39, 3) := by decide +kernel
theorem d_D_put_179 : decode M_D_put.2.1 179 = .ok (.iload_n 1, 1) := by decide +kernel
theorem d_D_put_180 : decode M_D_put.2.1 180 = .ok (.dup2, 1) := by decide +kernel
theorem d_D_put_181 : decode M_D_put.2.1 181 = .ok (.iaload, 1) := by decide +kernel
theorem d_D_put_182 : decode M_D_put.2.1 182 = .ok (.iconst 1, 1) := by decide +kernel
theorem d_D_put_183 : decode M_D_put.2.1 183 = .ok (.iadd, 1) := by decide +kernel
theorem d_D_put_184 : decode M_D_put.2.1 184 = .ok (.iastore, 1) := by decide +kernel
theorem d_D_put_185 : decode M_D_put.2.1 185 = .ok (.iconst 2, 1) := by decide +kernel
theorem d_D_put_186 : decode M_D_put.2.1 186 = .ok (.istore 8, 2) := by decide +kernel
theorem d_D_put_188 : decode M_D_put.2.1 188 = .ok (.iload 8, 2) := by decide +kernel
theorem d_D_put_190 : decode M_D_put.2.1 190 = .ok (.ifCond .lt 45, 3) := by decide +kernel
theorem d_D_put_193 : decode M_D_put.2.1 193 = .ok (.iload_n 2, 1) := by decide +kernel
theorem d_D_put_194 : decode M_D_put.2.1 194 = .ok (.iconst 1, 1) := by decide +kernel
theorem d_D_put_195 : decode M_D_put.2.1 195 = .ok (.if_icmp .ne 40, 3) := by decide +kernel
theorem d_D_put_198 : decode M_D_put.2.1 198 = .ok (.iload 8, 2) := by decide +kernel
theorem d_D_put_200 : decode M_D_put.2.1 200 = .ok (.aload_n 0, 1) := by decide +kernel
theorem d_D_put_201 : decode M_D_put.2.1 201 = .ok (.getfield 7, 3) := by decide +kernel
theorem d_D_put_204 : decode M_D_put.2.1 204 = .ok (.iload_n 3, 1) := by decide +kernel
theorem d_D_put_205 : decode M_D_put.2.1 205 = .ok (.iaload, 1) := by decide +kernel
theorem d_D_put_206 : decode M_D_put.2.1 206 = .ok (.if_icmp .ge 23, 3) := by decide +kernel
theorem d_D_put_209 : decode M_D_put.2.1 209 = .ok (.aload_n 0, 1) := by decide +kernel
theorem d_D_put_210 : decode M_D_put.2.1 210 = .ok (.iload_n 1, 1) := by decide +kernel
theorem d_D_put_211 : decode M_D_put.2.1 211 = .ok (.iload 6, 2) := by decide +kernel
theorem d_D_put_213 : decode M_D_put.2.1 213 = .ok (.aload_n 0, 1) := by decide +kernel
theorem d_D_put_214 : decode M_D_put.2.1 214 = .ok (.getfield 13, 3) := by decide +kernel
theorem d_D_put_217 : decode M_D_put.2.1 217 = .ok (.iconst 3, 1) := by decide +kernel
theorem d_D_put_218 : decode M_D_put.2.1 218 = .ok (.iload_n 3, 1) := by decide +kernel
theorem d_D_put_219 : decode M_D_put.2.1 219 = .ok (.imul, 1) := by decide +kernel
theorem d_D_put_220 : decode M_D_put.2.1 220 = .ok (.iload 8, 2) := by decide +kernel
theorem d_D_put_222 : decode M_D_put.2.1 222 = .ok (.iadd, 1) := by decide +kernel
theorem d_D_put_223 : decode M_D_put.2.1 223 = .ok (.iaload, 1) := by decide +kernel
theorem d_D_put_224 : decode M_D_put.2.1 224 = .ok (.iadd, 1) := by decide +kernel
theorem d_D_put_225 : decode M_D_put.2.1 225 = .ok (.iconst 0, 1) := by decide +kernel
theorem d_D_put_226 : decode M_D_put.2.1 226 = .ok (.invokevirtual 125, 3) := by decide +kernel
theorem d_D_put_229 : decode M_D_put.2.1 229 = .ok (.iinc 8 (-1), 3) := by decide +kernel
theorem d_D_put_232 : decode M_D_put.2.1 232 = .ok (.goto (-44), 3) := by decide +kernel
theorem d_D_put_235 : decode M_D_put.2.1 235 = .ok (.iconst 0, 1) := by decide +kernel
theorem d_D_put_236 : decode M_D_put.2.1 236 = .ok (.istore 8, 2) := by decide +kernel
theorem d_D_put_238 : decode M_D_put.2.1 238 = .ok (.iload_n 2, 1) := by decide +kernel
theorem d_D_put_239 : decode M_D_put.2.1 239 = .ok (.iconst 2, 1) := by decide +kernel
theorem d_D_put_240 : decode M_D_put.2.1 240 = .ok (.if_icmp .ne 32, 3) := by decide +kernel
theorem d_D_put_243 : decode M_D_put.2.1 243 = .ok (.iload 8, 2) := by decide +kernel
theorem d_D_put_245 : decode M_D_put.2.1 245 = .ok (.aload_n 0, 1) := by decide +kernel
theorem d_D_put_246 : decode M_D_put.2.1 246 = .ok (.getfield 16, 3) := by decide +kernel
theorem d_D_put_249 : decode M_D_put.2.1 249 = .ok (.iload_n 3, 1) := by decide +kernel
theorem d_D_put_250 : decode M_D_put.2.1 250 = .ok (.iaload, 1) := by decide +kernel
theorem d_D_put_251 : decode M_D_put.2.1 251 = .ok (.if_icmp .ge 21, 3) := by decide +kernel
theorem d_D_put_254 : decode M_D_put.2.1 254 = .ok (.aload_n 0, 1) := by decide +kernel
theorem d_D_put_255 : decode M_D_put.2.1 255 = .ok (.iload_n 1, 1) := by decide +kernel
theorem d_D_put_256 : decode M_D_put.2.1 256 = .ok (.bipush 100, 2) := by decide +kernel
theorem d_D_put_258 : decode M_D_put.2.1 258 = .ok (.iload 6, 2) := by decide +kernel
theorem d_D_put_260 : decode M_D_put.2.1 260 = .ok (.iadd, 1) := by decide +kernel
theorem d_D_put_261 : decode M_D_put.2.1 261 = .ok (.iload 7, 2) := by decide +kernel
theorem d_D_put_263 : decode M_D_put.2.1 263 = .ok (.invokevirtual 125, 3) := by decide +kernel
theorem d_D_put_266 : decode M_D_put.2.1 266 = .ok (.iinc 8 1, 3) := by decide +kernel
theorem d_D_put_269 : decode M_D_put.2.1 269 = .ok (.goto (-31), 3) := by decide +kernel
theorem d_D_put_272 : decode M_D_put.2.1 272 = .ok (.aload_n 0, 1) := by decide +kernel
theorem d_D_put_273 : decode M_D_put.2.1 273 = .ok (.getfield 45, 3) := by decide +kernel
theorem d_D_put_276 : decode M_D_put.2.1 276 = .ok (.iload_n 1, 1) := by decide +kernel
theorem d_D_put_277 : decode M_D_put.2.1 277 = .ok (.iaload, 1) := by decide +kernel
theorem d_D_put_278 : decode M_D_put.2.1 278 = .ok (.ireturn, 1) := by decide +kernel
theorem d_D_fits_0 : decode M_D_fits.2.1 0 = .ok (.aload_n 0, 1) := by decide +kernel
theorem d_D_fits_1 : decode M_D_fits.2.1 1 = .ok (.getfield 48, 3) := by decide +kernel
theorem d_D_fits_4 : decode M_D_fits.2.1 4 = .ok (.sipush 160, 3) := by decide +kernel
theorem d_D_fits_7 : decode M_D_fits.2.1 7 = .ok (.iload_n 1, 1) := by decide +kernel
theorem d_D_fits_8 : decode M_D_fits.2.1 8 = .ok (.imul, 1) := by decide +kernel
theorem d_D_fits_9 : decode M_D_fits.2.1 9 = .ok (.aload_n 0, 1) := by decide +kernel
theorem d_D_fits_10 : decode M_D_fits.2.1 10 = .ok (.getfield 45, 3) := by decide +kernel
theorem d_D_fits_13 : decode M_D_fits.2.1 13 = .ok (.iload_n 1, 1) := by decide +kernel
theorem d_D_fits_14 : decode M_D_fits.2.1 14 = .ok (.iaload, 1) := by decide +kernel
theorem d_D_fits_15 : decode M_D_fits.2.1 15 = .ok (.iadd, 1) := by decide +kernel
theorem d_D_fits_16 : decode M_D_fits.2.1 16 = .ok (.iconst 1, 1) := by decide +kernel
theorem d_D_fits_17 : decode M_D_fits.2.1 17 = .ok (.isub, 1) := by decide +kernel
theorem d_D_fits_18 : decode M_D_fits.2.1 18 = .ok (.iaload, 1) := by decide +kernel
theorem d_D_fits_19 : decode M_D_fits.2.1 19 = .ok (.istore 4, 2) := by decide +kernel
theorem d_D_fits_21 : decode M_D_fits.2.1 21 = .ok (.iload 4, 2) := by decide +kernel
theorem d_D_fits_23 : decode M_D_fits.2.1 23 = .ok (.bipush 100, 2) := by decide +kernel
theorem d_D_fits_25 : decode M_D_fits.2.1 25 = .ok (.if_icmp .lt 101, 3) := by decide +kernel
theorem d_D_fits_28 : decode M_D_fits.2.1 28 = .ok (.iload_n 2, 1) := by decide +kernel
theorem d_D_fits_29 : decode M_D_fits.2.1 29 = .ok (.ifCond .ne 20, 3) := by decide +kernel
theorem d_D_fits_32 : decode M_D_fits.2.1 32 = .ok (.iload_n 3, 1) := by decide +kernel
theorem d_D_fits_33 : decode M_D_fits.2.1 33 = .ok (.ifCond .lt 16, 3) := by decide +kernel
theorem d_D_fits_36 : decode M_D_fits.2.1 36 = .ok (.iload_n 3, 1) := by decide +kernel
theorem d_D_fits_37 : decode M_D_fits.2.1 37 = .ok (.iload 4, 2) := by decide +kernel
theorem d_D_fits_39 : decode M_D_fits.2.1 39 = .ok (.bipush 100, 2) := by decide +kernel
theorem d_D_fits_41 : decode M_D_fits.2.1 41 = .ok (.isub, 1) := by decide +kernel
theorem d_D_fits_42 : decode M_D_fits.2.1 42 = .ok (.if_icmp .ge 7, 3) := by decide +kernel
theorem d_D_fits_45 : decode M_D_fits.2.1 45 = .ok (.iconst 1, 1) := by decide +kernel
theorem d_D_fits_46 : decode M_D_fits.2.1 46 = .ok (.goto 4, 3) := by decide +kernel
theorem d_D_fits_49 : decode M_D_fits.2.1 49 = .ok (.iconst 0, 1) := by decide +kernel
theorem d_D_fits_50 : decode M_D_fits.2.1 50 = .ok (.istore 5, 2) := by decide +kernel
theorem d_D_fits_52 : decode M_D_fits.2.1 52 = .ok (.aload_n 0, 1) := by decide +kernel
theorem d_D_fits_53 : decode M_D_fits.2.1 53 = .ok (.getfield 51, 3) := by decide +kernel
theorem d_D_fits_56 : decode M_D_fits.2.1 56 = .ok (.sipush 160, 3) := by decide +kernel
theorem d_D_fits_59 : decode M_D_fits.2.1 59 = .ok (.iload_n 1, 1) := by decide +kernel
theorem d_D_fits_60 : decode M_D_fits.2.1 60 = .ok (.imul, 1) := by decide +kernel
theorem d_D_fits_61 : decode M_D_fits.2.1 61 = .ok (.aload_n 0, 1) := by decide +kernel
theorem d_D_fits_62 : decode M_D_fits.2.1 62 = .ok (.getfield 45, 3) := by decide +kernel
theorem d_D_fits_65 : decode M_D_fits.2.1 65 = .ok (.iload_n 1, 1) := by decide +kernel
theorem d_D_fits_66 : decode M_D_fits.2.1 66 = .ok (.iaload, 1) := by decide +kernel
theorem d_D_fits_67 : decode M_D_fits.2.1 67 = .ok (.iadd, 1) := by decide +kernel
theorem d_D_fits_68 : decode M_D_fits.2.1 68 = .ok (.iconst 1, 1) := by decide +kernel
theorem d_D_fits_69 : decode M_D_fits.2.1 69 = .ok (.isub, 1) := by decide +kernel
theorem d_D_fits_70 : decode M_D_fits.2.1 70 = .ok (.iaload, 1) := by decide +kernel
theorem d_D_fits_71 : decode M_D_fits.2.1 71 = .ok (.iconst 1, 1) := by decide +kernel
theorem d_D_fits_72 : decode M_D_fits.2.1 72 = .ok (.iadd, 1) := by decide +kernel
theorem d_D_fits_73 : decode M_D_fits.2.1 73 = .ok (.istore 6, 2) := by decide +kernel
theorem d_D_fits_75 : decode M_D_fits.2.1 75 = .ok (.iload 6, 2) := by decide +kernel
theorem d_D_fits_77 : decode M_D_fits.2.1 77 = .ok (.aload_n 0, 1) := by decide +kernel
theorem d_D_fits_78 : decode M_D_fits.2.1 78 = .ok (.getfield 36, 3) := by decide +kernel
theorem d_D_fits_81 : decode M_D_fits.2.1 81 = .ok (.iload_n 1, 1) := by decide +kernel
theorem d_D_fits_82 : decode M_D_fits.2.1 82 = .ok (.iaload, 1) := by decide +kernel
theorem d_D_fits_83 : decode M_D_fits.2.1 83 = .ok (.if_icmp .ge 40, 3) := by decide +kernel
theorem d_D_fits_86 : decode M_D_fits.2.1 86 = .ok (.iload 5, 2) := by decide +kernel
theorem d_D_fits_88 : decode M_D_fits.2.1 88 = .ok (.ifCond .eq 26, 3) := by decide +kernel
theorem d_D_fits_91 : decode M_D_fits.2.1 91 = .ok (.aload_n 0, 1) := by decide +kernel
theorem d_D_fits_92 : decode M_D_fits.2.1 92 = .ok (.getfield 33, 3) := by decide +kernel
theorem d_D_fits_95 : decode M_D_fits.2.1 95 = .ok (.sipush 160, 3) := by decide +kernel
theorem d_D_fits_98 : decode M_D_fits.2.1 98 = .ok (.iload_n 1, 1) := by decide +kernel
theorem d_D_fits_99 : decode M_D_fits.2.1 99 = .ok (.imul, 1) := by decide +kernel
theorem d_D_fits_100 : decode M_D_fits.2.1 100 = .ok (.iload 6, 2) := by decide +kernel
theorem d_D_fits_102 : decode M_D_fits.2.1 102 = .ok (.iadd, 1) := by decide +kernel
theorem d_D_fits_103 : decode M_D_fits.2.1 103 = .ok (.iaload, 1) := by decide +kernel
theorem d_D_fits_104 : decode M_D_fits.2.1 104 = .ok (.iconst 4, 1) := by decide +kernel
theorem d_D_fits_105 : decode M_D_fits.2.1 105 = .ok (.iload_n 3, 1) := by decide +kernel
theorem d_D_fits_106 : decode M_D_fits.2.1 106 = .ok (.imul, 1) := by decide +kernel
theorem d_D_fits_107 : decode M_D_fits.2.1 107 = .ok (.if_icmp .eq 7, 3) := by decide +kernel
theorem d_D_fits_110 : decode M_D_fits.2.1 110 = .ok (.iconst 1, 1) := by decide +kernel
theorem d_D_fits_111 : decode M_D_fits.2.1 111 = .ok (.goto 4, 3) := by decide +kernel
theorem d_D_fits_114 : decode M_D_fits.2.1 114 = .ok (.iconst 0, 1) := by decide +kernel
theorem d_D_fits_115 : decode M_D_fits.2.1 115 = .ok (.istore 5, 2) := by decide +kernel
theorem d_D_fits_117 : decode M_D_fits.2.1 117 = .ok (.iinc 6 1, 3) := by decide +kernel
theorem d_D_fits_120 : decode M_D_fits.2.1 120 = .ok (.goto (-45), 3) := by decide +kernel
theorem d_D_fits_123 : decode M_D_fits.2.1 123 = .ok (.iload 5, 2) := by decide +kernel
theorem d_D_fits_125 : decode M_D_fits.2.1 125 = .ok (.ireturn, 1) := by decide +kernel
theorem d_D_fits_126 : decode M_D_fits.2.1 126 = .ok (.iload_n 3, 1) := by decide +kernel
theorem d_D_fits_127 : decode M_D_fits.2.1 127 = .ok (.ifCond .lt 43, 3) := by decide +kernel
theorem d_D_fits_130 : decode M_D_fits.2.1 130 = .ok (.iload_n 2, 1) := by decide +kernel
theorem d_D_fits_131 : decode M_D_fits.2.1 131 = .ok (.ifCond .ne 9, 3) := by decide +kernel
theorem d_D_fits_134 : decode M_D_fits.2.1 134 = .ok (.iload_n 3, 1) := by decide +kernel
theorem d_D_fits_135 : decode M_D_fits.2.1 135 = .ok (.iload 4, 2) := by decide +kernel
theorem d_D_fits_137 : decode M_D_fits.2.1 137 = .ok (.if_icmp .lt 29, 3) := by decide +kernel
theorem d_D_fits_140 : decode M_D_fits.2.1 140 = .ok (.iload_n 2, 1) := by decide +kernel
theorem d_D_fits_141 : decode M_D_fits.2.1 141 = .ok (.iconst 1, 1) := by decide +kernel
theorem d_D_fits_142 : decode M_D_fits.2.1 142 = .ok (.if_icmp .ne 11, 3) := by decide +kernel
theorem d_D_fits_145 : decode M_D_fits.2.1 145 = .ok (.iload_n 3, 1) := by decide +kernel
theorem d_D_fits_146 : decode M_D_fits.2.1 146 = .ok (.aload_n 0, 1) := by decide +kernel
theorem d_D_fits_147 : decode M_D_fits.2.1 147 = .ok (.getfield 108, 3) := by decide +kernel
theorem d_D_fits_150 : decode M_D_fits.2.1 150 = .ok (.if_icmp .lt 16, 3) := by decide +kernel
theorem d_D_fits_153 : decode M_D_fits.2.1 153 = .ok (.iload_n 2, 1) := by decide +kernel
theorem d_D_fits_154 : decode M_D_fits.2.1 154 = .ok (.iconst 2, 1) := by decide +kernel
theorem d_D_fits_155 : decode M_D_fits.2.1 155 = .ok (.if_icmp .ne 15, 3) := by decide +kernel
theorem d_D_fits_158 : decode M_D_fits.2.1 158 = .ok (.iload_n 3, 1) := by decide +kernel
theorem d_D_fits_159 : decode M_D_fits.2.1 159 = .ok (.aload_n 0, 1) := by decide +kernel
theorem d_D_fits_160 : decode M_D_fits.2.1 160 = .ok (.getfield 111, 3) := by decide +kernel
theorem d_D_fits_163 : decode M_D_fits.2.1 163 = .ok (.if_icmp .ge 7, 3) := by decide +kernel
theorem d_D_fits_166 : decode M_D_fits.2.1 166 = .ok (.iconst 1, 1) := by decide +kernel
theorem d_D_fits_167 : decode M_D_fits.2.1 167 = .ok (.goto 4, 3) := by decide +kernel
theorem d_D_fits_170 : decode M_D_fits.2.1 170 = .ok (.iconst 0, 1) := by decide +kernel
theorem d_D_fits_171 : decode M_D_fits.2.1 171 = .ok (.ireturn, 1) := by decide +kernel
theorem d_D_isTooWide_0 : decode M_D_isTooWide.2.1 0 = .ok (.iconst 0, 1) := by decide +kernel
theorem d_D_isTooWide_1 : decode M_D_isTooWide.2.1 1 = .ok (.istore 4, 2) := by decide +kernel
theorem d_D_isTooWide_3 : decode M_D_isTooWide.2.1 3 = .ok (.iconst 0, 1) := by decide +kernel
theorem d_D_isTooWide_4 : decode M_D_isTooWide.2.1 4 = .ok (.istore 5, 2) := by decide +kernel
theorem d_D_isTooWide_6 : decode M_D_isTooWide.2.1 6 = .ok (.iload_n 1, 1) := by decide +kernel
theorem d_D_isTooWide_7 : decode M_D_isTooWide.2.1 7 = .ok (.iconst 1, 1) := by decide +kernel
theorem d_D_isTooWide_8 : decode M_D_isTooWide.2.1 8 = .ok (.if_icmp .ne 50, 3) := by decide +kernel
theorem d_D_isTooWide_11 : decode M_D_isTooWide.2.1 11 = .ok (.iload 5, 2) := by decide +kernel
theorem d_D_isTooWide_13 : decode M_D_isTooWide.2.1 13 = .ok (.aload_n 0, 1) := by decide +kernel
theorem d_D_isTooWide_14 : decode M_D_isTooWide.2.1 14 = .ok (.getfield 7, 3) := by decide +kernel
theorem d_D_isTooWide_17 : decode M_D_isTooWide.2.1 17 = .ok (.iload_n 2, 1) := by decide +kernel
theorem d_D_isTooWide_18 : decode M_D_isTooWide.2.1 18 = .ok (.iaload, 1) := by decide +kernel
theorem d_D_isTooWide_19 : decode M_D_isTooWide.2.1 19 = .ok (.if_icmp .ge 39, 3) := by decide +kernel
theorem d_D_isTooWide_22 : decode M_D_isTooWide.2.1 22 = .ok (.iload 4, 2) := by decide +kernel
theorem d_D_isTooWide_24 : decode M_D_isTooWide.2.1 24 = .ok (.ifCond .ne 21, 3) := by decide +kernel
theorem d_D_isTooWide_27 : decode M_D_isTooWide.2.1 27 = .ok (.iload_n 3, 1) := by decide +kernel
theorem d_D_isTooWide_28 : decode M_D_isTooWide.2.1 28 = .ok (.aload_n 0, 1) := by decide +kernel
theorem d_D_isTooWide_29 : decode M_D_isTooWide.2.1 29 = .ok (.getfield 13, 3) := by decide +kernel
theorem d_D_isTooWide_32 : decode M_D_isTooWide.2.1 32 = .ok (.iconst 3, 1) := by decide +kernel
theorem d_D_isTooWide_33 : decode M_D_isTooWide.2.1 33 = .ok (.iload_n 2, 1) := by decide +kernel
theorem d_D_isTooWide_34 : decode M_D_isTooWide.2.1 34 = .ok (.imul, 1) := by decide +kernel
theorem d_D_isTooWide_35 : decode M_D_isTooWide.2.1 35 = .ok (.iload 5, 2) := by decide +kernel
theorem d_D_isTooWide_37 : decode M_D_isTooWide.2.1 37 = .ok (.iadd, 1) := by decide +kernel
theorem d_D_isTooWide_38 : decode M_D_isTooWide.2.1 38 = .ok (.iaload, 1) := by decide +kernel
theorem d_D_isTooWide_39 : decode M_D_isTooWide.2.1 39 = .ok (.iadd, 1) := by decide +kernel
theorem d_D_isTooWide_40 : decode M_D_isTooWide.2.1 40 = .ok (.bipush 12, 2) := by decide +kernel
theorem d_D_isTooWide_42 : decode M_D_isTooWide.2.1 42 = .ok (.if_icmp .le 7, 3) := by decide +kernel
theorem d_D_isTooWide_45 : decode M_D_isTooWide.2.1 45 = .ok (.iconst 1, 1) := by decide +kernel
theorem d_D_isTooWide_46 : decode M_D_isTooWide.2.1 46 = .ok (.goto 4, 3) := by decide +kernel
theorem d_D_isTooWide_49 : decode M_D_isTooWide.2.1 49 = .ok (.iconst 0, 1) := by decide +kernel
theorem d_D_isTooWide_50 : decode M_D_isTooWide.2.1 50 = .ok (.istore 4, 2) := by decide +kernel
theorem d_D_isTooWide_52 : decode M_D_isTooWide.2.1 52 = .ok (.iinc 5 1, 3) := by decide +kernel
theorem d_D_isTooWide_55 : decode M_D_isTooWide.2.1 55 = .ok (.goto (-49), 3) := by decide +kernel
theorem d_D_isTooWide_58 : decode M_D_isTooWide.2.1 58 = .ok (.iload 4, 2) := by decide +kernel
theorem d_D_isTooWide_60 : decode M_D_isTooWide.2.1 60 = .ok (.ireturn, 1) := by decide +kernel
theorem d_D_wait_0 : decode M_D_wait.2.1 0 = .ok (.aload_n 0, 1) := by decide +kernel
theorem d_D_wait_1 : decode M_D_wait.2.1 1 = .ok (.getfield 48, 3) := by decide +kernel
theorem d_D_wait_4 : decode M_D_wait.2.1 4 = .ok (.sipush 160, 3) := by decide +kernel
theorem d_D_wait_7 : decode M_D_wait.2.1 7 = .ok (.iload_n 1, 1) := by decide +kernel
theorem d_D_wait_8 : decode M_D_wait.2.1 8 = .ok (.imul, 1) := by decide +kernel
theorem d_D_wait_9 : decode M_D_wait.2.1 9 = .ok (.aload_n 0, 1) := by decide +kernel
theorem d_D_wait_10 : decode M_D_wait.2.1 10 = .ok (.getfield 45, 3) := by decide +kernel
theorem d_D_wait_13 : decode M_D_wait.2.1 13 = .ok (.iload_n 1, 1) := by decide +kernel
theorem d_D_wait_14 : decode M_D_wait.2.1 14 = .ok (.iaload, 1) := by decide +kernel
theorem d_D_wait_15 : decode M_D_wait.2.1 15 = .ok (.iadd, 1) := by decide +kernel
theorem d_D_wait_16 : decode M_D_wait.2.1 16 = .ok (.iload_n 2, 1) := by decide +kernel
theorem d_D_wait_17 : decode M_D_wait.2.1 17 = .ok (.iastore, 1) := by decide +kernel
theorem d_D_wait_18 : decode M_D_wait.2.1 18 = .ok (.aload_n 0, 1) := by decide +kernel
theorem d_D_wait_19 : decode M_D_wait.2.1 19 = .ok (.getfield 51, 3) := by decide +kernel
theorem d_D_wait_22 : decode M_D_wait.2.1 22 = .ok (.sipush 160, 3) := by decide +kernel
theorem d_D_wait_25 : decode M_D_wait.2.1 25 = .ok (.iload_n 1, 1) := by decide +kernel
theorem d_D_wait_26 : decode M_D_wait.2.1 26 = .ok (.imul, 1) := by decide +kernel
theorem d_D_wait_27 : decode M_D_wait.2.1 27 = .ok (.aload_n 0, 1) := by decide +kernel
theorem d_D_wait_28 : decode M_D_wait.2.1 28 = .ok (.getfield 45, 3) := by decide +kernel
theorem d_D_wait_31 : decode M_D_wait.2.1 31 = .ok (.iload_n 1, 1) := by decide +kernel
theorem d_D_wait_32 : decode M_D_wait.2.1 32 = .ok (.iaload, 1) := by decide +kernel
theorem d_D_wait_33 : decode M_D_wait.2.1 33 = .ok (.iadd, 1) := by decide +kernel
theorem d_D_wait_34 : decode M_D_wait.2.1 34 = .ok (.iload_n 3, 1) := by decide +kernel
theorem d_D_wait_35 : decode M_D_wait.2.1 35 = .ok (.iastore, 1) := by decide +kernel
theorem d_D_wait_36 : decode M_D_wait.2.1 36 = .ok (.aload_n 0, 1) := by decide +kernel
theorem d_D_wait_37 : decode M_D_wait.2.1 37 = .ok (.getfield 45, 3) := by decide +kernel
theorem d_D_wait_40 : decode M_D_wait.2.1 40 = .ok (.iload_n 1, 1) := by decide +kernel
theorem d_D_wait_41 : decode M_D_wait.2.1 41 = .ok (.dup2, 1) := by decide +kernel
theorem d_D_wait_42 : decode M_D_wait.2.1 42 = .ok (.iaload, 1) := by decide +kernel
theorem d_D_wait_43 : decode M_D_wait.2.1 43 = .ok (.iconst 1, 1) := by decide +kernel
theorem d_D_wait_44 : decode M_D_wait.2.1 44 = .ok (.iadd, 1) := by decide +kernel
theorem d_D_wait_45 : decode M_D_wait.2.1 45 = .ok (.iastore, 1) := by decide +kernel
theorem d_D_wait_46 : decode M_D_wait.2.1 46 = .ok (.return_, 1) := by decide +kernel
theorem d_D_unify_0 : decode M_D_unify.2.1 0 = .ok (.aload_n 0, 1) := by decide +kernel
theorem d_D_unify_1 : decode M_D_unify.2.1 1 = .ok (.iload_n 1, 1) := by decide +kernel
theorem d_D_unify_2 : decode M_D_unify.2.1 2 = .ok (.iload_n 2, 1) := by decide +kernel
theorem d_D_unify_3 : decode M_D_unify.2.1 3 = .ok (.invokevirtual 205, 3) := by decide +kernel
theorem d_D_unify_6 : decode M_D_unify.2.1 6 = .ok (.ifCond .eq 5, 3) := by decide +kernel
theorem d_D_unify_9 : decode M_D_unify.2.1 9 = .ok (.iconst 0, 1) := by decide +kernel
theorem d_D_unify_10 : decode M_D_unify.2.1 10 = .ok (.ireturn, 1) := by decide +kernel
theorem d_D_unify_11 : decode M_D_unify.2.1 11 = .ok (.iconst 0, 1) := by decide +kernel
theorem d_D_unify_12 : decode M_D_unify.2.1 12 = .ok (.istore_n 3, 1) := by decide +kernel
theorem d_D_unify_13 : decode M_D_unify.2.1 13 = .ok (.iload_n 3, 1) := by decide +kernel
theorem d_D_unify_14 : decode M_D_unify.2.1 14 = .ok (.sipush 324, 3) := by decide +kernel
theorem d_D_unify_17 : decode M_D_unify.2.1 17 = .ok (.if_icmp .ge 21, 3) := by decide +kernel
theorem d_D_unify_20 : decode M_D_unify.2.1 20 = .ok (.aload_n 0, 1) := by decide +kernel
theorem d_D_unify_21 : decode M_D_unify.2.1 21 = .ok (.getfield 30, 3) := by decide +kernel
theorem d_D_unify_24 : decode M_D_unify.2.1 24 = .ok (.iload_n 3, 1) := by decide +kernel
theorem d_D_unify_25 : decode M_D_unify.2.1 25 = .ok (.aload_n 0, 1) := by decide +kernel
theorem d_D_unify_26 : decode M_D_unify.2.1 26 = .ok (.getfield 26, 3) := by decide +kernel
theorem d_D_unify_29 : decode M_D_unify.2.1 29 = .ok (.iload_n 3, 1) := by decide +kernel
end
section
theorem d_D_unify_30 : decode M_D_unify.2.1 30 = .ok (.baload, 1) := by decide +kernel
theorem d_D_unify_31 : decode M_D_unify.2.1 31 = .ok (.bastore, 1) := by decide +kernel
theorem d_D_unify_32 : decode M_D_unify.2.1 32 = .ok (.iinc 3 1, 3) := by decide +kernel
theorem d_D_unify_35 : decode M_D_unify.2.1 35 = .ok (.goto (-22), 3) := by decide +kernel
theorem d_D_unify_38 : decode M_D_unify.2.1 38 = .ok (.aload_n 0, 1) := by decide +kernel
theorem d_D_unify_39 : decode M_D_unify.2.1 39 = .ok (.getfield 144, 3) := by decide +kernel
theorem d_D_unify_42 : decode M_D_unify.2.1 42 = .ok (.istore_n 3, 1) := by decide +kernel
theorem d_D_unify_43 : decode M_D_unify.2.1 43 = .ok (.aload_n 0, 1) := by decide +kernel
theorem d_D_unify_44 : decode M_D_unify.2.1 44 = .ok (.aload_n 0, 1) := by decide +kernel
theorem d_D_unify_45 : decode M_D_unify.2.1 45 = .ok (.aload_n 0, 1) := by decide +kernel
theorem d_D_unify_46 : decode M_D_unify.2.1 46 = .ok (.getfield 57, 3) := by decide +kernel
theorem d_D_unify_49 : decode M_D_unify.2.1 49 = .ok (.iload_n 1, 1) := by decide +kernel
theorem d_D_unify_50 : decode M_D_unify.2.1 50 = .ok (.invokevirtual 209, 3) := by decide +kernel
theorem d_D_unify_53 : decode M_D_unify.2.1 53 = .ok (.putfield 154, 3) := by decide +kernel
theorem d_D_unify_56 : decode M_D_unify.2.1 56 = .ok (.aload_n 0, 1) := by decide +kernel
theorem d_D_unify_57 : decode M_D_unify.2.1 57 = .ok (.aload_n 0, 1) := by decide +kernel
theorem d_D_unify_58 : decode M_D_unify.2.1 58 = .ok (.aload_n 0, 1) := by decide +kernel
theorem d_D_unify_59 : decode M_D_unify.2.1 59 = .ok (.getfield 60, 3) := by decide +kernel
theorem d_D_unify_62 : decode M_D_unify.2.1 62 = .ok (.iload_n 2, 1) := by decide +kernel
theorem d_D_unify_63 : decode M_D_unify.2.1 63 = .ok (.invokevirtual 209, 3) := by decide +kernel
theorem d_D_unify_66 : decode M_D_unify.2.1 66 = .ok (.putfield 157, 3) := by decide +kernel
theorem d_D_unify_69 : decode M_D_unify.2.1 69 = .ok (.aload_n 0, 1) := by decide +kernel
theorem d_D_unify_70 : decode M_D_unify.2.1 70 = .ok (.iconst 0, 1) := by decide +kernel
theorem d_D_unify_71 : decode M_D_unify.2.1 71 = .ok (.putfield 151, 3) := by decide +kernel
theorem d_D_unify_74 : decode M_D_unify.2.1 74 = .ok (.aload_n 0, 1) := by decide +kernel
theorem d_D_unify_75 : decode M_D_unify.2.1 75 = .ok (.aload_n 0, 1) := by decide +kernel
theorem d_D_unify_76 : decode M_D_unify.2.1 76 = .ok (.getfield 57, 3) := by decide +kernel
theorem d_D_unify_79 : decode M_D_unify.2.1 79 = .ok (.iconst 0, 1) := by decide +kernel
theorem d_D_unify_80 : decode M_D_unify.2.1 80 = .ok (.aload_n 0, 1) := by decide +kernel
theorem d_D_unify_81 : decode M_D_unify.2.1 81 = .ok (.getfield 154, 3) := by decide +kernel
theorem d_D_unify_84 : decode M_D_unify.2.1 84 = .ok (.aload_n 0, 1) := by decide +kernel
theorem d_D_unify_85 : decode M_D_unify.2.1 85 = .ok (.getfield 60, 3) := by decide +kernel
theorem d_D_unify_88 : decode M_D_unify.2.1 88 = .ok (.iconst 0, 1) := by decide +kernel
theorem d_D_unify_89 : decode M_D_unify.2.1 89 = .ok (.aload_n 0, 1) := by decide +kernel
theorem d_D_unify_90 : decode M_D_unify.2.1 90 = .ok (.getfield 157, 3) := by decide +kernel
theorem d_D_unify_93 : decode M_D_unify.2.1 93 = .ok (.invokevirtual 177, 3) := by decide +kernel
theorem d_D_unify_96 : decode M_D_unify.2.1 96 = .ok (.iconst 0, 1) := by decide +kernel
theorem d_D_unify_97 : decode M_D_unify.2.1 97 = .ok (.istore 4, 2) := by decide +kernel
theorem d_D_unify_99 : decode M_D_unify.2.1 99 = .ok (.aload_n 0, 1) := by decide +kernel
theorem d_D_unify_100 : decode M_D_unify.2.1 100 = .ok (.getfield 151, 3) := by decide +kernel
theorem d_D_unify_103 : decode M_D_unify.2.1 103 = .ok (.ifCond .le 17, 3) := by decide +kernel
theorem d_D_unify_106 : decode M_D_unify.2.1 106 = .ok (.iload 4, 2) := by decide +kernel
theorem d_D_unify_108 : decode M_D_unify.2.1 108 = .ok (.ifCond .ne 12, 3) := by decide +kernel
theorem d_D_unify_111 : decode M_D_unify.2.1 111 = .ok (.aload_n 0, 1) := by decide +kernel
theorem d_D_unify_112 : decode M_D_unify.2.1 112 = .ok (.invokevirtual 212, 3) := by decide +kernel
theorem d_D_unify_115 : decode M_D_unify.2.1 115 = .ok (.istore 4, 2) := by decide +kernel
theorem d_D_unify_117 : decode M_D_unify.2.1 117 = .ok (.goto (-18), 3) := by decide +kernel
theorem d_D_unify_120 : decode M_D_unify.2.1 120 = .ok (.iload 4, 2) := by decide +kernel
theorem d_D_unify_122 : decode M_D_unify.2.1 122 = .ok (.ifCond .le 39, 3) := by decide +kernel
theorem d_D_unify_125 : decode M_D_unify.2.1 125 = .ok (.iconst 0, 1) := by decide +kernel
theorem d_D_unify_126 : decode M_D_unify.2.1 126 = .ok (.istore 5, 2) := by decide +kernel
theorem d_D_unify_128 : decode M_D_unify.2.1 128 = .ok (.iload 5, 2) := by decide +kernel
theorem d_D_unify_130 : decode M_D_unify.2.1 130 = .ok (.sipush 324, 3) := by decide +kernel
theorem d_D_unify_133 : decode M_D_unify.2.1 133 = .ok (.if_icmp .ge 23, 3) := by decide +kernel
theorem d_D_unify_136 : decode M_D_unify.2.1 136 = .ok (.aload_n 0, 1) := by decide +kernel
theorem d_D_unify_137 : decode M_D_unify.2.1 137 = .ok (.getfield 26, 3) := by decide +kernel
theorem d_D_unify_140 : decode M_D_unify.2.1 140 = .ok (.iload 5, 2) := by decide +kernel
theorem d_D_unify_142 : decode M_D_unify.2.1 142 = .ok (.aload_n 0, 1) := by decide +kernel
theorem d_D_unify_143 : decode M_D_unify.2.1 143 = .ok (.getfield 30, 3) := by decide +kernel
theorem d_D_unify_146 : decode M_D_unify.2.1 146 = .ok (.iload 5, 2) := by decide +kernel
theorem d_D_unify_148 : decode M_D_unify.2.1 148 = .ok (.baload, 1) := by decide +kernel
theorem d_D_unify_149 : decode M_D_unify.2.1 149 = .ok (.bastore, 1) := by decide +kernel
theorem d_D_unify_150 : decode M_D_unify.2.1 150 = .ok (.iinc 5 1, 3) := by decide +kernel
theorem d_D_unify_153 : decode M_D_unify.2.1 153 = .ok (.goto (-25), 3) := by decide +kernel
theorem d_D_unify_156 : decode M_D_unify.2.1 156 = .ok (.aload_n 0, 1) := by decide +kernel
theorem d_D_unify_157 : decode M_D_unify.2.1 157 = .ok (.iload_n 3, 1) := by decide +kernel
theorem d_D_unify_158 : decode M_D_unify.2.1 158 = .ok (.putfield 144, 3) := by decide +kernel
theorem d_D_unify_161 : decode M_D_unify.2.1 161 = .ok (.aload_n 0, 1) := by decide +kernel
theorem d_D_unify_162 : decode M_D_unify.2.1 162 = .ok (.iload 4, 2) := by decide +kernel
theorem d_D_unify_164 : decode M_D_unify.2.1 164 = .ok (.ifCond .ne 12, 3) := by decide +kernel
theorem d_D_unify_167 : decode M_D_unify.2.1 167 = .ok (.aload_n 0, 1) := by decide +kernel
theorem d_D_unify_168 : decode M_D_unify.2.1 168 = .ok (.getfield 215, 3) := by decide +kernel
theorem d_D_unify_171 : decode M_D_unify.2.1 171 = .ok (.iconst 1, 1) := by decide +kernel
theorem d_D_unify_172 : decode M_D_unify.2.1 172 = .ok (.iadd, 1) := by decide +kernel
theorem d_D_unify_173 : decode M_D_unify.2.1 173 = .ok (.goto 7, 3) := by decide +kernel
theorem d_D_unify_176 : decode M_D_unify.2.1 176 = .ok (.aload_n 0, 1) := by decide +kernel
theorem d_D_unify_177 : decode M_D_unify.2.1 177 = .ok (.getfield 215, 3) := by decide +kernel
theorem d_D_unify_180 : decode M_D_unify.2.1 180 = .ok (.putfield 215, 3) := by decide +kernel
theorem d_D_unify_183 : decode M_D_unify.2.1 183 = .ok (.aload_n 0, 1) := by decide +kernel
theorem d_D_unify_184 : decode M_D_unify.2.1 184 = .ok (.iload 4, 2) := by decide +kernel
theorem d_D_unify_186 : decode M_D_unify.2.1 186 = .ok (.ifCond .ne 10, 3) := by decide +kernel
theorem d_D_unify_189 : decode M_D_unify.2.1 189 = .ok (.aload_n 0, 1) := by decide +kernel
theorem d_D_unify_190 : decode M_D_unify.2.1 190 = .ok (.getfield 218, 3) := by decide +kernel
theorem d_D_unify_193 : decode M_D_unify.2.1 193 = .ok (.goto 9, 3) := by decide +kernel
theorem d_D_unify_196 : decode M_D_unify.2.1 196 = .ok (.aload_n 0, 1) := by decide +kernel
theorem d_D_unify_197 : decode M_D_unify.2.1 197 = .ok (.getfield 218, 3) := by decide +kernel
theorem d_D_unify_200 : decode M_D_unify.2.1 200 = .ok (.iconst 1, 1) := by decide +kernel
theorem d_D_unify_201 : decode M_D_unify.2.1 201 = .ok (.iadd, 1) := by decide +kernel
theorem d_D_unify_202 : decode M_D_unify.2.1 202 = .ok (.putfield 218, 3) := by decide +kernel
theorem d_D_unify_205 : decode M_D_unify.2.1 205 = .ok (.iload 4, 2) := by decide +kernel
theorem d_D_unify_207 : decode M_D_unify.2.1 207 = .ok (.ireturn, 1) := by decide +kernel
theorem d_D_refuses_0 : decode M_D_refuses.2.1 0 = .ok (.iload_n 1, 1) := by decide +kernel
theorem d_D_refuses_1 : decode M_D_refuses.2.1 1 = .ok (.invokestatic 114, 3) := by decide +kernel
theorem d_D_refuses_4 : decode M_D_refuses.2.1 4 = .ok (.ifCond .eq 14, 3) := by decide +kernel
theorem d_D_refuses_7 : decode M_D_refuses.2.1 7 = .ok (.iload_n 2, 1) := by decide +kernel
theorem d_D_refuses_8 : decode M_D_refuses.2.1 8 = .ok (.invokestatic 114, 3) := by decide +kernel
theorem d_D_refuses_11 : decode M_D_refuses.2.1 11 = .ok (.ifCond .eq 7, 3) := by decide +kernel
theorem d_D_refuses_14 : decode M_D_refuses.2.1 14 = .ok (.iconst 1, 1) := by decide +kernel
theorem d_D_refuses_15 : decode M_D_refuses.2.1 15 = .ok (.goto 4, 3) := by decide +kernel
theorem d_D_refuses_18 : decode M_D_refuses.2.1 18 = .ok (.iconst 0, 1) := by decide +kernel
theorem d_D_refuses_19 : decode M_D_refuses.2.1 19 = .ok (.istore_n 3, 1) := by decide +kernel
theorem d_D_refuses_20 : decode M_D_refuses.2.1 20 = .ok (.aload_n 0, 1) := by decide +kernel
theorem d_D_refuses_21 : decode M_D_refuses.2.1 21 = .ok (.iload_n 3, 1) := by decide +kernel
theorem d_D_refuses_22 : decode M_D_refuses.2.1 22 = .ok (.ifCond .ne 7, 3) := by decide +kernel
theorem d_D_refuses_25 : decode M_D_refuses.2.1 25 = .ok (.iconst 1, 1) := by decide +kernel
theorem d_D_refuses_26 : decode M_D_refuses.2.1 26 = .ok (.goto 4, 3) := by decide +kernel
theorem d_D_refuses_29 : decode M_D_refuses.2.1 29 = .ok (.iconst 0, 1) := by decide +kernel
theorem d_D_refuses_30 : decode M_D_refuses.2.1 30 = .ok (.iload_n 3, 1) := by decide +kernel
theorem d_D_refuses_31 : decode M_D_refuses.2.1 31 = .ok (.ifCond .eq 38, 3) := by decide +kernel
theorem d_D_refuses_34 : decode M_D_refuses.2.1 34 = .ok (.aload_n 0, 1) := by decide +kernel
theorem d_D_refuses_35 : decode M_D_refuses.2.1 35 = .ok (.iload_n 1, 1) := by decide +kernel
theorem d_D_refuses_36 : decode M_D_refuses.2.1 36 = .ok (.invokevirtual 202, 3) := by decide +kernel
theorem d_D_refuses_39 : decode M_D_refuses.2.1 39 = .ok (.ifCond .eq 26, 3) := by decide +kernel
theorem d_D_refuses_42 : decode M_D_refuses.2.1 42 = .ok (.aload_n 0, 1) := by decide +kernel
theorem d_D_refuses_43 : decode M_D_refuses.2.1 43 = .ok (.iload_n 2, 1) := by decide +kernel
theorem d_D_refuses_44 : decode M_D_refuses.2.1 44 = .ok (.invokevirtual 202, 3) := by decide +kernel
theorem d_D_refuses_47 : decode M_D_refuses.2.1 47 = .ok (.ifCond .eq 18, 3) := by decide +kernel
theorem d_D_refuses_50 : decode M_D_refuses.2.1 50 = .ok (.aload_n 0, 1) := by decide +kernel
theorem d_D_refuses_51 : decode M_D_refuses.2.1 51 = .ok (.getfield 42, 3) := by decide +kernel
theorem d_D_refuses_54 : decode M_D_refuses.2.1 54 = .ok (.iload_n 1, 1) := by decide +kernel
theorem d_D_refuses_55 : decode M_D_refuses.2.1 55 = .ok (.iaload, 1) := by decide +kernel
theorem d_D_refuses_56 : decode M_D_refuses.2.1 56 = .ok (.aload_n 0, 1) := by decide +kernel
theorem d_D_refuses_57 : decode M_D_refuses.2.1 57 = .ok (.getfield 42, 3) := by decide +kernel
theorem d_D_refuses_60 : decode M_D_refuses.2.1 60 = .ok (.iload_n 2, 1) := by decide +kernel
theorem d_D_refuses_61 : decode M_D_refuses.2.1 61 = .ok (.iaload, 1) := by decide +kernel
theorem d_D_refuses_62 : decode M_D_refuses.2.1 62 = .ok (.if_icmp .eq 7, 3) := by decide +kernel
theorem d_D_refuses_65 : decode M_D_refuses.2.1 65 = .ok (.iconst 1, 1) := by decide +kernel
theorem d_D_refuses_66 : decode M_D_refuses.2.1 66 = .ok (.goto 4, 3) := by decide +kernel
theorem d_D_refuses_69 : decode M_D_refuses.2.1 69 = .ok (.iconst 0, 1) := by decide +kernel
theorem d_D_refuses_70 : decode M_D_refuses.2.1 70 = .ok (.invokevirtual 104, 3) := by decide +kernel
theorem d_D_refuses_73 : decode M_D_refuses.2.1 73 = .ok (.ireturn, 1) := by decide +kernel
theorem d_D_isWhole_0 : decode M_D_isWhole.2.1 0 = .ok (.aload_n 0, 1) := by decide +kernel
theorem d_D_isWhole_1 : decode M_D_isWhole.2.1 1 = .ok (.getfield 54, 3) := by decide +kernel
theorem d_D_isWhole_4 : decode M_D_isWhole.2.1 4 = .ok (.iload_n 1, 1) := by decide +kernel
theorem d_D_isWhole_5 : decode M_D_isWhole.2.1 5 = .ok (.baload, 1) := by decide +kernel
theorem d_D_isWhole_6 : decode M_D_isWhole.2.1 6 = .ok (.ifCond .eq 16, 3) := by decide +kernel
theorem d_D_isWhole_9 : decode M_D_isWhole.2.1 9 = .ok (.aload_n 0, 1) := by decide +kernel
theorem d_D_isWhole_10 : decode M_D_isWhole.2.1 10 = .ok (.getfield 45, 3) := by decide +kernel
theorem d_D_isWhole_13 : decode M_D_isWhole.2.1 13 = .ok (.iload_n 1, 1) := by decide +kernel
theorem d_D_isWhole_14 : decode M_D_isWhole.2.1 14 = .ok (.iaload, 1) := by decide +kernel
theorem d_D_isWhole_15 : decode M_D_isWhole.2.1 15 = .ok (.ifCond .ne 7, 3) := by decide +kernel
theorem d_D_isWhole_18 : decode M_D_isWhole.2.1 18 = .ok (.iconst 1, 1) := by decide +kernel
theorem d_D_isWhole_19 : decode M_D_isWhole.2.1 19 = .ok (.goto 4, 3) := by decide +kernel
theorem d_D_isWhole_22 : decode M_D_isWhole.2.1 22 = .ok (.iconst 0, 1) := by decide +kernel
theorem d_D_isWhole_23 : decode M_D_isWhole.2.1 23 = .ok (.ireturn, 1) := by decide +kernel
theorem d_D_slot_0 : decode M_D_slot.2.1 0 = .ok (.iconst 0, 1) := by decide +kernel
theorem d_D_slot_1 : decode M_D_slot.2.1 1 = .ok (.istore_n 3, 1) := by decide +kernel
theorem d_D_slot_2 : decode M_D_slot.2.1 2 = .ok (.iload_n 3, 1) := by decide +kernel
theorem d_D_slot_3 : decode M_D_slot.2.1 3 = .ok (.aload_n 0, 1) := by decide +kernel
theorem d_D_slot_4 : decode M_D_slot.2.1 4 = .ok (.getfield 36, 3) := by decide +kernel
theorem d_D_slot_7 : decode M_D_slot.2.1 7 = .ok (.iload_n 2, 1) := by decide +kernel
theorem d_D_slot_8 : decode M_D_slot.2.1 8 = .ok (.iaload, 1) := by decide +kernel
theorem d_D_slot_9 : decode M_D_slot.2.1 9 = .ok (.if_icmp .ge 24, 3) := by decide +kernel
theorem d_D_slot_12 : decode M_D_slot.2.1 12 = .ok (.aload_n 1, 1) := by decide +kernel
theorem d_D_slot_13 : decode M_D_slot.2.1 13 = .ok (.iload_n 3, 1) := by decide +kernel
theorem d_D_slot_14 : decode M_D_slot.2.1 14 = .ok (.aload_n 0, 1) := by decide +kernel
theorem d_D_slot_15 : decode M_D_slot.2.1 15 = .ok (.getfield 33, 3) := by decide +kernel
theorem d_D_slot_18 : decode M_D_slot.2.1 18 = .ok (.sipush 160, 3) := by decide +kernel
theorem d_D_slot_21 : decode M_D_slot.2.1 21 = .ok (.iload_n 2, 1) := by decide +kernel
theorem d_D_slot_22 : decode M_D_slot.2.1 22 = .ok (.imul, 1) := by decide +kernel
theorem d_D_slot_23 : decode M_D_slot.2.1 23 = .ok (.iload_n 3, 1) := by decide +kernel
theorem d_D_slot_24 : decode M_D_slot.2.1 24 = .ok (.iadd, 1) := by decide +kernel
theorem d_D_slot_25 : decode M_D_slot.2.1 25 = .ok (.iaload, 1) := by decide +kernel
theorem d_D_slot_26 : decode M_D_slot.2.1 26 = .ok (.iastore, 1) := by decide +kernel
theorem d_D_slot_27 : decode M_D_slot.2.1 27 = .ok (.iinc 3 1, 3) := by decide +kernel
theorem d_D_slot_30 : decode M_D_slot.2.1 30 = .ok (.goto (-28), 3) := by decide +kernel
theorem d_D_slot_33 : decode M_D_slot.2.1 33 = .ok (.aload_n 0, 1) := by decide +kernel
theorem d_D_slot_34 : decode M_D_slot.2.1 34 = .ok (.aload_n 1, 1) := by decide +kernel
theorem d_D_slot_35 : decode M_D_slot.2.1 35 = .ok (.aload_n 0, 1) := by decide +kernel
theorem d_D_slot_36 : decode M_D_slot.2.1 36 = .ok (.getfield 36, 3) := by decide +kernel
theorem d_D_slot_39 : decode M_D_slot.2.1 39 = .ok (.iload_n 2, 1) := by decide +kernel
theorem d_D_slot_40 : decode M_D_slot.2.1 40 = .ok (.iaload, 1) := by decide +kernel
theorem d_D_slot_41 : decode M_D_slot.2.1 41 = .ok (.invokevirtual 141, 3) := by decide +kernel
theorem d_D_slot_44 : decode M_D_slot.2.1 44 = .ok (.ireturn, 1) := by decide +kernel
theorem d_D_write_0 : decode M_D_write.2.1 0 = .ok (.iload_n 2, 1) := by decide +kernel
theorem d_D_write_1 : decode M_D_write.2.1 1 = .ok (.istore_n 3, 1) := by decide +kernel
theorem d_D_write_2 : decode M_D_write.2.1 2 = .ok (.aload_n 0, 1) := by decide +kernel
theorem d_D_write_3 : decode M_D_write.2.1 3 = .ok (.aload_n 1, 1) := by decide +kernel
theorem d_D_write_4 : decode M_D_write.2.1 4 = .ok (.iload_n 3, 1) := by decide +kernel
theorem d_D_write_5 : decode M_D_write.2.1 5 = .ok (.invokevirtual 137, 3) := by decide +kernel
theorem d_D_write_8 : decode M_D_write.2.1 8 = .ok (.istore 4, 2) := by decide +kernel
theorem d_D_write_10 : decode M_D_write.2.1 10 = .ok (.iload 4, 2) := by decide +kernel
theorem d_D_write_12 : decode M_D_write.2.1 12 = .ok (.ifCond .lt 44, 3) := by decide +kernel
theorem d_D_write_15 : decode M_D_write.2.1 15 = .ok (.iconst 0, 1) := by decide +kernel
theorem d_D_write_16 : decode M_D_write.2.1 16 = .ok (.istore 5, 2) := by decide +kernel
theorem d_D_write_18 : decode M_D_write.2.1 18 = .ok (.iload 5, 2) := by decide +kernel
theorem d_D_write_20 : decode M_D_write.2.1 20 = .ok (.iload 4, 2) := by decide +kernel
theorem d_D_write_22 : decode M_D_write.2.1 22 = .ok (.if_icmp .ge 20, 3) := by decide +kernel
theorem d_D_write_25 : decode M_D_write.2.1 25 = .ok (.aload_n 1, 1) := by decide +kernel
theorem d_D_write_26 : decode M_D_write.2.1 26 = .ok (.iload 5, 2) := by decide +kernel
theorem d_D_write_28 : decode M_D_write.2.1 28 = .ok (.aload_n 0, 1) := by decide +kernel
theorem d_D_write_29 : decode M_D_write.2.1 29 = .ok (.getfield 63, 3) := by decide +kernel
theorem d_D_write_32 : decode M_D_write.2.1 32 = .ok (.iload 5, 2) := by decide +kernel
theorem d_D_write_34 : decode M_D_write.2.1 34 = .ok (.iaload, 1) := by decide +kernel
theorem d_D_write_35 : decode M_D_write.2.1 35 = .ok (.iastore, 1) := by decide +kernel
theorem d_D_write_36 : decode M_D_write.2.1 36 = .ok (.iinc 5 1, 3) := by decide +kernel
theorem d_D_write_39 : decode M_D_write.2.1 39 = .ok (.goto (-21), 3) := by decide +kernel
theorem d_D_write_42 : decode M_D_write.2.1 42 = .ok (.iload 4, 2) := by decide +kernel
theorem d_D_write_44 : decode M_D_write.2.1 44 = .ok (.istore_n 3, 1) := by decide +kernel
theorem d_D_write_45 : decode M_D_write.2.1 45 = .ok (.aload_n 0, 1) := by decide +kernel
theorem d_D_write_46 : decode M_D_write.2.1 46 = .ok (.aload_n 1, 1) := by decide +kernel
theorem d_D_write_47 : decode M_D_write.2.1 47 = .ok (.iload_n 3, 1) := by decide +kernel
theorem d_D_write_48 : decode M_D_write.2.1 48 = .ok (.invokevirtual 137, 3) := by decide +kernel
theorem d_D_write_51 : decode M_D_write.2.1 51 = .ok (.istore 4, 2) := by decide +kernel
theorem d_D_write_53 : decode M_D_write.2.1 53 = .ok (.goto (-43), 3) := by decide +kernel
theorem d_D_write_56 : decode M_D_write.2.1 56 = .ok (.iload_n 3, 1) := by decide +kernel
theorem d_D_write_57 : decode M_D_write.2.1 57 = .ok (.ireturn, 1) := by decide +kernel
theorem d_D_again_0 : decode M_D_again.2.1 0 = .ok (.iconst 0, 1) := by decide +kernel
theorem d_D_again_1 : decode M_D_again.2.1 1 = .ok (.istore_n 3, 1) := by decide +kernel
theorem d_D_again_2 : decode M_D_again.2.1 2 = .ok (.iconst 0, 1) := by decide +kernel
theorem d_D_again_3 : decode M_D_again.2.1 3 = .ok (.istore 4, 2) := by decide +kernel
theorem d_D_again_5 : decode M_D_again.2.1 5 = .ok (.iconst 0, 1) := by decide +kernel
theorem d_D_again_6 : decode M_D_again.2.1 6 = .ok (.istore 5, 2) := by decide +kernel
theorem d_D_again_8 : decode M_D_again.2.1 8 = .ok (.iload 5, 2) := by decide +kernel
theorem d_D_again_10 : decode M_D_again.2.1 10 = .ok (.iload_n 2, 1) := by decide +kernel
theorem d_D_again_11 : decode M_D_again.2.1 11 = .ok (.if_icmp .ge 291, 3) := by decide +kernel
theorem d_D_again_14 : decode M_D_again.2.1 14 = .ok (.aload_n 1, 1) := by decide +kernel
theorem d_D_again_15 : decode M_D_again.2.1 15 = .ok (.iload 5, 2) := by decide +kernel
theorem d_D_again_17 : decode M_D_again.2.1 17 = .ok (.iaload, 1) := by decide +kernel
theorem d_D_again_18 : decode M_D_again.2.1 18 = .ok (.iconst 2, 1) := by decide +kernel
theorem d_D_again_19 : decode M_D_again.2.1 19 = .ok (.ishr, 1) := by decide +kernel
theorem d_D_again_20 : decode M_D_again.2.1 20 = .ok (.istore 6, 2) := by decide +kernel
theorem d_D_again_22 : decode M_D_again.2.1 22 = .ok (.aload_n 1, 1) := by decide +kernel
theorem d_D_again_23 : decode M_D_again.2.1 23 = .ok (.iload 5, 2) := by decide +kernel
theorem d_D_again_25 : decode M_D_again.2.1 25 = .ok (.iaload, 1) := by decide +kernel
theorem d_D_again_26 : decode M_D_again.2.1 26 = .ok (.invokestatic 129, 3) := by decide +kernel
theorem d_D_again_29 : decode M_D_again.2.1 29 = .ok (.iconst 2, 1) := by decide +kernel
theorem d_D_again_30 : decode M_D_again.2.1 30 = .ok (.if_icmp .ne 13, 3) := by decide +kernel
theorem d_D_again_33 : decode M_D_again.2.1 33 = .ok (.aload_n 0, 1) := by decide +kernel
theorem d_D_again_34 : decode M_D_again.2.1 34 = .ok (.getfield 26, 3) := by decide +kernel
theorem d_D_again_37 : decode M_D_again.2.1 37 = .ok (.iload 6, 2) := by decide +kernel
theorem d_D_again_39 : decode M_D_again.2.1 39 = .ok (.baload, 1) := by decide +kernel
theorem d_D_again_40 : decode M_D_again.2.1 40 = .ok (.ifCond .ne 121, 3) := by decide +kernel
theorem d_D_again_43 : decode M_D_again.2.1 43 = .ok (.aload_n 0, 1) := by decide +kernel
theorem d_D_again_44 : decode M_D_again.2.1 44 = .ok (.getfield 63, 3) := by decide +kernel
theorem d_D_again_47 : decode M_D_again.2.1 47 = .ok (.iload_n 3, 1) := by decide +kernel
theorem d_D_again_48 : decode M_D_again.2.1 48 = .ok (.aload_n 1, 1) := by decide +kernel
theorem d_D_again_49 : decode M_D_again.2.1 49 = .ok (.iload 5, 2) := by decide +kernel
theorem d_D_again_51 : decode M_D_again.2.1 51 = .ok (.iaload, 1) := by decide +kernel
theorem d_D_again_52 : decode M_D_again.2.1 52 = .ok (.iastore, 1) := by decide +kernel
theorem d_D_again_53 : decode M_D_again.2.1 53 = .ok (.iinc 3 1, 3) := by decide +kernel
theorem d_D_again_56 : decode M_D_again.2.1 56 = .ok (.iconst 0, 1) := by decide +kernel
theorem d_D_again_57 : decode M_D_again.2.1 57 = .ok (.istore 7, 2) := by decide +kernel
theorem d_D_again_59 : decode M_D_again.2.1 59 = .ok (.aload_n 1, 1) := by decide +kernel
theorem d_D_again_60 : decode M_D_again.2.1 60 = .ok (.iload 5, 2) := by decide +kernel
theorem d_D_again_62 : decode M_D_again.2.1 62 = .ok (.iaload, 1) := by decide +kernel
theorem d_D_again_63 : decode M_D_again.2.1 63 = .ok (.invokestatic 129, 3) := by decide +kernel
theorem d_D_again_66 : decode M_D_again.2.1 66 = .ok (.iconst 2, 1) := by decide +kernel
theorem d_D_again_67 : decode M_D_again.2.1 67 = .ok (.if_icmp .ne 39, 3) := by decide +kernel
theorem d_D_again_70 : decode M_D_again.2.1 70 = .ok (.iload 7, 2) := by decide +kernel
theorem d_D_again_72 : decode M_D_again.2.1 72 = .ok (.aload_n 0, 1) := by decide +kernel
theorem d_D_again_73 : decode M_D_again.2.1 73 = .ok (.getfield 16, 3) := by decide +kernel
theorem d_D_again_76 : decode M_D_again.2.1 76 = .ok (.iload 6, 2) := by decide +kernel
theorem d_D_again_78 : decode M_D_again.2.1 78 = .ok (.iaload, 1) := by decide +kernel
theorem d_D_again_79 : decode M_D_again.2.1 79 = .ok (.if_icmp .ge 27, 3) := by decide +kernel
theorem d_D_again_82 : decode M_D_again.2.1 82 = .ok (.aload_n 0, 1) := by decide +kernel
theorem d_D_again_83 : decode M_D_again.2.1 83 = .ok (.getfield 63, 3) := by decide +kernel
theorem d_D_again_86 : decode M_D_again.2.1 86 = .ok (.iload_n 3, 1) := by decide +kernel
theorem d_D_again_87 : decode M_D_again.2.1 87 = .ok (.iload 7, 2) := by decide +kernel
theorem d_D_again_89 : decode M_D_again.2.1 89 = .ok (.iadd, 1) := by decide +kernel
theorem d_D_again_90 : decode M_D_again.2.1 90 = .ok (.aload_n 1, 1) := by decide +kernel
theorem d_D_again_91 : decode M_D_again.2.1 91 = .ok (.iload 5, 2) := by decide +kernel
theorem d_D_again_93 : decode M_D_again.2.1 93 = .ok (.iconst 1, 1) := by decide +kernel
theorem d_D_again_94 : decode M_D_again.2.1 94 = .ok (.iadd, 1) := by decide +kernel
theorem d_D_again_95 : decode M_D_again.2.1 95 = .ok (.iload 7, 2) := by decide +kernel
theorem d_D_again_97 : decode M_D_again.2.1 97 = .ok (.iadd, 1) := by decide +kernel
theorem d_D_again_98 : decode M_D_again.2.1 98 = .ok (.iaload, 1) := by decide +kernel
theorem d_D_again_99 : decode M_D_again.2.1 99 = .ok (.iastore, 1) := by decide +kernel
theorem d_D_again_100 : decode M_D_again.2.1 100 = .ok (.iinc 7 1, 3) := by decide +kernel
theorem d_D_again_103 : decode M_D_again.2.1 103 = .ok (.goto (-44), 3) := by decide +kernel
theorem d_D_again_106 : decode M_D_again.2.1 106 = .ok (.iload_n 3, 1) := by decide +kernel
theorem d_D_again_107 : decode M_D_again.2.1 107 = .ok (.aload_n 1, 1) := by decide +kernel
theorem d_D_again_108 : decode M_D_again.2.1 108 = .ok (.iload 5, 2) := by decide +kernel
theorem d_D_again_110 : decode M_D_again.2.1 110 = .ok (.iaload, 1) := by decide +kernel
theorem d_D_again_111 : decode M_D_again.2.1 111 = .ok (.invokestatic 129, 3) := by decide +kernel
theorem d_D_again_114 : decode M_D_again.2.1 114 = .ok (.iconst 2, 1) := by decide +kernel
theorem d_D_again_115 : decode M_D_again.2.1 115 = .ok (.if_icmp .ne 13, 3) := by decide +kernel
theorem d_D_again_118 : decode M_D_again.2.1 118 = .ok (.aload_n 0, 1) := by decide +kernel
theorem d_D_again_119 : decode M_D_again.2.1 119 = .ok (.getfield 16, 3) := by decide +kernel
theorem d_D_again_122 : decode M_D_again.2.1 122 = .ok (.iload 6, 2) := by decide +kernel
theorem d_D_again_124 : decode M_D_again.2.1 124 = .ok (.iaload, 1) := by decide +kernel
theorem d_D_again_125 : decode M_D_again.2.1 125 = .ok (.goto 4, 3) := by decide +kernel
theorem d_D_again_128 : decode M_D_again.2.1 128 = .ok (.iconst 0, 1) := by decide +kernel
theorem d_D_again_129 : decode M_D_again.2.1 129 = .ok (.iadd, 1) := by decide +kernel
theorem d_D_again_130 : decode M_D_again.2.1 130 = .ok (.istore_n 3, 1) := by decide +kernel
theorem d_D_again_131 : decode M_D_again.2.1 131 = .ok (.iload 5, 2) := by decide +kernel
theorem d_D_again_133 : decode M_D_again.2.1 133 = .ok (.aload_n 1, 1) := by decide +kernel
theorem d_D_again_134 : decode M_D_again.2.1 134 = .ok (.iload 5, 2) := by decide +kernel
theorem d_D_again_136 : decode M_D_again.2.1 136 = .ok (.iaload, 1) := by decide +kernel
theorem d_D_again_137 : decode M_D_again.2.1 137 = .ok (.invokestatic 129, 3) := by decide +kernel
theorem d_D_again_140 : decode M_D_again.2.1 140 = .ok (.iconst 2, 1) := by decide +kernel
theorem d_D_again_141 : decode M_D_again.2.1 141 = .ok (.if_icmp .ne 13, 3) := by decide +kernel
theorem d_D_again_144 : decode M_D_again.2.1 144 = .ok (.aload_n 0, 1) := by decide +kernel
theorem d_D_again_145 : decode M_D_again.2.1 145 = .ok (.getfield 16, 3) := by decide +kernel
theorem d_D_again_148 : decode M_D_again.2.1 148 = .ok (.iload 6, 2) := by decide +kernel
theorem d_D_again_150 : decode M_D_again.2.1 150 = .ok (.iaload, 1) := by decide +kernel
theorem d_D_again_151 : decode M_D_again.2.1 151 = .ok (.goto 4, 3) := by decide +kernel
theorem d_D_again_154 : decode M_D_again.2.1 154 = .ok (.iconst 0, 1) := by decide +kernel
theorem d_D_again_155 : decode M_D_again.2.1 155 = .ok (.iadd, 1) := by decide +kernel
theorem d_D_again_156 : decode M_D_again.2.1 156 = .ok (.istore 5, 2) := by decide +kernel
theorem d_D_again_158 : decode M_D_again.2.1 158 = .ok (.goto 138, 3) := by decide +kernel
theorem d_D_again_161 : decode M_D_again.2.1 161 = .ok (.iconst 1, 1) := by decide +kernel
theorem d_D_again_162 : decode M_D_again.2.1 162 = .ok (.istore 4, 2) := by decide +kernel
theorem d_D_again_164 : decode M_D_again.2.1 164 = .ok (.aload_n 0, 1) := by decide +kernel
theorem d_D_again_165 : decode M_D_again.2.1 165 = .ok (.aload_n 0, 1) := by decide +kernel
theorem d_D_again_166 : decode M_D_again.2.1 166 = .ok (.getfield 23, 3) := by decide +kernel
theorem d_D_again_169 : decode M_D_again.2.1 169 = .ok (.sipush 400, 3) := by decide +kernel
theorem d_D_again_172 : decode M_D_again.2.1 172 = .ok (.iload 6, 2) := by decide +kernel
theorem d_D_again_174 : decode M_D_again.2.1 174 = .ok (.imul, 1) := by decide +kernel
theorem d_D_again_175 : decode M_D_again.2.1 175 = .ok (.aload_n 0, 1) := by decide +kernel
theorem d_D_again_176 : decode M_D_again.2.1 176 = .ok (.getfield 19, 3) := by decide +kernel
theorem d_D_again_179 : decode M_D_again.2.1 179 = .ok (.iload 6, 2) := by decide +kernel
theorem d_D_again_181 : decode M_D_again.2.1 181 = .ok (.iaload, 1) := by decide +kernel
theorem d_D_again_182 : decode M_D_again.2.1 182 = .ok (.invokevirtual 133, 3) := by decide +kernel
theorem d_D_again_185 : decode M_D_again.2.1 185 = .ok (.iconst 0, 1) := by decide +kernel
theorem d_D_again_186 : decode M_D_again.2.1 186 = .ok (.istore 7, 2) := by decide +kernel
theorem d_D_again_188 : decode M_D_again.2.1 188 = .ok (.iload 7, 2) := by decide +kernel
theorem d_D_again_190 : decode M_D_again.2.1 190 = .ok (.aload_n 0, 1) := by decide +kernel
theorem d_D_again_191 : decode M_D_again.2.1 191 = .ok (.getfield 19, 3) := by decide +kernel
theorem d_D_again_194 : decode M_D_again.2.1 194 = .ok (.iload 6, 2) := by decide +kernel
theorem d_D_again_196 : decode M_D_again.2.1 196 = .ok (.iaload, 1) := by decide +kernel
theorem d_D_again_197 : decode M_D_again.2.1 197 = .ok (.if_icmp .ge 87, 3) := by decide +kernel
theorem d_D_again_200 : decode M_D_again.2.1 200 = .ok (.aload_n 0, 1) := by decide +kernel
theorem d_D_again_201 : decode M_D_again.2.1 201 = .ok (.getfield 23, 3) := by decide +kernel
theorem d_D_again_204 : decode M_D_again.2.1 204 = .ok (.sipush 400, 3) := by decide +kernel
theorem d_D_again_207 : decode M_D_again.2.1 207 = .ok (.iload 6, 2) := by decide +kernel
theorem d_D_again_209 : decode M_D_again.2.1 209 = .ok (.imul, 1) := by decide +kernel
theorem d_D_again_210 : decode M_D_again.2.1 210 = .ok (.iload 7, 2) := by decide +kernel
theorem d_D_again_212 : decode M_D_again.2.1 212 = .ok (.iadd, 1) := by decide +kernel
theorem d_D_again_213 : decode M_D_again.2.1 213 = .ok (.iaload, 1) := by decide +kernel
theorem d_D_again_214 : decode M_D_again.2.1 214 = .ok (.istore 8, 2) := by decide +kernel
theorem d_D_again_216 : decode M_D_again.2.1 216 = .ok (.iload 8, 2) := by decide +kernel
theorem d_D_again_218 : decode M_D_again.2.1 218 = .ok (.iconst 2, 1) := by decide +kernel
theorem d_D_again_219 : decode M_D_again.2.1 219 = .ok (.ishr, 1) := by decide +kernel
theorem d_D_again_220 : decode M_D_again.2.1 220 = .ok (.aload_n 0, 1) := by decide +kernel
theorem d_D_again_221 : decode M_D_again.2.1 221 = .ok (.getfield 66, 3) := by decide +kernel
theorem d_D_again_224 : decode M_D_again.2.1 224 = .ok (.iload 7, 2) := by decide +kernel
theorem d_D_again_226 : decode M_D_again.2.1 226 = .ok (.iaload, 1) := by decide +kernel
theorem d_D_again_227 : decode M_D_again.2.1 227 = .ok (.isub, 1) := by decide +kernel
theorem d_D_again_228 : decode M_D_again.2.1 228 = .ok (.istore 9, 2) := by decide +kernel
theorem d_D_again_230 : decode M_D_again.2.1 230 = .ok (.aload_n 0, 1) := by decide +kernel
theorem d_D_again_231 : decode M_D_again.2.1 231 = .ok (.getfield 63, 3) := by decide +kernel
theorem d_D_again_234 : decode M_D_again.2.1 234 = .ok (.iload_n 3, 1) := by decide +kernel
theorem d_D_again_235 : decode M_D_again.2.1 235 = .ok (.iload 8, 2) := by decide +kernel
theorem d_D_again_237 : decode M_D_again.2.1 237 = .ok (.invokestatic 129, 3) := by decide +kernel
theorem d_D_again_240 : decode M_D_again.2.1 240 = .ok (.ifCond .ne 8, 3) := by decide +kernel
theorem d_D_again_243 : decode M_D_again.2.1 243 = .ok (.iload 9, 2) := by decide +kernel
theorem d_D_again_245 : decode M_D_again.2.1 245 = .ok (.ifCond .ge 8, 3) := by decide +kernel
theorem d_D_again_248 : decode M_D_again.2.1 248 = .ok (.iload 8, 2) := by decide +kernel
theorem d_D_again_250 : decode M_D_again.2.1 250 = .ok (.goto 24, 3) := by decide +kernel
theorem d_D_again_253 : decode M_D_again.2.1 253 = .ok (.iconst 4, 1) := by decide +kernel
theorem d_D_again_254 : decode M_D_again.2.1 254 = .ok (.aload_n 1, 1) := by decide +kernel
theorem d_D_again_255 : decode M_D_again.2.1 255 = .ok (.iload 5, 2) := by decide +kernel
theorem d_D_again_257 : decode M_D_again.2.1 257 = .ok (.iconst 1, 1) := by decide +kernel
theorem d_D_again_258 : decode M_D_again.2.1 258 = .ok (.iadd, 1) := by decide +kernel
theorem d_D_again_259 : decode M_D_again.2.1 259 = .ok (.iload 9, 2) := by decide +kernel
theorem d_D_again_261 : decode M_D_again.2.1 261 = .ok (.iadd, 1) := by decide +kernel
theorem d_D_again_262 : decode M_D_again.2.1 262 = .ok (.iaload, 1) := by decide +kernel
theorem d_D_again_263 : decode M_D_again.2.1 263 = .ok (.iconst 2, 1) := by decide +kernel
theorem d_D_again_264 : decode M_D_again.2.1 264 = .ok (.ishr, 1) := by decide +kernel
theorem d_D_again_265 : decode M_D_again.2.1 265 = .ok (.aload_n 0, 1) := by decide +kernel
theorem d_D_again_266 : decode M_D_again.2.1 266 = .ok (.getfield 66, 3) := by decide +kernel
theorem d_D_again_269 : decode M_D_again.2.1 269 = .ok (.iload 7, 2) := by decide +kernel
theorem d_D_again_271 : decode M_D_again.2.1 271 = .ok (.iaload, 1) := by decide +kernel
theorem d_D_again_272 : decode M_D_again.2.1 272 = .ok (.iadd, 1) := by decide +kernel
theorem d_D_again_273 : decode M_D_again.2.1 273 = .ok (.imul, 1) := by decide +kernel
theorem d_D_again_274 : decode M_D_again.2.1 274 = .ok (.iastore, 1) := by decide +kernel
theorem d_D_again_275 : decode M_D_again.2.1 275 = .ok (.iinc 3 1, 3) := by decide +kernel
theorem d_D_again_278 : decode M_D_again.2.1 278 = .ok (.iinc 7 1, 3) := by decide +kernel
theorem d_D_again_281 : decode M_D_again.2.1 281 = .ok (.goto (-93), 3) := by decide +kernel
theorem d_D_again_284 : decode M_D_again.2.1 284 = .ok (.iload 5, 2) := by decide +kernel
theorem d_D_again_286 : decode M_D_again.2.1 286 = .ok (.aload_n 0, 1) := by decide +kernel
theorem d_D_again_287 : decode M_D_again.2.1 287 = .ok (.getfield 16, 3) := by decide +kernel
theorem d_D_again_290 : decode M_D_again.2.1 290 = .ok (.iload 6, 2) := by decide +kernel
theorem d_D_again_292 : decode M_D_again.2.1 292 = .ok (.iaload, 1) := by decide +kernel
theorem d_D_again_293 : decode M_D_again.2.1 293 = .ok (.iadd, 1) := by decide +kernel
theorem d_D_again_294 : decode M_D_again.2.1 294 = .ok (.istore 5, 2) := by decide +kernel
theorem d_D_again_296 : decode M_D_again.2.1 296 = .ok (.iinc 5 1, 3) := by decide +kernel
theorem d_D_again_299 : decode M_D_again.2.1 299 = .ok (.goto (-291), 3) := by decide +kernel
theorem d_D_again_302 : decode M_D_again.2.1 302 = .ok (.iload 4, 2) := by decide +kernel
theorem d_D_again_304 : decode M_D_again.2.1 304 = .ok (.ifCond .eq 7, 3) := by decide +kernel
theorem d_D_again_307 : decode M_D_again.2.1 307 = .ok (.iload_n 3, 1) := by decide +kernel
theorem d_D_again_308 : decode M_D_again.2.1 308 = .ok (.goto 4, 3) := by decide +kernel
theorem d_D_again_311 : decode M_D_again.2.1 311 = .ok (.iconst (-1), 1) := by decide +kernel
theorem d_D_again_312 : decode M_D_again.2.1 312 = .ok (.ireturn, 1) := by decide +kernel
theorem d_D_sort_0 : decode M_D_sort.2.1 0 = .ok (.iload_n 0, 1) := by decide +kernel
theorem d_D_sort_1 : decode M_D_sort.2.1 1 = .ok (.iconst 3, 1) := by decide +kernel
theorem d_D_sort_2 : decode M_D_sort.2.1 2 = .ok (.iand, 1) := by decide +kernel
theorem d_D_sort_3 : decode M_D_sort.2.1 3 = .ok (.ireturn, 1) := by decide +kernel
theorem d_D_measure_0 : decode M_D_measure.2.1 0 = .ok (.iconst 1, 1) := by decide +kernel
theorem d_D_measure_1 : decode M_D_measure.2.1 1 = .ok (.istore 4, 2) := by decide +kernel
theorem d_D_measure_3 : decode M_D_measure.2.1 3 = .ok (.aload_n 0, 1) := by decide +kernel
theorem d_D_measure_4 : decode M_D_measure.2.1 4 = .ok (.getfield 69, 3) := by decide +kernel
theorem d_D_measure_7 : decode M_D_measure.2.1 7 = .ok (.iconst 0, 1) := by decide +kernel
theorem d_D_measure_8 : decode M_D_measure.2.1 8 = .ok (.iconst 0, 1) := by decide +kernel
theorem d_D_measure_9 : decode M_D_measure.2.1 9 = .ok (.iastore, 1) := by decide +kernel
theorem d_D_measure_10 : decode M_D_measure.2.1 10 = .ok (.iconst 0, 1) := by decide +kernel
theorem d_D_measure_11 : decode M_D_measure.2.1 11 = .ok (.istore 5, 2) := by decide +kernel
theorem d_D_measure_13 : decode M_D_measure.2.1 13 = .ok (.iload 5, 2) := by decide +kernel
theorem d_D_measure_15 : decode M_D_measure.2.1 15 = .ok (.iload_n 3, 1) := by decide +kernel
theorem d_D_measure_16 : decode M_D_measure.2.1 16 = .ok (.if_icmp .ge 159, 3) := by decide +kernel
theorem d_D_measure_19 : decode M_D_measure.2.1 19 = .ok (.aload_n 1, 1) := by decide +kernel
theorem d_D_measure_20 : decode M_D_measure.2.1 20 = .ok (.iload_n 2, 1) := by decide +kernel
theorem d_D_measure_21 : decode M_D_measure.2.1 21 = .ok (.iload 5, 2) := by decide +kernel
theorem d_D_measure_23 : decode M_D_measure.2.1 23 = .ok (.iadd, 1) := by decide +kernel
theorem d_D_measure_24 : decode M_D_measure.2.1 24 = .ok (.iaload, 1) := by decide +kernel
theorem d_D_measure_25 : decode M_D_measure.2.1 25 = .ok (.istore 6, 2) := by decide +kernel
theorem d_D_measure_27 : decode M_D_measure.2.1 27 = .ok (.iinc 4 (-1), 3) := by decide +kernel
theorem d_D_measure_30 : decode M_D_measure.2.1 30 = .ok (.aload_n 0, 1) := by decide +kernel
theorem d_D_measure_31 : decode M_D_measure.2.1 31 = .ok (.getfield 69, 3) := by decide +kernel
theorem d_D_measure_34 : decode M_D_measure.2.1 34 = .ok (.iload 4, 2) := by decide +kernel
theorem d_D_measure_36 : decode M_D_measure.2.1 36 = .ok (.iaload, 1) := by decide +kernel
theorem d_D_measure_37 : decode M_D_measure.2.1 37 = .ok (.istore 7, 2) := by decide +kernel
theorem d_D_measure_39 : decode M_D_measure.2.1 39 = .ok (.aload_n 0, 1) := by decide +kernel
theorem d_D_measure_40 : decode M_D_measure.2.1 40 = .ok (.getfield 66, 3) := by decide +kernel
theorem d_D_measure_43 : decode M_D_measure.2.1 43 = .ok (.iload 5, 2) := by decide +kernel
theorem d_D_measure_45 : decode M_D_measure.2.1 45 = .ok (.iload 7, 2) := by decide +kernel
theorem d_D_measure_47 : decode M_D_measure.2.1 47 = .ok (.iastore, 1) := by decide +kernel
theorem d_D_measure_48 : decode M_D_measure.2.1 48 = .ok (.iload 6, 2) := by decide +kernel
theorem d_D_measure_50 : decode M_D_measure.2.1 50 = .ok (.iconst 2, 1) := by decide +kernel
theorem d_D_measure_51 : decode M_D_measure.2.1 51 = .ok (.ishr, 1) := by decide +kernel
theorem d_D_measure_52 : decode M_D_measure.2.1 52 = .ok (.istore 8, 2) := by decide +kernel
theorem d_D_measure_54 : decode M_D_measure.2.1 54 = .ok (.iload 6, 2) := by decide +kernel
theorem d_D_measure_56 : decode M_D_measure.2.1 56 = .ok (.invokestatic 129, 3) := by decide +kernel
theorem d_D_measure_59 : decode M_D_measure.2.1 59 = .ok (.iconst 1, 1) := by decide +kernel
theorem d_D_measure_60 : decode M_D_measure.2.1 60 = .ok (.if_icmp .ne 50, 3) := by decide +kernel
theorem d_D_measure_63 : decode M_D_measure.2.1 63 = .ok (.aload_n 0, 1) := by decide +kernel
theorem d_D_measure_64 : decode M_D_measure.2.1 64 = .ok (.getfield 7, 3) := by decide +kernel
theorem d_D_measure_67 : decode M_D_measure.2.1 67 = .ok (.iload 8, 2) := by decide +kernel
theorem d_D_measure_69 : decode M_D_measure.2.1 69 = .ok (.iaload, 1) := by decide +kernel
theorem d_D_measure_70 : decode M_D_measure.2.1 70 = .ok (.iconst 1, 1) := by decide +kernel
theorem d_D_measure_71 : decode M_D_measure.2.1 71 = .ok (.isub, 1) := by decide +kernel
theorem d_D_measure_72 : decode M_D_measure.2.1 72 = .ok (.istore 9, 2) := by decide +kernel
theorem d_D_measure_74 : decode M_D_measure.2.1 74 = .ok (.iload 9, 2) := by decide +kernel
theorem d_D_measure_76 : decode M_D_measure.2.1 76 = .ok (.ifCond .lt 34, 3) := by decide +kernel
theorem d_D_measure_79 : decode M_D_measure.2.1 79 = .ok (.aload_n 0, 1) := by decide +kernel
theorem d_D_measure_80 : decode M_D_measure.2.1 80 = .ok (.getfield 69, 3) := by decide +kernel
theorem d_D_measure_83 : decode M_D_measure.2.1 83 = .ok (.iload 4, 2) := by decide +kernel
theorem d_D_measure_85 : decode M_D_measure.2.1 85 = .ok (.iload 7, 2) := by decide +kernel
theorem d_D_measure_87 : decode M_D_measure.2.1 87 = .ok (.aload_n 0, 1) := by decide +kernel
theorem d_D_measure_88 : decode M_D_measure.2.1 88 = .ok (.getfield 13, 3) := by decide +kernel
theorem d_D_measure_91 : decode M_D_measure.2.1 91 = .ok (.iconst 3, 1) := by decide +kernel
theorem d_D_measure_92 : decode M_D_measure.2.1 92 = .ok (.iload 8, 2) := by decide +kernel
theorem d_D_measure_94 : decode M_D_measure.2.1 94 = .ok (.imul, 1) := by decide +kernel
theorem d_D_measure_95 : decode M_D_measure.2.1 95 = .ok (.iload 9, 2) := by decide +kernel
theorem d_D_measure_97 : decode M_D_measure.2.1 97 = .ok (.iadd, 1) := by decide +kernel
theorem d_D_measure_98 : decode M_D_measure.2.1 98 = .ok (.iaload, 1) := by decide +kernel
theorem d_D_measure_99 : decode M_D_measure.2.1 99 = .ok (.iadd, 1) := by decide +kernel
theorem d_D_measure_100 : decode M_D_measure.2.1 100 = .ok (.iastore, 1) := by decide +kernel
theorem d_D_measure_101 : decode M_D_measure.2.1 101 = .ok (.iinc 4 1, 3) := by decide +kernel
theorem d_D_measure_104 : decode M_D_measure.2.1 104 = .ok (.iinc 9 (-1), 3) := by decide +kernel
theorem d_D_measure_107 : decode M_D_measure.2.1 107 = .ok (.goto (-33), 3) := by decide +kernel
theorem d_D_measure_110 : decode M_D_measure.2.1 110 = .ok (.iload 6, 2) := by decide +kernel
theorem d_D_measure_112 : decode M_D_measure.2.1 112 = .ok (.invokestatic 129, 3) := by decide +kernel
theorem d_D_measure_115 : decode M_D_measure.2.1 115 = .ok (.iconst 2, 1) := by decide +kernel
theorem d_D_measure_116 : decode M_D_measure.2.1 116 = .ok (.if_icmp .eq 6, 3) := by decide +kernel
theorem d_D_measure_119 : decode M_D_measure.2.1 119 = .ok (.goto 50, 3) := by decide +kernel
theorem d_D_measure_122 : decode M_D_measure.2.1 122 = .ok (.iconst 0, 1) := by decide +kernel
theorem d_D_measure_123 : decode M_D_measure.2.1 123 = .ok (.istore 9, 2) := by decide +kernel
theorem d_D_measure_125 : decode M_D_measure.2.1 125 = .ok (.iload 9, 2) := by decide +kernel
theorem d_D_measure_127 : decode M_D_measure.2.1 127 = .ok (.aload_n 0, 1) := by decide +kernel
theorem d_D_measure_128 : decode M_D_measure.2.1 128 = .ok (.getfield 16, 3) := by decide +kernel
theorem d_D_measure_131 : decode M_D_measure.2.1 131 = .ok (.iload 8, 2) := by decide +kernel
theorem d_D_measure_133 : decode M_D_measure.2.1 133 = .ok (.iaload, 1) := by decide +kernel
theorem d_D_measure_134 : decode M_D_measure.2.1 134 = .ok (.if_icmp .ge 23, 3) := by decide +kernel
theorem d_D_measure_137 : decode M_D_measure.2.1 137 = .ok (.aload_n 0, 1) := by decide +kernel
theorem d_D_measure_138 : decode M_D_measure.2.1 138 = .ok (.getfield 66, 3) := by decide +kernel
theorem d_D_measure_141 : decode M_D_measure.2.1 141 = .ok (.iload 5, 2) := by decide +kernel
theorem d_D_measure_143 : decode M_D_measure.2.1 143 = .ok (.iconst 1, 1) := by decide +kernel
theorem d_D_measure_144 : decode M_D_measure.2.1 144 = .ok (.iadd, 1) := by decide +kernel
theorem d_D_measure_145 : decode M_D_measure.2.1 145 = .ok (.iload 9, 2) := by decide +kernel
theorem d_D_measure_147 : decode M_D_measure.2.1 147 = .ok (.iadd, 1) := by decide +kernel
theorem d_D_measure_148 : decode M_D_measure.2.1 148 = .ok (.iload 7, 2) := by decide +kernel
theorem d_D_measure_150 : decode M_D_measure.2.1 150 = .ok (.iastore, 1) := by decide +kernel
theorem d_D_measure_151 : decode M_D_measure.2.1 151 = .ok (.iinc 9 1, 3) := by decide +kernel
theorem d_D_measure_154 : decode M_D_measure.2.1 154 = .ok (.goto (-29), 3) := by decide +kernel
theorem d_D_measure_157 : decode M_D_measure.2.1 157 = .ok (.iload 5, 2) := by decide +kernel
theorem d_D_measure_159 : decode M_D_measure.2.1 159 = .ok (.aload_n 0, 1) := by decide +kernel
theorem d_D_measure_160 : decode M_D_measure.2.1 160 = .ok (.getfield 16, 3) := by decide +kernel
theorem d_D_measure_163 : decode M_D_measure.2.1 163 = .ok (.iload 8, 2) := by decide +kernel
theorem d_D_measure_165 : decode M_D_measure.2.1 165 = .ok (.iaload, 1) := by decide +kernel
theorem d_D_measure_166 : decode M_D_measure.2.1 166 = .ok (.iadd, 1) := by decide +kernel
theorem d_D_measure_167 : decode M_D_measure.2.1 167 = .ok (.istore 5, 2) := by decide +kernel
theorem d_D_measure_169 : decode M_D_measure.2.1 169 = .ok (.iinc 5 1, 3) := by decide +kernel
theorem d_D_measure_172 : decode M_D_measure.2.1 172 = .ok (.goto (-159), 3) := by decide +kernel
theorem d_D_measure_175 : decode M_D_measure.2.1 175 = .ok (.return_, 1) := by decide +kernel
theorem d_D_equation_0 : decode M_D_equation.2.1 0 = .ok (.aload_n 0, 1) := by decide +kernel
theorem d_D_equation_1 : decode M_D_equation.2.1 1 = .ok (.getfield 151, 3) := by decide +kernel
theorem d_D_equation_4 : decode M_D_equation.2.1 4 = .ok (.ifCond .ne 7, 3) := by decide +kernel
theorem d_D_equation_7 : decode M_D_equation.2.1 7 = .ok (.iconst 0, 1) := by decide +kernel
theorem d_D_equation_8 : decode M_D_equation.2.1 8 = .ok (.goto 14, 3) := by decide +kernel
theorem d_D_equation_11 : decode M_D_equation.2.1 11 = .ok (.aload_n 0, 1) := by decide +kernel
theorem d_D_equation_12 : decode M_D_equation.2.1 12 = .ok (.getfield 85, 3) := by decide +kernel
theorem d_D_equation_15 : decode M_D_equation.2.1 15 = .ok (.aload_n 0, 1) := by decide +kernel
theorem d_D_equation_16 : decode M_D_equation.2.1 16 = .ok (.getfield 151, 3) := by decide +kernel
theorem d_D_equation_19 : decode M_D_equation.2.1 19 = .ok (.iconst 1, 1) := by decide +kernel
theorem d_D_equation_20 : decode M_D_equation.2.1 20 = .ok (.isub, 1) := by decide +kernel
theorem d_D_equation_21 : decode M_D_equation.2.1 21 = .ok (.iaload, 1) := by decide +kernel
theorem d_D_equation_22 : decode M_D_equation.2.1 22 = .ok (.istore 7, 2) := by decide +kernel
theorem d_D_equation_24 : decode M_D_equation.2.1 24 = .ok (.aload_n 0, 1) := by decide +kernel
theorem d_D_equation_25 : decode M_D_equation.2.1 25 = .ok (.getfield 79, 3) := by decide +kernel
theorem d_D_equation_28 : decode M_D_equation.2.1 28 = .ok (.aload_n 0, 1) := by decide +kernel
theorem d_D_equation_29 : decode M_D_equation.2.1 29 = .ok (.getfield 151, 3) := by decide +kernel
theorem d_D_equation_32 : decode M_D_equation.2.1 32 = .ok (.iload 7, 2) := by decide +kernel
theorem d_D_equation_34 : decode M_D_equation.2.1 34 = .ok (.iastore, 1) := by decide +kernel
theorem d_D_equation_35 : decode M_D_equation.2.1 35 = .ok (.iload_n 2, 1) := by decide +kernel
theorem d_D_equation_36 : decode M_D_equation.2.1 36 = .ok (.istore 8, 2) := by decide +kernel
theorem d_D_equation_38 : decode M_D_equation.2.1 38 = .ok (.iload 8, 2) := by decide +kernel
theorem d_D_equation_40 : decode M_D_equation.2.1 40 = .ok (.iload_n 3, 1) := by decide +kernel
theorem d_D_equation_41 : decode M_D_equation.2.1 41 = .ok (.if_icmp .ge 25, 3) := by decide +kernel
theorem d_D_equation_44 : decode M_D_equation.2.1 44 = .ok (.aload_n 0, 1) := by decide +kernel
theorem d_D_equation_45 : decode M_D_equation.2.1 45 = .ok (.getfield 76, 3) := by decide +kernel
theorem d_D_equation_48 : decode M_D_equation.2.1 48 = .ok (.iload 7, 2) := by decide +kernel
theorem d_D_equation_50 : decode M_D_equation.2.1 50 = .ok (.iload 8, 2) := by decide +kernel
theorem d_D_equation_52 : decode M_D_equation.2.1 52 = .ok (.iadd, 1) := by decide +kernel
theorem d_D_equation_53 : decode M_D_equation.2.1 53 = .ok (.iload_n 2, 1) := by decide +kernel
theorem d_D_equation_54 : decode M_D_equation.2.1 54 = .ok (.isub, 1) := by decide +kernel
theorem d_D_equation_55 : decode M_D_equation.2.1 55 = .ok (.aload_n 1, 1) := by decide +kernel
theorem d_D_equation_56 : decode M_D_equation.2.1 56 = .ok (.iload 8, 2) := by decide +kernel
theorem d_D_equation_58 : decode M_D_equation.2.1 58 = .ok (.iaload, 1) := by decide +kernel
theorem d_D_equation_59 : decode M_D_equation.2.1 59 = .ok (.iastore, 1) := by decide +kernel
theorem d_D_equation_60 : decode M_D_equation.2.1 60 = .ok (.iinc 8 1, 3) := by decide +kernel
theorem d_D_equation_63 : decode M_D_equation.2.1 63 = .ok (.goto (-25), 3) := by decide +kernel
theorem d_D_equation_66 : decode M_D_equation.2.1 66 = .ok (.iload 7, 2) := by decide +kernel
theorem d_D_equation_68 : decode M_D_equation.2.1 68 = .ok (.iload_n 3, 1) := by decide +kernel
theorem d_D_equation_69 : decode M_D_equation.2.1 69 = .ok (.iload_n 2, 1) := by decide +kernel
theorem d_D_equation_70 : decode M_D_equation.2.1 70 = .ok (.isub, 1) := by decide +kernel
theorem d_D_equation_71 : decode M_D_equation.2.1 71 = .ok (.iadd, 1) := by decide +kernel
theorem d_D_equation_72 : decode M_D_equation.2.1 72 = .ok (.istore 7, 2) := by decide +kernel
theorem d_D_equation_74 : decode M_D_equation.2.1 74 = .ok (.aload_n 0, 1) := by decide +kernel
theorem d_D_equation_75 : decode M_D_equation.2.1 75 = .ok (.getfield 82, 3) := by decide +kernel
theorem d_D_equation_78 : decode M_D_equation.2.1 78 = .ok (.aload_n 0, 1) := by decide +kernel
theorem d_D_equation_79 : decode M_D_equation.2.1 79 = .ok (.getfield 151, 3) := by decide +kernel
theorem d_D_equation_82 : decode M_D_equation.2.1 82 = .ok (.iload 7, 2) := by decide +kernel
theorem d_D_equation_84 : decode M_D_equation.2.1 84 = .ok (.iastore, 1) := by decide +kernel
theorem d_D_equation_85 : decode M_D_equation.2.1 85 = .ok (.iload 5, 2) := by decide +kernel
theorem d_D_equation_87 : decode M_D_equation.2.1 87 = .ok (.istore 8, 2) := by decide +kernel
theorem d_D_equation_89 : decode M_D_equation.2.1 89 = .ok (.iload 8, 2) := by decide +kernel
theorem d_D_equation_91 : decode M_D_equation.2.1 91 = .ok (.iload 6, 2) := by decide +kernel
theorem d_D_equation_93 : decode M_D_equation.2.1 93 = .ok (.if_icmp .ge 27, 3) := by decide +kernel
theorem d_D_equation_96 : decode M_D_equation.2.1 96 = .ok (.aload_n 0, 1) := by decide +kernel
theorem d_D_equation_97 : decode M_D_equation.2.1 97 = .ok (.getfield 76, 3) := by decide +kernel
theorem d_D_equation_100 : decode M_D_equation.2.1 100 = .ok (.iload 7, 2) := by decide +kernel
theorem d_D_equation_102 : decode M_D_equation.2.1 102 = .ok (.iload 8, 2) := by decide +kernel
theorem d_D_equation_104 : decode M_D_equation.2.1 104 = .ok (.iadd, 1) := by decide +kernel
theorem d_D_equation_105 : decode M_D_equation.2.1 105 = .ok (.iload 5, 2) := by decide +kernel
theorem d_D_equation_107 : decode M_D_equation.2.1 107 = .ok (.isub, 1) := by decide +kernel
theorem d_D_equation_108 : decode M_D_equation.2.1 108 = .ok (.aload 4, 2) := by decide +kernel
theorem d_D_equation_110 : decode M_D_equation.2.1 110 = .ok (.iload 8, 2) := by decide +kernel
theorem d_D_equation_112 : decode M_D_equation.2.1 112 = .ok (.iaload, 1) := by decide +kernel
theorem d_D_equation_113 : decode M_D_equation.2.1 113 = .ok (.iastore, 1) := by decide +kernel
theorem d_D_equation_114 : decode M_D_equation.2.1 114 = .ok (.iinc 8 1, 3) := by decide +kernel
theorem d_D_equation_117 : decode M_D_equation.2.1 117 = .ok (.goto (-28), 3) := by decide +kernel
theorem d_D_equation_120 : decode M_D_equation.2.1 120 = .ok (.aload_n 0, 1) := by decide +kernel
theorem d_D_equation_121 : decode M_D_equation.2.1 121 = .ok (.getfield 85, 3) := by decide +kernel
theorem d_D_equation_124 : decode M_D_equation.2.1 124 = .ok (.aload_n 0, 1) := by decide +kernel
theorem d_D_equation_125 : decode M_D_equation.2.1 125 = .ok (.getfield 151, 3) := by decide +kernel
theorem d_D_equation_128 : decode M_D_equation.2.1 128 = .ok (.iload 7, 2) := by decide +kernel
theorem d_D_equation_130 : decode M_D_equation.2.1 130 = .ok (.iload 6, 2) := by decide +kernel
theorem d_D_equation_132 : decode M_D_equation.2.1 132 = .ok (.iadd, 1) := by decide +kernel
theorem d_D_equation_133 : decode M_D_equation.2.1 133 = .ok (.iload 5, 2) := by decide +kernel
theorem d_D_equation_135 : decode M_D_equation.2.1 135 = .ok (.isub, 1) := by decide +kernel
theorem d_D_equation_136 : decode M_D_equation.2.1 136 = .ok (.iastore, 1) := by decide +kernel
theorem d_D_equation_137 : decode M_D_equation.2.1 137 = .ok (.aload_n 0, 1) := by decide +kernel
theorem d_D_equation_138 : decode M_D_equation.2.1 138 = .ok (.dup, 1) := by decide +kernel
theorem d_D_equation_139 : decode M_D_equation.2.1 139 = .ok (.getfield 151, 3) := by decide +kernel
theorem d_D_equation_142 : decode M_D_equation.2.1 142 = .ok (.iconst 1, 1) := by decide +kernel
theorem d_D_equation_143 : decode M_D_equation.2.1 143 = .ok (.iadd, 1) := by decide +kernel
theorem d_D_equation_144 : decode M_D_equation.2.1 144 = .ok (.putfield 151, 3) := by decide +kernel
theorem d_D_equation_147 : decode M_D_equation.2.1 147 = .ok (.return_, 1) := by decide +kernel
theorem d_D_step_0 : decode M_D_step.2.1 0 = .ok (.aload_n 0, 1) := by decide +kernel
theorem d_D_step_1 : decode M_D_step.2.1 1 = .ok (.dup, 1) := by decide +kernel
theorem d_D_step_2 : decode M_D_step.2.1 2 = .ok (.getfield 151, 3) := by decide +kernel
theorem d_D_step_5 : decode M_D_step.2.1 5 = .ok (.iconst 1, 1) := by decide +kernel
theorem d_D_step_6 : decode M_D_step.2.1 6 = .ok (.isub, 1) := by decide +kernel
theorem d_D_step_7 : decode M_D_step.2.1 7 = .ok (.putfield 151, 3) := by decide +kernel
theorem d_D_step_10 : decode M_D_step.2.1 10 = .ok (.aload_n 0, 1) := by decide +kernel
theorem d_D_step_11 : decode M_D_step.2.1 11 = .ok (.getfield 151, 3) := by decide +kernel
theorem d_D_step_14 : decode M_D_step.2.1 14 = .ok (.istore_n 1, 1) := by decide +kernel
theorem d_D_step_15 : decode M_D_step.2.1 15 = .ok (.aload_n 0, 1) := by decide +kernel
theorem d_D_step_16 : decode M_D_step.2.1 16 = .ok (.aload_n 0, 1) := by decide +kernel
theorem d_D_step_17 : decode M_D_step.2.1 17 = .ok (.getfield 82, 3) := by decide +kernel
theorem d_D_step_20 : decode M_D_step.2.1 20 = .ok (.iload_n 1, 1) := by decide +kernel
theorem d_D_step_21 : decode M_D_step.2.1 21 = .ok (.iaload, 1) := by decide +kernel
theorem d_D_step_22 : decode M_D_step.2.1 22 = .ok (.aload_n 0, 1) := by decide +kernel
theorem d_D_step_23 : decode M_D_step.2.1 23 = .ok (.getfield 79, 3) := by decide +kernel
theorem d_D_step_26 : decode M_D_step.2.1 26 = .ok (.iload_n 1, 1) := by decide +kernel
theorem d_D_step_27 : decode M_D_step.2.1 27 = .ok (.iaload, 1) := by decide +kernel
theorem d_D_step_28 : decode M_D_step.2.1 28 = .ok (.isub, 1) := by decide +kernel
theorem d_D_step_29 : decode M_D_step.2.1 29 = .ok (.putfield 154, 3) := by decide +kernel
theorem d_D_step_32 : decode M_D_step.2.1 32 = .ok (.aload_n 0, 1) := by decide +kernel
theorem d_D_step_33 : decode M_D_step.2.1 33 = .ok (.aload_n 0, 1) := by decide +kernel
theorem d_D_step_34 : decode M_D_step.2.1 34 = .ok (.getfield 85, 3) := by decide +kernel
theorem d_D_step_37 : decode M_D_step.2.1 37 = .ok (.iload_n 1, 1) := by decide +kernel
theorem d_D_step_38 : decode M_D_step.2.1 38 = .ok (.iaload, 1) := by decide +kernel
theorem d_D_step_39 : decode M_D_step.2.1 39 = .ok (.aload_n 0, 1) := by decide +kernel
theorem d_D_step_40 : decode M_D_step.2.1 40 = .ok (.getfield 82, 3) := by decide +kernel
theorem d_D_step_43 : decode M_D_step.2.1 43 = .ok (.iload_n 1, 1) := by decide +kernel
theorem d_D_step_44 : decode M_D_step.2.1 44 = .ok (.iaload, 1) := by decide +kernel
theorem d_D_step_45 : decode M_D_step.2.1 45 = .ok (.isub, 1) := by decide +kernel
theorem d_D_step_46 : decode M_D_step.2.1 46 = .ok (.putfield 157, 3) := by decide +kernel
theorem d_D_step_49 : decode M_D_step.2.1 49 = .ok (.iconst 0, 1) := by decide +kernel
theorem d_D_step_50 : decode M_D_step.2.1 50 = .ok (.istore_n 2, 1) := by decide +kernel
theorem d_D_step_51 : decode M_D_step.2.1 51 = .ok (.iload_n 2, 1) := by decide +kernel
theorem d_D_step_52 : decode M_D_step.2.1 52 = .ok (.aload_n 0, 1) := by decide +kernel
theorem d_D_step_53 : decode M_D_step.2.1 53 = .ok (.getfield 154, 3) := by decide +kernel
theorem d_D_step_56 : decode M_D_step.2.1 56 = .ok (.if_icmp .ge 28, 3) := by decide +kernel
theorem d_D_step_59 : decode M_D_step.2.1 59 = .ok (.aload_n 0, 1) := by decide +kernel
theorem d_D_step_60 : decode M_D_step.2.1 60 = .ok (.getfield 57, 3) := by decide +kernel
theorem d_D_step_63 : decode M_D_step.2.1 63 = .ok (.iload_n 2, 1) := by decide +kernel
theorem d_D_step_64 : decode M_D_step.2.1 64 = .ok (.aload_n 0, 1) := by decide +kernel
theorem d_D_step_65 : decode M_D_step.2.1 65 = .ok (.getfield 76, 3) := by decide +kernel
theorem d_D_step_68 : decode M_D_step.2.1 68 = .ok (.aload_n 0, 1) := by decide +kernel
theorem d_D_step_69 : decode M_D_step.2.1 69 = .ok (.getfield 79, 3) := by decide +kernel
theorem d_D_step_72 : decode M_D_step.2.1 72 = .ok (.iload_n 1, 1) := by decide +kernel
theorem d_D_step_73 : decode M_D_step.2.1 73 = .ok (.iaload, 1) := by decide +kernel
theorem d_D_step_74 : decode M_D_step.2.1 74 = .ok (.iload_n 2, 1) := by decide +kernel
theorem d_D_step_75 : decode M_D_step.2.1 75 = .ok (.iadd, 1) := by decide +kernel
theorem d_D_step_76 : decode M_D_step.2.1 76 = .ok (.iaload, 1) := by decide +kernel
theorem d_D_step_77 : decode M_D_step.2.1 77 = .ok (.iastore, 1) := by decide +kernel
theorem d_D_step_78 : decode M_D_step.2.1 78 = .ok (.iinc 2 1, 3) := by decide +kernel
theorem d_D_step_81 : decode M_D_step.2.1 81 = .ok (.goto (-30), 3) := by decide +kernel
theorem d_D_step_84 : decode M_D_step.2.1 84 = .ok (.iconst 0, 1) := by decide +kernel
theorem d_D_step_85 : decode M_D_step.2.1 85 = .ok (.istore_n 2, 1) := by decide +kernel
theorem d_D_step_86 : decode M_D_step.2.1 86 = .ok (.iload_n 2, 1) := by decide +kernel
theorem d_D_step_87 : decode M_D_step.2.1 87 = .ok (.aload_n 0, 1) := by decide +kernel
theorem d_D_step_88 : decode M_D_step.2.1 88 = .ok (.getfield 157, 3) := by decide +kernel
theorem d_D_step_91 : decode M_D_step.2.1 91 = .ok (.if_icmp .ge 28, 3) := by decide +kernel
theorem d_D_step_94 : decode M_D_step.2.1 94 = .ok (.aload_n 0, 1) := by decide +kernel
theorem d_D_step_95 : decode M_D_step.2.1 95 = .ok (.getfield 60, 3) := by decide +kernel
theorem d_D_step_98 : decode M_D_step.2.1 98 = .ok (.iload_n 2, 1) := by decide +kernel
theorem d_D_step_99 : decode M_D_step.2.1 99 = .ok (.aload_n 0, 1) := by decide +kernel
theorem d_D_step_100 : decode M_D_step.2.1 100 = .ok (.getfield 76, 3) := by decide +kernel
theorem d_D_step_103 : decode M_D_step.2.1 103 = .ok (.aload_n 0, 1) := by decide +kernel
theorem d_D_step_104 : decode M_D_step.2.1 104 = .ok (.getfield 82, 3) := by decide +kernel
theorem d_D_step_107 : decode M_D_step.2.1 107 = .ok (.iload_n 1, 1) := by decide +kernel
theorem d_D_step_108 : decode M_D_step.2.1 108 = .ok (.iaload, 1) := by decide +kernel
theorem d_D_step_109 : decode M_D_step.2.1 109 = .ok (.iload_n 2, 1) := by decide +kernel
theorem d_D_step_110 : decode M_D_step.2.1 110 = .ok (.iadd, 1) := by decide +kernel
theorem d_D_step_111 : decode M_D_step.2.1 111 = .ok (.iaload, 1) := by decide +kernel
theorem d_D_step_112 : decode M_D_step.2.1 112 = .ok (.iastore, 1) := by decide +kernel
theorem d_D_step_113 : decode M_D_step.2.1 113 = .ok (.iinc 2 1, 3) := by decide +kernel
theorem d_D_step_116 : decode M_D_step.2.1 116 = .ok (.goto (-30), 3) := by decide +kernel
theorem d_D_step_119 : decode M_D_step.2.1 119 = .ok (.aload_n 0, 1) := by decide +kernel
theorem d_D_step_120 : decode M_D_step.2.1 120 = .ok (.aload_n 0, 1) := by decide +kernel
theorem d_D_step_121 : decode M_D_step.2.1 121 = .ok (.aload_n 0, 1) := by decide +kernel
theorem d_D_step_122 : decode M_D_step.2.1 122 = .ok (.getfield 57, 3) := by decide +kernel
theorem d_D_step_125 : decode M_D_step.2.1 125 = .ok (.aload_n 0, 1) := by decide +kernel
theorem d_D_step_126 : decode M_D_step.2.1 126 = .ok (.getfield 154, 3) := by decide +kernel
theorem d_D_step_129 : decode M_D_step.2.1 129 = .ok (.invokevirtual 141, 3) := by decide +kernel
theorem d_D_step_132 : decode M_D_step.2.1 132 = .ok (.putfield 154, 3) := by decide +kernel
theorem d_D_step_135 : decode M_D_step.2.1 135 = .ok (.aload_n 0, 1) := by decide +kernel
theorem d_D_step_136 : decode M_D_step.2.1 136 = .ok (.aload_n 0, 1) := by decide +kernel
theorem d_D_step_137 : decode M_D_step.2.1 137 = .ok (.aload_n 0, 1) := by decide +kernel
theorem d_D_step_138 : decode M_D_step.2.1 138 = .ok (.getfield 60, 3) := by decide +kernel
theorem d_D_step_141 : decode M_D_step.2.1 141 = .ok (.aload_n 0, 1) := by decide +kernel
theorem d_D_step_142 : decode M_D_step.2.1 142 = .ok (.getfield 157, 3) := by decide +kernel
theorem d_D_step_145 : decode M_D_step.2.1 145 = .ok (.invokevirtual 141, 3) := by decide +kernel
theorem d_D_step_148 : decode M_D_step.2.1 148 = .ok (.putfield 157, 3) := by decide +kernel
theorem d_D_step_151 : decode M_D_step.2.1 151 = .ok (.aload_n 0, 1) := by decide +kernel
theorem d_D_step_152 : decode M_D_step.2.1 152 = .ok (.getfield 57, 3) := by decide +kernel
theorem d_D_step_155 : decode M_D_step.2.1 155 = .ok (.iconst 0, 1) := by decide +kernel
theorem d_D_step_156 : decode M_D_step.2.1 156 = .ok (.iaload, 1) := by decide +kernel
theorem d_D_step_157 : decode M_D_step.2.1 157 = .ok (.invokestatic 129, 3) := by decide +kernel
theorem d_D_step_160 : decode M_D_step.2.1 160 = .ok (.iconst 2, 1) := by decide +kernel
theorem d_D_step_161 : decode M_D_step.2.1 161 = .ok (.if_icmp .ne 7, 3) := by decide +kernel
theorem d_D_step_164 : decode M_D_step.2.1 164 = .ok (.iconst 1, 1) := by decide +kernel
theorem d_D_step_165 : decode M_D_step.2.1 165 = .ok (.goto 4, 3) := by decide +kernel
theorem d_D_step_168 : decode M_D_step.2.1 168 = .ok (.iconst 0, 1) := by decide +kernel
theorem d_D_step_169 : decode M_D_step.2.1 169 = .ok (.istore_n 2, 1) := by decide +kernel
theorem d_D_step_170 : decode M_D_step.2.1 170 = .ok (.aload_n 0, 1) := by decide +kernel
theorem d_D_step_171 : decode M_D_step.2.1 171 = .ok (.getfield 60, 3) := by decide +kernel
theorem d_D_step_174 : decode M_D_step.2.1 174 = .ok (.iconst 0, 1) := by decide +kernel
theorem d_D_step_175 : decode M_D_step.2.1 175 = .ok (.iaload, 1) := by decide +kernel
theorem d_D_step_176 : decode M_D_step.2.1 176 = .ok (.invokestatic 129, 3) := by decide +kernel
theorem d_D_step_179 : decode M_D_step.2.1 179 = .ok (.iconst 2, 1) := by decide +kernel
theorem d_D_step_180 : decode M_D_step.2.1 180 = .ok (.if_icmp .ne 7, 3) := by decide +kernel
theorem d_D_step_183 : decode M_D_step.2.1 183 = .ok (.iconst 1, 1) := by decide +kernel
theorem d_D_step_184 : decode M_D_step.2.1 184 = .ok (.goto 4, 3) := by decide +kernel
theorem d_D_step_187 : decode M_D_step.2.1 187 = .ok (.iconst 0, 1) := by decide +kernel
theorem d_D_step_188 : decode M_D_step.2.1 188 = .ok (.istore_n 3, 1) := by decide +kernel
theorem d_D_step_189 : decode M_D_step.2.1 189 = .ok (.iload_n 2, 1) := by decide +kernel
theorem d_D_step_190 : decode M_D_step.2.1 190 = .ok (.ifCond .eq 34, 3) := by decide +kernel
theorem d_D_step_193 : decode M_D_step.2.1 193 = .ok (.iload_n 3, 1) := by decide +kernel
theorem d_D_step_194 : decode M_D_step.2.1 194 = .ok (.ifCond .eq 30, 3) := by decide +kernel
theorem d_D_step_197 : decode M_D_step.2.1 197 = .ok (.aload_n 0, 1) := by decide +kernel
theorem d_D_step_198 : decode M_D_step.2.1 198 = .ok (.getfield 57, 3) := by decide +kernel
theorem d_D_step_201 : decode M_D_step.2.1 201 = .ok (.iconst 0, 1) := by decide +kernel
theorem d_D_step_202 : decode M_D_step.2.1 202 = .ok (.iaload, 1) := by decide +kernel
theorem d_D_step_203 : decode M_D_step.2.1 203 = .ok (.aload_n 0, 1) := by decide +kernel
theorem d_D_step_204 : decode M_D_step.2.1 204 = .ok (.getfield 60, 3) := by decide +kernel
theorem d_D_step_207 : decode M_D_step.2.1 207 = .ok (.iconst 0, 1) := by decide +kernel
theorem d_D_step_208 : decode M_D_step.2.1 208 = .ok (.iaload, 1) := by decide +kernel
theorem d_D_step_209 : decode M_D_step.2.1 209 = .ok (.if_icmp .ne 10, 3) := by decide +kernel
theorem d_D_step_212 : decode M_D_step.2.1 212 = .ok (.aload_n 0, 1) := by decide +kernel
theorem d_D_step_213 : decode M_D_step.2.1 213 = .ok (.invokevirtual 160, 3) := by decide +kernel
theorem d_D_step_216 : decode M_D_step.2.1 216 = .ok (.goto 7, 3) := by decide +kernel
theorem d_D_step_219 : decode M_D_step.2.1 219 = .ok (.aload_n 0, 1) := by decide +kernel
theorem d_D_step_220 : decode M_D_step.2.1 220 = .ok (.invokevirtual 164, 3) := by decide +kernel
theorem d_D_step_223 : decode M_D_step.2.1 223 = .ok (.ireturn, 1) := by decide +kernel
end
section
theorem d_D_step_224 : decode M_D_step.2.1 224 = .ok (.iload_n 2, 1) := by decide +kernel
theorem d_D_step_225 : decode M_D_step.2.1 225 = .ok (.ifCond .eq 20, 3) := by decide +kernel
theorem d_D_step_228 : decode M_D_step.2.1 228 = .ok (.aload_n 0, 1) := by decide +kernel
theorem d_D_step_229 : decode M_D_step.2.1 229 = .ok (.aload_n 0, 1) := by decide +kernel
theorem d_D_step_230 : decode M_D_step.2.1 230 = .ok (.getfield 57, 3) := by decide +kernel
theorem d_D_step_233 : decode M_D_step.2.1 233 = .ok (.aload_n 0, 1) := by decide +kernel
theorem d_D_step_234 : decode M_D_step.2.1 234 = .ok (.getfield 60, 3) := by decide +kernel
theorem d_D_step_237 : decode M_D_step.2.1 237 = .ok (.aload_n 0, 1) := by decide +kernel
theorem d_D_step_238 : decode M_D_step.2.1 238 = .ok (.getfield 157, 3) := by decide +kernel
theorem d_D_step_241 : decode M_D_step.2.1 241 = .ok (.invokevirtual 167, 3) := by decide +kernel
theorem d_D_step_244 : decode M_D_step.2.1 244 = .ok (.ireturn, 1) := by decide +kernel
theorem d_D_step_245 : decode M_D_step.2.1 245 = .ok (.iload_n 3, 1) := by decide +kernel
theorem d_D_step_246 : decode M_D_step.2.1 246 = .ok (.ifCond .eq 20, 3) := by decide +kernel
theorem d_D_step_249 : decode M_D_step.2.1 249 = .ok (.aload_n 0, 1) := by decide +kernel
theorem d_D_step_250 : decode M_D_step.2.1 250 = .ok (.aload_n 0, 1) := by decide +kernel
theorem d_D_step_251 : decode M_D_step.2.1 251 = .ok (.getfield 60, 3) := by decide +kernel
theorem d_D_step_254 : decode M_D_step.2.1 254 = .ok (.aload_n 0, 1) := by decide +kernel
theorem d_D_step_255 : decode M_D_step.2.1 255 = .ok (.getfield 57, 3) := by decide +kernel
theorem d_D_step_258 : decode M_D_step.2.1 258 = .ok (.aload_n 0, 1) := by decide +kernel
theorem d_D_step_259 : decode M_D_step.2.1 259 = .ok (.getfield 154, 3) := by decide +kernel
theorem d_D_step_262 : decode M_D_step.2.1 262 = .ok (.invokevirtual 167, 3) := by decide +kernel
theorem d_D_step_265 : decode M_D_step.2.1 265 = .ok (.ireturn, 1) := by decide +kernel
theorem d_D_step_266 : decode M_D_step.2.1 266 = .ok (.aload_n 0, 1) := by decide +kernel
theorem d_D_step_267 : decode M_D_step.2.1 267 = .ok (.getfield 57, 3) := by decide +kernel
theorem d_D_step_270 : decode M_D_step.2.1 270 = .ok (.iconst 0, 1) := by decide +kernel
theorem d_D_step_271 : decode M_D_step.2.1 271 = .ok (.iaload, 1) := by decide +kernel
theorem d_D_step_272 : decode M_D_step.2.1 272 = .ok (.aload_n 0, 1) := by decide +kernel
theorem d_D_step_273 : decode M_D_step.2.1 273 = .ok (.getfield 60, 3) := by decide +kernel
theorem d_D_step_276 : decode M_D_step.2.1 276 = .ok (.iconst 0, 1) := by decide +kernel
theorem d_D_step_277 : decode M_D_step.2.1 277 = .ok (.iaload, 1) := by decide +kernel
theorem d_D_step_278 : decode M_D_step.2.1 278 = .ok (.if_icmp .eq 5, 3) := by decide +kernel
theorem d_D_step_281 : decode M_D_step.2.1 281 = .ok (.iconst 1, 1) := by decide +kernel
theorem d_D_step_282 : decode M_D_step.2.1 282 = .ok (.ireturn, 1) := by decide +kernel
theorem d_D_step_283 : decode M_D_step.2.1 283 = .ok (.aload_n 0, 1) := by decide +kernel
theorem d_D_step_284 : decode M_D_step.2.1 284 = .ok (.getfield 57, 3) := by decide +kernel
theorem d_D_step_287 : decode M_D_step.2.1 287 = .ok (.iconst 0, 1) := by decide +kernel
theorem d_D_step_288 : decode M_D_step.2.1 288 = .ok (.iaload, 1) := by decide +kernel
theorem d_D_step_289 : decode M_D_step.2.1 289 = .ok (.invokestatic 129, 3) := by decide +kernel
theorem d_D_step_292 : decode M_D_step.2.1 292 = .ok (.iconst 1, 1) := by decide +kernel
theorem d_D_step_293 : decode M_D_step.2.1 293 = .ok (.if_icmp .ne 18, 3) := by decide +kernel
theorem d_D_step_296 : decode M_D_step.2.1 296 = .ok (.aload_n 0, 1) := by decide +kernel
theorem d_D_step_297 : decode M_D_step.2.1 297 = .ok (.aload_n 0, 1) := by decide +kernel
theorem d_D_step_298 : decode M_D_step.2.1 298 = .ok (.getfield 57, 3) := by decide +kernel
theorem d_D_step_301 : decode M_D_step.2.1 301 = .ok (.iconst 0, 1) := by decide +kernel
theorem d_D_step_302 : decode M_D_step.2.1 302 = .ok (.iaload, 1) := by decide +kernel
theorem d_D_step_303 : decode M_D_step.2.1 303 = .ok (.iconst 2, 1) := by decide +kernel
theorem d_D_step_304 : decode M_D_step.2.1 304 = .ok (.ishr, 1) := by decide +kernel
theorem d_D_step_305 : decode M_D_step.2.1 305 = .ok (.invokevirtual 171, 3) := by decide +kernel
theorem d_D_step_308 : decode M_D_step.2.1 308 = .ok (.goto 4, 3) := by decide +kernel
theorem d_D_step_311 : decode M_D_step.2.1 311 = .ok (.iconst 0, 1) := by decide +kernel
theorem d_D_step_312 : decode M_D_step.2.1 312 = .ok (.ireturn, 1) := by decide +kernel
theorem d_D_same_0 : decode M_D_same.2.1 0 = .ok (.aload_n 0, 1) := by decide +kernel
theorem d_D_same_1 : decode M_D_same.2.1 1 = .ok (.getfield 57, 3) := by decide +kernel
theorem d_D_same_4 : decode M_D_same.2.1 4 = .ok (.iconst 0, 1) := by decide +kernel
theorem d_D_same_5 : decode M_D_same.2.1 5 = .ok (.iaload, 1) := by decide +kernel
theorem d_D_same_6 : decode M_D_same.2.1 6 = .ok (.iconst 2, 1) := by decide +kernel
theorem d_D_same_7 : decode M_D_same.2.1 7 = .ok (.ishr, 1) := by decide +kernel
theorem d_D_same_8 : decode M_D_same.2.1 8 = .ok (.istore_n 1, 1) := by decide +kernel
theorem d_D_same_9 : decode M_D_same.2.1 9 = .ok (.iconst 0, 1) := by decide +kernel
theorem d_D_same_10 : decode M_D_same.2.1 10 = .ok (.istore_n 2, 1) := by decide +kernel
theorem d_D_same_11 : decode M_D_same.2.1 11 = .ok (.iconst 0, 1) := by decide +kernel
theorem d_D_same_12 : decode M_D_same.2.1 12 = .ok (.istore_n 3, 1) := by decide +kernel
theorem d_D_same_13 : decode M_D_same.2.1 13 = .ok (.iload_n 3, 1) := by decide +kernel
theorem d_D_same_14 : decode M_D_same.2.1 14 = .ok (.aload_n 0, 1) := by decide +kernel
theorem d_D_same_15 : decode M_D_same.2.1 15 = .ok (.getfield 16, 3) := by decide +kernel
theorem d_D_same_18 : decode M_D_same.2.1 18 = .ok (.iload_n 1, 1) := by decide +kernel
theorem d_D_same_19 : decode M_D_same.2.1 19 = .ok (.iaload, 1) := by decide +kernel
theorem d_D_same_20 : decode M_D_same.2.1 20 = .ok (.if_icmp .ge 41, 3) := by decide +kernel
theorem d_D_same_23 : decode M_D_same.2.1 23 = .ok (.aload_n 0, 1) := by decide +kernel
theorem d_D_same_24 : decode M_D_same.2.1 24 = .ok (.getfield 57, 3) := by decide +kernel
theorem d_D_same_27 : decode M_D_same.2.1 27 = .ok (.iconst 1, 1) := by decide +kernel
theorem d_D_same_28 : decode M_D_same.2.1 28 = .ok (.iload_n 3, 1) := by decide +kernel
theorem d_D_same_29 : decode M_D_same.2.1 29 = .ok (.iadd, 1) := by decide +kernel
theorem d_D_same_30 : decode M_D_same.2.1 30 = .ok (.iaload, 1) := by decide +kernel
theorem d_D_same_31 : decode M_D_same.2.1 31 = .ok (.aload_n 0, 1) := by decide +kernel
theorem d_D_same_32 : decode M_D_same.2.1 32 = .ok (.getfield 60, 3) := by decide +kernel
theorem d_D_same_35 : decode M_D_same.2.1 35 = .ok (.iconst 1, 1) := by decide +kernel
theorem d_D_same_36 : decode M_D_same.2.1 36 = .ok (.iload_n 3, 1) := by decide +kernel
theorem d_D_same_37 : decode M_D_same.2.1 37 = .ok (.iadd, 1) := by decide +kernel
theorem d_D_same_38 : decode M_D_same.2.1 38 = .ok (.iaload, 1) := by decide +kernel
theorem d_D_same_39 : decode M_D_same.2.1 39 = .ok (.if_icmp .eq 6, 3) := by decide +kernel
theorem d_D_same_42 : decode M_D_same.2.1 42 = .ok (.goto 13, 3) := by decide +kernel
theorem d_D_same_45 : decode M_D_same.2.1 45 = .ok (.aload_n 0, 1) := by decide +kernel
theorem d_D_same_46 : decode M_D_same.2.1 46 = .ok (.getfield 88, 3) := by decide +kernel
theorem d_D_same_49 : decode M_D_same.2.1 49 = .ok (.iload_n 2, 1) := by decide +kernel
theorem d_D_same_50 : decode M_D_same.2.1 50 = .ok (.iload_n 3, 1) := by decide +kernel
theorem d_D_same_51 : decode M_D_same.2.1 51 = .ok (.iastore, 1) := by decide +kernel
theorem d_D_same_52 : decode M_D_same.2.1 52 = .ok (.iinc 2 1, 3) := by decide +kernel
theorem d_D_same_55 : decode M_D_same.2.1 55 = .ok (.iinc 3 1, 3) := by decide +kernel
theorem d_D_same_58 : decode M_D_same.2.1 58 = .ok (.goto (-45), 3) := by decide +kernel
theorem d_D_same_61 : decode M_D_same.2.1 61 = .ok (.iload_n 2, 1) := by decide +kernel
theorem d_D_same_62 : decode M_D_same.2.1 62 = .ok (.aload_n 0, 1) := by decide +kernel
theorem d_D_same_63 : decode M_D_same.2.1 63 = .ok (.getfield 16, 3) := by decide +kernel
theorem d_D_same_66 : decode M_D_same.2.1 66 = .ok (.iload_n 1, 1) := by decide +kernel
theorem d_D_same_67 : decode M_D_same.2.1 67 = .ok (.iaload, 1) := by decide +kernel
theorem d_D_same_68 : decode M_D_same.2.1 68 = .ok (.if_icmp .ne 5, 3) := by decide +kernel
theorem d_D_same_71 : decode M_D_same.2.1 71 = .ok (.iconst 0, 1) := by decide +kernel
theorem d_D_same_72 : decode M_D_same.2.1 72 = .ok (.ireturn, 1) := by decide +kernel
theorem d_D_same_73 : decode M_D_same.2.1 73 = .ok (.aload_n 0, 1) := by decide +kernel
theorem d_D_same_74 : decode M_D_same.2.1 74 = .ok (.invokevirtual 181, 3) := by decide +kernel
theorem d_D_same_77 : decode M_D_same.2.1 77 = .ok (.ifCond .eq 5, 3) := by decide +kernel
theorem d_D_same_80 : decode M_D_same.2.1 80 = .ok (.iconst 5, 1) := by decide +kernel
theorem d_D_same_81 : decode M_D_same.2.1 81 = .ok (.ireturn, 1) := by decide +kernel
theorem d_D_same_82 : decode M_D_same.2.1 82 = .ok (.aload_n 0, 1) := by decide +kernel
theorem d_D_same_83 : decode M_D_same.2.1 83 = .ok (.iload_n 1, 1) := by decide +kernel
theorem d_D_same_84 : decode M_D_same.2.1 84 = .ok (.aload_n 0, 1) := by decide +kernel
theorem d_D_same_85 : decode M_D_same.2.1 85 = .ok (.iload_n 2, 1) := by decide +kernel
theorem d_D_same_86 : decode M_D_same.2.1 86 = .ok (.invokevirtual 185, 3) := by decide +kernel
theorem d_D_same_89 : decode M_D_same.2.1 89 = .ok (.aload_n 0, 1) := by decide +kernel
theorem d_D_same_90 : decode M_D_same.2.1 90 = .ok (.getfield 88, 3) := by decide +kernel
theorem d_D_same_93 : decode M_D_same.2.1 93 = .ok (.iload_n 2, 1) := by decide +kernel
theorem d_D_same_94 : decode M_D_same.2.1 94 = .ok (.invokevirtual 188, 3) := by decide +kernel
theorem d_D_same_97 : decode M_D_same.2.1 97 = .ok (.iconst 0, 1) := by decide +kernel
theorem d_D_same_98 : decode M_D_same.2.1 98 = .ok (.ireturn, 1) := by decide +kernel
theorem d_D_isFull_0 : decode M_D_isFull.2.1 0 = .ok (.aload_n 0, 1) := by decide +kernel
theorem d_D_isFull_1 : decode M_D_isFull.2.1 1 = .ok (.getfield 111, 3) := by decide +kernel
theorem d_D_isFull_4 : decode M_D_isFull.2.1 4 = .ok (.aload_n 0, 1) := by decide +kernel
theorem d_D_isFull_5 : decode M_D_isFull.2.1 5 = .ok (.getfield 144, 3) := by decide +kernel
theorem d_D_isFull_8 : decode M_D_isFull.2.1 8 = .ok (.iadd, 1) := by decide +kernel
theorem d_D_isFull_9 : decode M_D_isFull.2.1 9 = .ok (.sipush 300, 3) := by decide +kernel
theorem d_D_isFull_12 : decode M_D_isFull.2.1 12 = .ok (.if_icmp .ne 7, 3) := by decide +kernel
theorem d_D_isFull_15 : decode M_D_isFull.2.1 15 = .ok (.iconst 1, 1) := by decide +kernel
theorem d_D_isFull_16 : decode M_D_isFull.2.1 16 = .ok (.goto 4, 3) := by decide +kernel
theorem d_D_isFull_19 : decode M_D_isFull.2.1 19 = .ok (.iconst 0, 1) := by decide +kernel
theorem d_D_isFull_20 : decode M_D_isFull.2.1 20 = .ok (.ireturn, 1) := by decide +kernel
theorem d_D_make_0 : decode M_D_make.2.1 0 = .ok (.bipush 24, 2) := by decide +kernel
theorem d_D_make_2 : decode M_D_make.2.1 2 = .ok (.aload_n 0, 1) := by decide +kernel
theorem d_D_make_3 : decode M_D_make.2.1 3 = .ok (.getfield 144, 3) := by decide +kernel
theorem d_D_make_6 : decode M_D_make.2.1 6 = .ok (.iadd, 1) := by decide +kernel
theorem d_D_make_7 : decode M_D_make.2.1 7 = .ok (.istore_n 2, 1) := by decide +kernel
theorem d_D_make_8 : decode M_D_make.2.1 8 = .ok (.aload_n 0, 1) := by decide +kernel
theorem d_D_make_9 : decode M_D_make.2.1 9 = .ok (.dup, 1) := by decide +kernel
theorem d_D_make_10 : decode M_D_make.2.1 10 = .ok (.getfield 144, 3) := by decide +kernel
theorem d_D_make_13 : decode M_D_make.2.1 13 = .ok (.iconst 1, 1) := by decide +kernel
theorem d_D_make_14 : decode M_D_make.2.1 14 = .ok (.iadd, 1) := by decide +kernel
theorem d_D_make_15 : decode M_D_make.2.1 15 = .ok (.putfield 144, 3) := by decide +kernel
theorem d_D_make_18 : decode M_D_make.2.1 18 = .ok (.aload_n 0, 1) := by decide +kernel
theorem d_D_make_19 : decode M_D_make.2.1 19 = .ok (.getfield 16, 3) := by decide +kernel
theorem d_D_make_22 : decode M_D_make.2.1 22 = .ok (.iload_n 2, 1) := by decide +kernel
theorem d_D_make_23 : decode M_D_make.2.1 23 = .ok (.iload_n 1, 1) := by decide +kernel
theorem d_D_make_24 : decode M_D_make.2.1 24 = .ok (.iastore, 1) := by decide +kernel
theorem d_D_make_25 : decode M_D_make.2.1 25 = .ok (.aload_n 0, 1) := by decide +kernel
theorem d_D_make_26 : decode M_D_make.2.1 26 = .ok (.getfield 26, 3) := by decide +kernel
theorem d_D_make_29 : decode M_D_make.2.1 29 = .ok (.iload_n 2, 1) := by decide +kernel
theorem d_D_make_30 : decode M_D_make.2.1 30 = .ok (.iconst 0, 1) := by decide +kernel
theorem d_D_make_31 : decode M_D_make.2.1 31 = .ok (.bastore, 1) := by decide +kernel
theorem d_D_make_32 : decode M_D_make.2.1 32 = .ok (.iload_n 2, 1) := by decide +kernel
theorem d_D_make_33 : decode M_D_make.2.1 33 = .ok (.ireturn, 1) := by decide +kernel
theorem d_D_pass_0 : decode M_D_pass.2.1 0 = .ok (.aload_n 0, 1) := by decide +kernel
theorem d_D_pass_1 : decode M_D_pass.2.1 1 = .ok (.getfield 26, 3) := by decide +kernel
theorem d_D_pass_4 : decode M_D_pass.2.1 4 = .ok (.iload_n 1, 1) := by decide +kernel
theorem d_D_pass_5 : decode M_D_pass.2.1 5 = .ok (.iconst 1, 1) := by decide +kernel
theorem d_D_pass_6 : decode M_D_pass.2.1 6 = .ok (.bastore, 1) := by decide +kernel
theorem d_D_pass_7 : decode M_D_pass.2.1 7 = .ok (.aload_n 0, 1) := by decide +kernel
theorem d_D_pass_8 : decode M_D_pass.2.1 8 = .ok (.getfield 23, 3) := by decide +kernel
theorem d_D_pass_11 : decode M_D_pass.2.1 11 = .ok (.sipush 400, 3) := by decide +kernel
theorem d_D_pass_14 : decode M_D_pass.2.1 14 = .ok (.iload_n 1, 1) := by decide +kernel
theorem d_D_pass_15 : decode M_D_pass.2.1 15 = .ok (.imul, 1) := by decide +kernel
theorem d_D_pass_16 : decode M_D_pass.2.1 16 = .ok (.iconst 4, 1) := by decide +kernel
theorem d_D_pass_17 : decode M_D_pass.2.1 17 = .ok (.iload_n 2, 1) := by decide +kernel
theorem d_D_pass_18 : decode M_D_pass.2.1 18 = .ok (.imul, 1) := by decide +kernel
theorem d_D_pass_19 : decode M_D_pass.2.1 19 = .ok (.iconst 2, 1) := by decide +kernel
theorem d_D_pass_20 : decode M_D_pass.2.1 20 = .ok (.iadd, 1) := by decide +kernel
theorem d_D_pass_21 : decode M_D_pass.2.1 21 = .ok (.iastore, 1) := by decide +kernel
theorem d_D_pass_22 : decode M_D_pass.2.1 22 = .ok (.iconst 0, 1) := by decide +kernel
theorem d_D_pass_23 : decode M_D_pass.2.1 23 = .ok (.istore 5, 2) := by decide +kernel
theorem d_D_pass_25 : decode M_D_pass.2.1 25 = .ok (.iload 5, 2) := by decide +kernel
theorem d_D_pass_27 : decode M_D_pass.2.1 27 = .ok (.iload 4, 2) := by decide +kernel
theorem d_D_pass_29 : decode M_D_pass.2.1 29 = .ok (.if_icmp .ge 30, 3) := by decide +kernel
theorem d_D_pass_32 : decode M_D_pass.2.1 32 = .ok (.aload_n 0, 1) := by decide +kernel
theorem d_D_pass_33 : decode M_D_pass.2.1 33 = .ok (.getfield 23, 3) := by decide +kernel
theorem d_D_pass_36 : decode M_D_pass.2.1 36 = .ok (.sipush 400, 3) := by decide +kernel
theorem d_D_pass_39 : decode M_D_pass.2.1 39 = .ok (.iload_n 1, 1) := by decide +kernel
theorem d_D_pass_40 : decode M_D_pass.2.1 40 = .ok (.imul, 1) := by decide +kernel
theorem d_D_pass_41 : decode M_D_pass.2.1 41 = .ok (.iconst 1, 1) := by decide +kernel
theorem d_D_pass_42 : decode M_D_pass.2.1 42 = .ok (.iadd, 1) := by decide +kernel
theorem d_D_pass_43 : decode M_D_pass.2.1 43 = .ok (.iload 5, 2) := by decide +kernel
theorem d_D_pass_45 : decode M_D_pass.2.1 45 = .ok (.iadd, 1) := by decide +kernel
theorem d_D_pass_46 : decode M_D_pass.2.1 46 = .ok (.iconst 4, 1) := by decide +kernel
theorem d_D_pass_47 : decode M_D_pass.2.1 47 = .ok (.aload_n 3, 1) := by decide +kernel
theorem d_D_pass_48 : decode M_D_pass.2.1 48 = .ok (.iload 5, 2) := by decide +kernel
theorem d_D_pass_50 : decode M_D_pass.2.1 50 = .ok (.iaload, 1) := by decide +kernel
theorem d_D_pass_51 : decode M_D_pass.2.1 51 = .ok (.imul, 1) := by decide +kernel
theorem d_D_pass_52 : decode M_D_pass.2.1 52 = .ok (.iastore, 1) := by decide +kernel
theorem d_D_pass_53 : decode M_D_pass.2.1 53 = .ok (.iinc 5 1, 3) := by decide +kernel
theorem d_D_pass_56 : decode M_D_pass.2.1 56 = .ok (.goto (-31), 3) := by decide +kernel
theorem d_D_pass_59 : decode M_D_pass.2.1 59 = .ok (.aload_n 0, 1) := by decide +kernel
theorem d_D_pass_60 : decode M_D_pass.2.1 60 = .ok (.getfield 19, 3) := by decide +kernel
theorem d_D_pass_63 : decode M_D_pass.2.1 63 = .ok (.iload_n 1, 1) := by decide +kernel
theorem d_D_pass_64 : decode M_D_pass.2.1 64 = .ok (.iconst 1, 1) := by decide +kernel
theorem d_D_pass_65 : decode M_D_pass.2.1 65 = .ok (.iload 4, 2) := by decide +kernel
theorem d_D_pass_67 : decode M_D_pass.2.1 67 = .ok (.iadd, 1) := by decide +kernel
theorem d_D_pass_68 : decode M_D_pass.2.1 68 = .ok (.iastore, 1) := by decide +kernel
theorem d_D_pass_69 : decode M_D_pass.2.1 69 = .ok (.return_, 1) := by decide +kernel
theorem d_D_both_0 : decode M_D_both.2.1 0 = .ok (.aload_n 0, 1) := by decide +kernel
theorem d_D_both_1 : decode M_D_both.2.1 1 = .ok (.getfield 57, 3) := by decide +kernel
theorem d_D_both_4 : decode M_D_both.2.1 4 = .ok (.iconst 0, 1) := by decide +kernel
theorem d_D_both_5 : decode M_D_both.2.1 5 = .ok (.iaload, 1) := by decide +kernel
theorem d_D_both_6 : decode M_D_both.2.1 6 = .ok (.iconst 2, 1) := by decide +kernel
theorem d_D_both_7 : decode M_D_both.2.1 7 = .ok (.ishr, 1) := by decide +kernel
theorem d_D_both_8 : decode M_D_both.2.1 8 = .ok (.istore_n 1, 1) := by decide +kernel
theorem d_D_both_9 : decode M_D_both.2.1 9 = .ok (.aload_n 0, 1) := by decide +kernel
theorem d_D_both_10 : decode M_D_both.2.1 10 = .ok (.getfield 60, 3) := by decide +kernel
theorem d_D_both_13 : decode M_D_both.2.1 13 = .ok (.iconst 0, 1) := by decide +kernel
theorem d_D_both_14 : decode M_D_both.2.1 14 = .ok (.iaload, 1) := by decide +kernel
theorem d_D_both_15 : decode M_D_both.2.1 15 = .ok (.iconst 2, 1) := by decide +kernel
theorem d_D_both_16 : decode M_D_both.2.1 16 = .ok (.ishr, 1) := by decide +kernel
theorem d_D_both_17 : decode M_D_both.2.1 17 = .ok (.istore_n 2, 1) := by decide +kernel
theorem d_D_both_18 : decode M_D_both.2.1 18 = .ok (.iconst 0, 1) := by decide +kernel
theorem d_D_both_19 : decode M_D_both.2.1 19 = .ok (.istore_n 3, 1) := by decide +kernel
theorem d_D_both_20 : decode M_D_both.2.1 20 = .ok (.iconst 0, 1) := by decide +kernel
theorem d_D_both_21 : decode M_D_both.2.1 21 = .ok (.istore 4, 2) := by decide +kernel
theorem d_D_both_23 : decode M_D_both.2.1 23 = .ok (.iload 4, 2) := by decide +kernel
theorem d_D_both_25 : decode M_D_both.2.1 25 = .ok (.aload_n 0, 1) := by decide +kernel
theorem d_D_both_26 : decode M_D_both.2.1 26 = .ok (.getfield 16, 3) := by decide +kernel
theorem d_D_both_29 : decode M_D_both.2.1 29 = .ok (.iload_n 1, 1) := by decide +kernel
theorem d_D_both_30 : decode M_D_both.2.1 30 = .ok (.iaload, 1) := by decide +kernel
theorem d_D_both_31 : decode M_D_both.2.1 31 = .ok (.if_icmp .ge 81, 3) := by decide +kernel
theorem d_D_both_34 : decode M_D_both.2.1 34 = .ok (.aload_n 0, 1) := by decide +kernel
theorem d_D_both_35 : decode M_D_both.2.1 35 = .ok (.getfield 60, 3) := by decide +kernel
theorem d_D_both_38 : decode M_D_both.2.1 38 = .ok (.iconst 1, 1) := by decide +kernel
theorem d_D_both_39 : decode M_D_both.2.1 39 = .ok (.aload_n 0, 1) := by decide +kernel
theorem d_D_both_40 : decode M_D_both.2.1 40 = .ok (.getfield 16, 3) := by decide +kernel
theorem d_D_both_43 : decode M_D_both.2.1 43 = .ok (.iload_n 2, 1) := by decide +kernel
theorem d_D_both_44 : decode M_D_both.2.1 44 = .ok (.iaload, 1) := by decide +kernel
theorem d_D_both_45 : decode M_D_both.2.1 45 = .ok (.aload_n 0, 1) := by decide +kernel
theorem d_D_both_46 : decode M_D_both.2.1 46 = .ok (.getfield 57, 3) := by decide +kernel
theorem d_D_both_49 : decode M_D_both.2.1 49 = .ok (.iconst 1, 1) := by decide +kernel
theorem d_D_both_50 : decode M_D_both.2.1 50 = .ok (.iload 4, 2) := by decide +kernel
theorem d_D_both_52 : decode M_D_both.2.1 52 = .ok (.iadd, 1) := by decide +kernel
theorem d_D_both_53 : decode M_D_both.2.1 53 = .ok (.iaload, 1) := by decide +kernel
theorem d_D_both_54 : decode M_D_both.2.1 54 = .ok (.invokestatic 192, 3) := by decide +kernel
theorem d_D_both_57 : decode M_D_both.2.1 57 = .ok (.ifCond .ge 6, 3) := by decide +kernel
theorem d_D_both_60 : decode M_D_both.2.1 60 = .ok (.goto 46, 3) := by decide +kernel
theorem d_D_both_63 : decode M_D_both.2.1 63 = .ok (.aload_n 0, 1) := by decide +kernel
theorem d_D_both_64 : decode M_D_both.2.1 64 = .ok (.getfield 88, 3) := by decide +kernel
theorem d_D_both_67 : decode M_D_both.2.1 67 = .ok (.iload_n 3, 1) := by decide +kernel
theorem d_D_both_68 : decode M_D_both.2.1 68 = .ok (.iload 4, 2) := by decide +kernel
theorem d_D_both_70 : decode M_D_both.2.1 70 = .ok (.iastore, 1) := by decide +kernel
theorem d_D_both_71 : decode M_D_both.2.1 71 = .ok (.aload_n 0, 1) := by decide +kernel
theorem d_D_both_72 : decode M_D_both.2.1 72 = .ok (.getfield 88, 3) := by decide +kernel
theorem d_D_both_75 : decode M_D_both.2.1 75 = .ok (.bipush 8, 2) := by decide +kernel
theorem d_D_both_77 : decode M_D_both.2.1 77 = .ok (.iload_n 3, 1) := by decide +kernel
theorem d_D_both_78 : decode M_D_both.2.1 78 = .ok (.iadd, 1) := by decide +kernel
theorem d_D_both_79 : decode M_D_both.2.1 79 = .ok (.aload_n 0, 1) := by decide +kernel
theorem d_D_both_80 : decode M_D_both.2.1 80 = .ok (.getfield 60, 3) := by decide +kernel
theorem d_D_both_83 : decode M_D_both.2.1 83 = .ok (.iconst 1, 1) := by decide +kernel
theorem d_D_both_84 : decode M_D_both.2.1 84 = .ok (.aload_n 0, 1) := by decide +kernel
theorem d_D_both_85 : decode M_D_both.2.1 85 = .ok (.getfield 16, 3) := by decide +kernel
theorem d_D_both_88 : decode M_D_both.2.1 88 = .ok (.iload_n 2, 1) := by decide +kernel
theorem d_D_both_89 : decode M_D_both.2.1 89 = .ok (.iaload, 1) := by decide +kernel
theorem d_D_both_90 : decode M_D_both.2.1 90 = .ok (.aload_n 0, 1) := by decide +kernel
theorem d_D_both_91 : decode M_D_both.2.1 91 = .ok (.getfield 57, 3) := by decide +kernel
theorem d_D_both_94 : decode M_D_both.2.1 94 = .ok (.iconst 1, 1) := by decide +kernel
theorem d_D_both_95 : decode M_D_both.2.1 95 = .ok (.iload 4, 2) := by decide +kernel
theorem d_D_both_97 : decode M_D_both.2.1 97 = .ok (.iadd, 1) := by decide +kernel
theorem d_D_both_98 : decode M_D_both.2.1 98 = .ok (.iaload, 1) := by decide +kernel
theorem d_D_both_99 : decode M_D_both.2.1 99 = .ok (.invokestatic 192, 3) := by decide +kernel
theorem d_D_both_102 : decode M_D_both.2.1 102 = .ok (.iastore, 1) := by decide +kernel
theorem d_D_both_103 : decode M_D_both.2.1 103 = .ok (.iinc 3 1, 3) := by decide +kernel
theorem d_D_both_106 : decode M_D_both.2.1 106 = .ok (.iinc 4 1, 3) := by decide +kernel
theorem d_D_both_109 : decode M_D_both.2.1 109 = .ok (.goto (-86), 3) := by decide +kernel
theorem d_D_both_112 : decode M_D_both.2.1 112 = .ok (.aload_n 0, 1) := by decide +kernel
theorem d_D_both_113 : decode M_D_both.2.1 113 = .ok (.invokevirtual 181, 3) := by decide +kernel
theorem d_D_both_116 : decode M_D_both.2.1 116 = .ok (.ifCond .eq 5, 3) := by decide +kernel
theorem d_D_both_119 : decode M_D_both.2.1 119 = .ok (.iconst 5, 1) := by decide +kernel
theorem d_D_both_120 : decode M_D_both.2.1 120 = .ok (.ireturn, 1) := by decide +kernel
theorem d_D_both_121 : decode M_D_both.2.1 121 = .ok (.aload_n 0, 1) := by decide +kernel
theorem d_D_both_122 : decode M_D_both.2.1 122 = .ok (.iload_n 3, 1) := by decide +kernel
theorem d_D_both_123 : decode M_D_both.2.1 123 = .ok (.invokevirtual 185, 3) := by decide +kernel
theorem d_D_both_126 : decode M_D_both.2.1 126 = .ok (.istore 4, 2) := by decide +kernel
theorem d_D_both_128 : decode M_D_both.2.1 128 = .ok (.aload_n 0, 1) := by decide +kernel
theorem d_D_both_129 : decode M_D_both.2.1 129 = .ok (.iload_n 1, 1) := by decide +kernel
theorem d_D_both_130 : decode M_D_both.2.1 130 = .ok (.iload 4, 2) := by decide +kernel
theorem d_D_both_132 : decode M_D_both.2.1 132 = .ok (.aload_n 0, 1) := by decide +kernel
theorem d_D_both_133 : decode M_D_both.2.1 133 = .ok (.getfield 88, 3) := by decide +kernel
theorem d_D_both_136 : decode M_D_both.2.1 136 = .ok (.iload_n 3, 1) := by decide +kernel
theorem d_D_both_137 : decode M_D_both.2.1 137 = .ok (.invokevirtual 188, 3) := by decide +kernel
theorem d_D_both_140 : decode M_D_both.2.1 140 = .ok (.iconst 0, 1) := by decide +kernel
theorem d_D_both_141 : decode M_D_both.2.1 141 = .ok (.istore 5, 2) := by decide +kernel
theorem d_D_both_143 : decode M_D_both.2.1 143 = .ok (.iload 5, 2) := by decide +kernel
theorem d_D_both_145 : decode M_D_both.2.1 145 = .ok (.iload_n 3, 1) := by decide +kernel
theorem d_D_both_146 : decode M_D_both.2.1 146 = .ok (.if_icmp .ge 26, 3) := by decide +kernel
theorem d_D_both_149 : decode M_D_both.2.1 149 = .ok (.aload_n 0, 1) := by decide +kernel
theorem d_D_both_150 : decode M_D_both.2.1 150 = .ok (.getfield 88, 3) := by decide +kernel
theorem d_D_both_153 : decode M_D_both.2.1 153 = .ok (.iload 5, 2) := by decide +kernel
theorem d_D_both_155 : decode M_D_both.2.1 155 = .ok (.aload_n 0, 1) := by decide +kernel
theorem d_D_both_156 : decode M_D_both.2.1 156 = .ok (.getfield 88, 3) := by decide +kernel
theorem d_D_both_159 : decode M_D_both.2.1 159 = .ok (.bipush 8, 2) := by decide +kernel
theorem d_D_both_161 : decode M_D_both.2.1 161 = .ok (.iload 5, 2) := by decide +kernel
theorem d_D_both_163 : decode M_D_both.2.1 163 = .ok (.iadd, 1) := by decide +kernel
theorem d_D_both_164 : decode M_D_both.2.1 164 = .ok (.iaload, 1) := by decide +kernel
theorem d_D_both_165 : decode M_D_both.2.1 165 = .ok (.iastore, 1) := by decide +kernel
theorem d_D_both_166 : decode M_D_both.2.1 166 = .ok (.iinc 5 1, 3) := by decide +kernel
theorem d_D_both_169 : decode M_D_both.2.1 169 = .ok (.goto (-26), 3) := by decide +kernel
theorem d_D_both_172 : decode M_D_both.2.1 172 = .ok (.aload_n 0, 1) := by decide +kernel
theorem d_D_both_173 : decode M_D_both.2.1 173 = .ok (.iload_n 2, 1) := by decide +kernel
theorem d_D_both_174 : decode M_D_both.2.1 174 = .ok (.iload 4, 2) := by decide +kernel
theorem d_D_both_176 : decode M_D_both.2.1 176 = .ok (.aload_n 0, 1) := by decide +kernel
theorem d_D_both_177 : decode M_D_both.2.1 177 = .ok (.getfield 88, 3) := by decide +kernel
theorem d_D_both_180 : decode M_D_both.2.1 180 = .ok (.iload_n 3, 1) := by decide +kernel
theorem d_D_both_181 : decode M_D_both.2.1 181 = .ok (.invokevirtual 188, 3) := by decide +kernel
theorem d_D_both_184 : decode M_D_both.2.1 184 = .ok (.iconst 0, 1) := by decide +kernel
theorem d_D_both_185 : decode M_D_both.2.1 185 = .ok (.ireturn, 1) := by decide +kernel
theorem d_D_find_0 : decode M_D_find.2.1 0 = .ok (.iconst 0, 1) := by decide +kernel
theorem d_D_find_1 : decode M_D_find.2.1 1 = .ok (.istore 4, 2) := by decide +kernel
theorem d_D_find_3 : decode M_D_find.2.1 3 = .ok (.iload 4, 2) := by decide +kernel
theorem d_D_find_5 : decode M_D_find.2.1 5 = .ok (.iload_n 2, 1) := by decide +kernel
theorem d_D_find_6 : decode M_D_find.2.1 6 = .ok (.if_icmp .ge 22, 3) := by decide +kernel
theorem d_D_find_9 : decode M_D_find.2.1 9 = .ok (.aload_n 0, 1) := by decide +kernel
theorem d_D_find_10 : decode M_D_find.2.1 10 = .ok (.iload_n 1, 1) := by decide +kernel
theorem d_D_find_11 : decode M_D_find.2.1 11 = .ok (.iload 4, 2) := by decide +kernel
theorem d_D_find_13 : decode M_D_find.2.1 13 = .ok (.iadd, 1) := by decide +kernel
theorem d_D_find_14 : decode M_D_find.2.1 14 = .ok (.iaload, 1) := by decide +kernel
theorem d_D_find_15 : decode M_D_find.2.1 15 = .ok (.iload_n 3, 1) := by decide +kernel
theorem d_D_find_16 : decode M_D_find.2.1 16 = .ok (.if_icmp .ne 6, 3) := by decide +kernel
theorem d_D_find_19 : decode M_D_find.2.1 19 = .ok (.iload 4, 2) := by decide +kernel
theorem d_D_find_21 : decode M_D_find.2.1 21 = .ok (.ireturn, 1) := by decide +kernel
theorem d_D_find_22 : decode M_D_find.2.1 22 = .ok (.iinc 4 1, 3) := by decide +kernel
theorem d_D_find_25 : decode M_D_find.2.1 25 = .ok (.goto (-22), 3) := by decide +kernel
theorem d_D_find_28 : decode M_D_find.2.1 28 = .ok (.iconst (-1), 1) := by decide +kernel
theorem d_D_find_29 : decode M_D_find.2.1 29 = .ok (.ireturn, 1) := by decide +kernel
theorem d_D_fill_0 : decode M_D_fill.2.1 0 = .ok (.aload_n 1, 1) := by decide +kernel
theorem d_D_fill_1 : decode M_D_fill.2.1 1 = .ok (.iconst 0, 1) := by decide +kernel
theorem d_D_fill_2 : decode M_D_fill.2.1 2 = .ok (.iaload, 1) := by decide +kernel
theorem d_D_fill_3 : decode M_D_fill.2.1 3 = .ok (.iconst 2, 1) := by decide +kernel
theorem d_D_fill_4 : decode M_D_fill.2.1 4 = .ok (.ishr, 1) := by decide +kernel
theorem d_D_fill_5 : decode M_D_fill.2.1 5 = .ok (.istore 4, 2) := by decide +kernel
theorem d_D_fill_7 : decode M_D_fill.2.1 7 = .ok (.iload_n 3, 1) := by decide +kernel
theorem d_D_fill_8 : decode M_D_fill.2.1 8 = .ok (.istore 5, 2) := by decide +kernel
theorem d_D_fill_10 : decode M_D_fill.2.1 10 = .ok (.aload_n 0, 1) := by decide +kernel
theorem d_D_fill_11 : decode M_D_fill.2.1 11 = .ok (.aload_n 1, 1) := by decide +kernel
theorem d_D_fill_12 : decode M_D_fill.2.1 12 = .ok (.aload_n 2, 1) := by decide +kernel
theorem d_D_fill_13 : decode M_D_fill.2.1 13 = .ok (.iload 5, 2) := by decide +kernel
theorem d_D_fill_15 : decode M_D_fill.2.1 15 = .ok (.invokevirtual 196, 3) := by decide +kernel
theorem d_D_fill_18 : decode M_D_fill.2.1 18 = .ok (.istore 6, 2) := by decide +kernel
theorem d_D_fill_20 : decode M_D_fill.2.1 20 = .ok (.iload 6, 2) := by decide +kernel
theorem d_D_fill_22 : decode M_D_fill.2.1 22 = .ok (.ifCond .lt 165, 3) := by decide +kernel
theorem d_D_fill_25 : decode M_D_fill.2.1 25 = .ok (.aload_n 2, 1) := by decide +kernel
theorem d_D_fill_26 : decode M_D_fill.2.1 26 = .ok (.iload 6, 2) := by decide +kernel
theorem d_D_fill_28 : decode M_D_fill.2.1 28 = .ok (.iaload, 1) := by decide +kernel
theorem d_D_fill_29 : decode M_D_fill.2.1 29 = .ok (.iconst 2, 1) := by decide +kernel
theorem d_D_fill_30 : decode M_D_fill.2.1 30 = .ok (.ishr, 1) := by decide +kernel
theorem d_D_fill_31 : decode M_D_fill.2.1 31 = .ok (.istore 7, 2) := by decide +kernel
theorem d_D_fill_33 : decode M_D_fill.2.1 33 = .ok (.aload_n 2, 1) := by decide +kernel
theorem d_D_fill_34 : decode M_D_fill.2.1 34 = .ok (.iload 6, 2) := by decide +kernel
theorem d_D_fill_36 : decode M_D_fill.2.1 36 = .ok (.iaload, 1) := by decide +kernel
theorem d_D_fill_37 : decode M_D_fill.2.1 37 = .ok (.invokestatic 129, 3) := by decide +kernel
theorem d_D_fill_40 : decode M_D_fill.2.1 40 = .ok (.ifCond .ne 5, 3) := by decide +kernel
theorem d_D_fill_43 : decode M_D_fill.2.1 43 = .ok (.iconst 2, 1) := by decide +kernel
theorem d_D_fill_44 : decode M_D_fill.2.1 44 = .ok (.ireturn, 1) := by decide +kernel
theorem d_D_fill_45 : decode M_D_fill.2.1 45 = .ok (.iload 7, 2) := by decide +kernel
theorem d_D_fill_47 : decode M_D_fill.2.1 47 = .ok (.iload 4, 2) := by decide +kernel
theorem d_D_fill_49 : decode M_D_fill.2.1 49 = .ok (.if_icmp .ne 5, 3) := by decide +kernel
theorem d_D_fill_52 : decode M_D_fill.2.1 52 = .ok (.iconst 3, 1) := by decide +kernel
theorem d_D_fill_53 : decode M_D_fill.2.1 53 = .ok (.ireturn, 1) := by decide +kernel
theorem d_D_fill_54 : decode M_D_fill.2.1 54 = .ok (.aload_n 0, 1) := by decide +kernel
theorem d_D_fill_55 : decode M_D_fill.2.1 55 = .ok (.invokevirtual 181, 3) := by decide +kernel
theorem d_D_fill_58 : decode M_D_fill.2.1 58 = .ok (.ifCond .eq 5, 3) := by decide +kernel
theorem d_D_fill_61 : decode M_D_fill.2.1 61 = .ok (.iconst 5, 1) := by decide +kernel
theorem d_D_fill_62 : decode M_D_fill.2.1 62 = .ok (.ireturn, 1) := by decide +kernel
theorem d_D_fill_63 : decode M_D_fill.2.1 63 = .ok (.iconst 0, 1) := by decide +kernel
theorem d_D_fill_64 : decode M_D_fill.2.1 64 = .ok (.istore 8, 2) := by decide +kernel
theorem d_D_fill_66 : decode M_D_fill.2.1 66 = .ok (.iconst 0, 1) := by decide +kernel
theorem d_D_fill_67 : decode M_D_fill.2.1 67 = .ok (.istore 9, 2) := by decide +kernel
theorem d_D_fill_69 : decode M_D_fill.2.1 69 = .ok (.iload 9, 2) := by decide +kernel
theorem d_D_fill_71 : decode M_D_fill.2.1 71 = .ok (.aload_n 0, 1) := by decide +kernel
theorem d_D_fill_72 : decode M_D_fill.2.1 72 = .ok (.getfield 16, 3) := by decide +kernel
theorem d_D_fill_75 : decode M_D_fill.2.1 75 = .ok (.iload 7, 2) := by decide +kernel
theorem d_D_fill_77 : decode M_D_fill.2.1 77 = .ok (.iaload, 1) := by decide +kernel
theorem d_D_fill_78 : decode M_D_fill.2.1 78 = .ok (.if_icmp .ge 69, 3) := by decide +kernel
theorem d_D_fill_81 : decode M_D_fill.2.1 81 = .ok (.aload_n 2, 1) := by decide +kernel
theorem d_D_fill_82 : decode M_D_fill.2.1 82 = .ok (.iload 6, 2) := by decide +kernel
theorem d_D_fill_84 : decode M_D_fill.2.1 84 = .ok (.iconst 1, 1) := by decide +kernel
theorem d_D_fill_85 : decode M_D_fill.2.1 85 = .ok (.iadd, 1) := by decide +kernel
theorem d_D_fill_86 : decode M_D_fill.2.1 86 = .ok (.iload 9, 2) := by decide +kernel
theorem d_D_fill_88 : decode M_D_fill.2.1 88 = .ok (.iadd, 1) := by decide +kernel
theorem d_D_fill_89 : decode M_D_fill.2.1 89 = .ok (.iaload, 1) := by decide +kernel
theorem d_D_fill_90 : decode M_D_fill.2.1 90 = .ok (.iconst 2, 1) := by decide +kernel
theorem d_D_fill_91 : decode M_D_fill.2.1 91 = .ok (.ishr, 1) := by decide +kernel
theorem d_D_fill_92 : decode M_D_fill.2.1 92 = .ok (.aload_n 0, 1) := by decide +kernel
theorem d_D_fill_93 : decode M_D_fill.2.1 93 = .ok (.getfield 66, 3) := by decide +kernel
theorem d_D_fill_96 : decode M_D_fill.2.1 96 = .ok (.iload 6, 2) := by decide +kernel
theorem d_D_fill_98 : decode M_D_fill.2.1 98 = .ok (.iaload, 1) := by decide +kernel
theorem d_D_fill_99 : decode M_D_fill.2.1 99 = .ok (.isub, 1) := by decide +kernel
theorem d_D_fill_100 : decode M_D_fill.2.1 100 = .ok (.istore 10, 2) := by decide +kernel
theorem d_D_fill_102 : decode M_D_fill.2.1 102 = .ok (.iload 10, 2) := by decide +kernel
theorem d_D_fill_104 : decode M_D_fill.2.1 104 = .ok (.ifCond .lt 25, 3) := by decide +kernel
theorem d_D_fill_107 : decode M_D_fill.2.1 107 = .ok (.aload_n 1, 1) := by decide +kernel
theorem d_D_fill_108 : decode M_D_fill.2.1 108 = .ok (.iconst 1, 1) := by decide +kernel
theorem d_D_fill_109 : decode M_D_fill.2.1 109 = .ok (.aload_n 0, 1) := by decide +kernel
theorem d_D_fill_110 : decode M_D_fill.2.1 110 = .ok (.getfield 16, 3) := by decide +kernel
theorem d_D_fill_113 : decode M_D_fill.2.1 113 = .ok (.iload 4, 2) := by decide +kernel
theorem d_D_fill_115 : decode M_D_fill.2.1 115 = .ok (.iaload, 1) := by decide +kernel
theorem d_D_fill_116 : decode M_D_fill.2.1 116 = .ok (.iconst 4, 1) := by decide +kernel
theorem d_D_fill_117 : decode M_D_fill.2.1 117 = .ok (.iload 10, 2) := by decide +kernel
theorem d_D_fill_119 : decode M_D_fill.2.1 119 = .ok (.imul, 1) := by decide +kernel
theorem d_D_fill_120 : decode M_D_fill.2.1 120 = .ok (.invokestatic 192, 3) := by decide +kernel
theorem d_D_fill_123 : decode M_D_fill.2.1 123 = .ok (.ifCond .ge 6, 3) := by decide +kernel
theorem d_D_fill_126 : decode M_D_fill.2.1 126 = .ok (.goto 15, 3) := by decide +kernel
theorem d_D_fill_129 : decode M_D_fill.2.1 129 = .ok (.aload_n 0, 1) := by decide +kernel
theorem d_D_fill_130 : decode M_D_fill.2.1 130 = .ok (.getfield 88, 3) := by decide +kernel
theorem d_D_fill_133 : decode M_D_fill.2.1 133 = .ok (.iload 8, 2) := by decide +kernel
theorem d_D_fill_135 : decode M_D_fill.2.1 135 = .ok (.iload 9, 2) := by decide +kernel
theorem d_D_fill_137 : decode M_D_fill.2.1 137 = .ok (.iastore, 1) := by decide +kernel
theorem d_D_fill_138 : decode M_D_fill.2.1 138 = .ok (.iinc 8 1, 3) := by decide +kernel
theorem d_D_fill_141 : decode M_D_fill.2.1 141 = .ok (.iinc 9 1, 3) := by decide +kernel
theorem d_D_fill_144 : decode M_D_fill.2.1 144 = .ok (.goto (-75), 3) := by decide +kernel
theorem d_D_fill_147 : decode M_D_fill.2.1 147 = .ok (.aload_n 0, 1) := by decide +kernel
theorem d_D_fill_148 : decode M_D_fill.2.1 148 = .ok (.iload 7, 2) := by decide +kernel
theorem d_D_fill_150 : decode M_D_fill.2.1 150 = .ok (.aload_n 0, 1) := by decide +kernel
theorem d_D_fill_151 : decode M_D_fill.2.1 151 = .ok (.iload 8, 2) := by decide +kernel
theorem d_D_fill_153 : decode M_D_fill.2.1 153 = .ok (.invokevirtual 185, 3) := by decide +kernel
theorem d_D_fill_156 : decode M_D_fill.2.1 156 = .ok (.aload_n 0, 1) := by decide +kernel
theorem d_D_fill_157 : decode M_D_fill.2.1 157 = .ok (.getfield 88, 3) := by decide +kernel
theorem d_D_fill_160 : decode M_D_fill.2.1 160 = .ok (.iload 8, 2) := by decide +kernel
theorem d_D_fill_162 : decode M_D_fill.2.1 162 = .ok (.invokevirtual 188, 3) := by decide +kernel
theorem d_D_fill_165 : decode M_D_fill.2.1 165 = .ok (.aload_n 0, 1) := by decide +kernel
theorem d_D_fill_166 : decode M_D_fill.2.1 166 = .ok (.aload_n 2, 1) := by decide +kernel
theorem d_D_fill_167 : decode M_D_fill.2.1 167 = .ok (.iload 5, 2) := by decide +kernel
theorem d_D_fill_169 : decode M_D_fill.2.1 169 = .ok (.invokevirtual 141, 3) := by decide +kernel
theorem d_D_fill_172 : decode M_D_fill.2.1 172 = .ok (.istore 5, 2) := by decide +kernel
theorem d_D_fill_174 : decode M_D_fill.2.1 174 = .ok (.aload_n 0, 1) := by decide +kernel
theorem d_D_fill_175 : decode M_D_fill.2.1 175 = .ok (.aload_n 1, 1) := by decide +kernel
theorem d_D_fill_176 : decode M_D_fill.2.1 176 = .ok (.aload_n 2, 1) := by decide +kernel
theorem d_D_fill_177 : decode M_D_fill.2.1 177 = .ok (.iload 5, 2) := by decide +kernel
theorem d_D_fill_179 : decode M_D_fill.2.1 179 = .ok (.invokevirtual 196, 3) := by decide +kernel
theorem d_D_fill_182 : decode M_D_fill.2.1 182 = .ok (.istore 6, 2) := by decide +kernel
theorem d_D_fill_184 : decode M_D_fill.2.1 184 = .ok (.goto (-164), 3) := by decide +kernel
theorem d_D_fill_187 : decode M_D_fill.2.1 187 = .ok (.aload_n 2, 1) := by decide +kernel
theorem d_D_fill_188 : decode M_D_fill.2.1 188 = .ok (.iload 5, 2) := by decide +kernel
theorem d_D_fill_190 : decode M_D_fill.2.1 190 = .ok (.aload_n 0, 1) := by decide +kernel
theorem d_D_fill_191 : decode M_D_fill.2.1 191 = .ok (.getfield 16, 3) := by decide +kernel
theorem d_D_fill_194 : decode M_D_fill.2.1 194 = .ok (.invokestatic 147, 3) := by decide +kernel
theorem d_D_fill_197 : decode M_D_fill.2.1 197 = .ok (.bipush 80, 2) := by decide +kernel
theorem d_D_fill_199 : decode M_D_fill.2.1 199 = .ok (.if_icmp .le 5, 3) := by decide +kernel
theorem d_D_fill_202 : decode M_D_fill.2.1 202 = .ok (.iconst 4, 1) := by decide +kernel
theorem d_D_fill_203 : decode M_D_fill.2.1 203 = .ok (.ireturn, 1) := by decide +kernel
theorem d_D_fill_204 : decode M_D_fill.2.1 204 = .ok (.iconst 0, 1) := by decide +kernel
theorem d_D_fill_205 : decode M_D_fill.2.1 205 = .ok (.istore 7, 2) := by decide +kernel
theorem d_D_fill_207 : decode M_D_fill.2.1 207 = .ok (.iload 7, 2) := by decide +kernel
theorem d_D_fill_209 : decode M_D_fill.2.1 209 = .ok (.iload 5, 2) := by decide +kernel
theorem d_D_fill_211 : decode M_D_fill.2.1 211 = .ok (.if_icmp .ge 87, 3) := by decide +kernel
theorem d_D_fill_214 : decode M_D_fill.2.1 214 = .ok (.aload_n 2, 1) := by decide +kernel
theorem d_D_fill_215 : decode M_D_fill.2.1 215 = .ok (.iload 7, 2) := by decide +kernel
theorem d_D_fill_217 : decode M_D_fill.2.1 217 = .ok (.iaload, 1) := by decide +kernel
theorem d_D_fill_218 : decode M_D_fill.2.1 218 = .ok (.iconst 2, 1) := by decide +kernel
theorem d_D_fill_219 : decode M_D_fill.2.1 219 = .ok (.ishr, 1) := by decide +kernel
theorem d_D_fill_220 : decode M_D_fill.2.1 220 = .ok (.aload_n 0, 1) := by decide +kernel
theorem d_D_fill_221 : decode M_D_fill.2.1 221 = .ok (.getfield 66, 3) := by decide +kernel
theorem d_D_fill_224 : decode M_D_fill.2.1 224 = .ok (.iload 7, 2) := by decide +kernel
theorem d_D_fill_226 : decode M_D_fill.2.1 226 = .ok (.iaload, 1) := by decide +kernel
theorem d_D_fill_227 : decode M_D_fill.2.1 227 = .ok (.isub, 1) := by decide +kernel
theorem d_D_fill_228 : decode M_D_fill.2.1 228 = .ok (.istore 8, 2) := by decide +kernel
theorem d_D_fill_230 : decode M_D_fill.2.1 230 = .ok (.aload_n 0, 1) := by decide +kernel
theorem d_D_fill_231 : decode M_D_fill.2.1 231 = .ok (.getfield 23, 3) := by decide +kernel
theorem d_D_fill_234 : decode M_D_fill.2.1 234 = .ok (.sipush 400, 3) := by decide +kernel
theorem d_D_fill_237 : decode M_D_fill.2.1 237 = .ok (.iload 4, 2) := by decide +kernel
theorem d_D_fill_239 : decode M_D_fill.2.1 239 = .ok (.imul, 1) := by decide +kernel
theorem d_D_fill_240 : decode M_D_fill.2.1 240 = .ok (.iload 7, 2) := by decide +kernel
theorem d_D_fill_242 : decode M_D_fill.2.1 242 = .ok (.iadd, 1) := by decide +kernel
theorem d_D_fill_243 : decode M_D_fill.2.1 243 = .ok (.aload_n 2, 1) := by decide +kernel
theorem d_D_fill_244 : decode M_D_fill.2.1 244 = .ok (.iload 7, 2) := by decide +kernel
theorem d_D_fill_246 : decode M_D_fill.2.1 246 = .ok (.iaload, 1) := by decide +kernel
theorem d_D_fill_247 : decode M_D_fill.2.1 247 = .ok (.invokestatic 129, 3) := by decide +kernel
theorem d_D_fill_250 : decode M_D_fill.2.1 250 = .ok (.ifCond .ne 8, 3) := by decide +kernel
theorem d_D_fill_253 : decode M_D_fill.2.1 253 = .ok (.iload 8, 2) := by decide +kernel
theorem d_D_fill_255 : decode M_D_fill.2.1 255 = .ok (.ifCond .ge 10, 3) := by decide +kernel
theorem d_D_fill_258 : decode M_D_fill.2.1 258 = .ok (.aload_n 2, 1) := by decide +kernel
theorem d_D_fill_259 : decode M_D_fill.2.1 259 = .ok (.iload 7, 2) := by decide +kernel
theorem d_D_fill_261 : decode M_D_fill.2.1 261 = .ok (.iaload, 1) := by decide +kernel
theorem d_D_fill_262 : decode M_D_fill.2.1 262 = .ok (.goto 29, 3) := by decide +kernel
theorem d_D_fill_265 : decode M_D_fill.2.1 265 = .ok (.iconst 4, 1) := by decide +kernel
theorem d_D_fill_266 : decode M_D_fill.2.1 266 = .ok (.aload_n 1, 1) := by decide +kernel
theorem d_D_fill_267 : decode M_D_fill.2.1 267 = .ok (.iconst 1, 1) := by decide +kernel
theorem d_D_fill_268 : decode M_D_fill.2.1 268 = .ok (.aload_n 0, 1) := by decide +kernel
theorem d_D_fill_269 : decode M_D_fill.2.1 269 = .ok (.getfield 16, 3) := by decide +kernel
theorem d_D_fill_272 : decode M_D_fill.2.1 272 = .ok (.iload 4, 2) := by decide +kernel
theorem d_D_fill_274 : decode M_D_fill.2.1 274 = .ok (.iaload, 1) := by decide +kernel
theorem d_D_fill_275 : decode M_D_fill.2.1 275 = .ok (.iconst 4, 1) := by decide +kernel
theorem d_D_fill_276 : decode M_D_fill.2.1 276 = .ok (.iload 8, 2) := by decide +kernel
theorem d_D_fill_278 : decode M_D_fill.2.1 278 = .ok (.imul, 1) := by decide +kernel
theorem d_D_fill_279 : decode M_D_fill.2.1 279 = .ok (.invokestatic 192, 3) := by decide +kernel
theorem d_D_fill_282 : decode M_D_fill.2.1 282 = .ok (.aload_n 0, 1) := by decide +kernel
theorem d_D_fill_283 : decode M_D_fill.2.1 283 = .ok (.getfield 66, 3) := by decide +kernel
theorem d_D_fill_286 : decode M_D_fill.2.1 286 = .ok (.iload 7, 2) := by decide +kernel
theorem d_D_fill_288 : decode M_D_fill.2.1 288 = .ok (.iaload, 1) := by decide +kernel
theorem d_D_fill_289 : decode M_D_fill.2.1 289 = .ok (.iadd, 1) := by decide +kernel
theorem d_D_fill_290 : decode M_D_fill.2.1 290 = .ok (.imul, 1) := by decide +kernel
theorem d_D_fill_291 : decode M_D_fill.2.1 291 = .ok (.iastore, 1) := by decide +kernel
theorem d_D_fill_292 : decode M_D_fill.2.1 292 = .ok (.iinc 7 1, 3) := by decide +kernel
theorem d_D_fill_295 : decode M_D_fill.2.1 295 = .ok (.goto (-88), 3) := by decide +kernel
theorem d_D_fill_298 : decode M_D_fill.2.1 298 = .ok (.aload_n 0, 1) := by decide +kernel
theorem d_D_fill_299 : decode M_D_fill.2.1 299 = .ok (.getfield 19, 3) := by decide +kernel
theorem d_D_fill_302 : decode M_D_fill.2.1 302 = .ok (.iload 4, 2) := by decide +kernel
theorem d_D_fill_304 : decode M_D_fill.2.1 304 = .ok (.iload 5, 2) := by decide +kernel
theorem d_D_fill_306 : decode M_D_fill.2.1 306 = .ok (.iastore, 1) := by decide +kernel
theorem d_D_fill_307 : decode M_D_fill.2.1 307 = .ok (.aload_n 0, 1) := by decide +kernel
theorem d_D_fill_308 : decode M_D_fill.2.1 308 = .ok (.getfield 26, 3) := by decide +kernel
theorem d_D_fill_311 : decode M_D_fill.2.1 311 = .ok (.iload 4, 2) := by decide +kernel
theorem d_D_fill_313 : decode M_D_fill.2.1 313 = .ok (.iconst 1, 1) := by decide +kernel
theorem d_D_fill_314 : decode M_D_fill.2.1 314 = .ok (.bastore, 1) := by decide +kernel
theorem d_D_fill_315 : decode M_D_fill.2.1 315 = .ok (.iconst 0, 1) := by decide +kernel
theorem d_D_fill_316 : decode M_D_fill.2.1 316 = .ok (.istore 7, 2) := by decide +kernel
theorem d_D_fill_318 : decode M_D_fill.2.1 318 = .ok (.iload 7, 2) := by decide +kernel
theorem d_D_fill_320 : decode M_D_fill.2.1 320 = .ok (.bipush 24, 2) := by decide +kernel
theorem d_D_fill_322 : decode M_D_fill.2.1 322 = .ok (.aload_n 0, 1) := by decide +kernel
theorem d_D_fill_323 : decode M_D_fill.2.1 323 = .ok (.getfield 144, 3) := by decide +kernel
theorem d_D_fill_326 : decode M_D_fill.2.1 326 = .ok (.iadd, 1) := by decide +kernel
theorem d_D_fill_327 : decode M_D_fill.2.1 327 = .ok (.if_icmp .ge 38, 3) := by decide +kernel
theorem d_D_fill_330 : decode M_D_fill.2.1 330 = .ok (.iload 7, 2) := by decide +kernel
theorem d_D_fill_332 : decode M_D_fill.2.1 332 = .ok (.aload_n 0, 1) := by decide +kernel
theorem d_D_fill_333 : decode M_D_fill.2.1 333 = .ok (.getfield 111, 3) := by decide +kernel
theorem d_D_fill_336 : decode M_D_fill.2.1 336 = .ok (.if_icmp .lt 10, 3) := by decide +kernel
theorem d_D_fill_339 : decode M_D_fill.2.1 339 = .ok (.iload 7, 2) := by decide +kernel
theorem d_D_fill_341 : decode M_D_fill.2.1 341 = .ok (.bipush 24, 2) := by decide +kernel
theorem d_D_fill_343 : decode M_D_fill.2.1 343 = .ok (.if_icmp .lt 16, 3) := by decide +kernel
theorem d_D_fill_346 : decode M_D_fill.2.1 346 = .ok (.aload_n 0, 1) := by decide +kernel
theorem d_D_fill_347 : decode M_D_fill.2.1 347 = .ok (.iload 7, 2) := by decide +kernel
theorem d_D_fill_349 : decode M_D_fill.2.1 349 = .ok (.invokevirtual 199, 3) := by decide +kernel
theorem d_D_fill_352 : decode M_D_fill.2.1 352 = .ok (.bipush 80, 2) := by decide +kernel
theorem d_D_fill_354 : decode M_D_fill.2.1 354 = .ok (.if_icmp .le 5, 3) := by decide +kernel
theorem d_D_fill_357 : decode M_D_fill.2.1 357 = .ok (.iconst 4, 1) := by decide +kernel
theorem d_D_fill_358 : decode M_D_fill.2.1 358 = .ok (.ireturn, 1) := by decide +kernel
theorem d_D_fill_359 : decode M_D_fill.2.1 359 = .ok (.iinc 7 1, 3) := by decide +kernel
theorem d_D_fill_362 : decode M_D_fill.2.1 362 = .ok (.goto (-44), 3) := by decide +kernel
theorem d_D_fill_365 : decode M_D_fill.2.1 365 = .ok (.iconst 0, 1) := by decide +kernel
theorem d_D_fill_366 : decode M_D_fill.2.1 366 = .ok (.ireturn, 1) := by decide +kernel
theorem d_D_hindrance_0 : decode M_D_hindrance.2.1 0 = .ok (.aload_n 1, 1) := by decide +kernel
theorem d_D_hindrance_1 : decode M_D_hindrance.2.1 1 = .ok (.iconst 0, 1) := by decide +kernel
theorem d_D_hindrance_2 : decode M_D_hindrance.2.1 2 = .ok (.iaload, 1) := by decide +kernel
theorem d_D_hindrance_3 : decode M_D_hindrance.2.1 3 = .ok (.iconst 2, 1) := by decide +kernel
theorem d_D_hindrance_4 : decode M_D_hindrance.2.1 4 = .ok (.ishr, 1) := by decide +kernel
theorem d_D_hindrance_5 : decode M_D_hindrance.2.1 5 = .ok (.istore 4, 2) := by decide +kernel
theorem d_D_hindrance_7 : decode M_D_hindrance.2.1 7 = .ok (.aload_n 0, 1) := by decide +kernel
theorem d_D_hindrance_8 : decode M_D_hindrance.2.1 8 = .ok (.aload_n 2, 1) := by decide +kernel
theorem d_D_hindrance_9 : decode M_D_hindrance.2.1 9 = .ok (.iconst 0, 1) := by decide +kernel
theorem d_D_hindrance_10 : decode M_D_hindrance.2.1 10 = .ok (.iload_n 3, 1) := by decide +kernel
theorem d_D_hindrance_11 : decode M_D_hindrance.2.1 11 = .ok (.invokevirtual 133, 3) := by decide +kernel
theorem d_D_hindrance_14 : decode M_D_hindrance.2.1 14 = .ok (.iconst 0, 1) := by decide +kernel
theorem d_D_hindrance_15 : decode M_D_hindrance.2.1 15 = .ok (.istore 5, 2) := by decide +kernel
theorem d_D_hindrance_17 : decode M_D_hindrance.2.1 17 = .ok (.iload 5, 2) := by decide +kernel
theorem d_D_hindrance_19 : decode M_D_hindrance.2.1 19 = .ok (.iload_n 3, 1) := by decide +kernel
theorem d_D_hindrance_20 : decode M_D_hindrance.2.1 20 = .ok (.if_icmp .ge 174, 3) := by decide +kernel
theorem d_D_hindrance_23 : decode M_D_hindrance.2.1 23 = .ok (.aload_n 2, 1) := by decide +kernel
theorem d_D_hindrance_24 : decode M_D_hindrance.2.1 24 = .ok (.iload 5, 2) := by decide +kernel
theorem d_D_hindrance_26 : decode M_D_hindrance.2.1 26 = .ok (.iaload, 1) := by decide +kernel
theorem d_D_hindrance_27 : decode M_D_hindrance.2.1 27 = .ok (.iconst 2, 1) := by decide +kernel
theorem d_D_hindrance_28 : decode M_D_hindrance.2.1 28 = .ok (.ishr, 1) := by decide +kernel
theorem d_D_hindrance_29 : decode M_D_hindrance.2.1 29 = .ok (.istore 6, 2) := by decide +kernel
theorem d_D_hindrance_31 : decode M_D_hindrance.2.1 31 = .ok (.aload_n 2, 1) := by decide +kernel
theorem d_D_hindrance_32 : decode M_D_hindrance.2.1 32 = .ok (.iload 5, 2) := by decide +kernel
theorem d_D_hindrance_34 : decode M_D_hindrance.2.1 34 = .ok (.iaload, 1) := by decide +kernel
theorem d_D_hindrance_35 : decode M_D_hindrance.2.1 35 = .ok (.invokestatic 129, 3) := by decide +kernel
theorem d_D_hindrance_38 : decode M_D_hindrance.2.1 38 = .ok (.ifCond .ne 45, 3) := by decide +kernel
theorem d_D_hindrance_41 : decode M_D_hindrance.2.1 41 = .ok (.iload 6, 2) := by decide +kernel
theorem d_D_hindrance_43 : decode M_D_hindrance.2.1 43 = .ok (.aload_n 0, 1) := by decide +kernel
theorem d_D_hindrance_44 : decode M_D_hindrance.2.1 44 = .ok (.getfield 66, 3) := by decide +kernel
theorem d_D_hindrance_47 : decode M_D_hindrance.2.1 47 = .ok (.iload 5, 2) := by decide +kernel
theorem d_D_hindrance_49 : decode M_D_hindrance.2.1 49 = .ok (.iaload, 1) := by decide +kernel
theorem d_D_hindrance_50 : decode M_D_hindrance.2.1 50 = .ok (.if_icmp .lt 33, 3) := by decide +kernel
theorem d_D_hindrance_53 : decode M_D_hindrance.2.1 53 = .ok (.aload_n 1, 1) := by decide +kernel
theorem d_D_hindrance_54 : decode M_D_hindrance.2.1 54 = .ok (.iconst 1, 1) := by decide +kernel
theorem d_D_hindrance_55 : decode M_D_hindrance.2.1 55 = .ok (.aload_n 0, 1) := by decide +kernel
theorem d_D_hindrance_56 : decode M_D_hindrance.2.1 56 = .ok (.getfield 16, 3) := by decide +kernel
theorem d_D_hindrance_59 : decode M_D_hindrance.2.1 59 = .ok (.iload 4, 2) := by decide +kernel
theorem d_D_hindrance_61 : decode M_D_hindrance.2.1 61 = .ok (.iaload, 1) := by decide +kernel
theorem d_D_hindrance_62 : decode M_D_hindrance.2.1 62 = .ok (.iconst 4, 1) := by decide +kernel
theorem d_D_hindrance_63 : decode M_D_hindrance.2.1 63 = .ok (.iload 6, 2) := by decide +kernel
theorem d_D_hindrance_65 : decode M_D_hindrance.2.1 65 = .ok (.aload_n 0, 1) := by decide +kernel
theorem d_D_hindrance_66 : decode M_D_hindrance.2.1 66 = .ok (.getfield 66, 3) := by decide +kernel
theorem d_D_hindrance_69 : decode M_D_hindrance.2.1 69 = .ok (.iload 5, 2) := by decide +kernel
theorem d_D_hindrance_71 : decode M_D_hindrance.2.1 71 = .ok (.iaload, 1) := by decide +kernel
theorem d_D_hindrance_72 : decode M_D_hindrance.2.1 72 = .ok (.isub, 1) := by decide +kernel
theorem d_D_hindrance_73 : decode M_D_hindrance.2.1 73 = .ok (.imul, 1) := by decide +kernel
theorem d_D_hindrance_74 : decode M_D_hindrance.2.1 74 = .ok (.invokestatic 192, 3) := by decide +kernel
theorem d_D_hindrance_77 : decode M_D_hindrance.2.1 77 = .ok (.ifCond .ge 6, 3) := by decide +kernel
theorem d_D_hindrance_80 : decode M_D_hindrance.2.1 80 = .ok (.iload 5, 2) := by decide +kernel
theorem d_D_hindrance_82 : decode M_D_hindrance.2.1 82 = .ok (.ireturn, 1) := by decide +kernel
theorem d_D_hindrance_83 : decode M_D_hindrance.2.1 83 = .ok (.aload_n 2, 1) := by decide +kernel
theorem d_D_hindrance_84 : decode M_D_hindrance.2.1 84 = .ok (.iload 5, 2) := by decide +kernel
theorem d_D_hindrance_86 : decode M_D_hindrance.2.1 86 = .ok (.iaload, 1) := by decide +kernel
theorem d_D_hindrance_87 : decode M_D_hindrance.2.1 87 = .ok (.invokestatic 129, 3) := by decide +kernel
theorem d_D_hindrance_90 : decode M_D_hindrance.2.1 90 = .ok (.iconst 2, 1) := by decide +kernel
theorem d_D_hindrance_91 : decode M_D_hindrance.2.1 91 = .ok (.if_icmp .eq 6, 3) := by decide +kernel
theorem d_D_hindrance_94 : decode M_D_hindrance.2.1 94 = .ok (.goto 94, 3) := by decide +kernel
theorem d_D_hindrance_97 : decode M_D_hindrance.2.1 97 = .ok (.iload 6, 2) := by decide +kernel
theorem d_D_hindrance_99 : decode M_D_hindrance.2.1 99 = .ok (.iload 4, 2) := by decide +kernel
theorem d_D_hindrance_101 : decode M_D_hindrance.2.1 101 = .ok (.if_icmp .ne 6, 3) := by decide +kernel
theorem d_D_hindrance_104 : decode M_D_hindrance.2.1 104 = .ok (.iload 5, 2) := by decide +kernel
theorem d_D_hindrance_106 : decode M_D_hindrance.2.1 106 = .ok (.ireturn, 1) := by decide +kernel
theorem d_D_hindrance_107 : decode M_D_hindrance.2.1 107 = .ok (.iconst 0, 1) := by decide +kernel
theorem d_D_hindrance_108 : decode M_D_hindrance.2.1 108 = .ok (.istore 7, 2) := by decide +kernel
theorem d_D_hindrance_110 : decode M_D_hindrance.2.1 110 = .ok (.iload 7, 2) := by decide +kernel
theorem d_D_hindrance_112 : decode M_D_hindrance.2.1 112 = .ok (.aload_n 0, 1) := by decide +kernel
theorem d_D_hindrance_113 : decode M_D_hindrance.2.1 113 = .ok (.getfield 16, 3) := by decide +kernel
theorem d_D_hindrance_116 : decode M_D_hindrance.2.1 116 = .ok (.iload 6, 2) := by decide +kernel
theorem d_D_hindrance_118 : decode M_D_hindrance.2.1 118 = .ok (.iaload, 1) := by decide +kernel
theorem d_D_hindrance_119 : decode M_D_hindrance.2.1 119 = .ok (.if_icmp .ge 57, 3) := by decide +kernel
theorem d_D_hindrance_122 : decode M_D_hindrance.2.1 122 = .ok (.aload_n 2, 1) := by decide +kernel
theorem d_D_hindrance_123 : decode M_D_hindrance.2.1 123 = .ok (.iload 5, 2) := by decide +kernel
theorem d_D_hindrance_125 : decode M_D_hindrance.2.1 125 = .ok (.iconst 1, 1) := by decide +kernel
theorem d_D_hindrance_126 : decode M_D_hindrance.2.1 126 = .ok (.iadd, 1) := by decide +kernel
theorem d_D_hindrance_127 : decode M_D_hindrance.2.1 127 = .ok (.iload 7, 2) := by decide +kernel
theorem d_D_hindrance_129 : decode M_D_hindrance.2.1 129 = .ok (.iadd, 1) := by decide +kernel
theorem d_D_hindrance_130 : decode M_D_hindrance.2.1 130 = .ok (.iaload, 1) := by decide +kernel
theorem d_D_hindrance_131 : decode M_D_hindrance.2.1 131 = .ok (.iconst 2, 1) := by decide +kernel
theorem d_D_hindrance_132 : decode M_D_hindrance.2.1 132 = .ok (.ishr, 1) := by decide +kernel
theorem d_D_hindrance_133 : decode M_D_hindrance.2.1 133 = .ok (.aload_n 0, 1) := by decide +kernel
theorem d_D_hindrance_134 : decode M_D_hindrance.2.1 134 = .ok (.getfield 66, 3) := by decide +kernel
theorem d_D_hindrance_137 : decode M_D_hindrance.2.1 137 = .ok (.iload 5, 2) := by decide +kernel
theorem d_D_hindrance_139 : decode M_D_hindrance.2.1 139 = .ok (.iaload, 1) := by decide +kernel
theorem d_D_hindrance_140 : decode M_D_hindrance.2.1 140 = .ok (.isub, 1) := by decide +kernel
theorem d_D_hindrance_141 : decode M_D_hindrance.2.1 141 = .ok (.istore 8, 2) := by decide +kernel
theorem d_D_hindrance_143 : decode M_D_hindrance.2.1 143 = .ok (.iload 8, 2) := by decide +kernel
theorem d_D_hindrance_145 : decode M_D_hindrance.2.1 145 = .ok (.ifCond .lt 25, 3) := by decide +kernel
theorem d_D_hindrance_148 : decode M_D_hindrance.2.1 148 = .ok (.aload_n 1, 1) := by decide +kernel
theorem d_D_hindrance_149 : decode M_D_hindrance.2.1 149 = .ok (.iconst 1, 1) := by decide +kernel
theorem d_D_hindrance_150 : decode M_D_hindrance.2.1 150 = .ok (.aload_n 0, 1) := by decide +kernel
theorem d_D_hindrance_151 : decode M_D_hindrance.2.1 151 = .ok (.getfield 16, 3) := by decide +kernel
theorem d_D_hindrance_154 : decode M_D_hindrance.2.1 154 = .ok (.iload 4, 2) := by decide +kernel
theorem d_D_hindrance_156 : decode M_D_hindrance.2.1 156 = .ok (.iaload, 1) := by decide +kernel
theorem d_D_hindrance_157 : decode M_D_hindrance.2.1 157 = .ok (.iconst 4, 1) := by decide +kernel
theorem d_D_hindrance_158 : decode M_D_hindrance.2.1 158 = .ok (.iload 8, 2) := by decide +kernel
theorem d_D_hindrance_160 : decode M_D_hindrance.2.1 160 = .ok (.imul, 1) := by decide +kernel
theorem d_D_hindrance_161 : decode M_D_hindrance.2.1 161 = .ok (.invokestatic 192, 3) := by decide +kernel
theorem d_D_hindrance_164 : decode M_D_hindrance.2.1 164 = .ok (.ifCond .ge 6, 3) := by decide +kernel
theorem d_D_hindrance_167 : decode M_D_hindrance.2.1 167 = .ok (.iload 5, 2) := by decide +kernel
theorem d_D_hindrance_169 : decode M_D_hindrance.2.1 169 = .ok (.ireturn, 1) := by decide +kernel
theorem d_D_hindrance_170 : decode M_D_hindrance.2.1 170 = .ok (.iinc 7 1, 3) := by decide +kernel
theorem d_D_hindrance_173 : decode M_D_hindrance.2.1 173 = .ok (.goto (-63), 3) := by decide +kernel
theorem d_D_hindrance_176 : decode M_D_hindrance.2.1 176 = .ok (.iload 5, 2) := by decide +kernel
theorem d_D_hindrance_178 : decode M_D_hindrance.2.1 178 = .ok (.aload_n 0, 1) := by decide +kernel
theorem d_D_hindrance_179 : decode M_D_hindrance.2.1 179 = .ok (.getfield 16, 3) := by decide +kernel
theorem d_D_hindrance_182 : decode M_D_hindrance.2.1 182 = .ok (.iload 6, 2) := by decide +kernel
theorem d_D_hindrance_184 : decode M_D_hindrance.2.1 184 = .ok (.iaload, 1) := by decide +kernel
theorem d_D_hindrance_185 : decode M_D_hindrance.2.1 185 = .ok (.iadd, 1) := by decide +kernel
theorem d_D_hindrance_186 : decode M_D_hindrance.2.1 186 = .ok (.istore 5, 2) := by decide +kernel
theorem d_D_hindrance_188 : decode M_D_hindrance.2.1 188 = .ok (.iinc 5 1, 3) := by decide +kernel
theorem d_D_hindrance_191 : decode M_D_hindrance.2.1 191 = .ok (.goto (-174), 3) := by decide +kernel
theorem d_D_hindrance_194 : decode M_D_hindrance.2.1 194 = .ok (.iconst (-1), 1) := by decide +kernel
theorem d_D_hindrance_195 : decode M_D_hindrance.2.1 195 = .ok (.ireturn, 1) := by decide +kernel
theorem d_D_sizeOf_0 : decode M_D_sizeOf.2.1 0 = .ok (.iconst 0, 1) := by decide +kernel
theorem d_D_sizeOf_1 : decode M_D_sizeOf.2.1 1 = .ok (.istore_n 3, 1) := by decide +kernel
theorem d_D_sizeOf_2 : decode M_D_sizeOf.2.1 2 = .ok (.iconst 0, 1) := by decide +kernel
theorem d_D_sizeOf_3 : decode M_D_sizeOf.2.1 3 = .ok (.istore 4, 2) := by decide +kernel
theorem d_D_sizeOf_5 : decode M_D_sizeOf.2.1 5 = .ok (.iload 4, 2) := by decide +kernel
theorem d_D_sizeOf_7 : decode M_D_sizeOf.2.1 7 = .ok (.iload_n 1, 1) := by decide +kernel
theorem d_D_sizeOf_8 : decode M_D_sizeOf.2.1 8 = .ok (.if_icmp .ge 36, 3) := by decide +kernel
theorem d_D_sizeOf_11 : decode M_D_sizeOf.2.1 11 = .ok (.iinc 3 1, 3) := by decide +kernel
theorem d_D_sizeOf_14 : decode M_D_sizeOf.2.1 14 = .ok (.aload_n 0, 1) := by decide +kernel
theorem d_D_sizeOf_15 : decode M_D_sizeOf.2.1 15 = .ok (.iload 4, 2) := by decide +kernel
theorem d_D_sizeOf_17 : decode M_D_sizeOf.2.1 17 = .ok (.iaload, 1) := by decide +kernel
theorem d_D_sizeOf_18 : decode M_D_sizeOf.2.1 18 = .ok (.invokestatic 129, 3) := by decide +kernel
theorem d_D_sizeOf_21 : decode M_D_sizeOf.2.1 21 = .ok (.iconst 2, 1) := by decide +kernel
theorem d_D_sizeOf_22 : decode M_D_sizeOf.2.1 22 = .ok (.if_icmp .ne 16, 3) := by decide +kernel
theorem d_D_sizeOf_25 : decode M_D_sizeOf.2.1 25 = .ok (.iload 4, 2) := by decide +kernel
theorem d_D_sizeOf_27 : decode M_D_sizeOf.2.1 27 = .ok (.aload_n 2, 1) := by decide +kernel
theorem d_D_sizeOf_28 : decode M_D_sizeOf.2.1 28 = .ok (.aload_n 0, 1) := by decide +kernel
theorem d_D_sizeOf_29 : decode M_D_sizeOf.2.1 29 = .ok (.iload 4, 2) := by decide +kernel
theorem d_D_sizeOf_31 : decode M_D_sizeOf.2.1 31 = .ok (.iaload, 1) := by decide +kernel
theorem d_D_sizeOf_32 : decode M_D_sizeOf.2.1 32 = .ok (.iconst 2, 1) := by decide +kernel
theorem d_D_sizeOf_33 : decode M_D_sizeOf.2.1 33 = .ok (.ishr, 1) := by decide +kernel
theorem d_D_sizeOf_34 : decode M_D_sizeOf.2.1 34 = .ok (.iaload, 1) := by decide +kernel
theorem d_D_sizeOf_35 : decode M_D_sizeOf.2.1 35 = .ok (.iadd, 1) := by decide +kernel
theorem d_D_sizeOf_36 : decode M_D_sizeOf.2.1 36 = .ok (.istore 4, 2) := by decide +kernel
theorem d_D_sizeOf_38 : decode M_D_sizeOf.2.1 38 = .ok (.iinc 4 1, 3) := by decide +kernel
theorem d_D_sizeOf_41 : decode M_D_sizeOf.2.1 41 = .ok (.goto (-36), 3) := by decide +kernel
theorem d_D_sizeOf_44 : decode M_D_sizeOf.2.1 44 = .ok (.iload_n 3, 1) := by decide +kernel
theorem d_D_sizeOf_45 : decode M_D_sizeOf.2.1 45 = .ok (.ireturn, 1) := by decide +kernel
theorem d_D_fullSize_0 : decode M_D_fullSize.2.1 0 = .ok (.aload_n 0, 1) := by decide +kernel
theorem d_D_fullSize_1 : decode M_D_fullSize.2.1 1 = .ok (.getfield 26, 3) := by decide +kernel
theorem d_D_fullSize_4 : decode M_D_fullSize.2.1 4 = .ok (.iload_n 1, 1) := by decide +kernel
theorem d_D_fullSize_5 : decode M_D_fullSize.2.1 5 = .ok (.baload, 1) := by decide +kernel
theorem d_D_fullSize_6 : decode M_D_fullSize.2.1 6 = .ok (.ifCond .ne 5, 3) := by decide +kernel
theorem d_D_fullSize_9 : decode M_D_fullSize.2.1 9 = .ok (.iconst 1, 1) := by decide +kernel
theorem d_D_fullSize_10 : decode M_D_fullSize.2.1 10 = .ok (.ireturn, 1) := by decide +kernel
theorem d_D_fullSize_11 : decode M_D_fullSize.2.1 11 = .ok (.iconst 0, 1) := by decide +kernel
theorem d_D_fullSize_12 : decode M_D_fullSize.2.1 12 = .ok (.istore_n 2, 1) := by decide +kernel
theorem d_D_fullSize_13 : decode M_D_fullSize.2.1 13 = .ok (.iload_n 2, 1) := by decide +kernel
theorem d_D_fullSize_14 : decode M_D_fullSize.2.1 14 = .ok (.aload_n 0, 1) := by decide +kernel
theorem d_D_fullSize_15 : decode M_D_fullSize.2.1 15 = .ok (.getfield 19, 3) := by decide +kernel
theorem d_D_fullSize_18 : decode M_D_fullSize.2.1 18 = .ok (.iload_n 1, 1) := by decide +kernel
theorem d_D_fullSize_19 : decode M_D_fullSize.2.1 19 = .ok (.iaload, 1) := by decide +kernel
theorem d_D_fullSize_20 : decode M_D_fullSize.2.1 20 = .ok (.if_icmp .ge 27, 3) := by decide +kernel
theorem d_D_fullSize_23 : decode M_D_fullSize.2.1 23 = .ok (.aload_n 0, 1) := by decide +kernel
theorem d_D_fullSize_24 : decode M_D_fullSize.2.1 24 = .ok (.getfield 60, 3) := by decide +kernel
theorem d_D_fullSize_27 : decode M_D_fullSize.2.1 27 = .ok (.iload_n 2, 1) := by decide +kernel
theorem d_D_fullSize_28 : decode M_D_fullSize.2.1 28 = .ok (.aload_n 0, 1) := by decide +kernel
theorem d_D_fullSize_29 : decode M_D_fullSize.2.1 29 = .ok (.getfield 23, 3) := by decide +kernel
theorem d_D_fullSize_32 : decode M_D_fullSize.2.1 32 = .ok (.sipush 400, 3) := by decide +kernel
theorem d_D_fullSize_35 : decode M_D_fullSize.2.1 35 = .ok (.iload_n 1, 1) := by decide +kernel
theorem d_D_fullSize_36 : decode M_D_fullSize.2.1 36 = .ok (.imul, 1) := by decide +kernel
theorem d_D_fullSize_37 : decode M_D_fullSize.2.1 37 = .ok (.iload_n 2, 1) := by decide +kernel
theorem d_D_fullSize_38 : decode M_D_fullSize.2.1 38 = .ok (.iadd, 1) := by decide +kernel
theorem d_D_fullSize_39 : decode M_D_fullSize.2.1 39 = .ok (.iaload, 1) := by decide +kernel
theorem d_D_fullSize_40 : decode M_D_fullSize.2.1 40 = .ok (.iastore, 1) := by decide +kernel
theorem d_D_fullSize_41 : decode M_D_fullSize.2.1 41 = .ok (.iinc 2 1, 3) := by decide +kernel
theorem d_D_fullSize_44 : decode M_D_fullSize.2.1 44 = .ok (.goto (-31), 3) := by decide +kernel
theorem d_D_fullSize_47 : decode M_D_fullSize.2.1 47 = .ok (.aload_n 0, 1) := by decide +kernel
end
section
theorem d_D_fullSize_48 : decode M_D_fullSize.2.1 48 = .ok (.getfield 60, 3) := by decide +kernel
theorem d_D_fullSize_51 : decode M_D_fullSize.2.1 51 = .ok (.aload_n 0, 1) := by decide +kernel
theorem d_D_fullSize_52 : decode M_D_fullSize.2.1 52 = .ok (.aload_n 0, 1) := by decide +kernel
theorem d_D_fullSize_53 : decode M_D_fullSize.2.1 53 = .ok (.getfield 60, 3) := by decide +kernel
theorem d_D_fullSize_56 : decode M_D_fullSize.2.1 56 = .ok (.aload_n 0, 1) := by decide +kernel
theorem d_D_fullSize_57 : decode M_D_fullSize.2.1 57 = .ok (.getfield 19, 3) := by decide +kernel
theorem d_D_fullSize_60 : decode M_D_fullSize.2.1 60 = .ok (.iload_n 1, 1) := by decide +kernel
theorem d_D_fullSize_61 : decode M_D_fullSize.2.1 61 = .ok (.iaload, 1) := by decide +kernel
theorem d_D_fullSize_62 : decode M_D_fullSize.2.1 62 = .ok (.invokevirtual 141, 3) := by decide +kernel
theorem d_D_fullSize_65 : decode M_D_fullSize.2.1 65 = .ok (.aload_n 0, 1) := by decide +kernel
theorem d_D_fullSize_66 : decode M_D_fullSize.2.1 66 = .ok (.getfield 16, 3) := by decide +kernel
theorem d_D_fullSize_69 : decode M_D_fullSize.2.1 69 = .ok (.invokestatic 147, 3) := by decide +kernel
theorem d_D_fullSize_72 : decode M_D_fullSize.2.1 72 = .ok (.ireturn, 1) := by decide +kernel
theorem d_D_parts_0 : decode M_D_parts.2.1 0 = .ok (.aload_n 0, 1) := by decide +kernel
theorem d_D_parts_1 : decode M_D_parts.2.1 1 = .ok (.getfield 7, 3) := by decide +kernel
theorem d_D_parts_4 : decode M_D_parts.2.1 4 = .ok (.iload_n 1, 1) := by decide +kernel
theorem d_D_parts_5 : decode M_D_parts.2.1 5 = .ok (.iaload, 1) := by decide +kernel
theorem d_D_parts_6 : decode M_D_parts.2.1 6 = .ok (.istore_n 2, 1) := by decide +kernel
theorem d_D_parts_7 : decode M_D_parts.2.1 7 = .ok (.iload_n 2, 1) := by decide +kernel
theorem d_D_parts_8 : decode M_D_parts.2.1 8 = .ok (.istore_n 3, 1) := by decide +kernel
theorem d_D_parts_9 : decode M_D_parts.2.1 9 = .ok (.iload_n 3, 1) := by decide +kernel
theorem d_D_parts_10 : decode M_D_parts.2.1 10 = .ok (.ifCond .le 90, 3) := by decide +kernel
theorem d_D_parts_13 : decode M_D_parts.2.1 13 = .ok (.iconst 1, 1) := by decide +kernel
theorem d_D_parts_14 : decode M_D_parts.2.1 14 = .ok (.istore 4, 2) := by decide +kernel
theorem d_D_parts_16 : decode M_D_parts.2.1 16 = .ok (.iconst 1, 1) := by decide +kernel
theorem d_D_parts_17 : decode M_D_parts.2.1 17 = .ok (.istore 5, 2) := by decide +kernel
theorem d_D_parts_19 : decode M_D_parts.2.1 19 = .ok (.iconst 1, 1) := by decide +kernel
theorem d_D_parts_20 : decode M_D_parts.2.1 20 = .ok (.istore 6, 2) := by decide +kernel
theorem d_D_parts_22 : decode M_D_parts.2.1 22 = .ok (.iload 6, 2) := by decide +kernel
theorem d_D_parts_24 : decode M_D_parts.2.1 24 = .ok (.iload_n 3, 1) := by decide +kernel
theorem d_D_parts_25 : decode M_D_parts.2.1 25 = .ok (.if_icmp .ge 33, 3) := by decide +kernel
theorem d_D_parts_28 : decode M_D_parts.2.1 28 = .ok (.aload_n 0, 1) := by decide +kernel
theorem d_D_parts_29 : decode M_D_parts.2.1 29 = .ok (.aload_n 0, 1) := by decide +kernel
theorem d_D_parts_30 : decode M_D_parts.2.1 30 = .ok (.getfield 57, 3) := by decide +kernel
theorem d_D_parts_33 : decode M_D_parts.2.1 33 = .ok (.iload 4, 2) := by decide +kernel
theorem d_D_parts_35 : decode M_D_parts.2.1 35 = .ok (.invokevirtual 174, 3) := by decide +kernel
theorem d_D_parts_38 : decode M_D_parts.2.1 38 = .ok (.istore 4, 2) := by decide +kernel
theorem d_D_parts_40 : decode M_D_parts.2.1 40 = .ok (.aload_n 0, 1) := by decide +kernel
theorem d_D_parts_41 : decode M_D_parts.2.1 41 = .ok (.aload_n 0, 1) := by decide +kernel
theorem d_D_parts_42 : decode M_D_parts.2.1 42 = .ok (.getfield 60, 3) := by decide +kernel
theorem d_D_parts_45 : decode M_D_parts.2.1 45 = .ok (.iload 5, 2) := by decide +kernel
theorem d_D_parts_47 : decode M_D_parts.2.1 47 = .ok (.invokevirtual 174, 3) := by decide +kernel
theorem d_D_parts_50 : decode M_D_parts.2.1 50 = .ok (.istore 5, 2) := by decide +kernel
theorem d_D_parts_52 : decode M_D_parts.2.1 52 = .ok (.iinc 6 1, 3) := by decide +kernel
theorem d_D_parts_55 : decode M_D_parts.2.1 55 = .ok (.goto (-33), 3) := by decide +kernel
theorem d_D_parts_58 : decode M_D_parts.2.1 58 = .ok (.aload_n 0, 1) := by decide +kernel
theorem d_D_parts_59 : decode M_D_parts.2.1 59 = .ok (.aload_n 0, 1) := by decide +kernel
theorem d_D_parts_60 : decode M_D_parts.2.1 60 = .ok (.getfield 57, 3) := by decide +kernel
theorem d_D_parts_63 : decode M_D_parts.2.1 63 = .ok (.iload 4, 2) := by decide +kernel
theorem d_D_parts_65 : decode M_D_parts.2.1 65 = .ok (.aload_n 0, 1) := by decide +kernel
theorem d_D_parts_66 : decode M_D_parts.2.1 66 = .ok (.aload_n 0, 1) := by decide +kernel
theorem d_D_parts_67 : decode M_D_parts.2.1 67 = .ok (.getfield 57, 3) := by decide +kernel
theorem d_D_parts_70 : decode M_D_parts.2.1 70 = .ok (.iload 4, 2) := by decide +kernel
theorem d_D_parts_72 : decode M_D_parts.2.1 72 = .ok (.invokevirtual 174, 3) := by decide +kernel
theorem d_D_parts_75 : decode M_D_parts.2.1 75 = .ok (.aload_n 0, 1) := by decide +kernel
theorem d_D_parts_76 : decode M_D_parts.2.1 76 = .ok (.getfield 60, 3) := by decide +kernel
theorem d_D_parts_79 : decode M_D_parts.2.1 79 = .ok (.iload 5, 2) := by decide +kernel
theorem d_D_parts_81 : decode M_D_parts.2.1 81 = .ok (.aload_n 0, 1) := by decide +kernel
theorem d_D_parts_82 : decode M_D_parts.2.1 82 = .ok (.aload_n 0, 1) := by decide +kernel
theorem d_D_parts_83 : decode M_D_parts.2.1 83 = .ok (.getfield 60, 3) := by decide +kernel
theorem d_D_parts_86 : decode M_D_parts.2.1 86 = .ok (.iload 5, 2) := by decide +kernel
theorem d_D_parts_88 : decode M_D_parts.2.1 88 = .ok (.invokevirtual 174, 3) := by decide +kernel
theorem d_D_parts_91 : decode M_D_parts.2.1 91 = .ok (.invokevirtual 177, 3) := by decide +kernel
theorem d_D_parts_94 : decode M_D_parts.2.1 94 = .ok (.iinc 3 (-1), 3) := by decide +kernel
theorem d_D_parts_97 : decode M_D_parts.2.1 97 = .ok (.goto (-88), 3) := by decide +kernel
theorem d_D_parts_100 : decode M_D_parts.2.1 100 = .ok (.iconst 0, 1) := by decide +kernel
theorem d_D_parts_101 : decode M_D_parts.2.1 101 = .ok (.ireturn, 1) := by decide +kernel
theorem d_D_partEnd_0 : decode M_D_partEnd.2.1 0 = .ok (.iconst 1, 1) := by decide +kernel
theorem d_D_partEnd_1 : decode M_D_partEnd.2.1 1 = .ok (.istore_n 3, 1) := by decide +kernel
theorem d_D_partEnd_2 : decode M_D_partEnd.2.1 2 = .ok (.iload_n 2, 1) := by decide +kernel
theorem d_D_partEnd_3 : decode M_D_partEnd.2.1 3 = .ok (.istore 4, 2) := by decide +kernel
theorem d_D_partEnd_5 : decode M_D_partEnd.2.1 5 = .ok (.iload_n 3, 1) := by decide +kernel
theorem d_D_partEnd_6 : decode M_D_partEnd.2.1 6 = .ok (.ifCond .le 70, 3) := by decide +kernel
theorem d_D_partEnd_9 : decode M_D_partEnd.2.1 9 = .ok (.aload_n 1, 1) := by decide +kernel
theorem d_D_partEnd_10 : decode M_D_partEnd.2.1 10 = .ok (.iload 4, 2) := by decide +kernel
theorem d_D_partEnd_12 : decode M_D_partEnd.2.1 12 = .ok (.iaload, 1) := by decide +kernel
theorem d_D_partEnd_13 : decode M_D_partEnd.2.1 13 = .ok (.iconst 2, 1) := by decide +kernel
theorem d_D_partEnd_14 : decode M_D_partEnd.2.1 14 = .ok (.ishr, 1) := by decide +kernel
theorem d_D_partEnd_15 : decode M_D_partEnd.2.1 15 = .ok (.istore 5, 2) := by decide +kernel
theorem d_D_partEnd_17 : decode M_D_partEnd.2.1 17 = .ok (.iload_n 3, 1) := by decide +kernel
theorem d_D_partEnd_18 : decode M_D_partEnd.2.1 18 = .ok (.aload_n 1, 1) := by decide +kernel
theorem d_D_partEnd_19 : decode M_D_partEnd.2.1 19 = .ok (.iload 4, 2) := by decide +kernel
theorem d_D_partEnd_21 : decode M_D_partEnd.2.1 21 = .ok (.iaload, 1) := by decide +kernel
theorem d_D_partEnd_22 : decode M_D_partEnd.2.1 22 = .ok (.invokestatic 129, 3) := by decide +kernel
theorem d_D_partEnd_25 : decode M_D_partEnd.2.1 25 = .ok (.iconst 1, 1) := by decide +kernel
theorem d_D_partEnd_26 : decode M_D_partEnd.2.1 26 = .ok (.if_icmp .ne 15, 3) := by decide +kernel
theorem d_D_partEnd_29 : decode M_D_partEnd.2.1 29 = .ok (.aload_n 0, 1) := by decide +kernel
theorem d_D_partEnd_30 : decode M_D_partEnd.2.1 30 = .ok (.getfield 7, 3) := by decide +kernel
theorem d_D_partEnd_33 : decode M_D_partEnd.2.1 33 = .ok (.iload 5, 2) := by decide +kernel
theorem d_D_partEnd_35 : decode M_D_partEnd.2.1 35 = .ok (.iaload, 1) := by decide +kernel
theorem d_D_partEnd_36 : decode M_D_partEnd.2.1 36 = .ok (.iconst 1, 1) := by decide +kernel
theorem d_D_partEnd_37 : decode M_D_partEnd.2.1 37 = .ok (.isub, 1) := by decide +kernel
theorem d_D_partEnd_38 : decode M_D_partEnd.2.1 38 = .ok (.goto 4, 3) := by decide +kernel
theorem d_D_partEnd_41 : decode M_D_partEnd.2.1 41 = .ok (.iconst (-1), 1) := by decide +kernel
theorem d_D_partEnd_42 : decode M_D_partEnd.2.1 42 = .ok (.iadd, 1) := by decide +kernel
theorem d_D_partEnd_43 : decode M_D_partEnd.2.1 43 = .ok (.istore_n 3, 1) := by decide +kernel
theorem d_D_partEnd_44 : decode M_D_partEnd.2.1 44 = .ok (.iload 4, 2) := by decide +kernel
theorem d_D_partEnd_46 : decode M_D_partEnd.2.1 46 = .ok (.aload_n 1, 1) := by decide +kernel
theorem d_D_partEnd_47 : decode M_D_partEnd.2.1 47 = .ok (.iload 4, 2) := by decide +kernel
theorem d_D_partEnd_49 : decode M_D_partEnd.2.1 49 = .ok (.iaload, 1) := by decide +kernel
theorem d_D_partEnd_50 : decode M_D_partEnd.2.1 50 = .ok (.invokestatic 129, 3) := by decide +kernel
theorem d_D_partEnd_53 : decode M_D_partEnd.2.1 53 = .ok (.iconst 2, 1) := by decide +kernel
theorem d_D_partEnd_54 : decode M_D_partEnd.2.1 54 = .ok (.if_icmp .ne 15, 3) := by decide +kernel
theorem d_D_partEnd_57 : decode M_D_partEnd.2.1 57 = .ok (.iconst 1, 1) := by decide +kernel
theorem d_D_partEnd_58 : decode M_D_partEnd.2.1 58 = .ok (.aload_n 0, 1) := by decide +kernel
theorem d_D_partEnd_59 : decode M_D_partEnd.2.1 59 = .ok (.getfield 16, 3) := by decide +kernel
theorem d_D_partEnd_62 : decode M_D_partEnd.2.1 62 = .ok (.iload 5, 2) := by decide +kernel
theorem d_D_partEnd_64 : decode M_D_partEnd.2.1 64 = .ok (.iaload, 1) := by decide +kernel
theorem d_D_partEnd_65 : decode M_D_partEnd.2.1 65 = .ok (.iadd, 1) := by decide +kernel
theorem d_D_partEnd_66 : decode M_D_partEnd.2.1 66 = .ok (.goto 4, 3) := by decide +kernel
theorem d_D_partEnd_69 : decode M_D_partEnd.2.1 69 = .ok (.iconst 1, 1) := by decide +kernel
theorem d_D_partEnd_70 : decode M_D_partEnd.2.1 70 = .ok (.iadd, 1) := by decide +kernel
theorem d_D_partEnd_71 : decode M_D_partEnd.2.1 71 = .ok (.istore 4, 2) := by decide +kernel
theorem d_D_partEnd_73 : decode M_D_partEnd.2.1 73 = .ok (.goto (-68), 3) := by decide +kernel
theorem d_D_partEnd_76 : decode M_D_partEnd.2.1 76 = .ok (.iload 4, 2) := by decide +kernel
theorem d_D_partEnd_78 : decode M_D_partEnd.2.1 78 = .ok (.ireturn, 1) := by decide +kernel
theorem d_D_read_0 : decode M_D_read.2.1 0 = .ok (.aload_n 0, 1) := by decide +kernel
theorem d_D_read_1 : decode M_D_read.2.1 1 = .ok (.iload_n 1, 1) := by decide +kernel
theorem d_D_read_2 : decode M_D_read.2.1 2 = .ok (.iload_n 1, 1) := by decide +kernel
theorem d_D_read_3 : decode M_D_read.2.1 3 = .ok (.invokevirtual 205, 3) := by decide +kernel
theorem d_D_read_6 : decode M_D_read.2.1 6 = .ok (.ifCond .eq 5, 3) := by decide +kernel
theorem d_D_read_9 : decode M_D_read.2.1 9 = .ok (.iconst 0, 1) := by decide +kernel
theorem d_D_read_10 : decode M_D_read.2.1 10 = .ok (.ireturn, 1) := by decide +kernel
theorem d_D_read_11 : decode M_D_read.2.1 11 = .ok (.aload_n 0, 1) := by decide +kernel
theorem d_D_read_12 : decode M_D_read.2.1 12 = .ok (.aload_n 0, 1) := by decide +kernel
theorem d_D_read_13 : decode M_D_read.2.1 13 = .ok (.aload_n 0, 1) := by decide +kernel
theorem d_D_read_14 : decode M_D_read.2.1 14 = .ok (.getfield 57, 3) := by decide +kernel
theorem d_D_read_17 : decode M_D_read.2.1 17 = .ok (.iload_n 1, 1) := by decide +kernel
theorem d_D_read_18 : decode M_D_read.2.1 18 = .ok (.invokevirtual 209, 3) := by decide +kernel
theorem d_D_read_21 : decode M_D_read.2.1 21 = .ok (.putfield 154, 3) := by decide +kernel
theorem d_D_read_24 : decode M_D_read.2.1 24 = .ok (.iconst 0, 1) := by decide +kernel
theorem d_D_read_25 : decode M_D_read.2.1 25 = .ok (.istore_n 2, 1) := by decide +kernel
theorem d_D_read_26 : decode M_D_read.2.1 26 = .ok (.iload_n 2, 1) := by decide +kernel
theorem d_D_read_27 : decode M_D_read.2.1 27 = .ok (.sipush 324, 3) := by decide +kernel
theorem d_D_read_30 : decode M_D_read.2.1 30 = .ok (.if_icmp .ge 16, 3) := by decide +kernel
theorem d_D_read_33 : decode M_D_read.2.1 33 = .ok (.aload_n 0, 1) := by decide +kernel
theorem d_D_read_34 : decode M_D_read.2.1 34 = .ok (.getfield 94, 3) := by decide +kernel
theorem d_D_read_37 : decode M_D_read.2.1 37 = .ok (.iload_n 2, 1) := by decide +kernel
theorem d_D_read_38 : decode M_D_read.2.1 38 = .ok (.iconst (-1), 1) := by decide +kernel
theorem d_D_read_39 : decode M_D_read.2.1 39 = .ok (.iastore, 1) := by decide +kernel
theorem d_D_read_40 : decode M_D_read.2.1 40 = .ok (.iinc 2 1, 3) := by decide +kernel
theorem d_D_read_43 : decode M_D_read.2.1 43 = .ok (.goto (-17), 3) := by decide +kernel
theorem d_D_read_46 : decode M_D_read.2.1 46 = .ok (.aload_n 0, 1) := by decide +kernel
theorem d_D_read_47 : decode M_D_read.2.1 47 = .ok (.iconst 0, 1) := by decide +kernel
theorem d_D_read_48 : decode M_D_read.2.1 48 = .ok (.putfield 221, 3) := by decide +kernel
theorem d_D_read_51 : decode M_D_read.2.1 51 = .ok (.aload_n 0, 1) := by decide +kernel
theorem d_D_read_52 : decode M_D_read.2.1 52 = .ok (.aload_n 0, 1) := by decide +kernel
theorem d_D_read_53 : decode M_D_read.2.1 53 = .ok (.getfield 154, 3) := by decide +kernel
theorem d_D_read_56 : decode M_D_read.2.1 56 = .ok (.putfield 224, 3) := by decide +kernel
theorem d_D_read_59 : decode M_D_read.2.1 59 = .ok (.iconst 0, 1) := by decide +kernel
theorem d_D_read_60 : decode M_D_read.2.1 60 = .ok (.istore_n 2, 1) := by decide +kernel
theorem d_D_read_61 : decode M_D_read.2.1 61 = .ok (.iload_n 2, 1) := by decide +kernel
theorem d_D_read_62 : decode M_D_read.2.1 62 = .ok (.aload_n 0, 1) := by decide +kernel
theorem d_D_read_63 : decode M_D_read.2.1 63 = .ok (.getfield 154, 3) := by decide +kernel
theorem d_D_read_66 : decode M_D_read.2.1 66 = .ok (.if_icmp .ge 163, 3) := by decide +kernel
theorem d_D_read_69 : decode M_D_read.2.1 69 = .ok (.aload_n 0, 1) := by decide +kernel
theorem d_D_read_70 : decode M_D_read.2.1 70 = .ok (.getfield 91, 3) := by decide +kernel
theorem d_D_read_73 : decode M_D_read.2.1 73 = .ok (.iload_n 2, 1) := by decide +kernel
theorem d_D_read_74 : decode M_D_read.2.1 74 = .ok (.aload_n 0, 1) := by decide +kernel
theorem d_D_read_75 : decode M_D_read.2.1 75 = .ok (.getfield 57, 3) := by decide +kernel
theorem d_D_read_78 : decode M_D_read.2.1 78 = .ok (.iload_n 2, 1) := by decide +kernel
theorem d_D_read_79 : decode M_D_read.2.1 79 = .ok (.iaload, 1) := by decide +kernel
theorem d_D_read_80 : decode M_D_read.2.1 80 = .ok (.iastore, 1) := by decide +kernel
theorem d_D_read_81 : decode M_D_read.2.1 81 = .ok (.aload_n 0, 1) := by decide +kernel
theorem d_D_read_82 : decode M_D_read.2.1 82 = .ok (.getfield 57, 3) := by decide +kernel
theorem d_D_read_85 : decode M_D_read.2.1 85 = .ok (.iload_n 2, 1) := by decide +kernel
theorem d_D_read_86 : decode M_D_read.2.1 86 = .ok (.iaload, 1) := by decide +kernel
theorem d_D_read_87 : decode M_D_read.2.1 87 = .ok (.iconst 2, 1) := by decide +kernel
theorem d_D_read_88 : decode M_D_read.2.1 88 = .ok (.ishr, 1) := by decide +kernel
theorem d_D_read_89 : decode M_D_read.2.1 89 = .ok (.istore_n 3, 1) := by decide +kernel
theorem d_D_read_90 : decode M_D_read.2.1 90 = .ok (.aload_n 0, 1) := by decide +kernel
theorem d_D_read_91 : decode M_D_read.2.1 91 = .ok (.getfield 57, 3) := by decide +kernel
theorem d_D_read_94 : decode M_D_read.2.1 94 = .ok (.iload_n 2, 1) := by decide +kernel
theorem d_D_read_95 : decode M_D_read.2.1 95 = .ok (.iaload, 1) := by decide +kernel
theorem d_D_read_96 : decode M_D_read.2.1 96 = .ok (.invokestatic 129, 3) := by decide +kernel
theorem d_D_read_99 : decode M_D_read.2.1 99 = .ok (.iconst 2, 1) := by decide +kernel
theorem d_D_read_100 : decode M_D_read.2.1 100 = .ok (.if_icmp .eq 6, 3) := by decide +kernel
theorem d_D_read_103 : decode M_D_read.2.1 103 = .ok (.goto 120, 3) := by decide +kernel
theorem d_D_read_106 : decode M_D_read.2.1 106 = .ok (.aload_n 0, 1) := by decide +kernel
theorem d_D_read_107 : decode M_D_read.2.1 107 = .ok (.getfield 94, 3) := by decide +kernel
theorem d_D_read_110 : decode M_D_read.2.1 110 = .ok (.iload_n 3, 1) := by decide +kernel
theorem d_D_read_111 : decode M_D_read.2.1 111 = .ok (.iaload, 1) := by decide +kernel
theorem d_D_read_112 : decode M_D_read.2.1 112 = .ok (.ifCond .ge 35, 3) := by decide +kernel
theorem d_D_read_115 : decode M_D_read.2.1 115 = .ok (.aload_n 0, 1) := by decide +kernel
theorem d_D_read_116 : decode M_D_read.2.1 116 = .ok (.getfield 94, 3) := by decide +kernel
theorem d_D_read_119 : decode M_D_read.2.1 119 = .ok (.iload_n 3, 1) := by decide +kernel
theorem d_D_read_120 : decode M_D_read.2.1 120 = .ok (.aload_n 0, 1) := by decide +kernel
theorem d_D_read_121 : decode M_D_read.2.1 121 = .ok (.getfield 221, 3) := by decide +kernel
theorem d_D_read_124 : decode M_D_read.2.1 124 = .ok (.iastore, 1) := by decide +kernel
theorem d_D_read_125 : decode M_D_read.2.1 125 = .ok (.aload_n 0, 1) := by decide +kernel
theorem d_D_read_126 : decode M_D_read.2.1 126 = .ok (.dup, 1) := by decide +kernel
theorem d_D_read_127 : decode M_D_read.2.1 127 = .ok (.getfield 221, 3) := by decide +kernel
theorem d_D_read_130 : decode M_D_read.2.1 130 = .ok (.iconst 1, 1) := by decide +kernel
theorem d_D_read_131 : decode M_D_read.2.1 131 = .ok (.iadd, 1) := by decide +kernel
theorem d_D_read_132 : decode M_D_read.2.1 132 = .ok (.putfield 221, 3) := by decide +kernel
theorem d_D_read_135 : decode M_D_read.2.1 135 = .ok (.aload_n 0, 1) := by decide +kernel
theorem d_D_read_136 : decode M_D_read.2.1 136 = .ok (.iload_n 3, 1) := by decide +kernel
theorem d_D_read_137 : decode M_D_read.2.1 137 = .ok (.aload_n 0, 1) := by decide +kernel
theorem d_D_read_138 : decode M_D_read.2.1 138 = .ok (.getfield 57, 3) := by decide +kernel
theorem d_D_read_141 : decode M_D_read.2.1 141 = .ok (.iload_n 2, 1) := by decide +kernel
theorem d_D_read_142 : decode M_D_read.2.1 142 = .ok (.iconst 1, 1) := by decide +kernel
theorem d_D_read_143 : decode M_D_read.2.1 143 = .ok (.iadd, 1) := by decide +kernel
theorem d_D_read_144 : decode M_D_read.2.1 144 = .ok (.invokevirtual 227, 3) := by decide +kernel
theorem d_D_read_147 : decode M_D_read.2.1 147 = .ok (.aload_n 0, 1) := by decide +kernel
theorem d_D_read_148 : decode M_D_read.2.1 148 = .ok (.getfield 91, 3) := by decide +kernel
theorem d_D_read_151 : decode M_D_read.2.1 151 = .ok (.iload_n 2, 1) := by decide +kernel
theorem d_D_read_152 : decode M_D_read.2.1 152 = .ok (.iconst 4, 1) := by decide +kernel
theorem d_D_read_153 : decode M_D_read.2.1 153 = .ok (.aload_n 0, 1) := by decide +kernel
theorem d_D_read_154 : decode M_D_read.2.1 154 = .ok (.getfield 94, 3) := by decide +kernel
theorem d_D_read_157 : decode M_D_read.2.1 157 = .ok (.iload_n 3, 1) := by decide +kernel
theorem d_D_read_158 : decode M_D_read.2.1 158 = .ok (.iaload, 1) := by decide +kernel
theorem d_D_read_159 : decode M_D_read.2.1 159 = .ok (.imul, 1) := by decide +kernel
theorem d_D_read_160 : decode M_D_read.2.1 160 = .ok (.iconst 2, 1) := by decide +kernel
theorem d_D_read_161 : decode M_D_read.2.1 161 = .ok (.iadd, 1) := by decide +kernel
theorem d_D_read_162 : decode M_D_read.2.1 162 = .ok (.iastore, 1) := by decide +kernel
theorem d_D_read_163 : decode M_D_read.2.1 163 = .ok (.iconst 0, 1) := by decide +kernel
theorem d_D_read_164 : decode M_D_read.2.1 164 = .ok (.istore 4, 2) := by decide +kernel
theorem d_D_read_166 : decode M_D_read.2.1 166 = .ok (.iload 4, 2) := by decide +kernel
theorem d_D_read_168 : decode M_D_read.2.1 168 = .ok (.aload_n 0, 1) := by decide +kernel
theorem d_D_read_169 : decode M_D_read.2.1 169 = .ok (.getfield 16, 3) := by decide +kernel
theorem d_D_read_172 : decode M_D_read.2.1 172 = .ok (.iload_n 3, 1) := by decide +kernel
theorem d_D_read_173 : decode M_D_read.2.1 173 = .ok (.iaload, 1) := by decide +kernel
theorem d_D_read_174 : decode M_D_read.2.1 174 = .ok (.if_icmp .ge 40, 3) := by decide +kernel
theorem d_D_read_177 : decode M_D_read.2.1 177 = .ok (.aload_n 0, 1) := by decide +kernel
theorem d_D_read_178 : decode M_D_read.2.1 178 = .ok (.getfield 91, 3) := by decide +kernel
theorem d_D_read_181 : decode M_D_read.2.1 181 = .ok (.iload_n 2, 1) := by decide +kernel
theorem d_D_read_182 : decode M_D_read.2.1 182 = .ok (.iconst 1, 1) := by decide +kernel
theorem d_D_read_183 : decode M_D_read.2.1 183 = .ok (.iadd, 1) := by decide +kernel
theorem d_D_read_184 : decode M_D_read.2.1 184 = .ok (.iload 4, 2) := by decide +kernel
theorem d_D_read_186 : decode M_D_read.2.1 186 = .ok (.iadd, 1) := by decide +kernel
theorem d_D_read_187 : decode M_D_read.2.1 187 = .ok (.aload_n 0, 1) := by decide +kernel
theorem d_D_read_188 : decode M_D_read.2.1 188 = .ok (.getfield 57, 3) := by decide +kernel
theorem d_D_read_191 : decode M_D_read.2.1 191 = .ok (.iload_n 2, 1) := by decide +kernel
theorem d_D_read_192 : decode M_D_read.2.1 192 = .ok (.iconst 1, 1) := by decide +kernel
theorem d_D_read_193 : decode M_D_read.2.1 193 = .ok (.iadd, 1) := by decide +kernel
theorem d_D_read_194 : decode M_D_read.2.1 194 = .ok (.aload_n 0, 1) := by decide +kernel
theorem d_D_read_195 : decode M_D_read.2.1 195 = .ok (.getfield 97, 3) := by decide +kernel
theorem d_D_read_198 : decode M_D_read.2.1 198 = .ok (.iconst 4, 1) := by decide +kernel
theorem d_D_read_199 : decode M_D_read.2.1 199 = .ok (.iload_n 3, 1) := by decide +kernel
theorem d_D_read_200 : decode M_D_read.2.1 200 = .ok (.imul, 1) := by decide +kernel
theorem d_D_read_201 : decode M_D_read.2.1 201 = .ok (.iload 4, 2) := by decide +kernel
theorem d_D_read_203 : decode M_D_read.2.1 203 = .ok (.iadd, 1) := by decide +kernel
theorem d_D_read_204 : decode M_D_read.2.1 204 = .ok (.iaload, 1) := by decide +kernel
theorem d_D_read_205 : decode M_D_read.2.1 205 = .ok (.iadd, 1) := by decide +kernel
theorem d_D_read_206 : decode M_D_read.2.1 206 = .ok (.iaload, 1) := by decide +kernel
theorem d_D_read_207 : decode M_D_read.2.1 207 = .ok (.iastore, 1) := by decide +kernel
theorem d_D_read_208 : decode M_D_read.2.1 208 = .ok (.iinc 4 1, 3) := by decide +kernel
theorem d_D_read_211 : decode M_D_read.2.1 211 = .ok (.goto (-45), 3) := by decide +kernel
theorem d_D_read_214 : decode M_D_read.2.1 214 = .ok (.iload_n 2, 1) := by decide +kernel
theorem d_D_read_215 : decode M_D_read.2.1 215 = .ok (.aload_n 0, 1) := by decide +kernel
theorem d_D_read_216 : decode M_D_read.2.1 216 = .ok (.getfield 16, 3) := by decide +kernel
theorem d_D_read_219 : decode M_D_read.2.1 219 = .ok (.iload_n 3, 1) := by decide +kernel
theorem d_D_read_220 : decode M_D_read.2.1 220 = .ok (.iaload, 1) := by decide +kernel
theorem d_D_read_221 : decode M_D_read.2.1 221 = .ok (.iadd, 1) := by decide +kernel
theorem d_D_read_222 : decode M_D_read.2.1 222 = .ok (.istore_n 2, 1) := by decide +kernel
theorem d_D_read_223 : decode M_D_read.2.1 223 = .ok (.iinc 2 1, 3) := by decide +kernel
theorem d_D_read_226 : decode M_D_read.2.1 226 = .ok (.goto (-165), 3) := by decide +kernel
theorem d_D_read_229 : decode M_D_read.2.1 229 = .ok (.aload_n 0, 1) := by decide +kernel
theorem d_D_read_230 : decode M_D_read.2.1 230 = .ok (.getfield 224, 3) := by decide +kernel
theorem d_D_read_233 : decode M_D_read.2.1 233 = .ok (.ireturn, 1) := by decide +kernel
theorem d_D_rank_0 : decode M_D_rank.2.1 0 = .ok (.iconst 0, 1) := by decide +kernel
theorem d_D_rank_1 : decode M_D_rank.2.1 1 = .ok (.istore 4, 2) := by decide +kernel
theorem d_D_rank_3 : decode M_D_rank.2.1 3 = .ok (.iload 4, 2) := by decide +kernel
theorem d_D_rank_5 : decode M_D_rank.2.1 5 = .ok (.aload_n 0, 1) := by decide +kernel
theorem d_D_rank_6 : decode M_D_rank.2.1 6 = .ok (.getfield 16, 3) := by decide +kernel
theorem d_D_rank_9 : decode M_D_rank.2.1 9 = .ok (.iload_n 1, 1) := by decide +kernel
theorem d_D_rank_10 : decode M_D_rank.2.1 10 = .ok (.iaload, 1) := by decide +kernel
theorem d_D_rank_11 : decode M_D_rank.2.1 11 = .ok (.if_icmp .ge 70, 3) := by decide +kernel
theorem d_D_rank_14 : decode M_D_rank.2.1 14 = .ok (.iconst 0, 1) := by decide +kernel
theorem d_D_rank_15 : decode M_D_rank.2.1 15 = .ok (.istore 5, 2) := by decide +kernel
theorem d_D_rank_17 : decode M_D_rank.2.1 17 = .ok (.iconst 0, 1) := by decide +kernel
theorem d_D_rank_18 : decode M_D_rank.2.1 18 = .ok (.istore 6, 2) := by decide +kernel
theorem d_D_rank_20 : decode M_D_rank.2.1 20 = .ok (.iload 6, 2) := by decide +kernel
theorem d_D_rank_22 : decode M_D_rank.2.1 22 = .ok (.aload_n 0, 1) := by decide +kernel
theorem d_D_rank_23 : decode M_D_rank.2.1 23 = .ok (.getfield 16, 3) := by decide +kernel
theorem d_D_rank_26 : decode M_D_rank.2.1 26 = .ok (.iload_n 1, 1) := by decide +kernel
theorem d_D_rank_27 : decode M_D_rank.2.1 27 = .ok (.iaload, 1) := by decide +kernel
theorem d_D_rank_28 : decode M_D_rank.2.1 28 = .ok (.if_icmp .ge 34, 3) := by decide +kernel
theorem d_D_rank_31 : decode M_D_rank.2.1 31 = .ok (.iload 5, 2) := by decide +kernel
theorem d_D_rank_33 : decode M_D_rank.2.1 33 = .ok (.aload_n 2, 1) := by decide +kernel
theorem d_D_rank_34 : decode M_D_rank.2.1 34 = .ok (.iload_n 3, 1) := by decide +kernel
theorem d_D_rank_35 : decode M_D_rank.2.1 35 = .ok (.iload 6, 2) := by decide +kernel
theorem d_D_rank_37 : decode M_D_rank.2.1 37 = .ok (.iadd, 1) := by decide +kernel
theorem d_D_rank_38 : decode M_D_rank.2.1 38 = .ok (.iaload, 1) := by decide +kernel
theorem d_D_rank_39 : decode M_D_rank.2.1 39 = .ok (.aload_n 2, 1) := by decide +kernel
theorem d_D_rank_40 : decode M_D_rank.2.1 40 = .ok (.iload_n 3, 1) := by decide +kernel
theorem d_D_rank_41 : decode M_D_rank.2.1 41 = .ok (.iload 4, 2) := by decide +kernel
theorem d_D_rank_43 : decode M_D_rank.2.1 43 = .ok (.iadd, 1) := by decide +kernel
theorem d_D_rank_44 : decode M_D_rank.2.1 44 = .ok (.iaload, 1) := by decide +kernel
theorem d_D_rank_45 : decode M_D_rank.2.1 45 = .ok (.if_icmp .ge 7, 3) := by decide +kernel
theorem d_D_rank_48 : decode M_D_rank.2.1 48 = .ok (.iconst 1, 1) := by decide +kernel
theorem d_D_rank_49 : decode M_D_rank.2.1 49 = .ok (.goto 4, 3) := by decide +kernel
theorem d_D_rank_52 : decode M_D_rank.2.1 52 = .ok (.iconst 0, 1) := by decide +kernel
theorem d_D_rank_53 : decode M_D_rank.2.1 53 = .ok (.iadd, 1) := by decide +kernel
theorem d_D_rank_54 : decode M_D_rank.2.1 54 = .ok (.istore 5, 2) := by decide +kernel
theorem d_D_rank_56 : decode M_D_rank.2.1 56 = .ok (.iinc 6 1, 3) := by decide +kernel
theorem d_D_rank_59 : decode M_D_rank.2.1 59 = .ok (.goto (-39), 3) := by decide +kernel
theorem d_D_rank_62 : decode M_D_rank.2.1 62 = .ok (.aload_n 0, 1) := by decide +kernel
theorem d_D_rank_63 : decode M_D_rank.2.1 63 = .ok (.getfield 97, 3) := by decide +kernel
theorem d_D_rank_66 : decode M_D_rank.2.1 66 = .ok (.iconst 4, 1) := by decide +kernel
theorem d_D_rank_67 : decode M_D_rank.2.1 67 = .ok (.iload_n 1, 1) := by decide +kernel
theorem d_D_rank_68 : decode M_D_rank.2.1 68 = .ok (.imul, 1) := by decide +kernel
theorem d_D_rank_69 : decode M_D_rank.2.1 69 = .ok (.iload 5, 2) := by decide +kernel
theorem d_D_rank_71 : decode M_D_rank.2.1 71 = .ok (.iadd, 1) := by decide +kernel
theorem d_D_rank_72 : decode M_D_rank.2.1 72 = .ok (.iload 4, 2) := by decide +kernel
theorem d_D_rank_74 : decode M_D_rank.2.1 74 = .ok (.iastore, 1) := by decide +kernel
theorem d_D_rank_75 : decode M_D_rank.2.1 75 = .ok (.iinc 4 1, 3) := by decide +kernel
theorem d_D_rank_78 : decode M_D_rank.2.1 78 = .ok (.goto (-75), 3) := by decide +kernel
theorem d_D_rank_81 : decode M_D_rank.2.1 81 = .ok (.return_, 1) := by decide +kernel
theorem d_D_item_0 : decode M_D_item.2.1 0 = .ok (.aload_n 0, 1) := by decide +kernel
theorem d_D_item_1 : decode M_D_item.2.1 1 = .ok (.iload_n 1, 1) := by decide +kernel
theorem d_D_item_2 : decode M_D_item.2.1 2 = .ok (.ifCond .lt 11, 3) := by decide +kernel
theorem d_D_item_5 : decode M_D_item.2.1 5 = .ok (.iload_n 1, 1) := by decide +kernel
theorem d_D_item_6 : decode M_D_item.2.1 6 = .ok (.aload_n 0, 1) := by decide +kernel
theorem d_D_item_7 : decode M_D_item.2.1 7 = .ok (.getfield 224, 3) := by decide +kernel
theorem d_D_item_10 : decode M_D_item.2.1 10 = .ok (.if_icmp .lt 7, 3) := by decide +kernel
theorem d_D_item_13 : decode M_D_item.2.1 13 = .ok (.iconst 1, 1) := by decide +kernel
theorem d_D_item_14 : decode M_D_item.2.1 14 = .ok (.goto 4, 3) := by decide +kernel
theorem d_D_item_17 : decode M_D_item.2.1 17 = .ok (.iconst 0, 1) := by decide +kernel
theorem d_D_item_18 : decode M_D_item.2.1 18 = .ok (.iconst 0, 1) := by decide +kernel
theorem d_D_item_19 : decode M_D_item.2.1 19 = .ok (.invokevirtual 104, 3) := by decide +kernel
theorem d_D_item_22 : decode M_D_item.2.1 22 = .ok (.ifCond .eq 5, 3) := by decide +kernel
theorem d_D_item_25 : decode M_D_item.2.1 25 = .ok (.iconst 0, 1) := by decide +kernel
theorem d_D_item_26 : decode M_D_item.2.1 26 = .ok (.ireturn, 1) := by decide +kernel
theorem d_D_item_27 : decode M_D_item.2.1 27 = .ok (.aload_n 0, 1) := by decide +kernel
theorem d_D_item_28 : decode M_D_item.2.1 28 = .ok (.getfield 91, 3) := by decide +kernel
theorem d_D_item_31 : decode M_D_item.2.1 31 = .ok (.iload_n 1, 1) := by decide +kernel
theorem d_D_item_32 : decode M_D_item.2.1 32 = .ok (.iaload, 1) := by decide +kernel
theorem d_D_item_33 : decode M_D_item.2.1 33 = .ok (.ireturn, 1) := by decide +kernel
theorem d_D_isSame_0 : decode M_D_isSame.2.1 0 = .ok (.aload_n 0, 1) := by decide +kernel
theorem d_D_isSame_1 : decode M_D_isSame.2.1 1 = .ok (.iload_n 1, 1) := by decide +kernel
theorem d_D_isSame_2 : decode M_D_isSame.2.1 2 = .ok (.iload_n 2, 1) := by decide +kernel
theorem d_D_isSame_3 : decode M_D_isSame.2.1 3 = .ok (.invokevirtual 205, 3) := by decide +kernel
theorem d_D_isSame_6 : decode M_D_isSame.2.1 6 = .ok (.ifCond .eq 5, 3) := by decide +kernel
theorem d_D_isSame_9 : decode M_D_isSame.2.1 9 = .ok (.iconst 0, 1) := by decide +kernel
theorem d_D_isSame_10 : decode M_D_isSame.2.1 10 = .ok (.ireturn, 1) := by decide +kernel
theorem d_D_isSame_11 : decode M_D_isSame.2.1 11 = .ok (.aload_n 0, 1) := by decide +kernel
theorem d_D_isSame_12 : decode M_D_isSame.2.1 12 = .ok (.aload_n 0, 1) := by decide +kernel
theorem d_D_isSame_13 : decode M_D_isSame.2.1 13 = .ok (.aload_n 0, 1) := by decide +kernel
theorem d_D_isSame_14 : decode M_D_isSame.2.1 14 = .ok (.getfield 57, 3) := by decide +kernel
theorem d_D_isSame_17 : decode M_D_isSame.2.1 17 = .ok (.iload_n 1, 1) := by decide +kernel
theorem d_D_isSame_18 : decode M_D_isSame.2.1 18 = .ok (.invokevirtual 209, 3) := by decide +kernel
theorem d_D_isSame_21 : decode M_D_isSame.2.1 21 = .ok (.putfield 154, 3) := by decide +kernel
theorem d_D_isSame_24 : decode M_D_isSame.2.1 24 = .ok (.aload_n 0, 1) := by decide +kernel
theorem d_D_isSame_25 : decode M_D_isSame.2.1 25 = .ok (.aload_n 0, 1) := by decide +kernel
theorem d_D_isSame_26 : decode M_D_isSame.2.1 26 = .ok (.aload_n 0, 1) := by decide +kernel
theorem d_D_isSame_27 : decode M_D_isSame.2.1 27 = .ok (.getfield 60, 3) := by decide +kernel
theorem d_D_isSame_30 : decode M_D_isSame.2.1 30 = .ok (.iload_n 2, 1) := by decide +kernel
theorem d_D_isSame_31 : decode M_D_isSame.2.1 31 = .ok (.invokevirtual 209, 3) := by decide +kernel
theorem d_D_isSame_34 : decode M_D_isSame.2.1 34 = .ok (.putfield 157, 3) := by decide +kernel
theorem d_D_isSame_37 : decode M_D_isSame.2.1 37 = .ok (.aload_n 0, 1) := by decide +kernel
theorem d_D_isSame_38 : decode M_D_isSame.2.1 38 = .ok (.getfield 154, 3) := by decide +kernel
theorem d_D_isSame_41 : decode M_D_isSame.2.1 41 = .ok (.aload_n 0, 1) := by decide +kernel
theorem d_D_isSame_42 : decode M_D_isSame.2.1 42 = .ok (.getfield 157, 3) := by decide +kernel
theorem d_D_isSame_45 : decode M_D_isSame.2.1 45 = .ok (.if_icmp .ne 7, 3) := by decide +kernel
theorem d_D_isSame_48 : decode M_D_isSame.2.1 48 = .ok (.iconst 1, 1) := by decide +kernel
theorem d_D_isSame_49 : decode M_D_isSame.2.1 49 = .ok (.goto 4, 3) := by decide +kernel
theorem d_D_isSame_52 : decode M_D_isSame.2.1 52 = .ok (.iconst 0, 1) := by decide +kernel
theorem d_D_isSame_53 : decode M_D_isSame.2.1 53 = .ok (.istore_n 3, 1) := by decide +kernel
theorem d_D_isSame_54 : decode M_D_isSame.2.1 54 = .ok (.iconst 0, 1) := by decide +kernel
theorem d_D_isSame_55 : decode M_D_isSame.2.1 55 = .ok (.istore 4, 2) := by decide +kernel
theorem d_D_isSame_57 : decode M_D_isSame.2.1 57 = .ok (.iload 4, 2) := by decide +kernel
theorem d_D_isSame_59 : decode M_D_isSame.2.1 59 = .ok (.aload_n 0, 1) := by decide +kernel
theorem d_D_isSame_60 : decode M_D_isSame.2.1 60 = .ok (.getfield 154, 3) := by decide +kernel
theorem d_D_isSame_63 : decode M_D_isSame.2.1 63 = .ok (.if_icmp .ge 36, 3) := by decide +kernel
theorem d_D_isSame_66 : decode M_D_isSame.2.1 66 = .ok (.iload_n 3, 1) := by decide +kernel
theorem d_D_isSame_67 : decode M_D_isSame.2.1 67 = .ok (.ifCond .eq 32, 3) := by decide +kernel
theorem d_D_isSame_70 : decode M_D_isSame.2.1 70 = .ok (.aload_n 0, 1) := by decide +kernel
theorem d_D_isSame_71 : decode M_D_isSame.2.1 71 = .ok (.getfield 57, 3) := by decide +kernel
theorem d_D_isSame_74 : decode M_D_isSame.2.1 74 = .ok (.iload 4, 2) := by decide +kernel
theorem d_D_isSame_76 : decode M_D_isSame.2.1 76 = .ok (.iaload, 1) := by decide +kernel
theorem d_D_isSame_77 : decode M_D_isSame.2.1 77 = .ok (.aload_n 0, 1) := by decide +kernel
theorem d_D_isSame_78 : decode M_D_isSame.2.1 78 = .ok (.getfield 60, 3) := by decide +kernel
theorem d_D_isSame_81 : decode M_D_isSame.2.1 81 = .ok (.iload 4, 2) := by decide +kernel
theorem d_D_isSame_83 : decode M_D_isSame.2.1 83 = .ok (.iaload, 1) := by decide +kernel
theorem d_D_isSame_84 : decode M_D_isSame.2.1 84 = .ok (.if_icmp .ne 7, 3) := by decide +kernel
theorem d_D_isSame_87 : decode M_D_isSame.2.1 87 = .ok (.iconst 1, 1) := by decide +kernel
theorem d_D_isSame_88 : decode M_D_isSame.2.1 88 = .ok (.goto 4, 3) := by decide +kernel
theorem d_D_isSame_91 : decode M_D_isSame.2.1 91 = .ok (.iconst 0, 1) := by decide +kernel
theorem d_D_isSame_92 : decode M_D_isSame.2.1 92 = .ok (.istore_n 3, 1) := by decide +kernel
theorem d_D_isSame_93 : decode M_D_isSame.2.1 93 = .ok (.iinc 4 1, 3) := by decide +kernel
theorem d_D_isSame_96 : decode M_D_isSame.2.1 96 = .ok (.goto (-39), 3) := by decide +kernel
theorem d_D_isSame_99 : decode M_D_isSame.2.1 99 = .ok (.iload_n 3, 1) := by decide +kernel
theorem d_D_isSame_100 : decode M_D_isSame.2.1 100 = .ok (.ireturn, 1) := by decide +kernel
theorem d_D_size_0 : decode M_D_size.2.1 0 = .ok (.aload_n 0, 1) := by decide +kernel
theorem d_D_size_1 : decode M_D_size.2.1 1 = .ok (.iload_n 1, 1) := by decide +kernel
theorem d_D_size_2 : decode M_D_size.2.1 2 = .ok (.ifCond .lt 11, 3) := by decide +kernel
theorem d_D_size_5 : decode M_D_size.2.1 5 = .ok (.iload_n 1, 1) := by decide +kernel
theorem d_D_size_6 : decode M_D_size.2.1 6 = .ok (.aload_n 0, 1) := by decide +kernel
theorem d_D_size_7 : decode M_D_size.2.1 7 = .ok (.getfield 111, 3) := by decide +kernel
theorem d_D_size_10 : decode M_D_size.2.1 10 = .ok (.if_icmp .lt 7, 3) := by decide +kernel
theorem d_D_size_13 : decode M_D_size.2.1 13 = .ok (.iconst 1, 1) := by decide +kernel
theorem d_D_size_14 : decode M_D_size.2.1 14 = .ok (.goto 4, 3) := by decide +kernel
theorem d_D_size_17 : decode M_D_size.2.1 17 = .ok (.iconst 0, 1) := by decide +kernel
theorem d_D_size_18 : decode M_D_size.2.1 18 = .ok (.iconst 0, 1) := by decide +kernel
theorem d_D_size_19 : decode M_D_size.2.1 19 = .ok (.invokevirtual 104, 3) := by decide +kernel
theorem d_D_size_22 : decode M_D_size.2.1 22 = .ok (.ifCond .eq 5, 3) := by decide +kernel
theorem d_D_size_25 : decode M_D_size.2.1 25 = .ok (.iconst 0, 1) := by decide +kernel
theorem d_D_size_26 : decode M_D_size.2.1 26 = .ok (.ireturn, 1) := by decide +kernel
theorem d_D_size_27 : decode M_D_size.2.1 27 = .ok (.aload_n 0, 1) := by decide +kernel
theorem d_D_size_28 : decode M_D_size.2.1 28 = .ok (.iload_n 1, 1) := by decide +kernel
theorem d_D_size_29 : decode M_D_size.2.1 29 = .ok (.invokevirtual 199, 3) := by decide +kernel
theorem d_D_size_32 : decode M_D_size.2.1 32 = .ok (.ireturn, 1) := by decide +kernel
theorem d_D_uses_0 : decode M_D_uses.2.1 0 = .ok (.aload_n 0, 1) := by decide +kernel
theorem d_D_uses_1 : decode M_D_uses.2.1 1 = .ok (.iload_n 1, 1) := by decide +kernel
theorem d_D_uses_2 : decode M_D_uses.2.1 2 = .ok (.ifCond .lt 11, 3) := by decide +kernel
theorem d_D_uses_5 : decode M_D_uses.2.1 5 = .ok (.iload_n 1, 1) := by decide +kernel
theorem d_D_uses_6 : decode M_D_uses.2.1 6 = .ok (.aload_n 0, 1) := by decide +kernel
theorem d_D_uses_7 : decode M_D_uses.2.1 7 = .ok (.getfield 111, 3) := by decide +kernel
theorem d_D_uses_10 : decode M_D_uses.2.1 10 = .ok (.if_icmp .lt 7, 3) := by decide +kernel
theorem d_D_uses_13 : decode M_D_uses.2.1 13 = .ok (.iconst 1, 1) := by decide +kernel
theorem d_D_uses_14 : decode M_D_uses.2.1 14 = .ok (.goto 4, 3) := by decide +kernel
theorem d_D_uses_17 : decode M_D_uses.2.1 17 = .ok (.iconst 0, 1) := by decide +kernel
theorem d_D_uses_18 : decode M_D_uses.2.1 18 = .ok (.iconst 0, 1) := by decide +kernel
theorem d_D_uses_19 : decode M_D_uses.2.1 19 = .ok (.invokevirtual 104, 3) := by decide +kernel
theorem d_D_uses_22 : decode M_D_uses.2.1 22 = .ok (.ifCond .eq 5, 3) := by decide +kernel
theorem d_D_uses_25 : decode M_D_uses.2.1 25 = .ok (.iconst 0, 1) := by decide +kernel
theorem d_D_uses_26 : decode M_D_uses.2.1 26 = .ok (.ireturn, 1) := by decide +kernel
theorem d_D_uses_27 : decode M_D_uses.2.1 27 = .ok (.aload_n 0, 1) := by decide +kernel
theorem d_D_uses_28 : decode M_D_uses.2.1 28 = .ok (.getfield 26, 3) := by decide +kernel
theorem d_D_uses_31 : decode M_D_uses.2.1 31 = .ok (.iload_n 1, 1) := by decide +kernel
theorem d_D_uses_32 : decode M_D_uses.2.1 32 = .ok (.baload, 1) := by decide +kernel
theorem d_D_uses_33 : decode M_D_uses.2.1 33 = .ok (.ifCond .ne 14, 3) := by decide +kernel
theorem d_D_uses_36 : decode M_D_uses.2.1 36 = .ok (.iconst 1, 1) := by decide +kernel
theorem d_D_uses_37 : decode M_D_uses.2.1 37 = .ok (.aload_n 0, 1) := by decide +kernel
theorem d_D_uses_38 : decode M_D_uses.2.1 38 = .ok (.getfield 16, 3) := by decide +kernel
theorem d_D_uses_41 : decode M_D_uses.2.1 41 = .ok (.iload_n 1, 1) := by decide +kernel
theorem d_D_uses_42 : decode M_D_uses.2.1 42 = .ok (.iaload, 1) := by decide +kernel
theorem d_D_uses_43 : decode M_D_uses.2.1 43 = .ok (.ishl, 1) := by decide +kernel
theorem d_D_uses_44 : decode M_D_uses.2.1 44 = .ok (.iconst 1, 1) := by decide +kernel
theorem d_D_uses_45 : decode M_D_uses.2.1 45 = .ok (.isub, 1) := by decide +kernel
theorem d_D_uses_46 : decode M_D_uses.2.1 46 = .ok (.ireturn, 1) := by decide +kernel
theorem d_D_uses_47 : decode M_D_uses.2.1 47 = .ok (.iconst 0, 1) := by decide +kernel
theorem d_D_uses_48 : decode M_D_uses.2.1 48 = .ok (.istore_n 2, 1) := by decide +kernel
theorem d_D_uses_49 : decode M_D_uses.2.1 49 = .ok (.iload_n 2, 1) := by decide +kernel
theorem d_D_uses_50 : decode M_D_uses.2.1 50 = .ok (.aload_n 0, 1) := by decide +kernel
theorem d_D_uses_51 : decode M_D_uses.2.1 51 = .ok (.getfield 19, 3) := by decide +kernel
theorem d_D_uses_54 : decode M_D_uses.2.1 54 = .ok (.iload_n 1, 1) := by decide +kernel
theorem d_D_uses_55 : decode M_D_uses.2.1 55 = .ok (.iaload, 1) := by decide +kernel
theorem d_D_uses_56 : decode M_D_uses.2.1 56 = .ok (.if_icmp .ge 27, 3) := by decide +kernel
theorem d_D_uses_59 : decode M_D_uses.2.1 59 = .ok (.aload_n 0, 1) := by decide +kernel
theorem d_D_uses_60 : decode M_D_uses.2.1 60 = .ok (.getfield 60, 3) := by decide +kernel
theorem d_D_uses_63 : decode M_D_uses.2.1 63 = .ok (.iload_n 2, 1) := by decide +kernel
theorem d_D_uses_64 : decode M_D_uses.2.1 64 = .ok (.aload_n 0, 1) := by decide +kernel
theorem d_D_uses_65 : decode M_D_uses.2.1 65 = .ok (.getfield 23, 3) := by decide +kernel
theorem d_D_uses_68 : decode M_D_uses.2.1 68 = .ok (.sipush 400, 3) := by decide +kernel
theorem d_D_uses_71 : decode M_D_uses.2.1 71 = .ok (.iload_n 1, 1) := by decide +kernel
theorem d_D_uses_72 : decode M_D_uses.2.1 72 = .ok (.imul, 1) := by decide +kernel
theorem d_D_uses_73 : decode M_D_uses.2.1 73 = .ok (.iload_n 2, 1) := by decide +kernel
theorem d_D_uses_74 : decode M_D_uses.2.1 74 = .ok (.iadd, 1) := by decide +kernel
theorem d_D_uses_75 : decode M_D_uses.2.1 75 = .ok (.iaload, 1) := by decide +kernel
theorem d_D_uses_76 : decode M_D_uses.2.1 76 = .ok (.iastore, 1) := by decide +kernel
theorem d_D_uses_77 : decode M_D_uses.2.1 77 = .ok (.iinc 2 1, 3) := by decide +kernel
theorem d_D_uses_80 : decode M_D_uses.2.1 80 = .ok (.goto (-31), 3) := by decide +kernel
theorem d_D_uses_83 : decode M_D_uses.2.1 83 = .ok (.aload_n 0, 1) := by decide +kernel
theorem d_D_uses_84 : decode M_D_uses.2.1 84 = .ok (.aload_n 0, 1) := by decide +kernel
theorem d_D_uses_85 : decode M_D_uses.2.1 85 = .ok (.aload_n 0, 1) := by decide +kernel
theorem d_D_uses_86 : decode M_D_uses.2.1 86 = .ok (.getfield 60, 3) := by decide +kernel
theorem d_D_uses_89 : decode M_D_uses.2.1 89 = .ok (.aload_n 0, 1) := by decide +kernel
theorem d_D_uses_90 : decode M_D_uses.2.1 90 = .ok (.getfield 19, 3) := by decide +kernel
theorem d_D_uses_93 : decode M_D_uses.2.1 93 = .ok (.iload_n 1, 1) := by decide +kernel
theorem d_D_uses_94 : decode M_D_uses.2.1 94 = .ok (.iaload, 1) := by decide +kernel
theorem d_D_uses_95 : decode M_D_uses.2.1 95 = .ok (.invokevirtual 141, 3) := by decide +kernel
theorem d_D_uses_98 : decode M_D_uses.2.1 98 = .ok (.putfield 157, 3) := by decide +kernel
theorem d_D_uses_101 : decode M_D_uses.2.1 101 = .ok (.aload_n 0, 1) := by decide +kernel
theorem d_D_uses_102 : decode M_D_uses.2.1 102 = .ok (.aload_n 0, 1) := by decide +kernel
theorem d_D_uses_103 : decode M_D_uses.2.1 103 = .ok (.getfield 60, 3) := by decide +kernel
theorem d_D_uses_106 : decode M_D_uses.2.1 106 = .ok (.iconst 0, 1) := by decide +kernel
theorem d_D_uses_107 : decode M_D_uses.2.1 107 = .ok (.aload_n 0, 1) := by decide +kernel
theorem d_D_uses_108 : decode M_D_uses.2.1 108 = .ok (.getfield 157, 3) := by decide +kernel
theorem d_D_uses_111 : decode M_D_uses.2.1 111 = .ok (.invokevirtual 133, 3) := by decide +kernel
theorem d_D_uses_114 : decode M_D_uses.2.1 114 = .ok (.iconst 0, 1) := by decide +kernel
theorem d_D_uses_115 : decode M_D_uses.2.1 115 = .ok (.istore_n 2, 1) := by decide +kernel
theorem d_D_uses_116 : decode M_D_uses.2.1 116 = .ok (.iconst 0, 1) := by decide +kernel
theorem d_D_uses_117 : decode M_D_uses.2.1 117 = .ok (.istore_n 3, 1) := by decide +kernel
theorem d_D_uses_118 : decode M_D_uses.2.1 118 = .ok (.iload_n 3, 1) := by decide +kernel
theorem d_D_uses_119 : decode M_D_uses.2.1 119 = .ok (.aload_n 0, 1) := by decide +kernel
theorem d_D_uses_120 : decode M_D_uses.2.1 120 = .ok (.getfield 157, 3) := by decide +kernel
theorem d_D_uses_123 : decode M_D_uses.2.1 123 = .ok (.if_icmp .ge 50, 3) := by decide +kernel
theorem d_D_uses_126 : decode M_D_uses.2.1 126 = .ok (.aload_n 0, 1) := by decide +kernel
theorem d_D_uses_127 : decode M_D_uses.2.1 127 = .ok (.getfield 60, 3) := by decide +kernel
theorem d_D_uses_130 : decode M_D_uses.2.1 130 = .ok (.iload_n 3, 1) := by decide +kernel
theorem d_D_uses_131 : decode M_D_uses.2.1 131 = .ok (.iaload, 1) := by decide +kernel
theorem d_D_uses_132 : decode M_D_uses.2.1 132 = .ok (.iconst 2, 1) := by decide +kernel
theorem d_D_uses_133 : decode M_D_uses.2.1 133 = .ok (.ishr, 1) := by decide +kernel
theorem d_D_uses_134 : decode M_D_uses.2.1 134 = .ok (.aload_n 0, 1) := by decide +kernel
theorem d_D_uses_135 : decode M_D_uses.2.1 135 = .ok (.getfield 66, 3) := by decide +kernel
theorem d_D_uses_138 : decode M_D_uses.2.1 138 = .ok (.iload_n 3, 1) := by decide +kernel
theorem d_D_uses_139 : decode M_D_uses.2.1 139 = .ok (.iaload, 1) := by decide +kernel
theorem d_D_uses_140 : decode M_D_uses.2.1 140 = .ok (.isub, 1) := by decide +kernel
theorem d_D_uses_141 : decode M_D_uses.2.1 141 = .ok (.istore 4, 2) := by decide +kernel
theorem d_D_uses_143 : decode M_D_uses.2.1 143 = .ok (.aload_n 0, 1) := by decide +kernel
theorem d_D_uses_144 : decode M_D_uses.2.1 144 = .ok (.getfield 60, 3) := by decide +kernel
theorem d_D_uses_147 : decode M_D_uses.2.1 147 = .ok (.iload_n 3, 1) := by decide +kernel
theorem d_D_uses_148 : decode M_D_uses.2.1 148 = .ok (.iaload, 1) := by decide +kernel
theorem d_D_uses_149 : decode M_D_uses.2.1 149 = .ok (.invokestatic 129, 3) := by decide +kernel
theorem d_D_uses_152 : decode M_D_uses.2.1 152 = .ok (.ifCond .ne 15, 3) := by decide +kernel
theorem d_D_uses_155 : decode M_D_uses.2.1 155 = .ok (.iload 4, 2) := by decide +kernel
theorem d_D_uses_157 : decode M_D_uses.2.1 157 = .ok (.ifCond .lt 10, 3) := by decide +kernel
theorem d_D_uses_160 : decode M_D_uses.2.1 160 = .ok (.iload_n 2, 1) := by decide +kernel
theorem d_D_uses_161 : decode M_D_uses.2.1 161 = .ok (.iconst 1, 1) := by decide +kernel
theorem d_D_uses_162 : decode M_D_uses.2.1 162 = .ok (.iload 4, 2) := by decide +kernel
theorem d_D_uses_164 : decode M_D_uses.2.1 164 = .ok (.ishl, 1) := by decide +kernel
theorem d_D_uses_165 : decode M_D_uses.2.1 165 = .ok (.ior, 1) := by decide +kernel
theorem d_D_uses_166 : decode M_D_uses.2.1 166 = .ok (.istore_n 2, 1) := by decide +kernel
theorem d_D_uses_167 : decode M_D_uses.2.1 167 = .ok (.iinc 3 1, 3) := by decide +kernel
theorem d_D_uses_170 : decode M_D_uses.2.1 170 = .ok (.goto (-52), 3) := by decide +kernel
theorem d_D_uses_173 : decode M_D_uses.2.1 173 = .ok (.iload_n 2, 1) := by decide +kernel
theorem d_D_uses_174 : decode M_D_uses.2.1 174 = .ok (.ireturn, 1) := by decide +kernel
theorem d_D_empty_0 : decode M_D_empty.2.1 0 = .ok (.aload_n 0, 1) := by decide +kernel
theorem d_D_empty_1 : decode M_D_empty.2.1 1 = .ok (.iconst 0, 1) := by decide +kernel
theorem d_D_empty_2 : decode M_D_empty.2.1 2 = .ok (.putfield 100, 3) := by decide +kernel
theorem d_D_empty_5 : decode M_D_empty.2.1 5 = .ok (.iconst 0, 1) := by decide +kernel
theorem d_D_empty_6 : decode M_D_empty.2.1 6 = .ok (.istore_n 1, 1) := by decide +kernel
theorem d_D_empty_7 : decode M_D_empty.2.1 7 = .ok (.iconst 0, 1) := by decide +kernel
theorem d_D_empty_8 : decode M_D_empty.2.1 8 = .ok (.istore_n 2, 1) := by decide +kernel
theorem d_D_empty_9 : decode M_D_empty.2.1 9 = .ok (.iload_n 2, 1) := by decide +kernel
theorem d_D_empty_10 : decode M_D_empty.2.1 10 = .ok (.aload_n 0, 1) := by decide +kernel
theorem d_D_empty_11 : decode M_D_empty.2.1 11 = .ok (.getfield 111, 3) := by decide +kernel
theorem d_D_empty_14 : decode M_D_empty.2.1 14 = .ok (.if_icmp .ge 26, 3) := by decide +kernel
theorem d_D_empty_17 : decode M_D_empty.2.1 17 = .ok (.iload_n 1, 1) := by decide +kernel
theorem d_D_empty_18 : decode M_D_empty.2.1 18 = .ok (.aload_n 0, 1) := by decide +kernel
theorem d_D_empty_19 : decode M_D_empty.2.1 19 = .ok (.getfield 26, 3) := by decide +kernel
theorem d_D_empty_22 : decode M_D_empty.2.1 22 = .ok (.iload_n 2, 1) := by decide +kernel
theorem d_D_empty_23 : decode M_D_empty.2.1 23 = .ok (.baload, 1) := by decide +kernel
theorem d_D_empty_24 : decode M_D_empty.2.1 24 = .ok (.ifCond .eq 7, 3) := by decide +kernel
theorem d_D_empty_27 : decode M_D_empty.2.1 27 = .ok (.iconst 1, 1) := by decide +kernel
theorem d_D_empty_28 : decode M_D_empty.2.1 28 = .ok (.goto 4, 3) := by decide +kernel
theorem d_D_empty_31 : decode M_D_empty.2.1 31 = .ok (.iconst 0, 1) := by decide +kernel
theorem d_D_empty_32 : decode M_D_empty.2.1 32 = .ok (.iadd, 1) := by decide +kernel
theorem d_D_empty_33 : decode M_D_empty.2.1 33 = .ok (.istore_n 1, 1) := by decide +kernel
theorem d_D_empty_34 : decode M_D_empty.2.1 34 = .ok (.iinc 2 1, 3) := by decide +kernel
theorem d_D_empty_37 : decode M_D_empty.2.1 37 = .ok (.goto (-28), 3) := by decide +kernel
theorem d_D_empty_40 : decode M_D_empty.2.1 40 = .ok (.iconst 0, 1) := by decide +kernel
theorem d_D_empty_41 : decode M_D_empty.2.1 41 = .ok (.istore_n 2, 1) := by decide +kernel
theorem d_D_empty_42 : decode M_D_empty.2.1 42 = .ok (.iload_n 2, 1) := by decide +kernel
theorem d_D_empty_43 : decode M_D_empty.2.1 43 = .ok (.sipush 324, 3) := by decide +kernel
theorem d_D_empty_46 : decode M_D_empty.2.1 46 = .ok (.if_icmp .ge 16, 3) := by decide +kernel
theorem d_D_empty_49 : decode M_D_empty.2.1 49 = .ok (.aload_n 0, 1) := by decide +kernel
theorem d_D_empty_50 : decode M_D_empty.2.1 50 = .ok (.getfield 26, 3) := by decide +kernel
theorem d_D_empty_53 : decode M_D_empty.2.1 53 = .ok (.iload_n 2, 1) := by decide +kernel
theorem d_D_empty_54 : decode M_D_empty.2.1 54 = .ok (.iconst 0, 1) := by decide +kernel
theorem d_D_empty_55 : decode M_D_empty.2.1 55 = .ok (.bastore, 1) := by decide +kernel
theorem d_D_empty_56 : decode M_D_empty.2.1 56 = .ok (.iinc 2 1, 3) := by decide +kernel
theorem d_D_empty_59 : decode M_D_empty.2.1 59 = .ok (.goto (-17), 3) := by decide +kernel
theorem d_D_empty_62 : decode M_D_empty.2.1 62 = .ok (.aload_n 0, 1) := by decide +kernel
theorem d_D_empty_63 : decode M_D_empty.2.1 63 = .ok (.iconst 0, 1) := by decide +kernel
theorem d_D_empty_64 : decode M_D_empty.2.1 64 = .ok (.putfield 144, 3) := by decide +kernel
theorem d_D_empty_67 : decode M_D_empty.2.1 67 = .ok (.iload_n 1, 1) := by decide +kernel
theorem d_D_empty_68 : decode M_D_empty.2.1 68 = .ok (.ireturn, 1) := by decide +kernel
theorem d_D_count_0 : decode M_D_count.2.1 0 = .ok (.aload_n 0, 1) := by decide +kernel
theorem d_D_count_1 : decode M_D_count.2.1 1 = .ok (.iconst 0, 1) := by decide +kernel
theorem d_D_count_2 : decode M_D_count.2.1 2 = .ok (.putfield 100, 3) := by decide +kernel
theorem d_D_count_5 : decode M_D_count.2.1 5 = .ok (.iconst 0, 1) := by decide +kernel
theorem d_D_count_6 : decode M_D_count.2.1 6 = .ok (.istore_n 2, 1) := by decide +kernel
theorem d_D_count_7 : decode M_D_count.2.1 7 = .ok (.iload_n 1, 1) := by decide +kernel
theorem d_D_count_8 : decode M_D_count.2.1 8 = .ok (.tableswitch 121 0 7 #[48, 53, 58, 63, 101, 106, 111, 116], 48) := by decide +kernel
theorem d_D_count_56 : decode M_D_count.2.1 56 = .ok (.aload_n 0, 1) := by decide +kernel
theorem d_D_count_57 : decode M_D_count.2.1 57 = .ok (.getfield 108, 3) := by decide +kernel
theorem d_D_count_60 : decode M_D_count.2.1 60 = .ok (.ireturn, 1) := by decide +kernel
theorem d_D_count_61 : decode M_D_count.2.1 61 = .ok (.aload_n 0, 1) := by decide +kernel
theorem d_D_count_62 : decode M_D_count.2.1 62 = .ok (.getfield 111, 3) := by decide +kernel
theorem d_D_count_65 : decode M_D_count.2.1 65 = .ok (.ireturn, 1) := by decide +kernel
theorem d_D_count_66 : decode M_D_count.2.1 66 = .ok (.aload_n 0, 1) := by decide +kernel
theorem d_D_count_67 : decode M_D_count.2.1 67 = .ok (.getfield 144, 3) := by decide +kernel
theorem d_D_count_70 : decode M_D_count.2.1 70 = .ok (.ireturn, 1) := by decide +kernel
theorem d_D_count_71 : decode M_D_count.2.1 71 = .ok (.iconst 0, 1) := by decide +kernel
theorem d_D_count_72 : decode M_D_count.2.1 72 = .ok (.istore_n 3, 1) := by decide +kernel
theorem d_D_count_73 : decode M_D_count.2.1 73 = .ok (.iload_n 3, 1) := by decide +kernel
theorem d_D_count_74 : decode M_D_count.2.1 74 = .ok (.bipush 24, 2) := by decide +kernel
theorem d_D_count_76 : decode M_D_count.2.1 76 = .ok (.aload_n 0, 1) := by decide +kernel
theorem d_D_count_77 : decode M_D_count.2.1 77 = .ok (.getfield 144, 3) := by decide +kernel
theorem d_D_count_80 : decode M_D_count.2.1 80 = .ok (.iadd, 1) := by decide +kernel
theorem d_D_count_81 : decode M_D_count.2.1 81 = .ok (.if_icmp .ge 26, 3) := by decide +kernel
theorem d_D_count_84 : decode M_D_count.2.1 84 = .ok (.iload_n 2, 1) := by decide +kernel
theorem d_D_count_85 : decode M_D_count.2.1 85 = .ok (.aload_n 0, 1) := by decide +kernel
theorem d_D_count_86 : decode M_D_count.2.1 86 = .ok (.getfield 26, 3) := by decide +kernel
theorem d_D_count_89 : decode M_D_count.2.1 89 = .ok (.iload_n 3, 1) := by decide +kernel
theorem d_D_count_90 : decode M_D_count.2.1 90 = .ok (.baload, 1) := by decide +kernel
theorem d_D_count_91 : decode M_D_count.2.1 91 = .ok (.ifCond .eq 7, 3) := by decide +kernel
theorem d_D_count_94 : decode M_D_count.2.1 94 = .ok (.iconst 1, 1) := by decide +kernel
theorem d_D_count_95 : decode M_D_count.2.1 95 = .ok (.goto 4, 3) := by decide +kernel
theorem d_D_count_98 : decode M_D_count.2.1 98 = .ok (.iconst 0, 1) := by decide +kernel
theorem d_D_count_99 : decode M_D_count.2.1 99 = .ok (.iadd, 1) := by decide +kernel
theorem d_D_count_100 : decode M_D_count.2.1 100 = .ok (.istore_n 2, 1) := by decide +kernel
theorem d_D_count_101 : decode M_D_count.2.1 101 = .ok (.iinc 3 1, 3) := by decide +kernel
theorem d_D_count_104 : decode M_D_count.2.1 104 = .ok (.goto (-31), 3) := by decide +kernel
theorem d_D_count_107 : decode M_D_count.2.1 107 = .ok (.iload_n 2, 1) := by decide +kernel
theorem d_D_count_108 : decode M_D_count.2.1 108 = .ok (.ireturn, 1) := by decide +kernel
theorem d_D_count_109 : decode M_D_count.2.1 109 = .ok (.aload_n 0, 1) := by decide +kernel
theorem d_D_count_110 : decode M_D_count.2.1 110 = .ok (.getfield 224, 3) := by decide +kernel
theorem d_D_count_113 : decode M_D_count.2.1 113 = .ok (.ireturn, 1) := by decide +kernel
theorem d_D_count_114 : decode M_D_count.2.1 114 = .ok (.aload_n 0, 1) := by decide +kernel
theorem d_D_count_115 : decode M_D_count.2.1 115 = .ok (.getfield 221, 3) := by decide +kernel
theorem d_D_count_118 : decode M_D_count.2.1 118 = .ok (.ireturn, 1) := by decide +kernel
theorem d_D_count_119 : decode M_D_count.2.1 119 = .ok (.aload_n 0, 1) := by decide +kernel
theorem d_D_count_120 : decode M_D_count.2.1 120 = .ok (.getfield 215, 3) := by decide +kernel
theorem d_D_count_123 : decode M_D_count.2.1 123 = .ok (.ireturn, 1) := by decide +kernel
theorem d_D_count_124 : decode M_D_count.2.1 124 = .ok (.aload_n 0, 1) := by decide +kernel
theorem d_D_count_125 : decode M_D_count.2.1 125 = .ok (.getfield 218, 3) := by decide +kernel
theorem d_D_count_128 : decode M_D_count.2.1 128 = .ok (.ireturn, 1) := by decide +kernel
theorem d_D_count_129 : decode M_D_count.2.1 129 = .ok (.iconst (-1), 1) := by decide +kernel
theorem d_D_count_130 : decode M_D_count.2.1 130 = .ok (.ireturn, 1) := by decide +kernel
end
section
theorem d_G_init_0 : decode M_G_init.2.1 0 = .ok (.aload_n 0, 1) := by decide +kernel
theorem d_G_init_1 : decode M_G_init.2.1 1 = .ok (.invokespecial 3, 3) := by decide +kernel
theorem d_G_init_4 : decode M_G_init.2.1 4 = .ok (.aload_n 0, 1) := by decide +kernel
theorem d_G_init_5 : decode M_G_init.2.1 5 = .ok (.sipush 324, 3) := by decide +kernel
theorem d_G_init_8 : decode M_G_init.2.1 8 = .ok (.newarray .int, 2) := by decide +kernel
theorem d_G_init_10 : decode M_G_init.2.1 10 = .ok (.putfield 9, 3) := by decide +kernel
theorem d_G_init_13 : decode M_G_init.2.1 13 = .ok (.aload_n 0, 1) := by decide +kernel
theorem d_G_init_14 : decode M_G_init.2.1 14 = .ok (.sipush 324, 3) := by decide +kernel
theorem d_G_init_17 : decode M_G_init.2.1 17 = .ok (.newarray .int, 2) := by decide +kernel
theorem d_G_init_19 : decode M_G_init.2.1 19 = .ok (.putfield 15, 3) := by decide +kernel
theorem d_G_init_22 : decode M_G_init.2.1 22 = .ok (.aload_n 0, 1) := by decide +kernel
theorem d_G_init_23 : decode M_G_init.2.1 23 = .ok (.sipush 324, 3) := by decide +kernel
theorem d_G_init_26 : decode M_G_init.2.1 26 = .ok (.newarray .int, 2) := by decide +kernel
theorem d_G_init_28 : decode M_G_init.2.1 28 = .ok (.putfield 18, 3) := by decide +kernel
theorem d_G_init_31 : decode M_G_init.2.1 31 = .ok (.aload_n 0, 1) := by decide +kernel
theorem d_G_init_32 : decode M_G_init.2.1 32 = .ok (.sipush 324, 3) := by decide +kernel
theorem d_G_init_35 : decode M_G_init.2.1 35 = .ok (.newarray .int, 2) := by decide +kernel
theorem d_G_init_37 : decode M_G_init.2.1 37 = .ok (.putfield 21, 3) := by decide +kernel
theorem d_G_init_40 : decode M_G_init.2.1 40 = .ok (.aload_n 0, 1) := by decide +kernel
theorem d_G_init_41 : decode M_G_init.2.1 41 = .ok (.sipush 324, 3) := by decide +kernel
theorem d_G_init_44 : decode M_G_init.2.1 44 = .ok (.newarray .int, 2) := by decide +kernel
theorem d_G_init_46 : decode M_G_init.2.1 46 = .ok (.putfield 24, 3) := by decide +kernel
theorem d_G_init_49 : decode M_G_init.2.1 49 = .ok (.aload_n 0, 1) := by decide +kernel
theorem d_G_init_50 : decode M_G_init.2.1 50 = .ok (.aload_n 1, 1) := by decide +kernel
theorem d_G_init_51 : decode M_G_init.2.1 51 = .ok (.putfield 27, 3) := by decide +kernel
theorem d_G_init_54 : decode M_G_init.2.1 54 = .ok (.return_, 1) := by decide +kernel
theorem d_G_isOpen_0 : decode M_G_isOpen.2.1 0 = .ok (.aload_n 0, 1) := by decide +kernel
theorem d_G_isOpen_1 : decode M_G_isOpen.2.1 1 = .ok (.getfield 15, 3) := by decide +kernel
theorem d_G_isOpen_4 : decode M_G_isOpen.2.1 4 = .ok (.iload_n 1, 1) := by decide +kernel
theorem d_G_isOpen_5 : decode M_G_isOpen.2.1 5 = .ok (.invokestatic 42, 3) := by decide +kernel
theorem d_G_isOpen_8 : decode M_G_isOpen.2.1 8 = .ok (.ifCond .ne 7, 3) := by decide +kernel
theorem d_G_isOpen_11 : decode M_G_isOpen.2.1 11 = .ok (.iconst 1, 1) := by decide +kernel
theorem d_G_isOpen_12 : decode M_G_isOpen.2.1 12 = .ok (.goto 4, 3) := by decide +kernel
theorem d_G_isOpen_15 : decode M_G_isOpen.2.1 15 = .ok (.iconst 0, 1) := by decide +kernel
theorem d_G_isOpen_16 : decode M_G_isOpen.2.1 16 = .ok (.ireturn, 1) := by decide +kernel
theorem d_G_undoTo_0 : decode M_G_undoTo.2.1 0 = .ok (.aload_n 0, 1) := by decide +kernel
theorem d_G_undoTo_1 : decode M_G_undoTo.2.1 1 = .ok (.getfield 66, 3) := by decide +kernel
theorem d_G_undoTo_4 : decode M_G_undoTo.2.1 4 = .ok (.iconst 1, 1) := by decide +kernel
theorem d_G_undoTo_5 : decode M_G_undoTo.2.1 5 = .ok (.isub, 1) := by decide +kernel
theorem d_G_undoTo_6 : decode M_G_undoTo.2.1 6 = .ok (.istore_n 3, 1) := by decide +kernel
theorem d_G_undoTo_7 : decode M_G_undoTo.2.1 7 = .ok (.iload_n 3, 1) := by decide +kernel
theorem d_G_undoTo_8 : decode M_G_undoTo.2.1 8 = .ok (.iload_n 1, 1) := by decide +kernel
theorem d_G_undoTo_9 : decode M_G_undoTo.2.1 9 = .ok (.if_icmp .lt 45, 3) := by decide +kernel
theorem d_G_undoTo_12 : decode M_G_undoTo.2.1 12 = .ok (.aload_n 0, 1) := by decide +kernel
theorem d_G_undoTo_13 : decode M_G_undoTo.2.1 13 = .ok (.getfield 24, 3) := by decide +kernel
theorem d_G_undoTo_16 : decode M_G_undoTo.2.1 16 = .ok (.iload_n 3, 1) := by decide +kernel
theorem d_G_undoTo_17 : decode M_G_undoTo.2.1 17 = .ok (.invokestatic 42, 3) := by decide +kernel
theorem d_G_undoTo_20 : decode M_G_undoTo.2.1 20 = .ok (.istore 4, 2) := by decide +kernel
theorem d_G_undoTo_22 : decode M_G_undoTo.2.1 22 = .ok (.aload_n 0, 1) := by decide +kernel
theorem d_G_undoTo_23 : decode M_G_undoTo.2.1 23 = .ok (.getfield 27, 3) := by decide +kernel
theorem d_G_undoTo_26 : decode M_G_undoTo.2.1 26 = .ok (.aload_n 0, 1) := by decide +kernel
theorem d_G_undoTo_27 : decode M_G_undoTo.2.1 27 = .ok (.getfield 15, 3) := by decide +kernel
theorem d_G_undoTo_30 : decode M_G_undoTo.2.1 30 = .ok (.iload 4, 2) := by decide +kernel
theorem d_G_undoTo_32 : decode M_G_undoTo.2.1 32 = .ok (.invokestatic 42, 3) := by decide +kernel
theorem d_G_undoTo_35 : decode M_G_undoTo.2.1 35 = .ok (.putfield 46, 3) := by decide +kernel
theorem d_G_undoTo_38 : decode M_G_undoTo.2.1 38 = .ok (.aload_n 0, 1) := by decide +kernel
theorem d_G_undoTo_39 : decode M_G_undoTo.2.1 39 = .ok (.getfield 15, 3) := by decide +kernel
theorem d_G_undoTo_42 : decode M_G_undoTo.2.1 42 = .ok (.iload 4, 2) := by decide +kernel
theorem d_G_undoTo_44 : decode M_G_undoTo.2.1 44 = .ok (.iconst 0, 1) := by decide +kernel
theorem d_G_undoTo_45 : decode M_G_undoTo.2.1 45 = .ok (.invokestatic 35, 3) := by decide +kernel
theorem d_G_undoTo_48 : decode M_G_undoTo.2.1 48 = .ok (.iinc 3 (-1), 3) := by decide +kernel
theorem d_G_undoTo_51 : decode M_G_undoTo.2.1 51 = .ok (.goto (-44), 3) := by decide +kernel
theorem d_G_undoTo_54 : decode M_G_undoTo.2.1 54 = .ok (.aload_n 0, 1) := by decide +kernel
theorem d_G_undoTo_55 : decode M_G_undoTo.2.1 55 = .ok (.iload_n 1, 1) := by decide +kernel
theorem d_G_undoTo_56 : decode M_G_undoTo.2.1 56 = .ok (.putfield 66, 3) := by decide +kernel
theorem d_G_undoTo_59 : decode M_G_undoTo.2.1 59 = .ok (.aload_n 0, 1) := by decide +kernel
theorem d_G_undoTo_60 : decode M_G_undoTo.2.1 60 = .ok (.iload_n 2, 1) := by decide +kernel
theorem d_G_undoTo_61 : decode M_G_undoTo.2.1 61 = .ok (.putfield 39, 3) := by decide +kernel
theorem d_G_undoTo_64 : decode M_G_undoTo.2.1 64 = .ok (.return_, 1) := by decide +kernel
theorem d_G_tell_0 : decode M_G_tell.2.1 0 = .ok (.aload_n 0, 1) := by decide +kernel
theorem d_G_tell_1 : decode M_G_tell.2.1 1 = .ok (.getfield 31, 3) := by decide +kernel
theorem d_G_tell_4 : decode M_G_tell.2.1 4 = .ok (.bipush 24, 2) := by decide +kernel
theorem d_G_tell_6 : decode M_G_tell.2.1 6 = .ok (.if_icmp .lt 5, 3) := by decide +kernel
theorem d_G_tell_9 : decode M_G_tell.2.1 9 = .ok (.iconst (-1), 1) := by decide +kernel
theorem d_G_tell_10 : decode M_G_tell.2.1 10 = .ok (.ireturn, 1) := by decide +kernel
theorem d_G_tell_11 : decode M_G_tell.2.1 11 = .ok (.aload_n 0, 1) := by decide +kernel
theorem d_G_tell_12 : decode M_G_tell.2.1 12 = .ok (.getfield 9, 3) := by decide +kernel
theorem d_G_tell_15 : decode M_G_tell.2.1 15 = .ok (.aload_n 0, 1) := by decide +kernel
theorem d_G_tell_16 : decode M_G_tell.2.1 16 = .ok (.getfield 31, 3) := by decide +kernel
theorem d_G_tell_19 : decode M_G_tell.2.1 19 = .ok (.iload_n 1, 1) := by decide +kernel
theorem d_G_tell_20 : decode M_G_tell.2.1 20 = .ok (.invokestatic 35, 3) := by decide +kernel
theorem d_G_tell_23 : decode M_G_tell.2.1 23 = .ok (.aload_n 0, 1) := by decide +kernel
theorem d_G_tell_24 : decode M_G_tell.2.1 24 = .ok (.dup, 1) := by decide +kernel
theorem d_G_tell_25 : decode M_G_tell.2.1 25 = .ok (.getfield 31, 3) := by decide +kernel
theorem d_G_tell_28 : decode M_G_tell.2.1 28 = .ok (.iconst 1, 1) := by decide +kernel
theorem d_G_tell_29 : decode M_G_tell.2.1 29 = .ok (.iadd, 1) := by decide +kernel
theorem d_G_tell_30 : decode M_G_tell.2.1 30 = .ok (.putfield 31, 3) := by decide +kernel
theorem d_G_tell_33 : decode M_G_tell.2.1 33 = .ok (.aload_n 0, 1) := by decide +kernel
theorem d_G_tell_34 : decode M_G_tell.2.1 34 = .ok (.getfield 31, 3) := by decide +kernel
theorem d_G_tell_37 : decode M_G_tell.2.1 37 = .ok (.iconst 1, 1) := by decide +kernel
theorem d_G_tell_38 : decode M_G_tell.2.1 38 = .ok (.isub, 1) := by decide +kernel
theorem d_G_tell_39 : decode M_G_tell.2.1 39 = .ok (.ireturn, 1) := by decide +kernel
theorem d_G_parametersOf_0 : decode M_G_parametersOf.2.1 0 = .ok (.aload_n 0, 1) := by decide +kernel
theorem d_G_parametersOf_1 : decode M_G_parametersOf.2.1 1 = .ok (.getfield 9, 3) := by decide +kernel
theorem d_G_parametersOf_4 : decode M_G_parametersOf.2.1 4 = .ok (.iload_n 1, 1) := by decide +kernel
theorem d_G_parametersOf_5 : decode M_G_parametersOf.2.1 5 = .ok (.invokestatic 42, 3) := by decide +kernel
theorem d_G_parametersOf_8 : decode M_G_parametersOf.2.1 8 = .ok (.ireturn, 1) := by decide +kernel
theorem d_G_makeNew_0 : decode M_G_makeNew.2.1 0 = .ok (.aload_n 0, 1) := by decide +kernel
theorem d_G_makeNew_1 : decode M_G_makeNew.2.1 1 = .ok (.getfield 31, 3) := by decide +kernel
theorem d_G_makeNew_4 : decode M_G_makeNew.2.1 4 = .ok (.aload_n 0, 1) := by decide +kernel
theorem d_G_makeNew_5 : decode M_G_makeNew.2.1 5 = .ok (.getfield 39, 3) := by decide +kernel
theorem d_G_makeNew_8 : decode M_G_makeNew.2.1 8 = .ok (.iadd, 1) := by decide +kernel
theorem d_G_makeNew_9 : decode M_G_makeNew.2.1 9 = .ok (.sipush 300, 3) := by decide +kernel
theorem d_G_makeNew_12 : decode M_G_makeNew.2.1 12 = .ok (.if_icmp .lt 5, 3) := by decide +kernel
theorem d_G_makeNew_15 : decode M_G_makeNew.2.1 15 = .ok (.iconst (-1), 1) := by decide +kernel
theorem d_G_makeNew_16 : decode M_G_makeNew.2.1 16 = .ok (.ireturn, 1) := by decide +kernel
theorem d_G_makeNew_17 : decode M_G_makeNew.2.1 17 = .ok (.bipush 24, 2) := by decide +kernel
theorem d_G_makeNew_19 : decode M_G_makeNew.2.1 19 = .ok (.aload_n 0, 1) := by decide +kernel
theorem d_G_makeNew_20 : decode M_G_makeNew.2.1 20 = .ok (.getfield 39, 3) := by decide +kernel
theorem d_G_makeNew_23 : decode M_G_makeNew.2.1 23 = .ok (.iadd, 1) := by decide +kernel
theorem d_G_makeNew_24 : decode M_G_makeNew.2.1 24 = .ok (.istore_n 2, 1) := by decide +kernel
theorem d_G_makeNew_25 : decode M_G_makeNew.2.1 25 = .ok (.aload_n 0, 1) := by decide +kernel
theorem d_G_makeNew_26 : decode M_G_makeNew.2.1 26 = .ok (.getfield 9, 3) := by decide +kernel
theorem d_G_makeNew_29 : decode M_G_makeNew.2.1 29 = .ok (.iload_n 2, 1) := by decide +kernel
theorem d_G_makeNew_30 : decode M_G_makeNew.2.1 30 = .ok (.iload_n 1, 1) := by decide +kernel
theorem d_G_makeNew_31 : decode M_G_makeNew.2.1 31 = .ok (.invokestatic 35, 3) := by decide +kernel
theorem d_G_makeNew_34 : decode M_G_makeNew.2.1 34 = .ok (.aload_n 0, 1) := by decide +kernel
theorem d_G_makeNew_35 : decode M_G_makeNew.2.1 35 = .ok (.dup, 1) := by decide +kernel
theorem d_G_makeNew_36 : decode M_G_makeNew.2.1 36 = .ok (.getfield 39, 3) := by decide +kernel
theorem d_G_makeNew_39 : decode M_G_makeNew.2.1 39 = .ok (.iconst 1, 1) := by decide +kernel
theorem d_G_makeNew_40 : decode M_G_makeNew.2.1 40 = .ok (.iadd, 1) := by decide +kernel
theorem d_G_makeNew_41 : decode M_G_makeNew.2.1 41 = .ok (.putfield 39, 3) := by decide +kernel
theorem d_G_makeNew_44 : decode M_G_makeNew.2.1 44 = .ok (.iload_n 2, 1) := by decide +kernel
theorem d_G_makeNew_45 : decode M_G_makeNew.2.1 45 = .ok (.ireturn, 1) := by decide +kernel
theorem d_G_fillWithHole_0 : decode M_G_fillWithHole.2.1 0 = .ok (.iload_n 2, 1) := by decide +kernel
theorem d_G_fillWithHole_1 : decode M_G_fillWithHole.2.1 1 = .ok (.iconst (-1), 1) := by decide +kernel
theorem d_G_fillWithHole_2 : decode M_G_fillWithHole.2.1 2 = .ok (.if_icmp .ne 5, 3) := by decide +kernel
theorem d_G_fillWithHole_5 : decode M_G_fillWithHole.2.1 5 = .ok (.iconst 0, 1) := by decide +kernel
theorem d_G_fillWithHole_6 : decode M_G_fillWithHole.2.1 6 = .ok (.ireturn, 1) := by decide +kernel
theorem d_G_fillWithHole_7 : decode M_G_fillWithHole.2.1 7 = .ok (.aload_n 0, 1) := by decide +kernel
theorem d_G_fillWithHole_8 : decode M_G_fillWithHole.2.1 8 = .ok (.getfield 27, 3) := by decide +kernel
theorem d_G_fillWithHole_11 : decode M_G_fillWithHole.2.1 11 = .ok (.getfield 46, 3) := by decide +kernel
theorem d_G_fillWithHole_14 : decode M_G_fillWithHole.2.1 14 = .ok (.istore 4, 2) := by decide +kernel
theorem d_G_fillWithHole_16 : decode M_G_fillWithHole.2.1 16 = .ok (.aload_n 0, 1) := by decide +kernel
theorem d_G_fillWithHole_17 : decode M_G_fillWithHole.2.1 17 = .ok (.getfield 27, 3) := by decide +kernel
theorem d_G_fillWithHole_20 : decode M_G_fillWithHole.2.1 20 = .ok (.iconst 2, 1) := by decide +kernel
theorem d_G_fillWithHole_21 : decode M_G_fillWithHole.2.1 21 = .ok (.iload_n 2, 1) := by decide +kernel
theorem d_G_fillWithHole_22 : decode M_G_fillWithHole.2.1 22 = .ok (.invokestatic 51, 3) := by decide +kernel
theorem d_G_fillWithHole_25 : decode M_G_fillWithHole.2.1 25 = .ok (.iconst 0, 1) := by decide +kernel
theorem d_G_fillWithHole_26 : decode M_G_fillWithHole.2.1 26 = .ok (.invokevirtual 55, 3) := by decide +kernel
theorem d_G_fillWithHole_29 : decode M_G_fillWithHole.2.1 29 = .ok (.aload_n 0, 1) := by decide +kernel
theorem d_G_fillWithHole_30 : decode M_G_fillWithHole.2.1 30 = .ok (.iload_n 2, 1) := by decide +kernel
theorem d_G_fillWithHole_31 : decode M_G_fillWithHole.2.1 31 = .ok (.invokevirtual 59, 3) := by decide +kernel
theorem d_G_fillWithHole_34 : decode M_G_fillWithHole.2.1 34 = .ok (.istore 5, 2) := by decide +kernel
theorem d_G_fillWithHole_36 : decode M_G_fillWithHole.2.1 36 = .ok (.iconst 0, 1) := by decide +kernel
theorem d_G_fillWithHole_37 : decode M_G_fillWithHole.2.1 37 = .ok (.istore 6, 2) := by decide +kernel
theorem d_G_fillWithHole_39 : decode M_G_fillWithHole.2.1 39 = .ok (.iload 6, 2) := by decide +kernel
theorem d_G_fillWithHole_41 : decode M_G_fillWithHole.2.1 41 = .ok (.iload 5, 2) := by decide +kernel
theorem d_G_fillWithHole_43 : decode M_G_fillWithHole.2.1 43 = .ok (.if_icmp .ge 27, 3) := by decide +kernel
theorem d_G_fillWithHole_46 : decode M_G_fillWithHole.2.1 46 = .ok (.aload_n 0, 1) := by decide +kernel
theorem d_G_fillWithHole_47 : decode M_G_fillWithHole.2.1 47 = .ok (.getfield 27, 3) := by decide +kernel
theorem d_G_fillWithHole_50 : decode M_G_fillWithHole.2.1 50 = .ok (.iconst 0, 1) := by decide +kernel
theorem d_G_fillWithHole_51 : decode M_G_fillWithHole.2.1 51 = .ok (.aload_n 3, 1) := by decide +kernel
theorem d_G_fillWithHole_52 : decode M_G_fillWithHole.2.1 52 = .ok (.iload 6, 2) := by decide +kernel
theorem d_G_fillWithHole_54 : decode M_G_fillWithHole.2.1 54 = .ok (.invokestatic 42, 3) := by decide +kernel
theorem d_G_fillWithHole_57 : decode M_G_fillWithHole.2.1 57 = .ok (.invokestatic 51, 3) := by decide +kernel
theorem d_G_fillWithHole_60 : decode M_G_fillWithHole.2.1 60 = .ok (.iconst 0, 1) := by decide +kernel
theorem d_G_fillWithHole_61 : decode M_G_fillWithHole.2.1 61 = .ok (.invokevirtual 55, 3) := by decide +kernel
theorem d_G_fillWithHole_64 : decode M_G_fillWithHole.2.1 64 = .ok (.iinc 6 1, 3) := by decide +kernel
theorem d_G_fillWithHole_67 : decode M_G_fillWithHole.2.1 67 = .ok (.goto (-28), 3) := by decide +kernel
theorem d_G_fillWithHole_70 : decode M_G_fillWithHole.2.1 70 = .ok (.aload_n 0, 1) := by decide +kernel
theorem d_G_fillWithHole_71 : decode M_G_fillWithHole.2.1 71 = .ok (.iload_n 1, 1) := by decide +kernel
theorem d_G_fillWithHole_72 : decode M_G_fillWithHole.2.1 72 = .ok (.iload 4, 2) := by decide +kernel
theorem d_G_fillWithHole_74 : decode M_G_fillWithHole.2.1 74 = .ok (.invokevirtual 63, 3) := by decide +kernel
theorem d_G_fillWithHole_77 : decode M_G_fillWithHole.2.1 77 = .ok (.iconst 1, 1) := by decide +kernel
theorem d_G_fillWithHole_78 : decode M_G_fillWithHole.2.1 78 = .ok (.ireturn, 1) := by decide +kernel
theorem d_G_fillFrom_0 : decode M_G_fillFrom.2.1 0 = .ok (.aload_n 0, 1) := by decide +kernel
theorem d_G_fillFrom_1 : decode M_G_fillFrom.2.1 1 = .ok (.getfield 15, 3) := by decide +kernel
theorem d_G_fillFrom_4 : decode M_G_fillFrom.2.1 4 = .ok (.iload_n 1, 1) := by decide +kernel
theorem d_G_fillFrom_5 : decode M_G_fillFrom.2.1 5 = .ok (.iload_n 2, 1) := by decide +kernel
theorem d_G_fillFrom_6 : decode M_G_fillFrom.2.1 6 = .ok (.invokestatic 35, 3) := by decide +kernel
theorem d_G_fillFrom_9 : decode M_G_fillFrom.2.1 9 = .ok (.aload_n 0, 1) := by decide +kernel
theorem d_G_fillFrom_10 : decode M_G_fillFrom.2.1 10 = .ok (.getfield 18, 3) := by decide +kernel
theorem d_G_fillFrom_13 : decode M_G_fillFrom.2.1 13 = .ok (.iload_n 1, 1) := by decide +kernel
theorem d_G_fillFrom_14 : decode M_G_fillFrom.2.1 14 = .ok (.aload_n 0, 1) := by decide +kernel
theorem d_G_fillFrom_15 : decode M_G_fillFrom.2.1 15 = .ok (.getfield 27, 3) := by decide +kernel
theorem d_G_fillFrom_18 : decode M_G_fillFrom.2.1 18 = .ok (.getfield 46, 3) := by decide +kernel
theorem d_G_fillFrom_21 : decode M_G_fillFrom.2.1 21 = .ok (.invokestatic 35, 3) := by decide +kernel
theorem d_G_fillFrom_24 : decode M_G_fillFrom.2.1 24 = .ok (.aload_n 0, 1) := by decide +kernel
theorem d_G_fillFrom_25 : decode M_G_fillFrom.2.1 25 = .ok (.getfield 24, 3) := by decide +kernel
theorem d_G_fillFrom_28 : decode M_G_fillFrom.2.1 28 = .ok (.aload_n 0, 1) := by decide +kernel
theorem d_G_fillFrom_29 : decode M_G_fillFrom.2.1 29 = .ok (.getfield 66, 3) := by decide +kernel
theorem d_G_fillFrom_32 : decode M_G_fillFrom.2.1 32 = .ok (.iload_n 1, 1) := by decide +kernel
theorem d_G_fillFrom_33 : decode M_G_fillFrom.2.1 33 = .ok (.invokestatic 35, 3) := by decide +kernel
theorem d_G_fillFrom_36 : decode M_G_fillFrom.2.1 36 = .ok (.aload_n 0, 1) := by decide +kernel
theorem d_G_fillFrom_37 : decode M_G_fillFrom.2.1 37 = .ok (.dup, 1) := by decide +kernel
theorem d_G_fillFrom_38 : decode M_G_fillFrom.2.1 38 = .ok (.getfield 66, 3) := by decide +kernel
theorem d_G_fillFrom_41 : decode M_G_fillFrom.2.1 41 = .ok (.iconst 1, 1) := by decide +kernel
theorem d_G_fillFrom_42 : decode M_G_fillFrom.2.1 42 = .ok (.iadd, 1) := by decide +kernel
theorem d_G_fillFrom_43 : decode M_G_fillFrom.2.1 43 = .ok (.putfield 66, 3) := by decide +kernel
theorem d_G_fillFrom_46 : decode M_G_fillFrom.2.1 46 = .ok (.return_, 1) := by decide +kernel
theorem d_G_measureAll_0 : decode M_G_measureAll.2.1 0 = .ok (.aload_n 0, 1) := by decide +kernel
theorem d_G_measureAll_1 : decode M_G_measureAll.2.1 1 = .ok (.getfield 21, 3) := by decide +kernel
theorem d_G_measureAll_4 : decode M_G_measureAll.2.1 4 = .ok (.iconst 1, 1) := by decide +kernel
theorem d_G_measureAll_5 : decode M_G_measureAll.2.1 5 = .ok (.invokestatic 69, 3) := by decide +kernel
theorem d_G_measureAll_8 : decode M_G_measureAll.2.1 8 = .ok (.iconst 1, 1) := by decide +kernel
theorem d_G_measureAll_9 : decode M_G_measureAll.2.1 9 = .ok (.istore_n 1, 1) := by decide +kernel
theorem d_G_measureAll_10 : decode M_G_measureAll.2.1 10 = .ok (.aload_n 0, 1) := by decide +kernel
theorem d_G_measureAll_11 : decode M_G_measureAll.2.1 11 = .ok (.getfield 66, 3) := by decide +kernel
theorem d_G_measureAll_14 : decode M_G_measureAll.2.1 14 = .ok (.iconst 1, 1) := by decide +kernel
theorem d_G_measureAll_15 : decode M_G_measureAll.2.1 15 = .ok (.isub, 1) := by decide +kernel
theorem d_G_measureAll_16 : decode M_G_measureAll.2.1 16 = .ok (.istore_n 2, 1) := by decide +kernel
theorem d_G_measureAll_17 : decode M_G_measureAll.2.1 17 = .ok (.iload_n 2, 1) := by decide +kernel
theorem d_G_measureAll_18 : decode M_G_measureAll.2.1 18 = .ok (.ifCond .lt 57, 3) := by decide +kernel
theorem d_G_measureAll_21 : decode M_G_measureAll.2.1 21 = .ok (.aload_n 0, 1) := by decide +kernel
theorem d_G_measureAll_22 : decode M_G_measureAll.2.1 22 = .ok (.getfield 24, 3) := by decide +kernel
theorem d_G_measureAll_25 : decode M_G_measureAll.2.1 25 = .ok (.iload_n 2, 1) := by decide +kernel
theorem d_G_measureAll_26 : decode M_G_measureAll.2.1 26 = .ok (.invokestatic 42, 3) := by decide +kernel
theorem d_G_measureAll_29 : decode M_G_measureAll.2.1 29 = .ok (.istore_n 3, 1) := by decide +kernel
theorem d_G_measureAll_30 : decode M_G_measureAll.2.1 30 = .ok (.aload_n 0, 1) := by decide +kernel
theorem d_G_measureAll_31 : decode M_G_measureAll.2.1 31 = .ok (.aload_n 0, 1) := by decide +kernel
theorem d_G_measureAll_32 : decode M_G_measureAll.2.1 32 = .ok (.getfield 15, 3) := by decide +kernel
theorem d_G_measureAll_35 : decode M_G_measureAll.2.1 35 = .ok (.iload_n 3, 1) := by decide +kernel
theorem d_G_measureAll_36 : decode M_G_measureAll.2.1 36 = .ok (.invokestatic 42, 3) := by decide +kernel
theorem d_G_measureAll_39 : decode M_G_measureAll.2.1 39 = .ok (.aload_n 0, 1) := by decide +kernel
theorem d_G_measureAll_40 : decode M_G_measureAll.2.1 40 = .ok (.getfield 18, 3) := by decide +kernel
theorem d_G_measureAll_43 : decode M_G_measureAll.2.1 43 = .ok (.iload_n 3, 1) := by decide +kernel
theorem d_G_measureAll_44 : decode M_G_measureAll.2.1 44 = .ok (.invokestatic 42, 3) := by decide +kernel
theorem d_G_measureAll_47 : decode M_G_measureAll.2.1 47 = .ok (.invokevirtual 75, 3) := by decide +kernel
theorem d_G_measureAll_50 : decode M_G_measureAll.2.1 50 = .ok (.istore 4, 2) := by decide +kernel
theorem d_G_measureAll_52 : decode M_G_measureAll.2.1 52 = .ok (.aload_n 0, 1) := by decide +kernel
theorem d_G_measureAll_53 : decode M_G_measureAll.2.1 53 = .ok (.getfield 21, 3) := by decide +kernel
theorem d_G_measureAll_56 : decode M_G_measureAll.2.1 56 = .ok (.iload_n 3, 1) := by decide +kernel
theorem d_G_measureAll_57 : decode M_G_measureAll.2.1 57 = .ok (.iload 4, 2) := by decide +kernel
theorem d_G_measureAll_59 : decode M_G_measureAll.2.1 59 = .ok (.invokestatic 35, 3) := by decide +kernel
theorem d_G_measureAll_62 : decode M_G_measureAll.2.1 62 = .ok (.iload_n 1, 1) := by decide +kernel
theorem d_G_measureAll_63 : decode M_G_measureAll.2.1 63 = .ok (.iload 4, 2) := by decide +kernel
theorem d_G_measureAll_65 : decode M_G_measureAll.2.1 65 = .ok (.invokestatic 78, 3) := by decide +kernel
theorem d_G_measureAll_68 : decode M_G_measureAll.2.1 68 = .ok (.istore_n 1, 1) := by decide +kernel
theorem d_G_measureAll_69 : decode M_G_measureAll.2.1 69 = .ok (.iinc 2 (-1), 3) := by decide +kernel
theorem d_G_measureAll_72 : decode M_G_measureAll.2.1 72 = .ok (.goto (-55), 3) := by decide +kernel
theorem d_G_measureAll_75 : decode M_G_measureAll.2.1 75 = .ok (.iload_n 1, 1) := by decide +kernel
theorem d_G_measureAll_76 : decode M_G_measureAll.2.1 76 = .ok (.ireturn, 1) := by decide +kernel
theorem d_G_sumFrom_0 : decode M_G_sumFrom.2.1 0 = .ok (.iconst 0, 1) := by decide +kernel
theorem d_G_sumFrom_1 : decode M_G_sumFrom.2.1 1 = .ok (.istore_n 3, 1) := by decide +kernel
theorem d_G_sumFrom_2 : decode M_G_sumFrom.2.1 2 = .ok (.iload_n 1, 1) := by decide +kernel
theorem d_G_sumFrom_3 : decode M_G_sumFrom.2.1 3 = .ok (.istore 4, 2) := by decide +kernel
theorem d_G_sumFrom_5 : decode M_G_sumFrom.2.1 5 = .ok (.iload 4, 2) := by decide +kernel
theorem d_G_sumFrom_7 : decode M_G_sumFrom.2.1 7 = .ok (.iload_n 2, 1) := by decide +kernel
theorem d_G_sumFrom_8 : decode M_G_sumFrom.2.1 8 = .ok (.if_icmp .ge 65, 3) := by decide +kernel
theorem d_G_sumFrom_11 : decode M_G_sumFrom.2.1 11 = .ok (.aload_n 0, 1) := by decide +kernel
theorem d_G_sumFrom_12 : decode M_G_sumFrom.2.1 12 = .ok (.getfield 27, 3) := by decide +kernel
theorem d_G_sumFrom_15 : decode M_G_sumFrom.2.1 15 = .ok (.iload 4, 2) := by decide +kernel
theorem d_G_sumFrom_17 : decode M_G_sumFrom.2.1 17 = .ok (.invokevirtual 83, 3) := by decide +kernel
theorem d_G_sumFrom_20 : decode M_G_sumFrom.2.1 20 = .ok (.istore 5, 2) := by decide +kernel
theorem d_G_sumFrom_22 : decode M_G_sumFrom.2.1 22 = .ok (.iload 5, 2) := by decide +kernel
theorem d_G_sumFrom_24 : decode M_G_sumFrom.2.1 24 = .ok (.invokestatic 86, 3) := by decide +kernel
theorem d_G_sumFrom_27 : decode M_G_sumFrom.2.1 27 = .ok (.iconst 2, 1) := by decide +kernel
theorem d_G_sumFrom_28 : decode M_G_sumFrom.2.1 28 = .ok (.if_icmp .ne 36, 3) := by decide +kernel
theorem d_G_sumFrom_31 : decode M_G_sumFrom.2.1 31 = .ok (.iload 5, 2) := by decide +kernel
theorem d_G_sumFrom_33 : decode M_G_sumFrom.2.1 33 = .ok (.invokestatic 89, 3) := by decide +kernel
theorem d_G_sumFrom_36 : decode M_G_sumFrom.2.1 36 = .ok (.istore 6, 2) := by decide +kernel
theorem d_G_sumFrom_38 : decode M_G_sumFrom.2.1 38 = .ok (.iload_n 3, 1) := by decide +kernel
theorem d_G_sumFrom_39 : decode M_G_sumFrom.2.1 39 = .ok (.aload_n 0, 1) := by decide +kernel
theorem d_G_sumFrom_40 : decode M_G_sumFrom.2.1 40 = .ok (.getfield 21, 3) := by decide +kernel
theorem d_G_sumFrom_43 : decode M_G_sumFrom.2.1 43 = .ok (.iload 6, 2) := by decide +kernel
theorem d_G_sumFrom_45 : decode M_G_sumFrom.2.1 45 = .ok (.invokestatic 42, 3) := by decide +kernel
theorem d_G_sumFrom_48 : decode M_G_sumFrom.2.1 48 = .ok (.iadd, 1) := by decide +kernel
theorem d_G_sumFrom_49 : decode M_G_sumFrom.2.1 49 = .ok (.istore_n 3, 1) := by decide +kernel
theorem d_G_sumFrom_50 : decode M_G_sumFrom.2.1 50 = .ok (.iload 4, 2) := by decide +kernel
theorem d_G_sumFrom_52 : decode M_G_sumFrom.2.1 52 = .ok (.aload_n 0, 1) := by decide +kernel
theorem d_G_sumFrom_53 : decode M_G_sumFrom.2.1 53 = .ok (.iload 6, 2) := by decide +kernel
theorem d_G_sumFrom_55 : decode M_G_sumFrom.2.1 55 = .ok (.invokevirtual 59, 3) := by decide +kernel
theorem d_G_sumFrom_58 : decode M_G_sumFrom.2.1 58 = .ok (.iadd, 1) := by decide +kernel
theorem d_G_sumFrom_59 : decode M_G_sumFrom.2.1 59 = .ok (.istore 4, 2) := by decide +kernel
theorem d_G_sumFrom_61 : decode M_G_sumFrom.2.1 61 = .ok (.goto 6, 3) := by decide +kernel
theorem d_G_sumFrom_64 : decode M_G_sumFrom.2.1 64 = .ok (.iinc 3 1, 3) := by decide +kernel
theorem d_G_sumFrom_67 : decode M_G_sumFrom.2.1 67 = .ok (.iinc 4 1, 3) := by decide +kernel
theorem d_G_sumFrom_70 : decode M_G_sumFrom.2.1 70 = .ok (.goto (-65), 3) := by decide +kernel
theorem d_G_sumFrom_73 : decode M_G_sumFrom.2.1 73 = .ok (.iload_n 3, 1) := by decide +kernel
theorem d_G_sumFrom_74 : decode M_G_sumFrom.2.1 74 = .ok (.ireturn, 1) := by decide +kernel
end
section
theorem d_H_init_0 : decode M_H_init.2.1 0 = .ok (.aload_n 0, 1) := by decide +kernel
theorem d_H_init_1 : decode M_H_init.2.1 1 = .ok (.invokespecial 3, 3) := by decide +kernel
theorem d_H_init_4 : decode M_H_init.2.1 4 = .ok (.new 9, 3) := by decide +kernel
theorem d_H_init_7 : decode M_H_init.2.1 7 = .ok (.dup, 1) := by decide +kernel
theorem d_H_init_8 : decode M_H_init.2.1 8 = .ok (.invokespecial 11, 3) := by decide +kernel
theorem d_H_init_11 : decode M_H_init.2.1 11 = .ok (.astore_n 1, 1) := by decide +kernel
theorem d_H_init_12 : decode M_H_init.2.1 12 = .ok (.aload_n 0, 1) := by decide +kernel
theorem d_H_init_13 : decode M_H_init.2.1 13 = .ok (.new 12, 3) := by decide +kernel
theorem d_H_init_16 : decode M_H_init.2.1 16 = .ok (.dup, 1) := by decide +kernel
theorem d_H_init_17 : decode M_H_init.2.1 17 = .ok (.invokespecial 14, 3) := by decide +kernel
theorem d_H_init_20 : decode M_H_init.2.1 20 = .ok (.putfield 15, 3) := by decide +kernel
theorem d_H_init_23 : decode M_H_init.2.1 23 = .ok (.aload_n 0, 1) := by decide +kernel
theorem d_H_init_24 : decode M_H_init.2.1 24 = .ok (.new 19, 3) := by decide +kernel
theorem d_H_init_27 : decode M_H_init.2.1 27 = .ok (.dup, 1) := by decide +kernel
theorem d_H_init_28 : decode M_H_init.2.1 28 = .ok (.aload_n 1, 1) := by decide +kernel
theorem d_H_init_29 : decode M_H_init.2.1 29 = .ok (.invokespecial 21, 3) := by decide +kernel
theorem d_H_init_32 : decode M_H_init.2.1 32 = .ok (.putfield 24, 3) := by decide +kernel
theorem d_H_init_35 : decode M_H_init.2.1 35 = .ok (.aload_n 0, 1) := by decide +kernel
theorem d_H_init_36 : decode M_H_init.2.1 36 = .ok (.bipush 8, 2) := by decide +kernel
theorem d_H_init_38 : decode M_H_init.2.1 38 = .ok (.anewarray 28, 3) := by decide +kernel
theorem d_H_init_41 : decode M_H_init.2.1 41 = .ok (.putfield 30, 3) := by decide +kernel
theorem d_H_init_44 : decode M_H_init.2.1 44 = .ok (.iconst 0, 1) := by decide +kernel
theorem d_H_init_45 : decode M_H_init.2.1 45 = .ok (.istore_n 2, 1) := by decide +kernel
theorem d_H_init_46 : decode M_H_init.2.1 46 = .ok (.iload_n 2, 1) := by decide +kernel
theorem d_H_init_47 : decode M_H_init.2.1 47 = .ok (.aload_n 0, 1) := by decide +kernel
theorem d_H_init_48 : decode M_H_init.2.1 48 = .ok (.getfield 30, 3) := by decide +kernel
theorem d_H_init_51 : decode M_H_init.2.1 51 = .ok (.arraylength, 1) := by decide +kernel
theorem d_H_init_52 : decode M_H_init.2.1 52 = .ok (.if_icmp .ge 28, 3) := by decide +kernel
theorem d_H_init_55 : decode M_H_init.2.1 55 = .ok (.aload_n 0, 1) := by decide +kernel
theorem d_H_init_56 : decode M_H_init.2.1 56 = .ok (.getfield 30, 3) := by decide +kernel
theorem d_H_init_59 : decode M_H_init.2.1 59 = .ok (.iload_n 2, 1) := by decide +kernel
theorem d_H_init_60 : decode M_H_init.2.1 60 = .ok (.new 28, 3) := by decide +kernel
theorem d_H_init_63 : decode M_H_init.2.1 63 = .ok (.dup, 1) := by decide +kernel
theorem d_H_init_64 : decode M_H_init.2.1 64 = .ok (.aload_n 1, 1) := by decide +kernel
theorem d_H_init_65 : decode M_H_init.2.1 65 = .ok (.iload_n 2, 1) := by decide +kernel
theorem d_H_init_66 : decode M_H_init.2.1 66 = .ok (.sipush 150, 3) := by decide +kernel
theorem d_H_init_69 : decode M_H_init.2.1 69 = .ok (.imul, 1) := by decide +kernel
theorem d_H_init_70 : decode M_H_init.2.1 70 = .ok (.invokespecial 34, 3) := by decide +kernel
theorem d_H_init_73 : decode M_H_init.2.1 73 = .ok (.aastore, 1) := by decide +kernel
theorem d_H_init_74 : decode M_H_init.2.1 74 = .ok (.iinc 2 1, 3) := by decide +kernel
theorem d_H_init_77 : decode M_H_init.2.1 77 = .ok (.goto (-31), 3) := by decide +kernel
theorem d_H_init_80 : decode M_H_init.2.1 80 = .ok (.aload_n 0, 1) := by decide +kernel
theorem d_H_init_81 : decode M_H_init.2.1 81 = .ok (.new 37, 3) := by decide +kernel
theorem d_H_init_84 : decode M_H_init.2.1 84 = .ok (.dup, 1) := by decide +kernel
theorem d_H_init_85 : decode M_H_init.2.1 85 = .ok (.aload_n 1, 1) := by decide +kernel
theorem d_H_init_86 : decode M_H_init.2.1 86 = .ok (.aload_n 0, 1) := by decide +kernel
theorem d_H_init_87 : decode M_H_init.2.1 87 = .ok (.getfield 24, 3) := by decide +kernel
theorem d_H_init_90 : decode M_H_init.2.1 90 = .ok (.invokespecial 39, 3) := by decide +kernel
theorem d_H_init_93 : decode M_H_init.2.1 93 = .ok (.putfield 42, 3) := by decide +kernel
theorem d_H_init_96 : decode M_H_init.2.1 96 = .ok (.aload_n 0, 1) := by decide +kernel
theorem d_H_init_97 : decode M_H_init.2.1 97 = .ok (.new 37, 3) := by decide +kernel
theorem d_H_init_100 : decode M_H_init.2.1 100 = .ok (.dup, 1) := by decide +kernel
theorem d_H_init_101 : decode M_H_init.2.1 101 = .ok (.aload_n 1, 1) := by decide +kernel
theorem d_H_init_102 : decode M_H_init.2.1 102 = .ok (.aload_n 0, 1) := by decide +kernel
theorem d_H_init_103 : decode M_H_init.2.1 103 = .ok (.getfield 24, 3) := by decide +kernel
theorem d_H_init_106 : decode M_H_init.2.1 106 = .ok (.invokespecial 39, 3) := by decide +kernel
theorem d_H_init_109 : decode M_H_init.2.1 109 = .ok (.putfield 46, 3) := by decide +kernel
theorem d_H_init_112 : decode M_H_init.2.1 112 = .ok (.aload_n 0, 1) := by decide +kernel
theorem d_H_init_113 : decode M_H_init.2.1 113 = .ok (.new 49, 3) := by decide +kernel
theorem d_H_init_116 : decode M_H_init.2.1 116 = .ok (.dup, 1) := by decide +kernel
theorem d_H_init_117 : decode M_H_init.2.1 117 = .ok (.aload_n 1, 1) := by decide +kernel
theorem d_H_init_118 : decode M_H_init.2.1 118 = .ok (.aload_n 0, 1) := by decide +kernel
theorem d_H_init_119 : decode M_H_init.2.1 119 = .ok (.getfield 24, 3) := by decide +kernel
theorem d_H_init_122 : decode M_H_init.2.1 122 = .ok (.aload_n 0, 1) := by decide +kernel
theorem d_H_init_123 : decode M_H_init.2.1 123 = .ok (.getfield 15, 3) := by decide +kernel
theorem d_H_init_126 : decode M_H_init.2.1 126 = .ok (.aload_n 0, 1) := by decide +kernel
theorem d_H_init_127 : decode M_H_init.2.1 127 = .ok (.getfield 42, 3) := by decide +kernel
theorem d_H_init_130 : decode M_H_init.2.1 130 = .ok (.aload_n 0, 1) := by decide +kernel
theorem d_H_init_131 : decode M_H_init.2.1 131 = .ok (.getfield 46, 3) := by decide +kernel
theorem d_H_init_134 : decode M_H_init.2.1 134 = .ok (.invokespecial 51, 3) := by decide +kernel
theorem d_H_init_137 : decode M_H_init.2.1 137 = .ok (.putfield 54, 3) := by decide +kernel
theorem d_H_init_140 : decode M_H_init.2.1 140 = .ok (.aload_n 0, 1) := by decide +kernel
theorem d_H_init_141 : decode M_H_init.2.1 141 = .ok (.new 58, 3) := by decide +kernel
theorem d_H_init_144 : decode M_H_init.2.1 144 = .ok (.dup, 1) := by decide +kernel
theorem d_H_init_145 : decode M_H_init.2.1 145 = .ok (.invokespecial 60, 3) := by decide +kernel
theorem d_H_init_148 : decode M_H_init.2.1 148 = .ok (.putfield 61, 3) := by decide +kernel
theorem d_H_init_151 : decode M_H_init.2.1 151 = .ok (.return_, 1) := by decide +kernel
theorem d_H_empty_0 : decode M_H_empty.2.1 0 = .ok (.iconst 0, 1) := by decide +kernel
theorem d_H_empty_1 : decode M_H_empty.2.1 1 = .ok (.istore_n 1, 1) := by decide +kernel
theorem d_H_empty_2 : decode M_H_empty.2.1 2 = .ok (.iconst 0, 1) := by decide +kernel
theorem d_H_empty_3 : decode M_H_empty.2.1 3 = .ok (.istore_n 2, 1) := by decide +kernel
theorem d_H_empty_4 : decode M_H_empty.2.1 4 = .ok (.iload_n 2, 1) := by decide +kernel
theorem d_H_empty_5 : decode M_H_empty.2.1 5 = .ok (.aload_n 0, 1) := by decide +kernel
theorem d_H_empty_6 : decode M_H_empty.2.1 6 = .ok (.getfield 24, 3) := by decide +kernel
theorem d_H_empty_9 : decode M_H_empty.2.1 9 = .ok (.getfield 204, 3) := by decide +kernel
theorem d_H_empty_12 : decode M_H_empty.2.1 12 = .ok (.if_icmp .ge 23, 3) := by decide +kernel
theorem d_H_empty_15 : decode M_H_empty.2.1 15 = .ok (.aload_n 0, 1) := by decide +kernel
theorem d_H_empty_16 : decode M_H_empty.2.1 16 = .ok (.getfield 24, 3) := by decide +kernel
theorem d_H_empty_19 : decode M_H_empty.2.1 19 = .ok (.iload_n 2, 1) := by decide +kernel
theorem d_H_empty_20 : decode M_H_empty.2.1 20 = .ok (.invokevirtual 189, 3) := by decide +kernel
theorem d_H_empty_23 : decode M_H_empty.2.1 23 = .ok (.ifCond .ne 6, 3) := by decide +kernel
theorem d_H_empty_26 : decode M_H_empty.2.1 26 = .ok (.iinc 1 1, 3) := by decide +kernel
theorem d_H_empty_29 : decode M_H_empty.2.1 29 = .ok (.iinc 2 1, 3) := by decide +kernel
theorem d_H_empty_32 : decode M_H_empty.2.1 32 = .ok (.goto (-28), 3) := by decide +kernel
theorem d_H_empty_35 : decode M_H_empty.2.1 35 = .ok (.aload_n 0, 1) := by decide +kernel
theorem d_H_empty_36 : decode M_H_empty.2.1 36 = .ok (.getfield 24, 3) := by decide +kernel
theorem d_H_empty_39 : decode M_H_empty.2.1 39 = .ok (.iconst 0, 1) := by decide +kernel
theorem d_H_empty_40 : decode M_H_empty.2.1 40 = .ok (.iconst 0, 1) := by decide +kernel
theorem d_H_empty_41 : decode M_H_empty.2.1 41 = .ok (.invokevirtual 145, 3) := by decide +kernel
theorem d_H_empty_44 : decode M_H_empty.2.1 44 = .ok (.iload_n 1, 1) := by decide +kernel
theorem d_H_empty_45 : decode M_H_empty.2.1 45 = .ok (.ireturn, 1) := by decide +kernel
theorem d_H_at_0 : decode M_H_at.2.1 0 = .ok (.iload_n 1, 1) := by decide +kernel
theorem d_H_at_1 : decode M_H_at.2.1 1 = .ok (.ifCond .lt 15, 3) := by decide +kernel
theorem d_H_at_4 : decode M_H_at.2.1 4 = .ok (.iload_n 1, 1) := by decide +kernel
theorem d_H_at_5 : decode M_H_at.2.1 5 = .ok (.aload_n 0, 1) := by decide +kernel
theorem d_H_at_6 : decode M_H_at.2.1 6 = .ok (.arraylength, 1) := by decide +kernel
theorem d_H_at_7 : decode M_H_at.2.1 7 = .ok (.if_icmp .ge 9, 3) := by decide +kernel
theorem d_H_at_10 : decode M_H_at.2.1 10 = .ok (.aload_n 0, 1) := by decide +kernel
theorem d_H_at_11 : decode M_H_at.2.1 11 = .ok (.iload_n 1, 1) := by decide +kernel
theorem d_H_at_12 : decode M_H_at.2.1 12 = .ok (.iaload, 1) := by decide +kernel
theorem d_H_at_13 : decode M_H_at.2.1 13 = .ok (.goto 4, 3) := by decide +kernel
theorem d_H_at_16 : decode M_H_at.2.1 16 = .ok (.iconst 0, 1) := by decide +kernel
theorem d_H_at_17 : decode M_H_at.2.1 17 = .ok (.ireturn, 1) := by decide +kernel
theorem d_H_set_0 : decode M_H_set.2.1 0 = .ok (.iload_n 1, 1) := by decide +kernel
theorem d_H_set_1 : decode M_H_set.2.1 1 = .ok (.ifCond .lt 13, 3) := by decide +kernel
theorem d_H_set_4 : decode M_H_set.2.1 4 = .ok (.iload_n 1, 1) := by decide +kernel
theorem d_H_set_5 : decode M_H_set.2.1 5 = .ok (.aload_n 0, 1) := by decide +kernel
theorem d_H_set_6 : decode M_H_set.2.1 6 = .ok (.arraylength, 1) := by decide +kernel
theorem d_H_set_7 : decode M_H_set.2.1 7 = .ok (.if_icmp .ge 7, 3) := by decide +kernel
theorem d_H_set_10 : decode M_H_set.2.1 10 = .ok (.aload_n 0, 1) := by decide +kernel
theorem d_H_set_11 : decode M_H_set.2.1 11 = .ok (.iload_n 1, 1) := by decide +kernel
theorem d_H_set_12 : decode M_H_set.2.1 12 = .ok (.iload_n 2, 1) := by decide +kernel
theorem d_H_set_13 : decode M_H_set.2.1 13 = .ok (.iastore, 1) := by decide +kernel
theorem d_H_set_14 : decode M_H_set.2.1 14 = .ok (.return_, 1) := by decide +kernel
theorem d_H_count_0 : decode M_H_count.2.1 0 = .ok (.iload_n 1, 1) := by decide +kernel
theorem d_H_count_1 : decode M_H_count.2.1 1 = .ok (.tableswitch 105 0 7 #[47, 55, 63, 71, 79, 87, 95, 100], 47) := by decide +kernel
theorem d_H_count_48 : decode M_H_count.2.1 48 = .ok (.aload_n 0, 1) := by decide +kernel
theorem d_H_count_49 : decode M_H_count.2.1 49 = .ok (.getfield 15, 3) := by decide +kernel
theorem d_H_count_52 : decode M_H_count.2.1 52 = .ok (.getfield 207, 3) := by decide +kernel
theorem d_H_count_55 : decode M_H_count.2.1 55 = .ok (.ireturn, 1) := by decide +kernel
theorem d_H_count_56 : decode M_H_count.2.1 56 = .ok (.aload_n 0, 1) := by decide +kernel
theorem d_H_count_57 : decode M_H_count.2.1 57 = .ok (.getfield 24, 3) := by decide +kernel
theorem d_H_count_60 : decode M_H_count.2.1 60 = .ok (.getfield 204, 3) := by decide +kernel
theorem d_H_count_63 : decode M_H_count.2.1 63 = .ok (.ireturn, 1) := by decide +kernel
theorem d_H_count_64 : decode M_H_count.2.1 64 = .ok (.aload_n 0, 1) := by decide +kernel
theorem d_H_count_65 : decode M_H_count.2.1 65 = .ok (.getfield 24, 3) := by decide +kernel
theorem d_H_count_68 : decode M_H_count.2.1 68 = .ok (.getfield 136, 3) := by decide +kernel
theorem d_H_count_71 : decode M_H_count.2.1 71 = .ok (.ireturn, 1) := by decide +kernel
theorem d_H_count_72 : decode M_H_count.2.1 72 = .ok (.aload_n 0, 1) := by decide +kernel
theorem d_H_count_73 : decode M_H_count.2.1 73 = .ok (.getfield 24, 3) := by decide +kernel
theorem d_H_count_76 : decode M_H_count.2.1 76 = .ok (.getfield 132, 3) := by decide +kernel
theorem d_H_count_79 : decode M_H_count.2.1 79 = .ok (.ireturn, 1) := by decide +kernel
theorem d_H_count_80 : decode M_H_count.2.1 80 = .ok (.aload_n 0, 1) := by decide +kernel
theorem d_H_count_81 : decode M_H_count.2.1 81 = .ok (.getfield 61, 3) := by decide +kernel
theorem d_H_count_84 : decode M_H_count.2.1 84 = .ok (.getfield 155, 3) := by decide +kernel
theorem d_H_count_87 : decode M_H_count.2.1 87 = .ok (.ireturn, 1) := by decide +kernel
theorem d_H_count_88 : decode M_H_count.2.1 88 = .ok (.aload_n 0, 1) := by decide +kernel
theorem d_H_count_89 : decode M_H_count.2.1 89 = .ok (.getfield 61, 3) := by decide +kernel
theorem d_H_count_92 : decode M_H_count.2.1 92 = .ok (.getfield 208, 3) := by decide +kernel
theorem d_H_count_95 : decode M_H_count.2.1 95 = .ok (.ireturn, 1) := by decide +kernel
theorem d_H_count_96 : decode M_H_count.2.1 96 = .ok (.aload_n 0, 1) := by decide +kernel
theorem d_H_count_97 : decode M_H_count.2.1 97 = .ok (.getfield 142, 3) := by decide +kernel
theorem d_H_count_100 : decode M_H_count.2.1 100 = .ok (.ireturn, 1) := by decide +kernel
theorem d_H_count_101 : decode M_H_count.2.1 101 = .ok (.aload_n 0, 1) := by decide +kernel
theorem d_H_count_102 : decode M_H_count.2.1 102 = .ok (.getfield 148, 3) := by decide +kernel
theorem d_H_count_105 : decode M_H_count.2.1 105 = .ok (.ireturn, 1) := by decide +kernel
theorem d_H_count_106 : decode M_H_count.2.1 106 = .ok (.iconst (-1), 1) := by decide +kernel
theorem d_H_count_107 : decode M_H_count.2.1 107 = .ok (.ireturn, 1) := by decide +kernel
theorem d_H_operation_0 : decode M_H_operation.2.1 0 = .ok (.iload_n 1, 1) := by decide +kernel
theorem d_H_operation_1 : decode M_H_operation.2.1 1 = .ok (.invokestatic 65, 3) := by decide +kernel
theorem d_H_operation_4 : decode M_H_operation.2.1 4 = .ok (.ifCond .eq 17, 3) := by decide +kernel
theorem d_H_operation_7 : decode M_H_operation.2.1 7 = .ok (.iload_n 2, 1) := by decide +kernel
theorem d_H_operation_8 : decode M_H_operation.2.1 8 = .ok (.invokestatic 65, 3) := by decide +kernel
theorem d_H_operation_11 : decode M_H_operation.2.1 11 = .ok (.ifCond .eq 10, 3) := by decide +kernel
theorem d_H_operation_14 : decode M_H_operation.2.1 14 = .ok (.iload_n 3, 1) := by decide +kernel
theorem d_H_operation_15 : decode M_H_operation.2.1 15 = .ok (.invokestatic 65, 3) := by decide +kernel
theorem d_H_operation_18 : decode M_H_operation.2.1 18 = .ok (.ifCond .ne 13, 3) := by decide +kernel
theorem d_H_operation_21 : decode M_H_operation.2.1 21 = .ok (.new 69, 3) := by decide +kernel
theorem d_H_operation_24 : decode M_H_operation.2.1 24 = .ok (.dup, 1) := by decide +kernel
theorem d_H_operation_25 : decode M_H_operation.2.1 25 = .ok (.ldc 71, 2) := by decide +kernel
theorem d_H_operation_27 : decode M_H_operation.2.1 27 = .ok (.invokespecial 73, 3) := by decide +kernel
theorem d_H_operation_30 : decode M_H_operation.2.1 30 = .ok (.athrow, 1) := by decide +kernel
theorem d_H_operation_31 : decode M_H_operation.2.1 31 = .ok (.iload_n 1, 1) := by decide +kernel
theorem d_H_operation_32 : decode M_H_operation.2.1 32 = .ok (.iconst (-1), 1) := by decide +kernel
theorem d_H_operation_33 : decode M_H_operation.2.1 33 = .ok (.if_icmp .ne 8, 3) := by decide +kernel
theorem d_H_operation_36 : decode M_H_operation.2.1 36 = .ok (.iload_n 2, 1) := by decide +kernel
theorem d_H_operation_37 : decode M_H_operation.2.1 37 = .ok (.iconst (-1), 1) := by decide +kernel
theorem d_H_operation_38 : decode M_H_operation.2.1 38 = .ok (.if_icmp .ne 13, 3) := by decide +kernel
theorem d_H_operation_41 : decode M_H_operation.2.1 41 = .ok (.iload_n 2, 1) := by decide +kernel
theorem d_H_operation_42 : decode M_H_operation.2.1 42 = .ok (.iconst (-1), 1) := by decide +kernel
theorem d_H_operation_43 : decode M_H_operation.2.1 43 = .ok (.if_icmp .ne 18, 3) := by decide +kernel
theorem d_H_operation_46 : decode M_H_operation.2.1 46 = .ok (.iload_n 3, 1) := by decide +kernel
theorem d_H_operation_47 : decode M_H_operation.2.1 47 = .ok (.iconst (-1), 1) := by decide +kernel
theorem d_H_operation_48 : decode M_H_operation.2.1 48 = .ok (.if_icmp .eq 13, 3) := by decide +kernel
theorem d_H_operation_51 : decode M_H_operation.2.1 51 = .ok (.new 69, 3) := by decide +kernel
theorem d_H_operation_54 : decode M_H_operation.2.1 54 = .ok (.dup, 1) := by decide +kernel
theorem d_H_operation_55 : decode M_H_operation.2.1 55 = .ok (.ldc 76, 2) := by decide +kernel
theorem d_H_operation_57 : decode M_H_operation.2.1 57 = .ok (.invokespecial 73, 3) := by decide +kernel
theorem d_H_operation_60 : decode M_H_operation.2.1 60 = .ok (.athrow, 1) := by decide +kernel
theorem d_H_operation_61 : decode M_H_operation.2.1 61 = .ok (.aload_n 0, 1) := by decide +kernel
theorem d_H_operation_62 : decode M_H_operation.2.1 62 = .ok (.getfield 15, 3) := by decide +kernel
theorem d_H_operation_65 : decode M_H_operation.2.1 65 = .ok (.iload_n 1, 1) := by decide +kernel
theorem d_H_operation_66 : decode M_H_operation.2.1 66 = .ok (.iload_n 2, 1) := by decide +kernel
theorem d_H_operation_67 : decode M_H_operation.2.1 67 = .ok (.iload_n 3, 1) := by decide +kernel
theorem d_H_operation_68 : decode M_H_operation.2.1 68 = .ok (.invokevirtual 78, 3) := by decide +kernel
theorem d_H_operation_71 : decode M_H_operation.2.1 71 = .ok (.ireturn, 1) := by decide +kernel
theorem d_H_mayBind_0 : decode M_H_mayBind.2.1 0 = .ok (.iload_n 0, 1) := by decide +kernel
theorem d_H_mayBind_1 : decode M_H_mayBind.2.1 1 = .ok (.iconst (-1), 1) := by decide +kernel
theorem d_H_mayBind_2 : decode M_H_mayBind.2.1 2 = .ok (.if_icmp .lt 12, 3) := by decide +kernel
theorem d_H_mayBind_5 : decode M_H_mayBind.2.1 5 = .ok (.iload_n 0, 1) := by decide +kernel
theorem d_H_mayBind_6 : decode M_H_mayBind.2.1 6 = .ok (.iconst 2, 1) := by decide +kernel
theorem d_H_mayBind_7 : decode M_H_mayBind.2.1 7 = .ok (.if_icmp .gt 7, 3) := by decide +kernel
theorem d_H_mayBind_10 : decode M_H_mayBind.2.1 10 = .ok (.iconst 1, 1) := by decide +kernel
theorem d_H_mayBind_11 : decode M_H_mayBind.2.1 11 = .ok (.goto 4, 3) := by decide +kernel
theorem d_H_mayBind_14 : decode M_H_mayBind.2.1 14 = .ok (.iconst 0, 1) := by decide +kernel
theorem d_H_mayBind_15 : decode M_H_mayBind.2.1 15 = .ok (.ireturn, 1) := by decide +kernel
theorem d_H_hole_0 : decode M_H_hole.2.1 0 = .ok (.iload_n 1, 1) := by decide +kernel
theorem d_H_hole_1 : decode M_H_hole.2.1 1 = .ok (.ifCond .lt 8, 3) := by decide +kernel
theorem d_H_hole_4 : decode M_H_hole.2.1 4 = .ok (.iload_n 1, 1) := by decide +kernel
theorem d_H_hole_5 : decode M_H_hole.2.1 5 = .ok (.iconst 4, 1) := by decide +kernel
theorem d_H_hole_6 : decode M_H_hole.2.1 6 = .ok (.if_icmp .le 13, 3) := by decide +kernel
theorem d_H_hole_9 : decode M_H_hole.2.1 9 = .ok (.new 69, 3) := by decide +kernel
theorem d_H_hole_12 : decode M_H_hole.2.1 12 = .ok (.dup, 1) := by decide +kernel
theorem d_H_hole_13 : decode M_H_hole.2.1 13 = .ok (.ldc 82, 2) := by decide +kernel
theorem d_H_hole_15 : decode M_H_hole.2.1 15 = .ok (.invokespecial 73, 3) := by decide +kernel
theorem d_H_hole_18 : decode M_H_hole.2.1 18 = .ok (.athrow, 1) := by decide +kernel
theorem d_H_hole_19 : decode M_H_hole.2.1 19 = .ok (.aload_n 0, 1) := by decide +kernel
theorem d_H_hole_20 : decode M_H_hole.2.1 20 = .ok (.getfield 24, 3) := by decide +kernel
theorem d_H_hole_23 : decode M_H_hole.2.1 23 = .ok (.iload_n 1, 1) := by decide +kernel
theorem d_H_hole_24 : decode M_H_hole.2.1 24 = .ok (.invokevirtual 84, 3) := by decide +kernel
theorem d_H_hole_27 : decode M_H_hole.2.1 27 = .ok (.ireturn, 1) := by decide +kernel
theorem d_H_begin_0 : decode M_H_begin.2.1 0 = .ok (.aload_n 0, 1) := by decide +kernel
theorem d_H_begin_1 : decode M_H_begin.2.1 1 = .ok (.iload_n 1, 1) := by decide +kernel
theorem d_H_begin_2 : decode M_H_begin.2.1 2 = .ok (.invokevirtual 87, 3) := by decide +kernel
theorem d_H_begin_5 : decode M_H_begin.2.1 5 = .ok (.astore_n 3, 1) := by decide +kernel
theorem d_H_begin_6 : decode M_H_begin.2.1 6 = .ok (.iload_n 2, 1) := by decide +kernel
theorem d_H_begin_7 : decode M_H_begin.2.1 7 = .ok (.ifCond .lt 9, 3) := by decide +kernel
theorem d_H_begin_10 : decode M_H_begin.2.1 10 = .ok (.iload_n 2, 1) := by decide +kernel
theorem d_H_begin_11 : decode M_H_begin.2.1 11 = .ok (.bipush 6, 2) := by decide +kernel
theorem d_H_begin_13 : decode M_H_begin.2.1 13 = .ok (.if_icmp .le 13, 3) := by decide +kernel
theorem d_H_begin_16 : decode M_H_begin.2.1 16 = .ok (.new 69, 3) := by decide +kernel
theorem d_H_begin_19 : decode M_H_begin.2.1 19 = .ok (.dup, 1) := by decide +kernel
theorem d_H_begin_20 : decode M_H_begin.2.1 20 = .ok (.ldc 91, 2) := by decide +kernel
theorem d_H_begin_22 : decode M_H_begin.2.1 22 = .ok (.invokespecial 73, 3) := by decide +kernel
theorem d_H_begin_25 : decode M_H_begin.2.1 25 = .ok (.athrow, 1) := by decide +kernel
theorem d_H_begin_26 : decode M_H_begin.2.1 26 = .ok (.aload_n 3, 1) := by decide +kernel
theorem d_H_begin_27 : decode M_H_begin.2.1 27 = .ok (.iload_n 2, 1) := by decide +kernel
theorem d_H_begin_28 : decode M_H_begin.2.1 28 = .ok (.invokevirtual 93, 3) := by decide +kernel
theorem d_H_begin_31 : decode M_H_begin.2.1 31 = .ok (.aload_n 3, 1) := by decide +kernel
theorem d_H_begin_32 : decode M_H_begin.2.1 32 = .ok (.invokevirtual 97, 3) := by decide +kernel
theorem d_H_begin_35 : decode M_H_begin.2.1 35 = .ok (.ireturn, 1) := by decide +kernel
theorem d_H_slotAt_0 : decode M_H_slotAt.2.1 0 = .ok (.iload_n 1, 1) := by decide +kernel
theorem d_H_slotAt_1 : decode M_H_slotAt.2.1 1 = .ok (.ifCond .lt 21, 3) := by decide +kernel
theorem d_H_slotAt_4 : decode M_H_slotAt.2.1 4 = .ok (.iload_n 1, 1) := by decide +kernel
theorem d_H_slotAt_5 : decode M_H_slotAt.2.1 5 = .ok (.aload_n 0, 1) := by decide +kernel
theorem d_H_slotAt_6 : decode M_H_slotAt.2.1 6 = .ok (.getfield 30, 3) := by decide +kernel
theorem d_H_slotAt_9 : decode M_H_slotAt.2.1 9 = .ok (.arraylength, 1) := by decide +kernel
theorem d_H_slotAt_10 : decode M_H_slotAt.2.1 10 = .ok (.if_icmp .ge 12, 3) := by decide +kernel
theorem d_H_slotAt_13 : decode M_H_slotAt.2.1 13 = .ok (.aload_n 0, 1) := by decide +kernel
theorem d_H_slotAt_14 : decode M_H_slotAt.2.1 14 = .ok (.getfield 30, 3) := by decide +kernel
theorem d_H_slotAt_17 : decode M_H_slotAt.2.1 17 = .ok (.iload_n 1, 1) := by decide +kernel
theorem d_H_slotAt_18 : decode M_H_slotAt.2.1 18 = .ok (.aaload, 1) := by decide +kernel
theorem d_H_slotAt_19 : decode M_H_slotAt.2.1 19 = .ok (.goto 4, 3) := by decide +kernel
theorem d_H_slotAt_22 : decode M_H_slotAt.2.1 22 = .ok (.aconst_null, 1) := by decide +kernel
theorem d_H_slotAt_23 : decode M_H_slotAt.2.1 23 = .ok (.astore_n 2, 1) := by decide +kernel
theorem d_H_slotAt_24 : decode M_H_slotAt.2.1 24 = .ok (.aload_n 2, 1) := by decide +kernel
theorem d_H_slotAt_25 : decode M_H_slotAt.2.1 25 = .ok (.ifnonnull 13, 3) := by decide +kernel
theorem d_H_slotAt_28 : decode M_H_slotAt.2.1 28 = .ok (.new 69, 3) := by decide +kernel
theorem d_H_slotAt_31 : decode M_H_slotAt.2.1 31 = .ok (.dup, 1) := by decide +kernel
theorem d_H_slotAt_32 : decode M_H_slotAt.2.1 32 = .ok (.ldc 211, 2) := by decide +kernel
theorem d_H_slotAt_34 : decode M_H_slotAt.2.1 34 = .ok (.invokespecial 73, 3) := by decide +kernel
theorem d_H_slotAt_37 : decode M_H_slotAt.2.1 37 = .ok (.athrow, 1) := by decide +kernel
theorem d_H_slotAt_38 : decode M_H_slotAt.2.1 38 = .ok (.aload_n 2, 1) := by decide +kernel
theorem d_H_slotAt_39 : decode M_H_slotAt.2.1 39 = .ok (.areturn, 1) := by decide +kernel
theorem d_H_put_0 : decode M_H_put.2.1 0 = .ok (.aload_n 0, 1) := by decide +kernel
theorem d_H_put_1 : decode M_H_put.2.1 1 = .ok (.iload_n 1, 1) := by decide +kernel
theorem d_H_put_2 : decode M_H_put.2.1 2 = .ok (.invokevirtual 87, 3) := by decide +kernel
theorem d_H_put_5 : decode M_H_put.2.1 5 = .ok (.astore 4, 2) := by decide +kernel
theorem d_H_put_7 : decode M_H_put.2.1 7 = .ok (.aload 4, 2) := by decide +kernel
theorem d_H_put_9 : decode M_H_put.2.1 9 = .ok (.invokevirtual 97, 3) := by decide +kernel
theorem d_H_put_12 : decode M_H_put.2.1 12 = .ok (.ifCond .ne 13, 3) := by decide +kernel
theorem d_H_put_15 : decode M_H_put.2.1 15 = .ok (.new 101, 3) := by decide +kernel
theorem d_H_put_18 : decode M_H_put.2.1 18 = .ok (.dup, 1) := by decide +kernel
theorem d_H_put_19 : decode M_H_put.2.1 19 = .ok (.ldc 103, 2) := by decide +kernel
theorem d_H_put_21 : decode M_H_put.2.1 21 = .ok (.invokespecial 105, 3) := by decide +kernel
theorem d_H_put_24 : decode M_H_put.2.1 24 = .ok (.athrow, 1) := by decide +kernel
theorem d_H_put_25 : decode M_H_put.2.1 25 = .ok (.aload_n 0, 1) := by decide +kernel
theorem d_H_put_26 : decode M_H_put.2.1 26 = .ok (.aload 4, 2) := by decide +kernel
theorem d_H_put_28 : decode M_H_put.2.1 28 = .ok (.iload_n 2, 1) := by decide +kernel
theorem d_H_put_29 : decode M_H_put.2.1 29 = .ok (.iload_n 3, 1) := by decide +kernel
theorem d_H_put_30 : decode M_H_put.2.1 30 = .ok (.invokevirtual 106, 3) := by decide +kernel
theorem d_H_put_33 : decode M_H_put.2.1 33 = .ok (.ifCond .ne 13, 3) := by decide +kernel
theorem d_H_put_36 : decode M_H_put.2.1 36 = .ok (.new 69, 3) := by decide +kernel
theorem d_H_put_39 : decode M_H_put.2.1 39 = .ok (.dup, 1) := by decide +kernel
theorem d_H_put_40 : decode M_H_put.2.1 40 = .ok (.ldc 110, 2) := by decide +kernel
theorem d_H_put_42 : decode M_H_put.2.1 42 = .ok (.invokespecial 73, 3) := by decide +kernel
theorem d_H_put_45 : decode M_H_put.2.1 45 = .ok (.athrow, 1) := by decide +kernel
theorem d_H_put_46 : decode M_H_put.2.1 46 = .ok (.aload_n 0, 1) := by decide +kernel
theorem d_H_put_47 : decode M_H_put.2.1 47 = .ok (.aload 4, 2) := by decide +kernel
theorem d_H_put_49 : decode M_H_put.2.1 49 = .ok (.iload_n 2, 1) := by decide +kernel
theorem d_H_put_50 : decode M_H_put.2.1 50 = .ok (.iload_n 3, 1) := by decide +kernel
theorem d_H_put_51 : decode M_H_put.2.1 51 = .ok (.invokevirtual 112, 3) := by decide +kernel
theorem d_H_put_54 : decode M_H_put.2.1 54 = .ok (.ifCond .ne 5, 3) := by decide +kernel
theorem d_H_put_57 : decode M_H_put.2.1 57 = .ok (.iconst (-1), 1) := by decide +kernel
theorem d_H_put_58 : decode M_H_put.2.1 58 = .ok (.ireturn, 1) := by decide +kernel
theorem d_H_put_59 : decode M_H_put.2.1 59 = .ok (.iload_n 2, 1) := by decide +kernel
theorem d_H_put_60 : decode M_H_put.2.1 60 = .ok (.ifCond .ne 12, 3) := by decide +kernel
theorem d_H_put_63 : decode M_H_put.2.1 63 = .ok (.aload 4, 2) := by decide +kernel
theorem d_H_put_65 : decode M_H_put.2.1 65 = .ok (.iload_n 3, 1) := by decide +kernel
theorem d_H_put_66 : decode M_H_put.2.1 66 = .ok (.invokevirtual 115, 3) := by decide +kernel
theorem d_H_put_69 : decode M_H_put.2.1 69 = .ok (.goto 35, 3) := by decide +kernel
theorem d_H_put_72 : decode M_H_put.2.1 72 = .ok (.iload_n 2, 1) := by decide +kernel
theorem d_H_put_73 : decode M_H_put.2.1 73 = .ok (.iconst 1, 1) := by decide +kernel
theorem d_H_put_74 : decode M_H_put.2.1 74 = .ok (.if_icmp .ne 16, 3) := by decide +kernel
theorem d_H_put_77 : decode M_H_put.2.1 77 = .ok (.aload 4, 2) := by decide +kernel
theorem d_H_put_79 : decode M_H_put.2.1 79 = .ok (.iload_n 3, 1) := by decide +kernel
theorem d_H_put_80 : decode M_H_put.2.1 80 = .ok (.aload_n 0, 1) := by decide +kernel
theorem d_H_put_81 : decode M_H_put.2.1 81 = .ok (.getfield 15, 3) := by decide +kernel
theorem d_H_put_84 : decode M_H_put.2.1 84 = .ok (.invokevirtual 118, 3) := by decide +kernel
theorem d_H_put_87 : decode M_H_put.2.1 87 = .ok (.goto 17, 3) := by decide +kernel
theorem d_H_put_90 : decode M_H_put.2.1 90 = .ok (.aload 4, 2) := by decide +kernel
theorem d_H_put_92 : decode M_H_put.2.1 92 = .ok (.iload_n 3, 1) := by decide +kernel
theorem d_H_put_93 : decode M_H_put.2.1 93 = .ok (.aload_n 0, 1) := by decide +kernel
theorem d_H_put_94 : decode M_H_put.2.1 94 = .ok (.getfield 24, 3) := by decide +kernel
theorem d_H_put_97 : decode M_H_put.2.1 97 = .ok (.iload_n 3, 1) := by decide +kernel
theorem d_H_put_98 : decode M_H_put.2.1 98 = .ok (.invokevirtual 122, 3) := by decide +kernel
theorem d_H_put_101 : decode M_H_put.2.1 101 = .ok (.invokevirtual 125, 3) := by decide +kernel
theorem d_H_put_104 : decode M_H_put.2.1 104 = .ok (.aload 4, 2) := by decide +kernel
theorem d_H_put_106 : decode M_H_put.2.1 106 = .ok (.invokevirtual 97, 3) := by decide +kernel
theorem d_H_put_109 : decode M_H_put.2.1 109 = .ok (.ireturn, 1) := by decide +kernel
theorem d_H_mayStand_0 : decode M_H_mayStand.2.1 0 = .ok (.iload_n 2, 1) := by decide +kernel
theorem d_H_mayStand_1 : decode M_H_mayStand.2.1 1 = .ok (.tableswitch 89 0 2 #[27, 33, 61], 27) := by decide +kernel
theorem d_H_mayStand_28 : decode M_H_mayStand.2.1 28 = .ok (.aload_n 1, 1) := by decide +kernel
theorem d_H_mayStand_29 : decode M_H_mayStand.2.1 29 = .ok (.iload_n 3, 1) := by decide +kernel
theorem d_H_mayStand_30 : decode M_H_mayStand.2.1 30 = .ok (.invokevirtual 213, 3) := by decide +kernel
theorem d_H_mayStand_33 : decode M_H_mayStand.2.1 33 = .ok (.ireturn, 1) := by decide +kernel
theorem d_H_mayStand_34 : decode M_H_mayStand.2.1 34 = .ok (.aload_n 1, 1) := by decide +kernel
theorem d_H_mayStand_35 : decode M_H_mayStand.2.1 35 = .ok (.invokevirtual 216, 3) := by decide +kernel
theorem d_H_mayStand_38 : decode M_H_mayStand.2.1 38 = .ok (.ifCond .ne 22, 3) := by decide +kernel
theorem d_H_mayStand_41 : decode M_H_mayStand.2.1 41 = .ok (.iload_n 3, 1) := by decide +kernel
theorem d_H_mayStand_42 : decode M_H_mayStand.2.1 42 = .ok (.ifCond .lt 18, 3) := by decide +kernel
theorem d_H_mayStand_45 : decode M_H_mayStand.2.1 45 = .ok (.iload_n 3, 1) := by decide +kernel
theorem d_H_mayStand_46 : decode M_H_mayStand.2.1 46 = .ok (.aload_n 0, 1) := by decide +kernel
theorem d_H_mayStand_47 : decode M_H_mayStand.2.1 47 = .ok (.getfield 15, 3) := by decide +kernel
theorem d_H_mayStand_50 : decode M_H_mayStand.2.1 50 = .ok (.getfield 207, 3) := by decide +kernel
theorem d_H_mayStand_53 : decode M_H_mayStand.2.1 53 = .ok (.if_icmp .ge 7, 3) := by decide +kernel
theorem d_H_mayStand_56 : decode M_H_mayStand.2.1 56 = .ok (.iconst 1, 1) := by decide +kernel
theorem d_H_mayStand_57 : decode M_H_mayStand.2.1 57 = .ok (.goto 4, 3) := by decide +kernel
theorem d_H_mayStand_60 : decode M_H_mayStand.2.1 60 = .ok (.iconst 0, 1) := by decide +kernel
theorem d_H_mayStand_61 : decode M_H_mayStand.2.1 61 = .ok (.ireturn, 1) := by decide +kernel
theorem d_H_mayStand_62 : decode M_H_mayStand.2.1 62 = .ok (.aload_n 1, 1) := by decide +kernel
theorem d_H_mayStand_63 : decode M_H_mayStand.2.1 63 = .ok (.invokevirtual 216, 3) := by decide +kernel
theorem d_H_mayStand_66 : decode M_H_mayStand.2.1 66 = .ok (.ifCond .ne 22, 3) := by decide +kernel
theorem d_H_mayStand_69 : decode M_H_mayStand.2.1 69 = .ok (.iload_n 3, 1) := by decide +kernel
theorem d_H_mayStand_70 : decode M_H_mayStand.2.1 70 = .ok (.ifCond .lt 18, 3) := by decide +kernel
theorem d_H_mayStand_73 : decode M_H_mayStand.2.1 73 = .ok (.iload_n 3, 1) := by decide +kernel
theorem d_H_mayStand_74 : decode M_H_mayStand.2.1 74 = .ok (.aload_n 0, 1) := by decide +kernel
theorem d_H_mayStand_75 : decode M_H_mayStand.2.1 75 = .ok (.getfield 24, 3) := by decide +kernel
theorem d_H_mayStand_78 : decode M_H_mayStand.2.1 78 = .ok (.getfield 204, 3) := by decide +kernel
theorem d_H_mayStand_81 : decode M_H_mayStand.2.1 81 = .ok (.if_icmp .ge 7, 3) := by decide +kernel
theorem d_H_mayStand_84 : decode M_H_mayStand.2.1 84 = .ok (.iconst 1, 1) := by decide +kernel
theorem d_H_mayStand_85 : decode M_H_mayStand.2.1 85 = .ok (.goto 4, 3) := by decide +kernel
theorem d_H_mayStand_88 : decode M_H_mayStand.2.1 88 = .ok (.iconst 0, 1) := by decide +kernel
theorem d_H_mayStand_89 : decode M_H_mayStand.2.1 89 = .ok (.ireturn, 1) := by decide +kernel
theorem d_H_mayStand_90 : decode M_H_mayStand.2.1 90 = .ok (.iconst 0, 1) := by decide +kernel
theorem d_H_mayStand_91 : decode M_H_mayStand.2.1 91 = .ok (.ireturn, 1) := by decide +kernel
theorem d_H_numberOf_0 : decode M_H_numberOf.2.1 0 = .ok (.iload_n 0, 1) := by decide +kernel
theorem d_H_numberOf_1 : decode M_H_numberOf.2.1 1 = .ok (.iconst 2, 1) := by decide +kernel
theorem d_H_numberOf_2 : decode M_H_numberOf.2.1 2 = .ok (.ishr, 1) := by decide +kernel
theorem d_H_numberOf_3 : decode M_H_numberOf.2.1 3 = .ok (.ireturn, 1) := by decide +kernel
theorem d_H_hasRoom_0 : decode M_H_hasRoom.2.1 0 = .ok (.aload_n 1, 1) := by decide +kernel
theorem d_H_hasRoom_1 : decode M_H_hasRoom.2.1 1 = .ok (.invokevirtual 216, 3) := by decide +kernel
theorem d_H_hasRoom_4 : decode M_H_hasRoom.2.1 4 = .ok (.ifCond .eq 5, 3) := by decide +kernel
theorem d_H_hasRoom_7 : decode M_H_hasRoom.2.1 7 = .ok (.iconst 1, 1) := by decide +kernel
theorem d_H_hasRoom_8 : decode M_H_hasRoom.2.1 8 = .ok (.ireturn, 1) := by decide +kernel
theorem d_H_hasRoom_9 : decode M_H_hasRoom.2.1 9 = .ok (.aload_n 1, 1) := by decide +kernel
theorem d_H_hasRoom_10 : decode M_H_hasRoom.2.1 10 = .ok (.getfield 219, 3) := by decide +kernel
theorem d_H_hasRoom_13 : decode M_H_hasRoom.2.1 13 = .ok (.bipush 30, 2) := by decide +kernel
theorem d_H_hasRoom_15 : decode M_H_hasRoom.2.1 15 = .ok (.if_icmp .lt 5, 3) := by decide +kernel
theorem d_H_hasRoom_18 : decode M_H_hasRoom.2.1 18 = .ok (.iconst 0, 1) := by decide +kernel
theorem d_H_hasRoom_19 : decode M_H_hasRoom.2.1 19 = .ok (.ireturn, 1) := by decide +kernel
theorem d_H_hasRoom_20 : decode M_H_hasRoom.2.1 20 = .ok (.iload_n 2, 1) := by decide +kernel
theorem d_H_hasRoom_21 : decode M_H_hasRoom.2.1 21 = .ok (.iconst 1, 1) := by decide +kernel
theorem d_H_hasRoom_22 : decode M_H_hasRoom.2.1 22 = .ok (.if_icmp .ne 21, 3) := by decide +kernel
theorem d_H_hasRoom_25 : decode M_H_hasRoom.2.1 25 = .ok (.aload_n 1, 1) := by decide +kernel
theorem d_H_hasRoom_26 : decode M_H_hasRoom.2.1 26 = .ok (.invokevirtual 222, 3) := by decide +kernel
theorem d_H_hasRoom_29 : decode M_H_hasRoom.2.1 29 = .ok (.aload_n 0, 1) := by decide +kernel
theorem d_H_hasRoom_30 : decode M_H_hasRoom.2.1 30 = .ok (.getfield 15, 3) := by decide +kernel
theorem d_H_hasRoom_33 : decode M_H_hasRoom.2.1 33 = .ok (.iload_n 3, 1) := by decide +kernel
theorem d_H_hasRoom_34 : decode M_H_hasRoom.2.1 34 = .ok (.invokevirtual 225, 3) := by decide +kernel
theorem d_H_hasRoom_37 : decode M_H_hasRoom.2.1 37 = .ok (.iadd, 1) := by decide +kernel
theorem d_H_hasRoom_38 : decode M_H_hasRoom.2.1 38 = .ok (.bipush 12, 2) := by decide +kernel
theorem d_H_hasRoom_40 : decode M_H_hasRoom.2.1 40 = .ok (.if_icmp .gt 7, 3) := by decide +kernel
theorem d_H_hasRoom_43 : decode M_H_hasRoom.2.1 43 = .ok (.iconst 1, 1) := by decide +kernel
theorem d_H_hasRoom_44 : decode M_H_hasRoom.2.1 44 = .ok (.goto 4, 3) := by decide +kernel
theorem d_H_hasRoom_47 : decode M_H_hasRoom.2.1 47 = .ok (.iconst 0, 1) := by decide +kernel
theorem d_H_hasRoom_48 : decode M_H_hasRoom.2.1 48 = .ok (.ireturn, 1) := by decide +kernel
theorem d_H_codeOf_0 : decode M_H_codeOf.2.1 0 = .ok (.iconst 4, 1) := by decide +kernel
theorem d_H_codeOf_1 : decode M_H_codeOf.2.1 1 = .ok (.iload_n 1, 1) := by decide +kernel
theorem d_H_codeOf_2 : decode M_H_codeOf.2.1 2 = .ok (.imul, 1) := by decide +kernel
theorem d_H_codeOf_3 : decode M_H_codeOf.2.1 3 = .ok (.iload_n 0, 1) := by decide +kernel
theorem d_H_codeOf_4 : decode M_H_codeOf.2.1 4 = .ok (.iadd, 1) := by decide +kernel
theorem d_H_codeOf_5 : decode M_H_codeOf.2.1 5 = .ok (.ireturn, 1) := by decide +kernel
theorem d_H_unify_0 : decode M_H_unify.2.1 0 = .ok (.aload_n 0, 1) := by decide +kernel
theorem d_H_unify_1 : decode M_H_unify.2.1 1 = .ok (.iload_n 1, 1) := by decide +kernel
theorem d_H_unify_2 : decode M_H_unify.2.1 2 = .ok (.iload_n 2, 1) := by decide +kernel
theorem d_H_unify_3 : decode M_H_unify.2.1 3 = .ok (.invokevirtual 129, 3) := by decide +kernel
theorem d_H_unify_6 : decode M_H_unify.2.1 6 = .ok (.aload_n 0, 1) := by decide +kernel
theorem d_H_unify_7 : decode M_H_unify.2.1 7 = .ok (.getfield 24, 3) := by decide +kernel
theorem d_H_unify_10 : decode M_H_unify.2.1 10 = .ok (.getfield 132, 3) := by decide +kernel
theorem d_H_unify_13 : decode M_H_unify.2.1 13 = .ok (.istore_n 3, 1) := by decide +kernel
theorem d_H_unify_14 : decode M_H_unify.2.1 14 = .ok (.aload_n 0, 1) := by decide +kernel
theorem d_H_unify_15 : decode M_H_unify.2.1 15 = .ok (.getfield 24, 3) := by decide +kernel
theorem d_H_unify_18 : decode M_H_unify.2.1 18 = .ok (.getfield 136, 3) := by decide +kernel
theorem d_H_unify_21 : decode M_H_unify.2.1 21 = .ok (.istore 4, 2) := by decide +kernel
theorem d_H_unify_23 : decode M_H_unify.2.1 23 = .ok (.aload_n 0, 1) := by decide +kernel
theorem d_H_unify_24 : decode M_H_unify.2.1 24 = .ok (.getfield 54, 3) := by decide +kernel
theorem d_H_unify_27 : decode M_H_unify.2.1 27 = .ok (.invokevirtual 139, 3) := by decide +kernel
theorem d_H_unify_30 : decode M_H_unify.2.1 30 = .ok (.istore 5, 2) := by decide +kernel
theorem d_H_unify_32 : decode M_H_unify.2.1 32 = .ok (.iload 5, 2) := by decide +kernel
theorem d_H_unify_34 : decode M_H_unify.2.1 34 = .ok (.ifCond .ne 16, 3) := by decide +kernel
theorem d_H_unify_37 : decode M_H_unify.2.1 37 = .ok (.aload_n 0, 1) := by decide +kernel
theorem d_H_unify_38 : decode M_H_unify.2.1 38 = .ok (.dup, 1) := by decide +kernel
theorem d_H_unify_39 : decode M_H_unify.2.1 39 = .ok (.getfield 142, 3) := by decide +kernel
theorem d_H_unify_42 : decode M_H_unify.2.1 42 = .ok (.iconst 1, 1) := by decide +kernel
theorem d_H_unify_43 : decode M_H_unify.2.1 43 = .ok (.iadd, 1) := by decide +kernel
theorem d_H_unify_44 : decode M_H_unify.2.1 44 = .ok (.putfield 142, 3) := by decide +kernel
theorem d_H_unify_47 : decode M_H_unify.2.1 47 = .ok (.goto 23, 3) := by decide +kernel
theorem d_H_unify_50 : decode M_H_unify.2.1 50 = .ok (.aload_n 0, 1) := by decide +kernel
theorem d_H_unify_51 : decode M_H_unify.2.1 51 = .ok (.getfield 24, 3) := by decide +kernel
theorem d_H_unify_54 : decode M_H_unify.2.1 54 = .ok (.iload_n 3, 1) := by decide +kernel
theorem d_H_unify_55 : decode M_H_unify.2.1 55 = .ok (.iload 4, 2) := by decide +kernel
theorem d_H_unify_57 : decode M_H_unify.2.1 57 = .ok (.invokevirtual 145, 3) := by decide +kernel
theorem d_H_unify_60 : decode M_H_unify.2.1 60 = .ok (.aload_n 0, 1) := by decide +kernel
theorem d_H_unify_61 : decode M_H_unify.2.1 61 = .ok (.dup, 1) := by decide +kernel
theorem d_H_unify_62 : decode M_H_unify.2.1 62 = .ok (.getfield 148, 3) := by decide +kernel
theorem d_H_unify_65 : decode M_H_unify.2.1 65 = .ok (.iconst 1, 1) := by decide +kernel
theorem d_H_unify_66 : decode M_H_unify.2.1 66 = .ok (.iadd, 1) := by decide +kernel
theorem d_H_unify_67 : decode M_H_unify.2.1 67 = .ok (.putfield 148, 3) := by decide +kernel
theorem d_H_unify_70 : decode M_H_unify.2.1 70 = .ok (.iload 5, 2) := by decide +kernel
theorem d_H_unify_72 : decode M_H_unify.2.1 72 = .ok (.ireturn, 1) := by decide +kernel
theorem d_H_startBoth_0 : decode M_H_startBoth.2.1 0 = .ok (.aload_n 0, 1) := by decide +kernel
theorem d_H_startBoth_1 : decode M_H_startBoth.2.1 1 = .ok (.iload_n 1, 1) := by decide +kernel
theorem d_H_startBoth_2 : decode M_H_startBoth.2.1 2 = .ok (.invokevirtual 87, 3) := by decide +kernel
theorem d_H_startBoth_5 : decode M_H_startBoth.2.1 5 = .ok (.astore_n 3, 1) := by decide +kernel
theorem d_H_startBoth_6 : decode M_H_startBoth.2.1 6 = .ok (.aload_n 0, 1) := by decide +kernel
theorem d_H_startBoth_7 : decode M_H_startBoth.2.1 7 = .ok (.iload_n 2, 1) := by decide +kernel
theorem d_H_startBoth_8 : decode M_H_startBoth.2.1 8 = .ok (.invokevirtual 87, 3) := by decide +kernel
theorem d_H_startBoth_11 : decode M_H_startBoth.2.1 11 = .ok (.astore 4, 2) := by decide +kernel
theorem d_H_startBoth_13 : decode M_H_startBoth.2.1 13 = .ok (.aload_n 3, 1) := by decide +kernel
theorem d_H_startBoth_14 : decode M_H_startBoth.2.1 14 = .ok (.invokevirtual 228, 3) := by decide +kernel
theorem d_H_startBoth_17 : decode M_H_startBoth.2.1 17 = .ok (.ifCond .eq 11, 3) := by decide +kernel
theorem d_H_startBoth_20 : decode M_H_startBoth.2.1 20 = .ok (.aload 4, 2) := by decide +kernel
theorem d_H_startBoth_22 : decode M_H_startBoth.2.1 22 = .ok (.invokevirtual 228, 3) := by decide +kernel
theorem d_H_startBoth_25 : decode M_H_startBoth.2.1 25 = .ok (.ifCond .ne 13, 3) := by decide +kernel
theorem d_H_startBoth_28 : decode M_H_startBoth.2.1 28 = .ok (.new 101, 3) := by decide +kernel
theorem d_H_startBoth_31 : decode M_H_startBoth.2.1 31 = .ok (.dup, 1) := by decide +kernel
theorem d_H_startBoth_32 : decode M_H_startBoth.2.1 32 = .ok (.ldc 231, 2) := by decide +kernel
theorem d_H_startBoth_34 : decode M_H_startBoth.2.1 34 = .ok (.invokespecial 105, 3) := by decide +kernel
theorem d_H_startBoth_37 : decode M_H_startBoth.2.1 37 = .ok (.athrow, 1) := by decide +kernel
theorem d_H_startBoth_38 : decode M_H_startBoth.2.1 38 = .ok (.aload_n 3, 1) := by decide +kernel
theorem d_H_startBoth_39 : decode M_H_startBoth.2.1 39 = .ok (.getfield 233, 3) := by decide +kernel
theorem d_H_startBoth_42 : decode M_H_startBoth.2.1 42 = .ok (.aload 4, 2) := by decide +kernel
theorem d_H_startBoth_44 : decode M_H_startBoth.2.1 44 = .ok (.getfield 233, 3) := by decide +kernel
theorem d_H_startBoth_47 : decode M_H_startBoth.2.1 47 = .ok (.if_icmp .eq 13, 3) := by decide +kernel
theorem d_H_startBoth_50 : decode M_H_startBoth.2.1 50 = .ok (.new 101, 3) := by decide +kernel
theorem d_H_startBoth_53 : decode M_H_startBoth.2.1 53 = .ok (.dup, 1) := by decide +kernel
theorem d_H_startBoth_54 : decode M_H_startBoth.2.1 54 = .ok (.ldc 236, 2) := by decide +kernel
theorem d_H_startBoth_56 : decode M_H_startBoth.2.1 56 = .ok (.invokespecial 105, 3) := by decide +kernel
theorem d_H_startBoth_59 : decode M_H_startBoth.2.1 59 = .ok (.athrow, 1) := by decide +kernel
theorem d_H_startBoth_60 : decode M_H_startBoth.2.1 60 = .ok (.aload_n 0, 1) := by decide +kernel
theorem d_H_startBoth_61 : decode M_H_startBoth.2.1 61 = .ok (.getfield 42, 3) := by decide +kernel
theorem d_H_startBoth_64 : decode M_H_startBoth.2.1 64 = .ok (.aload_n 3, 1) := by decide +kernel
theorem d_H_startBoth_65 : decode M_H_startBoth.2.1 65 = .ok (.getfield 238, 3) := by decide +kernel
theorem d_H_startBoth_68 : decode M_H_startBoth.2.1 68 = .ok (.aload_n 3, 1) := by decide +kernel
theorem d_H_startBoth_69 : decode M_H_startBoth.2.1 69 = .ok (.getfield 238, 3) := by decide +kernel
theorem d_H_startBoth_72 : decode M_H_startBoth.2.1 72 = .ok (.aload_n 3, 1) := by decide +kernel
theorem d_H_startBoth_73 : decode M_H_startBoth.2.1 73 = .ok (.getfield 240, 3) := by decide +kernel
theorem d_H_startBoth_76 : decode M_H_startBoth.2.1 76 = .ok (.iadd, 1) := by decide +kernel
theorem d_H_startBoth_77 : decode M_H_startBoth.2.1 77 = .ok (.invokevirtual 198, 3) := by decide +kernel
theorem d_H_startBoth_80 : decode M_H_startBoth.2.1 80 = .ok (.aload_n 0, 1) := by decide +kernel
theorem d_H_startBoth_81 : decode M_H_startBoth.2.1 81 = .ok (.getfield 46, 3) := by decide +kernel
theorem d_H_startBoth_84 : decode M_H_startBoth.2.1 84 = .ok (.aload 4, 2) := by decide +kernel
theorem d_H_startBoth_86 : decode M_H_startBoth.2.1 86 = .ok (.getfield 238, 3) := by decide +kernel
theorem d_H_startBoth_89 : decode M_H_startBoth.2.1 89 = .ok (.aload 4, 2) := by decide +kernel
theorem d_H_startBoth_91 : decode M_H_startBoth.2.1 91 = .ok (.getfield 238, 3) := by decide +kernel
theorem d_H_startBoth_94 : decode M_H_startBoth.2.1 94 = .ok (.aload 4, 2) := by decide +kernel
theorem d_H_startBoth_96 : decode M_H_startBoth.2.1 96 = .ok (.getfield 240, 3) := by decide +kernel
theorem d_H_startBoth_99 : decode M_H_startBoth.2.1 99 = .ok (.iadd, 1) := by decide +kernel
theorem d_H_startBoth_100 : decode M_H_startBoth.2.1 100 = .ok (.invokevirtual 198, 3) := by decide +kernel
theorem d_H_startBoth_103 : decode M_H_startBoth.2.1 103 = .ok (.return_, 1) := by decide +kernel
theorem d_H_sortOf_0 : decode M_H_sortOf.2.1 0 = .ok (.iload_n 0, 1) := by decide +kernel
theorem d_H_sortOf_1 : decode M_H_sortOf.2.1 1 = .ok (.iconst 3, 1) := by decide +kernel
theorem d_H_sortOf_2 : decode M_H_sortOf.2.1 2 = .ok (.iand, 1) := by decide +kernel
theorem d_H_sortOf_3 : decode M_H_sortOf.2.1 3 = .ok (.ireturn, 1) := by decide +kernel
theorem d_H_read_0 : decode M_H_read.2.1 0 = .ok (.aload_n 0, 1) := by decide +kernel
theorem d_H_read_1 : decode M_H_read.2.1 1 = .ok (.iload_n 1, 1) := by decide +kernel
theorem d_H_read_2 : decode M_H_read.2.1 2 = .ok (.iload_n 1, 1) := by decide +kernel
theorem d_H_read_3 : decode M_H_read.2.1 3 = .ok (.invokevirtual 129, 3) := by decide +kernel
theorem d_H_read_6 : decode M_H_read.2.1 6 = .ok (.aload_n 0, 1) := by decide +kernel
theorem d_H_read_7 : decode M_H_read.2.1 7 = .ok (.getfield 61, 3) := by decide +kernel
theorem d_H_read_10 : decode M_H_read.2.1 10 = .ok (.aload_n 0, 1) := by decide +kernel
theorem d_H_read_11 : decode M_H_read.2.1 11 = .ok (.getfield 42, 3) := by decide +kernel
theorem d_H_read_14 : decode M_H_read.2.1 14 = .ok (.invokevirtual 151, 3) := by decide +kernel
theorem d_H_read_17 : decode M_H_read.2.1 17 = .ok (.aload_n 0, 1) := by decide +kernel
theorem d_H_read_18 : decode M_H_read.2.1 18 = .ok (.getfield 61, 3) := by decide +kernel
theorem d_H_read_21 : decode M_H_read.2.1 21 = .ok (.getfield 155, 3) := by decide +kernel
theorem d_H_read_24 : decode M_H_read.2.1 24 = .ok (.ireturn, 1) := by decide +kernel
theorem d_H_item_0 : decode M_H_item.2.1 0 = .ok (.iload_n 1, 1) := by decide +kernel
theorem d_H_item_1 : decode M_H_item.2.1 1 = .ok (.ifCond .lt 14, 3) := by decide +kernel
theorem d_H_item_4 : decode M_H_item.2.1 4 = .ok (.iload_n 1, 1) := by decide +kernel
theorem d_H_item_5 : decode M_H_item.2.1 5 = .ok (.aload_n 0, 1) := by decide +kernel
theorem d_H_item_6 : decode M_H_item.2.1 6 = .ok (.getfield 61, 3) := by decide +kernel
theorem d_H_item_9 : decode M_H_item.2.1 9 = .ok (.getfield 155, 3) := by decide +kernel
theorem d_H_item_12 : decode M_H_item.2.1 12 = .ok (.if_icmp .lt 13, 3) := by decide +kernel
theorem d_H_item_15 : decode M_H_item.2.1 15 = .ok (.new 158, 3) := by decide +kernel
theorem d_H_item_18 : decode M_H_item.2.1 18 = .ok (.dup, 1) := by decide +kernel
theorem d_H_item_19 : decode M_H_item.2.1 19 = .ok (.ldc 160, 2) := by decide +kernel
theorem d_H_item_21 : decode M_H_item.2.1 21 = .ok (.invokespecial 162, 3) := by decide +kernel
theorem d_H_item_24 : decode M_H_item.2.1 24 = .ok (.athrow, 1) := by decide +kernel
theorem d_H_item_25 : decode M_H_item.2.1 25 = .ok (.aload_n 0, 1) := by decide +kernel
theorem d_H_item_26 : decode M_H_item.2.1 26 = .ok (.getfield 61, 3) := by decide +kernel
theorem d_H_item_29 : decode M_H_item.2.1 29 = .ok (.getfield 163, 3) := by decide +kernel
theorem d_H_item_32 : decode M_H_item.2.1 32 = .ok (.iload_n 1, 1) := by decide +kernel
theorem d_H_item_33 : decode M_H_item.2.1 33 = .ok (.invokestatic 167, 3) := by decide +kernel
theorem d_H_item_36 : decode M_H_item.2.1 36 = .ok (.ireturn, 1) := by decide +kernel
theorem d_H_isSame_0 : decode M_H_isSame.2.1 0 = .ok (.aload_n 0, 1) := by decide +kernel
theorem d_H_isSame_1 : decode M_H_isSame.2.1 1 = .ok (.iload_n 1, 1) := by decide +kernel
theorem d_H_isSame_2 : decode M_H_isSame.2.1 2 = .ok (.iload_n 2, 1) := by decide +kernel
theorem d_H_isSame_3 : decode M_H_isSame.2.1 3 = .ok (.invokevirtual 129, 3) := by decide +kernel
theorem d_H_isSame_6 : decode M_H_isSame.2.1 6 = .ok (.iconst 0, 1) := by decide +kernel
theorem d_H_isSame_7 : decode M_H_isSame.2.1 7 = .ok (.istore_n 3, 1) := by decide +kernel
theorem d_H_isSame_8 : decode M_H_isSame.2.1 8 = .ok (.iload_n 3, 1) := by decide +kernel
theorem d_H_isSame_9 : decode M_H_isSame.2.1 9 = .ok (.ldc 171, 2) := by decide +kernel
theorem d_H_isSame_11 : decode M_H_isSame.2.1 11 = .ok (.if_icmp .ge 55, 3) := by decide +kernel
theorem d_H_isSame_14 : decode M_H_isSame.2.1 14 = .ok (.aload_n 0, 1) := by decide +kernel
theorem d_H_isSame_15 : decode M_H_isSame.2.1 15 = .ok (.getfield 42, 3) := by decide +kernel
theorem d_H_isSame_18 : decode M_H_isSame.2.1 18 = .ok (.invokevirtual 172, 3) := by decide +kernel
theorem d_H_isSame_21 : decode M_H_isSame.2.1 21 = .ok (.istore 4, 2) := by decide +kernel
theorem d_H_isSame_23 : decode M_H_isSame.2.1 23 = .ok (.iload 4, 2) := by decide +kernel
theorem d_H_isSame_25 : decode M_H_isSame.2.1 25 = .ok (.aload_n 0, 1) := by decide +kernel
theorem d_H_isSame_26 : decode M_H_isSame.2.1 26 = .ok (.getfield 46, 3) := by decide +kernel
theorem d_H_isSame_29 : decode M_H_isSame.2.1 29 = .ok (.invokevirtual 172, 3) := by decide +kernel
theorem d_H_isSame_32 : decode M_H_isSame.2.1 32 = .ok (.if_icmp .eq 5, 3) := by decide +kernel
theorem d_H_isSame_35 : decode M_H_isSame.2.1 35 = .ok (.iconst 0, 1) := by decide +kernel
theorem d_H_isSame_36 : decode M_H_isSame.2.1 36 = .ok (.ireturn, 1) := by decide +kernel
theorem d_H_isSame_37 : decode M_H_isSame.2.1 37 = .ok (.iload 4, 2) := by decide +kernel
theorem d_H_isSame_39 : decode M_H_isSame.2.1 39 = .ok (.ifCond .ne 5, 3) := by decide +kernel
theorem d_H_isSame_42 : decode M_H_isSame.2.1 42 = .ok (.iconst 1, 1) := by decide +kernel
theorem d_H_isSame_43 : decode M_H_isSame.2.1 43 = .ok (.ireturn, 1) := by decide +kernel
theorem d_H_isSame_44 : decode M_H_isSame.2.1 44 = .ok (.aload_n 0, 1) := by decide +kernel
theorem d_H_isSame_45 : decode M_H_isSame.2.1 45 = .ok (.getfield 42, 3) := by decide +kernel
theorem d_H_isSame_48 : decode M_H_isSame.2.1 48 = .ok (.aload_n 0, 1) := by decide +kernel
theorem d_H_isSame_49 : decode M_H_isSame.2.1 49 = .ok (.getfield 46, 3) := by decide +kernel
theorem d_H_isSame_52 : decode M_H_isSame.2.1 52 = .ok (.invokevirtual 176, 3) := by decide +kernel
theorem d_H_isSame_55 : decode M_H_isSame.2.1 55 = .ok (.ifCond .ne 5, 3) := by decide +kernel
theorem d_H_isSame_58 : decode M_H_isSame.2.1 58 = .ok (.iconst 0, 1) := by decide +kernel
theorem d_H_isSame_59 : decode M_H_isSame.2.1 59 = .ok (.ireturn, 1) := by decide +kernel
theorem d_H_isSame_60 : decode M_H_isSame.2.1 60 = .ok (.iinc 3 1, 3) := by decide +kernel
theorem d_H_isSame_63 : decode M_H_isSame.2.1 63 = .ok (.goto (-55), 3) := by decide +kernel
theorem d_H_isSame_66 : decode M_H_isSame.2.1 66 = .ok (.iconst 0, 1) := by decide +kernel
theorem d_H_isSame_67 : decode M_H_isSame.2.1 67 = .ok (.ireturn, 1) := by decide +kernel
theorem d_H_size_0 : decode M_H_size.2.1 0 = .ok (.aload_n 0, 1) := by decide +kernel
theorem d_H_size_1 : decode M_H_size.2.1 1 = .ok (.iload_n 1, 1) := by decide +kernel
theorem d_H_size_2 : decode M_H_size.2.1 2 = .ok (.invokevirtual 180, 3) := by decide +kernel
theorem d_H_size_5 : decode M_H_size.2.1 5 = .ok (.aload_n 0, 1) := by decide +kernel
theorem d_H_size_6 : decode M_H_size.2.1 6 = .ok (.getfield 24, 3) := by decide +kernel
theorem d_H_size_9 : decode M_H_size.2.1 9 = .ok (.invokevirtual 183, 3) := by decide +kernel
theorem d_H_size_12 : decode M_H_size.2.1 12 = .ok (.pop, 1) := by decide +kernel
theorem d_H_size_13 : decode M_H_size.2.1 13 = .ok (.aload_n 0, 1) := by decide +kernel
theorem d_H_size_14 : decode M_H_size.2.1 14 = .ok (.getfield 24, 3) := by decide +kernel
theorem d_H_size_17 : decode M_H_size.2.1 17 = .ok (.getfield 186, 3) := by decide +kernel
theorem d_H_size_20 : decode M_H_size.2.1 20 = .ok (.iload_n 1, 1) := by decide +kernel
theorem d_H_size_21 : decode M_H_size.2.1 21 = .ok (.invokestatic 167, 3) := by decide +kernel
theorem d_H_size_24 : decode M_H_size.2.1 24 = .ok (.ireturn, 1) := by decide +kernel
theorem d_H_refuseUntold_0 : decode M_H_refuseUntold.2.1 0 = .ok (.iload_n 1, 1) := by decide +kernel
theorem d_H_refuseUntold_1 : decode M_H_refuseUntold.2.1 1 = .ok (.ifCond .lt 14, 3) := by decide +kernel
theorem d_H_refuseUntold_4 : decode M_H_refuseUntold.2.1 4 = .ok (.iload_n 1, 1) := by decide +kernel
theorem d_H_refuseUntold_5 : decode M_H_refuseUntold.2.1 5 = .ok (.aload_n 0, 1) := by decide +kernel
theorem d_H_refuseUntold_6 : decode M_H_refuseUntold.2.1 6 = .ok (.getfield 24, 3) := by decide +kernel
theorem d_H_refuseUntold_9 : decode M_H_refuseUntold.2.1 9 = .ok (.getfield 204, 3) := by decide +kernel
theorem d_H_refuseUntold_12 : decode M_H_refuseUntold.2.1 12 = .ok (.if_icmp .lt 13, 3) := by decide +kernel
theorem d_H_refuseUntold_15 : decode M_H_refuseUntold.2.1 15 = .ok (.new 69, 3) := by decide +kernel
theorem d_H_refuseUntold_18 : decode M_H_refuseUntold.2.1 18 = .ok (.dup, 1) := by decide +kernel
theorem d_H_refuseUntold_19 : decode M_H_refuseUntold.2.1 19 = .ok (.ldc 241, 2) := by decide +kernel
theorem d_H_refuseUntold_21 : decode M_H_refuseUntold.2.1 21 = .ok (.invokespecial 73, 3) := by decide +kernel
theorem d_H_refuseUntold_24 : decode M_H_refuseUntold.2.1 24 = .ok (.athrow, 1) := by decide +kernel
theorem d_H_refuseUntold_25 : decode M_H_refuseUntold.2.1 25 = .ok (.return_, 1) := by decide +kernel
theorem d_H_uses_0 : decode M_H_uses.2.1 0 = .ok (.aload_n 0, 1) := by decide +kernel
theorem d_H_uses_1 : decode M_H_uses.2.1 1 = .ok (.iload_n 1, 1) := by decide +kernel
theorem d_H_uses_2 : decode M_H_uses.2.1 2 = .ok (.invokevirtual 180, 3) := by decide +kernel
theorem d_H_uses_5 : decode M_H_uses.2.1 5 = .ok (.aload_n 0, 1) := by decide +kernel
theorem d_H_uses_6 : decode M_H_uses.2.1 6 = .ok (.getfield 24, 3) := by decide +kernel
theorem d_H_uses_9 : decode M_H_uses.2.1 9 = .ok (.iload_n 1, 1) := by decide +kernel
theorem d_H_uses_10 : decode M_H_uses.2.1 10 = .ok (.invokevirtual 189, 3) := by decide +kernel
theorem d_H_uses_13 : decode M_H_uses.2.1 13 = .ok (.ifCond .eq 16, 3) := by decide +kernel
theorem d_H_uses_16 : decode M_H_uses.2.1 16 = .ok (.iconst 1, 1) := by decide +kernel
theorem d_H_uses_17 : decode M_H_uses.2.1 17 = .ok (.aload_n 0, 1) := by decide +kernel
theorem d_H_uses_18 : decode M_H_uses.2.1 18 = .ok (.getfield 24, 3) := by decide +kernel
theorem d_H_uses_21 : decode M_H_uses.2.1 21 = .ok (.iload_n 1, 1) := by decide +kernel
theorem d_H_uses_22 : decode M_H_uses.2.1 22 = .ok (.invokevirtual 122, 3) := by decide +kernel
theorem d_H_uses_25 : decode M_H_uses.2.1 25 = .ok (.ishl, 1) := by decide +kernel
theorem d_H_uses_26 : decode M_H_uses.2.1 26 = .ok (.iconst 1, 1) := by decide +kernel
theorem d_H_uses_27 : decode M_H_uses.2.1 27 = .ok (.isub, 1) := by decide +kernel
theorem d_H_uses_28 : decode M_H_uses.2.1 28 = .ok (.ireturn, 1) := by decide +kernel
theorem d_H_uses_29 : decode M_H_uses.2.1 29 = .ok (.aload_n 0, 1) := by decide +kernel
theorem d_H_uses_30 : decode M_H_uses.2.1 30 = .ok (.getfield 42, 3) := by decide +kernel
theorem d_H_uses_33 : decode M_H_uses.2.1 33 = .ok (.aload_n 0, 1) := by decide +kernel
theorem d_H_uses_34 : decode M_H_uses.2.1 34 = .ok (.getfield 24, 3) := by decide +kernel
theorem d_H_uses_37 : decode M_H_uses.2.1 37 = .ok (.getfield 192, 3) := by decide +kernel
theorem d_H_uses_40 : decode M_H_uses.2.1 40 = .ok (.iload_n 1, 1) := by decide +kernel
theorem d_H_uses_41 : decode M_H_uses.2.1 41 = .ok (.invokestatic 167, 3) := by decide +kernel
theorem d_H_uses_44 : decode M_H_uses.2.1 44 = .ok (.aload_n 0, 1) := by decide +kernel
theorem d_H_uses_45 : decode M_H_uses.2.1 45 = .ok (.getfield 24, 3) := by decide +kernel
theorem d_H_uses_48 : decode M_H_uses.2.1 48 = .ok (.getfield 195, 3) := by decide +kernel
theorem d_H_uses_51 : decode M_H_uses.2.1 51 = .ok (.iload_n 1, 1) := by decide +kernel
theorem d_H_uses_52 : decode M_H_uses.2.1 52 = .ok (.invokestatic 167, 3) := by decide +kernel
theorem d_H_uses_55 : decode M_H_uses.2.1 55 = .ok (.invokevirtual 198, 3) := by decide +kernel
theorem d_H_uses_58 : decode M_H_uses.2.1 58 = .ok (.iconst 0, 1) := by decide +kernel
theorem d_H_uses_59 : decode M_H_uses.2.1 59 = .ok (.istore_n 2, 1) := by decide +kernel
theorem d_H_uses_60 : decode M_H_uses.2.1 60 = .ok (.iconst 0, 1) := by decide +kernel
theorem d_H_uses_61 : decode M_H_uses.2.1 61 = .ok (.istore_n 3, 1) := by decide +kernel
theorem d_H_uses_62 : decode M_H_uses.2.1 62 = .ok (.iload_n 3, 1) := by decide +kernel
theorem d_H_uses_63 : decode M_H_uses.2.1 63 = .ok (.ldc 171, 2) := by decide +kernel
theorem d_H_uses_65 : decode M_H_uses.2.1 65 = .ok (.if_icmp .ge 29, 3) := by decide +kernel
theorem d_H_uses_68 : decode M_H_uses.2.1 68 = .ok (.aload_n 0, 1) := by decide +kernel
theorem d_H_uses_69 : decode M_H_uses.2.1 69 = .ok (.getfield 42, 3) := by decide +kernel
theorem d_H_uses_72 : decode M_H_uses.2.1 72 = .ok (.invokevirtual 172, 3) := by decide +kernel
theorem d_H_uses_75 : decode M_H_uses.2.1 75 = .ok (.ifCond .eq 19, 3) := by decide +kernel
theorem d_H_uses_78 : decode M_H_uses.2.1 78 = .ok (.iload_n 2, 1) := by decide +kernel
theorem d_H_uses_79 : decode M_H_uses.2.1 79 = .ok (.aload_n 0, 1) := by decide +kernel
theorem d_H_uses_80 : decode M_H_uses.2.1 80 = .ok (.getfield 42, 3) := by decide +kernel
theorem d_H_uses_83 : decode M_H_uses.2.1 83 = .ok (.invokevirtual 201, 3) := by decide +kernel
theorem d_H_uses_86 : decode M_H_uses.2.1 86 = .ok (.ior, 1) := by decide +kernel
theorem d_H_uses_87 : decode M_H_uses.2.1 87 = .ok (.istore_n 2, 1) := by decide +kernel
theorem d_H_uses_88 : decode M_H_uses.2.1 88 = .ok (.iinc 3 1, 3) := by decide +kernel
theorem d_H_uses_91 : decode M_H_uses.2.1 91 = .ok (.goto (-29), 3) := by decide +kernel
theorem d_H_uses_94 : decode M_H_uses.2.1 94 = .ok (.iload_n 2, 1) := by decide +kernel
theorem d_H_uses_95 : decode M_H_uses.2.1 95 = .ok (.ireturn, 1) := by decide +kernel
end
section
theorem d_L_operation_0 : decode M_L_operation.2.1 0 = .ok (.aload 4, 2) := by decide +kernel
theorem d_L_operation_2 : decode M_L_operation.2.1 2 = .ok (.iconst 0, 1) := by decide +kernel
theorem d_L_operation_3 : decode M_L_operation.2.1 3 = .ok (.aload_n 0, 1) := by decide +kernel
theorem d_L_operation_4 : decode M_L_operation.2.1 4 = .ok (.iload_n 1, 1) := by decide +kernel
theorem d_L_operation_5 : decode M_L_operation.2.1 5 = .ok (.iload_n 2, 1) := by decide +kernel
theorem d_L_operation_6 : decode M_L_operation.2.1 6 = .ok (.iload_n 3, 1) := by decide +kernel
theorem d_L_operation_7 : decode M_L_operation.2.1 7 = .ok (.invokevirtual 7, 3) := by decide +kernel
theorem d_L_operation_10 : decode M_L_operation.2.1 10 = .ok (.i2l, 1) := by decide +kernel
theorem d_L_operation_11 : decode M_L_operation.2.1 11 = .ok (.lastore, 1) := by decide +kernel
theorem d_L_operation_12 : decode M_L_operation.2.1 12 = .ok (.goto 7, 3) := by decide +kernel
theorem d_L_operation_15 : decode M_L_operation.2.1 15 = .ok (.astore 5, 2) := by decide +kernel
theorem d_L_operation_17 : decode M_L_operation.2.1 17 = .ok (.iconst 1, 1) := by decide +kernel
theorem d_L_operation_18 : decode M_L_operation.2.1 18 = .ok (.ireturn, 1) := by decide +kernel
theorem d_L_operation_19 : decode M_L_operation.2.1 19 = .ok (.iconst 0, 1) := by decide +kernel
theorem d_L_operation_20 : decode M_L_operation.2.1 20 = .ok (.ireturn, 1) := by decide +kernel
theorem d_L_hole_0 : decode M_L_hole.2.1 0 = .ok (.aload_n 2, 1) := by decide +kernel
theorem d_L_hole_1 : decode M_L_hole.2.1 1 = .ok (.iconst 0, 1) := by decide +kernel
theorem d_L_hole_2 : decode M_L_hole.2.1 2 = .ok (.aload_n 0, 1) := by decide +kernel
theorem d_L_hole_3 : decode M_L_hole.2.1 3 = .ok (.iload_n 1, 1) := by decide +kernel
theorem d_L_hole_4 : decode M_L_hole.2.1 4 = .ok (.invokevirtual 15, 3) := by decide +kernel
theorem d_L_hole_7 : decode M_L_hole.2.1 7 = .ok (.i2l, 1) := by decide +kernel
theorem d_L_hole_8 : decode M_L_hole.2.1 8 = .ok (.lastore, 1) := by decide +kernel
theorem d_L_hole_9 : decode M_L_hole.2.1 9 = .ok (.goto 6, 3) := by decide +kernel
theorem d_L_hole_12 : decode M_L_hole.2.1 12 = .ok (.astore_n 3, 1) := by decide +kernel
theorem d_L_hole_13 : decode M_L_hole.2.1 13 = .ok (.iconst 1, 1) := by decide +kernel
theorem d_L_hole_14 : decode M_L_hole.2.1 14 = .ok (.ireturn, 1) := by decide +kernel
theorem d_L_hole_15 : decode M_L_hole.2.1 15 = .ok (.iconst 0, 1) := by decide +kernel
theorem d_L_hole_16 : decode M_L_hole.2.1 16 = .ok (.ireturn, 1) := by decide +kernel
theorem d_L_begin_0 : decode M_L_begin.2.1 0 = .ok (.aload_n 3, 1) := by decide +kernel
theorem d_L_begin_1 : decode M_L_begin.2.1 1 = .ok (.iconst 0, 1) := by decide +kernel
theorem d_L_begin_2 : decode M_L_begin.2.1 2 = .ok (.aload_n 0, 1) := by decide +kernel
theorem d_L_begin_3 : decode M_L_begin.2.1 3 = .ok (.iload_n 1, 1) := by decide +kernel
theorem d_L_begin_4 : decode M_L_begin.2.1 4 = .ok (.iload_n 2, 1) := by decide +kernel
theorem d_L_begin_5 : decode M_L_begin.2.1 5 = .ok (.invokevirtual 19, 3) := by decide +kernel
theorem d_L_begin_8 : decode M_L_begin.2.1 8 = .ok (.i2l, 1) := by decide +kernel
theorem d_L_begin_9 : decode M_L_begin.2.1 9 = .ok (.lastore, 1) := by decide +kernel
theorem d_L_begin_10 : decode M_L_begin.2.1 10 = .ok (.goto 7, 3) := by decide +kernel
theorem d_L_begin_13 : decode M_L_begin.2.1 13 = .ok (.astore 4, 2) := by decide +kernel
theorem d_L_begin_15 : decode M_L_begin.2.1 15 = .ok (.iconst 1, 1) := by decide +kernel
theorem d_L_begin_16 : decode M_L_begin.2.1 16 = .ok (.ireturn, 1) := by decide +kernel
theorem d_L_begin_17 : decode M_L_begin.2.1 17 = .ok (.iconst 0, 1) := by decide +kernel
theorem d_L_begin_18 : decode M_L_begin.2.1 18 = .ok (.ireturn, 1) := by decide +kernel
theorem d_L_put_0 : decode M_L_put.2.1 0 = .ok (.aload 4, 2) := by decide +kernel
theorem d_L_put_2 : decode M_L_put.2.1 2 = .ok (.iconst 0, 1) := by decide +kernel
theorem d_L_put_3 : decode M_L_put.2.1 3 = .ok (.aload_n 0, 1) := by decide +kernel
theorem d_L_put_4 : decode M_L_put.2.1 4 = .ok (.iload_n 1, 1) := by decide +kernel
theorem d_L_put_5 : decode M_L_put.2.1 5 = .ok (.iload_n 2, 1) := by decide +kernel
theorem d_L_put_6 : decode M_L_put.2.1 6 = .ok (.iload_n 3, 1) := by decide +kernel
theorem d_L_put_7 : decode M_L_put.2.1 7 = .ok (.invokevirtual 23, 3) := by decide +kernel
theorem d_L_put_10 : decode M_L_put.2.1 10 = .ok (.i2l, 1) := by decide +kernel
theorem d_L_put_11 : decode M_L_put.2.1 11 = .ok (.lastore, 1) := by decide +kernel
theorem d_L_put_12 : decode M_L_put.2.1 12 = .ok (.goto 11, 3) := by decide +kernel
theorem d_L_put_15 : decode M_L_put.2.1 15 = .ok (.astore 5, 2) := by decide +kernel
theorem d_L_put_17 : decode M_L_put.2.1 17 = .ok (.iconst 1, 1) := by decide +kernel
theorem d_L_put_18 : decode M_L_put.2.1 18 = .ok (.ireturn, 1) := by decide +kernel
theorem d_L_put_19 : decode M_L_put.2.1 19 = .ok (.astore 5, 2) := by decide +kernel
theorem d_L_put_21 : decode M_L_put.2.1 21 = .ok (.iconst 2, 1) := by decide +kernel
theorem d_L_put_22 : decode M_L_put.2.1 22 = .ok (.ireturn, 1) := by decide +kernel
theorem d_L_put_23 : decode M_L_put.2.1 23 = .ok (.iconst 0, 1) := by decide +kernel
theorem d_L_put_24 : decode M_L_put.2.1 24 = .ok (.ireturn, 1) := by decide +kernel
theorem d_L_unify_0 : decode M_L_unify.2.1 0 = .ok (.aload_n 3, 1) := by decide +kernel
theorem d_L_unify_1 : decode M_L_unify.2.1 1 = .ok (.iconst 0, 1) := by decide +kernel
theorem d_L_unify_2 : decode M_L_unify.2.1 2 = .ok (.aload_n 0, 1) := by decide +kernel
theorem d_L_unify_3 : decode M_L_unify.2.1 3 = .ok (.iload_n 1, 1) := by decide +kernel
theorem d_L_unify_4 : decode M_L_unify.2.1 4 = .ok (.iload_n 2, 1) := by decide +kernel
theorem d_L_unify_5 : decode M_L_unify.2.1 5 = .ok (.invokevirtual 28, 3) := by decide +kernel
theorem d_L_unify_8 : decode M_L_unify.2.1 8 = .ok (.i2l, 1) := by decide +kernel
theorem d_L_unify_9 : decode M_L_unify.2.1 9 = .ok (.lastore, 1) := by decide +kernel
theorem d_L_unify_10 : decode M_L_unify.2.1 10 = .ok (.goto 11, 3) := by decide +kernel
theorem d_L_unify_13 : decode M_L_unify.2.1 13 = .ok (.astore 4, 2) := by decide +kernel
theorem d_L_unify_15 : decode M_L_unify.2.1 15 = .ok (.iconst 1, 1) := by decide +kernel
theorem d_L_unify_16 : decode M_L_unify.2.1 16 = .ok (.ireturn, 1) := by decide +kernel
theorem d_L_unify_17 : decode M_L_unify.2.1 17 = .ok (.astore 4, 2) := by decide +kernel
theorem d_L_unify_19 : decode M_L_unify.2.1 19 = .ok (.iconst 2, 1) := by decide +kernel
theorem d_L_unify_20 : decode M_L_unify.2.1 20 = .ok (.ireturn, 1) := by decide +kernel
theorem d_L_unify_21 : decode M_L_unify.2.1 21 = .ok (.iconst 0, 1) := by decide +kernel
theorem d_L_unify_22 : decode M_L_unify.2.1 22 = .ok (.ireturn, 1) := by decide +kernel
theorem d_L_read_0 : decode M_L_read.2.1 0 = .ok (.aload_n 2, 1) := by decide +kernel
theorem d_L_read_1 : decode M_L_read.2.1 1 = .ok (.iconst 0, 1) := by decide +kernel
theorem d_L_read_2 : decode M_L_read.2.1 2 = .ok (.aload_n 0, 1) := by decide +kernel
theorem d_L_read_3 : decode M_L_read.2.1 3 = .ok (.iload_n 1, 1) := by decide +kernel
theorem d_L_read_4 : decode M_L_read.2.1 4 = .ok (.invokevirtual 31, 3) := by decide +kernel
theorem d_L_read_7 : decode M_L_read.2.1 7 = .ok (.i2l, 1) := by decide +kernel
theorem d_L_read_8 : decode M_L_read.2.1 8 = .ok (.lastore, 1) := by decide +kernel
theorem d_L_read_9 : decode M_L_read.2.1 9 = .ok (.goto 9, 3) := by decide +kernel
theorem d_L_read_12 : decode M_L_read.2.1 12 = .ok (.astore_n 3, 1) := by decide +kernel
theorem d_L_read_13 : decode M_L_read.2.1 13 = .ok (.iconst 1, 1) := by decide +kernel
theorem d_L_read_14 : decode M_L_read.2.1 14 = .ok (.ireturn, 1) := by decide +kernel
theorem d_L_read_15 : decode M_L_read.2.1 15 = .ok (.astore_n 3, 1) := by decide +kernel
theorem d_L_read_16 : decode M_L_read.2.1 16 = .ok (.iconst 2, 1) := by decide +kernel
theorem d_L_read_17 : decode M_L_read.2.1 17 = .ok (.ireturn, 1) := by decide +kernel
theorem d_L_read_18 : decode M_L_read.2.1 18 = .ok (.iconst 0, 1) := by decide +kernel
theorem d_L_read_19 : decode M_L_read.2.1 19 = .ok (.ireturn, 1) := by decide +kernel
theorem d_L_item_0 : decode M_L_item.2.1 0 = .ok (.aload_n 2, 1) := by decide +kernel
theorem d_L_item_1 : decode M_L_item.2.1 1 = .ok (.iconst 0, 1) := by decide +kernel
theorem d_L_item_2 : decode M_L_item.2.1 2 = .ok (.aload_n 0, 1) := by decide +kernel
theorem d_L_item_3 : decode M_L_item.2.1 3 = .ok (.iload_n 1, 1) := by decide +kernel
theorem d_L_item_4 : decode M_L_item.2.1 4 = .ok (.invokevirtual 34, 3) := by decide +kernel
theorem d_L_item_7 : decode M_L_item.2.1 7 = .ok (.i2l, 1) := by decide +kernel
theorem d_L_item_8 : decode M_L_item.2.1 8 = .ok (.lastore, 1) := by decide +kernel
theorem d_L_item_9 : decode M_L_item.2.1 9 = .ok (.goto 6, 3) := by decide +kernel
theorem d_L_item_12 : decode M_L_item.2.1 12 = .ok (.astore_n 3, 1) := by decide +kernel
theorem d_L_item_13 : decode M_L_item.2.1 13 = .ok (.iconst 1, 1) := by decide +kernel
theorem d_L_item_14 : decode M_L_item.2.1 14 = .ok (.ireturn, 1) := by decide +kernel
theorem d_L_item_15 : decode M_L_item.2.1 15 = .ok (.iconst 0, 1) := by decide +kernel
theorem d_L_item_16 : decode M_L_item.2.1 16 = .ok (.ireturn, 1) := by decide +kernel
theorem d_L_isSame_0 : decode M_L_isSame.2.1 0 = .ok (.aload_n 3, 1) := by decide +kernel
theorem d_L_isSame_1 : decode M_L_isSame.2.1 1 = .ok (.iconst 0, 1) := by decide +kernel
theorem d_L_isSame_2 : decode M_L_isSame.2.1 2 = .ok (.aload_n 0, 1) := by decide +kernel
theorem d_L_isSame_3 : decode M_L_isSame.2.1 3 = .ok (.iload_n 1, 1) := by decide +kernel
theorem d_L_isSame_4 : decode M_L_isSame.2.1 4 = .ok (.iload_n 2, 1) := by decide +kernel
theorem d_L_isSame_5 : decode M_L_isSame.2.1 5 = .ok (.invokevirtual 39, 3) := by decide +kernel
theorem d_L_isSame_8 : decode M_L_isSame.2.1 8 = .ok (.ifCond .eq 7, 3) := by decide +kernel
theorem d_L_isSame_11 : decode M_L_isSame.2.1 11 = .ok (.lconst 1, 1) := by decide +kernel
theorem d_L_isSame_12 : decode M_L_isSame.2.1 12 = .ok (.goto 4, 3) := by decide +kernel
theorem d_L_isSame_15 : decode M_L_isSame.2.1 15 = .ok (.lconst 0, 1) := by decide +kernel
theorem d_L_isSame_16 : decode M_L_isSame.2.1 16 = .ok (.lastore, 1) := by decide +kernel
theorem d_L_isSame_17 : decode M_L_isSame.2.1 17 = .ok (.goto 11, 3) := by decide +kernel
theorem d_L_isSame_20 : decode M_L_isSame.2.1 20 = .ok (.astore 4, 2) := by decide +kernel
theorem d_L_isSame_22 : decode M_L_isSame.2.1 22 = .ok (.iconst 1, 1) := by decide +kernel
theorem d_L_isSame_23 : decode M_L_isSame.2.1 23 = .ok (.ireturn, 1) := by decide +kernel
theorem d_L_isSame_24 : decode M_L_isSame.2.1 24 = .ok (.astore 4, 2) := by decide +kernel
theorem d_L_isSame_26 : decode M_L_isSame.2.1 26 = .ok (.iconst 2, 1) := by decide +kernel
theorem d_L_isSame_27 : decode M_L_isSame.2.1 27 = .ok (.ireturn, 1) := by decide +kernel
theorem d_L_isSame_28 : decode M_L_isSame.2.1 28 = .ok (.iconst 0, 1) := by decide +kernel
theorem d_L_isSame_29 : decode M_L_isSame.2.1 29 = .ok (.ireturn, 1) := by decide +kernel
theorem d_L_size_0 : decode M_L_size.2.1 0 = .ok (.aload_n 2, 1) := by decide +kernel
theorem d_L_size_1 : decode M_L_size.2.1 1 = .ok (.iconst 0, 1) := by decide +kernel
theorem d_L_size_2 : decode M_L_size.2.1 2 = .ok (.aload_n 0, 1) := by decide +kernel
theorem d_L_size_3 : decode M_L_size.2.1 3 = .ok (.iload_n 1, 1) := by decide +kernel
theorem d_L_size_4 : decode M_L_size.2.1 4 = .ok (.invokevirtual 43, 3) := by decide +kernel
theorem d_L_size_7 : decode M_L_size.2.1 7 = .ok (.i2l, 1) := by decide +kernel
theorem d_L_size_8 : decode M_L_size.2.1 8 = .ok (.lastore, 1) := by decide +kernel
theorem d_L_size_9 : decode M_L_size.2.1 9 = .ok (.goto 6, 3) := by decide +kernel
theorem d_L_size_12 : decode M_L_size.2.1 12 = .ok (.astore_n 3, 1) := by decide +kernel
theorem d_L_size_13 : decode M_L_size.2.1 13 = .ok (.iconst 1, 1) := by decide +kernel
theorem d_L_size_14 : decode M_L_size.2.1 14 = .ok (.ireturn, 1) := by decide +kernel
theorem d_L_size_15 : decode M_L_size.2.1 15 = .ok (.iconst 0, 1) := by decide +kernel
theorem d_L_size_16 : decode M_L_size.2.1 16 = .ok (.ireturn, 1) := by decide +kernel
theorem d_L_uses_0 : decode M_L_uses.2.1 0 = .ok (.aload_n 2, 1) := by decide +kernel
theorem d_L_uses_1 : decode M_L_uses.2.1 1 = .ok (.iconst 0, 1) := by decide +kernel
theorem d_L_uses_2 : decode M_L_uses.2.1 2 = .ok (.aload_n 0, 1) := by decide +kernel
theorem d_L_uses_3 : decode M_L_uses.2.1 3 = .ok (.iload_n 1, 1) := by decide +kernel
theorem d_L_uses_4 : decode M_L_uses.2.1 4 = .ok (.invokevirtual 46, 3) := by decide +kernel
theorem d_L_uses_7 : decode M_L_uses.2.1 7 = .ok (.i2l, 1) := by decide +kernel
theorem d_L_uses_8 : decode M_L_uses.2.1 8 = .ok (.lastore, 1) := by decide +kernel
theorem d_L_uses_9 : decode M_L_uses.2.1 9 = .ok (.goto 6, 3) := by decide +kernel
theorem d_L_uses_12 : decode M_L_uses.2.1 12 = .ok (.astore_n 3, 1) := by decide +kernel
theorem d_L_uses_13 : decode M_L_uses.2.1 13 = .ok (.iconst 1, 1) := by decide +kernel
theorem d_L_uses_14 : decode M_L_uses.2.1 14 = .ok (.ireturn, 1) := by decide +kernel
theorem d_L_uses_15 : decode M_L_uses.2.1 15 = .ok (.iconst 0, 1) := by decide +kernel
theorem d_L_uses_16 : decode M_L_uses.2.1 16 = .ok (.ireturn, 1) := by decide +kernel
end
section
theorem d_N_init_0 : decode M_N_init.2.1 0 = .ok (.aload_n 0, 1) := by decide +kernel
theorem d_N_init_1 : decode M_N_init.2.1 1 = .ok (.invokespecial 3, 3) := by decide +kernel
theorem d_N_init_4 : decode M_N_init.2.1 4 = .ok (.aload_n 0, 1) := by decide +kernel
theorem d_N_init_5 : decode M_N_init.2.1 5 = .ok (.iconst 4, 1) := by decide +kernel
theorem d_N_init_6 : decode M_N_init.2.1 6 = .ok (.newarray .int, 2) := by decide +kernel
theorem d_N_init_8 : decode M_N_init.2.1 8 = .ok (.putfield 9, 3) := by decide +kernel
theorem d_N_init_11 : decode M_N_init.2.1 11 = .ok (.aload_n 0, 1) := by decide +kernel
theorem d_N_init_12 : decode M_N_init.2.1 12 = .ok (.iconst 4, 1) := by decide +kernel
theorem d_N_init_13 : decode M_N_init.2.1 13 = .ok (.newarray .int, 2) := by decide +kernel
theorem d_N_init_15 : decode M_N_init.2.1 15 = .ok (.putfield 15, 3) := by decide +kernel
theorem d_N_init_18 : decode M_N_init.2.1 18 = .ok (.aload_n 0, 1) := by decide +kernel
theorem d_N_init_19 : decode M_N_init.2.1 19 = .ok (.aload_n 1, 1) := by decide +kernel
theorem d_N_init_20 : decode M_N_init.2.1 20 = .ok (.putfield 18, 3) := by decide +kernel
theorem d_N_init_23 : decode M_N_init.2.1 23 = .ok (.aload_n 0, 1) := by decide +kernel
theorem d_N_init_24 : decode M_N_init.2.1 24 = .ok (.aload_n 2, 1) := by decide +kernel
theorem d_N_init_25 : decode M_N_init.2.1 25 = .ok (.putfield 22, 3) := by decide +kernel
theorem d_N_init_28 : decode M_N_init.2.1 28 = .ok (.aload_n 0, 1) := by decide +kernel
theorem d_N_init_29 : decode M_N_init.2.1 29 = .ok (.aload_n 3, 1) := by decide +kernel
theorem d_N_init_30 : decode M_N_init.2.1 30 = .ok (.putfield 26, 3) := by decide +kernel
theorem d_N_init_33 : decode M_N_init.2.1 33 = .ok (.aload_n 0, 1) := by decide +kernel
theorem d_N_init_34 : decode M_N_init.2.1 34 = .ok (.aload 4, 2) := by decide +kernel
theorem d_N_init_36 : decode M_N_init.2.1 36 = .ok (.putfield 30, 3) := by decide +kernel
theorem d_N_init_39 : decode M_N_init.2.1 39 = .ok (.aload_n 0, 1) := by decide +kernel
theorem d_N_init_40 : decode M_N_init.2.1 40 = .ok (.aload 5, 2) := by decide +kernel
theorem d_N_init_42 : decode M_N_init.2.1 42 = .ok (.putfield 34, 3) := by decide +kernel
theorem d_N_init_45 : decode M_N_init.2.1 45 = .ok (.aload_n 0, 1) := by decide +kernel
theorem d_N_init_46 : decode M_N_init.2.1 46 = .ok (.new 37, 3) := by decide +kernel
theorem d_N_init_49 : decode M_N_init.2.1 49 = .ok (.dup, 1) := by decide +kernel
theorem d_N_init_50 : decode M_N_init.2.1 50 = .ok (.aload_n 1, 1) := by decide +kernel
theorem d_N_init_51 : decode M_N_init.2.1 51 = .ok (.aload_n 2, 1) := by decide +kernel
theorem d_N_init_52 : decode M_N_init.2.1 52 = .ok (.invokespecial 39, 3) := by decide +kernel
theorem d_N_init_55 : decode M_N_init.2.1 55 = .ok (.putfield 42, 3) := by decide +kernel
theorem d_N_init_58 : decode M_N_init.2.1 58 = .ok (.return_, 1) := by decide +kernel
theorem d_N_solve_0 : decode M_N_solve.2.1 0 = .ok (.iconst 0, 1) := by decide +kernel
theorem d_N_solve_1 : decode M_N_solve.2.1 1 = .ok (.istore_n 1, 1) := by decide +kernel
theorem d_N_solve_2 : decode M_N_solve.2.1 2 = .ok (.iload_n 1, 1) := by decide +kernel
theorem d_N_solve_3 : decode M_N_solve.2.1 3 = .ok (.ldc 45, 2) := by decide +kernel
theorem d_N_solve_5 : decode M_N_solve.2.1 5 = .ok (.if_icmp .ge 165, 3) := by decide +kernel
theorem d_N_solve_8 : decode M_N_solve.2.1 8 = .ok (.aload_n 0, 1) := by decide +kernel
theorem d_N_solve_9 : decode M_N_solve.2.1 9 = .ok (.getfield 30, 3) := by decide +kernel
theorem d_N_solve_12 : decode M_N_solve.2.1 12 = .ok (.invokevirtual 46, 3) := by decide +kernel
theorem d_N_solve_15 : decode M_N_solve.2.1 15 = .ok (.ifCond .eq 13, 3) := by decide +kernel
theorem d_N_solve_18 : decode M_N_solve.2.1 18 = .ok (.aload_n 0, 1) := by decide +kernel
theorem d_N_solve_19 : decode M_N_solve.2.1 19 = .ok (.getfield 34, 3) := by decide +kernel
theorem d_N_solve_22 : decode M_N_solve.2.1 22 = .ok (.invokevirtual 46, 3) := by decide +kernel
theorem d_N_solve_25 : decode M_N_solve.2.1 25 = .ok (.ifCond .ne 5, 3) := by decide +kernel
theorem d_N_solve_28 : decode M_N_solve.2.1 28 = .ok (.iconst 0, 1) := by decide +kernel
theorem d_N_solve_29 : decode M_N_solve.2.1 29 = .ok (.ireturn, 1) := by decide +kernel
theorem d_N_solve_30 : decode M_N_solve.2.1 30 = .ok (.aload_n 0, 1) := by decide +kernel
theorem d_N_solve_31 : decode M_N_solve.2.1 31 = .ok (.getfield 30, 3) := by decide +kernel
theorem d_N_solve_34 : decode M_N_solve.2.1 34 = .ok (.getfield 50, 3) := by decide +kernel
theorem d_N_solve_37 : decode M_N_solve.2.1 37 = .ok (.iconst 2, 1) := by decide +kernel
theorem d_N_solve_38 : decode M_N_solve.2.1 38 = .ok (.if_icmp .ne 46, 3) := by decide +kernel
theorem d_N_solve_41 : decode M_N_solve.2.1 41 = .ok (.aload_n 0, 1) := by decide +kernel
theorem d_N_solve_42 : decode M_N_solve.2.1 42 = .ok (.getfield 34, 3) := by decide +kernel
theorem d_N_solve_45 : decode M_N_solve.2.1 45 = .ok (.getfield 50, 3) := by decide +kernel
theorem d_N_solve_48 : decode M_N_solve.2.1 48 = .ok (.iconst 2, 1) := by decide +kernel
theorem d_N_solve_49 : decode M_N_solve.2.1 49 = .ok (.if_icmp .ne 35, 3) := by decide +kernel
theorem d_N_solve_52 : decode M_N_solve.2.1 52 = .ok (.aload_n 0, 1) := by decide +kernel
theorem d_N_solve_53 : decode M_N_solve.2.1 53 = .ok (.getfield 30, 3) := by decide +kernel
theorem d_N_solve_56 : decode M_N_solve.2.1 56 = .ok (.getfield 54, 3) := by decide +kernel
theorem d_N_solve_59 : decode M_N_solve.2.1 59 = .ok (.aload_n 0, 1) := by decide +kernel
theorem d_N_solve_60 : decode M_N_solve.2.1 60 = .ok (.getfield 34, 3) := by decide +kernel
theorem d_N_solve_63 : decode M_N_solve.2.1 63 = .ok (.getfield 54, 3) := by decide +kernel
theorem d_N_solve_66 : decode M_N_solve.2.1 66 = .ok (.if_icmp .ne 10, 3) := by decide +kernel
theorem d_N_solve_69 : decode M_N_solve.2.1 69 = .ok (.aload_n 0, 1) := by decide +kernel
theorem d_N_solve_70 : decode M_N_solve.2.1 70 = .ok (.invokevirtual 57, 3) := by decide +kernel
theorem d_N_solve_73 : decode M_N_solve.2.1 73 = .ok (.goto 7, 3) := by decide +kernel
theorem d_N_solve_76 : decode M_N_solve.2.1 76 = .ok (.aload_n 0, 1) := by decide +kernel
theorem d_N_solve_77 : decode M_N_solve.2.1 77 = .ok (.invokevirtual 61, 3) := by decide +kernel
theorem d_N_solve_80 : decode M_N_solve.2.1 80 = .ok (.istore_n 2, 1) := by decide +kernel
theorem d_N_solve_81 : decode M_N_solve.2.1 81 = .ok (.goto 77, 3) := by decide +kernel
theorem d_N_solve_84 : decode M_N_solve.2.1 84 = .ok (.aload_n 0, 1) := by decide +kernel
theorem d_N_solve_85 : decode M_N_solve.2.1 85 = .ok (.getfield 30, 3) := by decide +kernel
theorem d_N_solve_88 : decode M_N_solve.2.1 88 = .ok (.getfield 50, 3) := by decide +kernel
theorem d_N_solve_91 : decode M_N_solve.2.1 91 = .ok (.iconst 2, 1) := by decide +kernel
theorem d_N_solve_92 : decode M_N_solve.2.1 92 = .ok (.if_icmp .ne 19, 3) := by decide +kernel
theorem d_N_solve_95 : decode M_N_solve.2.1 95 = .ok (.aload_n 0, 1) := by decide +kernel
theorem d_N_solve_96 : decode M_N_solve.2.1 96 = .ok (.aload_n 0, 1) := by decide +kernel
theorem d_N_solve_97 : decode M_N_solve.2.1 97 = .ok (.getfield 30, 3) := by decide +kernel
theorem d_N_solve_100 : decode M_N_solve.2.1 100 = .ok (.aload_n 0, 1) := by decide +kernel
theorem d_N_solve_101 : decode M_N_solve.2.1 101 = .ok (.getfield 34, 3) := by decide +kernel
theorem d_N_solve_104 : decode M_N_solve.2.1 104 = .ok (.invokevirtual 64, 3) := by decide +kernel
theorem d_N_solve_107 : decode M_N_solve.2.1 107 = .ok (.istore_n 2, 1) := by decide +kernel
theorem d_N_solve_108 : decode M_N_solve.2.1 108 = .ok (.goto 50, 3) := by decide +kernel
theorem d_N_solve_111 : decode M_N_solve.2.1 111 = .ok (.aload_n 0, 1) := by decide +kernel
theorem d_N_solve_112 : decode M_N_solve.2.1 112 = .ok (.getfield 34, 3) := by decide +kernel
theorem d_N_solve_115 : decode M_N_solve.2.1 115 = .ok (.getfield 50, 3) := by decide +kernel
theorem d_N_solve_118 : decode M_N_solve.2.1 118 = .ok (.iconst 2, 1) := by decide +kernel
theorem d_N_solve_119 : decode M_N_solve.2.1 119 = .ok (.if_icmp .ne 19, 3) := by decide +kernel
theorem d_N_solve_122 : decode M_N_solve.2.1 122 = .ok (.aload_n 0, 1) := by decide +kernel
theorem d_N_solve_123 : decode M_N_solve.2.1 123 = .ok (.aload_n 0, 1) := by decide +kernel
theorem d_N_solve_124 : decode M_N_solve.2.1 124 = .ok (.getfield 34, 3) := by decide +kernel
theorem d_N_solve_127 : decode M_N_solve.2.1 127 = .ok (.aload_n 0, 1) := by decide +kernel
theorem d_N_solve_128 : decode M_N_solve.2.1 128 = .ok (.getfield 30, 3) := by decide +kernel
theorem d_N_solve_131 : decode M_N_solve.2.1 131 = .ok (.invokevirtual 64, 3) := by decide +kernel
theorem d_N_solve_134 : decode M_N_solve.2.1 134 = .ok (.istore_n 2, 1) := by decide +kernel
theorem d_N_solve_135 : decode M_N_solve.2.1 135 = .ok (.goto 23, 3) := by decide +kernel
theorem d_N_solve_138 : decode M_N_solve.2.1 138 = .ok (.aload_n 0, 1) := by decide +kernel
theorem d_N_solve_139 : decode M_N_solve.2.1 139 = .ok (.getfield 30, 3) := by decide +kernel
theorem d_N_solve_142 : decode M_N_solve.2.1 142 = .ok (.aload_n 0, 1) := by decide +kernel
theorem d_N_solve_143 : decode M_N_solve.2.1 143 = .ok (.getfield 34, 3) := by decide +kernel
theorem d_N_solve_146 : decode M_N_solve.2.1 146 = .ok (.invokevirtual 68, 3) := by decide +kernel
theorem d_N_solve_149 : decode M_N_solve.2.1 149 = .ok (.ifCond .eq 7, 3) := by decide +kernel
theorem d_N_solve_152 : decode M_N_solve.2.1 152 = .ok (.iconst 0, 1) := by decide +kernel
theorem d_N_solve_153 : decode M_N_solve.2.1 153 = .ok (.goto 4, 3) := by decide +kernel
theorem d_N_solve_156 : decode M_N_solve.2.1 156 = .ok (.iconst 1, 1) := by decide +kernel
theorem d_N_solve_157 : decode M_N_solve.2.1 157 = .ok (.istore_n 2, 1) := by decide +kernel
theorem d_N_solve_158 : decode M_N_solve.2.1 158 = .ok (.iload_n 2, 1) := by decide +kernel
theorem d_N_solve_159 : decode M_N_solve.2.1 159 = .ok (.ifCond .eq 5, 3) := by decide +kernel
theorem d_N_solve_162 : decode M_N_solve.2.1 162 = .ok (.iload_n 2, 1) := by decide +kernel
theorem d_N_solve_163 : decode M_N_solve.2.1 163 = .ok (.ireturn, 1) := by decide +kernel
theorem d_N_solve_164 : decode M_N_solve.2.1 164 = .ok (.iinc 1 1, 3) := by decide +kernel
theorem d_N_solve_167 : decode M_N_solve.2.1 167 = .ok (.goto (-165), 3) := by decide +kernel
theorem d_N_solve_170 : decode M_N_solve.2.1 170 = .ok (.iconst 0, 1) := by decide +kernel
theorem d_N_solve_171 : decode M_N_solve.2.1 171 = .ok (.ireturn, 1) := by decide +kernel
theorem d_N_narrowToSame_0 : decode M_N_narrowToSame.2.1 0 = .ok (.iconst 0, 1) := by decide +kernel
theorem d_N_narrowToSame_1 : decode M_N_narrowToSame.2.1 1 = .ok (.istore_n 1, 1) := by decide +kernel
theorem d_N_narrowToSame_2 : decode M_N_narrowToSame.2.1 2 = .ok (.iconst 0, 1) := by decide +kernel
theorem d_N_narrowToSame_3 : decode M_N_narrowToSame.2.1 3 = .ok (.istore_n 2, 1) := by decide +kernel
theorem d_N_narrowToSame_4 : decode M_N_narrowToSame.2.1 4 = .ok (.iload_n 2, 1) := by decide +kernel
theorem d_N_narrowToSame_5 : decode M_N_narrowToSame.2.1 5 = .ok (.aload_n 0, 1) := by decide +kernel
theorem d_N_narrowToSame_6 : decode M_N_narrowToSame.2.1 6 = .ok (.getfield 30, 3) := by decide +kernel
theorem d_N_narrowToSame_9 : decode M_N_narrowToSame.2.1 9 = .ok (.getfield 72, 3) := by decide +kernel
theorem d_N_narrowToSame_12 : decode M_N_narrowToSame.2.1 12 = .ok (.if_icmp .ge 46, 3) := by decide +kernel
theorem d_N_narrowToSame_15 : decode M_N_narrowToSame.2.1 15 = .ok (.aload_n 0, 1) := by decide +kernel
theorem d_N_narrowToSame_16 : decode M_N_narrowToSame.2.1 16 = .ok (.getfield 30, 3) := by decide +kernel
theorem d_N_narrowToSame_19 : decode M_N_narrowToSame.2.1 19 = .ok (.getfield 75, 3) := by decide +kernel
theorem d_N_narrowToSame_22 : decode M_N_narrowToSame.2.1 22 = .ok (.iload_n 2, 1) := by decide +kernel
theorem d_N_narrowToSame_23 : decode M_N_narrowToSame.2.1 23 = .ok (.invokestatic 78, 3) := by decide +kernel
theorem d_N_narrowToSame_26 : decode M_N_narrowToSame.2.1 26 = .ok (.aload_n 0, 1) := by decide +kernel
theorem d_N_narrowToSame_27 : decode M_N_narrowToSame.2.1 27 = .ok (.getfield 34, 3) := by decide +kernel
theorem d_N_narrowToSame_30 : decode M_N_narrowToSame.2.1 30 = .ok (.getfield 75, 3) := by decide +kernel
theorem d_N_narrowToSame_33 : decode M_N_narrowToSame.2.1 33 = .ok (.iload_n 2, 1) := by decide +kernel
theorem d_N_narrowToSame_34 : decode M_N_narrowToSame.2.1 34 = .ok (.invokestatic 78, 3) := by decide +kernel
theorem d_N_narrowToSame_37 : decode M_N_narrowToSame.2.1 37 = .ok (.if_icmp .ne 15, 3) := by decide +kernel
theorem d_N_narrowToSame_40 : decode M_N_narrowToSame.2.1 40 = .ok (.aload_n 0, 1) := by decide +kernel
theorem d_N_narrowToSame_41 : decode M_N_narrowToSame.2.1 41 = .ok (.getfield 9, 3) := by decide +kernel
theorem d_N_narrowToSame_44 : decode M_N_narrowToSame.2.1 44 = .ok (.iload_n 1, 1) := by decide +kernel
theorem d_N_narrowToSame_45 : decode M_N_narrowToSame.2.1 45 = .ok (.iload_n 2, 1) := by decide +kernel
theorem d_N_narrowToSame_46 : decode M_N_narrowToSame.2.1 46 = .ok (.invokestatic 82, 3) := by decide +kernel
theorem d_N_narrowToSame_49 : decode M_N_narrowToSame.2.1 49 = .ok (.iinc 1 1, 3) := by decide +kernel
theorem d_N_narrowToSame_52 : decode M_N_narrowToSame.2.1 52 = .ok (.iinc 2 1, 3) := by decide +kernel
theorem d_N_narrowToSame_55 : decode M_N_narrowToSame.2.1 55 = .ok (.goto (-51), 3) := by decide +kernel
theorem d_N_narrowToSame_58 : decode M_N_narrowToSame.2.1 58 = .ok (.iload_n 1, 1) := by decide +kernel
theorem d_N_narrowToSame_59 : decode M_N_narrowToSame.2.1 59 = .ok (.aload_n 0, 1) := by decide +kernel
theorem d_N_narrowToSame_60 : decode M_N_narrowToSame.2.1 60 = .ok (.getfield 30, 3) := by decide +kernel
theorem d_N_narrowToSame_63 : decode M_N_narrowToSame.2.1 63 = .ok (.getfield 72, 3) := by decide +kernel
theorem d_N_narrowToSame_66 : decode M_N_narrowToSame.2.1 66 = .ok (.if_icmp .ne 5, 3) := by decide +kernel
theorem d_N_narrowToSame_69 : decode M_N_narrowToSame.2.1 69 = .ok (.iconst 0, 1) := by decide +kernel
theorem d_N_narrowToSame_70 : decode M_N_narrowToSame.2.1 70 = .ok (.ireturn, 1) := by decide +kernel
theorem d_N_narrowToSame_71 : decode M_N_narrowToSame.2.1 71 = .ok (.aload_n 0, 1) := by decide +kernel
theorem d_N_narrowToSame_72 : decode M_N_narrowToSame.2.1 72 = .ok (.getfield 22, 3) := by decide +kernel
theorem d_N_narrowToSame_75 : decode M_N_narrowToSame.2.1 75 = .ok (.aload_n 0, 1) := by decide +kernel
theorem d_N_narrowToSame_76 : decode M_N_narrowToSame.2.1 76 = .ok (.getfield 30, 3) := by decide +kernel
theorem d_N_narrowToSame_79 : decode M_N_narrowToSame.2.1 79 = .ok (.getfield 54, 3) := by decide +kernel
theorem d_N_narrowToSame_82 : decode M_N_narrowToSame.2.1 82 = .ok (.aload_n 0, 1) := by decide +kernel
theorem d_N_narrowToSame_83 : decode M_N_narrowToSame.2.1 83 = .ok (.getfield 22, 3) := by decide +kernel
theorem d_N_narrowToSame_86 : decode M_N_narrowToSame.2.1 86 = .ok (.iload_n 1, 1) := by decide +kernel
theorem d_N_narrowToSame_87 : decode M_N_narrowToSame.2.1 87 = .ok (.invokevirtual 86, 3) := by decide +kernel
theorem d_N_narrowToSame_90 : decode M_N_narrowToSame.2.1 90 = .ok (.aload_n 0, 1) := by decide +kernel
theorem d_N_narrowToSame_91 : decode M_N_narrowToSame.2.1 91 = .ok (.getfield 9, 3) := by decide +kernel
theorem d_N_narrowToSame_94 : decode M_N_narrowToSame.2.1 94 = .ok (.invokevirtual 92, 3) := by decide +kernel
theorem d_N_narrowToSame_97 : decode M_N_narrowToSame.2.1 97 = .ok (.istore_n 2, 1) := by decide +kernel
theorem d_N_narrowToSame_98 : decode M_N_narrowToSame.2.1 98 = .ok (.iload_n 2, 1) := by decide +kernel
theorem d_N_narrowToSame_99 : decode M_N_narrowToSame.2.1 99 = .ok (.ifCond .eq 7, 3) := by decide +kernel
theorem d_N_narrowToSame_102 : decode M_N_narrowToSame.2.1 102 = .ok (.iconst 0, 1) := by decide +kernel
theorem d_N_narrowToSame_103 : decode M_N_narrowToSame.2.1 103 = .ok (.goto 4, 3) := by decide +kernel
theorem d_N_narrowToSame_106 : decode M_N_narrowToSame.2.1 106 = .ok (.iconst 5, 1) := by decide +kernel
theorem d_N_narrowToSame_107 : decode M_N_narrowToSame.2.1 107 = .ok (.ireturn, 1) := by decide +kernel
theorem d_N_joinHoles_0 : decode M_N_joinHoles.2.1 0 = .ok (.iconst 0, 1) := by decide +kernel
theorem d_N_joinHoles_1 : decode M_N_joinHoles.2.1 1 = .ok (.istore_n 1, 1) := by decide +kernel
theorem d_N_joinHoles_2 : decode M_N_joinHoles.2.1 2 = .ok (.iconst 0, 1) := by decide +kernel
theorem d_N_joinHoles_3 : decode M_N_joinHoles.2.1 3 = .ok (.istore_n 2, 1) := by decide +kernel
theorem d_N_joinHoles_4 : decode M_N_joinHoles.2.1 4 = .ok (.iload_n 2, 1) := by decide +kernel
theorem d_N_joinHoles_5 : decode M_N_joinHoles.2.1 5 = .ok (.aload_n 0, 1) := by decide +kernel
theorem d_N_joinHoles_6 : decode M_N_joinHoles.2.1 6 = .ok (.getfield 30, 3) := by decide +kernel
theorem d_N_joinHoles_9 : decode M_N_joinHoles.2.1 9 = .ok (.getfield 72, 3) := by decide +kernel
theorem d_N_joinHoles_12 : decode M_N_joinHoles.2.1 12 = .ok (.if_icmp .ge 54, 3) := by decide +kernel
theorem d_N_joinHoles_15 : decode M_N_joinHoles.2.1 15 = .ok (.aload_n 0, 1) := by decide +kernel
theorem d_N_joinHoles_16 : decode M_N_joinHoles.2.1 16 = .ok (.getfield 34, 3) := by decide +kernel
theorem d_N_joinHoles_19 : decode M_N_joinHoles.2.1 19 = .ok (.aload_n 0, 1) := by decide +kernel
theorem d_N_joinHoles_20 : decode M_N_joinHoles.2.1 20 = .ok (.getfield 30, 3) := by decide +kernel
theorem d_N_joinHoles_23 : decode M_N_joinHoles.2.1 23 = .ok (.getfield 75, 3) := by decide +kernel
theorem d_N_joinHoles_26 : decode M_N_joinHoles.2.1 26 = .ok (.iload_n 2, 1) := by decide +kernel
theorem d_N_joinHoles_27 : decode M_N_joinHoles.2.1 27 = .ok (.invokestatic 78, 3) := by decide +kernel
theorem d_N_joinHoles_30 : decode M_N_joinHoles.2.1 30 = .ok (.invokevirtual 96, 3) := by decide +kernel
theorem d_N_joinHoles_33 : decode M_N_joinHoles.2.1 33 = .ok (.istore_n 3, 1) := by decide +kernel
theorem d_N_joinHoles_34 : decode M_N_joinHoles.2.1 34 = .ok (.iload_n 3, 1) := by decide +kernel
theorem d_N_joinHoles_35 : decode M_N_joinHoles.2.1 35 = .ok (.iconst (-1), 1) := by decide +kernel
theorem d_N_joinHoles_36 : decode M_N_joinHoles.2.1 36 = .ok (.if_icmp .eq 24, 3) := by decide +kernel
theorem d_N_joinHoles_39 : decode M_N_joinHoles.2.1 39 = .ok (.aload_n 0, 1) := by decide +kernel
theorem d_N_joinHoles_40 : decode M_N_joinHoles.2.1 40 = .ok (.getfield 9, 3) := by decide +kernel
theorem d_N_joinHoles_43 : decode M_N_joinHoles.2.1 43 = .ok (.iload_n 1, 1) := by decide +kernel
theorem d_N_joinHoles_44 : decode M_N_joinHoles.2.1 44 = .ok (.iload_n 2, 1) := by decide +kernel
theorem d_N_joinHoles_45 : decode M_N_joinHoles.2.1 45 = .ok (.invokestatic 82, 3) := by decide +kernel
theorem d_N_joinHoles_48 : decode M_N_joinHoles.2.1 48 = .ok (.aload_n 0, 1) := by decide +kernel
theorem d_N_joinHoles_49 : decode M_N_joinHoles.2.1 49 = .ok (.getfield 15, 3) := by decide +kernel
theorem d_N_joinHoles_52 : decode M_N_joinHoles.2.1 52 = .ok (.iload_n 1, 1) := by decide +kernel
theorem d_N_joinHoles_53 : decode M_N_joinHoles.2.1 53 = .ok (.iload_n 3, 1) := by decide +kernel
theorem d_N_joinHoles_54 : decode M_N_joinHoles.2.1 54 = .ok (.invokestatic 82, 3) := by decide +kernel
theorem d_N_joinHoles_57 : decode M_N_joinHoles.2.1 57 = .ok (.iinc 1 1, 3) := by decide +kernel
theorem d_N_joinHoles_60 : decode M_N_joinHoles.2.1 60 = .ok (.iinc 2 1, 3) := by decide +kernel
theorem d_N_joinHoles_63 : decode M_N_joinHoles.2.1 63 = .ok (.goto (-59), 3) := by decide +kernel
theorem d_N_joinHoles_66 : decode M_N_joinHoles.2.1 66 = .ok (.aload_n 0, 1) := by decide +kernel
theorem d_N_joinHoles_67 : decode M_N_joinHoles.2.1 67 = .ok (.getfield 22, 3) := by decide +kernel
theorem d_N_joinHoles_70 : decode M_N_joinHoles.2.1 70 = .ok (.iload_n 1, 1) := by decide +kernel
theorem d_N_joinHoles_71 : decode M_N_joinHoles.2.1 71 = .ok (.invokevirtual 86, 3) := by decide +kernel
theorem d_N_joinHoles_74 : decode M_N_joinHoles.2.1 74 = .ok (.istore_n 2, 1) := by decide +kernel
theorem d_N_joinHoles_75 : decode M_N_joinHoles.2.1 75 = .ok (.aload_n 0, 1) := by decide +kernel
theorem d_N_joinHoles_76 : decode M_N_joinHoles.2.1 76 = .ok (.getfield 22, 3) := by decide +kernel
theorem d_N_joinHoles_79 : decode M_N_joinHoles.2.1 79 = .ok (.aload_n 0, 1) := by decide +kernel
theorem d_N_joinHoles_80 : decode M_N_joinHoles.2.1 80 = .ok (.getfield 30, 3) := by decide +kernel
theorem d_N_joinHoles_83 : decode M_N_joinHoles.2.1 83 = .ok (.getfield 54, 3) := by decide +kernel
theorem d_N_joinHoles_86 : decode M_N_joinHoles.2.1 86 = .ok (.iload_n 2, 1) := by decide +kernel
theorem d_N_joinHoles_87 : decode M_N_joinHoles.2.1 87 = .ok (.aload_n 0, 1) := by decide +kernel
theorem d_N_joinHoles_88 : decode M_N_joinHoles.2.1 88 = .ok (.getfield 9, 3) := by decide +kernel
theorem d_N_joinHoles_91 : decode M_N_joinHoles.2.1 91 = .ok (.invokevirtual 92, 3) := by decide +kernel
theorem d_N_joinHoles_94 : decode M_N_joinHoles.2.1 94 = .ok (.ifCond .eq 29, 3) := by decide +kernel
theorem d_N_joinHoles_97 : decode M_N_joinHoles.2.1 97 = .ok (.aload_n 0, 1) := by decide +kernel
theorem d_N_joinHoles_98 : decode M_N_joinHoles.2.1 98 = .ok (.getfield 22, 3) := by decide +kernel
theorem d_N_joinHoles_101 : decode M_N_joinHoles.2.1 101 = .ok (.aload_n 0, 1) := by decide +kernel
theorem d_N_joinHoles_102 : decode M_N_joinHoles.2.1 102 = .ok (.getfield 34, 3) := by decide +kernel
theorem d_N_joinHoles_105 : decode M_N_joinHoles.2.1 105 = .ok (.getfield 54, 3) := by decide +kernel
theorem d_N_joinHoles_108 : decode M_N_joinHoles.2.1 108 = .ok (.iload_n 2, 1) := by decide +kernel
theorem d_N_joinHoles_109 : decode M_N_joinHoles.2.1 109 = .ok (.aload_n 0, 1) := by decide +kernel
theorem d_N_joinHoles_110 : decode M_N_joinHoles.2.1 110 = .ok (.getfield 15, 3) := by decide +kernel
theorem d_N_joinHoles_113 : decode M_N_joinHoles.2.1 113 = .ok (.invokevirtual 92, 3) := by decide +kernel
theorem d_N_joinHoles_116 : decode M_N_joinHoles.2.1 116 = .ok (.ifCond .eq 7, 3) := by decide +kernel
theorem d_N_joinHoles_119 : decode M_N_joinHoles.2.1 119 = .ok (.iconst 1, 1) := by decide +kernel
theorem d_N_joinHoles_120 : decode M_N_joinHoles.2.1 120 = .ok (.goto 4, 3) := by decide +kernel
theorem d_N_joinHoles_123 : decode M_N_joinHoles.2.1 123 = .ok (.iconst 0, 1) := by decide +kernel
theorem d_N_joinHoles_124 : decode M_N_joinHoles.2.1 124 = .ok (.istore_n 3, 1) := by decide +kernel
theorem d_N_joinHoles_125 : decode M_N_joinHoles.2.1 125 = .ok (.iload_n 3, 1) := by decide +kernel
theorem d_N_joinHoles_126 : decode M_N_joinHoles.2.1 126 = .ok (.ifCond .eq 7, 3) := by decide +kernel
theorem d_N_joinHoles_129 : decode M_N_joinHoles.2.1 129 = .ok (.iconst 0, 1) := by decide +kernel
theorem d_N_joinHoles_130 : decode M_N_joinHoles.2.1 130 = .ok (.goto 4, 3) := by decide +kernel
theorem d_N_joinHoles_133 : decode M_N_joinHoles.2.1 133 = .ok (.iconst 5, 1) := by decide +kernel
theorem d_N_joinHoles_134 : decode M_N_joinHoles.2.1 134 = .ok (.ireturn, 1) := by decide +kernel
theorem d_N_fillWithTerm_0 : decode M_N_fillWithTerm.2.1 0 = .ok (.aload_n 0, 1) := by decide +kernel
theorem d_N_fillWithTerm_1 : decode M_N_fillWithTerm.2.1 1 = .ok (.getfield 42, 3) := by decide +kernel
theorem d_N_fillWithTerm_4 : decode M_N_fillWithTerm.2.1 4 = .ok (.aload_n 2, 1) := by decide +kernel
theorem d_N_fillWithTerm_5 : decode M_N_fillWithTerm.2.1 5 = .ok (.invokevirtual 99, 3) := by decide +kernel
theorem d_N_fillWithTerm_8 : decode M_N_fillWithTerm.2.1 8 = .ok (.aload_n 0, 1) := by decide +kernel
theorem d_N_fillWithTerm_9 : decode M_N_fillWithTerm.2.1 9 = .ok (.aload_n 1, 1) := by decide +kernel
theorem d_N_fillWithTerm_10 : decode M_N_fillWithTerm.2.1 10 = .ok (.invokevirtual 103, 3) := by decide +kernel
theorem d_N_fillWithTerm_13 : decode M_N_fillWithTerm.2.1 13 = .ok (.istore_n 3, 1) := by decide +kernel
theorem d_N_fillWithTerm_14 : decode M_N_fillWithTerm.2.1 14 = .ok (.iload_n 3, 1) := by decide +kernel
theorem d_N_fillWithTerm_15 : decode M_N_fillWithTerm.2.1 15 = .ok (.ifCond .eq 5, 3) := by decide +kernel
theorem d_N_fillWithTerm_18 : decode M_N_fillWithTerm.2.1 18 = .ok (.iload_n 3, 1) := by decide +kernel
theorem d_N_fillWithTerm_19 : decode M_N_fillWithTerm.2.1 19 = .ok (.ireturn, 1) := by decide +kernel
theorem d_N_fillWithTerm_20 : decode M_N_fillWithTerm.2.1 20 = .ok (.aload_n 0, 1) := by decide +kernel
theorem d_N_fillWithTerm_21 : decode M_N_fillWithTerm.2.1 21 = .ok (.getfield 107, 3) := by decide +kernel
theorem d_N_fillWithTerm_24 : decode M_N_fillWithTerm.2.1 24 = .ok (.bipush 80, 2) := by decide +kernel
theorem d_N_fillWithTerm_26 : decode M_N_fillWithTerm.2.1 26 = .ok (.if_icmp .le 5, 3) := by decide +kernel
theorem d_N_fillWithTerm_29 : decode M_N_fillWithTerm.2.1 29 = .ok (.iconst 4, 1) := by decide +kernel
theorem d_N_fillWithTerm_30 : decode M_N_fillWithTerm.2.1 30 = .ok (.ireturn, 1) := by decide +kernel
theorem d_N_fillWithTerm_31 : decode M_N_fillWithTerm.2.1 31 = .ok (.aload_n 0, 1) := by decide +kernel
theorem d_N_fillWithTerm_32 : decode M_N_fillWithTerm.2.1 32 = .ok (.getfield 18, 3) := by decide +kernel
theorem d_N_fillWithTerm_35 : decode M_N_fillWithTerm.2.1 35 = .ok (.getfield 110, 3) := by decide +kernel
theorem d_N_fillWithTerm_38 : decode M_N_fillWithTerm.2.1 38 = .ok (.istore 4, 2) := by decide +kernel
theorem d_N_fillWithTerm_40 : decode M_N_fillWithTerm.2.1 40 = .ok (.aload_n 0, 1) := by decide +kernel
theorem d_N_fillWithTerm_41 : decode M_N_fillWithTerm.2.1 41 = .ok (.aload_n 1, 1) := by decide +kernel
theorem d_N_fillWithTerm_42 : decode M_N_fillWithTerm.2.1 42 = .ok (.aload_n 2, 1) := by decide +kernel
theorem d_N_fillWithTerm_43 : decode M_N_fillWithTerm.2.1 43 = .ok (.invokevirtual 115, 3) := by decide +kernel
theorem d_N_fillWithTerm_46 : decode M_N_fillWithTerm.2.1 46 = .ok (.aload_n 0, 1) := by decide +kernel
theorem d_N_fillWithTerm_47 : decode M_N_fillWithTerm.2.1 47 = .ok (.getfield 22, 3) := by decide +kernel
theorem d_N_fillWithTerm_50 : decode M_N_fillWithTerm.2.1 50 = .ok (.aload_n 1, 1) := by decide +kernel
theorem d_N_fillWithTerm_51 : decode M_N_fillWithTerm.2.1 51 = .ok (.getfield 54, 3) := by decide +kernel
theorem d_N_fillWithTerm_54 : decode M_N_fillWithTerm.2.1 54 = .ok (.iload 4, 2) := by decide +kernel
theorem d_N_fillWithTerm_56 : decode M_N_fillWithTerm.2.1 56 = .ok (.invokevirtual 119, 3) := by decide +kernel
theorem d_N_fillWithTerm_59 : decode M_N_fillWithTerm.2.1 59 = .ok (.aload_n 0, 1) := by decide +kernel
theorem d_N_fillWithTerm_60 : decode M_N_fillWithTerm.2.1 60 = .ok (.getfield 22, 3) := by decide +kernel
theorem d_N_fillWithTerm_63 : decode M_N_fillWithTerm.2.1 63 = .ok (.invokevirtual 123, 3) := by decide +kernel
theorem d_N_fillWithTerm_66 : decode M_N_fillWithTerm.2.1 66 = .ok (.bipush 80, 2) := by decide +kernel
theorem d_N_fillWithTerm_68 : decode M_N_fillWithTerm.2.1 68 = .ok (.if_icmp .le 7, 3) := by decide +kernel
theorem d_N_fillWithTerm_71 : decode M_N_fillWithTerm.2.1 71 = .ok (.iconst 4, 1) := by decide +kernel
theorem d_N_fillWithTerm_72 : decode M_N_fillWithTerm.2.1 72 = .ok (.goto 4, 3) := by decide +kernel
theorem d_N_fillWithTerm_75 : decode M_N_fillWithTerm.2.1 75 = .ok (.iconst 0, 1) := by decide +kernel
theorem d_N_fillWithTerm_76 : decode M_N_fillWithTerm.2.1 76 = .ok (.ireturn, 1) := by decide +kernel
theorem d_N_admitTerm_0 : decode M_N_admitTerm.2.1 0 = .ok (.aload_n 0, 1) := by decide +kernel
theorem d_N_admitTerm_1 : decode M_N_admitTerm.2.1 1 = .ok (.iconst 0, 1) := by decide +kernel
theorem d_N_admitTerm_2 : decode M_N_admitTerm.2.1 2 = .ok (.putfield 107, 3) := by decide +kernel
theorem d_N_admitTerm_5 : decode M_N_admitTerm.2.1 5 = .ok (.iconst 1, 1) := by decide +kernel
theorem d_N_admitTerm_6 : decode M_N_admitTerm.2.1 6 = .ok (.istore_n 2, 1) := by decide +kernel
theorem d_N_admitTerm_7 : decode M_N_admitTerm.2.1 7 = .ok (.iconst 0, 1) := by decide +kernel
theorem d_N_admitTerm_8 : decode M_N_admitTerm.2.1 8 = .ok (.istore_n 3, 1) := by decide +kernel
theorem d_N_admitTerm_9 : decode M_N_admitTerm.2.1 9 = .ok (.iload_n 3, 1) := by decide +kernel
theorem d_N_admitTerm_10 : decode M_N_admitTerm.2.1 10 = .ok (.ldc 45, 2) := by decide +kernel
theorem d_N_admitTerm_12 : decode M_N_admitTerm.2.1 12 = .ok (.if_icmp .ge 125, 3) := by decide +kernel
theorem d_N_admitTerm_15 : decode M_N_admitTerm.2.1 15 = .ok (.aload_n 0, 1) := by decide +kernel
theorem d_N_admitTerm_16 : decode M_N_admitTerm.2.1 16 = .ok (.dup, 1) := by decide +kernel
theorem d_N_admitTerm_17 : decode M_N_admitTerm.2.1 17 = .ok (.getfield 107, 3) := by decide +kernel
theorem d_N_admitTerm_20 : decode M_N_admitTerm.2.1 20 = .ok (.iconst 1, 1) := by decide +kernel
theorem d_N_admitTerm_21 : decode M_N_admitTerm.2.1 21 = .ok (.iadd, 1) := by decide +kernel
theorem d_N_admitTerm_22 : decode M_N_admitTerm.2.1 22 = .ok (.putfield 107, 3) := by decide +kernel
theorem d_N_admitTerm_25 : decode M_N_admitTerm.2.1 25 = .ok (.iconst 0, 1) := by decide +kernel
theorem d_N_admitTerm_26 : decode M_N_admitTerm.2.1 26 = .ok (.istore 4, 2) := by decide +kernel
theorem d_N_admitTerm_28 : decode M_N_admitTerm.2.1 28 = .ok (.aload_n 0, 1) := by decide +kernel
theorem d_N_admitTerm_29 : decode M_N_admitTerm.2.1 29 = .ok (.getfield 42, 3) := by decide +kernel
theorem d_N_admitTerm_32 : decode M_N_admitTerm.2.1 32 = .ok (.getfield 50, 3) := by decide +kernel
theorem d_N_admitTerm_35 : decode M_N_admitTerm.2.1 35 = .ok (.ifCond .ne 28, 3) := by decide +kernel
theorem d_N_admitTerm_38 : decode M_N_admitTerm.2.1 38 = .ok (.aload_n 0, 1) := by decide +kernel
theorem d_N_admitTerm_39 : decode M_N_admitTerm.2.1 39 = .ok (.aload_n 1, 1) := by decide +kernel
theorem d_N_admitTerm_40 : decode M_N_admitTerm.2.1 40 = .ok (.aload_n 0, 1) := by decide +kernel
theorem d_N_admitTerm_41 : decode M_N_admitTerm.2.1 41 = .ok (.getfield 42, 3) := by decide +kernel
theorem d_N_admitTerm_44 : decode M_N_admitTerm.2.1 44 = .ok (.getfield 54, 3) := by decide +kernel
theorem d_N_admitTerm_47 : decode M_N_admitTerm.2.1 47 = .ok (.invokevirtual 126, 3) := by decide +kernel
theorem d_N_admitTerm_50 : decode M_N_admitTerm.2.1 50 = .ok (.ifCond .eq 7, 3) := by decide +kernel
theorem d_N_admitTerm_53 : decode M_N_admitTerm.2.1 53 = .ok (.iconst 2, 1) := by decide +kernel
theorem d_N_admitTerm_54 : decode M_N_admitTerm.2.1 54 = .ok (.goto 4, 3) := by decide +kernel
theorem d_N_admitTerm_57 : decode M_N_admitTerm.2.1 57 = .ok (.iconst 0, 1) := by decide +kernel
theorem d_N_admitTerm_58 : decode M_N_admitTerm.2.1 58 = .ok (.istore 4, 2) := by decide +kernel
theorem d_N_admitTerm_60 : decode M_N_admitTerm.2.1 60 = .ok (.goto 39, 3) := by decide +kernel
theorem d_N_admitTerm_63 : decode M_N_admitTerm.2.1 63 = .ok (.aload_n 0, 1) := by decide +kernel
theorem d_N_admitTerm_64 : decode M_N_admitTerm.2.1 64 = .ok (.getfield 42, 3) := by decide +kernel
theorem d_N_admitTerm_67 : decode M_N_admitTerm.2.1 67 = .ok (.getfield 50, 3) := by decide +kernel
theorem d_N_admitTerm_70 : decode M_N_admitTerm.2.1 70 = .ok (.iconst 2, 1) := by decide +kernel
theorem d_N_admitTerm_71 : decode M_N_admitTerm.2.1 71 = .ok (.if_icmp .ne 28, 3) := by decide +kernel
theorem d_N_admitTerm_74 : decode M_N_admitTerm.2.1 74 = .ok (.aload_n 0, 1) := by decide +kernel
theorem d_N_admitTerm_75 : decode M_N_admitTerm.2.1 75 = .ok (.getfield 42, 3) := by decide +kernel
theorem d_N_admitTerm_78 : decode M_N_admitTerm.2.1 78 = .ok (.getfield 54, 3) := by decide +kernel
theorem d_N_admitTerm_81 : decode M_N_admitTerm.2.1 81 = .ok (.aload_n 1, 1) := by decide +kernel
theorem d_N_admitTerm_82 : decode M_N_admitTerm.2.1 82 = .ok (.getfield 54, 3) := by decide +kernel
theorem d_N_admitTerm_85 : decode M_N_admitTerm.2.1 85 = .ok (.if_icmp .ne 7, 3) := by decide +kernel
theorem d_N_admitTerm_88 : decode M_N_admitTerm.2.1 88 = .ok (.iconst 3, 1) := by decide +kernel
theorem d_N_admitTerm_89 : decode M_N_admitTerm.2.1 89 = .ok (.goto 8, 3) := by decide +kernel
theorem d_N_admitTerm_92 : decode M_N_admitTerm.2.1 92 = .ok (.aload_n 0, 1) := by decide +kernel
theorem d_N_admitTerm_93 : decode M_N_admitTerm.2.1 93 = .ok (.aload_n 1, 1) := by decide +kernel
theorem d_N_admitTerm_94 : decode M_N_admitTerm.2.1 94 = .ok (.invokevirtual 130, 3) := by decide +kernel
theorem d_N_admitTerm_97 : decode M_N_admitTerm.2.1 97 = .ok (.istore 4, 2) := by decide +kernel
theorem d_N_admitTerm_99 : decode M_N_admitTerm.2.1 99 = .ok (.aload_n 0, 1) := by decide +kernel
theorem d_N_admitTerm_100 : decode M_N_admitTerm.2.1 100 = .ok (.aload_n 0, 1) := by decide +kernel
theorem d_N_admitTerm_101 : decode M_N_admitTerm.2.1 101 = .ok (.getfield 42, 3) := by decide +kernel
theorem d_N_admitTerm_104 : decode M_N_admitTerm.2.1 104 = .ok (.iload_n 2, 1) := by decide +kernel
theorem d_N_admitTerm_105 : decode M_N_admitTerm.2.1 105 = .ok (.invokevirtual 133, 3) := by decide +kernel
theorem d_N_admitTerm_108 : decode M_N_admitTerm.2.1 108 = .ok (.istore_n 2, 1) := by decide +kernel
theorem d_N_admitTerm_109 : decode M_N_admitTerm.2.1 109 = .ok (.iload 4, 2) := by decide +kernel
theorem d_N_admitTerm_111 : decode M_N_admitTerm.2.1 111 = .ok (.ifCond .ne 17, 3) := by decide +kernel
theorem d_N_admitTerm_114 : decode M_N_admitTerm.2.1 114 = .ok (.iload_n 2, 1) := by decide +kernel
theorem d_N_admitTerm_115 : decode M_N_admitTerm.2.1 115 = .ok (.ifCond .eq 13, 3) := by decide +kernel
theorem d_N_admitTerm_118 : decode M_N_admitTerm.2.1 118 = .ok (.aload_n 0, 1) := by decide +kernel
theorem d_N_admitTerm_119 : decode M_N_admitTerm.2.1 119 = .ok (.getfield 42, 3) := by decide +kernel
theorem d_N_admitTerm_122 : decode M_N_admitTerm.2.1 122 = .ok (.invokevirtual 46, 3) := by decide +kernel
theorem d_N_admitTerm_125 : decode M_N_admitTerm.2.1 125 = .ok (.ifCond .ne 6, 3) := by decide +kernel
theorem d_N_admitTerm_128 : decode M_N_admitTerm.2.1 128 = .ok (.iload 4, 2) := by decide +kernel
theorem d_N_admitTerm_130 : decode M_N_admitTerm.2.1 130 = .ok (.ireturn, 1) := by decide +kernel
theorem d_N_admitTerm_131 : decode M_N_admitTerm.2.1 131 = .ok (.iinc 3 1, 3) := by decide +kernel
theorem d_N_admitTerm_134 : decode M_N_admitTerm.2.1 134 = .ok (.goto (-125), 3) := by decide +kernel
theorem d_N_admitTerm_137 : decode M_N_admitTerm.2.1 137 = .ok (.iconst 0, 1) := by decide +kernel
theorem d_N_admitTerm_138 : decode M_N_admitTerm.2.1 138 = .ok (.ireturn, 1) := by decide +kernel
theorem d_N_isForeign_0 : decode M_N_isForeign.2.1 0 = .ok (.iload_n 2, 1) := by decide +kernel
theorem d_N_isForeign_1 : decode M_N_isForeign.2.1 1 = .ok (.aload_n 0, 1) := by decide +kernel
theorem d_N_isForeign_2 : decode M_N_isForeign.2.1 2 = .ok (.getfield 42, 3) := by decide +kernel
theorem d_N_isForeign_5 : decode M_N_isForeign.2.1 5 = .ok (.getfield 142, 3) := by decide +kernel
theorem d_N_isForeign_8 : decode M_N_isForeign.2.1 8 = .ok (.aload_n 1, 1) := by decide +kernel
theorem d_N_isForeign_9 : decode M_N_isForeign.2.1 9 = .ok (.getfield 142, 3) := by decide +kernel
theorem d_N_isForeign_12 : decode M_N_isForeign.2.1 12 = .ok (.isub, 1) := by decide +kernel
theorem d_N_isForeign_13 : decode M_N_isForeign.2.1 13 = .ok (.isub, 1) := by decide +kernel
theorem d_N_isForeign_14 : decode M_N_isForeign.2.1 14 = .ok (.istore_n 3, 1) := by decide +kernel
theorem d_N_isForeign_15 : decode M_N_isForeign.2.1 15 = .ok (.iload_n 3, 1) := by decide +kernel
theorem d_N_isForeign_16 : decode M_N_isForeign.2.1 16 = .ok (.ifCond .lt 16, 3) := by decide +kernel
theorem d_N_isForeign_19 : decode M_N_isForeign.2.1 19 = .ok (.aload_n 1, 1) := by decide +kernel
theorem d_N_isForeign_20 : decode M_N_isForeign.2.1 20 = .ok (.iload_n 3, 1) := by decide +kernel
theorem d_N_isForeign_21 : decode M_N_isForeign.2.1 21 = .ok (.invokevirtual 96, 3) := by decide +kernel
theorem d_N_isForeign_24 : decode M_N_isForeign.2.1 24 = .ok (.iconst (-1), 1) := by decide +kernel
theorem d_N_isForeign_25 : decode M_N_isForeign.2.1 25 = .ok (.if_icmp .ne 7, 3) := by decide +kernel
theorem d_N_isForeign_28 : decode M_N_isForeign.2.1 28 = .ok (.iconst 1, 1) := by decide +kernel
theorem d_N_isForeign_29 : decode M_N_isForeign.2.1 29 = .ok (.goto 4, 3) := by decide +kernel
theorem d_N_isForeign_32 : decode M_N_isForeign.2.1 32 = .ok (.iconst 0, 1) := by decide +kernel
theorem d_N_isForeign_33 : decode M_N_isForeign.2.1 33 = .ok (.ireturn, 1) := by decide +kernel
theorem d_N_dropForeign_0 : decode M_N_dropForeign.2.1 0 = .ok (.iconst 0, 1) := by decide +kernel
theorem d_N_dropForeign_1 : decode M_N_dropForeign.2.1 1 = .ok (.istore_n 2, 1) := by decide +kernel
theorem d_N_dropForeign_2 : decode M_N_dropForeign.2.1 2 = .ok (.iconst 0, 1) := by decide +kernel
theorem d_N_dropForeign_3 : decode M_N_dropForeign.2.1 3 = .ok (.istore_n 3, 1) := by decide +kernel
theorem d_N_dropForeign_4 : decode M_N_dropForeign.2.1 4 = .ok (.iload_n 3, 1) := by decide +kernel
theorem d_N_dropForeign_5 : decode M_N_dropForeign.2.1 5 = .ok (.aload_n 0, 1) := by decide +kernel
theorem d_N_dropForeign_6 : decode M_N_dropForeign.2.1 6 = .ok (.getfield 42, 3) := by decide +kernel
theorem d_N_dropForeign_9 : decode M_N_dropForeign.2.1 9 = .ok (.getfield 72, 3) := by decide +kernel
theorem d_N_dropForeign_12 : decode M_N_dropForeign.2.1 12 = .ok (.if_icmp .ge 40, 3) := by decide +kernel
theorem d_N_dropForeign_15 : decode M_N_dropForeign.2.1 15 = .ok (.aload_n 0, 1) := by decide +kernel
theorem d_N_dropForeign_16 : decode M_N_dropForeign.2.1 16 = .ok (.aload_n 1, 1) := by decide +kernel
theorem d_N_dropForeign_17 : decode M_N_dropForeign.2.1 17 = .ok (.aload_n 0, 1) := by decide +kernel
theorem d_N_dropForeign_18 : decode M_N_dropForeign.2.1 18 = .ok (.getfield 42, 3) := by decide +kernel
theorem d_N_dropForeign_21 : decode M_N_dropForeign.2.1 21 = .ok (.getfield 75, 3) := by decide +kernel
theorem d_N_dropForeign_24 : decode M_N_dropForeign.2.1 24 = .ok (.iload_n 3, 1) := by decide +kernel
theorem d_N_dropForeign_25 : decode M_N_dropForeign.2.1 25 = .ok (.invokestatic 78, 3) := by decide +kernel
theorem d_N_dropForeign_28 : decode M_N_dropForeign.2.1 28 = .ok (.invokevirtual 126, 3) := by decide +kernel
theorem d_N_dropForeign_31 : decode M_N_dropForeign.2.1 31 = .ok (.ifCond .ne 15, 3) := by decide +kernel
theorem d_N_dropForeign_34 : decode M_N_dropForeign.2.1 34 = .ok (.aload_n 0, 1) := by decide +kernel
theorem d_N_dropForeign_35 : decode M_N_dropForeign.2.1 35 = .ok (.getfield 9, 3) := by decide +kernel
theorem d_N_dropForeign_38 : decode M_N_dropForeign.2.1 38 = .ok (.iload_n 2, 1) := by decide +kernel
theorem d_N_dropForeign_39 : decode M_N_dropForeign.2.1 39 = .ok (.iload_n 3, 1) := by decide +kernel
theorem d_N_dropForeign_40 : decode M_N_dropForeign.2.1 40 = .ok (.invokestatic 82, 3) := by decide +kernel
theorem d_N_dropForeign_43 : decode M_N_dropForeign.2.1 43 = .ok (.iinc 2 1, 3) := by decide +kernel
theorem d_N_dropForeign_46 : decode M_N_dropForeign.2.1 46 = .ok (.iinc 3 1, 3) := by decide +kernel
theorem d_N_dropForeign_49 : decode M_N_dropForeign.2.1 49 = .ok (.goto (-45), 3) := by decide +kernel
theorem d_N_dropForeign_52 : decode M_N_dropForeign.2.1 52 = .ok (.iload_n 2, 1) := by decide +kernel
theorem d_N_dropForeign_53 : decode M_N_dropForeign.2.1 53 = .ok (.aload_n 0, 1) := by decide +kernel
theorem d_N_dropForeign_54 : decode M_N_dropForeign.2.1 54 = .ok (.getfield 42, 3) := by decide +kernel
theorem d_N_dropForeign_57 : decode M_N_dropForeign.2.1 57 = .ok (.getfield 72, 3) := by decide +kernel
theorem d_N_dropForeign_60 : decode M_N_dropForeign.2.1 60 = .ok (.if_icmp .ne 5, 3) := by decide +kernel
theorem d_N_dropForeign_63 : decode M_N_dropForeign.2.1 63 = .ok (.iconst 0, 1) := by decide +kernel
theorem d_N_dropForeign_64 : decode M_N_dropForeign.2.1 64 = .ok (.ireturn, 1) := by decide +kernel
theorem d_N_dropForeign_65 : decode M_N_dropForeign.2.1 65 = .ok (.aload_n 0, 1) := by decide +kernel
theorem d_N_dropForeign_66 : decode M_N_dropForeign.2.1 66 = .ok (.getfield 22, 3) := by decide +kernel
theorem d_N_dropForeign_69 : decode M_N_dropForeign.2.1 69 = .ok (.aload_n 0, 1) := by decide +kernel
theorem d_N_dropForeign_70 : decode M_N_dropForeign.2.1 70 = .ok (.getfield 42, 3) := by decide +kernel
theorem d_N_dropForeign_73 : decode M_N_dropForeign.2.1 73 = .ok (.getfield 54, 3) := by decide +kernel
theorem d_N_dropForeign_76 : decode M_N_dropForeign.2.1 76 = .ok (.aload_n 0, 1) := by decide +kernel
theorem d_N_dropForeign_77 : decode M_N_dropForeign.2.1 77 = .ok (.getfield 22, 3) := by decide +kernel
theorem d_N_dropForeign_80 : decode M_N_dropForeign.2.1 80 = .ok (.iload_n 2, 1) := by decide +kernel
theorem d_N_dropForeign_81 : decode M_N_dropForeign.2.1 81 = .ok (.invokevirtual 86, 3) := by decide +kernel
theorem d_N_dropForeign_84 : decode M_N_dropForeign.2.1 84 = .ok (.aload_n 0, 1) := by decide +kernel
theorem d_N_dropForeign_85 : decode M_N_dropForeign.2.1 85 = .ok (.getfield 9, 3) := by decide +kernel
theorem d_N_dropForeign_88 : decode M_N_dropForeign.2.1 88 = .ok (.invokevirtual 92, 3) := by decide +kernel
theorem d_N_dropForeign_91 : decode M_N_dropForeign.2.1 91 = .ok (.istore_n 3, 1) := by decide +kernel
theorem d_N_dropForeign_92 : decode M_N_dropForeign.2.1 92 = .ok (.iload_n 3, 1) := by decide +kernel
theorem d_N_dropForeign_93 : decode M_N_dropForeign.2.1 93 = .ok (.ifCond .eq 7, 3) := by decide +kernel
theorem d_N_dropForeign_96 : decode M_N_dropForeign.2.1 96 = .ok (.iconst 0, 1) := by decide +kernel
theorem d_N_dropForeign_97 : decode M_N_dropForeign.2.1 97 = .ok (.goto 4, 3) := by decide +kernel
theorem d_N_dropForeign_100 : decode M_N_dropForeign.2.1 100 = .ok (.iconst 5, 1) := by decide +kernel
theorem d_N_dropForeign_101 : decode M_N_dropForeign.2.1 101 = .ok (.ireturn, 1) := by decide +kernel
theorem d_N_dueAfter_0 : decode M_N_dueAfter.2.1 0 = .ok (.aload_n 1, 1) := by decide +kernel
theorem d_N_dueAfter_1 : decode M_N_dueAfter.2.1 1 = .ok (.getfield 50, 3) := by decide +kernel
theorem d_N_dueAfter_4 : decode M_N_dueAfter.2.1 4 = .ok (.iconst 1, 1) := by decide +kernel
theorem d_N_dueAfter_5 : decode M_N_dueAfter.2.1 5 = .ok (.if_icmp .ne 17, 3) := by decide +kernel
theorem d_N_dueAfter_8 : decode M_N_dueAfter.2.1 8 = .ok (.aload_n 0, 1) := by decide +kernel
theorem d_N_dueAfter_9 : decode M_N_dueAfter.2.1 9 = .ok (.getfield 26, 3) := by decide +kernel
theorem d_N_dueAfter_12 : decode M_N_dueAfter.2.1 12 = .ok (.aload_n 1, 1) := by decide +kernel
theorem d_N_dueAfter_13 : decode M_N_dueAfter.2.1 13 = .ok (.getfield 54, 3) := by decide +kernel
theorem d_N_dueAfter_16 : decode M_N_dueAfter.2.1 16 = .ok (.invokevirtual 137, 3) := by decide +kernel
theorem d_N_dueAfter_19 : decode M_N_dueAfter.2.1 19 = .ok (.goto 4, 3) := by decide +kernel
theorem d_N_dueAfter_22 : decode M_N_dueAfter.2.1 22 = .ok (.iconst 0, 1) := by decide +kernel
theorem d_N_dueAfter_23 : decode M_N_dueAfter.2.1 23 = .ok (.istore_n 3, 1) := by decide +kernel
theorem d_N_dueAfter_24 : decode M_N_dueAfter.2.1 24 = .ok (.iload_n 2, 1) := by decide +kernel
theorem d_N_dueAfter_25 : decode M_N_dueAfter.2.1 25 = .ok (.iconst 1, 1) := by decide +kernel
theorem d_N_dueAfter_26 : decode M_N_dueAfter.2.1 26 = .ok (.isub, 1) := by decide +kernel
theorem d_N_dueAfter_27 : decode M_N_dueAfter.2.1 27 = .ok (.iload_n 3, 1) := by decide +kernel
theorem d_N_dueAfter_28 : decode M_N_dueAfter.2.1 28 = .ok (.iadd, 1) := by decide +kernel
theorem d_N_dueAfter_29 : decode M_N_dueAfter.2.1 29 = .ok (.ireturn, 1) := by decide +kernel
theorem d_N_copyTerm_0 : decode M_N_copyTerm.2.1 0 = .ok (.iconst 1, 1) := by decide +kernel
theorem d_N_copyTerm_1 : decode M_N_copyTerm.2.1 1 = .ok (.istore_n 3, 1) := by decide +kernel
theorem d_N_copyTerm_2 : decode M_N_copyTerm.2.1 2 = .ok (.iconst 0, 1) := by decide +kernel
theorem d_N_copyTerm_3 : decode M_N_copyTerm.2.1 3 = .ok (.istore 4, 2) := by decide +kernel
theorem d_N_copyTerm_5 : decode M_N_copyTerm.2.1 5 = .ok (.iload 4, 2) := by decide +kernel
theorem d_N_copyTerm_7 : decode M_N_copyTerm.2.1 7 = .ok (.ldc 45, 2) := by decide +kernel
theorem d_N_copyTerm_9 : decode M_N_copyTerm.2.1 9 = .ok (.if_icmp .ge 34, 3) := by decide +kernel
theorem d_N_copyTerm_12 : decode M_N_copyTerm.2.1 12 = .ok (.aload_n 0, 1) := by decide +kernel
theorem d_N_copyTerm_13 : decode M_N_copyTerm.2.1 13 = .ok (.aload_n 1, 1) := by decide +kernel
theorem d_N_copyTerm_14 : decode M_N_copyTerm.2.1 14 = .ok (.aload_n 2, 1) := by decide +kernel
theorem d_N_copyTerm_15 : decode M_N_copyTerm.2.1 15 = .ok (.invokevirtual 145, 3) := by decide +kernel
theorem d_N_copyTerm_18 : decode M_N_copyTerm.2.1 18 = .ok (.aload_n 0, 1) := by decide +kernel
theorem d_N_copyTerm_19 : decode M_N_copyTerm.2.1 19 = .ok (.aload_n 2, 1) := by decide +kernel
theorem d_N_copyTerm_20 : decode M_N_copyTerm.2.1 20 = .ok (.iload_n 3, 1) := by decide +kernel
theorem d_N_copyTerm_21 : decode M_N_copyTerm.2.1 21 = .ok (.invokevirtual 133, 3) := by decide +kernel
theorem d_N_copyTerm_24 : decode M_N_copyTerm.2.1 24 = .ok (.istore_n 3, 1) := by decide +kernel
theorem d_N_copyTerm_25 : decode M_N_copyTerm.2.1 25 = .ok (.iload_n 3, 1) := by decide +kernel
theorem d_N_copyTerm_26 : decode M_N_copyTerm.2.1 26 = .ok (.ifCond .eq 10, 3) := by decide +kernel
theorem d_N_copyTerm_29 : decode M_N_copyTerm.2.1 29 = .ok (.aload_n 2, 1) := by decide +kernel
theorem d_N_copyTerm_30 : decode M_N_copyTerm.2.1 30 = .ok (.invokevirtual 46, 3) := by decide +kernel
theorem d_N_copyTerm_33 : decode M_N_copyTerm.2.1 33 = .ok (.ifCond .ne 4, 3) := by decide +kernel
theorem d_N_copyTerm_36 : decode M_N_copyTerm.2.1 36 = .ok (.return_, 1) := by decide +kernel
theorem d_N_copyTerm_37 : decode M_N_copyTerm.2.1 37 = .ok (.iinc 4 1, 3) := by decide +kernel
theorem d_N_copyTerm_40 : decode M_N_copyTerm.2.1 40 = .ok (.goto (-35), 3) := by decide +kernel
theorem d_N_copyTerm_43 : decode M_N_copyTerm.2.1 43 = .ok (.return_, 1) := by decide +kernel
theorem d_N_copyHere_0 : decode M_N_copyHere.2.1 0 = .ok (.aload_n 2, 1) := by decide +kernel
theorem d_N_copyHere_1 : decode M_N_copyHere.2.1 1 = .ok (.getfield 142, 3) := by decide +kernel
theorem d_N_copyHere_4 : decode M_N_copyHere.2.1 4 = .ok (.aload_n 1, 1) := by decide +kernel
theorem d_N_copyHere_5 : decode M_N_copyHere.2.1 5 = .ok (.getfield 142, 3) := by decide +kernel
theorem d_N_copyHere_8 : decode M_N_copyHere.2.1 8 = .ok (.isub, 1) := by decide +kernel
theorem d_N_copyHere_9 : decode M_N_copyHere.2.1 9 = .ok (.istore_n 3, 1) := by decide +kernel
theorem d_N_copyHere_10 : decode M_N_copyHere.2.1 10 = .ok (.aload_n 2, 1) := by decide +kernel
theorem d_N_copyHere_11 : decode M_N_copyHere.2.1 11 = .ok (.getfield 50, 3) := by decide +kernel
theorem d_N_copyHere_14 : decode M_N_copyHere.2.1 14 = .ok (.ifCond .ne 16, 3) := by decide +kernel
theorem d_N_copyHere_17 : decode M_N_copyHere.2.1 17 = .ok (.aload_n 0, 1) := by decide +kernel
theorem d_N_copyHere_18 : decode M_N_copyHere.2.1 18 = .ok (.aload_n 1, 1) := by decide +kernel
theorem d_N_copyHere_19 : decode M_N_copyHere.2.1 19 = .ok (.aload_n 2, 1) := by decide +kernel
theorem d_N_copyHere_20 : decode M_N_copyHere.2.1 20 = .ok (.getfield 54, 3) := by decide +kernel
theorem d_N_copyHere_23 : decode M_N_copyHere.2.1 23 = .ok (.iload_n 3, 1) := by decide +kernel
theorem d_N_copyHere_24 : decode M_N_copyHere.2.1 24 = .ok (.invokevirtual 148, 3) := by decide +kernel
theorem d_N_copyHere_27 : decode M_N_copyHere.2.1 27 = .ok (.goto 7, 3) := by decide +kernel
theorem d_N_copyHere_30 : decode M_N_copyHere.2.1 30 = .ok (.aload_n 2, 1) := by decide +kernel
theorem d_N_copyHere_31 : decode M_N_copyHere.2.1 31 = .ok (.getfield 54, 3) := by decide +kernel
theorem d_N_copyHere_34 : decode M_N_copyHere.2.1 34 = .ok (.istore 4, 2) := by decide +kernel
theorem d_N_copyHere_36 : decode M_N_copyHere.2.1 36 = .ok (.aload_n 0, 1) := by decide +kernel
theorem d_N_copyHere_37 : decode M_N_copyHere.2.1 37 = .ok (.getfield 18, 3) := by decide +kernel
theorem d_N_copyHere_40 : decode M_N_copyHere.2.1 40 = .ok (.aload_n 2, 1) := by decide +kernel
theorem d_N_copyHere_41 : decode M_N_copyHere.2.1 41 = .ok (.getfield 50, 3) := by decide +kernel
theorem d_N_copyHere_44 : decode M_N_copyHere.2.1 44 = .ok (.iload 4, 2) := by decide +kernel
theorem d_N_copyHere_46 : decode M_N_copyHere.2.1 46 = .ok (.invokestatic 152, 3) := by decide +kernel
theorem d_N_copyHere_49 : decode M_N_copyHere.2.1 49 = .ok (.iload_n 3, 1) := by decide +kernel
theorem d_N_copyHere_50 : decode M_N_copyHere.2.1 50 = .ok (.invokevirtual 156, 3) := by decide +kernel
theorem d_N_copyHere_53 : decode M_N_copyHere.2.1 53 = .ok (.iconst 0, 1) := by decide +kernel
theorem d_N_copyHere_54 : decode M_N_copyHere.2.1 54 = .ok (.istore 5, 2) := by decide +kernel
theorem d_N_copyHere_56 : decode M_N_copyHere.2.1 56 = .ok (.iload 5, 2) := by decide +kernel
theorem d_N_copyHere_58 : decode M_N_copyHere.2.1 58 = .ok (.aload_n 2, 1) := by decide +kernel
theorem d_N_copyHere_59 : decode M_N_copyHere.2.1 59 = .ok (.getfield 72, 3) := by decide +kernel
theorem d_N_copyHere_62 : decode M_N_copyHere.2.1 62 = .ok (.if_icmp .ge 40, 3) := by decide +kernel
theorem d_N_copyHere_65 : decode M_N_copyHere.2.1 65 = .ok (.aload_n 0, 1) := by decide +kernel
theorem d_N_copyHere_66 : decode M_N_copyHere.2.1 66 = .ok (.aload_n 1, 1) := by decide +kernel
theorem d_N_copyHere_67 : decode M_N_copyHere.2.1 67 = .ok (.aload_n 2, 1) := by decide +kernel
theorem d_N_copyHere_68 : decode M_N_copyHere.2.1 68 = .ok (.getfield 75, 3) := by decide +kernel
theorem d_N_copyHere_71 : decode M_N_copyHere.2.1 71 = .ok (.iload 5, 2) := by decide +kernel
theorem d_N_copyHere_73 : decode M_N_copyHere.2.1 73 = .ok (.invokestatic 78, 3) := by decide +kernel
theorem d_N_copyHere_76 : decode M_N_copyHere.2.1 76 = .ok (.iload_n 3, 1) := by decide +kernel
theorem d_N_copyHere_77 : decode M_N_copyHere.2.1 77 = .ok (.invokevirtual 148, 3) := by decide +kernel
theorem d_N_copyHere_80 : decode M_N_copyHere.2.1 80 = .ok (.istore 6, 2) := by decide +kernel
theorem d_N_copyHere_82 : decode M_N_copyHere.2.1 82 = .ok (.aload_n 0, 1) := by decide +kernel
theorem d_N_copyHere_83 : decode M_N_copyHere.2.1 83 = .ok (.getfield 18, 3) := by decide +kernel
theorem d_N_copyHere_86 : decode M_N_copyHere.2.1 86 = .ok (.iconst 0, 1) := by decide +kernel
theorem d_N_copyHere_87 : decode M_N_copyHere.2.1 87 = .ok (.iload 6, 2) := by decide +kernel
theorem d_N_copyHere_89 : decode M_N_copyHere.2.1 89 = .ok (.invokestatic 152, 3) := by decide +kernel
theorem d_N_copyHere_92 : decode M_N_copyHere.2.1 92 = .ok (.iload_n 3, 1) := by decide +kernel
theorem d_N_copyHere_93 : decode M_N_copyHere.2.1 93 = .ok (.invokevirtual 156, 3) := by decide +kernel
theorem d_N_copyHere_96 : decode M_N_copyHere.2.1 96 = .ok (.iinc 5 1, 3) := by decide +kernel
theorem d_N_copyHere_99 : decode M_N_copyHere.2.1 99 = .ok (.goto (-43), 3) := by decide +kernel
theorem d_N_copyHere_102 : decode M_N_copyHere.2.1 102 = .ok (.return_, 1) := by decide +kernel
theorem d_N_inside_0 : decode M_N_inside.2.1 0 = .ok (.iload_n 2, 1) := by decide +kernel
theorem d_N_inside_1 : decode M_N_inside.2.1 1 = .ok (.iload_n 3, 1) := by decide +kernel
theorem d_N_inside_2 : decode M_N_inside.2.1 2 = .ok (.if_icmp .ge 7, 3) := by decide +kernel
theorem d_N_inside_5 : decode M_N_inside.2.1 5 = .ok (.iload_n 2, 1) := by decide +kernel
theorem d_N_inside_6 : decode M_N_inside.2.1 6 = .ok (.goto 12, 3) := by decide +kernel
theorem d_N_inside_9 : decode M_N_inside.2.1 9 = .ok (.aload_n 1, 1) := by decide +kernel
theorem d_N_inside_10 : decode M_N_inside.2.1 10 = .ok (.iload_n 2, 1) := by decide +kernel
theorem d_N_inside_11 : decode M_N_inside.2.1 11 = .ok (.iload_n 3, 1) := by decide +kernel
theorem d_N_inside_12 : decode M_N_inside.2.1 12 = .ok (.isub, 1) := by decide +kernel
theorem d_N_inside_13 : decode M_N_inside.2.1 13 = .ok (.invokevirtual 96, 3) := by decide +kernel
theorem d_N_inside_16 : decode M_N_inside.2.1 16 = .ok (.iload_n 3, 1) := by decide +kernel
theorem d_N_inside_17 : decode M_N_inside.2.1 17 = .ok (.iadd, 1) := by decide +kernel
theorem d_N_inside_18 : decode M_N_inside.2.1 18 = .ok (.ireturn, 1) := by decide +kernel
end
section
theorem d_O_init_0 : decode M_O_init.2.1 0 = .ok (.aload_n 0, 1) := by decide +kernel
theorem d_O_init_1 : decode M_O_init.2.1 1 = .ok (.invokespecial 3, 3) := by decide +kernel
theorem d_O_init_4 : decode M_O_init.2.1 4 = .ok (.aload_n 0, 1) := by decide +kernel
theorem d_O_init_5 : decode M_O_init.2.1 5 = .ok (.bipush 16, 2) := by decide +kernel
theorem d_O_init_7 : decode M_O_init.2.1 7 = .ok (.newarray .int, 2) := by decide +kernel
theorem d_O_init_9 : decode M_O_init.2.1 9 = .ok (.putfield 9, 3) := by decide +kernel
theorem d_O_init_12 : decode M_O_init.2.1 12 = .ok (.aload_n 0, 1) := by decide +kernel
theorem d_O_init_13 : decode M_O_init.2.1 13 = .ok (.bipush 48, 2) := by decide +kernel
theorem d_O_init_15 : decode M_O_init.2.1 15 = .ok (.newarray .int, 2) := by decide +kernel
theorem d_O_init_17 : decode M_O_init.2.1 17 = .ok (.putfield 15, 3) := by decide +kernel
theorem d_O_init_20 : decode M_O_init.2.1 20 = .ok (.return_, 1) := by decide +kernel
theorem d_O_tell_0 : decode M_O_tell.2.1 0 = .ok (.aload_n 0, 1) := by decide +kernel
theorem d_O_tell_1 : decode M_O_tell.2.1 1 = .ok (.getfield 18, 3) := by decide +kernel
theorem d_O_tell_4 : decode M_O_tell.2.1 4 = .ok (.bipush 16, 2) := by decide +kernel
theorem d_O_tell_6 : decode M_O_tell.2.1 6 = .ok (.if_icmp .lt 5, 3) := by decide +kernel
theorem d_O_tell_9 : decode M_O_tell.2.1 9 = .ok (.iconst (-1), 1) := by decide +kernel
theorem d_O_tell_10 : decode M_O_tell.2.1 10 = .ok (.ireturn, 1) := by decide +kernel
theorem d_O_tell_11 : decode M_O_tell.2.1 11 = .ok (.aload_n 0, 1) := by decide +kernel
theorem d_O_tell_12 : decode M_O_tell.2.1 12 = .ok (.getfield 18, 3) := by decide +kernel
theorem d_O_tell_15 : decode M_O_tell.2.1 15 = .ok (.istore 4, 2) := by decide +kernel
theorem d_O_tell_17 : decode M_O_tell.2.1 17 = .ok (.aload_n 0, 1) := by decide +kernel
theorem d_O_tell_18 : decode M_O_tell.2.1 18 = .ok (.dup, 1) := by decide +kernel
theorem d_O_tell_19 : decode M_O_tell.2.1 19 = .ok (.getfield 18, 3) := by decide +kernel
theorem d_O_tell_22 : decode M_O_tell.2.1 22 = .ok (.iconst 1, 1) := by decide +kernel
theorem d_O_tell_23 : decode M_O_tell.2.1 23 = .ok (.iadd, 1) := by decide +kernel
theorem d_O_tell_24 : decode M_O_tell.2.1 24 = .ok (.putfield 18, 3) := by decide +kernel
theorem d_O_tell_27 : decode M_O_tell.2.1 27 = .ok (.aload_n 0, 1) := by decide +kernel
theorem d_O_tell_28 : decode M_O_tell.2.1 28 = .ok (.iload 4, 2) := by decide +kernel
theorem d_O_tell_30 : decode M_O_tell.2.1 30 = .ok (.iload_n 1, 1) := by decide +kernel
theorem d_O_tell_31 : decode M_O_tell.2.1 31 = .ok (.invokevirtual 22, 3) := by decide +kernel
theorem d_O_tell_34 : decode M_O_tell.2.1 34 = .ok (.aload_n 0, 1) := by decide +kernel
theorem d_O_tell_35 : decode M_O_tell.2.1 35 = .ok (.iload 4, 2) := by decide +kernel
theorem d_O_tell_37 : decode M_O_tell.2.1 37 = .ok (.iload_n 2, 1) := by decide +kernel
theorem d_O_tell_38 : decode M_O_tell.2.1 38 = .ok (.invokevirtual 22, 3) := by decide +kernel
theorem d_O_tell_41 : decode M_O_tell.2.1 41 = .ok (.aload_n 0, 1) := by decide +kernel
theorem d_O_tell_42 : decode M_O_tell.2.1 42 = .ok (.iload 4, 2) := by decide +kernel
theorem d_O_tell_44 : decode M_O_tell.2.1 44 = .ok (.iload_n 3, 1) := by decide +kernel
theorem d_O_tell_45 : decode M_O_tell.2.1 45 = .ok (.invokevirtual 22, 3) := by decide +kernel
theorem d_O_tell_48 : decode M_O_tell.2.1 48 = .ok (.iload 4, 2) := by decide +kernel
theorem d_O_tell_50 : decode M_O_tell.2.1 50 = .ok (.ireturn, 1) := by decide +kernel
theorem d_O_addArgument_0 : decode M_O_addArgument.2.1 0 = .ok (.iload_n 2, 1) := by decide +kernel
theorem d_O_addArgument_1 : decode M_O_addArgument.2.1 1 = .ok (.iconst (-1), 1) := by decide +kernel
theorem d_O_addArgument_2 : decode M_O_addArgument.2.1 2 = .ok (.if_icmp .ne 4, 3) := by decide +kernel
theorem d_O_addArgument_5 : decode M_O_addArgument.2.1 5 = .ok (.return_, 1) := by decide +kernel
theorem d_O_addArgument_6 : decode M_O_addArgument.2.1 6 = .ok (.aload_n 0, 1) := by decide +kernel
theorem d_O_addArgument_7 : decode M_O_addArgument.2.1 7 = .ok (.iload_n 1, 1) := by decide +kernel
theorem d_O_addArgument_8 : decode M_O_addArgument.2.1 8 = .ok (.invokevirtual 26, 3) := by decide +kernel
theorem d_O_addArgument_11 : decode M_O_addArgument.2.1 11 = .ok (.istore_n 3, 1) := by decide +kernel
theorem d_O_addArgument_12 : decode M_O_addArgument.2.1 12 = .ok (.aload_n 0, 1) := by decide +kernel
theorem d_O_addArgument_13 : decode M_O_addArgument.2.1 13 = .ok (.getfield 15, 3) := by decide +kernel
theorem d_O_addArgument_16 : decode M_O_addArgument.2.1 16 = .ok (.iload_n 1, 1) := by decide +kernel
theorem d_O_addArgument_17 : decode M_O_addArgument.2.1 17 = .ok (.iconst 3, 1) := by decide +kernel
theorem d_O_addArgument_18 : decode M_O_addArgument.2.1 18 = .ok (.imul, 1) := by decide +kernel
theorem d_O_addArgument_19 : decode M_O_addArgument.2.1 19 = .ok (.iload_n 3, 1) := by decide +kernel
theorem d_O_addArgument_20 : decode M_O_addArgument.2.1 20 = .ok (.iadd, 1) := by decide +kernel
theorem d_O_addArgument_21 : decode M_O_addArgument.2.1 21 = .ok (.iload_n 2, 1) := by decide +kernel
theorem d_O_addArgument_22 : decode M_O_addArgument.2.1 22 = .ok (.invokestatic 30, 3) := by decide +kernel
theorem d_O_addArgument_25 : decode M_O_addArgument.2.1 25 = .ok (.aload_n 0, 1) := by decide +kernel
theorem d_O_addArgument_26 : decode M_O_addArgument.2.1 26 = .ok (.getfield 9, 3) := by decide +kernel
theorem d_O_addArgument_29 : decode M_O_addArgument.2.1 29 = .ok (.iload_n 1, 1) := by decide +kernel
theorem d_O_addArgument_30 : decode M_O_addArgument.2.1 30 = .ok (.iload_n 3, 1) := by decide +kernel
theorem d_O_addArgument_31 : decode M_O_addArgument.2.1 31 = .ok (.iconst 1, 1) := by decide +kernel
theorem d_O_addArgument_32 : decode M_O_addArgument.2.1 32 = .ok (.iadd, 1) := by decide +kernel
theorem d_O_addArgument_33 : decode M_O_addArgument.2.1 33 = .ok (.invokestatic 30, 3) := by decide +kernel
theorem d_O_addArgument_36 : decode M_O_addArgument.2.1 36 = .ok (.return_, 1) := by decide +kernel
theorem d_O_arityOf_0 : decode M_O_arityOf.2.1 0 = .ok (.aload_n 0, 1) := by decide +kernel
theorem d_O_arityOf_1 : decode M_O_arityOf.2.1 1 = .ok (.getfield 9, 3) := by decide +kernel
theorem d_O_arityOf_4 : decode M_O_arityOf.2.1 4 = .ok (.iload_n 1, 1) := by decide +kernel
theorem d_O_arityOf_5 : decode M_O_arityOf.2.1 5 = .ok (.invokestatic 34, 3) := by decide +kernel
theorem d_O_arityOf_8 : decode M_O_arityOf.2.1 8 = .ok (.ireturn, 1) := by decide +kernel
theorem d_O_mostBound_0 : decode M_O_mostBound.2.1 0 = .ok (.iconst 0, 1) := by decide +kernel
theorem d_O_mostBound_1 : decode M_O_mostBound.2.1 1 = .ok (.istore_n 2, 1) := by decide +kernel
theorem d_O_mostBound_2 : decode M_O_mostBound.2.1 2 = .ok (.iconst 0, 1) := by decide +kernel
theorem d_O_mostBound_3 : decode M_O_mostBound.2.1 3 = .ok (.istore_n 3, 1) := by decide +kernel
theorem d_O_mostBound_4 : decode M_O_mostBound.2.1 4 = .ok (.iload_n 3, 1) := by decide +kernel
theorem d_O_mostBound_5 : decode M_O_mostBound.2.1 5 = .ok (.aload_n 0, 1) := by decide +kernel
theorem d_O_mostBound_6 : decode M_O_mostBound.2.1 6 = .ok (.iload_n 1, 1) := by decide +kernel
theorem d_O_mostBound_7 : decode M_O_mostBound.2.1 7 = .ok (.invokevirtual 26, 3) := by decide +kernel
theorem d_O_mostBound_10 : decode M_O_mostBound.2.1 10 = .ok (.if_icmp .ge 20, 3) := by decide +kernel
theorem d_O_mostBound_13 : decode M_O_mostBound.2.1 13 = .ok (.iload_n 2, 1) := by decide +kernel
theorem d_O_mostBound_14 : decode M_O_mostBound.2.1 14 = .ok (.aload_n 0, 1) := by decide +kernel
theorem d_O_mostBound_15 : decode M_O_mostBound.2.1 15 = .ok (.iload_n 1, 1) := by decide +kernel
theorem d_O_mostBound_16 : decode M_O_mostBound.2.1 16 = .ok (.iload_n 3, 1) := by decide +kernel
theorem d_O_mostBound_17 : decode M_O_mostBound.2.1 17 = .ok (.invokevirtual 38, 3) := by decide +kernel
theorem d_O_mostBound_20 : decode M_O_mostBound.2.1 20 = .ok (.invokestatic 42, 3) := by decide +kernel
theorem d_O_mostBound_23 : decode M_O_mostBound.2.1 23 = .ok (.istore_n 2, 1) := by decide +kernel
theorem d_O_mostBound_24 : decode M_O_mostBound.2.1 24 = .ok (.iinc 3 1, 3) := by decide +kernel
theorem d_O_mostBound_27 : decode M_O_mostBound.2.1 27 = .ok (.goto (-23), 3) := by decide +kernel
theorem d_O_mostBound_30 : decode M_O_mostBound.2.1 30 = .ok (.iload_n 2, 1) := by decide +kernel
theorem d_O_mostBound_31 : decode M_O_mostBound.2.1 31 = .ok (.ireturn, 1) := by decide +kernel
theorem d_O_boundBy_0 : decode M_O_boundBy.2.1 0 = .ok (.aload_n 0, 1) := by decide +kernel
theorem d_O_boundBy_1 : decode M_O_boundBy.2.1 1 = .ok (.getfield 15, 3) := by decide +kernel
theorem d_O_boundBy_4 : decode M_O_boundBy.2.1 4 = .ok (.iload_n 1, 1) := by decide +kernel
theorem d_O_boundBy_5 : decode M_O_boundBy.2.1 5 = .ok (.iconst 3, 1) := by decide +kernel
theorem d_O_boundBy_6 : decode M_O_boundBy.2.1 6 = .ok (.imul, 1) := by decide +kernel
theorem d_O_boundBy_7 : decode M_O_boundBy.2.1 7 = .ok (.iload_n 2, 1) := by decide +kernel
theorem d_O_boundBy_8 : decode M_O_boundBy.2.1 8 = .ok (.iadd, 1) := by decide +kernel
theorem d_O_boundBy_9 : decode M_O_boundBy.2.1 9 = .ok (.invokestatic 34, 3) := by decide +kernel
theorem d_O_boundBy_12 : decode M_O_boundBy.2.1 12 = .ok (.ireturn, 1) := by decide +kernel
end
section
theorem d_R_init_0 : decode M_R_init.2.1 0 = .ok (.aload_n 0, 1) := by decide +kernel
theorem d_R_init_1 : decode M_R_init.2.1 1 = .ok (.invokespecial 3, 3) := by decide +kernel
theorem d_R_init_4 : decode M_R_init.2.1 4 = .ok (.aload_n 0, 1) := by decide +kernel
theorem d_R_init_5 : decode M_R_init.2.1 5 = .ok (.sipush 128, 3) := by decide +kernel
theorem d_R_init_8 : decode M_R_init.2.1 8 = .ok (.newarray .int, 2) := by decide +kernel
theorem d_R_init_10 : decode M_R_init.2.1 10 = .ok (.putfield 9, 3) := by decide +kernel
theorem d_R_init_13 : decode M_R_init.2.1 13 = .ok (.aload_n 0, 1) := by decide +kernel
theorem d_R_init_14 : decode M_R_init.2.1 14 = .ok (.sipush 324, 3) := by decide +kernel
theorem d_R_init_17 : decode M_R_init.2.1 17 = .ok (.newarray .int, 2) := by decide +kernel
theorem d_R_init_19 : decode M_R_init.2.1 19 = .ok (.putfield 15, 3) := by decide +kernel
theorem d_R_init_22 : decode M_R_init.2.1 22 = .ok (.aload_n 0, 1) := by decide +kernel
theorem d_R_init_23 : decode M_R_init.2.1 23 = .ok (.sipush 324, 3) := by decide +kernel
theorem d_R_init_26 : decode M_R_init.2.1 26 = .ok (.newarray .int, 2) := by decide +kernel
theorem d_R_init_28 : decode M_R_init.2.1 28 = .ok (.putfield 18, 3) := by decide +kernel
theorem d_R_init_31 : decode M_R_init.2.1 31 = .ok (.return_, 1) := by decide +kernel
theorem d_R_takeAll_0 : decode M_R_takeAll.2.1 0 = .ok (.aload_n 0, 1) := by decide +kernel
theorem d_R_takeAll_1 : decode M_R_takeAll.2.1 1 = .ok (.iconst 0, 1) := by decide +kernel
theorem d_R_takeAll_2 : decode M_R_takeAll.2.1 2 = .ok (.putfield 21, 3) := by decide +kernel
theorem d_R_takeAll_5 : decode M_R_takeAll.2.1 5 = .ok (.aload_n 0, 1) := by decide +kernel
theorem d_R_takeAll_6 : decode M_R_takeAll.2.1 6 = .ok (.iconst 0, 1) := by decide +kernel
theorem d_R_takeAll_7 : decode M_R_takeAll.2.1 7 = .ok (.putfield 25, 3) := by decide +kernel
theorem d_R_takeAll_10 : decode M_R_takeAll.2.1 10 = .ok (.aload_n 0, 1) := by decide +kernel
theorem d_R_takeAll_11 : decode M_R_takeAll.2.1 11 = .ok (.getfield 15, 3) := by decide +kernel
theorem d_R_takeAll_14 : decode M_R_takeAll.2.1 14 = .ok (.iconst 0, 1) := by decide +kernel
theorem d_R_takeAll_15 : decode M_R_takeAll.2.1 15 = .ok (.invokestatic 28, 3) := by decide +kernel
theorem d_R_takeAll_18 : decode M_R_takeAll.2.1 18 = .ok (.iconst 0, 1) := by decide +kernel
theorem d_R_takeAll_19 : decode M_R_takeAll.2.1 19 = .ok (.istore_n 2, 1) := by decide +kernel
theorem d_R_takeAll_20 : decode M_R_takeAll.2.1 20 = .ok (.iload_n 2, 1) := by decide +kernel
theorem d_R_takeAll_21 : decode M_R_takeAll.2.1 21 = .ok (.ldc 34, 2) := by decide +kernel
theorem d_R_takeAll_23 : decode M_R_takeAll.2.1 23 = .ok (.if_icmp .ge 47, 3) := by decide +kernel
theorem d_R_takeAll_26 : decode M_R_takeAll.2.1 26 = .ok (.aload_n 1, 1) := by decide +kernel
theorem d_R_takeAll_27 : decode M_R_takeAll.2.1 27 = .ok (.invokevirtual 35, 3) := by decide +kernel
theorem d_R_takeAll_30 : decode M_R_takeAll.2.1 30 = .ok (.ifCond .eq 40, 3) := by decide +kernel
theorem d_R_takeAll_33 : decode M_R_takeAll.2.1 33 = .ok (.aload_n 1, 1) := by decide +kernel
theorem d_R_takeAll_34 : decode M_R_takeAll.2.1 34 = .ok (.getfield 41, 3) := by decide +kernel
theorem d_R_takeAll_37 : decode M_R_takeAll.2.1 37 = .ok (.iconst 2, 1) := by decide +kernel
theorem d_R_takeAll_38 : decode M_R_takeAll.2.1 38 = .ok (.if_icmp .ne 11, 3) := by decide +kernel
theorem d_R_takeAll_41 : decode M_R_takeAll.2.1 41 = .ok (.aload_n 0, 1) := by decide +kernel
theorem d_R_takeAll_42 : decode M_R_takeAll.2.1 42 = .ok (.aload_n 1, 1) := by decide +kernel
theorem d_R_takeAll_43 : decode M_R_takeAll.2.1 43 = .ok (.invokevirtual 44, 3) := by decide +kernel
theorem d_R_takeAll_46 : decode M_R_takeAll.2.1 46 = .ok (.goto 18, 3) := by decide +kernel
theorem d_R_takeAll_49 : decode M_R_takeAll.2.1 49 = .ok (.aload_n 0, 1) := by decide +kernel
theorem d_R_takeAll_50 : decode M_R_takeAll.2.1 50 = .ok (.aload_n 1, 1) := by decide +kernel
theorem d_R_takeAll_51 : decode M_R_takeAll.2.1 51 = .ok (.getfield 41, 3) := by decide +kernel
theorem d_R_takeAll_54 : decode M_R_takeAll.2.1 54 = .ok (.aload_n 1, 1) := by decide +kernel
theorem d_R_takeAll_55 : decode M_R_takeAll.2.1 55 = .ok (.getfield 48, 3) := by decide +kernel
theorem d_R_takeAll_58 : decode M_R_takeAll.2.1 58 = .ok (.invokestatic 51, 3) := by decide +kernel
theorem d_R_takeAll_61 : decode M_R_takeAll.2.1 61 = .ok (.invokevirtual 55, 3) := by decide +kernel
theorem d_R_takeAll_64 : decode M_R_takeAll.2.1 64 = .ok (.iinc 2 1, 3) := by decide +kernel
theorem d_R_takeAll_67 : decode M_R_takeAll.2.1 67 = .ok (.goto (-47), 3) := by decide +kernel
theorem d_R_takeAll_70 : decode M_R_takeAll.2.1 70 = .ok (.return_, 1) := by decide +kernel
theorem d_R_takeHole_0 : decode M_R_takeHole.2.1 0 = .ok (.aload_n 1, 1) := by decide +kernel
theorem d_R_takeHole_1 : decode M_R_takeHole.2.1 1 = .ok (.getfield 48, 3) := by decide +kernel
theorem d_R_takeHole_4 : decode M_R_takeHole.2.1 4 = .ok (.istore_n 2, 1) := by decide +kernel
theorem d_R_takeHole_5 : decode M_R_takeHole.2.1 5 = .ok (.aload_n 0, 1) := by decide +kernel
theorem d_R_takeHole_6 : decode M_R_takeHole.2.1 6 = .ok (.getfield 15, 3) := by decide +kernel
theorem d_R_takeHole_9 : decode M_R_takeHole.2.1 9 = .ok (.iload_n 2, 1) := by decide +kernel
theorem d_R_takeHole_10 : decode M_R_takeHole.2.1 10 = .ok (.invokestatic 59, 3) := by decide +kernel
theorem d_R_takeHole_13 : decode M_R_takeHole.2.1 13 = .ok (.ifCond .ne 37, 3) := by decide +kernel
theorem d_R_takeHole_16 : decode M_R_takeHole.2.1 16 = .ok (.aload_n 0, 1) := by decide +kernel
theorem d_R_takeHole_17 : decode M_R_takeHole.2.1 17 = .ok (.dup, 1) := by decide +kernel
theorem d_R_takeHole_18 : decode M_R_takeHole.2.1 18 = .ok (.getfield 25, 3) := by decide +kernel
theorem d_R_takeHole_21 : decode M_R_takeHole.2.1 21 = .ok (.iconst 1, 1) := by decide +kernel
theorem d_R_takeHole_22 : decode M_R_takeHole.2.1 22 = .ok (.iadd, 1) := by decide +kernel
theorem d_R_takeHole_23 : decode M_R_takeHole.2.1 23 = .ok (.putfield 25, 3) := by decide +kernel
theorem d_R_takeHole_26 : decode M_R_takeHole.2.1 26 = .ok (.aload_n 0, 1) := by decide +kernel
theorem d_R_takeHole_27 : decode M_R_takeHole.2.1 27 = .ok (.getfield 15, 3) := by decide +kernel
theorem d_R_takeHole_30 : decode M_R_takeHole.2.1 30 = .ok (.iload_n 2, 1) := by decide +kernel
theorem d_R_takeHole_31 : decode M_R_takeHole.2.1 31 = .ok (.aload_n 0, 1) := by decide +kernel
theorem d_R_takeHole_32 : decode M_R_takeHole.2.1 32 = .ok (.getfield 25, 3) := by decide +kernel
theorem d_R_takeHole_35 : decode M_R_takeHole.2.1 35 = .ok (.invokestatic 63, 3) := by decide +kernel
theorem d_R_takeHole_38 : decode M_R_takeHole.2.1 38 = .ok (.aload_n 0, 1) := by decide +kernel
theorem d_R_takeHole_39 : decode M_R_takeHole.2.1 39 = .ok (.getfield 18, 3) := by decide +kernel
theorem d_R_takeHole_42 : decode M_R_takeHole.2.1 42 = .ok (.iload_n 2, 1) := by decide +kernel
theorem d_R_takeHole_43 : decode M_R_takeHole.2.1 43 = .ok (.aload_n 1, 1) := by decide +kernel
theorem d_R_takeHole_44 : decode M_R_takeHole.2.1 44 = .ok (.invokestatic 67, 3) := by decide +kernel
theorem d_R_takeHole_47 : decode M_R_takeHole.2.1 47 = .ok (.invokestatic 63, 3) := by decide +kernel
theorem d_R_takeHole_50 : decode M_R_takeHole.2.1 50 = .ok (.aload_n 0, 1) := by decide +kernel
theorem d_R_takeHole_51 : decode M_R_takeHole.2.1 51 = .ok (.iconst 2, 1) := by decide +kernel
theorem d_R_takeHole_52 : decode M_R_takeHole.2.1 52 = .ok (.aload_n 0, 1) := by decide +kernel
theorem d_R_takeHole_53 : decode M_R_takeHole.2.1 53 = .ok (.getfield 15, 3) := by decide +kernel
theorem d_R_takeHole_56 : decode M_R_takeHole.2.1 56 = .ok (.iload_n 2, 1) := by decide +kernel
theorem d_R_takeHole_57 : decode M_R_takeHole.2.1 57 = .ok (.invokestatic 59, 3) := by decide +kernel
theorem d_R_takeHole_60 : decode M_R_takeHole.2.1 60 = .ok (.iconst 1, 1) := by decide +kernel
theorem d_R_takeHole_61 : decode M_R_takeHole.2.1 61 = .ok (.isub, 1) := by decide +kernel
theorem d_R_takeHole_62 : decode M_R_takeHole.2.1 62 = .ok (.invokestatic 51, 3) := by decide +kernel
theorem d_R_takeHole_65 : decode M_R_takeHole.2.1 65 = .ok (.invokevirtual 55, 3) := by decide +kernel
theorem d_R_takeHole_68 : decode M_R_takeHole.2.1 68 = .ok (.aload_n 0, 1) := by decide +kernel
theorem d_R_takeHole_69 : decode M_R_takeHole.2.1 69 = .ok (.getfield 18, 3) := by decide +kernel
theorem d_R_takeHole_72 : decode M_R_takeHole.2.1 72 = .ok (.iload_n 2, 1) := by decide +kernel
theorem d_R_takeHole_73 : decode M_R_takeHole.2.1 73 = .ok (.invokestatic 59, 3) := by decide +kernel
theorem d_R_takeHole_76 : decode M_R_takeHole.2.1 76 = .ok (.istore_n 3, 1) := by decide +kernel
theorem d_R_takeHole_77 : decode M_R_takeHole.2.1 77 = .ok (.iconst 0, 1) := by decide +kernel
theorem d_R_takeHole_78 : decode M_R_takeHole.2.1 78 = .ok (.istore 4, 2) := by decide +kernel
theorem d_R_takeHole_80 : decode M_R_takeHole.2.1 80 = .ok (.iload 4, 2) := by decide +kernel
theorem d_R_takeHole_82 : decode M_R_takeHole.2.1 82 = .ok (.aload_n 1, 1) := by decide +kernel
theorem d_R_takeHole_83 : decode M_R_takeHole.2.1 83 = .ok (.getfield 71, 3) := by decide +kernel
theorem d_R_takeHole_86 : decode M_R_takeHole.2.1 86 = .ok (.if_icmp .ge 36, 3) := by decide +kernel
theorem d_R_takeHole_89 : decode M_R_takeHole.2.1 89 = .ok (.iload_n 3, 1) := by decide +kernel
theorem d_R_takeHole_90 : decode M_R_takeHole.2.1 90 = .ok (.iconst 2, 1) := by decide +kernel
theorem d_R_takeHole_91 : decode M_R_takeHole.2.1 91 = .ok (.iload 4, 2) := by decide +kernel
theorem d_R_takeHole_93 : decode M_R_takeHole.2.1 93 = .ok (.imul, 1) := by decide +kernel
theorem d_R_takeHole_94 : decode M_R_takeHole.2.1 94 = .ok (.ishr, 1) := by decide +kernel
theorem d_R_takeHole_95 : decode M_R_takeHole.2.1 95 = .ok (.iconst 3, 1) := by decide +kernel
theorem d_R_takeHole_96 : decode M_R_takeHole.2.1 96 = .ok (.iand, 1) := by decide +kernel
theorem d_R_takeHole_97 : decode M_R_takeHole.2.1 97 = .ok (.istore 5, 2) := by decide +kernel
theorem d_R_takeHole_99 : decode M_R_takeHole.2.1 99 = .ok (.aload_n 0, 1) := by decide +kernel
theorem d_R_takeHole_100 : decode M_R_takeHole.2.1 100 = .ok (.iconst 0, 1) := by decide +kernel
theorem d_R_takeHole_101 : decode M_R_takeHole.2.1 101 = .ok (.aload_n 1, 1) := by decide +kernel
theorem d_R_takeHole_102 : decode M_R_takeHole.2.1 102 = .ok (.getfield 74, 3) := by decide +kernel
theorem d_R_takeHole_105 : decode M_R_takeHole.2.1 105 = .ok (.iload 5, 2) := by decide +kernel
theorem d_R_takeHole_107 : decode M_R_takeHole.2.1 107 = .ok (.invokestatic 59, 3) := by decide +kernel
theorem d_R_takeHole_110 : decode M_R_takeHole.2.1 110 = .ok (.invokestatic 51, 3) := by decide +kernel
theorem d_R_takeHole_113 : decode M_R_takeHole.2.1 113 = .ok (.invokevirtual 55, 3) := by decide +kernel
theorem d_R_takeHole_116 : decode M_R_takeHole.2.1 116 = .ok (.iinc 4 1, 3) := by decide +kernel
theorem d_R_takeHole_119 : decode M_R_takeHole.2.1 119 = .ok (.goto (-39), 3) := by decide +kernel
theorem d_R_takeHole_122 : decode M_R_takeHole.2.1 122 = .ok (.return_, 1) := by decide +kernel
theorem d_R_risingOrder_0 : decode M_R_risingOrder.2.1 0 = .ok (.iconst 0, 1) := by decide +kernel
theorem d_R_risingOrder_1 : decode M_R_risingOrder.2.1 1 = .ok (.istore_n 1, 1) := by decide +kernel
theorem d_R_risingOrder_2 : decode M_R_risingOrder.2.1 2 = .ok (.iconst 0, 1) := by decide +kernel
theorem d_R_risingOrder_3 : decode M_R_risingOrder.2.1 3 = .ok (.istore_n 2, 1) := by decide +kernel
theorem d_R_risingOrder_4 : decode M_R_risingOrder.2.1 4 = .ok (.iload_n 2, 1) := by decide +kernel
theorem d_R_risingOrder_5 : decode M_R_risingOrder.2.1 5 = .ok (.aload_n 0, 1) := by decide +kernel
theorem d_R_risingOrder_6 : decode M_R_risingOrder.2.1 6 = .ok (.getfield 71, 3) := by decide +kernel
theorem d_R_risingOrder_9 : decode M_R_risingOrder.2.1 9 = .ok (.if_icmp .ge 60, 3) := by decide +kernel
theorem d_R_risingOrder_12 : decode M_R_risingOrder.2.1 12 = .ok (.iconst 0, 1) := by decide +kernel
theorem d_R_risingOrder_13 : decode M_R_risingOrder.2.1 13 = .ok (.istore_n 3, 1) := by decide +kernel
theorem d_R_risingOrder_14 : decode M_R_risingOrder.2.1 14 = .ok (.iconst 0, 1) := by decide +kernel
theorem d_R_risingOrder_15 : decode M_R_risingOrder.2.1 15 = .ok (.istore 4, 2) := by decide +kernel
theorem d_R_risingOrder_17 : decode M_R_risingOrder.2.1 17 = .ok (.iload 4, 2) := by decide +kernel
theorem d_R_risingOrder_19 : decode M_R_risingOrder.2.1 19 = .ok (.aload_n 0, 1) := by decide +kernel
theorem d_R_risingOrder_20 : decode M_R_risingOrder.2.1 20 = .ok (.getfield 71, 3) := by decide +kernel
theorem d_R_risingOrder_23 : decode M_R_risingOrder.2.1 23 = .ok (.if_icmp .ge 32, 3) := by decide +kernel
theorem d_R_risingOrder_26 : decode M_R_risingOrder.2.1 26 = .ok (.aload_n 0, 1) := by decide +kernel
theorem d_R_risingOrder_27 : decode M_R_risingOrder.2.1 27 = .ok (.getfield 74, 3) := by decide +kernel
theorem d_R_risingOrder_30 : decode M_R_risingOrder.2.1 30 = .ok (.iload 4, 2) := by decide +kernel
theorem d_R_risingOrder_32 : decode M_R_risingOrder.2.1 32 = .ok (.invokestatic 59, 3) := by decide +kernel
theorem d_R_risingOrder_35 : decode M_R_risingOrder.2.1 35 = .ok (.aload_n 0, 1) := by decide +kernel
theorem d_R_risingOrder_36 : decode M_R_risingOrder.2.1 36 = .ok (.getfield 74, 3) := by decide +kernel
theorem d_R_risingOrder_39 : decode M_R_risingOrder.2.1 39 = .ok (.iload_n 2, 1) := by decide +kernel
theorem d_R_risingOrder_40 : decode M_R_risingOrder.2.1 40 = .ok (.invokestatic 59, 3) := by decide +kernel
theorem d_R_risingOrder_43 : decode M_R_risingOrder.2.1 43 = .ok (.if_icmp .ge 6, 3) := by decide +kernel
theorem d_R_risingOrder_46 : decode M_R_risingOrder.2.1 46 = .ok (.iinc 3 1, 3) := by decide +kernel
theorem d_R_risingOrder_49 : decode M_R_risingOrder.2.1 49 = .ok (.iinc 4 1, 3) := by decide +kernel
theorem d_R_risingOrder_52 : decode M_R_risingOrder.2.1 52 = .ok (.goto (-35), 3) := by decide +kernel
theorem d_R_risingOrder_55 : decode M_R_risingOrder.2.1 55 = .ok (.iload_n 1, 1) := by decide +kernel
theorem d_R_risingOrder_56 : decode M_R_risingOrder.2.1 56 = .ok (.iload_n 2, 1) := by decide +kernel
theorem d_R_risingOrder_57 : decode M_R_risingOrder.2.1 57 = .ok (.iconst 2, 1) := by decide +kernel
theorem d_R_risingOrder_58 : decode M_R_risingOrder.2.1 58 = .ok (.iload_n 3, 1) := by decide +kernel
theorem d_R_risingOrder_59 : decode M_R_risingOrder.2.1 59 = .ok (.imul, 1) := by decide +kernel
theorem d_R_risingOrder_60 : decode M_R_risingOrder.2.1 60 = .ok (.ishl, 1) := by decide +kernel
theorem d_R_risingOrder_61 : decode M_R_risingOrder.2.1 61 = .ok (.ior, 1) := by decide +kernel
theorem d_R_risingOrder_62 : decode M_R_risingOrder.2.1 62 = .ok (.istore_n 1, 1) := by decide +kernel
theorem d_R_risingOrder_63 : decode M_R_risingOrder.2.1 63 = .ok (.iinc 2 1, 3) := by decide +kernel
theorem d_R_risingOrder_66 : decode M_R_risingOrder.2.1 66 = .ok (.goto (-62), 3) := by decide +kernel
theorem d_R_risingOrder_69 : decode M_R_risingOrder.2.1 69 = .ok (.iload_n 1, 1) := by decide +kernel
theorem d_R_risingOrder_70 : decode M_R_risingOrder.2.1 70 = .ok (.ireturn, 1) := by decide +kernel
theorem d_R_append_0 : decode M_R_append.2.1 0 = .ok (.aload_n 0, 1) := by decide +kernel
theorem d_R_append_1 : decode M_R_append.2.1 1 = .ok (.getfield 21, 3) := by decide +kernel
theorem d_R_append_4 : decode M_R_append.2.1 4 = .ok (.aload_n 0, 1) := by decide +kernel
theorem d_R_append_5 : decode M_R_append.2.1 5 = .ok (.getfield 9, 3) := by decide +kernel
theorem d_R_append_8 : decode M_R_append.2.1 8 = .ok (.arraylength, 1) := by decide +kernel
theorem d_R_append_9 : decode M_R_append.2.1 9 = .ok (.if_icmp .lt 32, 3) := by decide +kernel
theorem d_R_append_12 : decode M_R_append.2.1 12 = .ok (.aload_n 0, 1) := by decide +kernel
theorem d_R_append_13 : decode M_R_append.2.1 13 = .ok (.getfield 9, 3) := by decide +kernel
theorem d_R_append_16 : decode M_R_append.2.1 16 = .ok (.arraylength, 1) := by decide +kernel
theorem d_R_append_17 : decode M_R_append.2.1 17 = .ok (.sipush 12000, 3) := by decide +kernel
theorem d_R_append_20 : decode M_R_append.2.1 20 = .ok (.if_icmp .ge 21, 3) := by decide +kernel
theorem d_R_append_23 : decode M_R_append.2.1 23 = .ok (.aload_n 0, 1) := by decide +kernel
theorem d_R_append_24 : decode M_R_append.2.1 24 = .ok (.aload_n 0, 1) := by decide +kernel
theorem d_R_append_25 : decode M_R_append.2.1 25 = .ok (.getfield 9, 3) := by decide +kernel
theorem d_R_append_28 : decode M_R_append.2.1 28 = .ok (.iconst 2, 1) := by decide +kernel
theorem d_R_append_29 : decode M_R_append.2.1 29 = .ok (.aload_n 0, 1) := by decide +kernel
theorem d_R_append_30 : decode M_R_append.2.1 30 = .ok (.getfield 9, 3) := by decide +kernel
theorem d_R_append_33 : decode M_R_append.2.1 33 = .ok (.arraylength, 1) := by decide +kernel
theorem d_R_append_34 : decode M_R_append.2.1 34 = .ok (.imul, 1) := by decide +kernel
theorem d_R_append_35 : decode M_R_append.2.1 35 = .ok (.invokestatic 77, 3) := by decide +kernel
theorem d_R_append_38 : decode M_R_append.2.1 38 = .ok (.putfield 9, 3) := by decide +kernel
theorem d_R_append_41 : decode M_R_append.2.1 41 = .ok (.aload_n 0, 1) := by decide +kernel
theorem d_R_append_42 : decode M_R_append.2.1 42 = .ok (.getfield 9, 3) := by decide +kernel
theorem d_R_append_45 : decode M_R_append.2.1 45 = .ok (.aload_n 0, 1) := by decide +kernel
theorem d_R_append_46 : decode M_R_append.2.1 46 = .ok (.getfield 21, 3) := by decide +kernel
theorem d_R_append_49 : decode M_R_append.2.1 49 = .ok (.iload_n 1, 1) := by decide +kernel
theorem d_R_append_50 : decode M_R_append.2.1 50 = .ok (.invokestatic 63, 3) := by decide +kernel
theorem d_R_append_53 : decode M_R_append.2.1 53 = .ok (.aload_n 0, 1) := by decide +kernel
theorem d_R_append_54 : decode M_R_append.2.1 54 = .ok (.dup, 1) := by decide +kernel
theorem d_R_append_55 : decode M_R_append.2.1 55 = .ok (.getfield 21, 3) := by decide +kernel
theorem d_R_append_58 : decode M_R_append.2.1 58 = .ok (.iconst 1, 1) := by decide +kernel
theorem d_R_append_59 : decode M_R_append.2.1 59 = .ok (.iadd, 1) := by decide +kernel
theorem d_R_append_60 : decode M_R_append.2.1 60 = .ok (.putfield 21, 3) := by decide +kernel
theorem d_R_append_63 : decode M_R_append.2.1 63 = .ok (.return_, 1) := by decide +kernel
end
section
theorem d_S_init_0 : decode M_S_init.2.1 0 = .ok (.aload_n 0, 1) := by decide +kernel
theorem d_S_init_1 : decode M_S_init.2.1 1 = .ok (.invokespecial 3, 3) := by decide +kernel
theorem d_S_init_4 : decode M_S_init.2.1 4 = .ok (.aload_n 0, 1) := by decide +kernel
theorem d_S_init_5 : decode M_S_init.2.1 5 = .ok (.bipush 91, 2) := by decide +kernel
theorem d_S_init_7 : decode M_S_init.2.1 7 = .ok (.newarray .int, 2) := by decide +kernel
theorem d_S_init_9 : decode M_S_init.2.1 9 = .ok (.putfield 9, 3) := by decide +kernel
theorem d_S_init_12 : decode M_S_init.2.1 12 = .ok (.aload_n 0, 1) := by decide +kernel
theorem d_S_init_13 : decode M_S_init.2.1 13 = .ok (.aload_n 1, 1) := by decide +kernel
theorem d_S_init_14 : decode M_S_init.2.1 14 = .ok (.putfield 15, 3) := by decide +kernel
theorem d_S_init_17 : decode M_S_init.2.1 17 = .ok (.aload_n 0, 1) := by decide +kernel
theorem d_S_init_18 : decode M_S_init.2.1 18 = .ok (.iload_n 2, 1) := by decide +kernel
theorem d_S_init_19 : decode M_S_init.2.1 19 = .ok (.putfield 19, 3) := by decide +kernel
theorem d_S_init_22 : decode M_S_init.2.1 22 = .ok (.return_, 1) := by decide +kernel
theorem d_S_restart_0 : decode M_S_restart.2.1 0 = .ok (.aload_n 0, 1) := by decide +kernel
theorem d_S_restart_1 : decode M_S_restart.2.1 1 = .ok (.iload_n 1, 1) := by decide +kernel
theorem d_S_restart_2 : decode M_S_restart.2.1 2 = .ok (.putfield 23, 3) := by decide +kernel
theorem d_S_restart_5 : decode M_S_restart.2.1 5 = .ok (.aload_n 0, 1) := by decide +kernel
theorem d_S_restart_6 : decode M_S_restart.2.1 6 = .ok (.iconst 0, 1) := by decide +kernel
theorem d_S_restart_7 : decode M_S_restart.2.1 7 = .ok (.putfield 26, 3) := by decide +kernel
theorem d_S_restart_10 : decode M_S_restart.2.1 10 = .ok (.aload_n 0, 1) := by decide +kernel
theorem d_S_restart_11 : decode M_S_restart.2.1 11 = .ok (.iconst 0, 1) := by decide +kernel
theorem d_S_restart_12 : decode M_S_restart.2.1 12 = .ok (.putfield 29, 3) := by decide +kernel
theorem d_S_restart_15 : decode M_S_restart.2.1 15 = .ok (.aload_n 0, 1) := by decide +kernel
theorem d_S_restart_16 : decode M_S_restart.2.1 16 = .ok (.iconst 0, 1) := by decide +kernel
theorem d_S_restart_17 : decode M_S_restart.2.1 17 = .ok (.putfield 32, 3) := by decide +kernel
theorem d_S_restart_20 : decode M_S_restart.2.1 20 = .ok (.aload_n 0, 1) := by decide +kernel
theorem d_S_restart_21 : decode M_S_restart.2.1 21 = .ok (.getfield 9, 3) := by decide +kernel
theorem d_S_restart_24 : decode M_S_restart.2.1 24 = .ok (.iconst 0, 1) := by decide +kernel
theorem d_S_restart_25 : decode M_S_restart.2.1 25 = .ok (.iconst 0, 1) := by decide +kernel
theorem d_S_restart_26 : decode M_S_restart.2.1 26 = .ok (.invokestatic 35, 3) := by decide +kernel
theorem d_S_restart_29 : decode M_S_restart.2.1 29 = .ok (.aload_n 0, 1) := by decide +kernel
theorem d_S_restart_30 : decode M_S_restart.2.1 30 = .ok (.iconst 1, 1) := by decide +kernel
theorem d_S_restart_31 : decode M_S_restart.2.1 31 = .ok (.putfield 39, 3) := by decide +kernel
theorem d_S_restart_34 : decode M_S_restart.2.1 34 = .ok (.return_, 1) := by decide +kernel
theorem d_S_itemsDue_0 : decode M_S_itemsDue.2.1 0 = .ok (.aload_n 0, 1) := by decide +kernel
theorem d_S_itemsDue_1 : decode M_S_itemsDue.2.1 1 = .ok (.getfield 39, 3) := by decide +kernel
theorem d_S_itemsDue_4 : decode M_S_itemsDue.2.1 4 = .ok (.aload_n 0, 1) := by decide +kernel
theorem d_S_itemsDue_5 : decode M_S_itemsDue.2.1 5 = .ok (.getfield 32, 3) := by decide +kernel
theorem d_S_itemsDue_8 : decode M_S_itemsDue.2.1 8 = .ok (.iadd, 1) := by decide +kernel
theorem d_S_itemsDue_9 : decode M_S_itemsDue.2.1 9 = .ok (.ireturn, 1) := by decide +kernel
theorem d_S_mayTakeVariable_0 : decode M_S_mayTakeVariable.2.1 0 = .ok (.iload_n 1, 1) := by decide +kernel
theorem d_S_mayTakeVariable_1 : decode M_S_mayTakeVariable.2.1 1 = .ok (.ifCond .lt 11, 3) := by decide +kernel
theorem d_S_mayTakeVariable_4 : decode M_S_mayTakeVariable.2.1 4 = .ok (.iload_n 1, 1) := by decide +kernel
theorem d_S_mayTakeVariable_5 : decode M_S_mayTakeVariable.2.1 5 = .ok (.aload_n 0, 1) := by decide +kernel
theorem d_S_mayTakeVariable_6 : decode M_S_mayTakeVariable.2.1 6 = .ok (.invokevirtual 60, 3) := by decide +kernel
theorem d_S_mayTakeVariable_9 : decode M_S_mayTakeVariable.2.1 9 = .ok (.if_icmp .lt 5, 3) := by decide +kernel
theorem d_S_mayTakeVariable_12 : decode M_S_mayTakeVariable.2.1 12 = .ok (.iconst 0, 1) := by decide +kernel
theorem d_S_mayTakeVariable_13 : decode M_S_mayTakeVariable.2.1 13 = .ok (.ireturn, 1) := by decide +kernel
theorem d_S_mayTakeVariable_14 : decode M_S_mayTakeVariable.2.1 14 = .ok (.aload_n 0, 1) := by decide +kernel
theorem d_S_mayTakeVariable_15 : decode M_S_mayTakeVariable.2.1 15 = .ok (.invokevirtual 49, 3) := by decide +kernel
theorem d_S_mayTakeVariable_18 : decode M_S_mayTakeVariable.2.1 18 = .ok (.ifCond .ne 5, 3) := by decide +kernel
theorem d_S_mayTakeVariable_21 : decode M_S_mayTakeVariable.2.1 21 = .ok (.iconst 1, 1) := by decide +kernel
theorem d_S_mayTakeVariable_22 : decode M_S_mayTakeVariable.2.1 22 = .ok (.ireturn, 1) := by decide +kernel
theorem d_S_mayTakeVariable_23 : decode M_S_mayTakeVariable.2.1 23 = .ok (.aload_n 0, 1) := by decide +kernel
theorem d_S_mayTakeVariable_24 : decode M_S_mayTakeVariable.2.1 24 = .ok (.getfield 63, 3) := by decide +kernel
theorem d_S_mayTakeVariable_27 : decode M_S_mayTakeVariable.2.1 27 = .ok (.istore_n 2, 1) := by decide +kernel
theorem d_S_mayTakeVariable_28 : decode M_S_mayTakeVariable.2.1 28 = .ok (.iload_n 2, 1) := by decide +kernel
theorem d_S_mayTakeVariable_29 : decode M_S_mayTakeVariable.2.1 29 = .ok (.aload_n 0, 1) := by decide +kernel
theorem d_S_mayTakeVariable_30 : decode M_S_mayTakeVariable.2.1 30 = .ok (.getfield 26, 3) := by decide +kernel
theorem d_S_mayTakeVariable_33 : decode M_S_mayTakeVariable.2.1 33 = .ok (.if_icmp .ge 31, 3) := by decide +kernel
theorem d_S_mayTakeVariable_36 : decode M_S_mayTakeVariable.2.1 36 = .ok (.aload_n 0, 1) := by decide +kernel
theorem d_S_mayTakeVariable_37 : decode M_S_mayTakeVariable.2.1 37 = .ok (.getfield 15, 3) := by decide +kernel
theorem d_S_mayTakeVariable_40 : decode M_S_mayTakeVariable.2.1 40 = .ok (.aload_n 0, 1) := by decide +kernel
theorem d_S_mayTakeVariable_41 : decode M_S_mayTakeVariable.2.1 41 = .ok (.getfield 19, 3) := by decide +kernel
theorem d_S_mayTakeVariable_44 : decode M_S_mayTakeVariable.2.1 44 = .ok (.iload_n 2, 1) := by decide +kernel
theorem d_S_mayTakeVariable_45 : decode M_S_mayTakeVariable.2.1 45 = .ok (.iadd, 1) := by decide +kernel
theorem d_S_mayTakeVariable_46 : decode M_S_mayTakeVariable.2.1 46 = .ok (.invokevirtual 66, 3) := by decide +kernel
theorem d_S_mayTakeVariable_49 : decode M_S_mayTakeVariable.2.1 49 = .ok (.invokestatic 72, 3) := by decide +kernel
theorem d_S_mayTakeVariable_52 : decode M_S_mayTakeVariable.2.1 52 = .ok (.iload_n 1, 1) := by decide +kernel
theorem d_S_mayTakeVariable_53 : decode M_S_mayTakeVariable.2.1 53 = .ok (.if_icmp .ne 5, 3) := by decide +kernel
theorem d_S_mayTakeVariable_56 : decode M_S_mayTakeVariable.2.1 56 = .ok (.iconst 0, 1) := by decide +kernel
theorem d_S_mayTakeVariable_57 : decode M_S_mayTakeVariable.2.1 57 = .ok (.ireturn, 1) := by decide +kernel
theorem d_S_mayTakeVariable_58 : decode M_S_mayTakeVariable.2.1 58 = .ok (.iinc 2 1, 3) := by decide +kernel
theorem d_S_mayTakeVariable_61 : decode M_S_mayTakeVariable.2.1 61 = .ok (.goto (-33), 3) := by decide +kernel
theorem d_S_mayTakeVariable_64 : decode M_S_mayTakeVariable.2.1 64 = .ok (.iconst 1, 1) := by decide +kernel
theorem d_S_mayTakeVariable_65 : decode M_S_mayTakeVariable.2.1 65 = .ok (.ireturn, 1) := by decide +kernel
theorem d_S_variablesHere_0 : decode M_S_variablesHere.2.1 0 = .ok (.aload_n 0, 1) := by decide +kernel
theorem d_S_variablesHere_1 : decode M_S_variablesHere.2.1 1 = .ok (.getfield 23, 3) := by decide +kernel
theorem d_S_variablesHere_4 : decode M_S_variablesHere.2.1 4 = .ok (.aload_n 0, 1) := by decide +kernel
theorem d_S_variablesHere_5 : decode M_S_variablesHere.2.1 5 = .ok (.invokevirtual 46, 3) := by decide +kernel
theorem d_S_variablesHere_8 : decode M_S_variablesHere.2.1 8 = .ok (.iadd, 1) := by decide +kernel
theorem d_S_variablesHere_9 : decode M_S_variablesHere.2.1 9 = .ok (.ireturn, 1) := by decide +kernel
theorem d_S_boundHere_0 : decode M_S_boundHere.2.1 0 = .ok (.aload_n 0, 1) := by decide +kernel
theorem d_S_boundHere_1 : decode M_S_boundHere.2.1 1 = .ok (.invokevirtual 49, 3) := by decide +kernel
theorem d_S_boundHere_4 : decode M_S_boundHere.2.1 4 = .ok (.ifCond .eq 10, 3) := by decide +kernel
theorem d_S_boundHere_7 : decode M_S_boundHere.2.1 7 = .ok (.aload_n 0, 1) := by decide +kernel
theorem d_S_boundHere_8 : decode M_S_boundHere.2.1 8 = .ok (.getfield 53, 3) := by decide +kernel
theorem d_S_boundHere_11 : decode M_S_boundHere.2.1 11 = .ok (.goto 16, 3) := by decide +kernel
theorem d_S_boundHere_14 : decode M_S_boundHere.2.1 14 = .ok (.aload_n 0, 1) := by decide +kernel
theorem d_S_boundHere_15 : decode M_S_boundHere.2.1 15 = .ok (.getfield 9, 3) := by decide +kernel
theorem d_S_boundHere_18 : decode M_S_boundHere.2.1 18 = .ok (.aload_n 0, 1) := by decide +kernel
theorem d_S_boundHere_19 : decode M_S_boundHere.2.1 19 = .ok (.getfield 39, 3) := by decide +kernel
theorem d_S_boundHere_22 : decode M_S_boundHere.2.1 22 = .ok (.iconst 1, 1) := by decide +kernel
theorem d_S_boundHere_23 : decode M_S_boundHere.2.1 23 = .ok (.isub, 1) := by decide +kernel
theorem d_S_boundHere_24 : decode M_S_boundHere.2.1 24 = .ok (.invokestatic 56, 3) := by decide +kernel
theorem d_S_boundHere_27 : decode M_S_boundHere.2.1 27 = .ok (.ireturn, 1) := by decide +kernel
theorem d_S_isBehindHole_0 : decode M_S_isBehindHole.2.1 0 = .ok (.aload_n 0, 1) := by decide +kernel
theorem d_S_isBehindHole_1 : decode M_S_isBehindHole.2.1 1 = .ok (.getfield 32, 3) := by decide +kernel
theorem d_S_isBehindHole_4 : decode M_S_isBehindHole.2.1 4 = .ok (.ifCond .le 7, 3) := by decide +kernel
theorem d_S_isBehindHole_7 : decode M_S_isBehindHole.2.1 7 = .ok (.iconst 1, 1) := by decide +kernel
theorem d_S_isBehindHole_8 : decode M_S_isBehindHole.2.1 8 = .ok (.goto 4, 3) := by decide +kernel
theorem d_S_isBehindHole_11 : decode M_S_isBehindHole.2.1 11 = .ok (.iconst 0, 1) := by decide +kernel
theorem d_S_isBehindHole_12 : decode M_S_isBehindHole.2.1 12 = .ok (.ireturn, 1) := by decide +kernel
theorem d_S_takeVariable_0 : decode M_S_takeVariable.2.1 0 = .ok (.aload_n 0, 1) := by decide +kernel
theorem d_S_takeVariable_1 : decode M_S_takeVariable.2.1 1 = .ok (.invokevirtual 46, 3) := by decide +kernel
theorem d_S_takeVariable_4 : decode M_S_takeVariable.2.1 4 = .ok (.istore_n 2, 1) := by decide +kernel
theorem d_S_takeVariable_5 : decode M_S_takeVariable.2.1 5 = .ok (.aload_n 0, 1) := by decide +kernel
theorem d_S_takeVariable_6 : decode M_S_takeVariable.2.1 6 = .ok (.invokevirtual 49, 3) := by decide +kernel
theorem d_S_takeVariable_9 : decode M_S_takeVariable.2.1 9 = .ok (.ifCond .eq 16, 3) := by decide +kernel
theorem d_S_takeVariable_12 : decode M_S_takeVariable.2.1 12 = .ok (.aload_n 0, 1) := by decide +kernel
theorem d_S_takeVariable_13 : decode M_S_takeVariable.2.1 13 = .ok (.dup, 1) := by decide +kernel
theorem d_S_takeVariable_14 : decode M_S_takeVariable.2.1 14 = .ok (.getfield 32, 3) := by decide +kernel
theorem d_S_takeVariable_17 : decode M_S_takeVariable.2.1 17 = .ok (.iconst 1, 1) := by decide +kernel
theorem d_S_takeVariable_18 : decode M_S_takeVariable.2.1 18 = .ok (.isub, 1) := by decide +kernel
theorem d_S_takeVariable_19 : decode M_S_takeVariable.2.1 19 = .ok (.putfield 32, 3) := by decide +kernel
theorem d_S_takeVariable_22 : decode M_S_takeVariable.2.1 22 = .ok (.goto 23, 3) := by decide +kernel
theorem d_S_takeVariable_25 : decode M_S_takeVariable.2.1 25 = .ok (.aload_n 0, 1) := by decide +kernel
theorem d_S_takeVariable_26 : decode M_S_takeVariable.2.1 26 = .ok (.dup, 1) := by decide +kernel
theorem d_S_takeVariable_27 : decode M_S_takeVariable.2.1 27 = .ok (.getfield 39, 3) := by decide +kernel
theorem d_S_takeVariable_30 : decode M_S_takeVariable.2.1 30 = .ok (.iconst 1, 1) := by decide +kernel
theorem d_S_takeVariable_31 : decode M_S_takeVariable.2.1 31 = .ok (.isub, 1) := by decide +kernel
theorem d_S_takeVariable_32 : decode M_S_takeVariable.2.1 32 = .ok (.putfield 39, 3) := by decide +kernel
theorem d_S_takeVariable_35 : decode M_S_takeVariable.2.1 35 = .ok (.aload_n 0, 1) := by decide +kernel
theorem d_S_takeVariable_36 : decode M_S_takeVariable.2.1 36 = .ok (.dup, 1) := by decide +kernel
theorem d_S_takeVariable_37 : decode M_S_takeVariable.2.1 37 = .ok (.getfield 29, 3) := by decide +kernel
theorem d_S_takeVariable_40 : decode M_S_takeVariable.2.1 40 = .ok (.iconst 1, 1) := by decide +kernel
theorem d_S_takeVariable_41 : decode M_S_takeVariable.2.1 41 = .ok (.iadd, 1) := by decide +kernel
theorem d_S_takeVariable_42 : decode M_S_takeVariable.2.1 42 = .ok (.putfield 29, 3) := by decide +kernel
theorem d_S_takeVariable_45 : decode M_S_takeVariable.2.1 45 = .ok (.aload_n 0, 1) := by decide +kernel
theorem d_S_takeVariable_46 : decode M_S_takeVariable.2.1 46 = .ok (.iconst 0, 1) := by decide +kernel
theorem d_S_takeVariable_47 : decode M_S_takeVariable.2.1 47 = .ok (.iload_n 1, 1) := by decide +kernel
theorem d_S_takeVariable_48 : decode M_S_takeVariable.2.1 48 = .ok (.invokestatic 75, 3) := by decide +kernel
theorem d_S_takeVariable_51 : decode M_S_takeVariable.2.1 51 = .ok (.iload_n 2, 1) := by decide +kernel
theorem d_S_takeVariable_52 : decode M_S_takeVariable.2.1 52 = .ok (.invokevirtual 79, 3) := by decide +kernel
theorem d_S_takeVariable_55 : decode M_S_takeVariable.2.1 55 = .ok (.return_, 1) := by decide +kernel
theorem d_S_write_0 : decode M_S_write.2.1 0 = .ok (.aload_n 0, 1) := by decide +kernel
theorem d_S_write_1 : decode M_S_write.2.1 1 = .ok (.getfield 15, 3) := by decide +kernel
theorem d_S_write_4 : decode M_S_write.2.1 4 = .ok (.aload_n 0, 1) := by decide +kernel
theorem d_S_write_5 : decode M_S_write.2.1 5 = .ok (.getfield 19, 3) := by decide +kernel
theorem d_S_write_8 : decode M_S_write.2.1 8 = .ok (.aload_n 0, 1) := by decide +kernel
theorem d_S_write_9 : decode M_S_write.2.1 9 = .ok (.getfield 26, 3) := by decide +kernel
theorem d_S_write_12 : decode M_S_write.2.1 12 = .ok (.iadd, 1) := by decide +kernel
theorem d_S_write_13 : decode M_S_write.2.1 13 = .ok (.iload_n 1, 1) := by decide +kernel
theorem d_S_write_14 : decode M_S_write.2.1 14 = .ok (.iload_n 2, 1) := by decide +kernel
theorem d_S_write_15 : decode M_S_write.2.1 15 = .ok (.invokevirtual 91, 3) := by decide +kernel
theorem d_S_write_18 : decode M_S_write.2.1 18 = .ok (.aload_n 0, 1) := by decide +kernel
theorem d_S_write_19 : decode M_S_write.2.1 19 = .ok (.dup, 1) := by decide +kernel
theorem d_S_write_20 : decode M_S_write.2.1 20 = .ok (.getfield 26, 3) := by decide +kernel
theorem d_S_write_23 : decode M_S_write.2.1 23 = .ok (.iconst 1, 1) := by decide +kernel
theorem d_S_write_24 : decode M_S_write.2.1 24 = .ok (.iadd, 1) := by decide +kernel
theorem d_S_write_25 : decode M_S_write.2.1 25 = .ok (.putfield 26, 3) := by decide +kernel
theorem d_S_write_28 : decode M_S_write.2.1 28 = .ok (.return_, 1) := by decide +kernel
theorem d_S_takeOperation_0 : decode M_S_takeOperation.2.1 0 = .ok (.aload_n 0, 1) := by decide +kernel
theorem d_S_takeOperation_1 : decode M_S_takeOperation.2.1 1 = .ok (.invokevirtual 46, 3) := by decide +kernel
theorem d_S_takeOperation_4 : decode M_S_takeOperation.2.1 4 = .ok (.istore_n 3, 1) := by decide +kernel
theorem d_S_takeOperation_5 : decode M_S_takeOperation.2.1 5 = .ok (.aload_n 0, 1) := by decide +kernel
theorem d_S_takeOperation_6 : decode M_S_takeOperation.2.1 6 = .ok (.dup, 1) := by decide +kernel
theorem d_S_takeOperation_7 : decode M_S_takeOperation.2.1 7 = .ok (.getfield 39, 3) := by decide +kernel
theorem d_S_takeOperation_10 : decode M_S_takeOperation.2.1 10 = .ok (.iconst 1, 1) := by decide +kernel
theorem d_S_takeOperation_11 : decode M_S_takeOperation.2.1 11 = .ok (.isub, 1) := by decide +kernel
theorem d_S_takeOperation_12 : decode M_S_takeOperation.2.1 12 = .ok (.putfield 39, 3) := by decide +kernel
theorem d_S_takeOperation_15 : decode M_S_takeOperation.2.1 15 = .ok (.aload_n 0, 1) := by decide +kernel
theorem d_S_takeOperation_16 : decode M_S_takeOperation.2.1 16 = .ok (.dup, 1) := by decide +kernel
theorem d_S_takeOperation_17 : decode M_S_takeOperation.2.1 17 = .ok (.getfield 29, 3) := by decide +kernel
theorem d_S_takeOperation_20 : decode M_S_takeOperation.2.1 20 = .ok (.iconst 1, 1) := by decide +kernel
theorem d_S_takeOperation_21 : decode M_S_takeOperation.2.1 21 = .ok (.iadd, 1) := by decide +kernel
theorem d_S_takeOperation_22 : decode M_S_takeOperation.2.1 22 = .ok (.putfield 29, 3) := by decide +kernel
theorem d_S_takeOperation_25 : decode M_S_takeOperation.2.1 25 = .ok (.aload_n 0, 1) := by decide +kernel
theorem d_S_takeOperation_26 : decode M_S_takeOperation.2.1 26 = .ok (.iconst 1, 1) := by decide +kernel
theorem d_S_takeOperation_27 : decode M_S_takeOperation.2.1 27 = .ok (.iload_n 1, 1) := by decide +kernel
theorem d_S_takeOperation_28 : decode M_S_takeOperation.2.1 28 = .ok (.invokestatic 75, 3) := by decide +kernel
theorem d_S_takeOperation_31 : decode M_S_takeOperation.2.1 31 = .ok (.iload_n 3, 1) := by decide +kernel
theorem d_S_takeOperation_32 : decode M_S_takeOperation.2.1 32 = .ok (.invokevirtual 79, 3) := by decide +kernel
theorem d_S_takeOperation_35 : decode M_S_takeOperation.2.1 35 = .ok (.aload_n 2, 1) := by decide +kernel
theorem d_S_takeOperation_36 : decode M_S_takeOperation.2.1 36 = .ok (.iload_n 1, 1) := by decide +kernel
theorem d_S_takeOperation_37 : decode M_S_takeOperation.2.1 37 = .ok (.invokevirtual 83, 3) := by decide +kernel
theorem d_S_takeOperation_40 : decode M_S_takeOperation.2.1 40 = .ok (.iconst 1, 1) := by decide +kernel
theorem d_S_takeOperation_41 : decode M_S_takeOperation.2.1 41 = .ok (.isub, 1) := by decide +kernel
theorem d_S_takeOperation_42 : decode M_S_takeOperation.2.1 42 = .ok (.istore 4, 2) := by decide +kernel
theorem d_S_takeOperation_44 : decode M_S_takeOperation.2.1 44 = .ok (.iload 4, 2) := by decide +kernel
theorem d_S_takeOperation_46 : decode M_S_takeOperation.2.1 46 = .ok (.ifCond .lt 39, 3) := by decide +kernel
theorem d_S_takeOperation_49 : decode M_S_takeOperation.2.1 49 = .ok (.aload_n 0, 1) := by decide +kernel
theorem d_S_takeOperation_50 : decode M_S_takeOperation.2.1 50 = .ok (.getfield 9, 3) := by decide +kernel
theorem d_S_takeOperation_53 : decode M_S_takeOperation.2.1 53 = .ok (.aload_n 0, 1) := by decide +kernel
theorem d_S_takeOperation_54 : decode M_S_takeOperation.2.1 54 = .ok (.getfield 39, 3) := by decide +kernel
theorem d_S_takeOperation_57 : decode M_S_takeOperation.2.1 57 = .ok (.iload_n 3, 1) := by decide +kernel
theorem d_S_takeOperation_58 : decode M_S_takeOperation.2.1 58 = .ok (.aload_n 2, 1) := by decide +kernel
theorem d_S_takeOperation_59 : decode M_S_takeOperation.2.1 59 = .ok (.iload_n 1, 1) := by decide +kernel
theorem d_S_takeOperation_60 : decode M_S_takeOperation.2.1 60 = .ok (.iload 4, 2) := by decide +kernel
theorem d_S_takeOperation_62 : decode M_S_takeOperation.2.1 62 = .ok (.invokevirtual 88, 3) := by decide +kernel
theorem d_S_takeOperation_65 : decode M_S_takeOperation.2.1 65 = .ok (.iadd, 1) := by decide +kernel
theorem d_S_takeOperation_66 : decode M_S_takeOperation.2.1 66 = .ok (.invokestatic 35, 3) := by decide +kernel
theorem d_S_takeOperation_69 : decode M_S_takeOperation.2.1 69 = .ok (.aload_n 0, 1) := by decide +kernel
theorem d_S_takeOperation_70 : decode M_S_takeOperation.2.1 70 = .ok (.dup, 1) := by decide +kernel
theorem d_S_takeOperation_71 : decode M_S_takeOperation.2.1 71 = .ok (.getfield 39, 3) := by decide +kernel
theorem d_S_takeOperation_74 : decode M_S_takeOperation.2.1 74 = .ok (.iconst 1, 1) := by decide +kernel
theorem d_S_takeOperation_75 : decode M_S_takeOperation.2.1 75 = .ok (.iadd, 1) := by decide +kernel
theorem d_S_takeOperation_76 : decode M_S_takeOperation.2.1 76 = .ok (.putfield 39, 3) := by decide +kernel
theorem d_S_takeOperation_79 : decode M_S_takeOperation.2.1 79 = .ok (.iinc 4 (-1), 3) := by decide +kernel
theorem d_S_takeOperation_82 : decode M_S_takeOperation.2.1 82 = .ok (.goto (-38), 3) := by decide +kernel
theorem d_S_takeOperation_85 : decode M_S_takeOperation.2.1 85 = .ok (.return_, 1) := by decide +kernel
theorem d_S_takeHole_0 : decode M_S_takeHole.2.1 0 = .ok (.aload_n 0, 1) := by decide +kernel
theorem d_S_takeHole_1 : decode M_S_takeHole.2.1 1 = .ok (.invokevirtual 46, 3) := by decide +kernel
theorem d_S_takeHole_4 : decode M_S_takeHole.2.1 4 = .ok (.istore_n 3, 1) := by decide +kernel
theorem d_S_takeHole_5 : decode M_S_takeHole.2.1 5 = .ok (.aload_n 0, 1) := by decide +kernel
theorem d_S_takeHole_6 : decode M_S_takeHole.2.1 6 = .ok (.dup, 1) := by decide +kernel
theorem d_S_takeHole_7 : decode M_S_takeHole.2.1 7 = .ok (.getfield 39, 3) := by decide +kernel
theorem d_S_takeHole_10 : decode M_S_takeHole.2.1 10 = .ok (.iconst 1, 1) := by decide +kernel
theorem d_S_takeHole_11 : decode M_S_takeHole.2.1 11 = .ok (.isub, 1) := by decide +kernel
theorem d_S_takeHole_12 : decode M_S_takeHole.2.1 12 = .ok (.putfield 39, 3) := by decide +kernel
theorem d_S_takeHole_15 : decode M_S_takeHole.2.1 15 = .ok (.aload_n 0, 1) := by decide +kernel
theorem d_S_takeHole_16 : decode M_S_takeHole.2.1 16 = .ok (.dup, 1) := by decide +kernel
theorem d_S_takeHole_17 : decode M_S_takeHole.2.1 17 = .ok (.getfield 29, 3) := by decide +kernel
theorem d_S_takeHole_20 : decode M_S_takeHole.2.1 20 = .ok (.iconst 1, 1) := by decide +kernel
theorem d_S_takeHole_21 : decode M_S_takeHole.2.1 21 = .ok (.iadd, 1) := by decide +kernel
theorem d_S_takeHole_22 : decode M_S_takeHole.2.1 22 = .ok (.putfield 29, 3) := by decide +kernel
theorem d_S_takeHole_25 : decode M_S_takeHole.2.1 25 = .ok (.aload_n 0, 1) := by decide +kernel
theorem d_S_takeHole_26 : decode M_S_takeHole.2.1 26 = .ok (.iconst 2, 1) := by decide +kernel
theorem d_S_takeHole_27 : decode M_S_takeHole.2.1 27 = .ok (.iload_n 1, 1) := by decide +kernel
theorem d_S_takeHole_28 : decode M_S_takeHole.2.1 28 = .ok (.invokestatic 75, 3) := by decide +kernel
theorem d_S_takeHole_31 : decode M_S_takeHole.2.1 31 = .ok (.iload_n 3, 1) := by decide +kernel
theorem d_S_takeHole_32 : decode M_S_takeHole.2.1 32 = .ok (.invokevirtual 79, 3) := by decide +kernel
theorem d_S_takeHole_35 : decode M_S_takeHole.2.1 35 = .ok (.aload_n 0, 1) := by decide +kernel
theorem d_S_takeHole_36 : decode M_S_takeHole.2.1 36 = .ok (.iload_n 2, 1) := by decide +kernel
theorem d_S_takeHole_37 : decode M_S_takeHole.2.1 37 = .ok (.putfield 32, 3) := by decide +kernel
theorem d_S_takeHole_40 : decode M_S_takeHole.2.1 40 = .ok (.aload_n 0, 1) := by decide +kernel
theorem d_S_takeHole_41 : decode M_S_takeHole.2.1 41 = .ok (.aload_n 0, 1) := by decide +kernel
theorem d_S_takeHole_42 : decode M_S_takeHole.2.1 42 = .ok (.getfield 26, 3) := by decide +kernel
theorem d_S_takeHole_45 : decode M_S_takeHole.2.1 45 = .ok (.putfield 63, 3) := by decide +kernel
theorem d_S_takeHole_48 : decode M_S_takeHole.2.1 48 = .ok (.aload_n 0, 1) := by decide +kernel
theorem d_S_takeHole_49 : decode M_S_takeHole.2.1 49 = .ok (.iload_n 3, 1) := by decide +kernel
theorem d_S_takeHole_50 : decode M_S_takeHole.2.1 50 = .ok (.putfield 53, 3) := by decide +kernel
theorem d_S_takeHole_53 : decode M_S_takeHole.2.1 53 = .ok (.return_, 1) := by decide +kernel
theorem d_S_isWhole_0 : decode M_S_isWhole.2.1 0 = .ok (.aload_n 0, 1) := by decide +kernel
theorem d_S_isWhole_1 : decode M_S_isWhole.2.1 1 = .ok (.getfield 26, 3) := by decide +kernel
theorem d_S_isWhole_4 : decode M_S_isWhole.2.1 4 = .ok (.ifCond .le 14, 3) := by decide +kernel
theorem d_S_isWhole_7 : decode M_S_isWhole.2.1 7 = .ok (.aload_n 0, 1) := by decide +kernel
theorem d_S_isWhole_8 : decode M_S_isWhole.2.1 8 = .ok (.invokevirtual 42, 3) := by decide +kernel
theorem d_S_isWhole_11 : decode M_S_isWhole.2.1 11 = .ok (.ifCond .ne 7, 3) := by decide +kernel
theorem d_S_isWhole_14 : decode M_S_isWhole.2.1 14 = .ok (.iconst 1, 1) := by decide +kernel
theorem d_S_isWhole_15 : decode M_S_isWhole.2.1 15 = .ok (.goto 4, 3) := by decide +kernel
theorem d_S_isWhole_18 : decode M_S_isWhole.2.1 18 = .ok (.iconst 0, 1) := by decide +kernel
theorem d_S_isWhole_19 : decode M_S_isWhole.2.1 19 = .ok (.ireturn, 1) := by decide +kernel
end
section
theorem d_U_init_0 : decode M_U_init.2.1 0 = .ok (.aload_n 0, 1) := by decide +kernel
theorem d_U_init_1 : decode M_U_init.2.1 1 = .ok (.invokespecial 3, 3) := by decide +kernel
theorem d_U_init_4 : decode M_U_init.2.1 4 = .ok (.aload_n 0, 1) := by decide +kernel
theorem d_U_init_5 : decode M_U_init.2.1 5 = .ok (.bipush 64, 2) := by decide +kernel
theorem d_U_init_7 : decode M_U_init.2.1 7 = .ok (.newarray .int, 2) := by decide +kernel
theorem d_U_init_9 : decode M_U_init.2.1 9 = .ok (.putfield 9, 3) := by decide +kernel
theorem d_U_init_12 : decode M_U_init.2.1 12 = .ok (.aload_n 0, 1) := by decide +kernel
theorem d_U_init_13 : decode M_U_init.2.1 13 = .ok (.bipush 64, 2) := by decide +kernel
theorem d_U_init_15 : decode M_U_init.2.1 15 = .ok (.newarray .int, 2) := by decide +kernel
theorem d_U_init_17 : decode M_U_init.2.1 17 = .ok (.putfield 15, 3) := by decide +kernel
theorem d_U_init_20 : decode M_U_init.2.1 20 = .ok (.aload_n 0, 1) := by decide +kernel
theorem d_U_init_21 : decode M_U_init.2.1 21 = .ok (.bipush 64, 2) := by decide +kernel
theorem d_U_init_23 : decode M_U_init.2.1 23 = .ok (.newarray .int, 2) := by decide +kernel
theorem d_U_init_25 : decode M_U_init.2.1 25 = .ok (.putfield 18, 3) := by decide +kernel
theorem d_U_init_28 : decode M_U_init.2.1 28 = .ok (.aload_n 0, 1) := by decide +kernel
theorem d_U_init_29 : decode M_U_init.2.1 29 = .ok (.sipush 256, 3) := by decide +kernel
theorem d_U_init_32 : decode M_U_init.2.1 32 = .ok (.newarray .int, 2) := by decide +kernel
theorem d_U_init_34 : decode M_U_init.2.1 34 = .ok (.putfield 21, 3) := by decide +kernel
theorem d_U_init_37 : decode M_U_init.2.1 37 = .ok (.aload_n 0, 1) := by decide +kernel
theorem d_U_init_38 : decode M_U_init.2.1 38 = .ok (.iconst 4, 1) := by decide +kernel
theorem d_U_init_39 : decode M_U_init.2.1 39 = .ok (.newarray .int, 2) := by decide +kernel
theorem d_U_init_41 : decode M_U_init.2.1 41 = .ok (.putfield 24, 3) := by decide +kernel
theorem d_U_init_44 : decode M_U_init.2.1 44 = .ok (.aload_n 0, 1) := by decide +kernel
theorem d_U_init_45 : decode M_U_init.2.1 45 = .ok (.aload_n 1, 1) := by decide +kernel
theorem d_U_init_46 : decode M_U_init.2.1 46 = .ok (.putfield 27, 3) := by decide +kernel
theorem d_U_init_49 : decode M_U_init.2.1 49 = .ok (.aload_n 0, 1) := by decide +kernel
theorem d_U_init_50 : decode M_U_init.2.1 50 = .ok (.aload_n 2, 1) := by decide +kernel
theorem d_U_init_51 : decode M_U_init.2.1 51 = .ok (.putfield 31, 3) := by decide +kernel
theorem d_U_init_54 : decode M_U_init.2.1 54 = .ok (.return_, 1) := by decide +kernel
theorem d_U_startAt_0 : decode M_U_startAt.2.1 0 = .ok (.aload_n 0, 1) := by decide +kernel
theorem d_U_startAt_1 : decode M_U_startAt.2.1 1 = .ok (.iconst 0, 1) := by decide +kernel
theorem d_U_startAt_2 : decode M_U_startAt.2.1 2 = .ok (.putfield 35, 3) := by decide +kernel
theorem d_U_startAt_5 : decode M_U_startAt.2.1 5 = .ok (.aload_n 0, 1) := by decide +kernel
theorem d_U_startAt_6 : decode M_U_startAt.2.1 6 = .ok (.getfield 9, 3) := by decide +kernel
theorem d_U_startAt_9 : decode M_U_startAt.2.1 9 = .ok (.iconst 0, 1) := by decide +kernel
theorem d_U_startAt_10 : decode M_U_startAt.2.1 10 = .ok (.iload_n 1, 1) := by decide +kernel
theorem d_U_startAt_11 : decode M_U_startAt.2.1 11 = .ok (.invokestatic 39, 3) := by decide +kernel
theorem d_U_startAt_14 : decode M_U_startAt.2.1 14 = .ok (.aload_n 0, 1) := by decide +kernel
theorem d_U_startAt_15 : decode M_U_startAt.2.1 15 = .ok (.getfield 15, 3) := by decide +kernel
theorem d_U_startAt_18 : decode M_U_startAt.2.1 18 = .ok (.iconst 0, 1) := by decide +kernel
theorem d_U_startAt_19 : decode M_U_startAt.2.1 19 = .ok (.iload_n 2, 1) := by decide +kernel
theorem d_U_startAt_20 : decode M_U_startAt.2.1 20 = .ok (.invokestatic 39, 3) := by decide +kernel
theorem d_U_startAt_23 : decode M_U_startAt.2.1 23 = .ok (.aload_n 0, 1) := by decide +kernel
theorem d_U_startAt_24 : decode M_U_startAt.2.1 24 = .ok (.getfield 18, 3) := by decide +kernel
theorem d_U_startAt_27 : decode M_U_startAt.2.1 27 = .ok (.iconst 0, 1) := by decide +kernel
theorem d_U_startAt_28 : decode M_U_startAt.2.1 28 = .ok (.iconst 0, 1) := by decide +kernel
theorem d_U_startAt_29 : decode M_U_startAt.2.1 29 = .ok (.invokestatic 39, 3) := by decide +kernel
theorem d_U_startAt_32 : decode M_U_startAt.2.1 32 = .ok (.return_, 1) := by decide +kernel
theorem d_U_advance_0 : decode M_U_advance.2.1 0 = .ok (.iconst 0, 1) := by decide +kernel
theorem d_U_advance_1 : decode M_U_advance.2.1 1 = .ok (.istore_n 1, 1) := by decide +kernel
theorem d_U_advance_2 : decode M_U_advance.2.1 2 = .ok (.iload_n 1, 1) := by decide +kernel
theorem d_U_advance_3 : decode M_U_advance.2.1 3 = .ok (.ldc 59, 2) := by decide +kernel
theorem d_U_advance_5 : decode M_U_advance.2.1 5 = .ok (.if_icmp .ge 249, 3) := by decide +kernel
theorem d_U_advance_8 : decode M_U_advance.2.1 8 = .ok (.aload_n 0, 1) := by decide +kernel
theorem d_U_advance_9 : decode M_U_advance.2.1 9 = .ok (.invokevirtual 60, 3) := by decide +kernel
theorem d_U_advance_12 : decode M_U_advance.2.1 12 = .ok (.aload_n 0, 1) := by decide +kernel
theorem d_U_advance_13 : decode M_U_advance.2.1 13 = .ok (.getfield 9, 3) := by decide +kernel
theorem d_U_advance_16 : decode M_U_advance.2.1 16 = .ok (.aload_n 0, 1) := by decide +kernel
theorem d_U_advance_17 : decode M_U_advance.2.1 17 = .ok (.getfield 35, 3) := by decide +kernel
theorem d_U_advance_20 : decode M_U_advance.2.1 20 = .ok (.invokestatic 43, 3) := by decide +kernel
theorem d_U_advance_23 : decode M_U_advance.2.1 23 = .ok (.istore_n 2, 1) := by decide +kernel
theorem d_U_advance_24 : decode M_U_advance.2.1 24 = .ok (.iload_n 2, 1) := by decide +kernel
theorem d_U_advance_25 : decode M_U_advance.2.1 25 = .ok (.aload_n 0, 1) := by decide +kernel
theorem d_U_advance_26 : decode M_U_advance.2.1 26 = .ok (.getfield 15, 3) := by decide +kernel
theorem d_U_advance_29 : decode M_U_advance.2.1 29 = .ok (.aload_n 0, 1) := by decide +kernel
theorem d_U_advance_30 : decode M_U_advance.2.1 30 = .ok (.getfield 35, 3) := by decide +kernel
theorem d_U_advance_33 : decode M_U_advance.2.1 33 = .ok (.invokestatic 43, 3) := by decide +kernel
theorem d_U_advance_36 : decode M_U_advance.2.1 36 = .ok (.if_icmp .lt 5, 3) := by decide +kernel
theorem d_U_advance_39 : decode M_U_advance.2.1 39 = .ok (.iconst 0, 1) := by decide +kernel
theorem d_U_advance_40 : decode M_U_advance.2.1 40 = .ok (.ireturn, 1) := by decide +kernel
theorem d_U_advance_41 : decode M_U_advance.2.1 41 = .ok (.aload_n 0, 1) := by decide +kernel
theorem d_U_advance_42 : decode M_U_advance.2.1 42 = .ok (.getfield 27, 3) := by decide +kernel
theorem d_U_advance_45 : decode M_U_advance.2.1 45 = .ok (.iload_n 2, 1) := by decide +kernel
theorem d_U_advance_46 : decode M_U_advance.2.1 46 = .ok (.invokevirtual 63, 3) := by decide +kernel
theorem d_U_advance_49 : decode M_U_advance.2.1 49 = .ok (.istore_n 3, 1) := by decide +kernel
theorem d_U_advance_50 : decode M_U_advance.2.1 50 = .ok (.aload_n 0, 1) := by decide +kernel
theorem d_U_advance_51 : decode M_U_advance.2.1 51 = .ok (.aload_n 0, 1) := by decide +kernel
theorem d_U_advance_52 : decode M_U_advance.2.1 52 = .ok (.getfield 27, 3) := by decide +kernel
theorem d_U_advance_55 : decode M_U_advance.2.1 55 = .ok (.iload_n 2, 1) := by decide +kernel
theorem d_U_advance_56 : decode M_U_advance.2.1 56 = .ok (.invokevirtual 69, 3) := by decide +kernel
theorem d_U_advance_59 : decode M_U_advance.2.1 59 = .ok (.invokestatic 72, 3) := by decide +kernel
theorem d_U_advance_62 : decode M_U_advance.2.1 62 = .ok (.putfield 47, 3) := by decide +kernel
theorem d_U_advance_65 : decode M_U_advance.2.1 65 = .ok (.aload_n 0, 1) := by decide +kernel
theorem d_U_advance_66 : decode M_U_advance.2.1 66 = .ok (.aload_n 0, 1) := by decide +kernel
theorem d_U_advance_67 : decode M_U_advance.2.1 67 = .ok (.getfield 27, 3) := by decide +kernel
theorem d_U_advance_70 : decode M_U_advance.2.1 70 = .ok (.iload_n 2, 1) := by decide +kernel
theorem d_U_advance_71 : decode M_U_advance.2.1 71 = .ok (.invokevirtual 69, 3) := by decide +kernel
theorem d_U_advance_74 : decode M_U_advance.2.1 74 = .ok (.invokestatic 75, 3) := by decide +kernel
theorem d_U_advance_77 : decode M_U_advance.2.1 77 = .ok (.putfield 50, 3) := by decide +kernel
theorem d_U_advance_80 : decode M_U_advance.2.1 80 = .ok (.aload_n 0, 1) := by decide +kernel
theorem d_U_advance_81 : decode M_U_advance.2.1 81 = .ok (.aload_n 0, 1) := by decide +kernel
theorem d_U_advance_82 : decode M_U_advance.2.1 82 = .ok (.getfield 18, 3) := by decide +kernel
theorem d_U_advance_85 : decode M_U_advance.2.1 85 = .ok (.aload_n 0, 1) := by decide +kernel
theorem d_U_advance_86 : decode M_U_advance.2.1 86 = .ok (.getfield 35, 3) := by decide +kernel
theorem d_U_advance_89 : decode M_U_advance.2.1 89 = .ok (.invokestatic 43, 3) := by decide +kernel
theorem d_U_advance_92 : decode M_U_advance.2.1 92 = .ok (.iload_n 3, 1) := by decide +kernel
theorem d_U_advance_93 : decode M_U_advance.2.1 93 = .ok (.iadd, 1) := by decide +kernel
theorem d_U_advance_94 : decode M_U_advance.2.1 94 = .ok (.putfield 53, 3) := by decide +kernel
theorem d_U_advance_97 : decode M_U_advance.2.1 97 = .ok (.aload_n 0, 1) := by decide +kernel
theorem d_U_advance_98 : decode M_U_advance.2.1 98 = .ok (.aload_n 0, 1) := by decide +kernel
theorem d_U_advance_99 : decode M_U_advance.2.1 99 = .ok (.getfield 47, 3) := by decide +kernel
theorem d_U_advance_102 : decode M_U_advance.2.1 102 = .ok (.iconst 2, 1) := by decide +kernel
theorem d_U_advance_103 : decode M_U_advance.2.1 103 = .ok (.if_icmp .ne 17, 3) := by decide +kernel
theorem d_U_advance_106 : decode M_U_advance.2.1 106 = .ok (.aload_n 0, 1) := by decide +kernel
theorem d_U_advance_107 : decode M_U_advance.2.1 107 = .ok (.getfield 31, 3) := by decide +kernel
theorem d_U_advance_110 : decode M_U_advance.2.1 110 = .ok (.aload_n 0, 1) := by decide +kernel
theorem d_U_advance_111 : decode M_U_advance.2.1 111 = .ok (.getfield 50, 3) := by decide +kernel
theorem d_U_advance_114 : decode M_U_advance.2.1 114 = .ok (.invokevirtual 78, 3) := by decide +kernel
theorem d_U_advance_117 : decode M_U_advance.2.1 117 = .ok (.goto 4, 3) := by decide +kernel
theorem d_U_advance_120 : decode M_U_advance.2.1 120 = .ok (.iconst 0, 1) := by decide +kernel
theorem d_U_advance_121 : decode M_U_advance.2.1 121 = .ok (.putfield 56, 3) := by decide +kernel
theorem d_U_advance_124 : decode M_U_advance.2.1 124 = .ok (.aload_n 0, 1) := by decide +kernel
theorem d_U_advance_125 : decode M_U_advance.2.1 125 = .ok (.getfield 9, 3) := by decide +kernel
theorem d_U_advance_128 : decode M_U_advance.2.1 128 = .ok (.aload_n 0, 1) := by decide +kernel
theorem d_U_advance_129 : decode M_U_advance.2.1 129 = .ok (.getfield 35, 3) := by decide +kernel
theorem d_U_advance_132 : decode M_U_advance.2.1 132 = .ok (.iload_n 2, 1) := by decide +kernel
theorem d_U_advance_133 : decode M_U_advance.2.1 133 = .ok (.iconst 1, 1) := by decide +kernel
theorem d_U_advance_134 : decode M_U_advance.2.1 134 = .ok (.iadd, 1) := by decide +kernel
theorem d_U_advance_135 : decode M_U_advance.2.1 135 = .ok (.aload_n 0, 1) := by decide +kernel
theorem d_U_advance_136 : decode M_U_advance.2.1 136 = .ok (.getfield 56, 3) := by decide +kernel
theorem d_U_advance_139 : decode M_U_advance.2.1 139 = .ok (.iadd, 1) := by decide +kernel
theorem d_U_advance_140 : decode M_U_advance.2.1 140 = .ok (.invokestatic 39, 3) := by decide +kernel
theorem d_U_advance_143 : decode M_U_advance.2.1 143 = .ok (.aload_n 0, 1) := by decide +kernel
theorem d_U_advance_144 : decode M_U_advance.2.1 144 = .ok (.getfield 47, 3) := by decide +kernel
theorem d_U_advance_147 : decode M_U_advance.2.1 147 = .ok (.ifCond .ne 16, 3) := by decide +kernel
theorem d_U_advance_150 : decode M_U_advance.2.1 150 = .ok (.aload_n 0, 1) := by decide +kernel
theorem d_U_advance_151 : decode M_U_advance.2.1 151 = .ok (.aload_n 0, 1) := by decide +kernel
theorem d_U_advance_152 : decode M_U_advance.2.1 152 = .ok (.aload_n 0, 1) := by decide +kernel
theorem d_U_advance_153 : decode M_U_advance.2.1 153 = .ok (.getfield 50, 3) := by decide +kernel
theorem d_U_advance_156 : decode M_U_advance.2.1 156 = .ok (.iload_n 3, 1) := by decide +kernel
theorem d_U_advance_157 : decode M_U_advance.2.1 157 = .ok (.invokevirtual 83, 3) := by decide +kernel
theorem d_U_advance_160 : decode M_U_advance.2.1 160 = .ok (.putfield 50, 3) := by decide +kernel
theorem d_U_advance_163 : decode M_U_advance.2.1 163 = .ok (.iconst 0, 1) := by decide +kernel
theorem d_U_advance_164 : decode M_U_advance.2.1 164 = .ok (.istore 4, 2) := by decide +kernel
theorem d_U_advance_166 : decode M_U_advance.2.1 166 = .ok (.iload 4, 2) := by decide +kernel
theorem d_U_advance_168 : decode M_U_advance.2.1 168 = .ok (.aload_n 0, 1) := by decide +kernel
theorem d_U_advance_169 : decode M_U_advance.2.1 169 = .ok (.getfield 56, 3) := by decide +kernel
theorem d_U_advance_172 : decode M_U_advance.2.1 172 = .ok (.if_icmp .ge 43, 3) := by decide +kernel
theorem d_U_advance_175 : decode M_U_advance.2.1 175 = .ok (.aload_n 0, 1) := by decide +kernel
theorem d_U_advance_176 : decode M_U_advance.2.1 176 = .ok (.getfield 27, 3) := by decide +kernel
theorem d_U_advance_179 : decode M_U_advance.2.1 179 = .ok (.iload_n 2, 1) := by decide +kernel
theorem d_U_advance_180 : decode M_U_advance.2.1 180 = .ok (.iconst 1, 1) := by decide +kernel
theorem d_U_advance_181 : decode M_U_advance.2.1 181 = .ok (.iadd, 1) := by decide +kernel
theorem d_U_advance_182 : decode M_U_advance.2.1 182 = .ok (.iload 4, 2) := by decide +kernel
theorem d_U_advance_184 : decode M_U_advance.2.1 184 = .ok (.iadd, 1) := by decide +kernel
theorem d_U_advance_185 : decode M_U_advance.2.1 185 = .ok (.invokevirtual 69, 3) := by decide +kernel
theorem d_U_advance_188 : decode M_U_advance.2.1 188 = .ok (.invokestatic 75, 3) := by decide +kernel
theorem d_U_advance_191 : decode M_U_advance.2.1 191 = .ok (.istore 5, 2) := by decide +kernel
theorem d_U_advance_193 : decode M_U_advance.2.1 193 = .ok (.aload_n 0, 1) := by decide +kernel
theorem d_U_advance_194 : decode M_U_advance.2.1 194 = .ok (.getfield 24, 3) := by decide +kernel
theorem d_U_advance_197 : decode M_U_advance.2.1 197 = .ok (.iload 4, 2) := by decide +kernel
theorem d_U_advance_199 : decode M_U_advance.2.1 199 = .ok (.aload_n 0, 1) := by decide +kernel
theorem d_U_advance_200 : decode M_U_advance.2.1 200 = .ok (.iload 5, 2) := by decide +kernel
theorem d_U_advance_202 : decode M_U_advance.2.1 202 = .ok (.iload_n 3, 1) := by decide +kernel
theorem d_U_advance_203 : decode M_U_advance.2.1 203 = .ok (.invokevirtual 83, 3) := by decide +kernel
theorem d_U_advance_206 : decode M_U_advance.2.1 206 = .ok (.invokestatic 39, 3) := by decide +kernel
theorem d_U_advance_209 : decode M_U_advance.2.1 209 = .ok (.iinc 4 1, 3) := by decide +kernel
theorem d_U_advance_212 : decode M_U_advance.2.1 212 = .ok (.goto (-46), 3) := by decide +kernel
theorem d_U_advance_215 : decode M_U_advance.2.1 215 = .ok (.aload_n 0, 1) := by decide +kernel
theorem d_U_advance_216 : decode M_U_advance.2.1 216 = .ok (.getfield 47, 3) := by decide +kernel
theorem d_U_advance_219 : decode M_U_advance.2.1 219 = .ok (.iconst 2, 1) := by decide +kernel
theorem d_U_advance_220 : decode M_U_advance.2.1 220 = .ok (.if_icmp .ne 17, 3) := by decide +kernel
theorem d_U_advance_223 : decode M_U_advance.2.1 223 = .ok (.aload_n 0, 1) := by decide +kernel
theorem d_U_advance_224 : decode M_U_advance.2.1 224 = .ok (.getfield 31, 3) := by decide +kernel
theorem d_U_advance_227 : decode M_U_advance.2.1 227 = .ok (.aload_n 0, 1) := by decide +kernel
theorem d_U_advance_228 : decode M_U_advance.2.1 228 = .ok (.getfield 50, 3) := by decide +kernel
theorem d_U_advance_231 : decode M_U_advance.2.1 231 = .ok (.invokevirtual 87, 3) := by decide +kernel
theorem d_U_advance_234 : decode M_U_advance.2.1 234 = .ok (.ifCond .eq 5, 3) := by decide +kernel
theorem d_U_advance_237 : decode M_U_advance.2.1 237 = .ok (.iconst 1, 1) := by decide +kernel
theorem d_U_advance_238 : decode M_U_advance.2.1 238 = .ok (.ireturn, 1) := by decide +kernel
theorem d_U_advance_239 : decode M_U_advance.2.1 239 = .ok (.aload_n 0, 1) := by decide +kernel
theorem d_U_advance_240 : decode M_U_advance.2.1 240 = .ok (.invokevirtual 91, 3) := by decide +kernel
theorem d_U_advance_243 : decode M_U_advance.2.1 243 = .ok (.ifCond .ne 5, 3) := by decide +kernel
theorem d_U_advance_246 : decode M_U_advance.2.1 246 = .ok (.iconst 0, 1) := by decide +kernel
theorem d_U_advance_247 : decode M_U_advance.2.1 247 = .ok (.ireturn, 1) := by decide +kernel
theorem d_U_advance_248 : decode M_U_advance.2.1 248 = .ok (.iinc 1 1, 3) := by decide +kernel
theorem d_U_advance_251 : decode M_U_advance.2.1 251 = .ok (.goto (-249), 3) := by decide +kernel
theorem d_U_advance_254 : decode M_U_advance.2.1 254 = .ok (.iconst 0, 1) := by decide +kernel
theorem d_U_advance_255 : decode M_U_advance.2.1 255 = .ok (.ireturn, 1) := by decide +kernel
theorem d_U_leaveEnded_0 : decode M_U_leaveEnded.2.1 0 = .ok (.aload_n 0, 1) := by decide +kernel
theorem d_U_leaveEnded_1 : decode M_U_leaveEnded.2.1 1 = .ok (.getfield 35, 3) := by decide +kernel
theorem d_U_leaveEnded_4 : decode M_U_leaveEnded.2.1 4 = .ok (.ifCond .le 41, 3) := by decide +kernel
theorem d_U_leaveEnded_7 : decode M_U_leaveEnded.2.1 7 = .ok (.aload_n 0, 1) := by decide +kernel
theorem d_U_leaveEnded_8 : decode M_U_leaveEnded.2.1 8 = .ok (.getfield 9, 3) := by decide +kernel
theorem d_U_leaveEnded_11 : decode M_U_leaveEnded.2.1 11 = .ok (.aload_n 0, 1) := by decide +kernel
theorem d_U_leaveEnded_12 : decode M_U_leaveEnded.2.1 12 = .ok (.getfield 35, 3) := by decide +kernel
theorem d_U_leaveEnded_15 : decode M_U_leaveEnded.2.1 15 = .ok (.invokestatic 43, 3) := by decide +kernel
theorem d_U_leaveEnded_18 : decode M_U_leaveEnded.2.1 18 = .ok (.aload_n 0, 1) := by decide +kernel
theorem d_U_leaveEnded_19 : decode M_U_leaveEnded.2.1 19 = .ok (.getfield 15, 3) := by decide +kernel
theorem d_U_leaveEnded_22 : decode M_U_leaveEnded.2.1 22 = .ok (.aload_n 0, 1) := by decide +kernel
theorem d_U_leaveEnded_23 : decode M_U_leaveEnded.2.1 23 = .ok (.getfield 35, 3) := by decide +kernel
theorem d_U_leaveEnded_26 : decode M_U_leaveEnded.2.1 26 = .ok (.invokestatic 43, 3) := by decide +kernel
theorem d_U_leaveEnded_29 : decode M_U_leaveEnded.2.1 29 = .ok (.if_icmp .lt 16, 3) := by decide +kernel
theorem d_U_leaveEnded_32 : decode M_U_leaveEnded.2.1 32 = .ok (.aload_n 0, 1) := by decide +kernel
theorem d_U_leaveEnded_33 : decode M_U_leaveEnded.2.1 33 = .ok (.dup, 1) := by decide +kernel
theorem d_U_leaveEnded_34 : decode M_U_leaveEnded.2.1 34 = .ok (.getfield 35, 3) := by decide +kernel
theorem d_U_leaveEnded_37 : decode M_U_leaveEnded.2.1 37 = .ok (.iconst 1, 1) := by decide +kernel
theorem d_U_leaveEnded_38 : decode M_U_leaveEnded.2.1 38 = .ok (.isub, 1) := by decide +kernel
theorem d_U_leaveEnded_39 : decode M_U_leaveEnded.2.1 39 = .ok (.putfield 35, 3) := by decide +kernel
theorem d_U_leaveEnded_42 : decode M_U_leaveEnded.2.1 42 = .ok (.goto (-42), 3) := by decide +kernel
theorem d_U_leaveEnded_45 : decode M_U_leaveEnded.2.1 45 = .ok (.return_, 1) := by decide +kernel
theorem d_U_outside_0 : decode M_U_outside.2.1 0 = .ok (.aload_n 0, 1) := by decide +kernel
theorem d_U_outside_1 : decode M_U_outside.2.1 1 = .ok (.getfield 35, 3) := by decide +kernel
theorem d_U_outside_4 : decode M_U_outside.2.1 4 = .ok (.ifCond .eq 8, 3) := by decide +kernel
theorem d_U_outside_7 : decode M_U_outside.2.1 7 = .ok (.iload_n 1, 1) := by decide +kernel
theorem d_U_outside_8 : decode M_U_outside.2.1 8 = .ok (.iload_n 2, 1) := by decide +kernel
theorem d_U_outside_9 : decode M_U_outside.2.1 9 = .ok (.if_icmp .ge 5, 3) := by decide +kernel
theorem d_U_outside_12 : decode M_U_outside.2.1 12 = .ok (.iload_n 1, 1) := by decide +kernel
theorem d_U_outside_13 : decode M_U_outside.2.1 13 = .ok (.ireturn, 1) := by decide +kernel
theorem d_U_outside_14 : decode M_U_outside.2.1 14 = .ok (.iload_n 1, 1) := by decide +kernel
theorem d_U_outside_15 : decode M_U_outside.2.1 15 = .ok (.iload_n 2, 1) := by decide +kernel
theorem d_U_outside_16 : decode M_U_outside.2.1 16 = .ok (.isub, 1) := by decide +kernel
theorem d_U_outside_17 : decode M_U_outside.2.1 17 = .ok (.istore_n 3, 1) := by decide +kernel
theorem d_U_outside_18 : decode M_U_outside.2.1 18 = .ok (.aload_n 0, 1) := by decide +kernel
theorem d_U_outside_19 : decode M_U_outside.2.1 19 = .ok (.getfield 21, 3) := by decide +kernel
theorem d_U_outside_22 : decode M_U_outside.2.1 22 = .ok (.aload_n 0, 1) := by decide +kernel
theorem d_U_outside_23 : decode M_U_outside.2.1 23 = .ok (.getfield 35, 3) := by decide +kernel
theorem d_U_outside_26 : decode M_U_outside.2.1 26 = .ok (.iconst 4, 1) := by decide +kernel
theorem d_U_outside_27 : decode M_U_outside.2.1 27 = .ok (.imul, 1) := by decide +kernel
theorem d_U_outside_28 : decode M_U_outside.2.1 28 = .ok (.iload_n 3, 1) := by decide +kernel
theorem d_U_outside_29 : decode M_U_outside.2.1 29 = .ok (.iadd, 1) := by decide +kernel
theorem d_U_outside_30 : decode M_U_outside.2.1 30 = .ok (.invokestatic 43, 3) := by decide +kernel
theorem d_U_outside_33 : decode M_U_outside.2.1 33 = .ok (.iload_n 2, 1) := by decide +kernel
theorem d_U_outside_34 : decode M_U_outside.2.1 34 = .ok (.iadd, 1) := by decide +kernel
theorem d_U_outside_35 : decode M_U_outside.2.1 35 = .ok (.ireturn, 1) := by decide +kernel
theorem d_U_enterFilling_0 : decode M_U_enterFilling.2.1 0 = .ok (.aload_n 0, 1) := by decide +kernel
theorem d_U_enterFilling_1 : decode M_U_enterFilling.2.1 1 = .ok (.invokevirtual 60, 3) := by decide +kernel
theorem d_U_enterFilling_4 : decode M_U_enterFilling.2.1 4 = .ok (.aload_n 0, 1) := by decide +kernel
theorem d_U_enterFilling_5 : decode M_U_enterFilling.2.1 5 = .ok (.getfield 35, 3) := by decide +kernel
theorem d_U_enterFilling_8 : decode M_U_enterFilling.2.1 8 = .ok (.iconst 1, 1) := by decide +kernel
theorem d_U_enterFilling_9 : decode M_U_enterFilling.2.1 9 = .ok (.iadd, 1) := by decide +kernel
theorem d_U_enterFilling_10 : decode M_U_enterFilling.2.1 10 = .ok (.bipush 64, 2) := by decide +kernel
theorem d_U_enterFilling_12 : decode M_U_enterFilling.2.1 12 = .ok (.if_icmp .lt 5, 3) := by decide +kernel
theorem d_U_enterFilling_15 : decode M_U_enterFilling.2.1 15 = .ok (.iconst 0, 1) := by decide +kernel
theorem d_U_enterFilling_16 : decode M_U_enterFilling.2.1 16 = .ok (.ireturn, 1) := by decide +kernel
theorem d_U_enterFilling_17 : decode M_U_enterFilling.2.1 17 = .ok (.aload_n 0, 1) := by decide +kernel
theorem d_U_enterFilling_18 : decode M_U_enterFilling.2.1 18 = .ok (.dup, 1) := by decide +kernel
theorem d_U_enterFilling_19 : decode M_U_enterFilling.2.1 19 = .ok (.getfield 35, 3) := by decide +kernel
theorem d_U_enterFilling_22 : decode M_U_enterFilling.2.1 22 = .ok (.iconst 1, 1) := by decide +kernel
theorem d_U_enterFilling_23 : decode M_U_enterFilling.2.1 23 = .ok (.iadd, 1) := by decide +kernel
theorem d_U_enterFilling_24 : decode M_U_enterFilling.2.1 24 = .ok (.putfield 35, 3) := by decide +kernel
theorem d_U_enterFilling_27 : decode M_U_enterFilling.2.1 27 = .ok (.aload_n 0, 1) := by decide +kernel
theorem d_U_enterFilling_28 : decode M_U_enterFilling.2.1 28 = .ok (.getfield 9, 3) := by decide +kernel
theorem d_U_enterFilling_31 : decode M_U_enterFilling.2.1 31 = .ok (.aload_n 0, 1) := by decide +kernel
theorem d_U_enterFilling_32 : decode M_U_enterFilling.2.1 32 = .ok (.getfield 35, 3) := by decide +kernel
theorem d_U_enterFilling_35 : decode M_U_enterFilling.2.1 35 = .ok (.aload_n 0, 1) := by decide +kernel
theorem d_U_enterFilling_36 : decode M_U_enterFilling.2.1 36 = .ok (.getfield 31, 3) := by decide +kernel
theorem d_U_enterFilling_39 : decode M_U_enterFilling.2.1 39 = .ok (.getfield 95, 3) := by decide +kernel
theorem d_U_enterFilling_42 : decode M_U_enterFilling.2.1 42 = .ok (.aload_n 0, 1) := by decide +kernel
theorem d_U_enterFilling_43 : decode M_U_enterFilling.2.1 43 = .ok (.getfield 50, 3) := by decide +kernel
theorem d_U_enterFilling_46 : decode M_U_enterFilling.2.1 46 = .ok (.invokestatic 43, 3) := by decide +kernel
theorem d_U_enterFilling_49 : decode M_U_enterFilling.2.1 49 = .ok (.invokestatic 39, 3) := by decide +kernel
theorem d_U_enterFilling_52 : decode M_U_enterFilling.2.1 52 = .ok (.aload_n 0, 1) := by decide +kernel
theorem d_U_enterFilling_53 : decode M_U_enterFilling.2.1 53 = .ok (.getfield 15, 3) := by decide +kernel
theorem d_U_enterFilling_56 : decode M_U_enterFilling.2.1 56 = .ok (.aload_n 0, 1) := by decide +kernel
theorem d_U_enterFilling_57 : decode M_U_enterFilling.2.1 57 = .ok (.getfield 35, 3) := by decide +kernel
theorem d_U_enterFilling_60 : decode M_U_enterFilling.2.1 60 = .ok (.aload_n 0, 1) := by decide +kernel
theorem d_U_enterFilling_61 : decode M_U_enterFilling.2.1 61 = .ok (.getfield 31, 3) := by decide +kernel
theorem d_U_enterFilling_64 : decode M_U_enterFilling.2.1 64 = .ok (.getfield 98, 3) := by decide +kernel
theorem d_U_enterFilling_67 : decode M_U_enterFilling.2.1 67 = .ok (.aload_n 0, 1) := by decide +kernel
theorem d_U_enterFilling_68 : decode M_U_enterFilling.2.1 68 = .ok (.getfield 50, 3) := by decide +kernel
theorem d_U_enterFilling_71 : decode M_U_enterFilling.2.1 71 = .ok (.invokestatic 43, 3) := by decide +kernel
theorem d_U_enterFilling_74 : decode M_U_enterFilling.2.1 74 = .ok (.invokestatic 39, 3) := by decide +kernel
theorem d_U_enterFilling_77 : decode M_U_enterFilling.2.1 77 = .ok (.aload_n 0, 1) := by decide +kernel
theorem d_U_enterFilling_78 : decode M_U_enterFilling.2.1 78 = .ok (.getfield 18, 3) := by decide +kernel
theorem d_U_enterFilling_81 : decode M_U_enterFilling.2.1 81 = .ok (.aload_n 0, 1) := by decide +kernel
theorem d_U_enterFilling_82 : decode M_U_enterFilling.2.1 82 = .ok (.getfield 35, 3) := by decide +kernel
theorem d_U_enterFilling_85 : decode M_U_enterFilling.2.1 85 = .ok (.aload_n 0, 1) := by decide +kernel
theorem d_U_enterFilling_86 : decode M_U_enterFilling.2.1 86 = .ok (.getfield 53, 3) := by decide +kernel
theorem d_U_enterFilling_89 : decode M_U_enterFilling.2.1 89 = .ok (.invokestatic 39, 3) := by decide +kernel
theorem d_U_enterFilling_92 : decode M_U_enterFilling.2.1 92 = .ok (.iconst 0, 1) := by decide +kernel
theorem d_U_enterFilling_93 : decode M_U_enterFilling.2.1 93 = .ok (.istore_n 1, 1) := by decide +kernel
theorem d_U_enterFilling_94 : decode M_U_enterFilling.2.1 94 = .ok (.iload_n 1, 1) := by decide +kernel
theorem d_U_enterFilling_95 : decode M_U_enterFilling.2.1 95 = .ok (.aload_n 0, 1) := by decide +kernel
theorem d_U_enterFilling_96 : decode M_U_enterFilling.2.1 96 = .ok (.getfield 56, 3) := by decide +kernel
theorem d_U_enterFilling_99 : decode M_U_enterFilling.2.1 99 = .ok (.if_icmp .ge 32, 3) := by decide +kernel
theorem d_U_enterFilling_102 : decode M_U_enterFilling.2.1 102 = .ok (.aload_n 0, 1) := by decide +kernel
theorem d_U_enterFilling_103 : decode M_U_enterFilling.2.1 103 = .ok (.getfield 21, 3) := by decide +kernel
theorem d_U_enterFilling_106 : decode M_U_enterFilling.2.1 106 = .ok (.aload_n 0, 1) := by decide +kernel
theorem d_U_enterFilling_107 : decode M_U_enterFilling.2.1 107 = .ok (.getfield 35, 3) := by decide +kernel
theorem d_U_enterFilling_110 : decode M_U_enterFilling.2.1 110 = .ok (.iconst 4, 1) := by decide +kernel
theorem d_U_enterFilling_111 : decode M_U_enterFilling.2.1 111 = .ok (.imul, 1) := by decide +kernel
theorem d_U_enterFilling_112 : decode M_U_enterFilling.2.1 112 = .ok (.iload_n 1, 1) := by decide +kernel
theorem d_U_enterFilling_113 : decode M_U_enterFilling.2.1 113 = .ok (.iadd, 1) := by decide +kernel
theorem d_U_enterFilling_114 : decode M_U_enterFilling.2.1 114 = .ok (.aload_n 0, 1) := by decide +kernel
theorem d_U_enterFilling_115 : decode M_U_enterFilling.2.1 115 = .ok (.getfield 24, 3) := by decide +kernel
theorem d_U_enterFilling_118 : decode M_U_enterFilling.2.1 118 = .ok (.iload_n 1, 1) := by decide +kernel
theorem d_U_enterFilling_119 : decode M_U_enterFilling.2.1 119 = .ok (.invokestatic 43, 3) := by decide +kernel
theorem d_U_enterFilling_122 : decode M_U_enterFilling.2.1 122 = .ok (.invokestatic 39, 3) := by decide +kernel
theorem d_U_enterFilling_125 : decode M_U_enterFilling.2.1 125 = .ok (.iinc 1 1, 3) := by decide +kernel
theorem d_U_enterFilling_128 : decode M_U_enterFilling.2.1 128 = .ok (.goto (-34), 3) := by decide +kernel
theorem d_U_enterFilling_131 : decode M_U_enterFilling.2.1 131 = .ok (.iconst 1, 1) := by decide +kernel
theorem d_U_enterFilling_132 : decode M_U_enterFilling.2.1 132 = .ok (.ireturn, 1) := by decide +kernel
theorem d_U_parameterFor_0 : decode M_U_parameterFor.2.1 0 = .ok (.iconst 0, 1) := by decide +kernel
theorem d_U_parameterFor_1 : decode M_U_parameterFor.2.1 1 = .ok (.istore_n 2, 1) := by decide +kernel
theorem d_U_parameterFor_2 : decode M_U_parameterFor.2.1 2 = .ok (.iload_n 2, 1) := by decide +kernel
theorem d_U_parameterFor_3 : decode M_U_parameterFor.2.1 3 = .ok (.aload_n 0, 1) := by decide +kernel
theorem d_U_parameterFor_4 : decode M_U_parameterFor.2.1 4 = .ok (.getfield 56, 3) := by decide +kernel
theorem d_U_parameterFor_7 : decode M_U_parameterFor.2.1 7 = .ok (.if_icmp .ge 23, 3) := by decide +kernel
theorem d_U_parameterFor_10 : decode M_U_parameterFor.2.1 10 = .ok (.aload_n 0, 1) := by decide +kernel
theorem d_U_parameterFor_11 : decode M_U_parameterFor.2.1 11 = .ok (.getfield 24, 3) := by decide +kernel
theorem d_U_parameterFor_14 : decode M_U_parameterFor.2.1 14 = .ok (.iload_n 2, 1) := by decide +kernel
theorem d_U_parameterFor_15 : decode M_U_parameterFor.2.1 15 = .ok (.invokestatic 43, 3) := by decide +kernel
theorem d_U_parameterFor_18 : decode M_U_parameterFor.2.1 18 = .ok (.iload_n 1, 1) := by decide +kernel
theorem d_U_parameterFor_19 : decode M_U_parameterFor.2.1 19 = .ok (.if_icmp .ne 5, 3) := by decide +kernel
theorem d_U_parameterFor_22 : decode M_U_parameterFor.2.1 22 = .ok (.iload_n 2, 1) := by decide +kernel
theorem d_U_parameterFor_23 : decode M_U_parameterFor.2.1 23 = .ok (.ireturn, 1) := by decide +kernel
theorem d_U_parameterFor_24 : decode M_U_parameterFor.2.1 24 = .ok (.iinc 2 1, 3) := by decide +kernel
theorem d_U_parameterFor_27 : decode M_U_parameterFor.2.1 27 = .ok (.goto (-25), 3) := by decide +kernel
theorem d_U_parameterFor_30 : decode M_U_parameterFor.2.1 30 = .ok (.iconst (-1), 1) := by decide +kernel
theorem d_U_parameterFor_31 : decode M_U_parameterFor.2.1 31 = .ok (.ireturn, 1) := by decide +kernel
theorem d_U_copyFrom_0 : decode M_U_copyFrom.2.1 0 = .ok (.aload_n 0, 1) := by decide +kernel
theorem d_U_copyFrom_1 : decode M_U_copyFrom.2.1 1 = .ok (.aload_n 1, 1) := by decide +kernel
theorem d_U_copyFrom_2 : decode M_U_copyFrom.2.1 2 = .ok (.getfield 35, 3) := by decide +kernel
theorem d_U_copyFrom_5 : decode M_U_copyFrom.2.1 5 = .ok (.putfield 35, 3) := by decide +kernel
theorem d_U_copyFrom_8 : decode M_U_copyFrom.2.1 8 = .ok (.iconst 0, 1) := by decide +kernel
theorem d_U_copyFrom_9 : decode M_U_copyFrom.2.1 9 = .ok (.istore_n 2, 1) := by decide +kernel
theorem d_U_copyFrom_10 : decode M_U_copyFrom.2.1 10 = .ok (.iload_n 2, 1) := by decide +kernel
theorem d_U_copyFrom_11 : decode M_U_copyFrom.2.1 11 = .ok (.aload_n 0, 1) := by decide +kernel
theorem d_U_copyFrom_12 : decode M_U_copyFrom.2.1 12 = .ok (.getfield 35, 3) := by decide +kernel
theorem d_U_copyFrom_15 : decode M_U_copyFrom.2.1 15 = .ok (.if_icmp .gt 57, 3) := by decide +kernel
theorem d_U_copyFrom_18 : decode M_U_copyFrom.2.1 18 = .ok (.aload_n 0, 1) := by decide +kernel
theorem d_U_copyFrom_19 : decode M_U_copyFrom.2.1 19 = .ok (.getfield 9, 3) := by decide +kernel
theorem d_U_copyFrom_22 : decode M_U_copyFrom.2.1 22 = .ok (.iload_n 2, 1) := by decide +kernel
theorem d_U_copyFrom_23 : decode M_U_copyFrom.2.1 23 = .ok (.aload_n 1, 1) := by decide +kernel
theorem d_U_copyFrom_24 : decode M_U_copyFrom.2.1 24 = .ok (.getfield 9, 3) := by decide +kernel
theorem d_U_copyFrom_27 : decode M_U_copyFrom.2.1 27 = .ok (.iload_n 2, 1) := by decide +kernel
theorem d_U_copyFrom_28 : decode M_U_copyFrom.2.1 28 = .ok (.invokestatic 43, 3) := by decide +kernel
theorem d_U_copyFrom_31 : decode M_U_copyFrom.2.1 31 = .ok (.invokestatic 39, 3) := by decide +kernel
theorem d_U_copyFrom_34 : decode M_U_copyFrom.2.1 34 = .ok (.aload_n 0, 1) := by decide +kernel
theorem d_U_copyFrom_35 : decode M_U_copyFrom.2.1 35 = .ok (.getfield 15, 3) := by decide +kernel
theorem d_U_copyFrom_38 : decode M_U_copyFrom.2.1 38 = .ok (.iload_n 2, 1) := by decide +kernel
theorem d_U_copyFrom_39 : decode M_U_copyFrom.2.1 39 = .ok (.aload_n 1, 1) := by decide +kernel
theorem d_U_copyFrom_40 : decode M_U_copyFrom.2.1 40 = .ok (.getfield 15, 3) := by decide +kernel
theorem d_U_copyFrom_43 : decode M_U_copyFrom.2.1 43 = .ok (.iload_n 2, 1) := by decide +kernel
theorem d_U_copyFrom_44 : decode M_U_copyFrom.2.1 44 = .ok (.invokestatic 43, 3) := by decide +kernel
theorem d_U_copyFrom_47 : decode M_U_copyFrom.2.1 47 = .ok (.invokestatic 39, 3) := by decide +kernel
theorem d_U_copyFrom_50 : decode M_U_copyFrom.2.1 50 = .ok (.aload_n 0, 1) := by decide +kernel
theorem d_U_copyFrom_51 : decode M_U_copyFrom.2.1 51 = .ok (.getfield 18, 3) := by decide +kernel
theorem d_U_copyFrom_54 : decode M_U_copyFrom.2.1 54 = .ok (.iload_n 2, 1) := by decide +kernel
theorem d_U_copyFrom_55 : decode M_U_copyFrom.2.1 55 = .ok (.aload_n 1, 1) := by decide +kernel
theorem d_U_copyFrom_56 : decode M_U_copyFrom.2.1 56 = .ok (.getfield 18, 3) := by decide +kernel
theorem d_U_copyFrom_59 : decode M_U_copyFrom.2.1 59 = .ok (.iload_n 2, 1) := by decide +kernel
theorem d_U_copyFrom_60 : decode M_U_copyFrom.2.1 60 = .ok (.invokestatic 43, 3) := by decide +kernel
theorem d_U_copyFrom_63 : decode M_U_copyFrom.2.1 63 = .ok (.invokestatic 39, 3) := by decide +kernel
theorem d_U_copyFrom_66 : decode M_U_copyFrom.2.1 66 = .ok (.iinc 2 1, 3) := by decide +kernel
theorem d_U_copyFrom_69 : decode M_U_copyFrom.2.1 69 = .ok (.goto (-59), 3) := by decide +kernel
theorem d_U_copyFrom_72 : decode M_U_copyFrom.2.1 72 = .ok (.iconst 0, 1) := by decide +kernel
theorem d_U_copyFrom_73 : decode M_U_copyFrom.2.1 73 = .ok (.istore_n 2, 1) := by decide +kernel
theorem d_U_copyFrom_74 : decode M_U_copyFrom.2.1 74 = .ok (.iload_n 2, 1) := by decide +kernel
theorem d_U_copyFrom_75 : decode M_U_copyFrom.2.1 75 = .ok (.aload_n 0, 1) := by decide +kernel
theorem d_U_copyFrom_76 : decode M_U_copyFrom.2.1 76 = .ok (.getfield 35, 3) := by decide +kernel
theorem d_U_copyFrom_79 : decode M_U_copyFrom.2.1 79 = .ok (.iconst 1, 1) := by decide +kernel
theorem d_U_copyFrom_80 : decode M_U_copyFrom.2.1 80 = .ok (.iadd, 1) := by decide +kernel
theorem d_U_copyFrom_81 : decode M_U_copyFrom.2.1 81 = .ok (.iconst 4, 1) := by decide +kernel
theorem d_U_copyFrom_82 : decode M_U_copyFrom.2.1 82 = .ok (.imul, 1) := by decide +kernel
theorem d_U_copyFrom_83 : decode M_U_copyFrom.2.1 83 = .ok (.if_icmp .ge 25, 3) := by decide +kernel
theorem d_U_copyFrom_86 : decode M_U_copyFrom.2.1 86 = .ok (.aload_n 0, 1) := by decide +kernel
theorem d_U_copyFrom_87 : decode M_U_copyFrom.2.1 87 = .ok (.getfield 21, 3) := by decide +kernel
theorem d_U_copyFrom_90 : decode M_U_copyFrom.2.1 90 = .ok (.iload_n 2, 1) := by decide +kernel
theorem d_U_copyFrom_91 : decode M_U_copyFrom.2.1 91 = .ok (.aload_n 1, 1) := by decide +kernel
theorem d_U_copyFrom_92 : decode M_U_copyFrom.2.1 92 = .ok (.getfield 21, 3) := by decide +kernel
theorem d_U_copyFrom_95 : decode M_U_copyFrom.2.1 95 = .ok (.iload_n 2, 1) := by decide +kernel
theorem d_U_copyFrom_96 : decode M_U_copyFrom.2.1 96 = .ok (.invokestatic 43, 3) := by decide +kernel
theorem d_U_copyFrom_99 : decode M_U_copyFrom.2.1 99 = .ok (.invokestatic 39, 3) := by decide +kernel
theorem d_U_copyFrom_102 : decode M_U_copyFrom.2.1 102 = .ok (.iinc 2 1, 3) := by decide +kernel
theorem d_U_copyFrom_105 : decode M_U_copyFrom.2.1 105 = .ok (.goto (-31), 3) := by decide +kernel
theorem d_U_copyFrom_108 : decode M_U_copyFrom.2.1 108 = .ok (.aload_n 0, 1) := by decide +kernel
theorem d_U_copyFrom_109 : decode M_U_copyFrom.2.1 109 = .ok (.aload_n 1, 1) := by decide +kernel
theorem d_U_copyFrom_110 : decode M_U_copyFrom.2.1 110 = .ok (.getfield 47, 3) := by decide +kernel
theorem d_U_copyFrom_113 : decode M_U_copyFrom.2.1 113 = .ok (.putfield 47, 3) := by decide +kernel
theorem d_U_copyFrom_116 : decode M_U_copyFrom.2.1 116 = .ok (.aload_n 0, 1) := by decide +kernel
theorem d_U_copyFrom_117 : decode M_U_copyFrom.2.1 117 = .ok (.aload_n 1, 1) := by decide +kernel
theorem d_U_copyFrom_118 : decode M_U_copyFrom.2.1 118 = .ok (.getfield 50, 3) := by decide +kernel
theorem d_U_copyFrom_121 : decode M_U_copyFrom.2.1 121 = .ok (.putfield 50, 3) := by decide +kernel
theorem d_U_copyFrom_124 : decode M_U_copyFrom.2.1 124 = .ok (.aload_n 0, 1) := by decide +kernel
theorem d_U_copyFrom_125 : decode M_U_copyFrom.2.1 125 = .ok (.aload_n 1, 1) := by decide +kernel
theorem d_U_copyFrom_126 : decode M_U_copyFrom.2.1 126 = .ok (.getfield 53, 3) := by decide +kernel
theorem d_U_copyFrom_129 : decode M_U_copyFrom.2.1 129 = .ok (.putfield 53, 3) := by decide +kernel
theorem d_U_copyFrom_132 : decode M_U_copyFrom.2.1 132 = .ok (.aload_n 0, 1) := by decide +kernel
theorem d_U_copyFrom_133 : decode M_U_copyFrom.2.1 133 = .ok (.aload_n 1, 1) := by decide +kernel
theorem d_U_copyFrom_134 : decode M_U_copyFrom.2.1 134 = .ok (.getfield 56, 3) := by decide +kernel
theorem d_U_copyFrom_137 : decode M_U_copyFrom.2.1 137 = .ok (.putfield 56, 3) := by decide +kernel
theorem d_U_copyFrom_140 : decode M_U_copyFrom.2.1 140 = .ok (.iconst 0, 1) := by decide +kernel
theorem d_U_copyFrom_141 : decode M_U_copyFrom.2.1 141 = .ok (.istore_n 2, 1) := by decide +kernel
theorem d_U_copyFrom_142 : decode M_U_copyFrom.2.1 142 = .ok (.iload_n 2, 1) := by decide +kernel
theorem d_U_copyFrom_143 : decode M_U_copyFrom.2.1 143 = .ok (.aload_n 0, 1) := by decide +kernel
theorem d_U_copyFrom_144 : decode M_U_copyFrom.2.1 144 = .ok (.getfield 56, 3) := by decide +kernel
theorem d_U_copyFrom_147 : decode M_U_copyFrom.2.1 147 = .ok (.if_icmp .ge 25, 3) := by decide +kernel
theorem d_U_copyFrom_150 : decode M_U_copyFrom.2.1 150 = .ok (.aload_n 0, 1) := by decide +kernel
theorem d_U_copyFrom_151 : decode M_U_copyFrom.2.1 151 = .ok (.getfield 24, 3) := by decide +kernel
theorem d_U_copyFrom_154 : decode M_U_copyFrom.2.1 154 = .ok (.iload_n 2, 1) := by decide +kernel
theorem d_U_copyFrom_155 : decode M_U_copyFrom.2.1 155 = .ok (.aload_n 1, 1) := by decide +kernel
theorem d_U_copyFrom_156 : decode M_U_copyFrom.2.1 156 = .ok (.getfield 24, 3) := by decide +kernel
theorem d_U_copyFrom_159 : decode M_U_copyFrom.2.1 159 = .ok (.iload_n 2, 1) := by decide +kernel
theorem d_U_copyFrom_160 : decode M_U_copyFrom.2.1 160 = .ok (.invokestatic 43, 3) := by decide +kernel
theorem d_U_copyFrom_163 : decode M_U_copyFrom.2.1 163 = .ok (.invokestatic 39, 3) := by decide +kernel
theorem d_U_copyFrom_166 : decode M_U_copyFrom.2.1 166 = .ok (.iinc 2 1, 3) := by decide +kernel
theorem d_U_copyFrom_169 : decode M_U_copyFrom.2.1 169 = .ok (.goto (-27), 3) := by decide +kernel
theorem d_U_copyFrom_172 : decode M_U_copyFrom.2.1 172 = .ok (.return_, 1) := by decide +kernel
theorem d_U_standsAs_0 : decode M_U_standsAs.2.1 0 = .ok (.aload_n 0, 1) := by decide +kernel
theorem d_U_standsAs_1 : decode M_U_standsAs.2.1 1 = .ok (.getfield 47, 3) := by decide +kernel
theorem d_U_standsAs_4 : decode M_U_standsAs.2.1 4 = .ok (.aload_n 1, 1) := by decide +kernel
theorem d_U_standsAs_5 : decode M_U_standsAs.2.1 5 = .ok (.getfield 47, 3) := by decide +kernel
theorem d_U_standsAs_8 : decode M_U_standsAs.2.1 8 = .ok (.if_icmp .ne 14, 3) := by decide +kernel
theorem d_U_standsAs_11 : decode M_U_standsAs.2.1 11 = .ok (.aload_n 0, 1) := by decide +kernel
theorem d_U_standsAs_12 : decode M_U_standsAs.2.1 12 = .ok (.getfield 50, 3) := by decide +kernel
theorem d_U_standsAs_15 : decode M_U_standsAs.2.1 15 = .ok (.aload_n 1, 1) := by decide +kernel
theorem d_U_standsAs_16 : decode M_U_standsAs.2.1 16 = .ok (.getfield 50, 3) := by decide +kernel
theorem d_U_standsAs_19 : decode M_U_standsAs.2.1 19 = .ok (.if_icmp .eq 5, 3) := by decide +kernel
theorem d_U_standsAs_22 : decode M_U_standsAs.2.1 22 = .ok (.iconst 0, 1) := by decide +kernel
theorem d_U_standsAs_23 : decode M_U_standsAs.2.1 23 = .ok (.ireturn, 1) := by decide +kernel
theorem d_U_standsAs_24 : decode M_U_standsAs.2.1 24 = .ok (.iconst 0, 1) := by decide +kernel
theorem d_U_standsAs_25 : decode M_U_standsAs.2.1 25 = .ok (.istore_n 2, 1) := by decide +kernel
theorem d_U_standsAs_26 : decode M_U_standsAs.2.1 26 = .ok (.iload_n 2, 1) := by decide +kernel
theorem d_U_standsAs_27 : decode M_U_standsAs.2.1 27 = .ok (.aload_n 0, 1) := by decide +kernel
theorem d_U_standsAs_28 : decode M_U_standsAs.2.1 28 = .ok (.getfield 56, 3) := by decide +kernel
theorem d_U_standsAs_31 : decode M_U_standsAs.2.1 31 = .ok (.if_icmp .ge 30, 3) := by decide +kernel
theorem d_U_standsAs_34 : decode M_U_standsAs.2.1 34 = .ok (.aload_n 0, 1) := by decide +kernel
theorem d_U_standsAs_35 : decode M_U_standsAs.2.1 35 = .ok (.getfield 24, 3) := by decide +kernel
theorem d_U_standsAs_38 : decode M_U_standsAs.2.1 38 = .ok (.iload_n 2, 1) := by decide +kernel
theorem d_U_standsAs_39 : decode M_U_standsAs.2.1 39 = .ok (.invokestatic 43, 3) := by decide +kernel
theorem d_U_standsAs_42 : decode M_U_standsAs.2.1 42 = .ok (.aload_n 1, 1) := by decide +kernel
theorem d_U_standsAs_43 : decode M_U_standsAs.2.1 43 = .ok (.getfield 24, 3) := by decide +kernel
theorem d_U_standsAs_46 : decode M_U_standsAs.2.1 46 = .ok (.iload_n 2, 1) := by decide +kernel
theorem d_U_standsAs_47 : decode M_U_standsAs.2.1 47 = .ok (.invokestatic 43, 3) := by decide +kernel
theorem d_U_standsAs_50 : decode M_U_standsAs.2.1 50 = .ok (.if_icmp .eq 5, 3) := by decide +kernel
theorem d_U_standsAs_53 : decode M_U_standsAs.2.1 53 = .ok (.iconst 0, 1) := by decide +kernel
theorem d_U_standsAs_54 : decode M_U_standsAs.2.1 54 = .ok (.ireturn, 1) := by decide +kernel
theorem d_U_standsAs_55 : decode M_U_standsAs.2.1 55 = .ok (.iinc 2 1, 3) := by decide +kernel
theorem d_U_standsAs_58 : decode M_U_standsAs.2.1 58 = .ok (.goto (-32), 3) := by decide +kernel
theorem d_U_standsAs_61 : decode M_U_standsAs.2.1 61 = .ok (.iconst 1, 1) := by decide +kernel
theorem d_U_standsAs_62 : decode M_U_standsAs.2.1 62 = .ok (.ireturn, 1) := by decide +kernel
theorem d_U_freeBits_0 : decode M_U_freeBits.2.1 0 = .ok (.aload_n 0, 1) := by decide +kernel
theorem d_U_freeBits_1 : decode M_U_freeBits.2.1 1 = .ok (.getfield 47, 3) := by decide +kernel
theorem d_U_freeBits_4 : decode M_U_freeBits.2.1 4 = .ok (.ifCond .ne 14, 3) := by decide +kernel
theorem d_U_freeBits_7 : decode M_U_freeBits.2.1 7 = .ok (.aload_n 0, 1) := by decide +kernel
theorem d_U_freeBits_8 : decode M_U_freeBits.2.1 8 = .ok (.aload_n 0, 1) := by decide +kernel
theorem d_U_freeBits_9 : decode M_U_freeBits.2.1 9 = .ok (.getfield 50, 3) := by decide +kernel
theorem d_U_freeBits_12 : decode M_U_freeBits.2.1 12 = .ok (.invokevirtual 101, 3) := by decide +kernel
theorem d_U_freeBits_15 : decode M_U_freeBits.2.1 15 = .ok (.goto 4, 3) := by decide +kernel
theorem d_U_freeBits_18 : decode M_U_freeBits.2.1 18 = .ok (.iconst 0, 1) := by decide +kernel
theorem d_U_freeBits_19 : decode M_U_freeBits.2.1 19 = .ok (.istore_n 1, 1) := by decide +kernel
theorem d_U_freeBits_20 : decode M_U_freeBits.2.1 20 = .ok (.iconst 0, 1) := by decide +kernel
theorem d_U_freeBits_21 : decode M_U_freeBits.2.1 21 = .ok (.istore_n 2, 1) := by decide +kernel
theorem d_U_freeBits_22 : decode M_U_freeBits.2.1 22 = .ok (.iload_n 2, 1) := by decide +kernel
theorem d_U_freeBits_23 : decode M_U_freeBits.2.1 23 = .ok (.aload_n 0, 1) := by decide +kernel
theorem d_U_freeBits_24 : decode M_U_freeBits.2.1 24 = .ok (.getfield 56, 3) := by decide +kernel
theorem d_U_freeBits_27 : decode M_U_freeBits.2.1 27 = .ok (.if_icmp .ge 24, 3) := by decide +kernel
theorem d_U_freeBits_30 : decode M_U_freeBits.2.1 30 = .ok (.iload_n 1, 1) := by decide +kernel
theorem d_U_freeBits_31 : decode M_U_freeBits.2.1 31 = .ok (.aload_n 0, 1) := by decide +kernel
theorem d_U_freeBits_32 : decode M_U_freeBits.2.1 32 = .ok (.aload_n 0, 1) := by decide +kernel
theorem d_U_freeBits_33 : decode M_U_freeBits.2.1 33 = .ok (.getfield 24, 3) := by decide +kernel
theorem d_U_freeBits_36 : decode M_U_freeBits.2.1 36 = .ok (.iload_n 2, 1) := by decide +kernel
theorem d_U_freeBits_37 : decode M_U_freeBits.2.1 37 = .ok (.invokestatic 43, 3) := by decide +kernel
theorem d_U_freeBits_40 : decode M_U_freeBits.2.1 40 = .ok (.invokevirtual 101, 3) := by decide +kernel
theorem d_U_freeBits_43 : decode M_U_freeBits.2.1 43 = .ok (.ior, 1) := by decide +kernel
theorem d_U_freeBits_44 : decode M_U_freeBits.2.1 44 = .ok (.istore_n 1, 1) := by decide +kernel
theorem d_U_freeBits_45 : decode M_U_freeBits.2.1 45 = .ok (.iinc 2 1, 3) := by decide +kernel
theorem d_U_freeBits_48 : decode M_U_freeBits.2.1 48 = .ok (.goto (-26), 3) := by decide +kernel
theorem d_U_freeBits_51 : decode M_U_freeBits.2.1 51 = .ok (.iload_n 1, 1) := by decide +kernel
theorem d_U_freeBits_52 : decode M_U_freeBits.2.1 52 = .ok (.ireturn, 1) := by decide +kernel
theorem d_U_bitOf_0 : decode M_U_bitOf.2.1 0 = .ok (.iload_n 1, 1) := by decide +kernel
theorem d_U_bitOf_1 : decode M_U_bitOf.2.1 1 = .ok (.aload_n 0, 1) := by decide +kernel
theorem d_U_bitOf_2 : decode M_U_bitOf.2.1 2 = .ok (.getfield 53, 3) := by decide +kernel
theorem d_U_bitOf_5 : decode M_U_bitOf.2.1 5 = .ok (.if_icmp .ge 7, 3) := by decide +kernel
theorem d_U_bitOf_8 : decode M_U_bitOf.2.1 8 = .ok (.iconst 0, 1) := by decide +kernel
theorem d_U_bitOf_9 : decode M_U_bitOf.2.1 9 = .ok (.goto 11, 3) := by decide +kernel
theorem d_U_bitOf_12 : decode M_U_bitOf.2.1 12 = .ok (.iconst 1, 1) := by decide +kernel
theorem d_U_bitOf_13 : decode M_U_bitOf.2.1 13 = .ok (.iload_n 1, 1) := by decide +kernel
theorem d_U_bitOf_14 : decode M_U_bitOf.2.1 14 = .ok (.aload_n 0, 1) := by decide +kernel
theorem d_U_bitOf_15 : decode M_U_bitOf.2.1 15 = .ok (.getfield 53, 3) := by decide +kernel
theorem d_U_bitOf_18 : decode M_U_bitOf.2.1 18 = .ok (.isub, 1) := by decide +kernel
theorem d_U_bitOf_19 : decode M_U_bitOf.2.1 19 = .ok (.ishl, 1) := by decide +kernel
theorem d_U_bitOf_20 : decode M_U_bitOf.2.1 20 = .ok (.ireturn, 1) := by decide +kernel
end
section
/-! THE STORE: all numbers as integers. Fields of objects by place and number, arrays by place and index, the law's one long. A layout says what lies at a place. -/
abbrev SS : Type := (Nat → Nat → Int) × (Nat → Int → Int) × (Nat → Int64)
/-- an array of ints (0) or booleans (1), its length, its number in the store; a row of references; an object: its class, its fields (none: a number; some r: a reference that stays); a row of one long -/
abbrev LC : Type := (Nat × Nat × Nat) ⊕ (Nat × Nat × (Nat → Option Nat)) ⊕ (Nat × List (Option (Option Nat))) ⊕ Unit
abbrev LY : Type := Nat → Option LC
abbrev iv (x : Int) : Int32 := Int32.ofInt x
abbrev iI (x : Int) : MV := mi (iv x)
def s_f (σ : SS) (p : Nat) : Nat → List (Option (Option Nat)) → List MV
  | _, [] => []
  | k, none :: l => iI (σ.1 p k) :: s_f σ p (k + 1) l
  | k, some r :: l => .inr (.inr (.inl r)) :: s_f σ p (k + 1) l
def s_c (σ : SS) (p : Nat) : LC → MC
  | .inl (t, n, i) => .inl (t, n, fun j => iv (σ.2.1 i j))
  | .inr (.inl (ci, n, f)) => cR ci n f
  | .inr (.inr (.inl (ci, l))) => cO ci (s_f σ p 0 l)
  | .inr (.inr (.inr _)) => cL 1 (fun _ => σ.2.2 p)
abbrev rng (x : Int) : Prop := -2147483648 ≤ x ∧ x < 2147483648
/-- the heap holds the store, by the layout; all numbers are ints; an array's number is its own -/
def Rep (ly : LY) (h : List MC) (σ : SS) : Prop := (∀ (p : Nat) (c : LC), ly p = some c → h[p]? = some (s_c σ p c)) ∧ ((∀ p k, rng (σ.1 p k)) ∧ ∀ p i, rng (σ.2.1 p i)) ∧ ∀ (p q t n t' n' i : Nat), ly p = some (.inl (t, n, i)) → ly q = some (.inl (t', n', i)) → p = q
theorem Rep.at {ly : LY} {h : List MC} {σ : SS} (hR : Rep ly h σ) (p : Nat) (c : LC) (hp : ly p = some c) : h[p]? = some (s_c σ p c) := hR.1 p c hp
theorem Rep.rf {ly : LY} {h : List MC} {σ : SS} (hR : Rep ly h σ) (p k : Nat) : rng (σ.1 p k) := hR.2.1.1 p k
theorem Rep.ra {ly : LY} {h : List MC} {σ : SS} (hR : Rep ly h σ) (p : Nat) (i : Int) : rng (σ.2.1 p i) := hR.2.1.2 p i
abbrev LO (ci : Nat) (l : List (Option (Option Nat))) : LC := .inr (.inr (.inl (ci, l)))
abbrev LI (n i : Nat) : LC := .inl (0, n, i)
abbrev LZ (n i : Nat) : LC := .inl (1, n, i)
abbrev nu : Option (Option Nat) := none
abbrev rf (p : Nat) : Option (Option Nat) := some (some p)
/-- a field is set; an element is set; the long is set -/
def sF (σ : SS) (p k : Nat) (v : Int) : SS := (fun a b => if a = p ∧ b = k then v else σ.1 a b, σ.2)
def sA (σ : SS) (p : Nat) (i v : Int) : SS := (σ.1, (fun a b => if a = p ∧ b = i then v else σ.2.1 a b), σ.2.2)
def sL (σ : SS) (p : Nat) (v : Int64) : SS := (σ.1, σ.2.1, fun a => if a = p then v else σ.2.2 a)
theorem s_f_len (σ : SS) (p : Nat) : ∀ (l : List (Option (Option Nat))) (k : Nat), (s_f σ p k l).length = l.length := by
  intro l
  induction l with
  | nil => intro k; rfl
  | cons a l ih =>
    intro k
    cases a with
    | none => show (s_f σ p (k + 1) l).length + 1 = _; rw [ih]; rfl
    | some r => show (s_f σ p (k + 1) l).length + 1 = _; rw [ih]; rfl
theorem s_f_at (σ : SS) (p : Nat) : ∀ (l : List (Option (Option Nat))) (k j : Nat), (s_f σ p k l)[j]? = (l[j]?).map (fun x => match x with | none => iI (σ.1 p (k + j)) | some r => .inr (.inr (.inl r))) := by
  intro l
  induction l with
  | nil => intro k j; simp [s_f]
  | cons a l ih =>
    intro k j
    cases j with
    | zero => cases a <;> rfl
    | succ j =>
      have h := ih (k + 1) j
      rw [show k + 1 + j = k + (j + 1) by omega] at h
      cases a with
      | none => show (s_f σ p (k + 1) l)[j]? = _; rw [h]; rfl
      | some r => show (s_f σ p (k + 1) l)[j]? = _; rw [h]; rfl
theorem s_f_eq {σ τ : SS} {p q : Nat} : ∀ (l : List (Option (Option Nat))) (k : Nat), (∀ j, k ≤ j → σ.1 p j = τ.1 q j) → s_f σ p k l = s_f τ q k l := by
  intro l
  induction l with
  | nil => intro k _; rfl
  | cons a l ih =>
    intro k h
    cases a with
    | none => unfold s_f; rw [ih (k + 1) (fun j hj => h j (by omega)), h k (Nat.le_refl k)]
    | some r => unfold s_f; rw [ih (k + 1) (fun j hj => h j (by omega))]
theorem s_f_set (σ : SS) (p : Nat) (v : Int) : ∀ (l : List (Option (Option Nat))) (k j : Nat), l[j]? = some none → (s_f σ p k l).set j (iI v) = s_f (sF σ p (k + j) v) p k l := by
  intro l
  induction l with
  | nil => intro k j h; simp at h
  | cons a l ih =>
    intro k j h
    cases j with
    | zero =>
      cases a with
      | none =>
        show iI v :: s_f σ p (k + 1) l = iI ((sF σ p k v).1 p k) :: s_f (sF σ p k v) p (k + 1) l
        have h8 : ∀ j, k + 1 ≤ j → σ.1 p j = (sF σ p k v).1 p j := by
          intro j hj
          have h9 : ¬ j = k := by omega
          simp [sF, h9]
        rw [s_f_eq (τ := sF σ p k v) (q := p) l (k + 1) h8]
        simp [sF]
      | some r => cases h
    | succ j =>
      have h9 := ih (k + 1) j h
      rw [show k + 1 + j = k + (j + 1) by omega] at h9
      cases a with
      | none =>
        show iI (σ.1 p k) :: (s_f σ p (k + 1) l).set j (iI v) = iI ((sF σ p (k + (j + 1)) v).1 p k) :: _
        rw [h9]
        simp [sF]
      | some r =>
        show _ :: (s_f σ p (k + 1) l).set j (iI v) = _
        rw [h9]
        rfl
theorem sF_other {σ : SS} {p k a b : Nat} {v : Int} (h : ¬ (a = p ∧ b = k)) : (sF σ p k v).1 a b = σ.1 a b := by simp [sF, h]
theorem sF_rng {σ : SS} {p k : Nat} {v : Int} (h1 : ∀ p k, rng (σ.1 p k)) (hv : rng v) : ∀ a b, rng ((sF σ p k v).1 a b) := by
  intro a b
  unfold sF
  dsimp only
  split
  · exact hv
  · exact h1 a b
theorem sA_rng {σ : SS} {p : Nat} {i v : Int} (h1 : ∀ p i, rng (σ.2.1 p i)) (hv : rng v) : ∀ a b, rng ((sA σ p i v).2.1 a b) := by
  intro a b
  unfold sA
  dsimp only
  split
  · exact hv
  · exact h1 a b
/-- a field is written: the other cells stay -/
theorem Rep.setF {ly : LY} {h : List MC} {σ : SS} {p k ci : Nat} {v : Int} {l : List (Option (Option Nat))} (hR : Rep ly h σ) (hp : ly p = some (LO ci l)) (hv : rng v) : Rep ly (h.set p (s_c (sF σ p k v) p (LO ci l))) (sF σ p k v) := by
  refine ⟨fun q c9 hq => ?_, ⟨sF_rng hR.2.1.1 hv, hR.2.1.2⟩, hR.2.2⟩
  by_cases hqp : p = q
  · subst hqp
    have hl := (List.getElem?_eq_some_iff.mp (hR.at p _ hp)).1
    rw [List.getElem?_set_self hl]
    cases Option.some.inj (hp.symm.trans hq)
    rfl
  · rw [List.getElem?_set_ne hqp, hR.at q c9 hq]
    rcases c9 with ⟨t, n, i⟩ | ⟨cj, n, f⟩ | ⟨cj, l⟩ | u
    · rfl
    · rfl
    · show some (cO cj (s_f σ q 0 l)) = some (cO cj (s_f (sF σ p k v) q 0 l))
      rw [s_f_eq (τ := sF σ p k v) (q := q) l 0 (fun j _ => (sF_other (fun z => hqp z.1.symm)).symm)]
    · rfl
/-- an element is written -/
theorem Rep.setA {ly : LY} {h : List MC} {σ : SS} {p t n id : Nat} {i v : Int} (hR : Rep ly h σ) (hp : ly p = some (.inl (t, n, id))) (hv : rng v) : Rep ly (h.set p (s_c (sA σ id i v) p (.inl (t, n, id)))) (sA σ id i v) := by
  refine ⟨fun q c9 hq => ?_, ⟨hR.2.1.1, sA_rng hR.2.1.2 hv⟩, hR.2.2⟩
  by_cases hqp : p = q
  · subst hqp
    have hl := (List.getElem?_eq_some_iff.mp (hR.at p _ hp)).1
    rw [List.getElem?_set_self hl]
    cases Option.some.inj (hp.symm.trans hq)
    rfl
  · rw [List.getElem?_set_ne hqp, hR.at q c9 hq]
    rcases c9 with ⟨t2, n2, i2⟩ | ⟨cj, n, f⟩ | ⟨cj, l⟩ | u
    · have h3 : ¬ i2 = id := fun z => hqp (hR.2.2 p q t n t2 n2 id hp (by rw [hq, z]))
      show some (Sum.inl (t2, n2, fun j : Nat => iv (σ.2.1 i2 j)) : MC) = some (Sum.inl (t2, n2, fun j : Nat => iv ((sA σ id i v).2.1 i2 j)))
      simp [sA, h3]
    · rfl
    · show some (cO cj (s_f σ q 0 l)) = some (cO cj (s_f (sA σ id i v) q 0 l))
      exact congrArg (fun z => some (cO cj z)) (s_f_eq l 0 (fun j _ => rfl))
    · rfl
/-- the long is written -/
theorem Rep.setL {ly : LY} {h : List MC} {σ : SS} {p : Nat} {v : Int64} (hR : Rep ly h σ) (hp : ly p = some (.inr (.inr (.inr ())))) : Rep ly (h.set p (cL 1 (fun _ => v))) (sL σ p v) := by
  refine ⟨fun q c9 hq => ?_, ⟨hR.2.1.1, hR.2.1.2⟩, hR.2.2⟩
  by_cases hqp : p = q
  · subst hqp
    have hl := (List.getElem?_eq_some_iff.mp (hR.at p _ hp)).1
    rw [List.getElem?_set_self hl]
    cases Option.some.inj (hp.symm.trans hq)
    show some (cL 1 fun _ => v) = some (cL 1 fun _ => (sL σ p v).2.2 p)
    simp [sL]
  · rw [List.getElem?_set_ne hqp, hR.at q c9 hq]
    rcases c9 with ⟨t2, n2, i2⟩ | ⟨cj, n, f⟩ | ⟨cj, l⟩ | u
    · rfl
    · rfl
    · show some (cO cj (s_f σ q 0 l)) = some (cO cj (s_f (sL σ p v) q 0 l))
      exact congrArg (fun z => some (cO cj z)) (s_f_eq l 0 (fun j _ => rfl))
    · show some (cL 1 fun _ => σ.2.2 q) = some (cL 1 fun _ => if q = p then v else σ.2.2 q)
      rw [if_neg (fun z : q = p => hqp z.symm)]
/-- reading past the end gives 0: what 'at' answers -/
def gA (σ : SS) (p n : Nat) (i : Int) : Int := if 0 ≤ i ∧ i < n then σ.2.1 p i else 0
theorem gA_rng {ly : LY} {h : List MC} {σ : SS} (hR : Rep ly h σ) (p n : Nat) (i : Int) : rng (gA σ p n i) := by
  unfold gA
  split
  · exact hR.ra p i
  · omega
/-- writing past the end does nothing: what 'set' does -/
def gS (σ : SS) (p n : Nat) (i v : Int) : SS := if 0 ≤ i ∧ i < n then sA σ p i v else σ
/-! reading what was written -/
theorem sF_same (σ : SS) (p k : Nat) (v : Int) : (sF σ p k v).1 p k = v := by simp [sF]
theorem sF_arr (σ : SS) (p k : Nat) (v : Int) : (sF σ p k v).2 = σ.2 := rfl
theorem sA_same (σ : SS) (p : Nat) (i v : Int) : (sA σ p i v).2.1 p i = v := by simp [sA]
theorem sA_other {σ : SS} {p a : Nat} {i v b : Int} (h : ¬ (a = p ∧ b = i)) : (sA σ p i v).2.1 a b = σ.2.1 a b := by simp [sA, h]
theorem sA_fld (σ : SS) (p : Nat) (i v : Int) : (sA σ p i v).1 = σ.1 := rfl
end
section
/-! ROWS OVER THE STORE: numbers are integers -/
theorem iv_toInt {x : Int} (h : rng x) : (iv x).toInt = x := Int32.toInt_ofInt_of_le (by omega) (by omega)
theorem iv_lt {x y : Int} (hx : rng x) (hy : rng y) : iv x < iv y ↔ x < y := by rw [Int32.lt_iff_toInt_lt, iv_toInt hx, iv_toInt hy]
theorem iv_le {x y : Int} (hx : rng x) (hy : rng y) : iv x ≤ iv y ↔ x ≤ y := by rw [Int32.le_iff_toInt_le, iv_toInt hx, iv_toInt hy]
theorem iv_eq {x y : Int} (hx : rng x) (hy : rng y) : iv x = iv y ↔ x = y := by rw [← Int32.toInt_inj, iv_toInt hx, iv_toInt hy]
theorem iv_cl {x : Int} (h0 : 0 ≤ x) (h : x < 2147483648) : (iv x).toNatClampNeg = x.toNat := Int32.toNatClampNeg_ofInt_of_le (by omega) (by omega)
theorem iv_in {x : Int} {n : Nat} (h0 : 0 ≤ x) (h : x < n) (hn : n < 2147483648) : vp_in (iv x) n := by
  rw [vp_in_iff, iv_toInt ⟨by omega, by omega⟩]
  exact ⟨h0, h⟩
theorem iv_nat (n : Nat) : iv (n : Int) = nI n := Int32.ofInt_eq_ofNat
theorem iv_of (x : Int32) : x = iv x.toInt := (Int32.ofInt_toInt x).symm
theorem iv_rng (x : Int32) : rng x.toInt := ⟨by have := Int32.le_toInt x; omega, by have := Int32.toInt_lt x; omega⟩
theorem iv_and3 (x : Int) : iv x &&& iv 3 = iv (x % 4) := by
  apply Int32.toBitVec_inj.mp
  apply BitVec.eq_of_toNat_eq
  rw [Int32.toBitVec_and, BitVec.toNat_and]
  show (BitVec.ofInt 32 x).toNat &&& 3 = (BitVec.ofInt 32 (x % 4)).toNat
  rw [BitVec.toNat_ofInt, BitVec.toNat_ofInt]
  have h1 := Nat.and_two_pow_sub_one_eq_mod (x % (2 ^ 32 : Nat)).toNat 2
  rw [show 2 ^ 2 - 1 = 3 from rfl] at h1
  rw [h1]
  omega
theorem iv_shr2 {x : Int} (hx : rng x) : iv x >>> (iv 2 &&& 31) = iv (x / 4) := by
  apply Int32.toBitVec_inj.mp
  rw [Int32.toBitVec_shiftRight]
  have h2 : ((iv 2 &&& 31 : Int32).toBitVec.smod 32) = 2#32 := by decide
  rw [h2]
  apply BitVec.eq_of_toInt_eq
  rw [show (iv x).toBitVec.sshiftRight' 2#32 = (iv x).toBitVec.sshiftRight 2 from rfl, BitVec.toInt_sshiftRight, show (iv x).toBitVec.toInt = x from iv_toInt hx, show (iv (x / 4)).toBitVec.toInt = x / 4 from iv_toInt (by omega), Int.shiftRight_eq_div_pow]
  rfl
theorem z_iadd {g : MG} {sc : MS} {M : MM} {d w pc : Nat} {lv : ML} {st : List MV} {h : List MC} {mc ms : Nat} {Q : MO → List MC → Prop} {x y : Int} (hd : decode M.2.1 pc = .ok (.iadd, 1)) (k : Ev g sc M d w (pc + 1) lv (iI (x + y) :: st) h mc ms Q) : Ev g sc M d w pc lv (iI y :: iI x :: st) h mc ms Q := by
  refine e_iadd hd ?_
  rw [← Int32.ofInt_add]
  exact k
theorem z_isub {g : MG} {sc : MS} {M : MM} {d w pc : Nat} {lv : ML} {st : List MV} {h : List MC} {mc ms : Nat} {Q : MO → List MC → Prop} {x y : Int} (hd : decode M.2.1 pc = .ok (.isub, 1)) (k : Ev g sc M d w (pc + 1) lv (iI (x - y) :: st) h mc ms Q) : Ev g sc M d w pc lv (iI y :: iI x :: st) h mc ms Q := by
  refine e_isub hd ?_
  rw [← Int32.ofInt_sub]
  exact k
theorem z_imul {g : MG} {sc : MS} {M : MM} {d w pc : Nat} {lv : ML} {st : List MV} {h : List MC} {mc ms : Nat} {Q : MO → List MC → Prop} {x y : Int} (hd : decode M.2.1 pc = .ok (.imul, 1)) (k : Ev g sc M d w (pc + 1) lv (iI (x * y) :: st) h mc ms Q) : Ev g sc M d w pc lv (iI y :: iI x :: st) h mc ms Q := by
  refine e_imul hd ?_
  rw [← Int32.ofInt_mul]
  exact k
theorem z_iinc {g : MG} {sc : MS} {M : MM} {d w pc : Nat} {lv : ML} {st : List MV} {h : List MC} {mc ms : Nat} {Q : MO → List MC → Prop} {i : Nat} {n x : Int} (hd : decode M.2.1 pc = .ok (.iinc i n, 3)) (hg : m_get lv i = some (iI x)) (hn : i < M.2.2.1) {lv2 : ML} (hlv2 : m_put lv i (iI (x + n)) = lv2) (k : Ev g sc M d w (pc + 3) lv2 st h mc ms Q) : Ev g sc M d w pc lv st h mc ms Q := e_iinc hd hg (Int32.ofInt_add x n).symm hn hlv2 k
theorem z_if_eq {g : MG} {sc : MS} {M : MM} {d w pc : Nat} {lv : ML} {st : List MV} {h : List MC} {mc ms : Nat} {Q : MO → List MC → Prop} {x off : Int} {tgt : Nat} (hd : decode M.2.1 pc = .ok (.ifCond .eq off, 3)) (ht : (pc : Int) + off = (tgt : Int)) (hx : rng x) (kt : x = 0 → Ev g sc M d w tgt lv st h mc ms Q) (kf : ¬ x = 0 → Ev g sc M d w (pc + 3) lv st h mc ms Q) : Ev g sc M d w pc lv (iI x :: st) h mc ms Q := by
  have h0 : rng 0 := by omega
  have key := iv_eq hx h0
  refine e_if_eq hd ht (fun q => kt ?_) (fun q => kf ?_)
  · exact key.mp q
  · exact fun z => q (key.mpr z)
theorem z_icmp_eq {g : MG} {sc : MS} {M : MM} {d w pc : Nat} {lv : ML} {st : List MV} {h : List MC} {mc ms : Nat} {Q : MO → List MC → Prop} {x y off : Int} {tgt : Nat} (hd : decode M.2.1 pc = .ok (.if_icmp .eq off, 3)) (ht : (pc : Int) + off = (tgt : Int)) (hx : rng x) (hy : rng y) (kt : x = y → Ev g sc M d w tgt lv st h mc ms Q) (kf : ¬ x = y → Ev g sc M d w (pc + 3) lv st h mc ms Q) : Ev g sc M d w pc lv (iI y :: iI x :: st) h mc ms Q := by
  have key := iv_eq hx hy
  refine e_icmp_eq hd ht (fun q => kt ?_) (fun q => kf ?_)
  · exact key.mp q
  · exact fun z => q (key.mpr z)
theorem z_if_ne {g : MG} {sc : MS} {M : MM} {d w pc : Nat} {lv : ML} {st : List MV} {h : List MC} {mc ms : Nat} {Q : MO → List MC → Prop} {x off : Int} {tgt : Nat} (hd : decode M.2.1 pc = .ok (.ifCond .ne off, 3)) (ht : (pc : Int) + off = (tgt : Int)) (hx : rng x) (kt : ¬ x = 0 → Ev g sc M d w tgt lv st h mc ms Q) (kf : x = 0 → Ev g sc M d w (pc + 3) lv st h mc ms Q) : Ev g sc M d w pc lv (iI x :: st) h mc ms Q := by
  have h0 : rng 0 := by omega
  have key := iv_eq hx h0
  refine e_if_ne hd ht (fun q => kt ?_) (fun q => kf ?_)
  · exact fun z => q (key.mpr z)
  · exact key.mp q
theorem z_icmp_ne {g : MG} {sc : MS} {M : MM} {d w pc : Nat} {lv : ML} {st : List MV} {h : List MC} {mc ms : Nat} {Q : MO → List MC → Prop} {x y off : Int} {tgt : Nat} (hd : decode M.2.1 pc = .ok (.if_icmp .ne off, 3)) (ht : (pc : Int) + off = (tgt : Int)) (hx : rng x) (hy : rng y) (kt : ¬ x = y → Ev g sc M d w tgt lv st h mc ms Q) (kf : x = y → Ev g sc M d w (pc + 3) lv st h mc ms Q) : Ev g sc M d w pc lv (iI y :: iI x :: st) h mc ms Q := by
  have key := iv_eq hx hy
  refine e_icmp_ne hd ht (fun q => kt ?_) (fun q => kf ?_)
  · exact fun z => q (key.mpr z)
  · exact key.mp q
theorem z_if_lt {g : MG} {sc : MS} {M : MM} {d w pc : Nat} {lv : ML} {st : List MV} {h : List MC} {mc ms : Nat} {Q : MO → List MC → Prop} {x off : Int} {tgt : Nat} (hd : decode M.2.1 pc = .ok (.ifCond .lt off, 3)) (ht : (pc : Int) + off = (tgt : Int)) (hx : rng x) (kt : x < 0 → Ev g sc M d w tgt lv st h mc ms Q) (kf : 0 ≤ x → Ev g sc M d w (pc + 3) lv st h mc ms Q) : Ev g sc M d w pc lv (iI x :: st) h mc ms Q := by
  have h0 : rng 0 := by omega
  have key := iv_lt hx h0
  refine e_if_lt hd ht (fun q => kt ?_) (fun q => kf ?_)
  · exact key.mp q
  · have q2 : ¬ (x < 0) := fun z => q (key.mpr z)
    omega
theorem z_icmp_lt {g : MG} {sc : MS} {M : MM} {d w pc : Nat} {lv : ML} {st : List MV} {h : List MC} {mc ms : Nat} {Q : MO → List MC → Prop} {x y off : Int} {tgt : Nat} (hd : decode M.2.1 pc = .ok (.if_icmp .lt off, 3)) (ht : (pc : Int) + off = (tgt : Int)) (hx : rng x) (hy : rng y) (kt : x < y → Ev g sc M d w tgt lv st h mc ms Q) (kf : y ≤ x → Ev g sc M d w (pc + 3) lv st h mc ms Q) : Ev g sc M d w pc lv (iI y :: iI x :: st) h mc ms Q := by
  have key := iv_lt hx hy
  refine e_icmp_lt hd ht (fun q => kt ?_) (fun q => kf ?_)
  · exact key.mp q
  · have q2 : ¬ (x < y) := fun z => q (key.mpr z)
    omega
theorem z_if_ge {g : MG} {sc : MS} {M : MM} {d w pc : Nat} {lv : ML} {st : List MV} {h : List MC} {mc ms : Nat} {Q : MO → List MC → Prop} {x off : Int} {tgt : Nat} (hd : decode M.2.1 pc = .ok (.ifCond .ge off, 3)) (ht : (pc : Int) + off = (tgt : Int)) (hx : rng x) (kt : 0 ≤ x → Ev g sc M d w tgt lv st h mc ms Q) (kf : x < 0 → Ev g sc M d w (pc + 3) lv st h mc ms Q) : Ev g sc M d w pc lv (iI x :: st) h mc ms Q := by
  have h0 : rng 0 := by omega
  have key := iv_le h0 hx
  refine e_if_ge hd ht (fun q => kt ?_) (fun q => kf ?_)
  · exact key.mp q
  · have q2 : ¬ (0 ≤ x) := fun z => q (key.mpr z)
    omega
theorem z_icmp_ge {g : MG} {sc : MS} {M : MM} {d w pc : Nat} {lv : ML} {st : List MV} {h : List MC} {mc ms : Nat} {Q : MO → List MC → Prop} {x y off : Int} {tgt : Nat} (hd : decode M.2.1 pc = .ok (.if_icmp .ge off, 3)) (ht : (pc : Int) + off = (tgt : Int)) (hx : rng x) (hy : rng y) (kt : y ≤ x → Ev g sc M d w tgt lv st h mc ms Q) (kf : x < y → Ev g sc M d w (pc + 3) lv st h mc ms Q) : Ev g sc M d w pc lv (iI y :: iI x :: st) h mc ms Q := by
  have key := iv_le hy hx
  refine e_icmp_ge hd ht (fun q => kt ?_) (fun q => kf ?_)
  · exact key.mp q
  · have q2 : ¬ (y ≤ x) := fun z => q (key.mpr z)
    omega
theorem z_if_gt {g : MG} {sc : MS} {M : MM} {d w pc : Nat} {lv : ML} {st : List MV} {h : List MC} {mc ms : Nat} {Q : MO → List MC → Prop} {x off : Int} {tgt : Nat} (hd : decode M.2.1 pc = .ok (.ifCond .gt off, 3)) (ht : (pc : Int) + off = (tgt : Int)) (hx : rng x) (kt : 0 < x → Ev g sc M d w tgt lv st h mc ms Q) (kf : x ≤ 0 → Ev g sc M d w (pc + 3) lv st h mc ms Q) : Ev g sc M d w pc lv (iI x :: st) h mc ms Q := by
  have h0 : rng 0 := by omega
  have key := iv_lt h0 hx
  refine e_if_gt hd ht (fun q => kt ?_) (fun q => kf ?_)
  · exact key.mp q
  · have q2 : ¬ (0 < x) := fun z => q (key.mpr z)
    omega
theorem z_icmp_gt {g : MG} {sc : MS} {M : MM} {d w pc : Nat} {lv : ML} {st : List MV} {h : List MC} {mc ms : Nat} {Q : MO → List MC → Prop} {x y off : Int} {tgt : Nat} (hd : decode M.2.1 pc = .ok (.if_icmp .gt off, 3)) (ht : (pc : Int) + off = (tgt : Int)) (hx : rng x) (hy : rng y) (kt : y < x → Ev g sc M d w tgt lv st h mc ms Q) (kf : x ≤ y → Ev g sc M d w (pc + 3) lv st h mc ms Q) : Ev g sc M d w pc lv (iI y :: iI x :: st) h mc ms Q := by
  have key := iv_lt hy hx
  refine e_icmp_gt hd ht (fun q => kt ?_) (fun q => kf ?_)
  · exact key.mp q
  · have q2 : ¬ (y < x) := fun z => q (key.mpr z)
    omega
theorem z_if_le {g : MG} {sc : MS} {M : MM} {d w pc : Nat} {lv : ML} {st : List MV} {h : List MC} {mc ms : Nat} {Q : MO → List MC → Prop} {x off : Int} {tgt : Nat} (hd : decode M.2.1 pc = .ok (.ifCond .le off, 3)) (ht : (pc : Int) + off = (tgt : Int)) (hx : rng x) (kt : x ≤ 0 → Ev g sc M d w tgt lv st h mc ms Q) (kf : 0 < x → Ev g sc M d w (pc + 3) lv st h mc ms Q) : Ev g sc M d w pc lv (iI x :: st) h mc ms Q := by
  have h0 : rng 0 := by omega
  have key := iv_le hx h0
  refine e_if_le hd ht (fun q => kt ?_) (fun q => kf ?_)
  · exact key.mp q
  · have q2 : ¬ (x ≤ 0) := fun z => q (key.mpr z)
    omega
theorem z_icmp_le {g : MG} {sc : MS} {M : MM} {d w pc : Nat} {lv : ML} {st : List MV} {h : List MC} {mc ms : Nat} {Q : MO → List MC → Prop} {x y off : Int} {tgt : Nat} (hd : decode M.2.1 pc = .ok (.if_icmp .le off, 3)) (ht : (pc : Int) + off = (tgt : Int)) (hx : rng x) (hy : rng y) (kt : x ≤ y → Ev g sc M d w tgt lv st h mc ms Q) (kf : y < x → Ev g sc M d w (pc + 3) lv st h mc ms Q) : Ev g sc M d w pc lv (iI y :: iI x :: st) h mc ms Q := by
  have key := iv_le hx hy
  refine e_icmp_le hd ht (fun q => kt ?_) (fun q => kf ?_)
  · exact key.mp q
  · have q2 : ¬ (x ≤ y) := fun z => q (key.mpr z)
    omega
theorem z_and3 {g : MG} {sc : MS} {M : MM} {d w pc : Nat} {lv : ML} {st : List MV} {h : List MC} {mc ms : Nat} {Q : MO → List MC → Prop} {x : Int} (hd : decode M.2.1 pc = .ok (.iand, 1)) (k : Ev g sc M d w (pc + 1) lv (iI (x % 4) :: st) h mc ms Q) : Ev g sc M d w pc lv (iI 3 :: iI x :: st) h mc ms Q := by
  refine e_iand hd ?_
  rw [iv_and3]
  exact k
theorem z_shr2 {g : MG} {sc : MS} {M : MM} {d w pc : Nat} {lv : ML} {st : List MV} {h : List MC} {mc ms : Nat} {Q : MO → List MC → Prop} {x : Int} (hd : decode M.2.1 pc = .ok (.ishr, 1)) (hx : rng x) (k : Ev g sc M d w (pc + 1) lv (iI (x / 4) :: st) h mc ms Q) : Ev g sc M d w pc lv (iI 2 :: iI x :: st) h mc ms Q := by
  refine e_ishr hd ?_
  rw [iv_shr2 hx]
  exact k
theorem z_gi {g : MG} {sc : MS} {M : MM} {d w pc : Nat} {lv : ML} {st : List MV} {h : List MC} {mc ms : Nat} {Q : MO → List MC → Prop} {ly : LY} {σ : SS} {i ci k p : Nat} {l : List (Option (Option Nat))} (hd : decode M.2.1 pc = .ok (.getfield i, 3)) (hf : m_fl M.1.cls i ci k) (hR : Rep ly h σ) (hp : ly p = some (.inr (.inr (.inl (ci, l))))) (hl : l[k]? = some none) (kk : Ev g sc M d w (pc + 3) lv (iI (σ.1 p k) :: st) h mc ms Q) : Ev g sc M d w pc lv (mr p :: st) h mc ms Q := by
  refine e_getfield hd hf (hR.at p _ hp) ?_ kk
  rw [s_f_at, hl, Nat.zero_add]
  rfl
theorem z_gr {g : MG} {sc : MS} {M : MM} {d w pc : Nat} {lv : ML} {st : List MV} {h : List MC} {mc ms : Nat} {Q : MO → List MC → Prop} {ly : LY} {σ : SS} {i ci k p : Nat} {r : Option Nat} {l : List (Option (Option Nat))} (hd : decode M.2.1 pc = .ok (.getfield i, 3)) (hf : m_fl M.1.cls i ci k) (hR : Rep ly h σ) (hp : ly p = some (.inr (.inr (.inl (ci, l))))) (hl : l[k]? = some (some r)) (kk : Ev g sc M d w (pc + 3) lv (.inr (.inr (.inl r)) :: st) h mc ms Q) : Ev g sc M d w pc lv (mr p :: st) h mc ms Q := by
  refine e_getfield hd hf (hR.at p _ hp) ?_ kk
  rw [s_f_at, hl]
  rfl
theorem z_pi {g : MG} {sc : MS} {M : MM} {d w pc : Nat} {lv : ML} {st : List MV} {h : List MC} {mc ms : Nat} {Q : MO → List MC → Prop} {ly : LY} {σ : SS} {i ci k p : Nat} {v : Int} {l : List (Option (Option Nat))} (hd : decode M.2.1 pc = .ok (.putfield i, 3)) (hf : m_fp M.1.cls i ci k .int false) (hR : Rep ly h σ) (hp : ly p = some (.inr (.inr (.inl (ci, l))))) (hl : l[k]? = some none) (hv : rng v) (kk : ∀ h : List MC, Rep ly h (sF σ p k v) → Ev g sc M d w (pc + 3) lv st h mc ms Q) : Ev g sc M d w pc lv (iI v :: mr p :: st) h mc ms Q := by
  refine e_putfield hd hf (hR.at p _ hp) ?_ (m_fits_i _) rfl (kk _ ?_)
  · rw [s_f_len]
    exact (List.getElem?_eq_some_iff.mp hl).1
  · have h9 := hR.setF (k := k) hp hv
    have e9 : s_c (sF σ p k v) p (.inr (.inr (.inl (ci, l)))) = cO ci ((s_f σ p 0 l).set k (iI v)) := by
      rw [s_f_set σ p v l 0 k hl, Nat.zero_add]
      rfl
    rw [e9] at h9
    exact h9
theorem z_ald {g : MG} {sc : MS} {M : MM} {d w pc : Nat} {lv : ML} {st : List MV} {h : List MC} {mc ms : Nat} {Q : MO → List MC → Prop} {ly : LY} {σ : SS} {p n id : Nat} {i : Int} (hd : decode M.2.1 pc = .ok (.iaload, 1)) (hR : Rep ly h σ) (hp : ly p = some (.inl (0, n, id))) (h0 : 0 ≤ i) (h1 : i < n) (hn : n < 2147483648) (kk : Ev g sc M d w (pc + 1) lv (iI (σ.2.1 id i) :: st) h mc ms Q) : Ev g sc M d w pc lv (iI i :: mr p :: st) h mc ms Q := by
  refine e_iaload hd (hR.at p _ hp) (iv_in h0 h1 hn) ?_
  rw [iv_cl h0 (by omega), Int.toNat_of_nonneg h0]
  exact kk
theorem z_bld {g : MG} {sc : MS} {M : MM} {d w pc : Nat} {lv : ML} {st : List MV} {h : List MC} {mc ms : Nat} {Q : MO → List MC → Prop} {ly : LY} {σ : SS} {p n id : Nat} {i : Int} (hd : decode M.2.1 pc = .ok (.baload, 1)) (hR : Rep ly h σ) (hp : ly p = some (.inl (1, n, id))) (h0 : 0 ≤ i) (h1 : i < n) (hn : n < 2147483648) (kk : Ev g sc M d w (pc + 1) lv (iI (σ.2.1 id i) :: st) h mc ms Q) : Ev g sc M d w pc lv (iI i :: mr p :: st) h mc ms Q := by
  refine e_baload hd (hR.at p _ hp) (iv_in h0 h1 hn) ?_
  rw [iv_cl h0 (by omega), Int.toNat_of_nonneg h0]
  exact kk
theorem s_upd {σ : SS} {p : Nat} {i v : Int} (h0 : 0 ≤ i) (h1 : i < 2147483648) : upd (fun j : Nat => iv (σ.2.1 p j)) (iv i).toNatClampNeg (iv v) = fun j : Nat => iv ((sA σ p i v).2.1 p j) := by
  rw [iv_cl h0 h1]
  funext j
  unfold upd sA
  by_cases hj : j = i.toNat
  · subst hj
    simp [Int.toNat_of_nonneg h0]
  · have h2 : ¬ (j : Int) = i := by omega
    simp [hj, h2]
theorem z_ast {g : MG} {sc : MS} {M : MM} {d w pc : Nat} {lv : ML} {st : List MV} {h : List MC} {mc ms : Nat} {Q : MO → List MC → Prop} {ly : LY} {σ : SS} {p n id : Nat} {i v : Int} (hd : decode M.2.1 pc = .ok (.iastore, 1)) (hR : Rep ly h σ) (hp : ly p = some (.inl (0, n, id))) (h0 : 0 ≤ i) (h1 : i < n) (hn : n < 2147483648) (hv : rng v) (kk : ∀ h : List MC, Rep ly h (sA σ id i v) → Ev g sc M d w (pc + 1) lv st h mc ms Q) : Ev g sc M d w pc lv (iI v :: iI i :: mr p :: st) h mc ms Q := by
  refine e_iastore hd (hR.at p _ hp) (iv_in h0 h1 hn) (kk _ ?_)
  rw [s_upd h0 (by omega)]
  exact hR.setA hp hv
theorem z_bst {g : MG} {sc : MS} {M : MM} {d w pc : Nat} {lv : ML} {st : List MV} {h : List MC} {mc ms : Nat} {Q : MO → List MC → Prop} {ly : LY} {σ : SS} {p n id : Nat} {i v : Int} (hd : decode M.2.1 pc = .ok (.bastore, 1)) (hR : Rep ly h σ) (hp : ly p = some (.inl (1, n, id))) (h0 : 0 ≤ i) (h1 : i < n) (hn : n < 2147483648) (hv : v = 0 ∨ v = 1) (kk : ∀ h : List MC, Rep ly h (sA σ id i v) → Ev g sc M d w (pc + 1) lv st h mc ms Q) : Ev g sc M d w pc lv (iI v :: iI i :: mr p :: st) h mc ms Q := by
  refine e_bastore hd (hR.at p _ hp) (iv_in h0 h1 hn) (by rcases hv with rfl | rfl <;> decide) (kk _ ?_)
  rw [s_upd h0 (by omega)]
  exact hR.setA hp (by omega)
theorem z_len {g : MG} {sc : MS} {M : MM} {d w pc : Nat} {lv : ML} {st : List MV} {h : List MC} {mc ms : Nat} {Q : MO → List MC → Prop} {ly : LY} {σ : SS} {p n id : Nat} (hd : decode M.2.1 pc = .ok (.arraylength, 1)) (hR : Rep ly h σ) (hp : ly p = some (.inl (0, n, id))) (kk : Ev g sc M d w (pc + 1) lv (iI (n : Int) :: st) h mc ms Q) : Ev g sc M d w pc lv (mr p :: st) h mc ms Q := by
  refine e_alenI hd (hR.at p _ hp) ?_
  rw [← Int32.ofInt_eq_ofNat]
  exact kk
theorem z_iret {g : MG} {sc : MS} {M : MM} {d w pc : Nat} {lv : ML} {h : List MC} {mc ms : Nat} {Q : MO → List MC → Prop} {x : Int} (hd : decode M.2.1 pc = .ok (.ireturn, 1)) (hret : M.2.2.2.1 = some .int) (kk : Q (.inl (some (iI x))) h) : Ev g sc M d w pc lv [iI x] h mc ms Q := e_ireturn hd hret rfl kk
theorem z_zret {g : MG} {sc : MS} {M : MM} {d w pc : Nat} {lv : ML} {h : List MC} {mc ms : Nat} {Q : MO → List MC → Prop} {x : Int} (hd : decode M.2.1 pc = .ok (.ireturn, 1)) (hret : M.2.2.2.1 = some .boolean) (hx : x = 0 ∨ x = 1) (kk : Q (.inl (some (iI x))) h) : Ev g sc M d w pc lv [iI x] h mc ms Q := e_ireturn hd hret (by rcases hx with rfl | rfl <;> decide) kk
/-! CONTRACTS AND CALLS -/
/-- a method's contract: F frames, L words of locals; its answer and heap have P, or it throws with X -/
def Ct (g : MG) (N : MM) (F L : Nat) (av : List MV) (h : List MC) (mc ms : Nat) (P : Option MV → List MC → Prop) (X : String → List MC → Prop) : Prop :=
  ∀ (d w : Nat) (Q : MO → List MC → Prop), F ≤ d → L ≤ w → (∀ r h9, P r h9 → Q (.inl r) h9) → (∀ E h9, X E h9 → Q (.inr E) h9) → Ev g none N d w 0 (m_args 0 av) [] h mc ms Q
abbrev noX : String → List MC → Prop := fun _ _ => False
theorem Ev.room {g : MG} {sc : MS} {M : MM} {d w pc : Nat} {lv : ML} {st : List MV} {h : List MC} {mc ms mc2 ms2 : Nat} {Q : MO → List MC → Prop} (h1 : mc2 ≤ mc) (h2 : ms2 ≤ ms) (k : Ev g sc M d w pc lv st h mc2 ms2 Q) : Ev g sc M d w pc lv st h mc ms Q := by
  intro p e R s m args below meth c A al0 H locs cells slots CT ST ls ws LV VS hF hSt hsc hR g1 g2 g3 g4 hA hK hP hD hS hW hal hls hlv hst
  exact k p e R s m args below meth c A al0 H locs cells slots CT ST ls ws LV VS hF hSt hsc hR (by omega) (by omega) g3 g4 hA hK hP hD hS hW hal hls hlv hst
theorem z_invV {g : MG} {sc : MS} {M N : MM} {F L d w pc : Nat} {lv : ML} {st' : List MV} {h : List MC} {mc ms mc1 ms1 mc2 ms2 : Nat} {Q : MO → List MC → Prop} {P : Option MV → List MC → Prop} {X : String → List MC → Prop} {i n r ci : Nat} {av : List MV} {fs : List MV} {T : u_T} {NN : Nat} (hd : decode M.2.1 pc = .ok (.invokevirtual i, 3)) (hN : m_me N n) (hl : m_lV M.1.cls i N) (hC : Ct g N F L (mr r :: av) h mc1 ms1 P X) {st : List MV} (hst0 : st = av.reverse ++ mr r :: st') (hn : av.length = n) (hsl : ((mr r :: av).map m_cat).sum ≤ N.2.2.1) (hns : av.all m_nsc = true) (h8 : (st'.map m_cat).sum ≤ 8) (hd2 : F + 1 ≤ d) (hw2 : 19 + N.2.2.1 + L ≤ w) (ho : h[r]? = some (cO ci fs)) (hci : m_cl[ci]? = some (N.1.cls, T, NN)) (hmc : mc1 + mc2 ≤ mc) (hms : ms1 + ms2 ≤ ms) (kr : ∀ (r : Option MV) (h9 : List MC), P r h9 → Ev g sc M d w (pc + 3) lv (r.toList ++ st') h9 mc2 ms2 Q) (kx : ∀ (E : String) (h9 : List MC), X E h9 → Ex g sc M d w pc lv h9 mc2 ms2 Q E) : Ev g sc M d w pc lv st h mc ms Q :=
  Ev.room hmc hms <| e_invV (Q9 := fun o h9 => match o with | .inl r => P r h9 | .inr E => X E h9) hd hN hl hst0 hn hsl hns h8 hd2 hw2 ho hci (hC F L _ (Nat.le_refl _) (Nat.le_refl _) (fun _ _ q => q) (fun _ _ q => q)) (fun r h9 q => kr r h9 q) (fun E h9 q => kx E h9 q)
theorem z_invS {g : MG} {sc : MS} {M N : MM} {F L d w pc : Nat} {lv : ML} {st' : List MV} {h : List MC} {mc ms mc1 ms1 mc2 ms2 : Nat} {Q : MO → List MC → Prop} {P : Option MV → List MC → Prop} {X : String → List MC → Prop} {i n : Nat} {av : List MV} (hd : decode M.2.1 pc = .ok (.invokestatic i, 3)) (hN : m_me N n) (hl : m_lS M.1.cls i N) (hC : Ct g N F L (av) h mc1 ms1 P X) {st : List MV} (hst0 : st = av.reverse ++ st') (hn : av.length = n) (hsl : ((av).map m_cat).sum ≤ N.2.2.1) (hns : av.all m_nsc = true) (h8 : (st'.map m_cat).sum ≤ 8) (hd2 : F + 1 ≤ d) (hw2 : 19 + N.2.2.1 + L ≤ w) (hmc : mc1 + mc2 ≤ mc) (hms : ms1 + ms2 ≤ ms) (kr : ∀ (r : Option MV) (h9 : List MC), P r h9 → Ev g sc M d w (pc + 3) lv (r.toList ++ st') h9 mc2 ms2 Q) (kx : ∀ (E : String) (h9 : List MC), X E h9 → Ex g sc M d w pc lv h9 mc2 ms2 Q E) : Ev g sc M d w pc lv st h mc ms Q :=
  Ev.room hmc hms <| e_invS (Q9 := fun o h9 => match o with | .inl r => P r h9 | .inr E => X E h9) hd hN hl hst0 hn hsl hns h8 hd2 hw2  (hC F L _ (Nat.le_refl _) (Nat.le_refl _) (fun _ _ q => q) (fun _ _ q => q)) (fun r h9 q => kr r h9 q) (fun E h9 q => kx E h9 q)
theorem z_invI {g : MG} {sc : MS} {M N : MM} {F L d w pc : Nat} {lv : ML} {st' : List MV} {h : List MC} {mc ms mc1 ms1 mc2 ms2 : Nat} {Q : MO → List MC → Prop} {P : Option MV → List MC → Prop} {X : String → List MC → Prop} {i n r : Nat} {av : List MV} {cc9 : MC} (hd : decode M.2.1 pc = .ok (.invokespecial i, 3)) (hN : m_me N n) (hl : m_lI M.1.cls i N) (hC : Ct g N F L (mr r :: av) h mc1 ms1 P X) {st : List MV} (hst0 : st = av.reverse ++ mr r :: st') (hn : av.length = n) (hsl : ((mr r :: av).map m_cat).sum ≤ N.2.2.1) (hns : av.all m_nsc = true) (h8 : (st'.map m_cat).sum ≤ 8) (hd2 : F + 1 ≤ d) (hw2 : 19 + N.2.2.1 + L ≤ w) (ho : h[r]? = some cc9) (hmc : mc1 + mc2 ≤ mc) (hms : ms1 + ms2 ≤ ms) (kr : ∀ (r : Option MV) (h9 : List MC), P r h9 → Ev g sc M d w (pc + 3) lv (r.toList ++ st') h9 mc2 ms2 Q) (kx : ∀ (E : String) (h9 : List MC), X E h9 → Ex g sc M d w pc lv h9 mc2 ms2 Q E) : Ev g sc M d w pc lv st h mc ms Q :=
  Ev.room hmc hms <| e_invI (Q9 := fun o h9 => match o with | .inl r => P r h9 | .inr E => X E h9) hd hN hl hst0 hn hsl hns h8 hd2 hw2 ho (hC F L _ (Nat.le_refl _) (Nat.le_refl _) (fun _ _ q => q) (fun _ _ q => q)) (fun r h9 q => kr r h9 q) (fun E h9 q => kx E h9 q)
end
section
/-! THE WORLD of both objects: what lies where. Written by wip/whole/gen_15.py. -/
def TBL : List (Option LC) := [some (LO 0 [rf 4, rf 7, rf 13, rf 30, rf 36, rf 42, rf 51, nu, nu]),
  none,
  none,
  none,
  some (LO 4 [rf 5, rf 6, nu]),
  some (LI 16 5),
  some (LI 48 6),
  some (LO 3 [rf 1, rf 8, rf 9, rf 10, rf 11, rf 12, nu, nu, nu]),
  some (LI 324 8),
  some (LI 324 9),
  some (LI 324 10),
  some (LI 324 11),
  some (LI 324 12),
  some (.inr (.inl (6, 8, fun k => if k < 8 then some (14 + 2 * k) else none))),
  some (LO 6 [rf 1, nu, rf 15, nu, nu, nu, nu, nu, nu, nu]),
  some (LI 91 15),
  some (LO 6 [rf 1, nu, rf 17, nu, nu, nu, nu, nu, nu, nu]),
  some (LI 91 17),
  some (LO 6 [rf 1, nu, rf 19, nu, nu, nu, nu, nu, nu, nu]),
  some (LI 91 19),
  some (LO 6 [rf 1, nu, rf 21, nu, nu, nu, nu, nu, nu, nu]),
  some (LI 91 21),
  some (LO 6 [rf 1, nu, rf 23, nu, nu, nu, nu, nu, nu, nu]),
  some (LI 91 23),
  some (LO 6 [rf 1, nu, rf 25, nu, nu, nu, nu, nu, nu, nu]),
  some (LI 91 25),
  some (LO 6 [rf 1, nu, rf 27, nu, nu, nu, nu, nu, nu, nu]),
  some (LI 91 27),
  some (LO 6 [rf 1, nu, rf 29, nu, nu, nu, nu, nu, nu, nu]),
  some (LI 91 29),
  some (LO 2 [rf 1, rf 7, rf 31, rf 32, rf 33, rf 34, nu, nu, nu, nu, rf 35, nu]),
  some (LI 64 31),
  some (LI 64 32),
  some (LI 64 33),
  some (LI 256 34),
  some (LI 4 35),
  some (LO 2 [rf 1, rf 7, rf 37, rf 38, rf 39, rf 40, nu, nu, nu, nu, rf 41, nu]),
  some (LI 64 37),
  some (LI 64 38),
  some (LI 64 39),
  some (LI 256 40),
  some (LI 4 41),
  some (LO 7 [rf 1, rf 7, rf 4, rf 30, rf 36, rf 45, rf 43, rf 44, nu]),
  some (LI 4 43),
  some (LI 4 44),
  some (LO 2 [rf 1, rf 7, rf 46, rf 47, rf 48, rf 49, nu, nu, nu, nu, rf 50, nu]),
  some (LI 64 46),
  some (LI 64 47),
  some (LI 64 48),
  some (LI 256 49),
  some (LI 4 50),
  none,
  none,
  some (LI 324 53),
  some (LI 324 54),
  some (LO 8 [nu, nu, nu, nu, rf 56, rf 57, rf 58, rf 59, rf 60, rf 61, rf 62, rf 63, rf 64, rf 65, rf 66, rf 67, rf 68, rf 69, rf 70, rf 71, rf 72, rf 73, rf 74, rf 75, rf 76, rf 77, rf 78, rf 79, rf 80, nu, nu, nu, rf 81, rf 82, rf 83, rf 84, nu, nu, nu, nu]),
  some (LI 16 56),
  some (LI 48 57),
  some (LI 324 58),
  some (LI 324 59),
  some (LI 129600 60),
  some (LZ 324 61),
  some (LZ 324 62),
  some (LI 1280 63),
  some (LI 8 64),
  some (LI 8 65),
  some (LI 8 66),
  some (LI 8 67),
  some (LI 1280 68),
  some (LI 1280 69),
  some (LZ 8 70),
  some (LI 16384 71),
  some (LI 16384 72),
  some (LI 16384 73),
  some (LI 16384 74),
  some (LI 4096 75),
  some (LI 4096 76),
  some (LI 131072 77),
  some (LI 4096 78),
  some (LI 4096 79),
  some (LI 4096 80),
  some (LI 16384 81),
  some (LI 16384 82),
  some (LI 324 83),
  some (LI 1296 84),
  some (.inr (.inr (.inr ())))]
def tb (p : Nat) : Option LC := (TBL[p]?).join
/-- the places of the three arrays that grow: codes, bounds, items -/
def lyf (a b c n m : Nat) : LY := fun p => if p = 1 then some (LO 1 [rf a, rf b, nu]) else if p = 51 then some (LO 5 [rf c, nu, nu, rf 53, rf 54]) else if p = a then some (LI n 2) else if p = b then some (LI n 3) else if p = c then some (LI m 52) else tb p
def fr1 (a : Nat) : Prop := a ≠ 1 ∧ a ≠ 51 ∧ tb a = none
def gd (a b c : Nat) : Prop := fr1 a ∧ fr1 b ∧ fr1 c ∧ a ≠ b ∧ a ≠ c ∧ b ≠ c
theorem tb1 : tb 1 = none := rfl
theorem tb51 : tb 51 = none := rfl
theorem lyf_tb {a b c n m p : Nat} {x : LC} (h : gd a b c) (hp : tb p = some x) : lyf a b c n m p = some x := by
  obtain ⟨⟨a1, a2, a3⟩, ⟨b1, b2, b3⟩, ⟨c1, c2, c3⟩, -, -, -⟩ := h
  have h1 : p ≠ 1 := by intro z; rw [z, tb1] at hp; cases hp
  have h2 : p ≠ 51 := by intro z; rw [z, tb51] at hp; cases hp
  have h3 : p ≠ a := by intro z; rw [z, a3] at hp; cases hp
  have h4 : p ≠ b := by intro z; rw [z, b3] at hp; cases hp
  have h5 : p ≠ c := by intro z; rw [z, c3] at hp; cases hp
  unfold lyf
  rw [if_neg h1, if_neg h2, if_neg h3, if_neg h4, if_neg h5]
  exact hp
def tbk : Bool := (List.range 86).all (fun p => match tb p with | some (.inl (_, _, i)) => i == p && !(p == 2) && !(p == 3) && !(p == 52) | _ => true)
theorem tbk_ok : tbk = true := by decide
theorem tb_id {p t n i : Nat} (h : tb p = some (.inl (t, n, i))) : i = p ∧ p ≠ 2 ∧ p ≠ 3 ∧ p ≠ 52 := by
  have hp : p < 86 := by
    apply Decidable.byContradiction
    intro z
    unfold tb at h
    rw [List.getElem?_eq_none (by show 86 ≤ p; omega)] at h
    cases h
  have h1 := List.all_eq_true.mp tbk_ok p (List.mem_range.mpr hp)
  rw [h] at h1
  simp only [Bool.and_eq_true, beq_iff_eq, Bool.not_eq_true', beq_eq_false_iff_ne] at h1
  exact ⟨h1.1.1.1, h1.1.1.2, h1.1.2, h1.2⟩
/-- what the layout says of arrays: their numbers are their own -/
theorem lyf_inj {a b c n m : Nat} (h : gd a b c) : ∀ (p q t n1 t' n1' i : Nat), lyf a b c n m p = some (.inl (t, n1, i)) → lyf a b c n m q = some (.inl (t', n1', i)) → p = q := by
  have key : ∀ (p t n1 i : Nat), lyf a b c n m p = some (.inl (t, n1, i)) → (p = a ∧ i = 2) ∨ (p = b ∧ i = 3) ∨ (p = c ∧ i = 52) ∨ (i = p ∧ p ≠ 2 ∧ p ≠ 3 ∧ p ≠ 52) := by
    intro p t n1 i hp
    unfold lyf at hp
    split at hp
    · cases hp
    · split at hp
      · cases hp
      · split at hp
        · cases hp; left; exact ⟨by assumption, rfl⟩
        · split at hp
          · cases hp; right; left; exact ⟨by assumption, rfl⟩
          · split at hp
            · cases hp; right; right; left; exact ⟨by assumption, rfl⟩
            · right; right; right; exact tb_id hp
  intro p q t n1 t' n1' i hp hq
  have h1 := key p t n1 i hp
  have h2 := key q t' n1' i hq
  omega
/-- THE WORLD: the heap holds the store; the arrays that grow lie somewhere -/
def Wd (h : List MC) (σ : SS) : Prop := (0 ≤ σ.1 1 99 ∧ 0 ≤ σ.1 51 99 ∧ 0 ≤ σ.1 0 99) ∧ ∃ a b c, gd a b c ∧ Rep (lyf a b c (σ.1 1 99).toNat (σ.1 51 99).toNat) h σ
/-- what was made so far by growing and throwing -/
def K (σ : SS) : Nat := 4 * (σ.1 1 99).toNat + 2 * (σ.1 51 99).toNat + 6 * (σ.1 0 99).toNat
theorem Wd.rf {h : List MC} {σ : SS} (hW : Wd h σ) (p k : Nat) : rng (σ.1 p k) := by
  obtain ⟨-, a, b, c, -, hR⟩ := hW
  exact hR.rf p k
theorem Wd.ra {h : List MC} {σ : SS} (hW : Wd h σ) (p : Nat) (i : Int) : rng (σ.2.1 p i) := by
  obtain ⟨-, a, b, c, -, hR⟩ := hW
  exact hR.ra p i
theorem Wd.ga {h : List MC} {σ : SS} (hW : Wd h σ) (p n : Nat) (i : Int) : rng (gA σ p n i) := by
  obtain ⟨-, a, b, c, -, hR⟩ := hW
  exact gA_rng hR p n i
/-- an object of a class; a number among its fields; a reference; an array of ints, of booleans -/
def ob (p ci : Nat) : Prop := ∀ a b c n m, gd a b c → ∃ l, lyf a b c n m p = some (LO ci l)
def oi (p ci k : Nat) : Prop := ∀ a b c n m, gd a b c → ∃ l, lyf a b c n m p = some (LO ci l) ∧ l[k]? = some none
def orf (p ci k r : Nat) : Prop := ∀ a b c n m, gd a b c → ∃ l, lyf a b c n m p = some (LO ci l) ∧ l[k]? = some (some (some r))
def ia (p n9 : Nat) : Prop := n9 < 2147483648 ∧ ∀ a b c n m, gd a b c → lyf a b c n m p = some (LI n9 p)
def za (p n9 : Nat) : Prop := n9 < 2147483648 ∧ ∀ a b c n m, gd a b c → lyf a b c n m p = some (LZ n9 p)
theorem ob_tb {p ci : Nat} {l : List (Option (Option Nat))} (h : tb p = some (LO ci l)) : ob p ci := fun _ _ _ _ _ hg => ⟨l, lyf_tb hg h⟩
theorem oi_tb {p ci k : Nat} {l : List (Option (Option Nat))} (h : tb p = some (LO ci l)) (hk : l[k]? = some none) : oi p ci k := fun _ _ _ _ _ hg => ⟨l, lyf_tb hg h, hk⟩
theorem orf_tb {p ci k r : Nat} {l : List (Option (Option Nat))} (h : tb p = some (LO ci l)) (hk : l[k]? = some (some (some r))) : orf p ci k r := fun _ _ _ _ _ hg => ⟨l, lyf_tb hg h, hk⟩
theorem ia_tb {p n9 : Nat} (hn : n9 < 2147483648) (h : tb p = some (LI n9 p)) : ia p n9 := ⟨hn, fun _ _ _ _ _ hg => lyf_tb hg h⟩
theorem za_tb {p n9 : Nat} (hn : n9 < 2147483648) (h : tb p = some (LZ n9 p)) : za p n9 := ⟨hn, fun _ _ _ _ _ hg => lyf_tb hg h⟩
theorem ob1 : ob 1 1 := fun _ _ _ _ _ _ => ⟨_, rfl⟩
theorem ob51 : ob 51 5 := fun _ _ _ _ _ _ => ⟨_, rfl⟩
theorem oi1_2 : oi 1 1 2 := fun _ _ _ _ _ _ => ⟨_, rfl, rfl⟩
theorem oi51_1 : oi 51 5 1 := fun _ _ _ _ _ _ => ⟨_, rfl, rfl⟩
theorem oi51_2 : oi 51 5 2 := fun _ _ _ _ _ _ => ⟨_, rfl, rfl⟩
theorem or51_3 : orf 51 5 3 53 := fun _ _ _ _ _ _ => ⟨_, rfl, rfl⟩
theorem or51_4 : orf 51 5 4 54 := fun _ _ _ _ _ _ => ⟨_, rfl, rfl⟩
theorem ob0 : ob 0 0 := ob_tb (l := _) rfl
theorem or0_0 : orf 0 0 0 4 := orf_tb (l := _) rfl rfl
theorem or0_1 : orf 0 0 1 7 := orf_tb (l := _) rfl rfl
theorem or0_3 : orf 0 0 3 30 := orf_tb (l := _) rfl rfl
theorem or0_4 : orf 0 0 4 36 := orf_tb (l := _) rfl rfl
theorem or0_5 : orf 0 0 5 42 := orf_tb (l := _) rfl rfl
theorem or0_6 : orf 0 0 6 51 := orf_tb (l := _) rfl rfl
theorem oi0_7 : oi 0 0 7 := oi_tb (l := _) rfl rfl
theorem oi0_8 : oi 0 0 8 := oi_tb (l := _) rfl rfl
theorem ob4 : ob 4 4 := ob_tb (l := _) rfl
theorem or4_0 : orf 4 4 0 5 := orf_tb (l := _) rfl rfl
theorem or4_1 : orf 4 4 1 6 := orf_tb (l := _) rfl rfl
theorem oi4_2 : oi 4 4 2 := oi_tb (l := _) rfl rfl
theorem ob7 : ob 7 3 := ob_tb (l := _) rfl
theorem or7_0 : orf 7 3 0 1 := orf_tb (l := _) rfl rfl
theorem or7_1 : orf 7 3 1 8 := orf_tb (l := _) rfl rfl
theorem or7_2 : orf 7 3 2 9 := orf_tb (l := _) rfl rfl
theorem or7_3 : orf 7 3 3 10 := orf_tb (l := _) rfl rfl
theorem or7_4 : orf 7 3 4 11 := orf_tb (l := _) rfl rfl
theorem or7_5 : orf 7 3 5 12 := orf_tb (l := _) rfl rfl
theorem oi7_6 : oi 7 3 6 := oi_tb (l := _) rfl rfl
theorem oi7_7 : oi 7 3 7 := oi_tb (l := _) rfl rfl
theorem oi7_8 : oi 7 3 8 := oi_tb (l := _) rfl rfl
theorem ob42 : ob 42 7 := ob_tb (l := _) rfl
theorem or42_0 : orf 42 7 0 1 := orf_tb (l := _) rfl rfl
theorem or42_1 : orf 42 7 1 7 := orf_tb (l := _) rfl rfl
theorem or42_2 : orf 42 7 2 4 := orf_tb (l := _) rfl rfl
theorem or42_3 : orf 42 7 3 30 := orf_tb (l := _) rfl rfl
theorem or42_4 : orf 42 7 4 36 := orf_tb (l := _) rfl rfl
theorem or42_5 : orf 42 7 5 45 := orf_tb (l := _) rfl rfl
theorem or42_6 : orf 42 7 6 43 := orf_tb (l := _) rfl rfl
theorem or42_7 : orf 42 7 7 44 := orf_tb (l := _) rfl rfl
theorem oi42_8 : oi 42 7 8 := oi_tb (l := _) rfl rfl
theorem ob55 : ob 55 8 := ob_tb (l := _) rfl
theorem oi55_0 : oi 55 8 0 := oi_tb (l := _) rfl rfl
theorem oi55_1 : oi 55 8 1 := oi_tb (l := _) rfl rfl
theorem oi55_2 : oi 55 8 2 := oi_tb (l := _) rfl rfl
theorem oi55_3 : oi 55 8 3 := oi_tb (l := _) rfl rfl
theorem or55_4 : orf 55 8 4 56 := orf_tb (l := _) rfl rfl
theorem or55_5 : orf 55 8 5 57 := orf_tb (l := _) rfl rfl
theorem or55_6 : orf 55 8 6 58 := orf_tb (l := _) rfl rfl
theorem or55_7 : orf 55 8 7 59 := orf_tb (l := _) rfl rfl
theorem or55_8 : orf 55 8 8 60 := orf_tb (l := _) rfl rfl
theorem or55_9 : orf 55 8 9 61 := orf_tb (l := _) rfl rfl
theorem or55_10 : orf 55 8 10 62 := orf_tb (l := _) rfl rfl
theorem or55_11 : orf 55 8 11 63 := orf_tb (l := _) rfl rfl
theorem or55_12 : orf 55 8 12 64 := orf_tb (l := _) rfl rfl
theorem or55_13 : orf 55 8 13 65 := orf_tb (l := _) rfl rfl
theorem or55_14 : orf 55 8 14 66 := orf_tb (l := _) rfl rfl
theorem or55_15 : orf 55 8 15 67 := orf_tb (l := _) rfl rfl
theorem or55_16 : orf 55 8 16 68 := orf_tb (l := _) rfl rfl
theorem or55_17 : orf 55 8 17 69 := orf_tb (l := _) rfl rfl
theorem or55_18 : orf 55 8 18 70 := orf_tb (l := _) rfl rfl
theorem or55_19 : orf 55 8 19 71 := orf_tb (l := _) rfl rfl
theorem or55_20 : orf 55 8 20 72 := orf_tb (l := _) rfl rfl
theorem or55_21 : orf 55 8 21 73 := orf_tb (l := _) rfl rfl
theorem or55_22 : orf 55 8 22 74 := orf_tb (l := _) rfl rfl
theorem or55_23 : orf 55 8 23 75 := orf_tb (l := _) rfl rfl
theorem or55_24 : orf 55 8 24 76 := orf_tb (l := _) rfl rfl
theorem or55_25 : orf 55 8 25 77 := orf_tb (l := _) rfl rfl
theorem or55_26 : orf 55 8 26 78 := orf_tb (l := _) rfl rfl
theorem or55_27 : orf 55 8 27 79 := orf_tb (l := _) rfl rfl
theorem or55_28 : orf 55 8 28 80 := orf_tb (l := _) rfl rfl
theorem oi55_29 : oi 55 8 29 := oi_tb (l := _) rfl rfl
theorem oi55_30 : oi 55 8 30 := oi_tb (l := _) rfl rfl
theorem oi55_31 : oi 55 8 31 := oi_tb (l := _) rfl rfl
theorem or55_32 : orf 55 8 32 81 := orf_tb (l := _) rfl rfl
theorem or55_33 : orf 55 8 33 82 := orf_tb (l := _) rfl rfl
theorem or55_34 : orf 55 8 34 83 := orf_tb (l := _) rfl rfl
theorem or55_35 : orf 55 8 35 84 := orf_tb (l := _) rfl rfl
theorem oi55_36 : oi 55 8 36 := oi_tb (l := _) rfl rfl
theorem oi55_37 : oi 55 8 37 := oi_tb (l := _) rfl rfl
theorem oi55_38 : oi 55 8 38 := oi_tb (l := _) rfl rfl
theorem oi55_39 : oi 55 8 39 := oi_tb (l := _) rfl rfl
theorem ia5 : ia 5 16 := ia_tb (by decide) rfl
theorem ia6 : ia 6 48 := ia_tb (by decide) rfl
theorem ia8 : ia 8 324 := ia_tb (by decide) rfl
theorem ia9 : ia 9 324 := ia_tb (by decide) rfl
theorem ia10 : ia 10 324 := ia_tb (by decide) rfl
theorem ia11 : ia 11 324 := ia_tb (by decide) rfl
theorem ia12 : ia 12 324 := ia_tb (by decide) rfl
theorem ia15 : ia 15 91 := ia_tb (by decide) rfl
theorem ia17 : ia 17 91 := ia_tb (by decide) rfl
theorem ia19 : ia 19 91 := ia_tb (by decide) rfl
theorem ia21 : ia 21 91 := ia_tb (by decide) rfl
theorem ia23 : ia 23 91 := ia_tb (by decide) rfl
theorem ia25 : ia 25 91 := ia_tb (by decide) rfl
theorem ia27 : ia 27 91 := ia_tb (by decide) rfl
theorem ia29 : ia 29 91 := ia_tb (by decide) rfl
theorem ia31 : ia 31 64 := ia_tb (by decide) rfl
theorem ia32 : ia 32 64 := ia_tb (by decide) rfl
theorem ia33 : ia 33 64 := ia_tb (by decide) rfl
theorem ia34 : ia 34 256 := ia_tb (by decide) rfl
theorem ia35 : ia 35 4 := ia_tb (by decide) rfl
theorem ia37 : ia 37 64 := ia_tb (by decide) rfl
theorem ia38 : ia 38 64 := ia_tb (by decide) rfl
theorem ia39 : ia 39 64 := ia_tb (by decide) rfl
theorem ia40 : ia 40 256 := ia_tb (by decide) rfl
theorem ia41 : ia 41 4 := ia_tb (by decide) rfl
theorem ia43 : ia 43 4 := ia_tb (by decide) rfl
theorem ia44 : ia 44 4 := ia_tb (by decide) rfl
theorem ia46 : ia 46 64 := ia_tb (by decide) rfl
theorem ia47 : ia 47 64 := ia_tb (by decide) rfl
theorem ia48 : ia 48 64 := ia_tb (by decide) rfl
theorem ia49 : ia 49 256 := ia_tb (by decide) rfl
theorem ia50 : ia 50 4 := ia_tb (by decide) rfl
theorem ia53 : ia 53 324 := ia_tb (by decide) rfl
theorem ia54 : ia 54 324 := ia_tb (by decide) rfl
theorem ia56 : ia 56 16 := ia_tb (by decide) rfl
theorem ia57 : ia 57 48 := ia_tb (by decide) rfl
theorem ia58 : ia 58 324 := ia_tb (by decide) rfl
theorem ia59 : ia 59 324 := ia_tb (by decide) rfl
theorem ia60 : ia 60 129600 := ia_tb (by decide) rfl
theorem za61 : za 61 324 := za_tb (by decide) rfl
theorem za62 : za 62 324 := za_tb (by decide) rfl
theorem ia63 : ia 63 1280 := ia_tb (by decide) rfl
theorem ia64 : ia 64 8 := ia_tb (by decide) rfl
theorem ia65 : ia 65 8 := ia_tb (by decide) rfl
theorem ia66 : ia 66 8 := ia_tb (by decide) rfl
theorem ia67 : ia 67 8 := ia_tb (by decide) rfl
theorem ia68 : ia 68 1280 := ia_tb (by decide) rfl
theorem ia69 : ia 69 1280 := ia_tb (by decide) rfl
theorem za70 : za 70 8 := za_tb (by decide) rfl
theorem ia71 : ia 71 16384 := ia_tb (by decide) rfl
theorem ia72 : ia 72 16384 := ia_tb (by decide) rfl
theorem ia73 : ia 73 16384 := ia_tb (by decide) rfl
theorem ia74 : ia 74 16384 := ia_tb (by decide) rfl
theorem ia75 : ia 75 4096 := ia_tb (by decide) rfl
theorem ia76 : ia 76 4096 := ia_tb (by decide) rfl
theorem ia77 : ia 77 131072 := ia_tb (by decide) rfl
theorem ia78 : ia 78 4096 := ia_tb (by decide) rfl
theorem ia79 : ia 79 4096 := ia_tb (by decide) rfl
theorem ia80 : ia 80 4096 := ia_tb (by decide) rfl
theorem ia81 : ia 81 16384 := ia_tb (by decide) rfl
theorem ia82 : ia 82 16384 := ia_tb (by decide) rfl
theorem ia83 : ia 83 324 := ia_tb (by decide) rfl
theorem ia84 : ia 84 1296 := ia_tb (by decide) rfl
def cur (p : Nat) : Prop := p = 30 ∨ p = 36 ∨ p = 45
def slt (p : Nat) : Prop := p = 14 ∨ p = 16 ∨ p = 18 ∨ p = 20 ∨ p = 22 ∨ p = 24 ∨ p = 26 ∨ p = 28
theorem cur30 : cur 30 := Or.inl rfl
theorem cur36 : cur 36 := Or.inr (Or.inl rfl)
theorem cur45 : cur 45 := Or.inr (Or.inr rfl)
theorem cur_tb {p : Nat} (h : cur p) : tb p = some (LO 2 [rf 1, rf 7, rf (p + 1), rf (p + 2), rf (p + 3), rf (p + 4), nu, nu, nu, nu, rf (p + 5), nu]) := by
  rcases h with rfl | rfl | rfl <;> rfl
theorem slt_tb {p : Nat} (h : slt p) : tb p = some (LO 6 [rf 1, nu, rf (p + 1), nu, nu, nu, nu, nu, nu, nu]) := by
  rcases h with rfl | rfl | rfl | rfl | rfl | rfl | rfl | rfl <;> rfl
theorem cur_ob {p : Nat} (h : cur p) : ob p 2 := ob_tb (cur_tb h)
theorem slt_ob {p : Nat} (h : slt p) : ob p 6 := ob_tb (slt_tb h)
theorem cur_r0 {p : Nat} (h : cur p) : orf p 2 0 1 := orf_tb (cur_tb h) rfl
theorem cur_r1 {p : Nat} (h : cur p) : orf p 2 1 7 := orf_tb (cur_tb h) rfl
theorem cur_r2 {p : Nat} (h : cur p) : orf p 2 2 (p + 1) := orf_tb (cur_tb h) rfl
theorem cur_r3 {p : Nat} (h : cur p) : orf p 2 3 (p + 2) := orf_tb (cur_tb h) rfl
theorem cur_r4 {p : Nat} (h : cur p) : orf p 2 4 (p + 3) := orf_tb (cur_tb h) rfl
theorem cur_r5 {p : Nat} (h : cur p) : orf p 2 5 (p + 4) := orf_tb (cur_tb h) rfl
theorem cur_i6 {p : Nat} (h : cur p) : oi p 2 6 := oi_tb (cur_tb h) rfl
theorem cur_i7 {p : Nat} (h : cur p) : oi p 2 7 := oi_tb (cur_tb h) rfl
theorem cur_i8 {p : Nat} (h : cur p) : oi p 2 8 := oi_tb (cur_tb h) rfl
theorem cur_i9 {p : Nat} (h : cur p) : oi p 2 9 := oi_tb (cur_tb h) rfl
theorem cur_r10 {p : Nat} (h : cur p) : orf p 2 10 (p + 5) := orf_tb (cur_tb h) rfl
theorem cur_i11 {p : Nat} (h : cur p) : oi p 2 11 := oi_tb (cur_tb h) rfl
theorem cur_a1 {p : Nat} (h : cur p) : ia (p + 1) 64 := by
  rcases h with rfl | rfl | rfl <;> exact ia_tb (by decide) rfl
theorem cur_a2 {p : Nat} (h : cur p) : ia (p + 2) 64 := by
  rcases h with rfl | rfl | rfl <;> exact ia_tb (by decide) rfl
theorem cur_a3 {p : Nat} (h : cur p) : ia (p + 3) 64 := by
  rcases h with rfl | rfl | rfl <;> exact ia_tb (by decide) rfl
theorem cur_a4 {p : Nat} (h : cur p) : ia (p + 4) 256 := by
  rcases h with rfl | rfl | rfl <;> exact ia_tb (by decide) rfl
theorem cur_a5 {p : Nat} (h : cur p) : ia (p + 5) 4 := by
  rcases h with rfl | rfl | rfl <;> exact ia_tb (by decide) rfl
theorem slt_r0 {p : Nat} (h : slt p) : orf p 6 0 1 := orf_tb (slt_tb h) rfl
theorem slt_i1 {p : Nat} (h : slt p) : oi p 6 1 := oi_tb (slt_tb h) rfl
theorem slt_r2 {p : Nat} (h : slt p) : orf p 6 2 (p + 1) := orf_tb (slt_tb h) rfl
theorem slt_i3 {p : Nat} (h : slt p) : oi p 6 3 := oi_tb (slt_tb h) rfl
theorem slt_i4 {p : Nat} (h : slt p) : oi p 6 4 := oi_tb (slt_tb h) rfl
theorem slt_i5 {p : Nat} (h : slt p) : oi p 6 5 := oi_tb (slt_tb h) rfl
theorem slt_i6 {p : Nat} (h : slt p) : oi p 6 6 := oi_tb (slt_tb h) rfl
theorem slt_i7 {p : Nat} (h : slt p) : oi p 6 7 := oi_tb (slt_tb h) rfl
theorem slt_i8 {p : Nat} (h : slt p) : oi p 6 8 := oi_tb (slt_tb h) rfl
theorem slt_i9 {p : Nat} (h : slt p) : oi p 6 9 := oi_tb (slt_tb h) rfl
theorem slt_a1 {p : Nat} (h : slt p) : ia (p + 1) 91 := by
  rcases h with rfl | rfl | rfl | rfl | rfl | rfl | rfl | rfl <;> exact ia_tb (by decide) rfl
end
section
/-! MODELS: a method as a function of the store; its answer, or none where a number leaves the ints, an index its array, or a loop its measure -/
def ck (P : Prop) [Decidable P] {α : Type} (m : Option α) : Option α := if P then m else none
def lb {α β : Type} (x : α) (f : α → β) : β := f x
abbrev inb (n : Nat) (i : Int) : Prop := 0 ≤ i ∧ i < (n : Int)
def sq {α β : Type} (m : Option (β × SS)) (k : β → SS → Option (α × SS)) : Option (α × SS) := match m with
  | some (x, s) => k x s
  | none => none
def sr {α β : Type} (m : Option ((α ⊕ β) × SS)) (k : β → SS → Option (α × SS)) : Option (α × SS) := match m with
  | some (.inl a, s) => some (a, s)
  | some (.inr x, s) => k x s
  | none => none
def srr {α β γ : Type} (m : Option ((α ⊕ β) × SS)) (k : β → SS → Option ((α ⊕ γ) × SS)) : Option ((α ⊕ γ) × SS) := match m with
  | some (.inl a, s) => some (.inl a, s)
  | some (.inr x, s) => k x s
  | none => none
def sx {α β : Type} (m : Option ((β ⊕ String) × SS)) (k : β → SS → Option ((α ⊕ String) × SS)) : Option ((α ⊕ String) × SS) := match m with
  | some (.inl x, s) => k x s
  | some (.inr E, s) => some (.inr E, s)
  | none => none
def bo (x y : Int) : Int := (iv x ||| iv y).toInt
def bs (x y : Int) : Int := (iv x <<< (iv y &&& 31)).toInt
def bh (x y : Int) : Int := (iv x >>> (iv y &&& 31)).toInt
def gS2 {α β : Type} (G : α → Prop) (G1 : β → Prop) : α ⊕ β → Prop
  | .inl a => G a
  | .inr b => G1 b
def cS2 {α β : Type} (C : α → List MC → Nat → Nat → Prop) (D : β → List MC → Nat → Nat → Prop) : α ⊕ β → List MC → Nat → Nat → Prop
  | .inl a => C a
  | .inr b => D b
def cJ (g : MG) (sc : MS) (M : MM) (d w : Nat) (Q : MO → List MC → Prop) {β : Type} (J : Nat) (lv : β → ML) (st : β → List MV) : β → List MC → Nat → Nat → Prop := fun b h mc ms => Ev g sc M d w J (lv b) (st b) h mc ms Q
/-- the answer of a method: a number, nothing, a place, or what it throws -/
def cI1 (Q : MO → List MC → Prop) : Int → List MC → Nat → Nat → Prop := fun a h _ _ => Q (.inl (some (iI a))) h
def cU1 (Q : MO → List MC → Prop) : Unit → List MC → Nat → Nat → Prop := fun _ h _ _ => Q (.inl none) h
def cP1 (Q : MO → List MC → Prop) : Nat → List MC → Nat → Nat → Prop := fun a h _ _ => Q (.inl (some (mr a))) h
def cE1 (Q : MO → List MC → Prop) : String → List MC → Nat → Nat → Prop := fun E h _ _ => Q (.inr E) h
def gU : Unit → Prop := fun _ => True
def gE : String → Prop := fun _ => True
/-- the judgement: what the model answers, the code does; what is made is what the store's count says -/
def Ew (g : MG) (sc : MS) (M : MM) (d w : Nat) (Q : MO → List MC → Prop) {α : Type} (G : α → Prop) (C : α → List MC → Nat → Nat → Prop) (pc : Nat) (lv : ML) (st : List MV) (h : List MC) (σ : SS) (m : Option (α × SS)) : Prop :=
  ∀ (a : α) (σ' : SS), m = some (a, σ') → (∃ h', Wd h' σ') ∧ K σ ≤ K σ' ∧ G a ∧ ∀ mc ms : Nat, (∀ h', Wd h' σ' → C a h' mc ms) → Ev g sc M d w pc lv st h (K σ' - K σ + mc) (K σ' - K σ + ms) Q
/-- a method's contract by its model -/
def Cw (g : MG) (N : MM) (F L : Nat) (av : List MV) {α : Type} (G : α → Prop) (C : (MO → List MC → Prop) → α → List MC → Nat → Nat → Prop) (h : List MC) (σ : SS) (m : Option (α × SS)) : Prop :=
  ∀ (a : α) (σ' : SS), m = some (a, σ') → (∃ h', Wd h' σ') ∧ K σ ≤ K σ' ∧ G a ∧ ∀ (d w : Nat) (Q : MO → List MC → Prop), F ≤ d → L ≤ w → (∀ h', Wd h' σ' → C Q a h' 0 0) → Ev g none N d w 0 (m_args 0 av) [] h (K σ' - K σ) (K σ' - K σ) Q
theorem w_step {g : MG} {sc : MS} {M : MM} {d w : Nat} {Q : MO → List MC → Prop} {α : Type} {G : α → Prop} {C : α → List MC → Nat → Nat → Prop} {pc : Nat} {lv : ML} {st : List MV} {h : List MC} {σ : SS} {m : Option (α × SS)} {pc2 : Nat} {lv2 : ML} {st2 : List MV} (hs : ∀ mc ms, Ev g sc M d w pc2 lv2 st2 h mc ms Q → Ev g sc M d w pc lv st h mc ms Q) (k : Ew g sc M d w Q G C pc2 lv2 st2 h σ m) : Ew g sc M d w Q G C pc lv st h σ m := by
  intro a σ' hm
  obtain ⟨k0, k1, k2, k3⟩ := k a σ' hm
  exact ⟨k0, k1, k2, fun mc ms hc => hs _ _ (k3 mc ms hc)⟩
theorem w_of {g : MG} {N : MM} {F L : Nat} {av : List MV} {α : Type} {G : α → Prop} {C : (MO → List MC → Prop) → α → List MC → Nat → Nat → Prop} {h : List MC} {σ : SS} {m : Option (α × SS)} (k : ∀ (d w : Nat) (Q : MO → List MC → Prop), F ≤ d → L ≤ w → Ew g none N d w Q G (C Q) 0 (m_args 0 av) [] h σ m) : Cw g N F L av G C h σ m := by
  intro a σ' hm
  obtain ⟨k0, k1, k2, -⟩ := k F L (fun _ _ => True) (Nat.le_refl _) (Nat.le_refl _) a σ' hm
  exact ⟨k0, k1, k2, fun d w Q hF hL hQ => (k d w Q hF hL a σ' hm).2.2.2 0 0 hQ⟩
theorem w_ck {g : MG} {sc : MS} {M : MM} {d w : Nat} {Q : MO → List MC → Prop} {α : Type} {G : α → Prop} {C : α → List MC → Nat → Nat → Prop} {pc : Nat} {lv : ML} {st : List MV} {h : List MC} {σ : SS} {m : Option (α × SS)} {P : Prop} [Decidable P] (k : P → Ew g sc M d w Q G C pc lv st h σ m) : Ew g sc M d w Q G C pc lv st h σ (ck P m) := by
  intro a σ' hm
  unfold ck at hm
  split at hm
  · rename_i hP
    exact k hP a σ' hm
  · cases hm
theorem w_top {g : MG} {sc : MS} {M : MM} {d w : Nat} {Q : MO → List MC → Prop} {α : Type} {G : α → Prop} {C : α → List MC → Nat → Nat → Prop} {pc : Nat} {lv : ML} {st : List MV} {h : List MC} {σ : SS}  {x : Int} {m : Int → Option (α × SS)} (k : ∀ y : Int, y = x → Ew g sc M d w Q G C pc lv (iI y :: st) h σ (m y)) : Ew g sc M d w Q G C pc lv (iI x :: st) h σ (lb x m) := k x rfl
theorem w_iconst {g : MG} {sc : MS} {M : MM} {d w : Nat} {Q : MO → List MC → Prop} {α : Type} {G : α → Prop} {C : α → List MC → Nat → Nat → Prop} {pc : Nat} {lv : ML} {st : List MV} {h : List MC} {σ : SS} {m : Option (α × SS)} {v : Int} (hd : decode M.2.1 pc = .ok (.iconst v, 1)) (k : Ew g sc M d w Q G C (pc + 1) lv (iI v :: st) h σ m) : Ew g sc M d w Q G C pc lv st h σ m := w_step (fun _ _ => e_iconst hd rfl) k
theorem w_bipush {g : MG} {sc : MS} {M : MM} {d w : Nat} {Q : MO → List MC → Prop} {α : Type} {G : α → Prop} {C : α → List MC → Nat → Nat → Prop} {pc : Nat} {lv : ML} {st : List MV} {h : List MC} {σ : SS} {m : Option (α × SS)} {v : Int} (hd : decode M.2.1 pc = .ok (.bipush v, 2)) (hv : (Int8.ofInt v).toInt32 = iv v) (k : Ew g sc M d w Q G C (pc + 2) lv (iI v :: st) h σ m) : Ew g sc M d w Q G C pc lv st h σ m := w_step (fun _ _ => e_bipush hd hv) k
theorem w_sipush {g : MG} {sc : MS} {M : MM} {d w : Nat} {Q : MO → List MC → Prop} {α : Type} {G : α → Prop} {C : α → List MC → Nat → Nat → Prop} {pc : Nat} {lv : ML} {st : List MV} {h : List MC} {σ : SS} {m : Option (α × SS)} {v : Int} (hd : decode M.2.1 pc = .ok (.sipush v, 3)) (hv : (Int16.ofInt v).toInt32 = iv v) (k : Ew g sc M d w Q G C (pc + 3) lv (iI v :: st) h σ m) : Ew g sc M d w Q G C pc lv st h σ m := w_step (fun _ _ => e_sipush hd hv) k
theorem w_ldc {g : MG} {sc : MS} {M : MM} {d w : Nat} {Q : MO → List MC → Prop} {α : Type} {G : α → Prop} {C : α → List MC → Nat → Nat → Prop} {pc : Nat} {lv : ML} {st : List MV} {h : List MC} {σ : SS} {m : Option (α × SS)} {i : Nat} {x : Int32} (v : Int) (hd : decode M.2.1 pc = .ok (.ldc i, 2)) (hw : Cond.constant M.1.cls i x ∈ m_Ts) (hv : x = iv v) (k : Ew g sc M d w Q G C (pc + 2) lv (iI v :: st) h σ m) : Ew g sc M d w Q G C pc lv st h σ m := w_step (fun _ _ => e_ldc hd (hv ▸ hw)) k
theorem w_iload_n {g : MG} {sc : MS} {M : MM} {d w : Nat} {Q : MO → List MC → Prop} {α : Type} {G : α → Prop} {C : α → List MC → Nat → Nat → Prop} {pc : Nat} {lv : ML} {st : List MV} {h : List MC} {σ : SS} {m : Option (α × SS)} {k9 : Fin 4} {i : Nat} {x : Int} (hd : decode M.2.1 pc = .ok (.iload_n k9, 1)) (hi : (k9 : Nat) = i) (hg : m_get lv i = some (iI x)) (k : Ew g sc M d w Q G C (pc + 1) lv (iI x :: st) h σ m) : Ew g sc M d w Q G C pc lv st h σ m := w_step (fun _ _ => e_iload_n hd hi hg) k
theorem w_iload {g : MG} {sc : MS} {M : MM} {d w : Nat} {Q : MO → List MC → Prop} {α : Type} {G : α → Prop} {C : α → List MC → Nat → Nat → Prop} {pc : Nat} {lv : ML} {st : List MV} {h : List MC} {σ : SS} {m : Option (α × SS)} {i : Nat} {x : Int} (hd : decode M.2.1 pc = .ok (.iload i, 2)) (hg : m_get lv i = some (iI x)) (k : Ew g sc M d w Q G C (pc + 2) lv (iI x :: st) h σ m) : Ew g sc M d w Q G C pc lv st h σ m := w_step (fun _ _ => e_iload hd hg) k
theorem w_aload_n {g : MG} {sc : MS} {M : MM} {d w : Nat} {Q : MO → List MC → Prop} {α : Type} {G : α → Prop} {C : α → List MC → Nat → Nat → Prop} {pc : Nat} {lv : ML} {st : List MV} {h : List MC} {σ : SS} {m : Option (α × SS)} {k9 : Fin 4} {i r : Nat} (hd : decode M.2.1 pc = .ok (.aload_n k9, 1)) (hi : (k9 : Nat) = i) (hg : m_get lv i = some (mr r)) (k : Ew g sc M d w Q G C (pc + 1) lv (mr r :: st) h σ m) : Ew g sc M d w Q G C pc lv st h σ m := w_step (fun _ _ => e_aload_n hd hi hg) k
theorem w_aload {g : MG} {sc : MS} {M : MM} {d w : Nat} {Q : MO → List MC → Prop} {α : Type} {G : α → Prop} {C : α → List MC → Nat → Nat → Prop} {pc : Nat} {lv : ML} {st : List MV} {h : List MC} {σ : SS} {m : Option (α × SS)} {i r : Nat} (hd : decode M.2.1 pc = .ok (.aload i, 2)) (hg : m_get lv i = some (mr r)) (k : Ew g sc M d w Q G C (pc + 2) lv (mr r :: st) h σ m) : Ew g sc M d w Q G C pc lv st h σ m := w_step (fun _ _ => e_aload hd hg) k
theorem w_istore_n {g : MG} {sc : MS} {M : MM} {d w : Nat} {Q : MO → List MC → Prop} {α : Type} {G : α → Prop} {C : α → List MC → Nat → Nat → Prop} {pc : Nat} {lv : ML} {st : List MV} {h : List MC} {σ : SS} {m : Option (α × SS)} {k9 : Fin 4} {i : Nat} {x : Int} (lv2 : ML) (hd : decode M.2.1 pc = .ok (.istore_n k9, 1)) (hi : (k9 : Nat) = i) (hn : i < M.2.2.1) (hlv2 : m_put lv i (iI x) = lv2) (k : Ew g sc M d w Q G C (pc + 1) lv2 st h σ m) : Ew g sc M d w Q G C pc lv (iI x :: st) h σ m := w_step (fun _ _ => e_istore_n hd hi hn hlv2) k
theorem w_istore {g : MG} {sc : MS} {M : MM} {d w : Nat} {Q : MO → List MC → Prop} {α : Type} {G : α → Prop} {C : α → List MC → Nat → Nat → Prop} {pc : Nat} {lv : ML} {st : List MV} {h : List MC} {σ : SS} {m : Option (α × SS)} {i : Nat} {x : Int} (lv2 : ML) (hd : decode M.2.1 pc = .ok (.istore i, 2)) (hn : i < M.2.2.1) (hlv2 : m_put lv i (iI x) = lv2) (k : Ew g sc M d w Q G C (pc + 2) lv2 st h σ m) : Ew g sc M d w Q G C pc lv (iI x :: st) h σ m := w_step (fun _ _ => e_istore hd hn hlv2) k
theorem w_astore_n {g : MG} {sc : MS} {M : MM} {d w : Nat} {Q : MO → List MC → Prop} {α : Type} {G : α → Prop} {C : α → List MC → Nat → Nat → Prop} {pc : Nat} {lv : ML} {st : List MV} {h : List MC} {σ : SS} {m : Option (α × SS)} {k9 : Fin 4} {i r : Nat} (lv2 : ML) (hd : decode M.2.1 pc = .ok (.astore_n k9, 1)) (hi : (k9 : Nat) = i) (hn : i < M.2.2.1) (hlv2 : m_put lv i (mr r) = lv2) (k : Ew g sc M d w Q G C (pc + 1) lv2 st h σ m) : Ew g sc M d w Q G C pc lv (mr r :: st) h σ m := w_step (fun _ _ => e_astore_n hd hi hn hlv2) k
theorem w_astore {g : MG} {sc : MS} {M : MM} {d w : Nat} {Q : MO → List MC → Prop} {α : Type} {G : α → Prop} {C : α → List MC → Nat → Nat → Prop} {pc : Nat} {lv : ML} {st : List MV} {h : List MC} {σ : SS} {m : Option (α × SS)} {i r : Nat} (lv2 : ML) (hd : decode M.2.1 pc = .ok (.astore i, 2)) (hn : i < M.2.2.1) (hlv2 : m_put lv i (mr r) = lv2) (k : Ew g sc M d w Q G C (pc + 2) lv2 st h σ m) : Ew g sc M d w Q G C pc lv (mr r :: st) h σ m := w_step (fun _ _ => e_astore hd hn hlv2) k
theorem w_iinc {g : MG} {sc : MS} {M : MM} {d w : Nat} {Q : MO → List MC → Prop} {α : Type} {G : α → Prop} {C : α → List MC → Nat → Nat → Prop} {pc : Nat} {lv : ML} {st : List MV} {h : List MC} {σ : SS} {m : Option (α × SS)} {i : Nat} {n x : Int} (lv2 : ML) (hd : decode M.2.1 pc = .ok (.iinc i n, 3)) (hg : m_get lv i = some (iI x)) (hn : i < M.2.2.1) (hlv2 : m_put lv i (iI (x + n)) = lv2) (k : rng (x + n) → Ew g sc M d w Q G C (pc + 3) lv2 st h σ m) : Ew g sc M d w Q G C pc lv st h σ (ck (rng (x + n)) m) := w_ck (fun c => w_step (fun _ _ => z_iinc hd hg hn hlv2) (k c))
theorem w_iadd {g : MG} {sc : MS} {M : MM} {d w : Nat} {Q : MO → List MC → Prop} {α : Type} {G : α → Prop} {C : α → List MC → Nat → Nat → Prop} {pc : Nat} {lv : ML} {st : List MV} {h : List MC} {σ : SS} {m : Option (α × SS)} {x y : Int} (hd : decode M.2.1 pc = .ok (.iadd, 1)) (k : rng (x + y) → Ew g sc M d w Q G C (pc + 1) lv (iI (x + y) :: st) h σ m) : Ew g sc M d w Q G C pc lv (iI y :: iI x :: st) h σ (ck (rng (x + y)) m) := w_ck (fun c => w_step (fun _ _ => z_iadd hd) (k c))
theorem w_isub {g : MG} {sc : MS} {M : MM} {d w : Nat} {Q : MO → List MC → Prop} {α : Type} {G : α → Prop} {C : α → List MC → Nat → Nat → Prop} {pc : Nat} {lv : ML} {st : List MV} {h : List MC} {σ : SS} {m : Option (α × SS)} {x y : Int} (hd : decode M.2.1 pc = .ok (.isub, 1)) (k : rng (x - y) → Ew g sc M d w Q G C (pc + 1) lv (iI (x - y) :: st) h σ m) : Ew g sc M d w Q G C pc lv (iI y :: iI x :: st) h σ (ck (rng (x - y)) m) := w_ck (fun c => w_step (fun _ _ => z_isub hd) (k c))
theorem w_imul {g : MG} {sc : MS} {M : MM} {d w : Nat} {Q : MO → List MC → Prop} {α : Type} {G : α → Prop} {C : α → List MC → Nat → Nat → Prop} {pc : Nat} {lv : ML} {st : List MV} {h : List MC} {σ : SS} {m : Option (α × SS)} {x y : Int} (hd : decode M.2.1 pc = .ok (.imul, 1)) (k : rng (x * y) → Ew g sc M d w Q G C (pc + 1) lv (iI (x * y) :: st) h σ m) : Ew g sc M d w Q G C pc lv (iI y :: iI x :: st) h σ (ck (rng (x * y)) m) := w_ck (fun c => w_step (fun _ _ => z_imul hd) (k c))
theorem w_and3 {g : MG} {sc : MS} {M : MM} {d w : Nat} {Q : MO → List MC → Prop} {α : Type} {G : α → Prop} {C : α → List MC → Nat → Nat → Prop} {pc : Nat} {lv : ML} {st : List MV} {h : List MC} {σ : SS} {m : Option (α × SS)} {x : Int} (hd : decode M.2.1 pc = .ok (.iand, 1)) (k : Ew g sc M d w Q G C (pc + 1) lv (iI (x % 4) :: st) h σ m) : Ew g sc M d w Q G C pc lv (iI 3 :: iI x :: st) h σ m := w_step (fun _ _ => z_and3 hd) k
theorem w_shr2 {g : MG} {sc : MS} {M : MM} {d w : Nat} {Q : MO → List MC → Prop} {α : Type} {G : α → Prop} {C : α → List MC → Nat → Nat → Prop} {pc : Nat} {lv : ML} {st : List MV} {h : List MC} {σ : SS} {m : Option (α × SS)} {x : Int} (hd : decode M.2.1 pc = .ok (.ishr, 1)) (hx : rng x) (k : Ew g sc M d w Q G C (pc + 1) lv (iI (x / 4) :: st) h σ m) : Ew g sc M d w Q G C pc lv (iI 2 :: iI x :: st) h σ m := w_step (fun _ _ => z_shr2 hd hx) k
theorem w_ior {g : MG} {sc : MS} {M : MM} {d w : Nat} {Q : MO → List MC → Prop} {α : Type} {G : α → Prop} {C : α → List MC → Nat → Nat → Prop} {pc : Nat} {lv : ML} {st : List MV} {h : List MC} {σ : SS} {m : Option (α × SS)} {x y : Int} (hd : decode M.2.1 pc = .ok (.ior, 1)) (k : Ew g sc M d w Q G C (pc + 1) lv (iI (bo x y) :: st) h σ m) : Ew g sc M d w Q G C pc lv (iI y :: iI x :: st) h σ m := w_step (fun _ _ q => e_ior hd (by rw [iv_of (iv x ||| iv y)]; exact q)) k
theorem w_ishl {g : MG} {sc : MS} {M : MM} {d w : Nat} {Q : MO → List MC → Prop} {α : Type} {G : α → Prop} {C : α → List MC → Nat → Nat → Prop} {pc : Nat} {lv : ML} {st : List MV} {h : List MC} {σ : SS} {m : Option (α × SS)} {x y : Int} (hd : decode M.2.1 pc = .ok (.ishl, 1)) (k : Ew g sc M d w Q G C (pc + 1) lv (iI (bs x y) :: st) h σ m) : Ew g sc M d w Q G C pc lv (iI y :: iI x :: st) h σ m := w_step (fun _ _ q => e_ishl hd (by rw [iv_of (iv x <<< (iv y &&& 31))]; exact q)) k
theorem w_ishr {g : MG} {sc : MS} {M : MM} {d w : Nat} {Q : MO → List MC → Prop} {α : Type} {G : α → Prop} {C : α → List MC → Nat → Nat → Prop} {pc : Nat} {lv : ML} {st : List MV} {h : List MC} {σ : SS} {m : Option (α × SS)} {x y : Int} (hd : decode M.2.1 pc = .ok (.ishr, 1)) (k : Ew g sc M d w Q G C (pc + 1) lv (iI (bh x y) :: st) h σ m) : Ew g sc M d w Q G C pc lv (iI y :: iI x :: st) h σ m := w_step (fun _ _ q => e_ishr hd (by rw [iv_of (iv x >>> (iv y &&& 31))]; exact q)) k
theorem bo_rng (x y : Int) : rng (bo x y) := iv_rng _
theorem bs_rng (x y : Int) : rng (bs x y) := iv_rng _
theorem bh_rng (x y : Int) : rng (bh x y) := iv_rng _
theorem w_dup {g : MG} {sc : MS} {M : MM} {d w : Nat} {Q : MO → List MC → Prop} {α : Type} {G : α → Prop} {C : α → List MC → Nat → Nat → Prop} {pc : Nat} {lv : ML} {st : List MV} {h : List MC} {σ : SS} {m : Option (α × SS)} {v : MV} (hd : decode M.2.1 pc = .ok (.dup, 1)) (hc : m_cat v = 1) (k : Ew g sc M d w Q G C (pc + 1) lv (v :: v :: st) h σ m) : Ew g sc M d w Q G C pc lv (v :: st) h σ m := w_step (fun _ _ => e_dup hd hc) k
theorem w_pop {g : MG} {sc : MS} {M : MM} {d w : Nat} {Q : MO → List MC → Prop} {α : Type} {G : α → Prop} {C : α → List MC → Nat → Nat → Prop} {pc : Nat} {lv : ML} {st : List MV} {h : List MC} {σ : SS} {m : Option (α × SS)} {v : MV} (hd : decode M.2.1 pc = .ok (.pop, 1)) (hc : m_cat v = 1) (k : Ew g sc M d w Q G C (pc + 1) lv st h σ m) : Ew g sc M d w Q G C pc lv (v :: st) h σ m := w_step (fun _ _ => e_pop hd hc) k
theorem w_dup2 {g : MG} {sc : MS} {M : MM} {d w : Nat} {Q : MO → List MC → Prop} {α : Type} {G : α → Prop} {C : α → List MC → Nat → Nat → Prop} {pc : Nat} {lv : ML} {st : List MV} {h : List MC} {σ : SS} {m : Option (α × SS)} {v y9 : MV} (hd : decode M.2.1 pc = .ok (.dup2, 1)) (hc : m_cat v = 1) (hc2 : m_cat y9 = 1) (k : Ew g sc M d w Q G C (pc + 1) lv (v :: y9 :: v :: y9 :: st) h σ m) : Ew g sc M d w Q G C pc lv (v :: y9 :: st) h σ m := w_step (fun _ _ => e_dup2 hd hc hc2) k
theorem w_goto {g : MG} {sc : MS} {M : MM} {d w : Nat} {Q : MO → List MC → Prop} {α : Type} {G : α → Prop} {C : α → List MC → Nat → Nat → Prop} {pc : Nat} {lv : ML} {st : List MV} {h : List MC} {σ : SS} {m : Option (α × SS)} {off : Int} (tgt : Nat) (hd : decode M.2.1 pc = .ok (.goto off, 3)) (ht : (pc : Int) + off = (tgt : Int)) (k : Ew g sc M d w Q G C tgt lv st h σ m) : Ew g sc M d w Q G C pc lv st h σ m := w_step (fun _ _ => e_goto hd ht) k
theorem w_both {g : MG} {sc : MS} {M : MM} {d w : Nat} {Q : MO → List MC → Prop} {α : Type} {G : α → Prop} {C : α → List MC → Nat → Nat → Prop} {pc : Nat} {lv : ML} {st : List MV} {h : List MC} {σ : SS}  {P : Prop} [Decidable P] {m1 m2 : Option (α × SS)} (k1 : P → Ew g sc M d w Q G C pc lv st h σ m1) (k2 : ¬ P → Ew g sc M d w Q G C pc lv st h σ m2) : Ew g sc M d w Q G C pc lv st h σ (if P then m1 else m2) := by
  by_cases c : P
  · rw [if_pos c]; exact k1 c
  · rw [if_neg c]; exact k2 c
theorem w_if_eq {g : MG} {sc : MS} {M : MM} {d w : Nat} {Q : MO → List MC → Prop} {α : Type} {G : α → Prop} {C : α → List MC → Nat → Nat → Prop} {pc : Nat} {lv : ML} {st : List MV} {h : List MC} {σ : SS} {m1 m2 : Option (α × SS)} {x off : Int} (tgt : Nat) (hd : decode M.2.1 pc = .ok (.ifCond .eq off, 3)) (ht : (pc : Int) + off = (tgt : Int)) (hx : rng x) (k1 : x = 0 → Ew g sc M d w Q G C tgt lv st h σ m1) (k2 : ¬ (x = 0) → Ew g sc M d w Q G C (pc + 3) lv st h σ m2) : Ew g sc M d w Q G C pc lv (iI x :: st) h σ (if x = 0 then m1 else m2) := by
  refine w_both (fun c => w_step (fun _ _ q => z_if_eq hd ht hx ?_ ?_) (k1 c)) (fun c => w_step (fun _ _ q => z_if_eq hd ht hx ?_ ?_) (k2 c))
  all_goals first | exact fun _ => q | (intro e; exact absurd e c) | (intro e; exact absurd c e) | (intro e; exact absurd e (by omega))
theorem w_icmp_eq {g : MG} {sc : MS} {M : MM} {d w : Nat} {Q : MO → List MC → Prop} {α : Type} {G : α → Prop} {C : α → List MC → Nat → Nat → Prop} {pc : Nat} {lv : ML} {st : List MV} {h : List MC} {σ : SS} {m1 m2 : Option (α × SS)} {x y off : Int} (tgt : Nat) (hd : decode M.2.1 pc = .ok (.if_icmp .eq off, 3)) (ht : (pc : Int) + off = (tgt : Int)) (hx : rng x) (hy : rng y) (k1 : x = y → Ew g sc M d w Q G C tgt lv st h σ m1) (k2 : ¬ (x = y) → Ew g sc M d w Q G C (pc + 3) lv st h σ m2) : Ew g sc M d w Q G C pc lv (iI y :: iI x :: st) h σ (if x = y then m1 else m2) := by
  refine w_both (fun c => w_step (fun _ _ q => z_icmp_eq hd ht hx hy ?_ ?_) (k1 c)) (fun c => w_step (fun _ _ q => z_icmp_eq hd ht hx hy ?_ ?_) (k2 c))
  all_goals first | exact fun _ => q | (intro e; exact absurd e c) | (intro e; exact absurd c e) | (intro e; exact absurd e (by omega))
theorem w_if_ne {g : MG} {sc : MS} {M : MM} {d w : Nat} {Q : MO → List MC → Prop} {α : Type} {G : α → Prop} {C : α → List MC → Nat → Nat → Prop} {pc : Nat} {lv : ML} {st : List MV} {h : List MC} {σ : SS} {m1 m2 : Option (α × SS)} {x off : Int} (tgt : Nat) (hd : decode M.2.1 pc = .ok (.ifCond .ne off, 3)) (ht : (pc : Int) + off = (tgt : Int)) (hx : rng x) (k1 : x = 0 → Ew g sc M d w Q G C (pc + 3) lv st h σ m1) (k2 : ¬ (x = 0) → Ew g sc M d w Q G C tgt lv st h σ m2) : Ew g sc M d w Q G C pc lv (iI x :: st) h σ (if x = 0 then m1 else m2) := by
  refine w_both (fun c => w_step (fun _ _ q => z_if_ne hd ht hx ?_ ?_) (k1 c)) (fun c => w_step (fun _ _ q => z_if_ne hd ht hx ?_ ?_) (k2 c))
  all_goals first | exact fun _ => q | (intro e; exact absurd e c) | (intro e; exact absurd c e) | (intro e; exact absurd e (by omega))
theorem w_icmp_ne {g : MG} {sc : MS} {M : MM} {d w : Nat} {Q : MO → List MC → Prop} {α : Type} {G : α → Prop} {C : α → List MC → Nat → Nat → Prop} {pc : Nat} {lv : ML} {st : List MV} {h : List MC} {σ : SS} {m1 m2 : Option (α × SS)} {x y off : Int} (tgt : Nat) (hd : decode M.2.1 pc = .ok (.if_icmp .ne off, 3)) (ht : (pc : Int) + off = (tgt : Int)) (hx : rng x) (hy : rng y) (k1 : x = y → Ew g sc M d w Q G C (pc + 3) lv st h σ m1) (k2 : ¬ (x = y) → Ew g sc M d w Q G C tgt lv st h σ m2) : Ew g sc M d w Q G C pc lv (iI y :: iI x :: st) h σ (if x = y then m1 else m2) := by
  refine w_both (fun c => w_step (fun _ _ q => z_icmp_ne hd ht hx hy ?_ ?_) (k1 c)) (fun c => w_step (fun _ _ q => z_icmp_ne hd ht hx hy ?_ ?_) (k2 c))
  all_goals first | exact fun _ => q | (intro e; exact absurd e c) | (intro e; exact absurd c e) | (intro e; exact absurd e (by omega))
theorem w_if_lt {g : MG} {sc : MS} {M : MM} {d w : Nat} {Q : MO → List MC → Prop} {α : Type} {G : α → Prop} {C : α → List MC → Nat → Nat → Prop} {pc : Nat} {lv : ML} {st : List MV} {h : List MC} {σ : SS} {m1 m2 : Option (α × SS)} {x off : Int} (tgt : Nat) (hd : decode M.2.1 pc = .ok (.ifCond .lt off, 3)) (ht : (pc : Int) + off = (tgt : Int)) (hx : rng x) (k1 : x < 0 → Ew g sc M d w Q G C tgt lv st h σ m1) (k2 : ¬ x < 0 → Ew g sc M d w Q G C (pc + 3) lv st h σ m2) : Ew g sc M d w Q G C pc lv (iI x :: st) h σ (if x < 0 then m1 else m2) := by
  refine w_both (fun c => w_step (fun _ _ q => z_if_lt hd ht hx ?_ ?_) (k1 c)) (fun c => w_step (fun _ _ q => z_if_lt hd ht hx ?_ ?_) (k2 c))
  all_goals first | exact fun _ => q | (intro e; exact absurd e c) | (intro e; exact absurd c e) | (intro e; exact absurd e (by omega))
theorem w_icmp_lt {g : MG} {sc : MS} {M : MM} {d w : Nat} {Q : MO → List MC → Prop} {α : Type} {G : α → Prop} {C : α → List MC → Nat → Nat → Prop} {pc : Nat} {lv : ML} {st : List MV} {h : List MC} {σ : SS} {m1 m2 : Option (α × SS)} {x y off : Int} (tgt : Nat) (hd : decode M.2.1 pc = .ok (.if_icmp .lt off, 3)) (ht : (pc : Int) + off = (tgt : Int)) (hx : rng x) (hy : rng y) (k1 : x < y → Ew g sc M d w Q G C tgt lv st h σ m1) (k2 : ¬ x < y → Ew g sc M d w Q G C (pc + 3) lv st h σ m2) : Ew g sc M d w Q G C pc lv (iI y :: iI x :: st) h σ (if x < y then m1 else m2) := by
  refine w_both (fun c => w_step (fun _ _ q => z_icmp_lt hd ht hx hy ?_ ?_) (k1 c)) (fun c => w_step (fun _ _ q => z_icmp_lt hd ht hx hy ?_ ?_) (k2 c))
  all_goals first | exact fun _ => q | (intro e; exact absurd e c) | (intro e; exact absurd c e) | (intro e; exact absurd e (by omega))
theorem w_if_ge {g : MG} {sc : MS} {M : MM} {d w : Nat} {Q : MO → List MC → Prop} {α : Type} {G : α → Prop} {C : α → List MC → Nat → Nat → Prop} {pc : Nat} {lv : ML} {st : List MV} {h : List MC} {σ : SS} {m1 m2 : Option (α × SS)} {x off : Int} (tgt : Nat) (hd : decode M.2.1 pc = .ok (.ifCond .ge off, 3)) (ht : (pc : Int) + off = (tgt : Int)) (hx : rng x) (k1 : x < 0 → Ew g sc M d w Q G C (pc + 3) lv st h σ m1) (k2 : ¬ x < 0 → Ew g sc M d w Q G C tgt lv st h σ m2) : Ew g sc M d w Q G C pc lv (iI x :: st) h σ (if x < 0 then m1 else m2) := by
  refine w_both (fun c => w_step (fun _ _ q => z_if_ge hd ht hx ?_ ?_) (k1 c)) (fun c => w_step (fun _ _ q => z_if_ge hd ht hx ?_ ?_) (k2 c))
  all_goals first | exact fun _ => q | (intro e; exact absurd e c) | (intro e; exact absurd c e) | (intro e; exact absurd e (by omega))
theorem w_icmp_ge {g : MG} {sc : MS} {M : MM} {d w : Nat} {Q : MO → List MC → Prop} {α : Type} {G : α → Prop} {C : α → List MC → Nat → Nat → Prop} {pc : Nat} {lv : ML} {st : List MV} {h : List MC} {σ : SS} {m1 m2 : Option (α × SS)} {x y off : Int} (tgt : Nat) (hd : decode M.2.1 pc = .ok (.if_icmp .ge off, 3)) (ht : (pc : Int) + off = (tgt : Int)) (hx : rng x) (hy : rng y) (k1 : x < y → Ew g sc M d w Q G C (pc + 3) lv st h σ m1) (k2 : ¬ x < y → Ew g sc M d w Q G C tgt lv st h σ m2) : Ew g sc M d w Q G C pc lv (iI y :: iI x :: st) h σ (if x < y then m1 else m2) := by
  refine w_both (fun c => w_step (fun _ _ q => z_icmp_ge hd ht hx hy ?_ ?_) (k1 c)) (fun c => w_step (fun _ _ q => z_icmp_ge hd ht hx hy ?_ ?_) (k2 c))
  all_goals first | exact fun _ => q | (intro e; exact absurd e c) | (intro e; exact absurd c e) | (intro e; exact absurd e (by omega))
theorem w_if_gt {g : MG} {sc : MS} {M : MM} {d w : Nat} {Q : MO → List MC → Prop} {α : Type} {G : α → Prop} {C : α → List MC → Nat → Nat → Prop} {pc : Nat} {lv : ML} {st : List MV} {h : List MC} {σ : SS} {m1 m2 : Option (α × SS)} {x off : Int} (tgt : Nat) (hd : decode M.2.1 pc = .ok (.ifCond .gt off, 3)) (ht : (pc : Int) + off = (tgt : Int)) (hx : rng x) (k1 : 0 < x → Ew g sc M d w Q G C tgt lv st h σ m1) (k2 : ¬ 0 < x → Ew g sc M d w Q G C (pc + 3) lv st h σ m2) : Ew g sc M d w Q G C pc lv (iI x :: st) h σ (if 0 < x then m1 else m2) := by
  refine w_both (fun c => w_step (fun _ _ q => z_if_gt hd ht hx ?_ ?_) (k1 c)) (fun c => w_step (fun _ _ q => z_if_gt hd ht hx ?_ ?_) (k2 c))
  all_goals first | exact fun _ => q | (intro e; exact absurd e c) | (intro e; exact absurd c e) | (intro e; exact absurd e (by omega))
theorem w_icmp_gt {g : MG} {sc : MS} {M : MM} {d w : Nat} {Q : MO → List MC → Prop} {α : Type} {G : α → Prop} {C : α → List MC → Nat → Nat → Prop} {pc : Nat} {lv : ML} {st : List MV} {h : List MC} {σ : SS} {m1 m2 : Option (α × SS)} {x y off : Int} (tgt : Nat) (hd : decode M.2.1 pc = .ok (.if_icmp .gt off, 3)) (ht : (pc : Int) + off = (tgt : Int)) (hx : rng x) (hy : rng y) (k1 : y < x → Ew g sc M d w Q G C tgt lv st h σ m1) (k2 : ¬ y < x → Ew g sc M d w Q G C (pc + 3) lv st h σ m2) : Ew g sc M d w Q G C pc lv (iI y :: iI x :: st) h σ (if y < x then m1 else m2) := by
  refine w_both (fun c => w_step (fun _ _ q => z_icmp_gt hd ht hx hy ?_ ?_) (k1 c)) (fun c => w_step (fun _ _ q => z_icmp_gt hd ht hx hy ?_ ?_) (k2 c))
  all_goals first | exact fun _ => q | (intro e; exact absurd e c) | (intro e; exact absurd c e) | (intro e; exact absurd e (by omega))
theorem w_if_le {g : MG} {sc : MS} {M : MM} {d w : Nat} {Q : MO → List MC → Prop} {α : Type} {G : α → Prop} {C : α → List MC → Nat → Nat → Prop} {pc : Nat} {lv : ML} {st : List MV} {h : List MC} {σ : SS} {m1 m2 : Option (α × SS)} {x off : Int} (tgt : Nat) (hd : decode M.2.1 pc = .ok (.ifCond .le off, 3)) (ht : (pc : Int) + off = (tgt : Int)) (hx : rng x) (k1 : 0 < x → Ew g sc M d w Q G C (pc + 3) lv st h σ m1) (k2 : ¬ 0 < x → Ew g sc M d w Q G C tgt lv st h σ m2) : Ew g sc M d w Q G C pc lv (iI x :: st) h σ (if 0 < x then m1 else m2) := by
  refine w_both (fun c => w_step (fun _ _ q => z_if_le hd ht hx ?_ ?_) (k1 c)) (fun c => w_step (fun _ _ q => z_if_le hd ht hx ?_ ?_) (k2 c))
  all_goals first | exact fun _ => q | (intro e; exact absurd e c) | (intro e; exact absurd c e) | (intro e; exact absurd e (by omega))
theorem w_icmp_le {g : MG} {sc : MS} {M : MM} {d w : Nat} {Q : MO → List MC → Prop} {α : Type} {G : α → Prop} {C : α → List MC → Nat → Nat → Prop} {pc : Nat} {lv : ML} {st : List MV} {h : List MC} {σ : SS} {m1 m2 : Option (α × SS)} {x y off : Int} (tgt : Nat) (hd : decode M.2.1 pc = .ok (.if_icmp .le off, 3)) (ht : (pc : Int) + off = (tgt : Int)) (hx : rng x) (hy : rng y) (k1 : y < x → Ew g sc M d w Q G C (pc + 3) lv st h σ m1) (k2 : ¬ y < x → Ew g sc M d w Q G C tgt lv st h σ m2) : Ew g sc M d w Q G C pc lv (iI y :: iI x :: st) h σ (if y < x then m1 else m2) := by
  refine w_both (fun c => w_step (fun _ _ q => z_icmp_le hd ht hx hy ?_ ?_) (k1 c)) (fun c => w_step (fun _ _ q => z_icmp_le hd ht hx hy ?_ ?_) (k2 c))
  all_goals first | exact fun _ => q | (intro e; exact absurd e c) | (intro e; exact absurd c e) | (intro e; exact absurd e (by omega))
theorem w_gi {g : MG} {sc : MS} {M : MM} {d w : Nat} {Q : MO → List MC → Prop} {α : Type} {G : α → Prop} {C : α → List MC → Nat → Nat → Prop} {pc : Nat} {lv : ML} {st : List MV} {h : List MC} {σ : SS} {m : Option (α × SS)} {i ci k p : Nat} (hd : decode M.2.1 pc = .ok (.getfield i, 3)) (hf : m_fl M.1.cls i ci k) (hW : Wd h σ) (hp : oi p ci k) (kk : Ew g sc M d w Q G C (pc + 3) lv (iI (σ.1 p k) :: st) h σ m) : Ew g sc M d w Q G C pc lv (mr p :: st) h σ m := by
  obtain ⟨-, a, b, c, hg, hR⟩ := hW
  obtain ⟨l, h1, h2⟩ := hp a b c (σ.1 1 99).toNat (σ.1 51 99).toNat hg
  exact w_step (fun _ _ => z_gi hd hf hR h1 h2) kk
theorem w_gr {g : MG} {sc : MS} {M : MM} {d w : Nat} {Q : MO → List MC → Prop} {α : Type} {G : α → Prop} {C : α → List MC → Nat → Nat → Prop} {pc : Nat} {lv : ML} {st : List MV} {h : List MC} {σ : SS} {m : Option (α × SS)} {i ci k p r : Nat} (hd : decode M.2.1 pc = .ok (.getfield i, 3)) (hf : m_fl M.1.cls i ci k) (hW : Wd h σ) (hp : orf p ci k r) (kk : Ew g sc M d w Q G C (pc + 3) lv (mr r :: st) h σ m) : Ew g sc M d w Q G C pc lv (mr p :: st) h σ m := by
  obtain ⟨-, a, b, c, hg, hR⟩ := hW
  obtain ⟨l, h1, h2⟩ := hp a b c (σ.1 1 99).toNat (σ.1 51 99).toNat hg
  exact w_step (fun _ _ => z_gr hd hf hR h1 h2) kk
theorem sF_g {σ : SS} {p k : Nat} {v : Int} (hk : k ≠ 99) (a : Nat) : (sF σ p k v).1 a 99 = σ.1 a 99 := sF_other (fun z => hk z.2.symm)
theorem sF_K {σ : SS} {p k : Nat} {v : Int} (hk : k ≠ 99) : K (sF σ p k v) = K σ := by unfold K; rw [sF_g hk, sF_g hk, sF_g hk]
theorem sA_K {σ : SS} {p : Nat} {i v : Int} : K (sA σ p i v) = K σ := rfl
/-- the heap changes, the store too, what was made stays: a step -/
theorem w_stepS {g : MG} {sc : MS} {M : MM} {d w : Nat} {Q : MO → List MC → Prop} {α : Type} {G : α → Prop} {C : α → List MC → Nat → Nat → Prop} {pc : Nat} {lv : ML} {st : List MV} {h : List MC} {σ : SS}  {τ : SS} {pc2 : Nat} {lv2 : ML} {st2 : List MV} {m : SS → Option (α × SS)} (hK : K τ = K σ) (hs : ∀ mc ms, (∀ h1, Wd h1 τ → Ev g sc M d w pc2 lv2 st2 h1 mc ms Q) → Ev g sc M d w pc lv st h mc ms Q) (hE : ∃ h1, Wd h1 τ) (k : ∀ (h1 : List MC) (σ1 : SS), σ1 = τ → Wd h1 σ1 → Ew g sc M d w Q G C pc2 lv2 st2 h1 σ1 (m σ1)) : Ew g sc M d w Q G C pc lv st h σ (lb τ m) := by
  intro a σ' hm
  obtain ⟨h0, hW0⟩ := hE
  obtain ⟨k0, k1, k2, -⟩ := k h0 τ rfl hW0 a σ' hm
  rw [hK] at k1
  refine ⟨k0, k1, k2, fun mc ms hc => hs _ _ (fun h1 hW1 => ?_)⟩
  have h9 := (k h1 τ rfl hW1 a σ' hm).2.2.2 mc ms hc
  rw [hK] at h9
  exact h9
theorem Wd.setF {h : List MC} {σ : SS} {p k ci : Nat} {v : Int} (hW : Wd h σ) (hp : oi p ci k) (hk : k ≠ 99) (hv : rng v) : ∃ h1, Wd h1 (sF σ p k v) := by
  obtain ⟨hn, a, b, c, hg, hR⟩ := hW
  obtain ⟨l, h1, h2⟩ := hp a b c (σ.1 1 99).toNat (σ.1 51 99).toNat hg
  have h9 := hR.setF (k := k) h1 hv
  rw [← sF_g (σ := σ) (p := p) (v := v) hk 1, ← sF_g (σ := σ) (p := p) (v := v) hk 51] at h9
  exact ⟨_, by rw [sF_g hk, sF_g hk, sF_g hk]; exact hn, a, b, c, hg, h9⟩
theorem w_pi {g : MG} {sc : MS} {M : MM} {d w : Nat} {Q : MO → List MC → Prop} {α : Type} {G : α → Prop} {C : α → List MC → Nat → Nat → Prop} {pc : Nat} {lv : ML} {st : List MV} {h : List MC} {σ : SS}  {i ci k p : Nat} {v : Int} {m : SS → Option (α × SS)} (hd : decode M.2.1 pc = .ok (.putfield i, 3)) (hf : m_fp M.1.cls i ci k .int false) (hW : Wd h σ) (hp : oi p ci k) (hk : k ≠ 99) (hv : rng v) (kk : ∀ (h1 : List MC) (σ1 : SS), σ1 = sF σ p k v → Wd h1 σ1 → Ew g sc M d w Q G C (pc + 3) lv st h1 σ1 (m σ1)) : Ew g sc M d w Q G C pc lv (iI v :: mr p :: st) h σ (lb (sF σ p k v) m) := by
  refine w_stepS (sF_K hk) ?_ (hW.setF hp hk hv) kk
  intro mc ms q
  obtain ⟨hn, a, b, c, hg, hR⟩ := hW
  obtain ⟨l, h1, h2⟩ := hp a b c (σ.1 1 99).toNat (σ.1 51 99).toNat hg
  refine z_pi hd hf hR h1 h2 hv (fun h9 hR9 => q h9 ⟨by rw [sF_g hk, sF_g hk, sF_g hk]; exact hn, a, b, c, hg, ?_⟩)
  rw [sF_g hk, sF_g hk]
  exact hR9
theorem w_ald {g : MG} {sc : MS} {M : MM} {d w : Nat} {Q : MO → List MC → Prop} {α : Type} {G : α → Prop} {C : α → List MC → Nat → Nat → Prop} {pc : Nat} {lv : ML} {st : List MV} {h : List MC} {σ : SS} {m : Option (α × SS)} {p n : Nat} {i : Int} (hd : decode M.2.1 pc = .ok (.iaload, 1)) (hW : Wd h σ) (hp : ia p n) (kk : inb n i → Ew g sc M d w Q G C (pc + 1) lv (iI (σ.2.1 p i) :: st) h σ m) : Ew g sc M d w Q G C pc lv (iI i :: mr p :: st) h σ (ck (inb n i) m) := by
  obtain ⟨-, a, b, c, hg, hR⟩ := hW
  exact w_ck (fun q => w_step (fun _ _ => z_ald hd hR (hp.2 a b c _ _ hg) q.1 q.2 hp.1) (kk q))
theorem w_bld {g : MG} {sc : MS} {M : MM} {d w : Nat} {Q : MO → List MC → Prop} {α : Type} {G : α → Prop} {C : α → List MC → Nat → Nat → Prop} {pc : Nat} {lv : ML} {st : List MV} {h : List MC} {σ : SS} {m : Option (α × SS)} {p n : Nat} {i : Int} (hd : decode M.2.1 pc = .ok (.baload, 1)) (hW : Wd h σ) (hp : za p n) (kk : inb n i → Ew g sc M d w Q G C (pc + 1) lv (iI (σ.2.1 p i) :: st) h σ m) : Ew g sc M d w Q G C pc lv (iI i :: mr p :: st) h σ (ck (inb n i) m) := by
  obtain ⟨-, a, b, c, hg, hR⟩ := hW
  exact w_ck (fun q => w_step (fun _ _ => z_bld hd hR (hp.2 a b c _ _ hg) q.1 q.2 hp.1) (kk q))
theorem Wd.setA {h : List MC} {σ : SS} {p n : Nat} {i v : Int} (hW : Wd h σ) (hp : ia p n) (hv : rng v) : ∃ h1, Wd h1 (sA σ p i v) := by
  obtain ⟨hn, a, b, c, hg, hR⟩ := hW
  exact ⟨_, hn, a, b, c, hg, hR.setA (i := i) (hp.2 a b c _ _ hg) hv⟩
theorem Wd.setZ {h : List MC} {σ : SS} {p n : Nat} {i v : Int} (hW : Wd h σ) (hp : za p n) (hv : rng v) : ∃ h1, Wd h1 (sA σ p i v) := by
  obtain ⟨hn, a, b, c, hg, hR⟩ := hW
  exact ⟨_, hn, a, b, c, hg, hR.setA (i := i) (hp.2 a b c _ _ hg) hv⟩
theorem w_ast {g : MG} {sc : MS} {M : MM} {d w : Nat} {Q : MO → List MC → Prop} {α : Type} {G : α → Prop} {C : α → List MC → Nat → Nat → Prop} {pc : Nat} {lv : ML} {st : List MV} {h : List MC} {σ : SS}  {p n : Nat} {i v : Int} {m : SS → Option (α × SS)} (hd : decode M.2.1 pc = .ok (.iastore, 1)) (hW : Wd h σ) (hp : ia p n) (hv : rng v) (kk : inb n i → ∀ (h1 : List MC) (σ1 : SS), σ1 = sA σ p i v → Wd h1 σ1 → Ew g sc M d w Q G C (pc + 1) lv st h1 σ1 (m σ1)) : Ew g sc M d w Q G C pc lv (iI v :: iI i :: mr p :: st) h σ (ck (inb n i) (lb (sA σ p i v) m)) := by
  refine w_ck (fun z => w_stepS sA_K ?_ (hW.setA hp hv) (kk z))
  intro mc ms q
  obtain ⟨hn, a, b, c, hg, hR⟩ := hW
  exact z_ast hd hR (hp.2 a b c _ _ hg) z.1 z.2 hp.1 hv (fun h9 hR9 => q h9 ⟨hn, a, b, c, hg, hR9⟩)
theorem w_bst {g : MG} {sc : MS} {M : MM} {d w : Nat} {Q : MO → List MC → Prop} {α : Type} {G : α → Prop} {C : α → List MC → Nat → Nat → Prop} {pc : Nat} {lv : ML} {st : List MV} {h : List MC} {σ : SS}  {p n : Nat} {i v : Int} {m : SS → Option (α × SS)} (hd : decode M.2.1 pc = .ok (.bastore, 1)) (hW : Wd h σ) (hp : za p n) (hv : v = 0 ∨ v = 1) (kk : inb n i → ∀ (h1 : List MC) (σ1 : SS), σ1 = sA σ p i v → Wd h1 σ1 → Ew g sc M d w Q G C (pc + 1) lv st h1 σ1 (m σ1)) : Ew g sc M d w Q G C pc lv (iI v :: iI i :: mr p :: st) h σ (ck (inb n i) (lb (sA σ p i v) m)) := by
  refine w_ck (fun z => w_stepS sA_K ?_ (hW.setZ hp (by omega)) (kk z))
  intro mc ms q
  obtain ⟨hn, a, b, c, hg, hR⟩ := hW
  exact z_bst hd hR (hp.2 a b c _ _ hg) z.1 z.2 hp.1 hv (fun h9 hR9 => q h9 ⟨hn, a, b, c, hg, hR9⟩)
theorem w_len {g : MG} {sc : MS} {M : MM} {d w : Nat} {Q : MO → List MC → Prop} {α : Type} {G : α → Prop} {C : α → List MC → Nat → Nat → Prop} {pc : Nat} {lv : ML} {st : List MV} {h : List MC} {σ : SS} {m : Option (α × SS)} {p n : Nat} (hd : decode M.2.1 pc = .ok (.arraylength, 1)) (hW : Wd h σ) (hp : ia p n) (kk : Ew g sc M d w Q G C (pc + 1) lv (iI (n : Int) :: st) h σ m) : Ew g sc M d w Q G C pc lv (mr p :: st) h σ m := by
  obtain ⟨-, a, b, c, hg, hR⟩ := hW
  exact w_step (fun _ _ => z_len hd hR (hp.2 a b c _ _ hg)) kk
/-! ends: by return, at a join -/
theorem w_iret {g : MG} {sc : MS} {M : MM} {d w : Nat} {Q : MO → List MC → Prop} {α : Type} {G : α → Prop} {C : α → List MC → Nat → Nat → Prop} {pc : Nat} {lv : ML}  {h : List MC} {σ : SS}  {x : Int} {a : α} (hd : decode M.2.1 pc = .ok (.ireturn, 1)) (hret : M.2.2.2.1 = some .int) (hW : Wd h σ) (ha : ∀ h' mc ms, C a h' mc ms → Q (.inl (some (iI x))) h') (hG : G a) : Ew g sc M d w Q G C pc lv [iI x] h σ (some (a, σ)) := by
  intro a9 σ9 hm
  cases hm
  exact ⟨⟨h, hW⟩, Nat.le_refl _, hG, fun mc ms hc => z_iret hd hret (ha _ _ _ (hc h hW))⟩
theorem w_zret {g : MG} {sc : MS} {M : MM} {d w : Nat} {Q : MO → List MC → Prop} {α : Type} {G : α → Prop} {C : α → List MC → Nat → Nat → Prop} {pc : Nat} {lv : ML}  {h : List MC} {σ : SS}  {x : Int} {a : α} (hd : decode M.2.1 pc = .ok (.ireturn, 1)) (hret : M.2.2.2.1 = some .boolean) (hx : x = 0 ∨ x = 1) (hW : Wd h σ) (ha : ∀ h' mc ms, C a h' mc ms → Q (.inl (some (iI x))) h') (hG : G a) : Ew g sc M d w Q G C pc lv [iI x] h σ (some (a, σ)) := by
  intro a9 σ9 hm
  cases hm
  exact ⟨⟨h, hW⟩, Nat.le_refl _, hG, fun mc ms hc => z_zret hd hret hx (ha _ _ _ (hc h hW))⟩
theorem w_ret {g : MG} {sc : MS} {M : MM} {d w : Nat} {Q : MO → List MC → Prop} {α : Type} {G : α → Prop} {C : α → List MC → Nat → Nat → Prop} {pc : Nat} {lv : ML}  {h : List MC} {σ : SS}  {a : α} (hd : decode M.2.1 pc = .ok (.return_, 1)) (hret : M.2.2.2.1 = none) (hW : Wd h σ) (ha : ∀ h' mc ms, C a h' mc ms → Q (.inl none) h') (hG : G a) : Ew g sc M d w Q G C pc lv [] h σ (some (a, σ)) := by
  intro a9 σ9 hm
  cases hm
  exact ⟨⟨h, hW⟩, Nat.le_refl _, hG, fun mc ms hc => e_return hd hret (ha _ _ _ (hc h hW))⟩
theorem w_aret {g : MG} {sc : MS} {M : MM} {d w : Nat} {Q : MO → List MC → Prop} {α : Type} {G : α → Prop} {C : α → List MC → Nat → Nat → Prop} {pc : Nat} {lv : ML}  {h : List MC} {σ : SS}  {r : Nat} {rt : FieldType} {a : α} (hd : decode M.2.1 pc = .ok (.areturn, 1)) (hret : M.2.2.2.1 = some rt) (hrt : (∃ n, rt = .object n) ∨ ∃ t, rt = .array t) (hW : Wd h σ) (ha : ∀ h' mc ms, C a h' mc ms → Q (.inl (some (mr r))) h') (hG : G a) : Ew g sc M d w Q G C pc lv [mr r] h σ (some (a, σ)) := by
  intro a9 σ9 hm
  cases hm
  exact ⟨⟨h, hW⟩, Nat.le_refl _, hG, fun mc ms hc => e_areturn hd hret hrt (ha _ _ _ (hc h hW))⟩
/-- locals may be forgotten -/
def m_sub2 (l : ML) : ML → Prop
  | [] => True
  | q :: r => m_get l q.1 = some q.2 ∧ m_sub2 l r
theorem m_sn (l : ML) : m_sub2 l [] := True.intro
theorem m_sc2 {l r : ML} {i : Nat} {v : MV} (h : m_get l i = some v) (t : m_sub2 l r) : m_sub2 l ((i, v) :: r) := ⟨h, t⟩
theorem Ev.sub {g : MG} {sc : MS} {M : MM} {d w pc : Nat} {lv lv2 : ML} {st : List MV} {h : List MC} {mc ms : Nat} {Q : MO → List MC → Prop} (hs : m_sub2 lv lv2) (k : Ev g sc M d w pc lv2 st h mc ms Q) : Ev g sc M d w pc lv st h mc ms Q := by
  intro p e R s m args below meth c A al0 H locs cells slots CT ST ls ws LV VS hF hSt hsc hR g1 g2 g3 g4 hA hK hP hD hS hW hal hls hlv hst
  have key : ∀ l2 : ML, m_sub2 lv l2 → ∃ LV2, m_ls (m_al ws) sc l2 LV2 ∧ ∀ q ∈ LV2, q ∈ LV := by
    intro l2
    induction l2 with
    | nil => intro _; exact ⟨[], m_ls.nil, fun q hq => by cases hq⟩
    | cons q r ih =>
      intro hq
      obtain ⟨h1, h2⟩ := hq
      obtain ⟨LV2, h3, h4⟩ := ih h2
      obtain ⟨V, h5, h6⟩ := hlv.at (m_get_find h1)
      refine ⟨(q.1, V) :: LV2, m_ls.cons h6 h3, fun z hz => ?_⟩
      rcases List.mem_cons.mp hz with rfl | hz
      · exact h5
      · exact h4 z hz
  obtain ⟨LV2, h1, h2⟩ := key lv2 hs
  exact k p e R s m args below meth c A al0 H locs cells slots CT ST ls ws LV2 VS hF hSt hsc hR g1 g2 g3 g4 hA hK hP hD hS hW hal ⟨hls.1, hls.2.1, fun q hq => hls.2.2 q (h2 q hq)⟩ h1 hst
theorem w_sub {g : MG} {sc : MS} {M : MM} {d w : Nat} {Q : MO → List MC → Prop} {α : Type} {G : α → Prop} {C : α → List MC → Nat → Nat → Prop} {pc : Nat} {lv : ML} {st : List MV} {h : List MC} {σ : SS} {m : Option (α × SS)} {lv2 : ML} (hs : m_sub2 lv lv2) (k : Ew g sc M d w Q G C pc lv2 st h σ m) : Ew g sc M d w Q G C pc lv st h σ m := w_step (fun _ _ => Ev.sub hs) k
theorem w_exit {g : MG} {sc : MS} {M : MM} {d w : Nat} {Q : MO → List MC → Prop} {α : Type} {G : α → Prop} {C : α → List MC → Nat → Nat → Prop} {pc : Nat} {lv : ML} {st : List MV} {h : List MC} {σ : SS}  {a : α} (lv2 : ML) (hs : m_sub2 lv lv2) (hW : Wd h σ) (ha : ∀ h' mc ms, C a h' mc ms → Ev g sc M d w pc lv2 st h' mc ms Q) (hG : G a) : Ew g sc M d w Q G C pc lv st h σ (some (a, σ)) := by
  intro a9 σ9 hm
  cases hm
  refine ⟨⟨h, hW⟩, Nat.le_refl _, hG, fun mc ms hc => Ev.sub hs ?_⟩
  rw [Nat.sub_self, Nat.zero_add, Nat.zero_add]
  exact ha _ _ _ (hc h hW)
/-! one stretch behind another -/
theorem w_sq {g : MG} {sc : MS} {M : MM} {d w : Nat} {Q : MO → List MC → Prop} {α : Type} {G : α → Prop} {C : α → List MC → Nat → Nat → Prop} {pc : Nat} {lv : ML} {st : List MV} {h : List MC} {σ : SS}  {β : Type} {G1 : β → Prop} {J : Nat} {lvJ : β → ML} {stJ : β → List MV} {m1 : Option (β × SS)} {k : β → SS → Option (α × SS)} (h1 : Ew g sc M d w Q G1 (cJ g sc M d w Q J lvJ stJ) pc lv st h σ m1) (h2 : ∀ (x : β) (σ1 : SS) (h1 : List MC), Wd h1 σ1 → G1 x → Ew g sc M d w Q G C J (lvJ x) (stJ x) h1 σ1 (k x σ1)) : Ew g sc M d w Q G C pc lv st h σ (sq m1 k) := by
  intro a σ' hm
  unfold sq at hm
  split at hm
  · rename_i x s
    obtain ⟨⟨h0, hW0⟩, a1, a2, a3⟩ := h1 x s rfl
    obtain ⟨b0, b1, b2, -⟩ := h2 x s h0 hW0 a2 a σ' hm
    refine ⟨b0, Nat.le_trans a1 b1, b2, fun mc ms hc => ?_⟩
    exact Ev.room (by omega) (by omega) (a3 (K σ' - K s + mc) (K σ' - K s + ms) (fun h' hW' => (h2 x s h' hW' a2 a σ' hm).2.2.2 mc ms hc))
  · cases hm
theorem w_sr {g : MG} {sc : MS} {M : MM} {d w : Nat} {Q : MO → List MC → Prop} {α : Type} {G : α → Prop} {C : α → List MC → Nat → Nat → Prop} {pc : Nat} {lv : ML} {st : List MV} {h : List MC} {σ : SS}  {β : Type} {G1 : β → Prop} {J : Nat} {lvJ : β → ML} {stJ : β → List MV} {m1 : Option ((α ⊕ β) × SS)} {k : β → SS → Option (α × SS)} (h1 : Ew g sc M d w Q (gS2 G G1) (cS2 C (cJ g sc M d w Q J lvJ stJ)) pc lv st h σ m1) (h2 : ∀ (x : β) (σ1 : SS) (h1 : List MC), Wd h1 σ1 → G1 x → Ew g sc M d w Q G C J (lvJ x) (stJ x) h1 σ1 (k x σ1)) : Ew g sc M d w Q G C pc lv st h σ (sr m1 k) := by
  intro a σ' hm
  unfold sr at hm
  split at hm
  · rename_i a9 s
    cases hm
    obtain ⟨a0, a1, a2, a3⟩ := h1 _ _ rfl
    exact ⟨a0, a1, a2, a3⟩
  · rename_i x s
    obtain ⟨⟨h0, hW0⟩, a1, a2, a3⟩ := h1 _ _ rfl
    obtain ⟨b0, b1, b2, -⟩ := h2 x s h0 hW0 a2 a σ' hm
    refine ⟨b0, Nat.le_trans a1 b1, b2, fun mc ms hc => ?_⟩
    exact Ev.room (by omega) (by omega) (a3 (K σ' - K s + mc) (K σ' - K s + ms) (fun h' hW' => (h2 x s h' hW' a2 a σ' hm).2.2.2 mc ms hc))
  · cases hm
theorem w_srr {g : MG} {sc : MS} {M : MM} {d w : Nat} {Q : MO → List MC → Prop}  {pc : Nat} {lv : ML} {st : List MV} {h : List MC} {σ : SS}  {α β γ : Type} {G : α → Prop} {C : α → List MC → Nat → Nat → Prop} {G2 : γ → Prop} {D2 : γ → List MC → Nat → Nat → Prop} {G1 : β → Prop} {J : Nat} {lvJ : β → ML} {stJ : β → List MV} {m1 : Option ((α ⊕ β) × SS)} {k : β → SS → Option ((α ⊕ γ) × SS)} (h1 : Ew g sc M d w Q (gS2 G G1) (cS2 C (cJ g sc M d w Q J lvJ stJ)) pc lv st h σ m1) (h2 : ∀ (x : β) (σ1 : SS) (h1 : List MC), Wd h1 σ1 → G1 x → Ew g sc M d w Q (gS2 G G2) (cS2 C D2) J (lvJ x) (stJ x) h1 σ1 (k x σ1)) : Ew g sc M d w Q (gS2 G G2) (cS2 C D2) pc lv st h σ (srr m1 k) := by
  intro a σ' hm
  unfold srr at hm
  split at hm
  · rename_i a9 s
    cases hm
    obtain ⟨a0, a1, a2, a3⟩ := h1 _ _ rfl
    exact ⟨a0, a1, a2, a3⟩
  · rename_i x s
    obtain ⟨⟨h0, hW0⟩, a1, a2, a3⟩ := h1 _ _ rfl
    obtain ⟨b0, b1, b2, -⟩ := h2 x s h0 hW0 a2 a σ' hm
    refine ⟨b0, Nat.le_trans a1 b1, b2, fun mc ms hc => ?_⟩
    exact Ev.room (by omega) (by omega) (a3 (K σ' - K s + mc) (K σ' - K s + ms) (fun h' hW' => (h2 x s h' hW' a2 a σ' hm).2.2.2 mc ms hc))
  · cases hm
theorem w_cSI {g : MG} {sc : MS} {M : MM} {d w : Nat} {Q : MO → List MC → Prop} {α : Type} {G : α → Prop} {C : α → List MC → Nat → Nat → Prop} {pc : Nat} {lv : ML} {st : List MV} {h : List MC} {σ : SS}  {N : MM} {F L : Nat} {G1 : Int → Prop} {m1 : Option (Int × SS)} {k : Int → SS → Option (α × SS)} {i n : Nat} (av st' : List MV) (hd : decode M.2.1 pc = .ok (.invokestatic i, 3)) (hN : m_me N n) (hl : m_lS M.1.cls i N) (hW : Wd h σ) (hC : Cw g N F L (av) G1 cI1 h σ m1) (hst0 : st = av.reverse ++ st') (hn : av.length = n) (hsl : ((av).map m_cat).sum ≤ N.2.2.1) (hns : av.all m_nsc = true) (h8 : (st'.map m_cat).sum ≤ 8) (hd2 : F + 1 ≤ d) (hw2 : 19 + N.2.2.1 + L ≤ w) (kk : ∀ (a : Int) (σ1 : SS) (h1 : List MC), Wd h1 σ1 → G1 a → Ew g sc M d w Q G C (pc + 3) lv (iI a :: st') h1 σ1 (k a σ1)) : Ew g sc M d w Q G C pc lv st h σ (sq m1 k) := by
  intro a9 σ' hm
  unfold sq at hm
  split at hm
  · rename_i a s
    obtain ⟨⟨h0, hW0⟩, a1, a2, a3⟩ := hC a s rfl
    obtain ⟨b0, b1, b2, -⟩ := kk a s h0 hW0 a2 a9 σ' hm
    refine ⟨b0, Nat.le_trans a1 b1, b2, fun mc ms hc => ?_⟩
    refine Ev.room (mc2 := (K s - K σ) + (K σ' - K s + mc)) (ms2 := (K s - K σ) + (K σ' - K s + ms)) (by omega) (by omega) ?_
    refine e_invS (Q9 := fun o h9 => o = .inl (some (iI a)) ∧ Wd h9 s) hd hN hl hst0 hn hsl hns h8 hd2 hw2 (a3 F L _ (Nat.le_refl _) (Nat.le_refl _) (fun h' hW' => ⟨rfl, hW'⟩)) ?_ ?_
    · rintro r h9 ⟨e1, e2⟩
      cases e1
      exact (kk a s h9 e2 a2 a9 σ' hm).2.2.2 mc ms hc
    · rintro E h9 ⟨e1, e2⟩
      cases e1
  · cases hm
theorem w_cSU {g : MG} {sc : MS} {M : MM} {d w : Nat} {Q : MO → List MC → Prop} {α : Type} {G : α → Prop} {C : α → List MC → Nat → Nat → Prop} {pc : Nat} {lv : ML} {st : List MV} {h : List MC} {σ : SS}  {N : MM} {F L : Nat} {G1 : Unit → Prop} {m1 : Option (Unit × SS)} {k : Unit → SS → Option (α × SS)} {i n : Nat} (av st' : List MV) (hd : decode M.2.1 pc = .ok (.invokestatic i, 3)) (hN : m_me N n) (hl : m_lS M.1.cls i N) (hW : Wd h σ) (hC : Cw g N F L (av) G1 cU1 h σ m1) (hst0 : st = av.reverse ++ st') (hn : av.length = n) (hsl : ((av).map m_cat).sum ≤ N.2.2.1) (hns : av.all m_nsc = true) (h8 : (st'.map m_cat).sum ≤ 8) (hd2 : F + 1 ≤ d) (hw2 : 19 + N.2.2.1 + L ≤ w) (kk : ∀ (a : Unit) (σ1 : SS) (h1 : List MC), Wd h1 σ1 → G1 a → Ew g sc M d w Q G C (pc + 3) lv st' h1 σ1 (k a σ1)) : Ew g sc M d w Q G C pc lv st h σ (sq m1 k) := by
  intro a9 σ' hm
  unfold sq at hm
  split at hm
  · rename_i a s
    obtain ⟨⟨h0, hW0⟩, a1, a2, a3⟩ := hC a s rfl
    obtain ⟨b0, b1, b2, -⟩ := kk a s h0 hW0 a2 a9 σ' hm
    refine ⟨b0, Nat.le_trans a1 b1, b2, fun mc ms hc => ?_⟩
    refine Ev.room (mc2 := (K s - K σ) + (K σ' - K s + mc)) (ms2 := (K s - K σ) + (K σ' - K s + ms)) (by omega) (by omega) ?_
    refine e_invS (Q9 := fun o h9 => o = .inl (none) ∧ Wd h9 s) hd hN hl hst0 hn hsl hns h8 hd2 hw2 (a3 F L _ (Nat.le_refl _) (Nat.le_refl _) (fun h' hW' => ⟨rfl, hW'⟩)) ?_ ?_
    · rintro r h9 ⟨e1, e2⟩
      cases e1
      exact (kk a s h9 e2 a2 a9 σ' hm).2.2.2 mc ms hc
    · rintro E h9 ⟨e1, e2⟩
      cases e1
  · cases hm
theorem w_xSU {g : MG} {sc : MS} {M : MM} {d w : Nat} {Q : MO → List MC → Prop}  {pc : Nat} {lv : ML} {st : List MV} {h : List MC} {σ : SS}  {α : Type} {G : α → Prop} {C : α → List MC → Nat → Nat → Prop} {N : MM} {F L : Nat} {G1 : Unit → Prop} {m1 : Option ((Unit ⊕ String) × SS)} {k : Unit → SS → Option ((α ⊕ String) × SS)} {i n : Nat} (av st' : List MV) (hd : decode M.2.1 pc = .ok (.invokestatic i, 3)) (hN : m_me N n) (hl : m_lS M.1.cls i N) (hh : M.2.2.2.2 = []) (hW : Wd h σ) (hC : Cw g N F L (av) (gS2 G1 gE) (fun Q => cS2 (cU1 Q) (cE1 Q)) h σ m1) (hst0 : st = av.reverse ++ st') (hn : av.length = n) (hsl : ((av).map m_cat).sum ≤ N.2.2.1) (hns : av.all m_nsc = true) (h8 : (st'.map m_cat).sum ≤ 8) (hd2 : F + 1 ≤ d) (hw2 : 19 + N.2.2.1 + L ≤ w) (kk : ∀ (a : Unit) (σ1 : SS) (h1 : List MC), Wd h1 σ1 → G1 a → Ew g sc M d w Q (gS2 G gE) (cS2 C (cE1 Q)) (pc + 3) lv st' h1 σ1 (k a σ1)) : Ew g sc M d w Q (gS2 G gE) (cS2 C (cE1 Q)) pc lv st h σ (sx m1 k) := by
  intro a9 σ' hm
  unfold sx at hm
  split at hm
  · rename_i a s
    obtain ⟨⟨h0, hW0⟩, a1, a2, a3⟩ := hC _ _ rfl
    obtain ⟨b0, b1, b2, -⟩ := kk a s h0 hW0 a2 a9 σ' hm
    refine ⟨b0, Nat.le_trans a1 b1, b2, fun mc ms hc => ?_⟩
    refine Ev.room (mc2 := (K s - K σ) + (K σ' - K s + mc)) (ms2 := (K s - K σ) + (K σ' - K s + ms)) (by omega) (by omega) ?_
    refine e_invS (Q9 := fun o h9 => o = .inl (none) ∧ Wd h9 s) hd hN hl hst0 hn hsl hns h8 hd2 hw2 (a3 F L _ (Nat.le_refl _) (Nat.le_refl _) (fun h' hW' => ⟨rfl, hW'⟩)) ?_ ?_
    · rintro r h9 ⟨e1, e2⟩
      cases e1
      exact (kk a s h9 e2 a2 a9 σ' hm).2.2.2 mc ms hc
    · rintro E h9 ⟨e1, e2⟩
      cases e1
  · rename_i E s
    cases hm
    obtain ⟨⟨h0, hW0⟩, a1, a2, a3⟩ := hC _ _ rfl
    refine ⟨⟨h0, hW0⟩, a1, True.intro, fun mc ms hc => ?_⟩
    refine e_invS (Q9 := fun o h9 => o = .inr E ∧ Wd h9 σ') hd hN hl hst0 hn hsl hns h8 hd2 hw2 (a3 F L _ (Nat.le_refl _) (Nat.le_refl _) (fun h' hW' => ⟨rfl, hW'⟩)) ?_ ?_
    · rintro r h9 ⟨e1, e2⟩
      cases e1
    · rintro E9 h9 ⟨e1, e2⟩
      cases e1
      exact x_out hh (hc h9 e2)
  · cases hm
theorem w_cSP {g : MG} {sc : MS} {M : MM} {d w : Nat} {Q : MO → List MC → Prop} {α : Type} {G : α → Prop} {C : α → List MC → Nat → Nat → Prop} {pc : Nat} {lv : ML} {st : List MV} {h : List MC} {σ : SS}  {N : MM} {F L : Nat} {G1 : Nat → Prop} {m1 : Option (Nat × SS)} {k : Nat → SS → Option (α × SS)} {i n : Nat} (av st' : List MV) (hd : decode M.2.1 pc = .ok (.invokestatic i, 3)) (hN : m_me N n) (hl : m_lS M.1.cls i N) (hW : Wd h σ) (hC : Cw g N F L (av) G1 cP1 h σ m1) (hst0 : st = av.reverse ++ st') (hn : av.length = n) (hsl : ((av).map m_cat).sum ≤ N.2.2.1) (hns : av.all m_nsc = true) (h8 : (st'.map m_cat).sum ≤ 8) (hd2 : F + 1 ≤ d) (hw2 : 19 + N.2.2.1 + L ≤ w) (kk : ∀ (a : Nat) (σ1 : SS) (h1 : List MC), Wd h1 σ1 → G1 a → Ew g sc M d w Q G C (pc + 3) lv (mr a :: st') h1 σ1 (k a σ1)) : Ew g sc M d w Q G C pc lv st h σ (sq m1 k) := by
  intro a9 σ' hm
  unfold sq at hm
  split at hm
  · rename_i a s
    obtain ⟨⟨h0, hW0⟩, a1, a2, a3⟩ := hC a s rfl
    obtain ⟨b0, b1, b2, -⟩ := kk a s h0 hW0 a2 a9 σ' hm
    refine ⟨b0, Nat.le_trans a1 b1, b2, fun mc ms hc => ?_⟩
    refine Ev.room (mc2 := (K s - K σ) + (K σ' - K s + mc)) (ms2 := (K s - K σ) + (K σ' - K s + ms)) (by omega) (by omega) ?_
    refine e_invS (Q9 := fun o h9 => o = .inl (some (mr a)) ∧ Wd h9 s) hd hN hl hst0 hn hsl hns h8 hd2 hw2 (a3 F L _ (Nat.le_refl _) (Nat.le_refl _) (fun h' hW' => ⟨rfl, hW'⟩)) ?_ ?_
    · rintro r h9 ⟨e1, e2⟩
      cases e1
      exact (kk a s h9 e2 a2 a9 σ' hm).2.2.2 mc ms hc
    · rintro E h9 ⟨e1, e2⟩
      cases e1
  · cases hm
theorem w_xSP {g : MG} {sc : MS} {M : MM} {d w : Nat} {Q : MO → List MC → Prop}  {pc : Nat} {lv : ML} {st : List MV} {h : List MC} {σ : SS}  {α : Type} {G : α → Prop} {C : α → List MC → Nat → Nat → Prop} {N : MM} {F L : Nat} {G1 : Nat → Prop} {m1 : Option ((Nat ⊕ String) × SS)} {k : Nat → SS → Option ((α ⊕ String) × SS)} {i n : Nat} (av st' : List MV) (hd : decode M.2.1 pc = .ok (.invokestatic i, 3)) (hN : m_me N n) (hl : m_lS M.1.cls i N) (hh : M.2.2.2.2 = []) (hW : Wd h σ) (hC : Cw g N F L (av) (gS2 G1 gE) (fun Q => cS2 (cP1 Q) (cE1 Q)) h σ m1) (hst0 : st = av.reverse ++ st') (hn : av.length = n) (hsl : ((av).map m_cat).sum ≤ N.2.2.1) (hns : av.all m_nsc = true) (h8 : (st'.map m_cat).sum ≤ 8) (hd2 : F + 1 ≤ d) (hw2 : 19 + N.2.2.1 + L ≤ w) (kk : ∀ (a : Nat) (σ1 : SS) (h1 : List MC), Wd h1 σ1 → G1 a → Ew g sc M d w Q (gS2 G gE) (cS2 C (cE1 Q)) (pc + 3) lv (mr a :: st') h1 σ1 (k a σ1)) : Ew g sc M d w Q (gS2 G gE) (cS2 C (cE1 Q)) pc lv st h σ (sx m1 k) := by
  intro a9 σ' hm
  unfold sx at hm
  split at hm
  · rename_i a s
    obtain ⟨⟨h0, hW0⟩, a1, a2, a3⟩ := hC _ _ rfl
    obtain ⟨b0, b1, b2, -⟩ := kk a s h0 hW0 a2 a9 σ' hm
    refine ⟨b0, Nat.le_trans a1 b1, b2, fun mc ms hc => ?_⟩
    refine Ev.room (mc2 := (K s - K σ) + (K σ' - K s + mc)) (ms2 := (K s - K σ) + (K σ' - K s + ms)) (by omega) (by omega) ?_
    refine e_invS (Q9 := fun o h9 => o = .inl (some (mr a)) ∧ Wd h9 s) hd hN hl hst0 hn hsl hns h8 hd2 hw2 (a3 F L _ (Nat.le_refl _) (Nat.le_refl _) (fun h' hW' => ⟨rfl, hW'⟩)) ?_ ?_
    · rintro r h9 ⟨e1, e2⟩
      cases e1
      exact (kk a s h9 e2 a2 a9 σ' hm).2.2.2 mc ms hc
    · rintro E h9 ⟨e1, e2⟩
      cases e1
  · rename_i E s
    cases hm
    obtain ⟨⟨h0, hW0⟩, a1, a2, a3⟩ := hC _ _ rfl
    refine ⟨⟨h0, hW0⟩, a1, True.intro, fun mc ms hc => ?_⟩
    refine e_invS (Q9 := fun o h9 => o = .inr E ∧ Wd h9 σ') hd hN hl hst0 hn hsl hns h8 hd2 hw2 (a3 F L _ (Nat.le_refl _) (Nat.le_refl _) (fun h' hW' => ⟨rfl, hW'⟩)) ?_ ?_
    · rintro r h9 ⟨e1, e2⟩
      cases e1
    · rintro E9 h9 ⟨e1, e2⟩
      cases e1
      exact x_out hh (hc h9 e2)
  · cases hm
theorem w_cVI {g : MG} {sc : MS} {M : MM} {d w : Nat} {Q : MO → List MC → Prop} {α : Type} {G : α → Prop} {C : α → List MC → Nat → Nat → Prop} {pc : Nat} {lv : ML} {st : List MV} {h : List MC} {σ : SS}  {N : MM} {F L : Nat} {G1 : Int → Prop} {m1 : Option (Int × SS)} {k : Int → SS → Option (α × SS)} {i n r ci : Nat} (av st' : List MV) (hd : decode M.2.1 pc = .ok (.invokevirtual i, 3)) (hN : m_me N n) (hl : m_lV M.1.cls i N) (hW : Wd h σ) (hC : Cw g N F L (mr r :: av) G1 cI1 h σ m1) (hst0 : st = av.reverse ++ mr r :: st') (hn : av.length = n) (hsl : ((mr r :: av).map m_cat).sum ≤ N.2.2.1) (hns : av.all m_nsc = true) (h8 : (st'.map m_cat).sum ≤ 8) (hd2 : F + 1 ≤ d) (hw2 : 19 + N.2.2.1 + L ≤ w) (ho : ob r ci) (hci : ∃ (T : u_T) (NN : Nat), m_cl[ci]? = some (N.1.cls, T, NN)) (kk : ∀ (a : Int) (σ1 : SS) (h1 : List MC), Wd h1 σ1 → G1 a → Ew g sc M d w Q G C (pc + 3) lv (iI a :: st') h1 σ1 (k a σ1)) : Ew g sc M d w Q G C pc lv st h σ (sq m1 k) := by
  intro a9 σ' hm
  unfold sq at hm
  split at hm
  · rename_i a s
    obtain ⟨-, a7, b7, c7, hg7, hR7⟩ := id hW
    obtain ⟨l7, ho7⟩ := ho a7 b7 c7 _ _ hg7
    obtain ⟨T7, NN7, hci7⟩ := hci
    have ho8 := hR7.at r _ ho7
    obtain ⟨⟨h0, hW0⟩, a1, a2, a3⟩ := hC a s rfl
    obtain ⟨b0, b1, b2, -⟩ := kk a s h0 hW0 a2 a9 σ' hm
    refine ⟨b0, Nat.le_trans a1 b1, b2, fun mc ms hc => ?_⟩
    refine Ev.room (mc2 := (K s - K σ) + (K σ' - K s + mc)) (ms2 := (K s - K σ) + (K σ' - K s + ms)) (by omega) (by omega) ?_
    refine e_invV (Q9 := fun o h9 => o = .inl (some (iI a)) ∧ Wd h9 s) hd hN hl hst0 hn hsl hns h8 hd2 hw2 ho8 hci7 (a3 F L _ (Nat.le_refl _) (Nat.le_refl _) (fun h' hW' => ⟨rfl, hW'⟩)) ?_ ?_
    · rintro r h9 ⟨e1, e2⟩
      cases e1
      exact (kk a s h9 e2 a2 a9 σ' hm).2.2.2 mc ms hc
    · rintro E h9 ⟨e1, e2⟩
      cases e1
  · cases hm
theorem w_cVU {g : MG} {sc : MS} {M : MM} {d w : Nat} {Q : MO → List MC → Prop} {α : Type} {G : α → Prop} {C : α → List MC → Nat → Nat → Prop} {pc : Nat} {lv : ML} {st : List MV} {h : List MC} {σ : SS}  {N : MM} {F L : Nat} {G1 : Unit → Prop} {m1 : Option (Unit × SS)} {k : Unit → SS → Option (α × SS)} {i n r ci : Nat} (av st' : List MV) (hd : decode M.2.1 pc = .ok (.invokevirtual i, 3)) (hN : m_me N n) (hl : m_lV M.1.cls i N) (hW : Wd h σ) (hC : Cw g N F L (mr r :: av) G1 cU1 h σ m1) (hst0 : st = av.reverse ++ mr r :: st') (hn : av.length = n) (hsl : ((mr r :: av).map m_cat).sum ≤ N.2.2.1) (hns : av.all m_nsc = true) (h8 : (st'.map m_cat).sum ≤ 8) (hd2 : F + 1 ≤ d) (hw2 : 19 + N.2.2.1 + L ≤ w) (ho : ob r ci) (hci : ∃ (T : u_T) (NN : Nat), m_cl[ci]? = some (N.1.cls, T, NN)) (kk : ∀ (a : Unit) (σ1 : SS) (h1 : List MC), Wd h1 σ1 → G1 a → Ew g sc M d w Q G C (pc + 3) lv st' h1 σ1 (k a σ1)) : Ew g sc M d w Q G C pc lv st h σ (sq m1 k) := by
  intro a9 σ' hm
  unfold sq at hm
  split at hm
  · rename_i a s
    obtain ⟨-, a7, b7, c7, hg7, hR7⟩ := id hW
    obtain ⟨l7, ho7⟩ := ho a7 b7 c7 _ _ hg7
    obtain ⟨T7, NN7, hci7⟩ := hci
    have ho8 := hR7.at r _ ho7
    obtain ⟨⟨h0, hW0⟩, a1, a2, a3⟩ := hC a s rfl
    obtain ⟨b0, b1, b2, -⟩ := kk a s h0 hW0 a2 a9 σ' hm
    refine ⟨b0, Nat.le_trans a1 b1, b2, fun mc ms hc => ?_⟩
    refine Ev.room (mc2 := (K s - K σ) + (K σ' - K s + mc)) (ms2 := (K s - K σ) + (K σ' - K s + ms)) (by omega) (by omega) ?_
    refine e_invV (Q9 := fun o h9 => o = .inl (none) ∧ Wd h9 s) hd hN hl hst0 hn hsl hns h8 hd2 hw2 ho8 hci7 (a3 F L _ (Nat.le_refl _) (Nat.le_refl _) (fun h' hW' => ⟨rfl, hW'⟩)) ?_ ?_
    · rintro r h9 ⟨e1, e2⟩
      cases e1
      exact (kk a s h9 e2 a2 a9 σ' hm).2.2.2 mc ms hc
    · rintro E h9 ⟨e1, e2⟩
      cases e1
  · cases hm
theorem w_xVU {g : MG} {sc : MS} {M : MM} {d w : Nat} {Q : MO → List MC → Prop}  {pc : Nat} {lv : ML} {st : List MV} {h : List MC} {σ : SS}  {α : Type} {G : α → Prop} {C : α → List MC → Nat → Nat → Prop} {N : MM} {F L : Nat} {G1 : Unit → Prop} {m1 : Option ((Unit ⊕ String) × SS)} {k : Unit → SS → Option ((α ⊕ String) × SS)} {i n r ci : Nat} (av st' : List MV) (hd : decode M.2.1 pc = .ok (.invokevirtual i, 3)) (hN : m_me N n) (hl : m_lV M.1.cls i N) (hh : M.2.2.2.2 = []) (hW : Wd h σ) (hC : Cw g N F L (mr r :: av) (gS2 G1 gE) (fun Q => cS2 (cU1 Q) (cE1 Q)) h σ m1) (hst0 : st = av.reverse ++ mr r :: st') (hn : av.length = n) (hsl : ((mr r :: av).map m_cat).sum ≤ N.2.2.1) (hns : av.all m_nsc = true) (h8 : (st'.map m_cat).sum ≤ 8) (hd2 : F + 1 ≤ d) (hw2 : 19 + N.2.2.1 + L ≤ w) (ho : ob r ci) (hci : ∃ (T : u_T) (NN : Nat), m_cl[ci]? = some (N.1.cls, T, NN)) (kk : ∀ (a : Unit) (σ1 : SS) (h1 : List MC), Wd h1 σ1 → G1 a → Ew g sc M d w Q (gS2 G gE) (cS2 C (cE1 Q)) (pc + 3) lv st' h1 σ1 (k a σ1)) : Ew g sc M d w Q (gS2 G gE) (cS2 C (cE1 Q)) pc lv st h σ (sx m1 k) := by
  intro a9 σ' hm
  unfold sx at hm
  split at hm
  · rename_i a s
    obtain ⟨-, a7, b7, c7, hg7, hR7⟩ := id hW
    obtain ⟨l7, ho7⟩ := ho a7 b7 c7 _ _ hg7
    obtain ⟨T7, NN7, hci7⟩ := hci
    have ho8 := hR7.at r _ ho7
    obtain ⟨⟨h0, hW0⟩, a1, a2, a3⟩ := hC _ _ rfl
    obtain ⟨b0, b1, b2, -⟩ := kk a s h0 hW0 a2 a9 σ' hm
    refine ⟨b0, Nat.le_trans a1 b1, b2, fun mc ms hc => ?_⟩
    refine Ev.room (mc2 := (K s - K σ) + (K σ' - K s + mc)) (ms2 := (K s - K σ) + (K σ' - K s + ms)) (by omega) (by omega) ?_
    refine e_invV (Q9 := fun o h9 => o = .inl (none) ∧ Wd h9 s) hd hN hl hst0 hn hsl hns h8 hd2 hw2 ho8 hci7 (a3 F L _ (Nat.le_refl _) (Nat.le_refl _) (fun h' hW' => ⟨rfl, hW'⟩)) ?_ ?_
    · rintro r h9 ⟨e1, e2⟩
      cases e1
      exact (kk a s h9 e2 a2 a9 σ' hm).2.2.2 mc ms hc
    · rintro E h9 ⟨e1, e2⟩
      cases e1
  · rename_i E s
    cases hm
    obtain ⟨-, a7, b7, c7, hg7, hR7⟩ := id hW
    obtain ⟨l7, ho7⟩ := ho a7 b7 c7 _ _ hg7
    obtain ⟨T7, NN7, hci7⟩ := hci
    have ho8 := hR7.at r _ ho7
    obtain ⟨⟨h0, hW0⟩, a1, a2, a3⟩ := hC _ _ rfl
    refine ⟨⟨h0, hW0⟩, a1, True.intro, fun mc ms hc => ?_⟩
    refine e_invV (Q9 := fun o h9 => o = .inr E ∧ Wd h9 σ') hd hN hl hst0 hn hsl hns h8 hd2 hw2 ho8 hci7 (a3 F L _ (Nat.le_refl _) (Nat.le_refl _) (fun h' hW' => ⟨rfl, hW'⟩)) ?_ ?_
    · rintro r h9 ⟨e1, e2⟩
      cases e1
    · rintro E9 h9 ⟨e1, e2⟩
      cases e1
      exact x_out hh (hc h9 e2)
  · cases hm
theorem w_cVP {g : MG} {sc : MS} {M : MM} {d w : Nat} {Q : MO → List MC → Prop} {α : Type} {G : α → Prop} {C : α → List MC → Nat → Nat → Prop} {pc : Nat} {lv : ML} {st : List MV} {h : List MC} {σ : SS}  {N : MM} {F L : Nat} {G1 : Nat → Prop} {m1 : Option (Nat × SS)} {k : Nat → SS → Option (α × SS)} {i n r ci : Nat} (av st' : List MV) (hd : decode M.2.1 pc = .ok (.invokevirtual i, 3)) (hN : m_me N n) (hl : m_lV M.1.cls i N) (hW : Wd h σ) (hC : Cw g N F L (mr r :: av) G1 cP1 h σ m1) (hst0 : st = av.reverse ++ mr r :: st') (hn : av.length = n) (hsl : ((mr r :: av).map m_cat).sum ≤ N.2.2.1) (hns : av.all m_nsc = true) (h8 : (st'.map m_cat).sum ≤ 8) (hd2 : F + 1 ≤ d) (hw2 : 19 + N.2.2.1 + L ≤ w) (ho : ob r ci) (hci : ∃ (T : u_T) (NN : Nat), m_cl[ci]? = some (N.1.cls, T, NN)) (kk : ∀ (a : Nat) (σ1 : SS) (h1 : List MC), Wd h1 σ1 → G1 a → Ew g sc M d w Q G C (pc + 3) lv (mr a :: st') h1 σ1 (k a σ1)) : Ew g sc M d w Q G C pc lv st h σ (sq m1 k) := by
  intro a9 σ' hm
  unfold sq at hm
  split at hm
  · rename_i a s
    obtain ⟨-, a7, b7, c7, hg7, hR7⟩ := id hW
    obtain ⟨l7, ho7⟩ := ho a7 b7 c7 _ _ hg7
    obtain ⟨T7, NN7, hci7⟩ := hci
    have ho8 := hR7.at r _ ho7
    obtain ⟨⟨h0, hW0⟩, a1, a2, a3⟩ := hC a s rfl
    obtain ⟨b0, b1, b2, -⟩ := kk a s h0 hW0 a2 a9 σ' hm
    refine ⟨b0, Nat.le_trans a1 b1, b2, fun mc ms hc => ?_⟩
    refine Ev.room (mc2 := (K s - K σ) + (K σ' - K s + mc)) (ms2 := (K s - K σ) + (K σ' - K s + ms)) (by omega) (by omega) ?_
    refine e_invV (Q9 := fun o h9 => o = .inl (some (mr a)) ∧ Wd h9 s) hd hN hl hst0 hn hsl hns h8 hd2 hw2 ho8 hci7 (a3 F L _ (Nat.le_refl _) (Nat.le_refl _) (fun h' hW' => ⟨rfl, hW'⟩)) ?_ ?_
    · rintro r h9 ⟨e1, e2⟩
      cases e1
      exact (kk a s h9 e2 a2 a9 σ' hm).2.2.2 mc ms hc
    · rintro E h9 ⟨e1, e2⟩
      cases e1
  · cases hm
theorem w_xVP {g : MG} {sc : MS} {M : MM} {d w : Nat} {Q : MO → List MC → Prop}  {pc : Nat} {lv : ML} {st : List MV} {h : List MC} {σ : SS}  {α : Type} {G : α → Prop} {C : α → List MC → Nat → Nat → Prop} {N : MM} {F L : Nat} {G1 : Nat → Prop} {m1 : Option ((Nat ⊕ String) × SS)} {k : Nat → SS → Option ((α ⊕ String) × SS)} {i n r ci : Nat} (av st' : List MV) (hd : decode M.2.1 pc = .ok (.invokevirtual i, 3)) (hN : m_me N n) (hl : m_lV M.1.cls i N) (hh : M.2.2.2.2 = []) (hW : Wd h σ) (hC : Cw g N F L (mr r :: av) (gS2 G1 gE) (fun Q => cS2 (cP1 Q) (cE1 Q)) h σ m1) (hst0 : st = av.reverse ++ mr r :: st') (hn : av.length = n) (hsl : ((mr r :: av).map m_cat).sum ≤ N.2.2.1) (hns : av.all m_nsc = true) (h8 : (st'.map m_cat).sum ≤ 8) (hd2 : F + 1 ≤ d) (hw2 : 19 + N.2.2.1 + L ≤ w) (ho : ob r ci) (hci : ∃ (T : u_T) (NN : Nat), m_cl[ci]? = some (N.1.cls, T, NN)) (kk : ∀ (a : Nat) (σ1 : SS) (h1 : List MC), Wd h1 σ1 → G1 a → Ew g sc M d w Q (gS2 G gE) (cS2 C (cE1 Q)) (pc + 3) lv (mr a :: st') h1 σ1 (k a σ1)) : Ew g sc M d w Q (gS2 G gE) (cS2 C (cE1 Q)) pc lv st h σ (sx m1 k) := by
  intro a9 σ' hm
  unfold sx at hm
  split at hm
  · rename_i a s
    obtain ⟨-, a7, b7, c7, hg7, hR7⟩ := id hW
    obtain ⟨l7, ho7⟩ := ho a7 b7 c7 _ _ hg7
    obtain ⟨T7, NN7, hci7⟩ := hci
    have ho8 := hR7.at r _ ho7
    obtain ⟨⟨h0, hW0⟩, a1, a2, a3⟩ := hC _ _ rfl
    obtain ⟨b0, b1, b2, -⟩ := kk a s h0 hW0 a2 a9 σ' hm
    refine ⟨b0, Nat.le_trans a1 b1, b2, fun mc ms hc => ?_⟩
    refine Ev.room (mc2 := (K s - K σ) + (K σ' - K s + mc)) (ms2 := (K s - K σ) + (K σ' - K s + ms)) (by omega) (by omega) ?_
    refine e_invV (Q9 := fun o h9 => o = .inl (some (mr a)) ∧ Wd h9 s) hd hN hl hst0 hn hsl hns h8 hd2 hw2 ho8 hci7 (a3 F L _ (Nat.le_refl _) (Nat.le_refl _) (fun h' hW' => ⟨rfl, hW'⟩)) ?_ ?_
    · rintro r h9 ⟨e1, e2⟩
      cases e1
      exact (kk a s h9 e2 a2 a9 σ' hm).2.2.2 mc ms hc
    · rintro E h9 ⟨e1, e2⟩
      cases e1
  · rename_i E s
    cases hm
    obtain ⟨-, a7, b7, c7, hg7, hR7⟩ := id hW
    obtain ⟨l7, ho7⟩ := ho a7 b7 c7 _ _ hg7
    obtain ⟨T7, NN7, hci7⟩ := hci
    have ho8 := hR7.at r _ ho7
    obtain ⟨⟨h0, hW0⟩, a1, a2, a3⟩ := hC _ _ rfl
    refine ⟨⟨h0, hW0⟩, a1, True.intro, fun mc ms hc => ?_⟩
    refine e_invV (Q9 := fun o h9 => o = .inr E ∧ Wd h9 σ') hd hN hl hst0 hn hsl hns h8 hd2 hw2 ho8 hci7 (a3 F L _ (Nat.le_refl _) (Nat.le_refl _) (fun h' hW' => ⟨rfl, hW'⟩)) ?_ ?_
    · rintro r h9 ⟨e1, e2⟩
      cases e1
    · rintro E9 h9 ⟨e1, e2⟩
      cases e1
      exact x_out hh (hc h9 e2)
  · cases hm
end
