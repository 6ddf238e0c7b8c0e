section
-- ===== PART A: goes FIRST, ahead of the names: the tables' words, and 'selects' of the private methods out of them =====
/-- a private method of a class that the tables say can be made, by its rows of tables_1 -/
def lw_okq (q : MethodName × Nat) : Prop := (q.1.cls ≠ "java/lang/invoke/MethodHandle" ∧ q.1.cls ≠ "java/lang/invoke/VarHandle") ∧ Cond.instantiable q.1.cls q.2 ∈ tables_1 ∧ Cond.privateMethod q.1 ∈ tables_1 ∧ Cond.instanceMethod q.1 ∈ tables_1
theorem lw_p0 : lw_okq (⟨"java/lang/Throwable", "fillInStackTrace", "(I)Ljava/lang/Throwable;"⟩, 6) := ⟨⟨by decide +kernel, by decide +kernel⟩, List.mem_of_getElem? (i := 360) (by decide +kernel), List.mem_of_getElem? (i := 358) (by decide +kernel), List.mem_of_getElem? (i := 359) (by decide +kernel)⟩
theorem lw_p1 : lw_okq (⟨"HoleFiller$Operations", "addArgument", "(II)V"⟩, 3) := ⟨⟨by decide +kernel, by decide +kernel⟩, List.mem_of_getElem? (i := 47) (by decide +kernel), List.mem_of_getElem? (i := 395) (by decide +kernel), List.mem_of_getElem? (i := 396) (by decide +kernel)⟩
theorem lw_p2 : lw_okq (⟨"HoleFiller", "slotAt", "(I)LHoleFiller$Slot;"⟩, 9) := ⟨⟨by decide +kernel, by decide +kernel⟩, List.mem_of_getElem? (i := 20) (by decide +kernel), List.mem_of_getElem? (i := 424) (by decide +kernel), List.mem_of_getElem? (i := 425) (by decide +kernel)⟩
theorem lw_p3 : lw_okq (⟨"HoleFiller", "mayStand", "(LHoleFiller$Slot;II)Z"⟩, 9) := ⟨⟨by decide +kernel, by decide +kernel⟩, List.mem_of_getElem? (i := 20) (by decide +kernel), List.mem_of_getElem? (i := 463) (by decide +kernel), List.mem_of_getElem? (i := 464) (by decide +kernel)⟩
theorem lw_p4 : lw_okq (⟨"HoleFiller$Slot", "boundHere", "()I"⟩, 10) := ⟨⟨by decide +kernel, by decide +kernel⟩, List.mem_of_getElem? (i := 107) (by decide +kernel), List.mem_of_getElem? (i := 475) (by decide +kernel), List.mem_of_getElem? (i := 476) (by decide +kernel)⟩
theorem lw_p5 : lw_okq (⟨"HoleFiller", "hasRoom", "(LHoleFiller$Slot;II)Z"⟩, 9) := ⟨⟨by decide +kernel, by decide +kernel⟩, List.mem_of_getElem? (i := 20) (by decide +kernel), List.mem_of_getElem? (i := 494) (by decide +kernel), List.mem_of_getElem? (i := 495) (by decide +kernel)⟩
theorem lw_p6 : lw_okq (⟨"HoleFiller$Slot", "write", "(II)V"⟩, 10) := ⟨⟨by decide +kernel, by decide +kernel⟩, List.mem_of_getElem? (i := 107) (by decide +kernel), List.mem_of_getElem? (i := 517) (by decide +kernel), List.mem_of_getElem? (i := 518) (by decide +kernel)⟩
theorem lw_p7 : lw_okq (⟨"HoleFiller", "startBoth", "(II)V"⟩, 9) := ⟨⟨by decide +kernel, by decide +kernel⟩, List.mem_of_getElem? (i := 20) (by decide +kernel), List.mem_of_getElem? (i := 547) (by decide +kernel), List.mem_of_getElem? (i := 548) (by decide +kernel)⟩
theorem lw_p8 : lw_okq (⟨"HoleFiller$Cursor", "leaveEnded", "()V"⟩, 12) := ⟨⟨by decide +kernel, by decide +kernel⟩, List.mem_of_getElem? (i := 148) (by decide +kernel), List.mem_of_getElem? (i := 573) (by decide +kernel), List.mem_of_getElem? (i := 574) (by decide +kernel)⟩
theorem lw_p9 : lw_okq (⟨"HoleFiller$Cursor", "outside", "(II)I"⟩, 12) := ⟨⟨by decide +kernel, by decide +kernel⟩, List.mem_of_getElem? (i := 148) (by decide +kernel), List.mem_of_getElem? (i := 588) (by decide +kernel), List.mem_of_getElem? (i := 589) (by decide +kernel)⟩
theorem lw_p10 : lw_okq (⟨"HoleFiller$Cursor", "enterFilling", "()Z"⟩, 12) := ⟨⟨by decide +kernel, by decide +kernel⟩, List.mem_of_getElem? (i := 148) (by decide +kernel), List.mem_of_getElem? (i := 593) (by decide +kernel), List.mem_of_getElem? (i := 594) (by decide +kernel)⟩
theorem lw_p11 : lw_okq (⟨"HoleFiller$Unifier", "narrowToSame", "()I"⟩, 9) := ⟨⟨by decide +kernel, by decide +kernel⟩, List.mem_of_getElem? (i := 200) (by decide +kernel), List.mem_of_getElem? (i := 597) (by decide +kernel), List.mem_of_getElem? (i := 598) (by decide +kernel)⟩
theorem lw_p12 : lw_okq (⟨"HoleFiller$Unifier", "joinHoles", "()I"⟩, 9) := ⟨⟨by decide +kernel, by decide +kernel⟩, List.mem_of_getElem? (i := 200) (by decide +kernel), List.mem_of_getElem? (i := 638) (by decide +kernel), List.mem_of_getElem? (i := 639) (by decide +kernel)⟩
theorem lw_p13 : lw_okq (⟨"HoleFiller$Unifier", "fillWithTerm", "(LHoleFiller$Cursor;LHoleFiller$Cursor;)I"⟩, 9) := ⟨⟨by decide +kernel, by decide +kernel⟩, List.mem_of_getElem? (i := 200) (by decide +kernel), List.mem_of_getElem? (i := 646) (by decide +kernel), List.mem_of_getElem? (i := 647) (by decide +kernel)⟩
theorem lw_p14 : lw_okq (⟨"HoleFiller$Unifier", "admitTerm", "(LHoleFiller$Cursor;)I"⟩, 9) := ⟨⟨by decide +kernel, by decide +kernel⟩, List.mem_of_getElem? (i := 200) (by decide +kernel), List.mem_of_getElem? (i := 654) (by decide +kernel), List.mem_of_getElem? (i := 655) (by decide +kernel)⟩
theorem lw_p15 : lw_okq (⟨"HoleFiller$Unifier", "isForeign", "(LHoleFiller$Cursor;I)Z"⟩, 9) := ⟨⟨by decide +kernel, by decide +kernel⟩, List.mem_of_getElem? (i := 200) (by decide +kernel), List.mem_of_getElem? (i := 658) (by decide +kernel), List.mem_of_getElem? (i := 659) (by decide +kernel)⟩
def lw_privs_1 : List (MethodName × Nat) := [(⟨"java/lang/Throwable", "fillInStackTrace", "(I)Ljava/lang/Throwable;"⟩, 6), (⟨"HoleFiller$Operations", "addArgument", "(II)V"⟩, 3), (⟨"HoleFiller", "slotAt", "(I)LHoleFiller$Slot;"⟩, 9), (⟨"HoleFiller", "mayStand", "(LHoleFiller$Slot;II)Z"⟩, 9), (⟨"HoleFiller$Slot", "boundHere", "()I"⟩, 10), (⟨"HoleFiller", "hasRoom", "(LHoleFiller$Slot;II)Z"⟩, 9), (⟨"HoleFiller$Slot", "write", "(II)V"⟩, 10), (⟨"HoleFiller", "startBoth", "(II)V"⟩, 9), (⟨"HoleFiller$Cursor", "leaveEnded", "()V"⟩, 12), (⟨"HoleFiller$Cursor", "outside", "(II)I"⟩, 12), (⟨"HoleFiller$Cursor", "enterFilling", "()Z"⟩, 12), (⟨"HoleFiller$Unifier", "narrowToSame", "()I"⟩, 9), (⟨"HoleFiller$Unifier", "joinHoles", "()I"⟩, 9), (⟨"HoleFiller$Unifier", "fillWithTerm", "(LHoleFiller$Cursor;LHoleFiller$Cursor;)I"⟩, 9), (⟨"HoleFiller$Unifier", "admitTerm", "(LHoleFiller$Cursor;)I"⟩, 9), (⟨"HoleFiller$Unifier", "isForeign", "(LHoleFiller$Cursor;I)Z"⟩, 9)]
theorem lw_r1 : ∀ q ∈ lw_privs_1, lw_okq q := List.forall_mem_cons.mpr ⟨lw_p0, List.forall_mem_cons.mpr ⟨lw_p1, List.forall_mem_cons.mpr ⟨lw_p2, List.forall_mem_cons.mpr ⟨lw_p3, List.forall_mem_cons.mpr ⟨lw_p4, List.forall_mem_cons.mpr ⟨lw_p5, List.forall_mem_cons.mpr ⟨lw_p6, List.forall_mem_cons.mpr ⟨lw_p7, List.forall_mem_cons.mpr ⟨lw_p8, List.forall_mem_cons.mpr ⟨lw_p9, List.forall_mem_cons.mpr ⟨lw_p10, List.forall_mem_cons.mpr ⟨lw_p11, List.forall_mem_cons.mpr ⟨lw_p12, List.forall_mem_cons.mpr ⟨lw_p13, List.forall_mem_cons.mpr ⟨lw_p14, List.forall_mem_cons.mpr ⟨lw_p15, fun _ h => absurd h List.not_mem_nil⟩⟩⟩⟩⟩⟩⟩⟩⟩⟩⟩⟩⟩⟩⟩⟩
theorem lw_p16 : lw_okq (⟨"HoleFiller$Unifier", "dropForeign", "(LHoleFiller$Cursor;)I"⟩, 9) := ⟨⟨by decide +kernel, by decide +kernel⟩, List.mem_of_getElem? (i := 200) (by decide +kernel), List.mem_of_getElem? (i := 662) (by decide +kernel), List.mem_of_getElem? (i := 663) (by decide +kernel)⟩
theorem lw_p17 : lw_okq (⟨"HoleFiller$Unifier", "dueAfter", "(LHoleFiller$Cursor;I)I"⟩, 9) := ⟨⟨by decide +kernel, by decide +kernel⟩, List.mem_of_getElem? (i := 200) (by decide +kernel), List.mem_of_getElem? (i := 666) (by decide +kernel), List.mem_of_getElem? (i := 667) (by decide +kernel)⟩
theorem lw_p18 : lw_okq (⟨"HoleFiller$Unifier", "copyTerm", "(LHoleFiller$Cursor;LHoleFiller$Cursor;)V"⟩, 9) := ⟨⟨by decide +kernel, by decide +kernel⟩, List.mem_of_getElem? (i := 200) (by decide +kernel), List.mem_of_getElem? (i := 671) (by decide +kernel), List.mem_of_getElem? (i := 672) (by decide +kernel)⟩
theorem lw_p19 : lw_okq (⟨"HoleFiller$Unifier", "copyHere", "(LHoleFiller$Cursor;LHoleFiller$Cursor;)V"⟩, 9) := ⟨⟨by decide +kernel, by decide +kernel⟩, List.mem_of_getElem? (i := 200) (by decide +kernel), List.mem_of_getElem? (i := 675) (by decide +kernel), List.mem_of_getElem? (i := 676) (by decide +kernel)⟩
theorem lw_p20 : lw_okq (⟨"HoleFiller$Unifier", "inside", "(LHoleFiller$Cursor;II)I"⟩, 9) := ⟨⟨by decide +kernel, by decide +kernel⟩, List.mem_of_getElem? (i := 200) (by decide +kernel), List.mem_of_getElem? (i := 679) (by decide +kernel), List.mem_of_getElem? (i := 680) (by decide +kernel)⟩
theorem lw_p21 : lw_okq (⟨"HoleFiller$Holes", "sumFrom", "(II)I"⟩, 9) := ⟨⟨by decide +kernel, by decide +kernel⟩, List.mem_of_getElem? (i := 64) (by decide +kernel), List.mem_of_getElem? (i := 693) (by decide +kernel), List.mem_of_getElem? (i := 694) (by decide +kernel)⟩
theorem lw_p22 : lw_okq (⟨"HoleFiller$Reader", "takeHole", "(LHoleFiller$Cursor;)V"⟩, 5) := ⟨⟨by decide +kernel, by decide +kernel⟩, List.mem_of_getElem? (i := 236) (by decide +kernel), List.mem_of_getElem? (i := 719) (by decide +kernel), List.mem_of_getElem? (i := 720) (by decide +kernel)⟩
theorem lw_p23 : lw_okq (⟨"HoleFiller$Reader", "append", "(I)V"⟩, 5) := ⟨⟨by decide +kernel, by decide +kernel⟩, List.mem_of_getElem? (i := 236) (by decide +kernel), List.mem_of_getElem? (i := 729) (by decide +kernel), List.mem_of_getElem? (i := 730) (by decide +kernel)⟩
theorem lw_p24 : lw_okq (⟨"HoleFiller", "refuseUntold", "(I)V"⟩, 9) := ⟨⟨by decide +kernel, by decide +kernel⟩, List.mem_of_getElem? (i := 20) (by decide +kernel), List.mem_of_getElem? (i := 776) (by decide +kernel), List.mem_of_getElem? (i := 777) (by decide +kernel)⟩
theorem lw_p25 : lw_okq (⟨"HoleFiller$Cursor", "bitOf", "(I)I"⟩, 12) := ⟨⟨by decide +kernel, by decide +kernel⟩, List.mem_of_getElem? (i := 148) (by decide +kernel), List.mem_of_getElem? (i := 793) (by decide +kernel), List.mem_of_getElem? (i := 794) (by decide +kernel)⟩
theorem lw_p26 : lw_okq (⟨"HoleFillerModel", "fails", "(ZZ)Z"⟩, 40) := ⟨⟨by decide +kernel, by decide +kernel⟩, List.mem_of_getElem? (i := 797) (by decide +kernel), List.mem_of_getElem? (i := 935) (by decide +kernel), List.mem_of_getElem? (i := 936) (by decide +kernel)⟩
theorem lw_p27 : lw_okq (⟨"HoleFillerModel", "fits", "(III)Z"⟩, 40) := ⟨⟨by decide +kernel, by decide +kernel⟩, List.mem_of_getElem? (i := 797) (by decide +kernel), List.mem_of_getElem? (i := 954) (by decide +kernel), List.mem_of_getElem? (i := 955) (by decide +kernel)⟩
theorem lw_p28 : lw_okq (⟨"HoleFillerModel", "isTooWide", "(III)Z"⟩, 40) := ⟨⟨by decide +kernel, by decide +kernel⟩, List.mem_of_getElem? (i := 797) (by decide +kernel), List.mem_of_getElem? (i := 958) (by decide +kernel), List.mem_of_getElem? (i := 959) (by decide +kernel)⟩
theorem lw_p29 : lw_okq (⟨"HoleFillerModel", "wait", "(III)V"⟩, 40) := ⟨⟨by decide +kernel, by decide +kernel⟩, List.mem_of_getElem? (i := 797) (by decide +kernel), List.mem_of_getElem? (i := 962) (by decide +kernel), List.mem_of_getElem? (i := 963) (by decide +kernel)⟩
theorem lw_p30 : lw_okq (⟨"HoleFillerModel", "refuses", "(II)Z"⟩, 40) := ⟨⟨by decide +kernel, by decide +kernel⟩, List.mem_of_getElem? (i := 797) (by decide +kernel), List.mem_of_getElem? (i := 970) (by decide +kernel), List.mem_of_getElem? (i := 971) (by decide +kernel)⟩
theorem lw_p31 : lw_okq (⟨"HoleFillerModel", "isWhole", "(I)Z"⟩, 40) := ⟨⟨by decide +kernel, by decide +kernel⟩, List.mem_of_getElem? (i := 797) (by decide +kernel), List.mem_of_getElem? (i := 974) (by decide +kernel), List.mem_of_getElem? (i := 975) (by decide +kernel)⟩
def lw_privs_2 : List (MethodName × Nat) := [(⟨"HoleFiller$Unifier", "dropForeign", "(LHoleFiller$Cursor;)I"⟩, 9), (⟨"HoleFiller$Unifier", "dueAfter", "(LHoleFiller$Cursor;I)I"⟩, 9), (⟨"HoleFiller$Unifier", "copyTerm", "(LHoleFiller$Cursor;LHoleFiller$Cursor;)V"⟩, 9), (⟨"HoleFiller$Unifier", "copyHere", "(LHoleFiller$Cursor;LHoleFiller$Cursor;)V"⟩, 9), (⟨"HoleFiller$Unifier", "inside", "(LHoleFiller$Cursor;II)I"⟩, 9), (⟨"HoleFiller$Holes", "sumFrom", "(II)I"⟩, 9), (⟨"HoleFiller$Reader", "takeHole", "(LHoleFiller$Cursor;)V"⟩, 5), (⟨"HoleFiller$Reader", "append", "(I)V"⟩, 5), (⟨"HoleFiller", "refuseUntold", "(I)V"⟩, 9), (⟨"HoleFiller$Cursor", "bitOf", "(I)I"⟩, 12), (⟨"HoleFillerModel", "fails", "(ZZ)Z"⟩, 40), (⟨"HoleFillerModel", "fits", "(III)Z"⟩, 40), (⟨"HoleFillerModel", "isTooWide", "(III)Z"⟩, 40), (⟨"HoleFillerModel", "wait", "(III)V"⟩, 40), (⟨"HoleFillerModel", "refuses", "(II)Z"⟩, 40), (⟨"HoleFillerModel", "isWhole", "(I)Z"⟩, 40)]
theorem lw_r2 : ∀ q ∈ lw_privs_2, lw_okq q := List.forall_mem_cons.mpr ⟨lw_p16, List.forall_mem_cons.mpr ⟨lw_p17, List.forall_mem_cons.mpr ⟨lw_p18, List.forall_mem_cons.mpr ⟨lw_p19, List.forall_mem_cons.mpr ⟨lw_p20, List.forall_mem_cons.mpr ⟨lw_p21, List.forall_mem_cons.mpr ⟨lw_p22, List.forall_mem_cons.mpr ⟨lw_p23, List.forall_mem_cons.mpr ⟨lw_p24, List.forall_mem_cons.mpr ⟨lw_p25, List.forall_mem_cons.mpr ⟨lw_p26, List.forall_mem_cons.mpr ⟨lw_p27, List.forall_mem_cons.mpr ⟨lw_p28, List.forall_mem_cons.mpr ⟨lw_p29, List.forall_mem_cons.mpr ⟨lw_p30, List.forall_mem_cons.mpr ⟨lw_p31, fun _ h => absurd h List.not_mem_nil⟩⟩⟩⟩⟩⟩⟩⟩⟩⟩⟩⟩⟩⟩⟩⟩
theorem lw_p32 : lw_okq (⟨"HoleFillerModel", "slot", "([II)I"⟩, 40) := ⟨⟨by decide +kernel, by decide +kernel⟩, List.mem_of_getElem? (i := 797) (by decide +kernel), List.mem_of_getElem? (i := 978) (by decide +kernel), List.mem_of_getElem? (i := 979) (by decide +kernel)⟩
theorem lw_p33 : lw_okq (⟨"HoleFillerModel", "write", "([II)I"⟩, 40) := ⟨⟨by decide +kernel, by decide +kernel⟩, List.mem_of_getElem? (i := 797) (by decide +kernel), List.mem_of_getElem? (i := 982) (by decide +kernel), List.mem_of_getElem? (i := 983) (by decide +kernel)⟩
theorem lw_p34 : lw_okq (⟨"HoleFillerModel", "again", "([II)I"⟩, 40) := ⟨⟨by decide +kernel, by decide +kernel⟩, List.mem_of_getElem? (i := 797) (by decide +kernel), List.mem_of_getElem? (i := 986) (by decide +kernel), List.mem_of_getElem? (i := 987) (by decide +kernel)⟩
theorem lw_p35 : lw_okq (⟨"HoleFillerModel", "measure", "([III)V"⟩, 40) := ⟨⟨by decide +kernel, by decide +kernel⟩, List.mem_of_getElem? (i := 797) (by decide +kernel), List.mem_of_getElem? (i := 993) (by decide +kernel), List.mem_of_getElem? (i := 994) (by decide +kernel)⟩
theorem lw_p36 : lw_okq (⟨"HoleFillerModel", "equation", "([III[III)V"⟩, 40) := ⟨⟨by decide +kernel, by decide +kernel⟩, List.mem_of_getElem? (i := 797) (by decide +kernel), List.mem_of_getElem? (i := 997) (by decide +kernel), List.mem_of_getElem? (i := 998) (by decide +kernel)⟩
theorem lw_p37 : lw_okq (⟨"HoleFillerModel", "step", "()I"⟩, 40) := ⟨⟨by decide +kernel, by decide +kernel⟩, List.mem_of_getElem? (i := 797) (by decide +kernel), List.mem_of_getElem? (i := 1001) (by decide +kernel), List.mem_of_getElem? (i := 1002) (by decide +kernel)⟩
theorem lw_p38 : lw_okq (⟨"HoleFillerModel", "same", "()I"⟩, 40) := ⟨⟨by decide +kernel, by decide +kernel⟩, List.mem_of_getElem? (i := 797) (by decide +kernel), List.mem_of_getElem? (i := 1005) (by decide +kernel), List.mem_of_getElem? (i := 1006) (by decide +kernel)⟩
theorem lw_p39 : lw_okq (⟨"HoleFillerModel", "isFull", "()Z"⟩, 40) := ⟨⟨by decide +kernel, by decide +kernel⟩, List.mem_of_getElem? (i := 797) (by decide +kernel), List.mem_of_getElem? (i := 1009) (by decide +kernel), List.mem_of_getElem? (i := 1010) (by decide +kernel)⟩
theorem lw_p40 : lw_okq (⟨"HoleFillerModel", "make", "(I)I"⟩, 40) := ⟨⟨by decide +kernel, by decide +kernel⟩, List.mem_of_getElem? (i := 797) (by decide +kernel), List.mem_of_getElem? (i := 1013) (by decide +kernel), List.mem_of_getElem? (i := 1014) (by decide +kernel)⟩
theorem lw_p41 : lw_okq (⟨"HoleFillerModel", "pass", "(II[II)V"⟩, 40) := ⟨⟨by decide +kernel, by decide +kernel⟩, List.mem_of_getElem? (i := 797) (by decide +kernel), List.mem_of_getElem? (i := 1017) (by decide +kernel), List.mem_of_getElem? (i := 1018) (by decide +kernel)⟩
theorem lw_p42 : lw_okq (⟨"HoleFillerModel", "both", "()I"⟩, 40) := ⟨⟨by decide +kernel, by decide +kernel⟩, List.mem_of_getElem? (i := 797) (by decide +kernel), List.mem_of_getElem? (i := 1021) (by decide +kernel), List.mem_of_getElem? (i := 1022) (by decide +kernel)⟩
theorem lw_p43 : lw_okq (⟨"HoleFillerModel", "fill", "([I[II)I"⟩, 40) := ⟨⟨by decide +kernel, by decide +kernel⟩, List.mem_of_getElem? (i := 797) (by decide +kernel), List.mem_of_getElem? (i := 1028) (by decide +kernel), List.mem_of_getElem? (i := 1029) (by decide +kernel)⟩
theorem lw_p44 : lw_okq (⟨"HoleFillerModel", "hindrance", "([I[II)I"⟩, 40) := ⟨⟨by decide +kernel, by decide +kernel⟩, List.mem_of_getElem? (i := 797) (by decide +kernel), List.mem_of_getElem? (i := 1032) (by decide +kernel), List.mem_of_getElem? (i := 1033) (by decide +kernel)⟩
theorem lw_p45 : lw_okq (⟨"HoleFillerModel", "fullSize", "(I)I"⟩, 40) := ⟨⟨by decide +kernel, by decide +kernel⟩, List.mem_of_getElem? (i := 797) (by decide +kernel), List.mem_of_getElem? (i := 1039) (by decide +kernel), List.mem_of_getElem? (i := 1040) (by decide +kernel)⟩
theorem lw_p46 : lw_okq (⟨"HoleFillerModel", "parts", "(I)I"⟩, 40) := ⟨⟨by decide +kernel, by decide +kernel⟩, List.mem_of_getElem? (i := 797) (by decide +kernel), List.mem_of_getElem? (i := 1043) (by decide +kernel), List.mem_of_getElem? (i := 1044) (by decide +kernel)⟩
theorem lw_p47 : lw_okq (⟨"HoleFillerModel", "partEnd", "([II)I"⟩, 40) := ⟨⟨by decide +kernel, by decide +kernel⟩, List.mem_of_getElem? (i := 797) (by decide +kernel), List.mem_of_getElem? (i := 1047) (by decide +kernel), List.mem_of_getElem? (i := 1048) (by decide +kernel)⟩
def lw_privs_3 : List (MethodName × Nat) := [(⟨"HoleFillerModel", "slot", "([II)I"⟩, 40), (⟨"HoleFillerModel", "write", "([II)I"⟩, 40), (⟨"HoleFillerModel", "again", "([II)I"⟩, 40), (⟨"HoleFillerModel", "measure", "([III)V"⟩, 40), (⟨"HoleFillerModel", "equation", "([III[III)V"⟩, 40), (⟨"HoleFillerModel", "step", "()I"⟩, 40), (⟨"HoleFillerModel", "same", "()I"⟩, 40), (⟨"HoleFillerModel", "isFull", "()Z"⟩, 40), (⟨"HoleFillerModel", "make", "(I)I"⟩, 40), (⟨"HoleFillerModel", "pass", "(II[II)V"⟩, 40), (⟨"HoleFillerModel", "both", "()I"⟩, 40), (⟨"HoleFillerModel", "fill", "([I[II)I"⟩, 40), (⟨"HoleFillerModel", "hindrance", "([I[II)I"⟩, 40), (⟨"HoleFillerModel", "fullSize", "(I)I"⟩, 40), (⟨"HoleFillerModel", "parts", "(I)I"⟩, 40), (⟨"HoleFillerModel", "partEnd", "([II)I"⟩, 40)]
theorem lw_r3 : ∀ q ∈ lw_privs_3, lw_okq q := List.forall_mem_cons.mpr ⟨lw_p32, List.forall_mem_cons.mpr ⟨lw_p33, List.forall_mem_cons.mpr ⟨lw_p34, List.forall_mem_cons.mpr ⟨lw_p35, List.forall_mem_cons.mpr ⟨lw_p36, List.forall_mem_cons.mpr ⟨lw_p37, List.forall_mem_cons.mpr ⟨lw_p38, List.forall_mem_cons.mpr ⟨lw_p39, List.forall_mem_cons.mpr ⟨lw_p40, List.forall_mem_cons.mpr ⟨lw_p41, List.forall_mem_cons.mpr ⟨lw_p42, List.forall_mem_cons.mpr ⟨lw_p43, List.forall_mem_cons.mpr ⟨lw_p44, List.forall_mem_cons.mpr ⟨lw_p45, List.forall_mem_cons.mpr ⟨lw_p46, List.forall_mem_cons.mpr ⟨lw_p47, fun _ h => absurd h List.not_mem_nil⟩⟩⟩⟩⟩⟩⟩⟩⟩⟩⟩⟩⟩⟩⟩⟩
theorem lw_p48 : lw_okq (⟨"HoleFillerModel", "rank", "(I[II)V"⟩, 40) := ⟨⟨by decide +kernel, by decide +kernel⟩, List.mem_of_getElem? (i := 797) (by decide +kernel), List.mem_of_getElem? (i := 1055) (by decide +kernel), List.mem_of_getElem? (i := 1056) (by decide +kernel)⟩
def lw_privs_4 : List (MethodName × Nat) := [(⟨"HoleFillerModel", "rank", "(I[II)V"⟩, 40)]
theorem lw_r4 : ∀ q ∈ lw_privs_4, lw_okq q := List.forall_mem_cons.mpr ⟨lw_p48, fun _ h => absurd h List.not_mem_nil⟩
def lw_privs : List (MethodName × Nat) := lw_privs_1 ++ (lw_privs_2 ++ (lw_privs_3 ++ (lw_privs_4)))
def lw_tbl : List Cond := k2_sels lw_privs ++ tables_1
theorem lw_privs_ok : ∀ q ∈ lw_privs, lw_okq q := by
  show ∀ q ∈ lw_privs_1 ++ (lw_privs_2 ++ (lw_privs_3 ++ (lw_privs_4))), lw_okq q
  exact List.forall_mem_append.mpr ⟨lw_r1, List.forall_mem_append.mpr ⟨lw_r2, List.forall_mem_append.mpr ⟨lw_r3, lw_r4⟩⟩⟩
end
section
/-! THE TABLES: the words that ride over calls, the classes and their fields, the arrays' types, what else is taken along. Written by wip/whole/gen_tables.py. -/
def m_Ts : List Cond := lw_tbl.filter goodWord
theorem m_Ts_good : ∀ w ∈ m_Ts, goodWord w = true := fun _ h => (List.mem_filter.mp h).2
theorem m_mem {i : Nat} {w : Cond} (h : lw_tbl[i]? = some w) (hg : goodWord w = true) : w ∈ m_Ts := List.mem_filter.mpr ⟨List.mem_of_getElem? h, hg⟩
def tfH : u_T := fun k => match k with
  | 0 => ("HoleFiller", "operations", "LHoleFiller$Operations;", true)
  | 1 => ("HoleFiller", "holes", "LHoleFiller$Holes;", true)
  | 2 => ("HoleFiller", "slots", "[LHoleFiller$Slot;", true)
  | 3 => ("HoleFiller", "left", "LHoleFiller$Cursor;", true)
  | 4 => ("HoleFiller", "right", "LHoleFiller$Cursor;", true)
  | 5 => ("HoleFiller", "unifier", "LHoleFiller$Unifier;", true)
  | 6 => ("HoleFiller", "reader", "LHoleFiller$Reader;", true)
  | 7 => ("HoleFiller", "unifiedWithout", "I", false)
  | _ => ("HoleFiller", "unifiedWith", "I", false)
def tfC : u_T := fun k => match k with
  | 0 => ("HoleFiller$Cells", "codes", "[I", false)
  | 1 => ("HoleFiller$Cells", "bounds", "[I", false)
  | _ => ("HoleFiller$Cells", "top", "I", false)
def tfU : u_T := fun k => match k with
  | 0 => ("HoleFiller$Cursor", "cells", "LHoleFiller$Cells;", true)
  | 1 => ("HoleFiller$Cursor", "holes", "LHoleFiller$Holes;", true)
  | 2 => ("HoleFiller$Cursor", "next", "[I", true)
  | 3 => ("HoleFiller$Cursor", "end", "[I", true)
  | 4 => ("HoleFiller$Cursor", "boundAbove", "[I", true)
  | 5 => ("HoleFiller$Cursor", "images", "[I", true)
  | 6 => ("HoleFiller$Cursor", "top", "I", false)
  | 7 => ("HoleFiller$Cursor", "sort", "I", false)
  | 8 => ("HoleFiller$Cursor", "number", "I", false)
  | 9 => ("HoleFiller$Cursor", "bound", "I", false)
  | 10 => ("HoleFiller$Cursor", "variables", "[I", true)
  | _ => ("HoleFiller$Cursor", "variableCount", "I", false)
def tfG : u_T := fun k => match k with
  | 0 => ("HoleFiller$Holes", "cells", "LHoleFiller$Cells;", true)
  | 1 => ("HoleFiller$Holes", "parameters", "[I", true)
  | 2 => ("HoleFiller$Holes", "from", "[I", true)
  | 3 => ("HoleFiller$Holes", "to", "[I", true)
  | 4 => ("HoleFiller$Holes", "sizes", "[I", true)
  | 5 => ("HoleFiller$Holes", "order", "[I", true)
  | 6 => ("HoleFiller$Holes", "told", "I", false)
  | 7 => ("HoleFiller$Holes", "made", "I", false)
  | _ => ("HoleFiller$Holes", "filled", "I", false)
def tfO : u_T := fun k => match k with
  | 0 => ("HoleFiller$Operations", "arity", "[I", true)
  | 1 => ("HoleFiller$Operations", "binds", "[I", true)
  | _ => ("HoleFiller$Operations", "told", "I", false)
def tfR : u_T := fun k => match k with
  | 0 => ("HoleFiller$Reader", "items", "[I", false)
  | 1 => ("HoleFiller$Reader", "length", "I", false)
  | 2 => ("HoleFiller$Reader", "openHoles", "I", false)
  | 3 => ("HoleFiller$Reader", "names", "[I", true)
  | _ => ("HoleFiller$Reader", "orders", "[I", true)
def tfS : u_T := fun k => match k with
  | 0 => ("HoleFiller$Slot", "cells", "LHoleFiller$Cells;", true)
  | 1 => ("HoleFiller$Slot", "from", "I", true)
  | 2 => ("HoleFiller$Slot", "due", "[I", true)
  | 3 => ("HoleFiller$Slot", "dueCount", "I", false)
  | 4 => ("HoleFiller$Slot", "depth", "I", false)
  | 5 => ("HoleFiller$Slot", "length", "I", false)
  | 6 => ("HoleFiller$Slot", "ownSize", "I", false)
  | 7 => ("HoleFiller$Slot", "holeVariablesDue", "I", false)
  | 8 => ("HoleFiller$Slot", "holeVariablesFrom", "I", false)
  | _ => ("HoleFiller$Slot", "holeBound", "I", false)
def tfN : u_T := fun k => match k with
  | 0 => ("HoleFiller$Unifier", "cells", "LHoleFiller$Cells;", true)
  | 1 => ("HoleFiller$Unifier", "holes", "LHoleFiller$Holes;", true)
  | 2 => ("HoleFiller$Unifier", "operations", "LHoleFiller$Operations;", true)
  | 3 => ("HoleFiller$Unifier", "left", "LHoleFiller$Cursor;", true)
  | 4 => ("HoleFiller$Unifier", "right", "LHoleFiller$Cursor;", true)
  | 5 => ("HoleFiller$Unifier", "scout", "LHoleFiller$Cursor;", true)
  | 6 => ("HoleFiller$Unifier", "kept", "[I", true)
  | 7 => ("HoleFiller$Unifier", "keptRight", "[I", true)
  | _ => ("HoleFiller$Unifier", "termSize", "I", false)
def tfD : u_T := fun k => match k with
  | 0 => ("HoleFillerModel", "code", "I", false)
  | 1 => ("HoleFillerModel", "operations", "I", false)
  | 2 => ("HoleFillerModel", "told", "I", false)
  | 3 => ("HoleFillerModel", "fresh", "I", false)
  | 4 => ("HoleFillerModel", "arguments", "[I", true)
  | 5 => ("HoleFillerModel", "binds", "[I", true)
  | 6 => ("HoleFillerModel", "parameters", "[I", true)
  | 7 => ("HoleFillerModel", "length", "[I", true)
  | 8 => ("HoleFillerModel", "filling", "[I", true)
  | 9 => ("HoleFillerModel", "filled", "[Z", true)
  | 10 => ("HoleFillerModel", "was", "[Z", true)
  | 11 => ("HoleFillerModel", "items", "[I", true)
  | 12 => ("HoleFillerModel", "many", "[I", true)
  | 13 => ("HoleFillerModel", "sizes", "[I", true)
  | 14 => ("HoleFillerModel", "depths", "[I", true)
  | 15 => ("HoleFillerModel", "due", "[I", true)
  | 16 => ("HoleFillerModel", "kinds", "[I", true)
  | 17 => ("HoleFillerModel", "places", "[I", true)
  | 18 => ("HoleFillerModel", "begun", "[Z", true)
  | 19 => ("HoleFillerModel", "one", "[I", true)
  | 20 => ("HoleFillerModel", "two", "[I", true)
  | 21 => ("HoleFillerModel", "spare", "[I", true)
  | 22 => ("HoleFillerModel", "deep", "[I", true)
  | 23 => ("HoleFillerModel", "left", "[I", true)
  | 24 => ("HoleFillerModel", "at", "[I", true)
  | 25 => ("HoleFillerModel", "pile", "[I", true)
  | 26 => ("HoleFillerModel", "begins", "[I", true)
  | 27 => ("HoleFillerModel", "middles", "[I", true)
  | 28 => ("HoleFillerModel", "ends", "[I", true)
  | 29 => ("HoleFillerModel", "oneLong", "I", false)
  | 30 => ("HoleFillerModel", "twoLong", "I", false)
  | 31 => ("HoleFillerModel", "equations", "I", false)
  | 32 => ("HoleFillerModel", "mapped", "[I", true)
  | 33 => ("HoleFillerModel", "readItems", "[I", true)
  | 34 => ("HoleFillerModel", "numbers", "[I", true)
  | 35 => ("HoleFillerModel", "orders", "[I", true)
  | 36 => ("HoleFillerModel", "readLong", "I", false)
  | 37 => ("HoleFillerModel", "readHoles", "I", false)
  | 38 => ("HoleFillerModel", "good", "I", false)
  | _ => ("HoleFillerModel", "bad", "I", false)
def m_cl : List vw_C := [("HoleFiller", tfH, 9), ("HoleFiller$Cells", tfC, 3), ("HoleFiller$Cursor", tfU, 12), ("HoleFiller$Holes", tfG, 9), ("HoleFiller$Operations", tfO, 3), ("HoleFiller$Reader", tfR, 5), ("HoleFiller$Slot", tfS, 10), ("HoleFiller$Unifier", tfN, 9), ("HoleFillerModel", tfD, 40)]
def m_tys (ac : Nat → ClassId) : List (ClassId × FieldType) := [(ac 0, .int), (ac 1, .boolean), (ac 2, .long), (ac 9, .object "HoleFiller$Slot")]
def m_strs : List (String × Nat × String) := [("HoleFiller", 71, "an argument binds 0 to 2 variables"), ("HoleFiller", 76, "an argument behind one that is not there"), ("HoleFiller", 82, "a hole has 0 to 4 parameters"), ("HoleFiller", 211, "no such slot"), ("HoleFiller", 91, "a depth is 0 to 6"), ("HoleFiller", 103, "no item is due"), ("HoleFiller", 110, "this item can't stand there"), ("HoleFiller", 231, "a term is not whole"), ("HoleFiller", 236, "the terms have other depths"), ("HoleFiller", 160, "no such item was read"), ("HoleFiller", 241, "no such hole was told")]
def m_nestF : List (String × Nat × String × String × String × String) := [("HoleFiller$Unifier", 110, "HoleFiller$Cells", "top", "I", "HoleFiller"), ("HoleFiller$Holes", 46, "HoleFiller$Cells", "top", "I", "HoleFiller"), ("HoleFiller", 207, "HoleFiller$Operations", "told", "I", "HoleFiller"), ("HoleFiller$Cursor", 95, "HoleFiller$Holes", "from", "[I", "HoleFiller"), ("HoleFiller", 192, "HoleFiller$Holes", "from", "[I", "HoleFiller"), ("HoleFiller$Cursor", 98, "HoleFiller$Holes", "to", "[I", "HoleFiller"), ("HoleFiller", 195, "HoleFiller$Holes", "to", "[I", "HoleFiller"), ("HoleFiller", 186, "HoleFiller$Holes", "sizes", "[I", "HoleFiller"), ("HoleFiller", 204, "HoleFiller$Holes", "told", "I", "HoleFiller"), ("HoleFiller", 136, "HoleFiller$Holes", "made", "I", "HoleFiller"), ("HoleFiller", 132, "HoleFiller$Holes", "filled", "I", "HoleFiller"), ("HoleFiller", 238, "HoleFiller$Slot", "from", "I", "HoleFiller"), ("HoleFiller", 233, "HoleFiller$Slot", "depth", "I", "HoleFiller"), ("HoleFiller", 240, "HoleFiller$Slot", "length", "I", "HoleFiller"), ("HoleFiller", 219, "HoleFiller$Slot", "ownSize", "I", "HoleFiller"), ("HoleFiller$Unifier", 50, "HoleFiller$Cursor", "sort", "I", "HoleFiller"), ("HoleFiller$Reader", 41, "HoleFiller$Cursor", "sort", "I", "HoleFiller"), ("HoleFiller$Reader", 48, "HoleFiller$Cursor", "number", "I", "HoleFiller"), ("HoleFiller$Unifier", 54, "HoleFiller$Cursor", "number", "I", "HoleFiller"), ("HoleFiller$Unifier", 142, "HoleFiller$Cursor", "bound", "I", "HoleFiller"), ("HoleFiller$Unifier", 75, "HoleFiller$Cursor", "variables", "[I", "HoleFiller"), ("HoleFiller$Reader", 74, "HoleFiller$Cursor", "variables", "[I", "HoleFiller"), ("HoleFiller$Unifier", 72, "HoleFiller$Cursor", "variableCount", "I", "HoleFiller"), ("HoleFiller$Reader", 71, "HoleFiller$Cursor", "variableCount", "I", "HoleFiller"), ("HoleFiller", 163, "HoleFiller$Reader", "items", "[I", "HoleFiller"), ("HoleFiller", 155, "HoleFiller$Reader", "length", "I", "HoleFiller"), ("HoleFiller", 208, "HoleFiller$Reader", "openHoles", "I", "HoleFiller")]
def m_nestM : List (String × Nat × MethodName × String) := [("HoleFiller", 11, ⟨"HoleFiller$Cells", "<init>", "()V"⟩, "HoleFiller"), ("HoleFiller", 14, ⟨"HoleFiller$Operations", "<init>", "()V"⟩, "HoleFiller"), ("HoleFiller", 60, ⟨"HoleFiller$Reader", "<init>", "()V"⟩, "HoleFiller"), ("HoleFiller$Holes", 42, ⟨"HoleFiller", "at", "([II)I"⟩, "HoleFiller"), ("HoleFiller$Holes", 35, ⟨"HoleFiller", "set", "([III)V"⟩, "HoleFiller"), ("HoleFiller$Operations", 34, ⟨"HoleFiller", "at", "([II)I"⟩, "HoleFiller"), ("HoleFiller$Operations", 30, ⟨"HoleFiller", "set", "([III)V"⟩, "HoleFiller"), ("HoleFiller$Slot", 35, ⟨"HoleFiller", "set", "([III)V"⟩, "HoleFiller"), ("HoleFiller$Slot", 56, ⟨"HoleFiller", "at", "([II)I"⟩, "HoleFiller"), ("HoleFiller$Cells", 22, ⟨"HoleFiller", "at", "([II)I"⟩, "HoleFiller"), ("HoleFiller$Slot", 72, ⟨"HoleFiller", "numberOf", "(I)I"⟩, "HoleFiller"), ("HoleFiller$Slot", 75, ⟨"HoleFiller", "codeOf", "(II)I"⟩, "HoleFiller"), ("HoleFiller$Cells", 26, ⟨"HoleFiller", "set", "([III)V"⟩, "HoleFiller"), ("HoleFiller$Cursor", 39, ⟨"HoleFiller", "set", "([III)V"⟩, "HoleFiller"), ("HoleFiller$Cursor", 43, ⟨"HoleFiller", "at", "([II)I"⟩, "HoleFiller"), ("HoleFiller$Cursor", 72, ⟨"HoleFiller", "sortOf", "(I)I"⟩, "HoleFiller"), ("HoleFiller$Cursor", 75, ⟨"HoleFiller", "numberOf", "(I)I"⟩, "HoleFiller"), ("HoleFiller$Unifier", 78, ⟨"HoleFiller", "at", "([II)I"⟩, "HoleFiller"), ("HoleFiller$Unifier", 82, ⟨"HoleFiller", "set", "([III)V"⟩, "HoleFiller"), ("HoleFiller$Holes", 51, ⟨"HoleFiller", "codeOf", "(II)I"⟩, "HoleFiller"), ("HoleFiller$Unifier", 152, ⟨"HoleFiller", "codeOf", "(II)I"⟩, "HoleFiller"), ("HoleFiller$Holes", 86, ⟨"HoleFiller", "sortOf", "(I)I"⟩, "HoleFiller"), ("HoleFiller$Holes", 89, ⟨"HoleFiller", "numberOf", "(I)I"⟩, "HoleFiller"), ("HoleFiller$Reader", 59, ⟨"HoleFiller", "at", "([II)I"⟩, "HoleFiller"), ("HoleFiller$Reader", 63, ⟨"HoleFiller", "set", "([III)V"⟩, "HoleFiller"), ("HoleFiller$Reader", 51, ⟨"HoleFiller", "codeOf", "(II)I"⟩, "HoleFiller")]
def m_aos : List String := ["HoleFiller$Slot"]
def m_ncs : List (String × String) := [("java/lang/IllegalArgumentException", "java/lang/IllegalStateException"), ("java/lang/IllegalStateException", "java/lang/IllegalArgumentException")]
def m_cas : List (String × String) := [("java/lang/IllegalArgumentException", "java/lang/IllegalArgumentException"), ("java/lang/IllegalStateException", "java/lang/IllegalStateException"), ("java/lang/IndexOutOfBoundsException", "java/lang/IndexOutOfBoundsException")]
def m_decl : List MethodName := [⟨"java/lang/RuntimeException", "<init>", "()V"⟩, ⟨"java/lang/RuntimeException", "<init>", "(Ljava/lang/String;)V"⟩, ⟨"java/lang/Exception", "<init>", "()V"⟩, ⟨"java/lang/Exception", "<init>", "(Ljava/lang/String;)V"⟩, ⟨"java/lang/Throwable", "<init>", "()V"⟩, ⟨"java/lang/Throwable", "<init>", "(Ljava/lang/String;)V"⟩]
theorem m_Ts_int : Cond.arrayClass .int ∈ m_Ts := m_mem (i := 94) (by decide +kernel) rfl
theorem m_Ts_bool : Cond.arrayClass .boolean ∈ m_Ts := m_mem (i := 974) (by decide +kernel) rfl
theorem m_Ts_long : Cond.arrayClass .long ∈ m_Ts := m_mem (i := 1131) (by decide +kernel) rfl
end
section
/-! THE CLEAN LOGIC. Values, cells and heaps without addresses: a reference is the number of its place in the heap, a heap a list of cells. 'Ev' says of a method's place, locals, stack and heap that the machine comes to its end with Q, whatever the addresses are. One row an instruction; calls by Ev of the callee's entry. -/
/-- an int, a long, a reference by its place (none: null), the law's script -/
abbrev MV : Type := Int32 ⊕ Int64 ⊕ Option Nat ⊕ Unit
/-- ints (0) and booleans (1), longs, references (number of the elements' class), an object (number of its class, its fields) -/
abbrev MC : Type := (Nat × Nat × (Nat → Int32)) ⊕ (Nat × (Nat → Int64)) ⊕ (Nat × Nat × (Nat → Option Nat)) ⊕ (Nat × List MV)
abbrev ML : Type := List (Nat × MV)
/-- returned, or thrown an object of the class -/
abbrev MO : Type := Option MV ⊕ String
abbrev mi (x : Int32) : MV := .inl x
abbrev ml (x : Int64) : MV := .inr (.inl x)
abbrev mr (p : Nat) : MV := .inr (.inr (.inl (some p)))
abbrev mn : MV := .inr (.inr (.inl none))
abbrev msc : MV := .inr (.inr (.inr ()))
abbrev cI (n : Nat) (f : Nat → Int32) : MC := .inl (0, n, f)
abbrev cZ (n : Nat) (f : Nat → Int32) : MC := .inl (1, n, f)
abbrev cL (n : Nat) (f : Nat → Int64) : MC := .inr (.inl (n, f))
abbrev cR (ci n : Nat) (f : Nat → Option Nat) : MC := .inr (.inr (.inl (ci, n, f)))
abbrev cO (ci : Nat) (fs : List MV) : MC := .inr (.inr (.inr (ci, fs)))
/-- the script: its address, length, contents -/
abbrev MS : Type := Option (Nat × Nat × (Nat → Int32))
def m_v (al : List Nat) (sc : MS) : MV → Option Value
  | .inl x => some (.int x)
  | .inr (.inl x) => some (.long x)
  | .inr (.inr (.inl none)) => some .null
  | .inr (.inr (.inl (some p))) => (al[p]?).map Value.ref
  | .inr (.inr (.inr _)) => sc.map (fun q => Value.ref q.1)
def m_cat : MV → Nat
  | .inr (.inl _) => 2
  | _ => 1
theorem m_v_cat {al : List Nat} {sc : MS} {v : MV} {V : Value} (h : m_v al sc v = some V) : V.category = m_cat v := by
  rcases v with x | x | (_ | p) | u
  · cases h; rfl
  · cases h; rfl
  · cases h; rfl
  · simp only [m_v, Option.map_eq_some_iff] at h
    obtain ⟨a, -, rfl⟩ := h
    rfl
  · simp only [m_v, Option.map_eq_some_iff] at h
    obtain ⟨a, -, rfl⟩ := h
    rfl
/-- more places: what was there stays -/
def m_le (al al' : List Nat) : Prop := ∃ x, al' = al ++ x
theorem m_le.rf {al : List Nat} : m_le al al := ⟨[], (List.append_nil al).symm⟩
theorem m_le.tr {a b c : List Nat} (h : m_le a b) (k : m_le b c) : m_le a c := by
  obtain ⟨x, rfl⟩ := h
  obtain ⟨y, rfl⟩ := k
  exact ⟨x ++ y, List.append_assoc a x y⟩
theorem m_le.at {a b : List Nat} (h : m_le a b) {p q : Nat} (hp : a[p]? = some q) : b[p]? = some q := by
  obtain ⟨x, rfl⟩ := h
  have hl := (List.getElem?_eq_some_iff.mp hp).1
  rw [List.getElem?_append_left hl]
  exact hp
theorem m_v_le {al al' : List Nat} {sc : MS} {v : MV} {V : Value} (hl : m_le al al') (h : m_v al sc v = some V) : m_v al' sc v = some V := by
  rcases v with x | x | (_ | p) | u
  · exact h
  · exact h
  · exact h
  · simp only [m_v, Option.map_eq_some_iff] at h ⊢
    obtain ⟨a, h1, h2⟩ := h
    exact ⟨a, hl.at h1, h2⟩
  · exact h
theorem m_v_sc {al : List Nat} {sc : MS} {v : MV} {V : Value} (h : m_v al none v = some V) : m_v al sc v = some V := by
  rcases v with x | x | (_ | p) | u
  · exact h
  · exact h
  · exact h
  · exact h
  · cases h
/-- a list of values, one by one -/
def m_vs (al : List Nat) (sc : MS) (vs : List MV) (VS : List Value) : Prop := vs.map (m_v al sc) = VS.map some
theorem m_vs.nil {al : List Nat} {sc : MS} : m_vs al sc [] [] := rfl
theorem m_vs.cons {al : List Nat} {sc : MS} {v : MV} {V : Value} {vs : List MV} {VS : List Value} (h : m_v al sc v = some V) (k : m_vs al sc vs VS) : m_vs al sc (v :: vs) (V :: VS) := by
  unfold m_vs at *
  rw [List.map_cons, List.map_cons, h, k]
theorem m_vs.inv {al : List Nat} {sc : MS} {v : MV} {vs : List MV} {VS : List Value} (h : m_vs al sc (v :: vs) VS) : ∃ V VS', VS = V :: VS' ∧ m_v al sc v = some V ∧ m_vs al sc vs VS' := by
  cases VS with
  | nil => cases h
  | cons V VS' =>
    unfold m_vs at h
    rw [List.map_cons, List.map_cons] at h
    exact ⟨V, VS', rfl, (List.cons.inj h).1, (List.cons.inj h).2⟩
theorem m_vs.inv0 {al : List Nat} {sc : MS} {VS : List Value} (h : m_vs al sc [] VS) : VS = [] := by
  cases VS with
  | nil => rfl
  | cons V VS' => cases h
theorem m_vs.le {al al' : List Nat} {sc : MS} (hl : m_le al al') : ∀ {vs : List MV} {VS : List Value}, m_vs al sc vs VS → m_vs al' sc vs VS := by
  intro vs
  induction vs with
  | nil => intro VS h; rw [h.inv0]; exact m_vs.nil
  | cons v vs ih =>
    intro VS h
    obtain ⟨V, VS', rfl, h1, h2⟩ := h.inv
    exact m_vs.cons (m_v_le hl h1) (ih h2)
theorem m_vs.sc {al : List Nat} {sc : MS} : ∀ {vs : List MV} {VS : List Value}, m_vs al none vs VS → m_vs al sc vs VS := by
  intro vs
  induction vs with
  | nil => intro VS h; rw [h.inv0]; exact m_vs.nil
  | cons v vs ih =>
    intro VS h
    obtain ⟨V, VS', rfl, h1, h2⟩ := h.inv
    exact m_vs.cons (m_v_sc h1) (ih h2)
theorem m_vs.len {al : List Nat} {sc : MS} {vs : List MV} {VS : List Value} (h : m_vs al sc vs VS) : VS.length = vs.length := by
  have h1 := congrArg List.length h
  rw [List.length_map, List.length_map] at h1
  exact h1.symm
theorem m_vs.at {al : List Nat} {sc : MS} {vs : List MV} {VS : List Value} (h : m_vs al sc vs VS) {k : Nat} {v : MV} (hk : vs[k]? = some v) : ∃ V, VS[k]? = some V ∧ m_v al sc v = some V := by
  have h1 := congrArg (fun l : List (Option Value) => l[k]?) h
  simp only [List.getElem?_map, hk, Option.map_some] at h1
  cases hV : VS[k]? with
  | none => rw [hV] at h1; cases h1
  | some V => rw [hV] at h1; exact ⟨V, rfl, Option.some.inj h1⟩
theorem m_vs.set {al : List Nat} {sc : MS} {vs : List MV} {VS : List Value} (h : m_vs al sc vs VS) {k : Nat} {v : MV} {V : Value} (hv : m_v al sc v = some V) : m_vs al sc (vs.set k v) (VS.set k V) := by
  unfold m_vs at *
  rw [List.map_set, List.map_set, h, hv]
theorem m_vs.app {al : List Nat} {sc : MS} {a b : List MV} {A B : List Value} (h : m_vs al sc a A) (k : m_vs al sc b B) : m_vs al sc (a ++ b) (A ++ B) := by
  unfold m_vs at *
  rw [List.map_append, List.map_append, h, k]
theorem m_vs.split {al : List Nat} {sc : MS} : ∀ {a b : List MV} {VS : List Value}, m_vs al sc (a ++ b) VS → ∃ A B, VS = A ++ B ∧ m_vs al sc a A ∧ m_vs al sc b B := by
  intro a
  induction a with
  | nil => intro b VS h; exact ⟨[], VS, rfl, m_vs.nil, h⟩
  | cons v a ih =>
    intro b VS h
    obtain ⟨V, VS', rfl, h1, h2⟩ := m_vs.inv (show m_vs al sc (v :: (a ++ b)) VS from h)
    obtain ⟨A, B, rfl, h3, h4⟩ := ih h2
    exact ⟨V :: A, B, rfl, m_vs.cons h1 h3, h4⟩
theorem m_vs.rev {al : List Nat} {sc : MS} {vs : List MV} {VS : List Value} (h : m_vs al sc vs VS) : m_vs al sc vs.reverse VS.reverse := by
  unfold m_vs at *
  rw [List.map_reverse, List.map_reverse, h]
theorem m_vs.cats {al : List Nat} {sc : MS} : ∀ {vs : List MV} {VS : List Value}, m_vs al sc vs VS → (VS.map fun v => v.category) = vs.map m_cat := by
  intro vs
  induction vs with
  | nil => intro VS h; rw [h.inv0]; rfl
  | cons v vs ih =>
    intro VS h
    obtain ⟨V, VS', rfl, h1, h2⟩ := h.inv
    rw [List.map_cons, List.map_cons, ih h2, m_v_cat h1]
/-- locals: a list of places and values -/
def m_ls (al : List Nat) (sc : MS) (lv : ML) (LV : List (Nat × Value)) : Prop := lv.map (fun q => (q.1, m_v al sc q.2)) = LV.map (fun q => (q.1, some q.2))
theorem m_ls.nil {al : List Nat} {sc : MS} : m_ls al sc [] [] := rfl
theorem m_ls.cons {al : List Nat} {sc : MS} {i : Nat} {v : MV} {V : Value} {lv : ML} {LV : List (Nat × Value)} (h : m_v al sc v = some V) (k : m_ls al sc lv LV) : m_ls al sc ((i, v) :: lv) ((i, V) :: LV) := by
  unfold m_ls at *
  rw [List.map_cons, List.map_cons, h, k]
theorem m_ls.inv {al : List Nat} {sc : MS} {q : Nat × MV} {lv : ML} {LV : List (Nat × Value)} (h : m_ls al sc (q :: lv) LV) : ∃ V LV', LV = (q.1, V) :: LV' ∧ m_v al sc q.2 = some V ∧ m_ls al sc lv LV' := by
  cases LV with
  | nil => cases h
  | cons Q LV' =>
    unfold m_ls at h
    rw [List.map_cons, List.map_cons] at h
    obtain ⟨h1, h2⟩ := List.cons.inj h
    obtain ⟨i, V⟩ := Q
    have h3 := congrArg Prod.fst h1
    have h4 := congrArg Prod.snd h1
    dsimp only at h3 h4
    subst h3
    exact ⟨V, LV', rfl, h4, h2⟩
theorem m_ls.inv0 {al : List Nat} {sc : MS} {LV : List (Nat × Value)} (h : m_ls al sc [] LV) : LV = [] := by
  cases LV with
  | nil => rfl
  | cons V VS' => cases h
theorem m_ls.le {al al' : List Nat} {sc : MS} (hl : m_le al al') : ∀ {lv : ML} {LV : List (Nat × Value)}, m_ls al sc lv LV → m_ls al' sc lv LV := by
  intro lv
  induction lv with
  | nil => intro LV h; rw [h.inv0]; exact m_ls.nil
  | cons v vs ih =>
    intro LV h
    obtain ⟨V, LV', rfl, h1, h2⟩ := h.inv
    exact m_ls.cons (m_v_le hl h1) (ih h2)
theorem m_ls.at {al : List Nat} {sc : MS} : ∀ {lv : ML} {LV : List (Nat × Value)} {i : Nat} {v : MV}, m_ls al sc lv LV → lv.find? (fun q => q.1 == i) = some (i, v) → ∃ V, (i, V) ∈ LV ∧ m_v al sc v = some V := by
  intro lv
  induction lv with
  | nil => intro LV i v h hf; cases hf
  | cons q lv ih =>
    intro LV i v h hf
    obtain ⟨V, LV', rfl, h1, h2⟩ := h.inv
    rw [List.find?_cons] at hf
    split at hf
    · cases hf
      exact ⟨V, List.mem_cons_self, h1⟩
    · obtain ⟨V2, h3, h4⟩ := ih h2 hf
      exact ⟨V2, List.mem_cons_of_mem _ h3, h4⟩
/-- a local is read -/
def m_get (lv : ML) (i : Nat) : Option MV := (lv.find? (fun q => q.1 == i)).map (fun q => q.2)
theorem m_get_find {lv : ML} {i : Nat} {v : MV} (h : m_get lv i = some v) : lv.find? (fun q => q.1 == i) = some (i, v) := by
  unfold m_get at h
  rw [Option.map_eq_some_iff] at h
  obtain ⟨⟨k, w⟩, h1, h2⟩ := h
  have h3 := List.find?_some h1
  dsimp only at h2 h3
  subst h2
  rw [h1, eq_of_beq h3]
/-- a local is written -/
def m_put (lv : ML) (i : Nat) (v : MV) : ML := (i, v) :: lv.filter (fun q => !(q.1 == i) && !(q.1 + 1 == i && m_cat q.2 == 2))
theorem m_ls.filt {al : List Nat} {sc : MS} {i : Nat} : ∀ {lv : ML} {LV : List (Nat × Value)}, m_ls al sc lv LV → m_ls al sc (lv.filter (fun q => !(q.1 == i) && !(q.1 + 1 == i && m_cat q.2 == 2))) (LV.filter (fun q => !(q.1 == i) && !(q.1 + 1 == i && q.2.category == 2))) := by
  intro lv
  induction lv with
  | nil => intro LV h; rw [h.inv0]; exact m_ls.nil
  | cons q lv ih =>
    intro LV h
    obtain ⟨V, LV', rfl, h1, h2⟩ := h.inv
    rw [List.filter_cons, List.filter_cons]
    have h3 : V.category = m_cat q.2 := m_v_cat h1
    dsimp only
    rw [h3]
    split
    · exact m_ls.cons h1 (ih h2)
    · exact ih h2
/-- a cell of the clean heap and the world's cell -/
def m_c (ac : Nat → ClassId) (al : List Nat) (c : MC) (e : va_E) : Prop := match c with
  | .inl (t, n, f) => e = .inl (ac t, n, .inl f)
  | .inr (.inl (n, f)) => e = .inl (ac 2, n, .inr (.inl f))
  | .inr (.inr (.inl (ci, n, f))) => ∃ F : Nat → Option Nat, e = .inl (ac (3 + ci), n, .inr (.inr (.inr (.inr F)))) ∧ ∀ k : Nat, (f k).map (fun p => al[p]?) = (F k).map some
  | .inr (.inr (.inr (ci, fs))) => ∃ FS : List Value, e = .inr (ci, FS) ∧ m_vs al none fs FS
theorem m_c.le {ac : Nat → ClassId} {al al' : List Nat} (hl : m_le al al') {c : MC} {e : va_E} (h : m_c ac al c e) : m_c ac al' c e := by
  rcases c with ⟨t, n, f⟩ | ⟨n, f⟩ | ⟨ci, n, f⟩ | ⟨ci, fs⟩
  · exact h
  · exact h
  · obtain ⟨F, h1, h2⟩ := h
    refine ⟨F, h1, fun k => ?_⟩
    have h3 := h2 k
    cases hf : f k with
    | none => rw [hf] at h3; exact h3
    | some p =>
      rw [hf] at h3
      cases hF : F k with
      | none => rw [hF] at h3; cases h3
      | some a =>
        rw [hF] at h3
        have h4 : al[p]? = some a := Option.some.inj h3
        show some (al'[p]?) = some (some a)
        rw [hl.at h4]
  · obtain ⟨FS, h1, h2⟩ := h
    exact ⟨FS, h1, h2.le hl⟩
/-- the clean heap and the world: the same places -/
def m_al (ws : va_W) : List Nat := ws.map (fun q => q.1)
def m_W (ac : Nat → ClassId) (h : List MC) (ws : va_W) : Prop := ws.length = h.length ∧ ∀ (p : Nat) (c : MC), h[p]? = some c → ∃ (a : Nat) (e : va_E), ws[p]? = some (a, e) ∧ m_c ac (m_al ws) c e
theorem m_al_at {ws : va_W} {p a : Nat} {e : va_E} (h : ws[p]? = some (a, e)) : (m_al ws)[p]? = some a := by
  unfold m_al
  rw [List.getElem?_map, h]
  rfl
theorem m_al_set {ws : va_W} {p a : Nat} {e0 e : va_E} (h : ws[p]? = some (a, e0)) : m_al (ws.set p (a, e)) = m_al ws := by
  unfold m_al
  rw [List.map_set]
  refine List.ext_getElem? fun i => ?_
  by_cases hi : p = i
  · subst hi
    have hl := (List.getElem?_eq_some_iff.mp h).1
    rw [List.getElem?_set_self (by rw [List.length_map]; exact hl), List.getElem?_map, h]
    rfl
  · rw [List.getElem?_set_ne hi]
theorem m_W.get {ac : Nat → ClassId} {h : List MC} {ws : va_W} (H : m_W ac h ws) {p : Nat} {c : MC} (hp : h[p]? = some c) : ∃ (a : Nat) (e : va_E), ws[p]? = some (a, e) ∧ (m_al ws)[p]? = some a ∧ m_c ac (m_al ws) c e := by
  obtain ⟨a, e, h1, h2⟩ := H.2 p c hp
  exact ⟨a, e, h1, m_al_at h1, h2⟩
theorem m_W.set {ac : Nat → ClassId} {h : List MC} {ws : va_W} (H : m_W ac h ws) {p a : Nat} {c : MC} {e0 e : va_E} (hp : ws[p]? = some (a, e0)) (hc : m_c ac (m_al ws) c e) : m_W ac (h.set p c) (ws.set p (a, e)) := by
  refine ⟨by rw [List.length_set, List.length_set]; exact H.1, fun i ci hi => ?_⟩
  rw [m_al_set hp]
  by_cases hip : p = i
  · subst hip
    have hl := (List.getElem?_eq_some_iff.mp hp).1
    have hl2 : p < h.length := by rw [← H.1]; exact hl
    rw [List.getElem?_set_self hl2] at hi
    cases hi
    exact ⟨a, e, List.getElem?_set_self hl, hc⟩
  · rw [List.getElem?_set_ne hip] at hi
    obtain ⟨a1, e1, h1, h2⟩ := H.2 i ci hi
    exact ⟨a1, e1, by rw [List.getElem?_set_ne hip]; exact h1, h2⟩
theorem m_al_push (ws : va_W) (q : Nat) (e : va_E) : m_al (ws ++ [(q, e)]) = m_al ws ++ [q] := by
  unfold m_al
  rw [List.map_append]
  rfl
theorem m_le_push (ws : va_W) (q : Nat) (e : va_E) : m_le (m_al ws) (m_al (ws ++ [(q, e)])) := ⟨[q], m_al_push ws q e⟩
theorem m_W.push {ac : Nat → ClassId} {h : List MC} {ws : va_W} (H : m_W ac h ws) {q : Nat} {c : MC} {e : va_E} (hc : m_c ac (m_al ws) c e) : m_W ac (h ++ [c]) (ws ++ [(q, e)]) := by
  refine ⟨by rw [List.length_append, List.length_append, H.1]; rfl, fun i ci hi => ?_⟩
  by_cases hl : i < h.length
  · rw [List.getElem?_append_left hl] at hi
    obtain ⟨a1, e1, h1, h2⟩ := H.2 i ci hi
    exact ⟨a1, e1, by rw [List.getElem?_append_left (by rw [H.1]; exact hl)]; exact h1, h2.le (m_le_push ws q e)⟩
  · rw [List.getElem?_append_right (by omega)] at hi
    have hz : i - h.length < 1 := (List.getElem?_eq_some_iff.mp hi).1
    have hi0 : i = h.length := by omega
    subst hi0
    rw [Nat.sub_self] at hi
    cases hi
    refine ⟨q, e, ?_, hc.le (m_le_push ws q e)⟩
    rw [List.getElem?_append_right (by rw [H.1]; exact Nat.le_refl _), H.1, Nat.sub_self]
    rfl
theorem m_al_new {ac : Nat → ClassId} {h : List MC} {ws : va_W} (H : m_W ac h ws) (q : Nat) (e : va_E) : (m_al (ws ++ [(q, e)]))[h.length]? = some q := by
  refine m_al_at (e := e) ?_
  rw [List.getElem?_append_right (by rw [H.1]; exact Nat.le_refl _), H.1, Nat.sub_self]
  rfl
/-- a method: name, bytes, locals, type of its answer, table of handlers -/
abbrev MM : Type := MethodName × ByteArray × Nat × Option FieldType × List (Nat × Nat × Nat × Nat)
/-- launch, classes and slots, array classes -/
abbrev MG : Type := Launch × va_G × (Nat → ClassId)
def m_Fr (M : MM) (p : Program) (s : State) (m : MethodId) (args : Array Value) (meth : Method) (c : Code) : Prop :=
  p.tables.exec = Jvm.exec ∧ c.code = M.2.1 ∧ meth.sig.returnType = M.2.2.2.1 ∧ meth.locks = false ∧ c.maxLocals = M.2.2.1 ∧ s.vm.findClass M.1.cls = some m.cls ∧ (∀ w ∈ m_Ts, w.before args s = true) ∧ meth.name = M.1.name ∧ c.exceptionTable.toList = tableOf M.2.2.2.2
/-- where a static of the two that a new Throwable reads lies -/
def m_L (C n d : String) (A : Nat → Prop) (U : State) (H : Heap) : Prop := ∃ (c : ClassId) (k : Class) (i : Nat) (f : Field) (a : Addr) (cell : Cell), U.vm.findClass C = some c ∧ U.fieldFound? C n d = some (c, k, i, f) ∧ f.isStatic = true ∧ k.statics = some a ∧ H[a]? = some cell ∧ cell.vm.isStatics = true ∧ cell.cls = c ∧ f.slot < cell.slots.size ∧ k.staticTypes[f.slot]? = some f.type ∧ ¬ A a
/-- a class can be cast to another -/
def m_Cs (C T : String) (U : State) : Prop := ∃ c t : ClassId, U.vm.findClass C = some c ∧ U.vm.findClass T = some t ∧ U.vm.assignable c t = true
theorem m_Cs.moved {C T : String} {u U : State} (hvm : u.vm.Alike U.vm) (h : m_Cs C T u) : m_Cs C T U := by
  obtain ⟨c, t, h1, h2, h3⟩ := h
  exact ⟨c, t, by rw [hvm.findClass]; exact h1, by rw [hvm.findClass]; exact h2, by rw [hvm.assignable]; exact h3⟩
/-- what isn't a good word: two statics of Throwable, the texts, the links between nest mates, the classes that arrays are made of, the pairs of exceptions that are no kin -/
def m_St (A : Nat → Prop) (s : State) : Prop := (m_L Bundle.tN "UNASSIGNED_STACK" Bundle.steD A s s.heap ∧ m_L Bundle.tN "SUPPRESSED_SENTINEL" Bundle.listD A s s.heap ∧ va_Zq Bundle.tN "UNASSIGNED_STACK" Bundle.steD A s s.heap ∧ va_Zq Bundle.tN "SUPPRESSED_SENTINEL" Bundle.listD A s s.heap) ∧ (∀ (q : Nat) (cell : Cell), A q → s.heap[q]? = some cell → cell.vm.isStatics = false) ∧ (∀ q ∈ m_strs, ∃ sa, vk_R q.1 q.2.1 q.2.2 sa s) ∧ (∀ q ∈ m_nestF, va_Nw (.fieldLinkNest q.1 q.2.1 q.2.2.1 q.2.2.2.1 q.2.2.2.2.1 q.2.2.2.2.2) s) ∧ (∀ q ∈ m_nestM, va_Nw (.methodLinkNest q.1 q.2.1 q.2.2.1 q.2.2.2) s) ∧ (∀ C ∈ m_aos, va_AO C s) ∧ (∀ q ∈ m_ncs, va_Nc q.1 q.2 s) ∧ (∀ q ∈ m_cas, m_Cs q.1 q.2 s) ∧ ∀ y ∈ m_decl, va_Nw (.declares y) s
def m_sc (A : Nat → Prop) (s : State) (sc : MS) : Prop := ∀ q, sc = some q → va_X q.1 q.2.1 q.2.2 s s.heap ∧ q.1 < s.heap.size ∧ ¬ A q.1
/-- the world at the end -/
def m_Wd (g : MG) (al0 : List Nat) (A : Nat → Prop) (h : List MC) (ws : va_W) (t : State) : Prop := m_W g.2.2 h ws ∧ va_P g.2.1 m_cl ws t.heap ∧ va_K g.2.1 m_cl (m_tys g.2.2) t ∧ va_D A ws ∧ m_le al0 (m_al ws)
/-- an end: by return, or by throw -/
def m_E (g : MG) (Q : MO → List MC → Prop) (al0 : List Nat) (A : Nat → Prop) (CT ST : Nat) (s : State) (o : Outcome) (t : State) : Prop :=
  ((∃ (r : Option MV) (V : Option Value) (h' : List MC) (ws' : va_W), o = .returned V ∧ m_vs (m_al ws') none r.toList V.toList ∧ Q (.inl r) h' ∧ m_Wd g al0 A h' ws' t) ∨
   (∃ (E : String) (q : Addr) (ce : Cell) (h' : List MC) (ws' : va_W), o = .threw q ∧ t.heap[q]? = some ce ∧ ce.vm = .none ∧ s.vm.findClass E = some ce.cls ∧ Q (.inr E) h' ∧ m_Wd g al0 A h' ws' t)) ∧
  va_F A s t ∧ s.WarmedH t.vm ∧ ∃ L : List Loc, s.sameButNew ({ t with vm := s.vm } : State) L CT ST ∧ ∀ z ∈ L, A z.base
def m_Z (g : MG) (Q : MO → List MC → Prop) (al0 : List Nat) (A : Nat → Prop) (CT ST : Nat) (below : List Frame) (s : State) : State → Prop := fun t => ∃ o, t.status = .running ∧ Ended t below o ∧ m_E g Q al0 A CT ST s o t
/-- the room that is left: d frames, w words of locals -/
def m_Rm (d w : Nat) (R : Room) : Prop := d ≤ R.frames ∧ w ≤ R.locals
/-- THE JUDGEMENT: from pc, with locals lv, stack st, heap h, the method comes to an end with Q; at most mc cells of ms slots are made -/
def Ev (g : MG) (sc : MS) (M : MM) (d w pc : Nat) (lv : ML) (st : List MV) (h : List MC) (mc ms : Nat) (Q : MO → List MC → Prop) : Prop :=
  ∀ (p : Program) (e : Env) (R : Room) (s : State) (m : MethodId) (args : Array Value) (below : List Frame) (meth : Method) (c : Code) (A : Nat → Prop) (al0 : List Nat) (H : Heap) (locs : List Loc) (cells slots CT ST : Nat) (ls : Array Slot) (ws : va_W) (LV : List (Nat × Value)) (VS : List Value),
    m_Fr M p s m args meth c → m_St A s → m_sc A s sc → m_Rm d w R → cells + mc ≤ CT → slots + ms ≤ ST → CT ≤ R.cells → ST ≤ R.slots → (∀ q, s.heap.size ≤ q → A q) → va_K g.2.1 m_cl (m_tys g.2.2) s →
    va_P g.2.1 m_cl ws H → va_D A ws → va_S A s.heap H locs → m_W g.2.2 h ws → m_le al0 (m_al ws) → lv_has ls M.2.2.1 LV → m_ls (m_al ws) sc lv LV → m_vs (m_al ws) sc st VS →
    W p g.1 e R s m args below meth c H locs cells slots (m_Z g Q al0 A CT ST below s) (F0 m pc ls VS)
/-- a method's return, said of its world -/
theorem m_ret {g : MG} {Q : MO → List MC → Prop} {al0 : List Nat} {A : Nat → Prop} {CT ST : Nat} {below : List Frame} {s : State} {p : Program} {e : Env} {R : Room} {m : MethodId} {args : Array Value} {meth : Method} {c : Code} {H : Heap} {locs : List Loc} {fr : JFrame} {r : Option MV} {V : Option Value} {h : List MC} {ws : va_W}
    (hv : m_vs (m_al ws) none r.toList V.toList) (hq : Q (.inl r) h) (hW : m_W g.2.2 h ws) (hP : va_P g.2.1 m_cl ws H) (hK : va_K g.2.1 m_cl (m_tys g.2.2) s) (hD : va_D A ws) (hal : m_le al0 (m_al ws)) (hS : va_S A s.heap H locs)
    (k : W p g.1 e R s m args below meth c H locs CT ST (MQ below (fun _ _ o t => o = .returned V ∧ t.heap = H) args s CT ST A) fr) : W p g.1 e R s m args below meth c H locs CT ST (m_Z g Q al0 A CT ST below s) fr := by
  intro T hT X
  obtain ⟨t, a1, o, b1, b2, ⟨ho, ht⟩, L, hL1, hL2⟩ := k T hT X
  obtain ⟨-, hW9, hsm⟩ := hL1
  exact ⟨t, a1, o, b1, b2, Or.inl ⟨r, V, h, ws, ho, hv, hq, hW, by rw [ht]; exact hP, va_K.moved hW9.alike hK, hD, hal⟩, hS.F ht, hW9, L, hsm, hL2⟩
end
section
theorem m_v_ref {al : List Nat} {sc : MS} {r : Option Nat ⊕ Unit} {V : Value} (h : m_v al sc (.inr (.inr r)) = some V) : V = .null ∨ ∃ q, V = .ref q := by
  rcases r with (_ | p) | u
  · cases h; exact Or.inl rfl
  · simp only [m_v, Option.map_eq_some_iff] at h
    obtain ⟨a, -, rfl⟩ := h
    exact Or.inr ⟨a, rfl⟩
  · simp only [m_v, Option.map_eq_some_iff] at h
    obtain ⟨a, -, rfl⟩ := h
    exact Or.inr ⟨_, rfl⟩
theorem m_v_mr {al : List Nat} {sc : MS} {r : Nat} {V : Value} (h : m_v al sc (mr r) = some V) : ∃ q, al[r]? = some q ∧ V = .ref q := by
  simp only [m_v, Option.map_eq_some_iff] at h
  obtain ⟨a, h1, rfl⟩ := h
  exact ⟨a, h1, rfl⟩
theorem e_iconst {g : MG} {sc : MS} {M : MM} {d w pc : Nat} {lv : ML} {st : List MV} {h : List MC} {mc ms : Nat} {Q : MO → List MC → Prop} {n : Int} {v : Int32} (hd : decode M.2.1 pc = .ok (.iconst n, 1)) (hv : Int32.ofInt n = v) (k : Ev g sc M d w (pc + 1) lv (mi v :: st) h mc ms Q) : Ev g sc M d w pc lv st h mc ms Q := by
  intro p e R s m args below meth c A al0 H locs cells slots CT ST ls ws LV VS hF hSt hsc hR h1 h2 h3 h4 hA hK hP hD hS hW hal hls hlv hst
  obtain ⟨hx, hb, hr, hlk, hml, hown, hts, hnm, htb⟩ := id hF
  exact lv_iconst hx hb hd hv (k p e R s m args below meth c A al0 H locs cells slots CT ST _ ws _ _ hF hSt hsc hR h1 h2 h3 h4 hA hK hP hD hS hW hal hls hlv (m_vs.cons rfl hst))
theorem e_bipush {g : MG} {sc : MS} {M : MM} {d w pc : Nat} {lv : ML} {st : List MV} {h : List MC} {mc ms : Nat} {Q : MO → List MC → Prop} {n : Int} {v : Int32} (hd : decode M.2.1 pc = .ok (.bipush n, 2)) (hv : (Int8.ofInt n).toInt32 = v) (k : Ev g sc M d w (pc + 2) lv (mi v :: st) h mc ms Q) : Ev g sc M d w pc lv st h mc ms Q := by
  intro p e R s m args below meth c A al0 H locs cells slots CT ST ls ws LV VS hF hSt hsc hR h1 h2 h3 h4 hA hK hP hD hS hW hal hls hlv hst
  obtain ⟨hx, hb, hr, hlk, hml, hown, hts, hnm, htb⟩ := id hF
  exact lv_bipush hx hb hd hv (k p e R s m args below meth c A al0 H locs cells slots CT ST _ ws _ _ hF hSt hsc hR h1 h2 h3 h4 hA hK hP hD hS hW hal hls hlv (m_vs.cons rfl hst))
theorem e_sipush {g : MG} {sc : MS} {M : MM} {d w pc : Nat} {lv : ML} {st : List MV} {h : List MC} {mc ms : Nat} {Q : MO → List MC → Prop} {n : Int} {v : Int32} (hd : decode M.2.1 pc = .ok (.sipush n, 3)) (hv : (Int16.ofInt n).toInt32 = v) (k : Ev g sc M d w (pc + 3) lv (mi v :: st) h mc ms Q) : Ev g sc M d w pc lv st h mc ms Q := by
  intro p e R s m args below meth c A al0 H locs cells slots CT ST ls ws LV VS hF hSt hsc hR h1 h2 h3 h4 hA hK hP hD hS hW hal hls hlv hst
  obtain ⟨hx, hb, hr, hlk, hml, hown, hts, hnm, htb⟩ := id hF
  exact lv_sipush hx hb hd hv (k p e R s m args below meth c A al0 H locs cells slots CT ST _ ws _ _ hF hSt hsc hR h1 h2 h3 h4 hA hK hP hD hS hW hal hls hlv (m_vs.cons rfl hst))
theorem e_ldc {g : MG} {sc : MS} {M : MM} {d w pc : Nat} {lv : ML} {st : List MV} {h : List MC} {mc ms : Nat} {Q : MO → List MC → Prop} {i : Nat} {v : Int32} (hd : decode M.2.1 pc = .ok (.ldc i, 2)) (hw : Cond.constant M.1.cls i v ∈ m_Ts) (k : Ev g sc M d w (pc + 2) lv (mi v :: st) h mc ms Q) : Ev g sc M d w pc lv st h mc ms Q := by
  intro p e R s m args below meth c A al0 H locs cells slots CT ST ls ws LV VS hF hSt hsc hR h1 h2 h3 h4 hA hK hP hD hS hW hal hls hlv hst
  obtain ⟨hx, hb, hr, hlk, hml, hown, hts, hnm, htb⟩ := id hF
  exact lv_ldc hx hb hown (hts _ hw) hd (k p e R s m args below meth c A al0 H locs cells slots CT ST _ ws _ _ hF hSt hsc hR h1 h2 h3 h4 hA hK hP hD hS hW hal hls hlv (m_vs.cons rfl hst))
theorem e_lconst {g : MG} {sc : MS} {M : MM} {d w pc : Nat} {lv : ML} {st : List MV} {h : List MC} {mc ms : Nat} {Q : MO → List MC → Prop} {n : Fin 2} {v : Int64} (hd : decode M.2.1 pc = .ok (.lconst n, 1)) (hv : Int64.ofNat (n : Nat) = v) (k : Ev g sc M d w (pc + 1) lv (ml v :: st) h mc ms Q) : Ev g sc M d w pc lv st h mc ms Q := by
  intro p e R s m args below meth c A al0 H locs cells slots CT ST ls ws LV VS hF hSt hsc hR h1 h2 h3 h4 hA hK hP hD hS hW hal hls hlv hst
  obtain ⟨hx, hb, hr, hlk, hml, hown, hts, hnm, htb⟩ := id hF
  exact lv_lconst hx hb hd hv (k p e R s m args below meth c A al0 H locs cells slots CT ST _ ws _ _ hF hSt hsc hR h1 h2 h3 h4 hA hK hP hD hS hW hal hls hlv (m_vs.cons rfl hst))
theorem e_null {g : MG} {sc : MS} {M : MM} {d w pc : Nat} {lv : ML} {st : List MV} {h : List MC} {mc ms : Nat} {Q : MO → List MC → Prop} (hd : decode M.2.1 pc = .ok (.aconst_null, 1)) (k : Ev g sc M d w (pc + 1) lv (mn :: st) h mc ms Q) : Ev g sc M d w pc lv st h mc ms Q := by
  intro p e R s m args below meth c A al0 H locs cells slots CT ST ls ws LV VS hF hSt hsc hR h1 h2 h3 h4 hA hK hP hD hS hW hal hls hlv hst
  obtain ⟨hx, hb, hr, hlk, hml, hown, hts, hnm, htb⟩ := id hF
  exact lv_null hx hb hd (k p e R s m args below meth c A al0 H locs cells slots CT ST _ ws _ _ hF hSt hsc hR h1 h2 h3 h4 hA hK hP hD hS hW hal hls hlv (m_vs.cons rfl hst))
theorem e_iload_n {g : MG} {sc : MS} {M : MM} {d w pc : Nat} {lv : ML} {st : List MV} {h : List MC} {mc ms : Nat} {Q : MO → List MC → Prop} {k9 : Fin 4} {i : Nat} {x : Int32} (hd : decode M.2.1 pc = .ok (.iload_n k9, 1)) (hi : (k9 : Nat) = i) (hg : m_get lv i = some (mi x)) (k : Ev g sc M d w (pc + 1) lv (mi x :: st) h mc ms Q) : Ev g sc M d w pc lv st h mc ms Q := by
  intro p e R s m args below meth c A al0 H locs cells slots CT ST ls ws LV VS hF hSt hsc hR h1 h2 h3 h4 hA hK hP hD hS hW hal hls hlv hst
  obtain ⟨hx, hb, hr, hlk, hml, hown, hts, hnm, htb⟩ := id hF
  obtain ⟨V, hV1, hV2⟩ := hlv.at (m_get_find hg)
  cases hV2
  exact lv_iload_n hx hb hd hi (hls.2.2 _ hV1) (k p e R s m args below meth c A al0 H locs cells slots CT ST _ ws _ _ hF hSt hsc hR h1 h2 h3 h4 hA hK hP hD hS hW hal hls hlv (m_vs.cons rfl hst))
theorem e_aload_n {g : MG} {sc : MS} {M : MM} {d w pc : Nat} {lv : ML} {st : List MV} {h : List MC} {mc ms : Nat} {Q : MO → List MC → Prop} {k9 : Fin 4} {i : Nat} {r : Option Nat ⊕ Unit} (hd : decode M.2.1 pc = .ok (.aload_n k9, 1)) (hi : (k9 : Nat) = i) (hg : m_get lv i = some (.inr (.inr r))) (k : Ev g sc M d w (pc + 1) lv (.inr (.inr r) :: st) h mc ms Q) : Ev g sc M d w pc lv st h mc ms Q := by
  intro p e R s m args below meth c A al0 H locs cells slots CT ST ls ws LV VS hF hSt hsc hR h1 h2 h3 h4 hA hK hP hD hS hW hal hls hlv hst
  obtain ⟨hx, hb, hr, hlk, hml, hown, hts, hnm, htb⟩ := id hF
  obtain ⟨V, hV1, hV2⟩ := hlv.at (m_get_find hg)
  rcases m_v_ref hV2 with rfl | ⟨q, rfl⟩
  · exact lv_aload_nN hx hb hd hi (hls.2.2 _ hV1) (k p e R s m args below meth c A al0 H locs cells slots CT ST _ ws _ _ hF hSt hsc hR h1 h2 h3 h4 hA hK hP hD hS hW hal hls hlv (m_vs.cons hV2 hst))
  · exact lv_aload_n hx hb hd hi (hls.2.2 _ hV1) (k p e R s m args below meth c A al0 H locs cells slots CT ST _ ws _ _ hF hSt hsc hR h1 h2 h3 h4 hA hK hP hD hS hW hal hls hlv (m_vs.cons hV2 hst))
theorem e_istore_n {g : MG} {sc : MS} {M : MM} {d w pc : Nat} {lv : ML} {st : List MV} {h : List MC} {mc ms : Nat} {Q : MO → List MC → Prop} {k9 : Fin 4} {i : Nat} {x : Int32} (hd : decode M.2.1 pc = .ok (.istore_n k9, 1)) (hi : (k9 : Nat) = i) (hn : i < M.2.2.1) {lv2 : ML} (hlv2 : m_put lv i (mi x) = lv2) (k : Ev g sc M d w (pc + 1) lv2 st h mc ms Q) : Ev g sc M d w pc lv (mi x :: st) h mc ms Q := by
  intro p e R s m args below meth c A al0 H locs cells slots CT ST ls ws LV VS hF hSt hsc hR h1 h2 h3 h4 hA hK hP hD hS hW hal hls hlv hst
  obtain ⟨hx, hb, hr, hlk, hml, hown, hts, hnm, htb⟩ := id hF
  subst hlv2
  obtain ⟨V, VS', rfl, hV, hst1⟩ := hst.inv
  have hsr := hst1
  cases hV
  exact lv_istore_n hx hb hd hi hls hn rfl (fun ls hls' => k p e R s m args below meth c A al0 H locs cells slots CT ST _ ws _ _ hF hSt hsc hR h1 h2 h3 h4 hA hK hP hD hS hW hal hls' (m_ls.cons rfl hlv.filt) hsr)
theorem e_astore_n {g : MG} {sc : MS} {M : MM} {d w pc : Nat} {lv : ML} {st : List MV} {h : List MC} {mc ms : Nat} {Q : MO → List MC → Prop} {k9 : Fin 4} {i : Nat} {r : Option Nat ⊕ Unit} (hd : decode M.2.1 pc = .ok (.astore_n k9, 1)) (hi : (k9 : Nat) = i) (hn : i < M.2.2.1) {lv2 : ML} (hlv2 : m_put lv i (.inr (.inr r)) = lv2) (k : Ev g sc M d w (pc + 1) lv2 st h mc ms Q) : Ev g sc M d w pc lv (.inr (.inr r) :: st) h mc ms Q := by
  intro p e R s m args below meth c A al0 H locs cells slots CT ST ls ws LV VS hF hSt hsc hR h1 h2 h3 h4 hA hK hP hD hS hW hal hls hlv hst
  obtain ⟨hx, hb, hr, hlk, hml, hown, hts, hnm, htb⟩ := id hF
  subst hlv2
  obtain ⟨V, VS', rfl, hV, hst1⟩ := hst.inv
  have hsr := hst1
  rcases m_v_ref hV with rfl | ⟨q, rfl⟩
  · exact lv_astore_nN hx hb hd hi hls hn rfl (fun ls hls' => k p e R s m args below meth c A al0 H locs cells slots CT ST _ ws _ _ hF hSt hsc hR h1 h2 h3 h4 hA hK hP hD hS hW hal hls' (m_ls.cons hV hlv.filt) hsr)
  · exact lv_astore_n hx hb hd hi hls hn rfl (fun ls hls' => k p e R s m args below meth c A al0 H locs cells slots CT ST _ ws _ _ hF hSt hsc hR h1 h2 h3 h4 hA hK hP hD hS hW hal hls' (m_ls.cons hV hlv.filt) hsr)
theorem e_iload {g : MG} {sc : MS} {M : MM} {d w pc : Nat} {lv : ML} {st : List MV} {h : List MC} {mc ms : Nat} {Q : MO → List MC → Prop} {i : Nat} {x : Int32} (hd : decode M.2.1 pc = .ok (.iload i, 2)) (hg : m_get lv i = some (mi x)) (k : Ev g sc M d w (pc + 2) lv (mi x :: st) h mc ms Q) : Ev g sc M d w pc lv st h mc ms Q := by
  intro p e R s m args below meth c A al0 H locs cells slots CT ST ls ws LV VS hF hSt hsc hR h1 h2 h3 h4 hA hK hP hD hS hW hal hls hlv hst
  obtain ⟨hx, hb, hr, hlk, hml, hown, hts, hnm, htb⟩ := id hF
  obtain ⟨V, hV1, hV2⟩ := hlv.at (m_get_find hg)
  cases hV2
  exact lv_iload hx hb hd (hls.2.2 _ hV1) (k p e R s m args below meth c A al0 H locs cells slots CT ST _ ws _ _ hF hSt hsc hR h1 h2 h3 h4 hA hK hP hD hS hW hal hls hlv (m_vs.cons rfl hst))
theorem e_aload {g : MG} {sc : MS} {M : MM} {d w pc : Nat} {lv : ML} {st : List MV} {h : List MC} {mc ms : Nat} {Q : MO → List MC → Prop} {i : Nat} {r : Option Nat ⊕ Unit} (hd : decode M.2.1 pc = .ok (.aload i, 2)) (hg : m_get lv i = some (.inr (.inr r))) (k : Ev g sc M d w (pc + 2) lv (.inr (.inr r) :: st) h mc ms Q) : Ev g sc M d w pc lv st h mc ms Q := by
  intro p e R s m args below meth c A al0 H locs cells slots CT ST ls ws LV VS hF hSt hsc hR h1 h2 h3 h4 hA hK hP hD hS hW hal hls hlv hst
  obtain ⟨hx, hb, hr, hlk, hml, hown, hts, hnm, htb⟩ := id hF
  obtain ⟨V, hV1, hV2⟩ := hlv.at (m_get_find hg)
  rcases m_v_ref hV2 with rfl | ⟨q, rfl⟩
  · exact lv_aloadN hx hb hd (hls.2.2 _ hV1) (k p e R s m args below meth c A al0 H locs cells slots CT ST _ ws _ _ hF hSt hsc hR h1 h2 h3 h4 hA hK hP hD hS hW hal hls hlv (m_vs.cons hV2 hst))
  · exact lv_aload hx hb hd (hls.2.2 _ hV1) (k p e R s m args below meth c A al0 H locs cells slots CT ST _ ws _ _ hF hSt hsc hR h1 h2 h3 h4 hA hK hP hD hS hW hal hls hlv (m_vs.cons hV2 hst))
theorem e_istore {g : MG} {sc : MS} {M : MM} {d w pc : Nat} {lv : ML} {st : List MV} {h : List MC} {mc ms : Nat} {Q : MO → List MC → Prop} {i : Nat} {x : Int32} (hd : decode M.2.1 pc = .ok (.istore i, 2)) (hn : i < M.2.2.1) {lv2 : ML} (hlv2 : m_put lv i (mi x) = lv2) (k : Ev g sc M d w (pc + 2) lv2 st h mc ms Q) : Ev g sc M d w pc lv (mi x :: st) h mc ms Q := by
  intro p e R s m args below meth c A al0 H locs cells slots CT ST ls ws LV VS hF hSt hsc hR h1 h2 h3 h4 hA hK hP hD hS hW hal hls hlv hst
  obtain ⟨hx, hb, hr, hlk, hml, hown, hts, hnm, htb⟩ := id hF
  subst hlv2
  obtain ⟨V, VS', rfl, hV, hst1⟩ := hst.inv
  have hsr := hst1
  cases hV
  exact lv_istore hx hb hd hls hn rfl (fun ls hls' => k p e R s m args below meth c A al0 H locs cells slots CT ST _ ws _ _ hF hSt hsc hR h1 h2 h3 h4 hA hK hP hD hS hW hal hls' (m_ls.cons rfl hlv.filt) hsr)
theorem e_astore {g : MG} {sc : MS} {M : MM} {d w pc : Nat} {lv : ML} {st : List MV} {h : List MC} {mc ms : Nat} {Q : MO → List MC → Prop} {i : Nat} {r : Option Nat ⊕ Unit} (hd : decode M.2.1 pc = .ok (.astore i, 2)) (hn : i < M.2.2.1) {lv2 : ML} (hlv2 : m_put lv i (.inr (.inr r)) = lv2) (k : Ev g sc M d w (pc + 2) lv2 st h mc ms Q) : Ev g sc M d w pc lv (.inr (.inr r) :: st) h mc ms Q := by
  intro p e R s m args below meth c A al0 H locs cells slots CT ST ls ws LV VS hF hSt hsc hR h1 h2 h3 h4 hA hK hP hD hS hW hal hls hlv hst
  obtain ⟨hx, hb, hr, hlk, hml, hown, hts, hnm, htb⟩ := id hF
  subst hlv2
  obtain ⟨V, VS', rfl, hV, hst1⟩ := hst.inv
  have hsr := hst1
  rcases m_v_ref hV with rfl | ⟨q, rfl⟩
  · exact lv_astoreN hx hb hd hls hn rfl (fun ls hls' => k p e R s m args below meth c A al0 H locs cells slots CT ST _ ws _ _ hF hSt hsc hR h1 h2 h3 h4 hA hK hP hD hS hW hal hls' (m_ls.cons hV hlv.filt) hsr)
  · exact lv_astore hx hb hd hls hn rfl (fun ls hls' => k p e R s m args below meth c A al0 H locs cells slots CT ST _ ws _ _ hF hSt hsc hR h1 h2 h3 h4 hA hK hP hD hS hW hal hls' (m_ls.cons hV hlv.filt) hsr)
theorem e_iinc {g : MG} {sc : MS} {M : MM} {d w pc : Nat} {lv : ML} {st : List MV} {h : List MC} {mc ms : Nat} {Q : MO → List MC → Prop} {i : Nat} {n : Int} {x v : Int32} (hd : decode M.2.1 pc = .ok (.iinc i n, 3)) (hg : m_get lv i = some (mi x)) (hv : x + Int32.ofInt n = v) (hn : i < M.2.2.1) {lv2 : ML} (hlv2 : m_put lv i (mi v) = lv2) (k : Ev g sc M d w (pc + 3) lv2 st h mc ms Q) : Ev g sc M d w pc lv st h mc ms Q := by
  intro p e R s m args below meth c A al0 H locs cells slots CT ST ls ws LV VS hF hSt hsc hR h1 h2 h3 h4 hA hK hP hD hS hW hal hls hlv hst
  obtain ⟨hx, hb, hr, hlk, hml, hown, hts, hnm, htb⟩ := id hF
  subst hlv2
  obtain ⟨V, hV1, hV2⟩ := hlv.at (m_get_find hg)
  cases hV2
  obtain ⟨k9, hk9⟩ := List.getElem?_of_mem hV1
  exact lv_iinc hx hb hd hls hk9 hv hn rfl (fun ls hls' => k p e R s m args below meth c A al0 H locs cells slots CT ST _ ws _ _ hF hSt hsc hR h1 h2 h3 h4 hA hK hP hD hS hW hal hls' (m_ls.cons rfl hlv.filt) hst)
theorem e_iadd {g : MG} {sc : MS} {M : MM} {d w pc : Nat} {lv : ML} {st : List MV} {h : List MC} {mc ms : Nat} {Q : MO → List MC → Prop} {x y : Int32} (hd : decode M.2.1 pc = .ok (.iadd, 1)) (k : Ev g sc M d w (pc + 1) lv (mi (x + y) :: st) h mc ms Q) : Ev g sc M d w pc lv (mi y :: mi x :: st) h mc ms Q := by
  intro p e R s m args below meth c A al0 H locs cells slots CT ST ls ws LV VS hF hSt hsc hR h1 h2 h3 h4 hA hK hP hD hS hW hal hls hlv hst
  obtain ⟨hx, hb, hr, hlk, hml, hown, hts, hnm, htb⟩ := id hF
  obtain ⟨V, VS', rfl, hV, hst1⟩ := hst.inv
  obtain ⟨V2, VS2, rfl, hV2, hst2⟩ := hst1.inv
  have hsr := hst2
  cases hV
  cases hV2
  exact lv_iadd hx hb hd (k p e R s m args below meth c A al0 H locs cells slots CT ST _ ws _ _ hF hSt hsc hR h1 h2 h3 h4 hA hK hP hD hS hW hal hls hlv (m_vs.cons rfl hsr))
theorem e_isub {g : MG} {sc : MS} {M : MM} {d w pc : Nat} {lv : ML} {st : List MV} {h : List MC} {mc ms : Nat} {Q : MO → List MC → Prop} {x y : Int32} (hd : decode M.2.1 pc = .ok (.isub, 1)) (k : Ev g sc M d w (pc + 1) lv (mi (x - y) :: st) h mc ms Q) : Ev g sc M d w pc lv (mi y :: mi x :: st) h mc ms Q := by
  intro p e R s m args below meth c A al0 H locs cells slots CT ST ls ws LV VS hF hSt hsc hR h1 h2 h3 h4 hA hK hP hD hS hW hal hls hlv hst
  obtain ⟨hx, hb, hr, hlk, hml, hown, hts, hnm, htb⟩ := id hF
  obtain ⟨V, VS', rfl, hV, hst1⟩ := hst.inv
  obtain ⟨V2, VS2, rfl, hV2, hst2⟩ := hst1.inv
  have hsr := hst2
  cases hV
  cases hV2
  exact lv_isub hx hb hd (k p e R s m args below meth c A al0 H locs cells slots CT ST _ ws _ _ hF hSt hsc hR h1 h2 h3 h4 hA hK hP hD hS hW hal hls hlv (m_vs.cons rfl hsr))
theorem e_imul {g : MG} {sc : MS} {M : MM} {d w pc : Nat} {lv : ML} {st : List MV} {h : List MC} {mc ms : Nat} {Q : MO → List MC → Prop} {x y : Int32} (hd : decode M.2.1 pc = .ok (.imul, 1)) (k : Ev g sc M d w (pc + 1) lv (mi (x * y) :: st) h mc ms Q) : Ev g sc M d w pc lv (mi y :: mi x :: st) h mc ms Q := by
  intro p e R s m args below meth c A al0 H locs cells slots CT ST ls ws LV VS hF hSt hsc hR h1 h2 h3 h4 hA hK hP hD hS hW hal hls hlv hst
  obtain ⟨hx, hb, hr, hlk, hml, hown, hts, hnm, htb⟩ := id hF
  obtain ⟨V, VS', rfl, hV, hst1⟩ := hst.inv
  obtain ⟨V2, VS2, rfl, hV2, hst2⟩ := hst1.inv
  have hsr := hst2
  cases hV
  cases hV2
  exact lv_imul hx hb hd (k p e R s m args below meth c A al0 H locs cells slots CT ST _ ws _ _ hF hSt hsc hR h1 h2 h3 h4 hA hK hP hD hS hW hal hls hlv (m_vs.cons rfl hsr))
theorem e_iand {g : MG} {sc : MS} {M : MM} {d w pc : Nat} {lv : ML} {st : List MV} {h : List MC} {mc ms : Nat} {Q : MO → List MC → Prop} {x y : Int32} (hd : decode M.2.1 pc = .ok (.iand, 1)) (k : Ev g sc M d w (pc + 1) lv (mi (x &&& y) :: st) h mc ms Q) : Ev g sc M d w pc lv (mi y :: mi x :: st) h mc ms Q := by
  intro p e R s m args below meth c A al0 H locs cells slots CT ST ls ws LV VS hF hSt hsc hR h1 h2 h3 h4 hA hK hP hD hS hW hal hls hlv hst
  obtain ⟨hx, hb, hr, hlk, hml, hown, hts, hnm, htb⟩ := id hF
  obtain ⟨V, VS', rfl, hV, hst1⟩ := hst.inv
  obtain ⟨V2, VS2, rfl, hV2, hst2⟩ := hst1.inv
  have hsr := hst2
  cases hV
  cases hV2
  exact lv_iand hx hb hd (k p e R s m args below meth c A al0 H locs cells slots CT ST _ ws _ _ hF hSt hsc hR h1 h2 h3 h4 hA hK hP hD hS hW hal hls hlv (m_vs.cons rfl hsr))
theorem e_ior {g : MG} {sc : MS} {M : MM} {d w pc : Nat} {lv : ML} {st : List MV} {h : List MC} {mc ms : Nat} {Q : MO → List MC → Prop} {x y : Int32} (hd : decode M.2.1 pc = .ok (.ior, 1)) (k : Ev g sc M d w (pc + 1) lv (mi (x ||| y) :: st) h mc ms Q) : Ev g sc M d w pc lv (mi y :: mi x :: st) h mc ms Q := by
  intro p e R s m args below meth c A al0 H locs cells slots CT ST ls ws LV VS hF hSt hsc hR h1 h2 h3 h4 hA hK hP hD hS hW hal hls hlv hst
  obtain ⟨hx, hb, hr, hlk, hml, hown, hts, hnm, htb⟩ := id hF
  obtain ⟨V, VS', rfl, hV, hst1⟩ := hst.inv
  obtain ⟨V2, VS2, rfl, hV2, hst2⟩ := hst1.inv
  have hsr := hst2
  cases hV
  cases hV2
  exact lv_ior hx hb hd (k p e R s m args below meth c A al0 H locs cells slots CT ST _ ws _ _ hF hSt hsc hR h1 h2 h3 h4 hA hK hP hD hS hW hal hls hlv (m_vs.cons rfl hsr))
theorem e_ixor {g : MG} {sc : MS} {M : MM} {d w pc : Nat} {lv : ML} {st : List MV} {h : List MC} {mc ms : Nat} {Q : MO → List MC → Prop} {x y : Int32} (hd : decode M.2.1 pc = .ok (.ixor, 1)) (k : Ev g sc M d w (pc + 1) lv (mi (x ^^^ y) :: st) h mc ms Q) : Ev g sc M d w pc lv (mi y :: mi x :: st) h mc ms Q := by
  intro p e R s m args below meth c A al0 H locs cells slots CT ST ls ws LV VS hF hSt hsc hR h1 h2 h3 h4 hA hK hP hD hS hW hal hls hlv hst
  obtain ⟨hx, hb, hr, hlk, hml, hown, hts, hnm, htb⟩ := id hF
  obtain ⟨V, VS', rfl, hV, hst1⟩ := hst.inv
  obtain ⟨V2, VS2, rfl, hV2, hst2⟩ := hst1.inv
  have hsr := hst2
  cases hV
  cases hV2
  exact lv_ixor hx hb hd (k p e R s m args below meth c A al0 H locs cells slots CT ST _ ws _ _ hF hSt hsc hR h1 h2 h3 h4 hA hK hP hD hS hW hal hls hlv (m_vs.cons rfl hsr))
theorem e_ishl {g : MG} {sc : MS} {M : MM} {d w pc : Nat} {lv : ML} {st : List MV} {h : List MC} {mc ms : Nat} {Q : MO → List MC → Prop} {x y : Int32} (hd : decode M.2.1 pc = .ok (.ishl, 1)) (k : Ev g sc M d w (pc + 1) lv (mi (x <<< (y &&& 31)) :: st) h mc ms Q) : Ev g sc M d w pc lv (mi y :: mi x :: st) h mc ms Q := by
  intro p e R s m args below meth c A al0 H locs cells slots CT ST ls ws LV VS hF hSt hsc hR h1 h2 h3 h4 hA hK hP hD hS hW hal hls hlv hst
  obtain ⟨hx, hb, hr, hlk, hml, hown, hts, hnm, htb⟩ := id hF
  obtain ⟨V, VS', rfl, hV, hst1⟩ := hst.inv
  obtain ⟨V2, VS2, rfl, hV2, hst2⟩ := hst1.inv
  have hsr := hst2
  cases hV
  cases hV2
  exact lv_ishl hx hb hd (k p e R s m args below meth c A al0 H locs cells slots CT ST _ ws _ _ hF hSt hsc hR h1 h2 h3 h4 hA hK hP hD hS hW hal hls hlv (m_vs.cons rfl hsr))
theorem e_ishr {g : MG} {sc : MS} {M : MM} {d w pc : Nat} {lv : ML} {st : List MV} {h : List MC} {mc ms : Nat} {Q : MO → List MC → Prop} {x y : Int32} (hd : decode M.2.1 pc = .ok (.ishr, 1)) (k : Ev g sc M d w (pc + 1) lv (mi (x >>> (y &&& 31)) :: st) h mc ms Q) : Ev g sc M d w pc lv (mi y :: mi x :: st) h mc ms Q := by
  intro p e R s m args below meth c A al0 H locs cells slots CT ST ls ws LV VS hF hSt hsc hR h1 h2 h3 h4 hA hK hP hD hS hW hal hls hlv hst
  obtain ⟨hx, hb, hr, hlk, hml, hown, hts, hnm, htb⟩ := id hF
  obtain ⟨V, VS', rfl, hV, hst1⟩ := hst.inv
  obtain ⟨V2, VS2, rfl, hV2, hst2⟩ := hst1.inv
  have hsr := hst2
  cases hV
  cases hV2
  exact lv_ishr hx hb hd (k p e R s m args below meth c A al0 H locs cells slots CT ST _ ws _ _ hF hSt hsc hR h1 h2 h3 h4 hA hK hP hD hS hW hal hls hlv (m_vs.cons rfl hsr))
theorem e_iushr {g : MG} {sc : MS} {M : MM} {d w pc : Nat} {lv : ML} {st : List MV} {h : List MC} {mc ms : Nat} {Q : MO → List MC → Prop} {x y v : Int32} (hd : decode M.2.1 pc = .ok (.iushr, 1)) (hv : (x.toUInt32 >>> (y.toUInt32 &&& Int32.toUInt32 31)).toInt32 = v) (k : Ev g sc M d w (pc + 1) lv (mi v :: st) h mc ms Q) : Ev g sc M d w pc lv (mi y :: mi x :: st) h mc ms Q := by
  intro p e R s m args below meth c A al0 H locs cells slots CT ST ls ws LV VS hF hSt hsc hR h1 h2 h3 h4 hA hK hP hD hS hW hal hls hlv hst
  obtain ⟨hx, hb, hr, hlk, hml, hown, hts, hnm, htb⟩ := id hF
  obtain ⟨V, VS', rfl, hV, hst1⟩ := hst.inv
  obtain ⟨V2, VS2, rfl, hV2, hst2⟩ := hst1.inv
  have hsr := hst2
  cases hV
  cases hV2
  exact lv_iushr hx hb hd hv (k p e R s m args below meth c A al0 H locs cells slots CT ST _ ws _ _ hF hSt hsc hR h1 h2 h3 h4 hA hK hP hD hS hW hal hls hlv (m_vs.cons rfl hsr))
theorem e_ineg {g : MG} {sc : MS} {M : MM} {d w pc : Nat} {lv : ML} {st : List MV} {h : List MC} {mc ms : Nat} {Q : MO → List MC → Prop} {x : Int32} (hd : decode M.2.1 pc = .ok (.ineg, 1)) (k : Ev g sc M d w (pc + 1) lv (mi (-x) :: st) h mc ms Q) : Ev g sc M d w pc lv (mi x :: st) h mc ms Q := by
  intro p e R s m args below meth c A al0 H locs cells slots CT ST ls ws LV VS hF hSt hsc hR h1 h2 h3 h4 hA hK hP hD hS hW hal hls hlv hst
  obtain ⟨hx, hb, hr, hlk, hml, hown, hts, hnm, htb⟩ := id hF
  obtain ⟨V, VS', rfl, hV, hst1⟩ := hst.inv
  have hsr := hst1
  cases hV
  exact lv_ineg hx hb hd (k p e R s m args below meth c A al0 H locs cells slots CT ST _ ws _ _ hF hSt hsc hR h1 h2 h3 h4 hA hK hP hD hS hW hal hls hlv (m_vs.cons rfl hsr))
theorem e_i2l {g : MG} {sc : MS} {M : MM} {d w pc : Nat} {lv : ML} {st : List MV} {h : List MC} {mc ms : Nat} {Q : MO → List MC → Prop} {x : Int32} (hd : decode M.2.1 pc = .ok (.i2l, 1)) (k : Ev g sc M d w (pc + 1) lv (ml x.toInt64 :: st) h mc ms Q) : Ev g sc M d w pc lv (mi x :: st) h mc ms Q := by
  intro p e R s m args below meth c A al0 H locs cells slots CT ST ls ws LV VS hF hSt hsc hR h1 h2 h3 h4 hA hK hP hD hS hW hal hls hlv hst
  obtain ⟨hx, hb, hr, hlk, hml, hown, hts, hnm, htb⟩ := id hF
  obtain ⟨V, VS', rfl, hV, hst1⟩ := hst.inv
  have hsr := hst1
  cases hV
  exact lv_i2l hx hb hd rfl (k p e R s m args below meth c A al0 H locs cells slots CT ST _ ws _ _ hF hSt hsc hR h1 h2 h3 h4 hA hK hP hD hS hW hal hls hlv (m_vs.cons rfl hsr))
theorem e_dup {g : MG} {sc : MS} {M : MM} {d w pc : Nat} {lv : ML} {st : List MV} {h : List MC} {mc ms : Nat} {Q : MO → List MC → Prop} {v : MV} (hd : decode M.2.1 pc = .ok (.dup, 1)) (hc : m_cat v = 1) (k : Ev g sc M d w (pc + 1) lv (v :: v :: st) h mc ms Q) : Ev g sc M d w pc lv (v :: st) h mc ms Q := by
  intro p e R s m args below meth c A al0 H locs cells slots CT ST ls ws LV VS hF hSt hsc hR h1 h2 h3 h4 hA hK hP hD hS hW hal hls hlv hst
  obtain ⟨hx, hb, hr, hlk, hml, hown, hts, hnm, htb⟩ := id hF
  obtain ⟨V, VS', rfl, hV, hst1⟩ := hst.inv
  have hsr := hst1
  exact lv_dup hx hb hd ((m_v_cat hV).trans hc) (k p e R s m args below meth c A al0 H locs cells slots CT ST _ ws _ _ hF hSt hsc hR h1 h2 h3 h4 hA hK hP hD hS hW hal hls hlv (m_vs.cons hV (m_vs.cons hV hsr)))
theorem e_pop {g : MG} {sc : MS} {M : MM} {d w pc : Nat} {lv : ML} {st : List MV} {h : List MC} {mc ms : Nat} {Q : MO → List MC → Prop} {v : MV} (hd : decode M.2.1 pc = .ok (.pop, 1)) (hc : m_cat v = 1) (k : Ev g sc M d w (pc + 1) lv st h mc ms Q) : Ev g sc M d w pc lv (v :: st) h mc ms Q := by
  intro p e R s m args below meth c A al0 H locs cells slots CT ST ls ws LV VS hF hSt hsc hR h1 h2 h3 h4 hA hK hP hD hS hW hal hls hlv hst
  obtain ⟨hx, hb, hr, hlk, hml, hown, hts, hnm, htb⟩ := id hF
  obtain ⟨V, VS', rfl, hV, hst1⟩ := hst.inv
  have hsr := hst1
  exact lv_pop hx hb hd ((m_v_cat hV).trans hc) (k p e R s m args below meth c A al0 H locs cells slots CT ST _ ws _ _ hF hSt hsc hR h1 h2 h3 h4 hA hK hP hD hS hW hal hls hlv hsr)
theorem e_dup_x1 {g : MG} {sc : MS} {M : MM} {d w pc : Nat} {lv : ML} {st : List MV} {h : List MC} {mc ms : Nat} {Q : MO → List MC → Prop} {v y9 : MV} (hd : decode M.2.1 pc = .ok (.dup_x1, 1)) (hc : m_cat v = 1) (hc2 : m_cat y9 = 1) (k : Ev g sc M d w (pc + 1) lv (v :: y9 :: v :: st) h mc ms Q) : Ev g sc M d w pc lv (v :: y9 :: st) h mc ms Q := by
  intro p e R s m args below meth c A al0 H locs cells slots CT ST ls ws LV VS hF hSt hsc hR h1 h2 h3 h4 hA hK hP hD hS hW hal hls hlv hst
  obtain ⟨hx, hb, hr, hlk, hml, hown, hts, hnm, htb⟩ := id hF
  obtain ⟨V, VS', rfl, hV, hst1⟩ := hst.inv
  obtain ⟨V2, VS2, rfl, hV2, hst2⟩ := hst1.inv
  have hsr := hst2
  exact lv_dup_x1 hx hb hd ((m_v_cat hV).trans hc) ((m_v_cat hV2).trans hc2) (k p e R s m args below meth c A al0 H locs cells slots CT ST _ ws _ _ hF hSt hsc hR h1 h2 h3 h4 hA hK hP hD hS hW hal hls hlv (m_vs.cons hV (m_vs.cons hV2 (m_vs.cons hV hsr))))
theorem e_dup_x2 {g : MG} {sc : MS} {M : MM} {d w pc : Nat} {lv : ML} {st : List MV} {h : List MC} {mc ms : Nat} {Q : MO → List MC → Prop} {v y9 z : MV} (hd : decode M.2.1 pc = .ok (.dup_x2, 1)) (hc : m_cat v = 1) (hc2 : m_cat y9 = 1) (hc3 : m_cat z = 1) (k : Ev g sc M d w (pc + 1) lv (v :: y9 :: z :: v :: st) h mc ms Q) : Ev g sc M d w pc lv (v :: y9 :: z :: st) h mc ms Q := by
  intro p e R s m args below meth c A al0 H locs cells slots CT ST ls ws LV VS hF hSt hsc hR h1 h2 h3 h4 hA hK hP hD hS hW hal hls hlv hst
  obtain ⟨hx, hb, hr, hlk, hml, hown, hts, hnm, htb⟩ := id hF
  obtain ⟨V, VS', rfl, hV, hst1⟩ := hst.inv
  obtain ⟨V2, VS2, rfl, hV2, hst2⟩ := hst1.inv
  obtain ⟨V3, VS3, rfl, hV3, hst3⟩ := hst2.inv
  have hsr := hst3
  exact lv_dup_x2 hx hb hd ((m_v_cat hV).trans hc) ((m_v_cat hV2).trans hc2) ((m_v_cat hV3).trans hc3) (k p e R s m args below meth c A al0 H locs cells slots CT ST _ ws _ _ hF hSt hsc hR h1 h2 h3 h4 hA hK hP hD hS hW hal hls hlv (m_vs.cons hV (m_vs.cons hV2 (m_vs.cons hV3 (m_vs.cons hV hsr)))))
theorem e_dup2 {g : MG} {sc : MS} {M : MM} {d w pc : Nat} {lv : ML} {st : List MV} {h : List MC} {mc ms : Nat} {Q : MO → List MC → Prop} {v y9 : MV} (hd : decode M.2.1 pc = .ok (.dup2, 1)) (hc : m_cat v = 1) (hc2 : m_cat y9 = 1) (k : Ev g sc M d w (pc + 1) lv (v :: y9 :: v :: y9 :: st) h mc ms Q) : Ev g sc M d w pc lv (v :: y9 :: st) h mc ms Q := by
  intro p e R s m args below meth c A al0 H locs cells slots CT ST ls ws LV VS hF hSt hsc hR h1 h2 h3 h4 hA hK hP hD hS hW hal hls hlv hst
  obtain ⟨hx, hb, hr, hlk, hml, hown, hts, hnm, htb⟩ := id hF
  obtain ⟨V, VS', rfl, hV, hst1⟩ := hst.inv
  obtain ⟨V2, VS2, rfl, hV2, hst2⟩ := hst1.inv
  have hsr := hst2
  exact lv_dup2_11 hx hb hd ((m_v_cat hV).trans hc) ((m_v_cat hV2).trans hc2) (k p e R s m args below meth c A al0 H locs cells slots CT ST _ ws _ _ hF hSt hsc hR h1 h2 h3 h4 hA hK hP hD hS hW hal hls hlv (m_vs.cons hV (m_vs.cons hV2 (m_vs.cons hV (m_vs.cons hV2 hsr)))))
theorem e_if_eq {g : MG} {sc : MS} {M : MM} {d w pc : Nat} {lv : ML} {st : List MV} {h : List MC} {mc ms : Nat} {Q : MO → List MC → Prop} {x : Int32} {off : Int} {tgt : Nat} (hd : decode M.2.1 pc = .ok (.ifCond .eq off, 3)) (ht : (pc : Int) + off = (tgt : Int)) (kt : x = 0 → Ev g sc M d w tgt lv st h mc ms Q) (kf : ¬ x = 0 → Ev g sc M d w (pc + 3) lv st h mc ms Q) : Ev g sc M d w pc lv (mi x :: st) h mc ms Q := by
  intro p e R s m args below meth c A al0 H locs cells slots CT ST ls ws LV VS hF hSt hsc hR h1 h2 h3 h4 hA hK hP hD hS hW hal hls hlv hst
  obtain ⟨hx, hb, hr, hlk, hml, hown, hts, hnm, htb⟩ := id hF
  obtain ⟨V, VS', rfl, hV, hst1⟩ := hst.inv
  have hsr := hst1
  cases hV
  exact lv_if_eq hx hb hd ht (fun q => kt q p e R s m args below meth c A al0 H locs cells slots CT ST _ ws _ _ hF hSt hsc hR h1 h2 h3 h4 hA hK hP hD hS hW hal hls hlv hsr) (fun q => kf q p e R s m args below meth c A al0 H locs cells slots CT ST _ ws _ _ hF hSt hsc hR h1 h2 h3 h4 hA hK hP hD hS hW hal hls hlv hsr)
theorem e_icmp_eq {g : MG} {sc : MS} {M : MM} {d w pc : Nat} {lv : ML} {st : List MV} {h : List MC} {mc ms : Nat} {Q : MO → List MC → Prop} {x y : Int32} {off : Int} {tgt : Nat} (hd : decode M.2.1 pc = .ok (.if_icmp .eq off, 3)) (ht : (pc : Int) + off = (tgt : Int)) (kt : x = y → Ev g sc M d w tgt lv st h mc ms Q) (kf : ¬ x = y → Ev g sc M d w (pc + 3) lv st h mc ms Q) : Ev g sc M d w pc lv (mi y :: mi x :: st) h mc ms Q := by
  intro p e R s m args below meth c A al0 H locs cells slots CT ST ls ws LV VS hF hSt hsc hR h1 h2 h3 h4 hA hK hP hD hS hW hal hls hlv hst
  obtain ⟨hx, hb, hr, hlk, hml, hown, hts, hnm, htb⟩ := id hF
  obtain ⟨V, VS', rfl, hV, hst1⟩ := hst.inv
  obtain ⟨V2, VS2, rfl, hV2, hst2⟩ := hst1.inv
  have hsr := hst2
  cases hV
  cases hV2
  exact lv_icmp_eq hx hb hd ht (fun q => kt q p e R s m args below meth c A al0 H locs cells slots CT ST _ ws _ _ hF hSt hsc hR h1 h2 h3 h4 hA hK hP hD hS hW hal hls hlv hsr) (fun q => kf q p e R s m args below meth c A al0 H locs cells slots CT ST _ ws _ _ hF hSt hsc hR h1 h2 h3 h4 hA hK hP hD hS hW hal hls hlv hsr)
theorem e_if_ne {g : MG} {sc : MS} {M : MM} {d w pc : Nat} {lv : ML} {st : List MV} {h : List MC} {mc ms : Nat} {Q : MO → List MC → Prop} {x : Int32} {off : Int} {tgt : Nat} (hd : decode M.2.1 pc = .ok (.ifCond .ne off, 3)) (ht : (pc : Int) + off = (tgt : Int)) (kt : ¬ x = 0 → Ev g sc M d w tgt lv st h mc ms Q) (kf : x = 0 → Ev g sc M d w (pc + 3) lv st h mc ms Q) : Ev g sc M d w pc lv (mi x :: st) h mc ms Q := by
  intro p e R s m args below meth c A al0 H locs cells slots CT ST ls ws LV VS hF hSt hsc hR h1 h2 h3 h4 hA hK hP hD hS hW hal hls hlv hst
  obtain ⟨hx, hb, hr, hlk, hml, hown, hts, hnm, htb⟩ := id hF
  obtain ⟨V, VS', rfl, hV, hst1⟩ := hst.inv
  have hsr := hst1
  cases hV
  exact lv_if_ne hx hb hd ht (fun q => kt q p e R s m args below meth c A al0 H locs cells slots CT ST _ ws _ _ hF hSt hsc hR h1 h2 h3 h4 hA hK hP hD hS hW hal hls hlv hsr) (fun q => kf q p e R s m args below meth c A al0 H locs cells slots CT ST _ ws _ _ hF hSt hsc hR h1 h2 h3 h4 hA hK hP hD hS hW hal hls hlv hsr)
theorem e_icmp_ne {g : MG} {sc : MS} {M : MM} {d w pc : Nat} {lv : ML} {st : List MV} {h : List MC} {mc ms : Nat} {Q : MO → List MC → Prop} {x y : Int32} {off : Int} {tgt : Nat} (hd : decode M.2.1 pc = .ok (.if_icmp .ne off, 3)) (ht : (pc : Int) + off = (tgt : Int)) (kt : ¬ x = y → Ev g sc M d w tgt lv st h mc ms Q) (kf : x = y → Ev g sc M d w (pc + 3) lv st h mc ms Q) : Ev g sc M d w pc lv (mi y :: mi x :: st) h mc ms Q := by
  intro p e R s m args below meth c A al0 H locs cells slots CT ST ls ws LV VS hF hSt hsc hR h1 h2 h3 h4 hA hK hP hD hS hW hal hls hlv hst
  obtain ⟨hx, hb, hr, hlk, hml, hown, hts, hnm, htb⟩ := id hF
  obtain ⟨V, VS', rfl, hV, hst1⟩ := hst.inv
  obtain ⟨V2, VS2, rfl, hV2, hst2⟩ := hst1.inv
  have hsr := hst2
  cases hV
  cases hV2
  exact lv_icmp_ne hx hb hd ht (fun q => kt q p e R s m args below meth c A al0 H locs cells slots CT ST _ ws _ _ hF hSt hsc hR h1 h2 h3 h4 hA hK hP hD hS hW hal hls hlv hsr) (fun q => kf q p e R s m args below meth c A al0 H locs cells slots CT ST _ ws _ _ hF hSt hsc hR h1 h2 h3 h4 hA hK hP hD hS hW hal hls hlv hsr)
theorem e_if_lt {g : MG} {sc : MS} {M : MM} {d w pc : Nat} {lv : ML} {st : List MV} {h : List MC} {mc ms : Nat} {Q : MO → List MC → Prop} {x : Int32} {off : Int} {tgt : Nat} (hd : decode M.2.1 pc = .ok (.ifCond .lt off, 3)) (ht : (pc : Int) + off = (tgt : Int)) (kt : x < 0 → Ev g sc M d w tgt lv st h mc ms Q) (kf : ¬ x < 0 → Ev g sc M d w (pc + 3) lv st h mc ms Q) : Ev g sc M d w pc lv (mi x :: st) h mc ms Q := by
  intro p e R s m args below meth c A al0 H locs cells slots CT ST ls ws LV VS hF hSt hsc hR h1 h2 h3 h4 hA hK hP hD hS hW hal hls hlv hst
  obtain ⟨hx, hb, hr, hlk, hml, hown, hts, hnm, htb⟩ := id hF
  obtain ⟨V, VS', rfl, hV, hst1⟩ := hst.inv
  have hsr := hst1
  cases hV
  exact lv_if_lt hx hb hd ht (fun q => kt q p e R s m args below meth c A al0 H locs cells slots CT ST _ ws _ _ hF hSt hsc hR h1 h2 h3 h4 hA hK hP hD hS hW hal hls hlv hsr) (fun q => kf q p e R s m args below meth c A al0 H locs cells slots CT ST _ ws _ _ hF hSt hsc hR h1 h2 h3 h4 hA hK hP hD hS hW hal hls hlv hsr)
theorem e_icmp_lt {g : MG} {sc : MS} {M : MM} {d w pc : Nat} {lv : ML} {st : List MV} {h : List MC} {mc ms : Nat} {Q : MO → List MC → Prop} {x y : Int32} {off : Int} {tgt : Nat} (hd : decode M.2.1 pc = .ok (.if_icmp .lt off, 3)) (ht : (pc : Int) + off = (tgt : Int)) (kt : x < y → Ev g sc M d w tgt lv st h mc ms Q) (kf : ¬ x < y → Ev g sc M d w (pc + 3) lv st h mc ms Q) : Ev g sc M d w pc lv (mi y :: mi x :: st) h mc ms Q := by
  intro p e R s m args below meth c A al0 H locs cells slots CT ST ls ws LV VS hF hSt hsc hR h1 h2 h3 h4 hA hK hP hD hS hW hal hls hlv hst
  obtain ⟨hx, hb, hr, hlk, hml, hown, hts, hnm, htb⟩ := id hF
  obtain ⟨V, VS', rfl, hV, hst1⟩ := hst.inv
  obtain ⟨V2, VS2, rfl, hV2, hst2⟩ := hst1.inv
  have hsr := hst2
  cases hV
  cases hV2
  exact lv_icmp_lt hx hb hd ht (fun q => kt q p e R s m args below meth c A al0 H locs cells slots CT ST _ ws _ _ hF hSt hsc hR h1 h2 h3 h4 hA hK hP hD hS hW hal hls hlv hsr) (fun q => kf q p e R s m args below meth c A al0 H locs cells slots CT ST _ ws _ _ hF hSt hsc hR h1 h2 h3 h4 hA hK hP hD hS hW hal hls hlv hsr)
theorem e_if_ge {g : MG} {sc : MS} {M : MM} {d w pc : Nat} {lv : ML} {st : List MV} {h : List MC} {mc ms : Nat} {Q : MO → List MC → Prop} {x : Int32} {off : Int} {tgt : Nat} (hd : decode M.2.1 pc = .ok (.ifCond .ge off, 3)) (ht : (pc : Int) + off = (tgt : Int)) (kt : 0 ≤ x → Ev g sc M d w tgt lv st h mc ms Q) (kf : ¬ 0 ≤ x → Ev g sc M d w (pc + 3) lv st h mc ms Q) : Ev g sc M d w pc lv (mi x :: st) h mc ms Q := by
  intro p e R s m args below meth c A al0 H locs cells slots CT ST ls ws LV VS hF hSt hsc hR h1 h2 h3 h4 hA hK hP hD hS hW hal hls hlv hst
  obtain ⟨hx, hb, hr, hlk, hml, hown, hts, hnm, htb⟩ := id hF
  obtain ⟨V, VS', rfl, hV, hst1⟩ := hst.inv
  have hsr := hst1
  cases hV
  exact lv_if_ge hx hb hd ht (fun q => kt q p e R s m args below meth c A al0 H locs cells slots CT ST _ ws _ _ hF hSt hsc hR h1 h2 h3 h4 hA hK hP hD hS hW hal hls hlv hsr) (fun q => kf q p e R s m args below meth c A al0 H locs cells slots CT ST _ ws _ _ hF hSt hsc hR h1 h2 h3 h4 hA hK hP hD hS hW hal hls hlv hsr)
theorem e_icmp_ge {g : MG} {sc : MS} {M : MM} {d w pc : Nat} {lv : ML} {st : List MV} {h : List MC} {mc ms : Nat} {Q : MO → List MC → Prop} {x y : Int32} {off : Int} {tgt : Nat} (hd : decode M.2.1 pc = .ok (.if_icmp .ge off, 3)) (ht : (pc : Int) + off = (tgt : Int)) (kt : y ≤ x → Ev g sc M d w tgt lv st h mc ms Q) (kf : ¬ y ≤ x → Ev g sc M d w (pc + 3) lv st h mc ms Q) : Ev g sc M d w pc lv (mi y :: mi x :: st) h mc ms Q := by
  intro p e R s m args below meth c A al0 H locs cells slots CT ST ls ws LV VS hF hSt hsc hR h1 h2 h3 h4 hA hK hP hD hS hW hal hls hlv hst
  obtain ⟨hx, hb, hr, hlk, hml, hown, hts, hnm, htb⟩ := id hF
  obtain ⟨V, VS', rfl, hV, hst1⟩ := hst.inv
  obtain ⟨V2, VS2, rfl, hV2, hst2⟩ := hst1.inv
  have hsr := hst2
  cases hV
  cases hV2
  exact lv_icmp_ge hx hb hd ht (fun q => kt q p e R s m args below meth c A al0 H locs cells slots CT ST _ ws _ _ hF hSt hsc hR h1 h2 h3 h4 hA hK hP hD hS hW hal hls hlv hsr) (fun q => kf q p e R s m args below meth c A al0 H locs cells slots CT ST _ ws _ _ hF hSt hsc hR h1 h2 h3 h4 hA hK hP hD hS hW hal hls hlv hsr)
theorem e_if_gt {g : MG} {sc : MS} {M : MM} {d w pc : Nat} {lv : ML} {st : List MV} {h : List MC} {mc ms : Nat} {Q : MO → List MC → Prop} {x : Int32} {off : Int} {tgt : Nat} (hd : decode M.2.1 pc = .ok (.ifCond .gt off, 3)) (ht : (pc : Int) + off = (tgt : Int)) (kt : 0 < x → Ev g sc M d w tgt lv st h mc ms Q) (kf : ¬ 0 < x → Ev g sc M d w (pc + 3) lv st h mc ms Q) : Ev g sc M d w pc lv (mi x :: st) h mc ms Q := by
  intro p e R s m args below meth c A al0 H locs cells slots CT ST ls ws LV VS hF hSt hsc hR h1 h2 h3 h4 hA hK hP hD hS hW hal hls hlv hst
  obtain ⟨hx, hb, hr, hlk, hml, hown, hts, hnm, htb⟩ := id hF
  obtain ⟨V, VS', rfl, hV, hst1⟩ := hst.inv
  have hsr := hst1
  cases hV
  exact lv_if_gt hx hb hd ht (fun q => kt q p e R s m args below meth c A al0 H locs cells slots CT ST _ ws _ _ hF hSt hsc hR h1 h2 h3 h4 hA hK hP hD hS hW hal hls hlv hsr) (fun q => kf q p e R s m args below meth c A al0 H locs cells slots CT ST _ ws _ _ hF hSt hsc hR h1 h2 h3 h4 hA hK hP hD hS hW hal hls hlv hsr)
theorem e_icmp_gt {g : MG} {sc : MS} {M : MM} {d w pc : Nat} {lv : ML} {st : List MV} {h : List MC} {mc ms : Nat} {Q : MO → List MC → Prop} {x y : Int32} {off : Int} {tgt : Nat} (hd : decode M.2.1 pc = .ok (.if_icmp .gt off, 3)) (ht : (pc : Int) + off = (tgt : Int)) (kt : y < x → Ev g sc M d w tgt lv st h mc ms Q) (kf : ¬ y < x → Ev g sc M d w (pc + 3) lv st h mc ms Q) : Ev g sc M d w pc lv (mi y :: mi x :: st) h mc ms Q := by
  intro p e R s m args below meth c A al0 H locs cells slots CT ST ls ws LV VS hF hSt hsc hR h1 h2 h3 h4 hA hK hP hD hS hW hal hls hlv hst
  obtain ⟨hx, hb, hr, hlk, hml, hown, hts, hnm, htb⟩ := id hF
  obtain ⟨V, VS', rfl, hV, hst1⟩ := hst.inv
  obtain ⟨V2, VS2, rfl, hV2, hst2⟩ := hst1.inv
  have hsr := hst2
  cases hV
  cases hV2
  exact lv_icmp_gt hx hb hd ht (fun q => kt q p e R s m args below meth c A al0 H locs cells slots CT ST _ ws _ _ hF hSt hsc hR h1 h2 h3 h4 hA hK hP hD hS hW hal hls hlv hsr) (fun q => kf q p e R s m args below meth c A al0 H locs cells slots CT ST _ ws _ _ hF hSt hsc hR h1 h2 h3 h4 hA hK hP hD hS hW hal hls hlv hsr)
theorem e_if_le {g : MG} {sc : MS} {M : MM} {d w pc : Nat} {lv : ML} {st : List MV} {h : List MC} {mc ms : Nat} {Q : MO → List MC → Prop} {x : Int32} {off : Int} {tgt : Nat} (hd : decode M.2.1 pc = .ok (.ifCond .le off, 3)) (ht : (pc : Int) + off = (tgt : Int)) (kt : x ≤ 0 → Ev g sc M d w tgt lv st h mc ms Q) (kf : ¬ x ≤ 0 → Ev g sc M d w (pc + 3) lv st h mc ms Q) : Ev g sc M d w pc lv (mi x :: st) h mc ms Q := by
  intro p e R s m args below meth c A al0 H locs cells slots CT ST ls ws LV VS hF hSt hsc hR h1 h2 h3 h4 hA hK hP hD hS hW hal hls hlv hst
  obtain ⟨hx, hb, hr, hlk, hml, hown, hts, hnm, htb⟩ := id hF
  obtain ⟨V, VS', rfl, hV, hst1⟩ := hst.inv
  have hsr := hst1
  cases hV
  exact lv_if_le hx hb hd ht (fun q => kt q p e R s m args below meth c A al0 H locs cells slots CT ST _ ws _ _ hF hSt hsc hR h1 h2 h3 h4 hA hK hP hD hS hW hal hls hlv hsr) (fun q => kf q p e R s m args below meth c A al0 H locs cells slots CT ST _ ws _ _ hF hSt hsc hR h1 h2 h3 h4 hA hK hP hD hS hW hal hls hlv hsr)
theorem e_icmp_le {g : MG} {sc : MS} {M : MM} {d w pc : Nat} {lv : ML} {st : List MV} {h : List MC} {mc ms : Nat} {Q : MO → List MC → Prop} {x y : Int32} {off : Int} {tgt : Nat} (hd : decode M.2.1 pc = .ok (.if_icmp .le off, 3)) (ht : (pc : Int) + off = (tgt : Int)) (kt : x ≤ y → Ev g sc M d w tgt lv st h mc ms Q) (kf : ¬ x ≤ y → Ev g sc M d w (pc + 3) lv st h mc ms Q) : Ev g sc M d w pc lv (mi y :: mi x :: st) h mc ms Q := by
  intro p e R s m args below meth c A al0 H locs cells slots CT ST ls ws LV VS hF hSt hsc hR h1 h2 h3 h4 hA hK hP hD hS hW hal hls hlv hst
  obtain ⟨hx, hb, hr, hlk, hml, hown, hts, hnm, htb⟩ := id hF
  obtain ⟨V, VS', rfl, hV, hst1⟩ := hst.inv
  obtain ⟨V2, VS2, rfl, hV2, hst2⟩ := hst1.inv
  have hsr := hst2
  cases hV
  cases hV2
  exact lv_icmp_le hx hb hd ht (fun q => kt q p e R s m args below meth c A al0 H locs cells slots CT ST _ ws _ _ hF hSt hsc hR h1 h2 h3 h4 hA hK hP hD hS hW hal hls hlv hsr) (fun q => kf q p e R s m args below meth c A al0 H locs cells slots CT ST _ ws _ _ hF hSt hsc hR h1 h2 h3 h4 hA hK hP hD hS hW hal hls hlv hsr)
theorem e_goto {g : MG} {sc : MS} {M : MM} {d w pc : Nat} {lv : ML} {st : List MV} {h : List MC} {mc ms : Nat} {Q : MO → List MC → Prop} {off : Int} {tgt : Nat} (hd : decode M.2.1 pc = .ok (.goto off, 3)) (ht : (pc : Int) + off = (tgt : Int)) (k : Ev g sc M d w tgt lv st h mc ms Q) : Ev g sc M d w pc lv st h mc ms Q := by
  intro p e R s m args below meth c A al0 H locs cells slots CT ST ls ws LV VS hF hSt hsc hR h1 h2 h3 h4 hA hK hP hD hS hW hal hls hlv hst
  obtain ⟨hx, hb, hr, hlk, hml, hown, hts, hnm, htb⟩ := id hF
  exact lv_goto hx hb hd ht (k p e R s m args below meth c A al0 H locs cells slots CT ST _ ws _ _ hF hSt hsc hR h1 h2 h3 h4 hA hK hP hD hS hW hal hls hlv hst)
theorem e_ifnull0 {g : MG} {sc : MS} {M : MM} {d w pc : Nat} {lv : ML} {st : List MV} {h : List MC} {mc ms : Nat} {Q : MO → List MC → Prop} {off : Int} {tgt : Nat} (hd : decode M.2.1 pc = .ok (.ifnull off, 3)) (ht : (pc : Int) + off = (tgt : Int)) (k : Ev g sc M d w tgt lv st h mc ms Q) : Ev g sc M d w pc lv (mn :: st) h mc ms Q := by
  intro p e R s m args below meth c A al0 H locs cells slots CT ST ls ws LV VS hF hSt hsc hR h1 h2 h3 h4 hA hK hP hD hS hW hal hls hlv hst
  obtain ⟨hx, hb, hr, hlk, hml, hown, hts, hnm, htb⟩ := id hF
  obtain ⟨V, VS', rfl, hV, hst1⟩ := hst.inv
  have hsr := hst1
  cases hV
  exact lv_ifnullN hx hb hd ht (k p e R s m args below meth c A al0 H locs cells slots CT ST _ ws _ _ hF hSt hsc hR h1 h2 h3 h4 hA hK hP hD hS hW hal hls hlv hsr)
theorem e_ifnull1 {g : MG} {sc : MS} {M : MM} {d w pc : Nat} {lv : ML} {st : List MV} {h : List MC} {mc ms : Nat} {Q : MO → List MC → Prop} {r : Nat} {off : Int} (hd : decode M.2.1 pc = .ok (.ifnull off, 3)) (k : Ev g sc M d w (pc + 3) lv st h mc ms Q) : Ev g sc M d w pc lv (mr r :: st) h mc ms Q := by
  intro p e R s m args below meth c A al0 H locs cells slots CT ST ls ws LV VS hF hSt hsc hR h1 h2 h3 h4 hA hK hP hD hS hW hal hls hlv hst
  obtain ⟨hx, hb, hr, hlk, hml, hown, hts, hnm, htb⟩ := id hF
  obtain ⟨V, VS', rfl, hV, hst1⟩ := hst.inv
  have hsr := hst1
  obtain ⟨q, -, rfl⟩ := m_v_mr hV
  exact lv_ifnull hx hb hd (k p e R s m args below meth c A al0 H locs cells slots CT ST _ ws _ _ hF hSt hsc hR h1 h2 h3 h4 hA hK hP hD hS hW hal hls hlv hsr)
theorem e_ifnonnull0 {g : MG} {sc : MS} {M : MM} {d w pc : Nat} {lv : ML} {st : List MV} {h : List MC} {mc ms : Nat} {Q : MO → List MC → Prop} {off : Int} (hd : decode M.2.1 pc = .ok (.ifnonnull off, 3)) (k : Ev g sc M d w (pc + 3) lv st h mc ms Q) : Ev g sc M d w pc lv (mn :: st) h mc ms Q := by
  intro p e R s m args below meth c A al0 H locs cells slots CT ST ls ws LV VS hF hSt hsc hR h1 h2 h3 h4 hA hK hP hD hS hW hal hls hlv hst
  obtain ⟨hx, hb, hr, hlk, hml, hown, hts, hnm, htb⟩ := id hF
  obtain ⟨V, VS', rfl, hV, hst1⟩ := hst.inv
  have hsr := hst1
  cases hV
  exact lv_ifnonnullN hx hb hd (k p e R s m args below meth c A al0 H locs cells slots CT ST _ ws _ _ hF hSt hsc hR h1 h2 h3 h4 hA hK hP hD hS hW hal hls hlv hsr)
theorem e_ifnonnull1 {g : MG} {sc : MS} {M : MM} {d w pc : Nat} {lv : ML} {st : List MV} {h : List MC} {mc ms : Nat} {Q : MO → List MC → Prop} {r : Nat} {off : Int} {tgt : Nat} (hd : decode M.2.1 pc = .ok (.ifnonnull off, 3)) (ht : (pc : Int) + off = (tgt : Int)) (k : Ev g sc M d w tgt lv st h mc ms Q) : Ev g sc M d w pc lv (mr r :: st) h mc ms Q := by
  intro p e R s m args below meth c A al0 H locs cells slots CT ST ls ws LV VS hF hSt hsc hR h1 h2 h3 h4 hA hK hP hD hS hW hal hls hlv hst
  obtain ⟨hx, hb, hr, hlk, hml, hown, hts, hnm, htb⟩ := id hF
  obtain ⟨V, VS', rfl, hV, hst1⟩ := hst.inv
  have hsr := hst1
  obtain ⟨q, -, rfl⟩ := m_v_mr hV
  exact lv_ifnonnull hx hb hd ht (k p e R s m args below meth c A al0 H locs cells slots CT ST _ ws _ _ hF hSt hsc hR h1 h2 h3 h4 hA hK hP hD hS hW hal hls hlv hsr)
theorem e_tableIn {g : MG} {sc : MS} {M : MM} {d w pc : Nat} {lv : ML} {st : List MV} {h : List MC} {mc ms : Nat} {Q : MO → List MC → Prop} {dflt lo hi : Int} {offs : Array Int} {len : Nat} {x : Int32} {off : Int} {tgt : Nat} (hd : decode M.2.1 pc = .ok (.tableswitch dflt lo hi offs, len)) (q1 : ¬ x.toInt < lo) (q2 : ¬ hi < x.toInt) (ho : offs[(x.toInt - lo).toNat]? = some off) (ht : (pc : Int) + off = (tgt : Int)) (k : Ev g sc M d w tgt lv st h mc ms Q) : Ev g sc M d w pc lv (mi x :: st) h mc ms Q := by
  intro p e R s m args below meth c A al0 H locs cells slots CT ST ls ws LV VS hF hSt hsc hR h1 h2 h3 h4 hA hK hP hD hS hW hal hls hlv hst
  obtain ⟨hx, hb, hr, hlk, hml, hown, hts, hnm, htb⟩ := id hF
  obtain ⟨V, VS', rfl, hV, hst1⟩ := hst.inv
  have hsr := hst1
  cases hV
  exact lv_tableIn hx hb hd q1 q2 ho ht (k p e R s m args below meth c A al0 H locs cells slots CT ST _ ws _ _ hF hSt hsc hR h1 h2 h3 h4 hA hK hP hD hS hW hal hls hlv hsr)
theorem e_tableOut {g : MG} {sc : MS} {M : MM} {d w pc : Nat} {lv : ML} {st : List MV} {h : List MC} {mc ms : Nat} {Q : MO → List MC → Prop} {dflt lo hi : Int} {offs : Array Int} {len : Nat} {x : Int32} {tgt : Nat} (hd : decode M.2.1 pc = .ok (.tableswitch dflt lo hi offs, len)) (q1 : x.toInt < lo ∨ hi < x.toInt) (ht : (pc : Int) + dflt = (tgt : Int)) (k : Ev g sc M d w tgt lv st h mc ms Q) : Ev g sc M d w pc lv (mi x :: st) h mc ms Q := by
  intro p e R s m args below meth c A al0 H locs cells slots CT ST ls ws LV VS hF hSt hsc hR h1 h2 h3 h4 hA hK hP hD hS hW hal hls hlv hst
  obtain ⟨hx, hb, hr, hlk, hml, hown, hts, hnm, htb⟩ := id hF
  obtain ⟨V, VS', rfl, hV, hst1⟩ := hst.inv
  have hsr := hst1
  cases hV
  exact lv_tableOut hx hb hd q1 ht (k p e R s m args below meth c A al0 H locs cells slots CT ST _ ws _ _ hF hSt hsc hR h1 h2 h3 h4 hA hK hP hD hS hW hal hls hlv hsr)
theorem e_lookup {g : MG} {sc : MS} {M : MM} {d w pc : Nat} {lv : ML} {st : List MV} {h : List MC} {mc ms : Nat} {Q : MO → List MC → Prop} {dflt : Int} {ps : Array (Int × Int)} {len : Nat} {x : Int32} {off : Int} {tgt : Nat} (hd : decode M.2.1 pc = .ok (.lookupswitch dflt ps, len)) (q1 : (ps.toList.zip (ps.toList.drop 1)).all (fun (a, next) => a.1 < next.1) = true) (ho : Op.lookupswitch.offset ps.toList dflt x.toInt = off) (ht : (pc : Int) + off = (tgt : Int)) (k : Ev g sc M d w tgt lv st h mc ms Q) : Ev g sc M d w pc lv (mi x :: st) h mc ms Q := by
  intro p e R s m args below meth c A al0 H locs cells slots CT ST ls ws LV VS hF hSt hsc hR h1 h2 h3 h4 hA hK hP hD hS hW hal hls hlv hst
  obtain ⟨hx, hb, hr, hlk, hml, hown, hts, hnm, htb⟩ := id hF
  obtain ⟨V, VS', rfl, hV, hst1⟩ := hst.inv
  have hsr := hst1
  cases hV
  exact lv_lookup hx hb hd q1 ho ht (k p e R s m args below meth c A al0 H locs cells slots CT ST _ ws _ _ hF hSt hsc hR h1 h2 h3 h4 hA hK hP hD hS hW hal hls hlv hsr)
theorem e_topi {g : MG} {sc : MS} {M : MM} {d w pc : Nat} {lv : ML} {st : List MV} {h : List MC} {mc ms : Nat} {Q : MO → List MC → Prop} {x : Int32} (k : ∀ y : Int32, y = x → Ev g sc M d w pc lv (mi y :: st) h mc ms Q) : Ev g sc M d w pc lv (mi x :: st) h mc ms Q := k x rfl
end
section
/-- no script among what is kept -/
def m_nsc : MV → Bool
  | .inr (.inr (.inr _)) => false
  | _ => true
theorem m_v_none {al : List Nat} {sc : MS} {v : MV} {V : Value} (hn : m_nsc v = true) (h : m_v al sc v = some V) : m_v al none v = some V := by
  rcases v with x | x | (_ | p) | u
  · exact h
  · exact h
  · exact h
  · exact h
  · cases hn
theorem m_v_rf {al : List Nat} {sc : MS} {r F : Option Nat} (h : r.map (fun p => al[p]?) = F.map some) : m_v al sc (.inr (.inr (.inl r))) = some (va_rf F) := by
  cases r with
  | none =>
    cases F with
    | none => rfl
    | some a => cases h
  | some p =>
    cases F with
    | none => cases h
    | some a =>
      have h4 : al[p]? = some a := Option.some.inj h
      simp only [m_v, h4, Option.map_some]
      rfl
theorem m_rf_up {al : List Nat} {f F : Nat → Option Nat} (h : ∀ k : Nat, (f k).map (fun p => al[p]?) = (F k).map some) {j p a : Nat} (hp : al[p]? = some a) : ∀ k : Nat, (va_up f j (some p) k).map (fun p => al[p]?) = (va_up F j (some a) k).map some := by
  intro k
  unfold va_up
  by_cases hk : k = j
  · rw [if_pos hk, if_pos hk]
    show some (al[p]?) = some (some a)
    rw [hp]
  · rw [if_neg hk, if_neg hk]
    exact h k
/-- arrays of references to class ci stand in the table of types -/
def m_oa (ci : Nat) : Prop := ∀ ac : Nat → ClassId, ∃ (t0 : Nat) (q : vw_C), (m_tys ac)[t0]? = some (ac (3 + ci), .object q.1) ∧ m_cl[ci]? = some q
/-- a field: own class's pool index i is field k of class ci -/
def m_fl (own : String) (i ci k : Nat) : Prop := ∃ (C : String) (T : u_T) (N : Nat), m_cl[ci]? = some (C, T, N) ∧ k < N ∧ (∀ w ∈ u_ws C T N, w ∈ m_Ts) ∧ (Cond.fieldLink own i (T k).1 (T k).2.1 (T k).2.2.1 ∈ m_Ts ∨ ∃ host, (own, i, (T k).1, (T k).2.1, (T k).2.2.1, host) ∈ m_nestF)
/-- .. and may be written: its type -/
def m_fp (own : String) (i ci k : Nat) (ty : FieldType) (fin : Bool) : Prop := ∃ (C : String) (T : u_T) (N : Nat) (ty0 : Nat → FieldType), m_cl[ci]? = some (C, T, N) ∧ k < N ∧ (∀ w ∈ u_ws C T N, w ∈ m_Ts) ∧ (Cond.fieldLink own i (T k).1 (T k).2.1 (T k).2.2.1 ∈ m_Ts ∨ (fin = false ∧ ∃ host, (own, i, (T k).1, (T k).2.1, (T k).2.2.1, host) ∈ m_nestF)) ∧ (∀ a, a < N → parseFieldDescriptor (T a).2.2.1 = some (ty0 a)) ∧ (∀ a, a < N → ∀ b, b < N → a ≠ b → (T a).2.1 ≠ (T b).2.1) ∧ (T k).2.2.2 = fin ∧ (T k).1 = (if fin then own else (T k).1) ∧ parseFieldDescriptor (T k).2.2.1 = some ty
def m_fits (ty : FieldType) (v : MV) : Prop := ∀ (al : List Nat) (sc : MS) (V : Value), m_v al sc v = some V → narrow ty V = V ∧ fits ty V = true
theorem m_fits_i (x : Int32) : m_fits .int (mi x) := fun _ _ V h => by cases h; exact ⟨rfl, rfl⟩
theorem m_fits_o (C : String) (r : Option Nat ⊕ Unit) : m_fits (.object C) (.inr (.inr r)) := fun _ _ V h => by rcases m_v_ref h with rfl | ⟨q, rfl⟩ <;> exact ⟨rfl, rfl⟩
theorem m_fits_a (t : FieldType) (r : Option Nat ⊕ Unit) : m_fits (.array t) (.inr (.inr r)) := fun _ _ V h => by rcases m_v_ref h with rfl | ⟨q, rfl⟩ <;> exact ⟨rfl, rfl⟩
theorem m_c_o {ac : Nat → ClassId} {al : List Nat} {ci : Nat} {fs : List MV} {e : va_E} (h : m_c ac al (cO ci fs) e) : ∃ FS : List Value, e = .inr (ci, FS) ∧ m_vs al none fs FS := h
theorem m_c_r {ac : Nat → ClassId} {al : List Nat} {ci n : Nat} {f : Nat → Option Nat} {e : va_E} (h : m_c ac al (cR ci n f) e) : ∃ F : Nat → Option Nat, e = .inl (ac (3 + ci), n, .inr (.inr (.inr (.inr F)))) ∧ ∀ k : Nat, (f k).map (fun p => al[p]?) = (F k).map some := h
theorem m_c_i {ac : Nat → ClassId} {al : List Nat} {n : Nat} {f : Nat → Int32} {e : va_E} (h : m_c ac al (cI n f) e) : e = .inl (ac 0, n, .inl f) := h
theorem m_c_z {ac : Nat → ClassId} {al : List Nat} {n : Nat} {f : Nat → Int32} {e : va_E} (h : m_c ac al (cZ n f) e) : e = .inl (ac 1, n, .inl f) := h
theorem m_c_l {ac : Nat → ClassId} {al : List Nat} {n : Nat} {f : Nat → Int64} {e : va_E} (h : m_c ac al (cL n f) e) : e = .inl (ac 2, n, .inr (.inl f)) := h
/-- a reference on the stack and its cell -/
theorem m_ref {ac : Nat → ClassId} {h : List MC} {ws : va_W} {sc : MS} (hW : m_W ac h ws) {r : Nat} {c : MC} {V : Value} (hr : h[r]? = some c) (hV : m_v (m_al ws) sc (mr r) = some V) : ∃ (a : Nat) (e : va_E), V = .ref a ∧ ws[r]? = some (a, e) ∧ m_c ac (m_al ws) c e := by
  obtain ⟨q, hq, rfl⟩ := m_v_mr hV
  obtain ⟨a, e, e1, e2, e3⟩ := hW.get hr
  cases Option.some.inj (hq.symm.trans e2)
  exact ⟨_, e, rfl, e1, e3⟩
theorem e_getfield {g : MG} {sc : MS} {M : MM} {d w pc : Nat} {lv : ML} {st : List MV} {h : List MC} {mc ms : Nat} {Q : MO → List MC → Prop} {i ci k r : Nat} {fs : List MV} {v : MV} (hd : decode M.2.1 pc = .ok (.getfield i, 3)) (hf : m_fl M.1.cls i ci k) (ho : h[r]? = some (cO ci fs)) (hv : fs[k]? = some v) (kk : Ev g sc M d w (pc + 3) lv (v :: st) h mc ms Q) : Ev g sc M d w pc lv (mr r :: st) h mc ms Q := by
  intro p e R s m args below meth c A al0 H locs cells slots CT ST ls ws LV VS hF hSt hsc hR h1 h2 h3 h4 hA hK hP hD hS hW hal hls hlv hst
  obtain ⟨hx, hb, hr, hlk, hml, hown, hts, hnm, htb⟩ := id hF
  obtain ⟨V0, VS0, rfl, hV0, hst1⟩ := hst.inv
  have hsr := hst1
  obtain ⟨a, e9, rfl, hwr, hc9⟩ := m_ref hW ho hV0
  obtain ⟨FS, rfl, hfs⟩ := m_c_o hc9
  obtain ⟨V, hV, hVv⟩ := hfs.at hv
  obtain ⟨C, T, N, hc, hk, hin, hl | ⟨host, hl⟩⟩ := hf
  · exact va_get hx hb hts hin hown hK hP r hwr hc k hk (hts _ hl) (fun _ q => q) hV hd (kk p e R s m args below meth c A al0 H locs cells slots CT ST _ _ _ _ hF hSt hsc hR h1 h2 h3 h4 hA hK hP hD hS hW hal hls hlv (m_vs.cons (m_v_sc hVv) hsr))
  · exact va_getN hx hb hts hin hown hK hP r hwr hc k hk (va_Nw.use rfl (hSt.2.2.2.1 _ hl)) (fun _ q => q) hV hd (kk p e R s m args below meth c A al0 H locs cells slots CT ST _ _ _ _ hF hSt hsc hR h1 h2 h3 h4 hA hK hP hD hS hW hal hls hlv (m_vs.cons (m_v_sc hVv) hsr))
theorem e_putfield {g : MG} {sc : MS} {M : MM} {d w pc : Nat} {lv : ML} {st : List MV} {h : List MC} {mc ms : Nat} {Q : MO → List MC → Prop} {i ci k r : Nat} {fs : List MV} {v : MV} {ty : FieldType} (hd : decode M.2.1 pc = .ok (.putfield i, 3)) (hf : m_fp M.1.cls i ci k ty false) (ho : h[r]? = some (cO ci fs)) (hkl : k < fs.length) (hty : m_fits ty v) (hnsc : m_nsc v = true) (kk : Ev g sc M d w (pc + 3) lv st (h.set r (cO ci (fs.set k v))) mc ms Q) : Ev g sc M d w pc lv (v :: mr r :: st) h mc ms Q := by
  intro p e R s m args below meth c A al0 H locs cells slots CT ST ls ws LV VS hF hSt hsc hR h1 h2 h3 h4 hA hK hP hD hS hW hal hls hlv hst
  obtain ⟨hx, hb, hr, hlk, hml, hown, hts, hnm, htb⟩ := id hF
  obtain ⟨V0, VS0, rfl, hV0, hst1⟩ := hst.inv
  obtain ⟨V1, VS1, rfl, hV1, hst2⟩ := hst1.inv
  have hsr := hst2
  obtain ⟨a, e9, rfl, hwr, hc9⟩ := m_ref hW ho hV1
  obtain ⟨FS, rfl, hfs⟩ := m_c_o hc9
  obtain ⟨hn, hfit⟩ := hty _ _ _ hV0
  have hl9 : k < FS.length := by rw [hfs.len]; exact hkl
  obtain ⟨C, T, N, ty0, hc, hk, hin, hl, ht0, hnm9, hfin, hdecl, hpd⟩ := hf
  rcases hl with hl | ⟨-, host, hl⟩
  · exact va_put hx hb hts hin ty0 ht0 hnm9 hown hK hP hD hS r hwr hc k hk (hts _ hl) (fun _ q => q) hfin hpd hn hfit hl9 hd (fun H9 locs9 hP9 hD9 hS9 => kk p e R s m args below meth c A al0 H9 locs9 cells slots CT ST _ _ _ _ hF hSt hsc hR h1 h2 h3 h4 hA hK hP9 hD9 hS9 (hW.set hwr ⟨_, rfl, hfs.set (m_v_none hnsc hV0)⟩) (by rw [m_al_set hwr]; exact hal) hls (by rw [m_al_set hwr]; exact hlv) (by rw [m_al_set hwr]; exact hsr))
  · exact va_putN hx hb hts hin ty0 ht0 hnm9 hown hK hP hD hS r hwr hc k hk (va_Nw.use rfl (hSt.2.2.2.1 _ hl)) (fun _ q => q) hfin hpd hn hfit hl9 hd (fun H9 locs9 hP9 hD9 hS9 => kk p e R s m args below meth c A al0 H9 locs9 cells slots CT ST _ _ _ _ hF hSt hsc hR h1 h2 h3 h4 hA hK hP9 hD9 hS9 (hW.set hwr ⟨_, rfl, hfs.set (m_v_none hnsc hV0)⟩) (by rw [m_al_set hwr]; exact hal) hls (by rw [m_al_set hwr]; exact hlv) (by rw [m_al_set hwr]; exact hsr))
theorem e_putfinal {g : MG} {sc : MS} {M : MM} {d w pc : Nat} {lv : ML} {st : List MV} {h : List MC} {mc ms : Nat} {Q : MO → List MC → Prop} {i ci k r : Nat} {fs : List MV} {v : MV} {ty : FieldType} (hd : decode M.2.1 pc = .ok (.putfield i, 3)) (hf : m_fp M.1.cls i ci k ty true) (ho : h[r]? = some (cO ci fs)) (hkl : k < fs.length) (hty : m_fits ty v) (hnsc : m_nsc v = true) (hin2 : M.1.name = "<init>") (kk : Ev g sc M d w (pc + 3) lv st (h.set r (cO ci (fs.set k v))) mc ms Q) : Ev g sc M d w pc lv (v :: mr r :: st) h mc ms Q := by
  intro p e R s m args below meth c A al0 H locs cells slots CT ST ls ws LV VS hF hSt hsc hR h1 h2 h3 h4 hA hK hP hD hS hW hal hls hlv hst
  obtain ⟨hx, hb, hr, hlk, hml, hown, hts, hnm, htb⟩ := id hF
  obtain ⟨V0, VS0, rfl, hV0, hst1⟩ := hst.inv
  obtain ⟨V1, VS1, rfl, hV1, hst2⟩ := hst1.inv
  have hsr := hst2
  obtain ⟨a, e9, rfl, hwr, hc9⟩ := m_ref hW ho hV1
  obtain ⟨FS, rfl, hfs⟩ := m_c_o hc9
  obtain ⟨hn, hfit⟩ := hty _ _ _ hV0
  have hl9 : k < FS.length := by rw [hfs.len]; exact hkl
  obtain ⟨C, T, N, ty0, hc, hk, hin, hl, ht0, hnm9, hfin, hdecl, hpd⟩ := hf
  rcases hl with hl | ⟨hl, -⟩
  · exact va_putF hx hb hts hin ty0 ht0 hnm9 hown hK hP hD hS r hwr hc k hk (hts _ hl) (fun _ q => q) hfin (hnm.trans hin2) hdecl hpd hn hfit hl9 hd (fun H9 locs9 hP9 hD9 hS9 => kk p e R s m args below meth c A al0 H9 locs9 cells slots CT ST _ _ _ _ hF hSt hsc hR h1 h2 h3 h4 hA hK hP9 hD9 hS9 (hW.set hwr ⟨_, rfl, hfs.set (m_v_none hnsc hV0)⟩) (by rw [m_al_set hwr]; exact hal) hls (by rw [m_al_set hwr]; exact hlv) (by rw [m_al_set hwr]; exact hsr))
  · cases hl
theorem e_iaload {g : MG} {sc : MS} {M : MM} {d w pc : Nat} {lv : ML} {st : List MV} {h : List MC} {mc ms : Nat} {Q : MO → List MC → Prop} {r n : Nat} {f : Nat → Int32} {i : Int32} (hd : decode M.2.1 pc = .ok (.iaload, 1)) (ho : h[r]? = some (cI n f)) (hin : vp_in i n) (kk : Ev g sc M d w (pc + 1) lv (mi (f i.toNatClampNeg) :: st) h mc ms Q) : Ev g sc M d w pc lv (mi i :: mr r :: st) h mc ms Q := by
  intro p e R s m args below meth c A al0 H locs cells slots CT ST ls ws LV VS hF hSt hsc hR h1 h2 h3 h4 hA hK hP hD hS hW hal hls hlv hst
  obtain ⟨hx, hb, hr, hlk, hml, hown, hts, hnm, htb⟩ := id hF
  obtain ⟨V0, VS0, rfl, hV0, hst1⟩ := hst.inv
  obtain ⟨V1, VS1, rfl, hV1, hst2⟩ := hst1.inv
  have hsr := hst2
  cases hV0
  obtain ⟨a, e9, rfl, hwr, hc9⟩ := m_ref hW ho hV1
  obtain rfl := m_c_i hc9
  exact va_iald hx hb hK hP r 0 hwr rfl hin hd (kk p e R s m args below meth c A al0 H locs cells slots CT ST _ _ _ _ hF hSt hsc hR h1 h2 h3 h4 hA hK hP hD hS hW hal hls hlv (m_vs.cons rfl hsr))
theorem e_laload {g : MG} {sc : MS} {M : MM} {d w pc : Nat} {lv : ML} {st : List MV} {h : List MC} {mc ms : Nat} {Q : MO → List MC → Prop} {r n : Nat} {f : Nat → Int64} {i : Int32} (hd : decode M.2.1 pc = .ok (.laload, 1)) (ho : h[r]? = some (cL n f)) (hin : vp_in i n) (kk : Ev g sc M d w (pc + 1) lv (ml (f i.toNatClampNeg) :: st) h mc ms Q) : Ev g sc M d w pc lv (mi i :: mr r :: st) h mc ms Q := by
  intro p e R s m args below meth c A al0 H locs cells slots CT ST ls ws LV VS hF hSt hsc hR h1 h2 h3 h4 hA hK hP hD hS hW hal hls hlv hst
  obtain ⟨hx, hb, hr, hlk, hml, hown, hts, hnm, htb⟩ := id hF
  obtain ⟨V0, VS0, rfl, hV0, hst1⟩ := hst.inv
  obtain ⟨V1, VS1, rfl, hV1, hst2⟩ := hst1.inv
  have hsr := hst2
  cases hV0
  obtain ⟨a, e9, rfl, hwr, hc9⟩ := m_ref hW ho hV1
  obtain rfl := m_c_l hc9
  exact va_lald hx hb hK hP r 2 hwr rfl hin hd (kk p e R s m args below meth c A al0 H locs cells slots CT ST _ _ _ _ hF hSt hsc hR h1 h2 h3 h4 hA hK hP hD hS hW hal hls hlv (m_vs.cons rfl hsr))
theorem e_baload {g : MG} {sc : MS} {M : MM} {d w pc : Nat} {lv : ML} {st : List MV} {h : List MC} {mc ms : Nat} {Q : MO → List MC → Prop} {r n : Nat} {f : Nat → Int32} {i : Int32} (hd : decode M.2.1 pc = .ok (.baload, 1)) (ho : h[r]? = some (cZ n f)) (hin : vp_in i n) (kk : Ev g sc M d w (pc + 1) lv (mi (f i.toNatClampNeg) :: st) h mc ms Q) : Ev g sc M d w pc lv (mi i :: mr r :: st) h mc ms Q := by
  intro p e R s m args below meth c A al0 H locs cells slots CT ST ls ws LV VS hF hSt hsc hR h1 h2 h3 h4 hA hK hP hD hS hW hal hls hlv hst
  obtain ⟨hx, hb, hr, hlk, hml, hown, hts, hnm, htb⟩ := id hF
  obtain ⟨V0, VS0, rfl, hV0, hst1⟩ := hst.inv
  obtain ⟨V1, VS1, rfl, hV1, hst2⟩ := hst1.inv
  have hsr := hst2
  cases hV0
  obtain ⟨a, e9, rfl, hwr, hc9⟩ := m_ref hW ho hV1
  obtain rfl := m_c_z hc9
  exact va_zald hx hb hK hP r 1 hwr rfl hin hd (kk p e R s m args below meth c A al0 H locs cells slots CT ST _ _ _ _ hF hSt hsc hR h1 h2 h3 h4 hA hK hP hD hS hW hal hls hlv (m_vs.cons rfl hsr))
theorem e_iastore {g : MG} {sc : MS} {M : MM} {d w pc : Nat} {lv : ML} {st : List MV} {h : List MC} {mc ms : Nat} {Q : MO → List MC → Prop} {r n : Nat} {f : Nat → Int32} {i : Int32} {x : Int32} (hd : decode M.2.1 pc = .ok (.iastore, 1)) (ho : h[r]? = some (cI n f)) (hin : vp_in i n) (kk : Ev g sc M d w (pc + 1) lv st (h.set r (cI n (upd f i.toNatClampNeg x))) mc ms Q) : Ev g sc M d w pc lv (mi x :: mi i :: mr r :: st) h mc ms Q := by
  intro p e R s m args below meth c A al0 H locs cells slots CT ST ls ws LV VS hF hSt hsc hR h1 h2 h3 h4 hA hK hP hD hS hW hal hls hlv hst
  obtain ⟨hx, hb, hr, hlk, hml, hown, hts, hnm, htb⟩ := id hF
  obtain ⟨V0, VS0, rfl, hV0, hst1⟩ := hst.inv
  obtain ⟨V1, VS1, rfl, hV1, hst2⟩ := hst1.inv
  obtain ⟨V2, VS2, rfl, hV2, hst3⟩ := hst2.inv
  have hsr := hst3
  cases hV0
  cases hV1
  obtain ⟨a, e9, rfl, hwr, hc9⟩ := m_ref hW ho hV2
  obtain rfl := m_c_i hc9
  exact va_iast hx hb hK hP hD hS r 0 hwr rfl hin hd (fun H9 locs9 hP9 hD9 hS9 => kk p e R s m args below meth c A al0 H9 locs9 cells slots CT ST _ _ _ _ hF hSt hsc hR h1 h2 h3 h4 hA hK hP9 hD9 hS9 (hW.set hwr rfl) (by rw [m_al_set hwr]; exact hal) hls (by rw [m_al_set hwr]; exact hlv) (by rw [m_al_set hwr]; exact hsr))
theorem e_lastore {g : MG} {sc : MS} {M : MM} {d w pc : Nat} {lv : ML} {st : List MV} {h : List MC} {mc ms : Nat} {Q : MO → List MC → Prop} {r n : Nat} {f : Nat → Int64} {i : Int32} {x : Int64} (hd : decode M.2.1 pc = .ok (.lastore, 1)) (ho : h[r]? = some (cL n f)) (hin : vp_in i n) (kk : Ev g sc M d w (pc + 1) lv st (h.set r (cL n (vp_updL f i.toNatClampNeg x))) mc ms Q) : Ev g sc M d w pc lv (ml x :: mi i :: mr r :: st) h mc ms Q := by
  intro p e R s m args below meth c A al0 H locs cells slots CT ST ls ws LV VS hF hSt hsc hR h1 h2 h3 h4 hA hK hP hD hS hW hal hls hlv hst
  obtain ⟨hx, hb, hr, hlk, hml, hown, hts, hnm, htb⟩ := id hF
  obtain ⟨V0, VS0, rfl, hV0, hst1⟩ := hst.inv
  obtain ⟨V1, VS1, rfl, hV1, hst2⟩ := hst1.inv
  obtain ⟨V2, VS2, rfl, hV2, hst3⟩ := hst2.inv
  have hsr := hst3
  cases hV0
  cases hV1
  obtain ⟨a, e9, rfl, hwr, hc9⟩ := m_ref hW ho hV2
  obtain rfl := m_c_l hc9
  exact va_last hx hb hK hP hD hS r 2 hwr rfl hin hd (fun H9 locs9 hP9 hD9 hS9 => kk p e R s m args below meth c A al0 H9 locs9 cells slots CT ST _ _ _ _ hF hSt hsc hR h1 h2 h3 h4 hA hK hP9 hD9 hS9 (hW.set hwr rfl) (by rw [m_al_set hwr]; exact hal) hls (by rw [m_al_set hwr]; exact hlv) (by rw [m_al_set hwr]; exact hsr))
theorem e_bastore {g : MG} {sc : MS} {M : MM} {d w pc : Nat} {lv : ML} {st : List MV} {h : List MC} {mc ms : Nat} {Q : MO → List MC → Prop} {r n : Nat} {f : Nat → Int32} {i : Int32} {x : Int32} (hd : decode M.2.1 pc = .ok (.bastore, 1)) (ho : h[r]? = some (cZ n f)) (hin : vp_in i n) (hz : vp_nar .boolean x = x) (kk : Ev g sc M d w (pc + 1) lv st (h.set r (cZ n (upd f i.toNatClampNeg x))) mc ms Q) : Ev g sc M d w pc lv (mi x :: mi i :: mr r :: st) h mc ms Q := by
  intro p e R s m args below meth c A al0 H locs cells slots CT ST ls ws LV VS hF hSt hsc hR h1 h2 h3 h4 hA hK hP hD hS hW hal hls hlv hst
  obtain ⟨hx, hb, hr, hlk, hml, hown, hts, hnm, htb⟩ := id hF
  obtain ⟨V0, VS0, rfl, hV0, hst1⟩ := hst.inv
  obtain ⟨V1, VS1, rfl, hV1, hst2⟩ := hst1.inv
  obtain ⟨V2, VS2, rfl, hV2, hst3⟩ := hst2.inv
  have hsr := hst3
  cases hV0
  cases hV1
  obtain ⟨a, e9, rfl, hwr, hc9⟩ := m_ref hW ho hV2
  obtain rfl := m_c_z hc9
  exact va_zast hx hb hK hP hD hS r 1 hwr rfl hin hd (fun H9 locs9 hP9 hD9 hS9 => kk p e R s m args below meth c A al0 H9 locs9 cells slots CT ST _ _ _ _ hF hSt hsc hR h1 h2 h3 h4 hA hK hP9 hD9 hS9 (hW.set hwr (by rw [hz]; rfl)) (by rw [m_al_set hwr]; exact hal) hls (by rw [m_al_set hwr]; exact hlv) (by rw [m_al_set hwr]; exact hsr))
theorem e_aaload {g : MG} {sc : MS} {M : MM} {d w pc : Nat} {lv : ML} {st : List MV} {h : List MC} {mc ms : Nat} {Q : MO → List MC → Prop} {r ci n : Nat} {f : Nat → Option Nat} {i : Int32} (hd : decode M.2.1 pc = .ok (.aaload, 1)) (hoa : m_oa ci) (ho : h[r]? = some (cR ci n f)) (hin : vp_in i n) (kk : Ev g sc M d w (pc + 1) lv (.inr (.inr (.inl (f i.toNatClampNeg))) :: st) h mc ms Q) : Ev g sc M d w pc lv (mi i :: mr r :: st) h mc ms Q := by
  intro p e R s m args below meth c A al0 H locs cells slots CT ST ls ws LV VS hF hSt hsc hR h1 h2 h3 h4 hA hK hP hD hS hW hal hls hlv hst
  obtain ⟨hx, hb, hr, hlk, hml, hown, hts, hnm, htb⟩ := id hF
  obtain ⟨V0, VS0, rfl, hV0, hst1⟩ := hst.inv
  obtain ⟨V1, VS1, rfl, hV1, hst2⟩ := hst1.inv
  have hsr := hst2
  cases hV0
  obtain ⟨a, e9, rfl, hwr, hc9⟩ := m_ref hW ho hV1
  obtain ⟨F, rfl, hF9⟩ := m_c_r hc9
  obtain ⟨t0, q9, ht0, hq9⟩ := hoa g.2.2
  exact va_aldq hx hb hK hP r t0 hwr ht0 hin hd (kk p e R s m args below meth c A al0 H locs cells slots CT ST _ _ _ _ hF hSt hsc hR h1 h2 h3 h4 hA hK hP hD hS hW hal hls hlv (m_vs.cons (m_v_rf (hF9 _)) hsr))
theorem e_aastore {g : MG} {sc : MS} {M : MM} {d w pc : Nat} {lv : ML} {st : List MV} {h : List MC} {mc ms : Nat} {Q : MO → List MC → Prop} {r ci n v : Nat} {f : Nat → Option Nat} {vs : List MV} {i : Int32} (hd : decode M.2.1 pc = .ok (.aastore, 1)) (hoa : m_oa ci) (ho : h[r]? = some (cR ci n f)) (hv : h[v]? = some (cO ci vs)) (hin : vp_in i n) (kk : Ev g sc M d w (pc + 1) lv st (h.set r (cR ci n (va_up f i.toNatClampNeg (some v)))) mc ms Q) : Ev g sc M d w pc lv (mr v :: mi i :: mr r :: st) h mc ms Q := by
  intro p e R s m args below meth c A al0 H locs cells slots CT ST ls ws LV VS hF hSt hsc hR h1 h2 h3 h4 hA hK hP hD hS hW hal hls hlv hst
  obtain ⟨hx, hb, hr, hlk, hml, hown, hts, hnm, htb⟩ := id hF
  obtain ⟨V0, VS0, rfl, hV0, hst1⟩ := hst.inv
  obtain ⟨V1, VS1, rfl, hV1, hst2⟩ := hst1.inv
  obtain ⟨V2, VS2, rfl, hV2, hst3⟩ := hst2.inv
  have hsr := hst3
  cases hV1
  obtain ⟨a, e9, rfl, hwr, hc9⟩ := m_ref hW ho hV2
  obtain ⟨F, rfl, hF9⟩ := m_c_r hc9
  obtain ⟨a2, e2, rfl, hwv, hc2⟩ := m_ref hW hv hV0
  obtain ⟨FS, rfl, hfs⟩ := m_c_o hc2
  obtain ⟨t0, q9, ht0, hq9⟩ := hoa g.2.2
  exact va_astq hx hb hK hP hD hS r t0 v ci hwr ht0 hwv hq9 hin hd (fun H9 locs9 hP9 hD9 hS9 => kk p e R s m args below meth c A al0 H9 locs9 cells slots CT ST _ _ _ _ hF hSt hsc hR h1 h2 h3 h4 hA hK hP9 hD9 hS9 (hW.set hwr ⟨_, rfl, m_rf_up hF9 (m_al_at hwv)⟩) (by rw [m_al_set hwr]; exact hal) hls (by rw [m_al_set hwr]; exact hlv) (by rw [m_al_set hwr]; exact hsr))
theorem e_alenI {g : MG} {sc : MS} {M : MM} {d w pc : Nat} {lv : ML} {st : List MV} {h : List MC} {mc ms : Nat} {Q : MO → List MC → Prop} {r n : Nat} {f : Nat → Int32} (hd : decode M.2.1 pc = .ok (.arraylength, 1)) (ho : h[r]? = some (cI n f)) (kk : Ev g sc M d w (pc + 1) lv (mi (Int32.ofNat n) :: st) h mc ms Q) : Ev g sc M d w pc lv (mr r :: st) h mc ms Q := by
  intro p e R s m args below meth c A al0 H locs cells slots CT ST ls ws LV VS hF hSt hsc hR h1 h2 h3 h4 hA hK hP hD hS hW hal hls hlv hst
  obtain ⟨hx, hb, hr, hlk, hml, hown, hts, hnm, htb⟩ := id hF
  obtain ⟨V0, VS0, rfl, hV0, hst1⟩ := hst.inv
  have hsr := hst1
  obtain ⟨a, e9, rfl, hwr, hc9⟩ := m_ref hW ho hV0
  obtain rfl := m_c_i hc9
  exact va_alen hx hb hK hP r 0 hwr rfl rfl hd (kk p e R s m args below meth c A al0 H locs cells slots CT ST _ _ _ _ hF hSt hsc hR h1 h2 h3 h4 hA hK hP hD hS hW hal hls hlv (m_vs.cons rfl hsr))
theorem e_alenL {g : MG} {sc : MS} {M : MM} {d w pc : Nat} {lv : ML} {st : List MV} {h : List MC} {mc ms : Nat} {Q : MO → List MC → Prop} {r n : Nat} {f : Nat → Int64} (hd : decode M.2.1 pc = .ok (.arraylength, 1)) (ho : h[r]? = some (cL n f)) (kk : Ev g sc M d w (pc + 1) lv (mi (Int32.ofNat n) :: st) h mc ms Q) : Ev g sc M d w pc lv (mr r :: st) h mc ms Q := by
  intro p e R s m args below meth c A al0 H locs cells slots CT ST ls ws LV VS hF hSt hsc hR h1 h2 h3 h4 hA hK hP hD hS hW hal hls hlv hst
  obtain ⟨hx, hb, hr, hlk, hml, hown, hts, hnm, htb⟩ := id hF
  obtain ⟨V0, VS0, rfl, hV0, hst1⟩ := hst.inv
  have hsr := hst1
  obtain ⟨a, e9, rfl, hwr, hc9⟩ := m_ref hW ho hV0
  obtain rfl := m_c_l hc9
  exact va_alen hx hb hK hP r 2 hwr rfl rfl hd (kk p e R s m args below meth c A al0 H locs cells slots CT ST _ _ _ _ hF hSt hsc hR h1 h2 h3 h4 hA hK hP hD hS hW hal hls hlv (m_vs.cons rfl hsr))
theorem e_alenR {g : MG} {sc : MS} {M : MM} {d w pc : Nat} {lv : ML} {st : List MV} {h : List MC} {mc ms : Nat} {Q : MO → List MC → Prop} {r ci n : Nat} {f : Nat → Option Nat} (hd : decode M.2.1 pc = .ok (.arraylength, 1)) (hoa : m_oa ci) (ho : h[r]? = some (cR ci n f)) (kk : Ev g sc M d w (pc + 1) lv (mi (Int32.ofNat n) :: st) h mc ms Q) : Ev g sc M d w pc lv (mr r :: st) h mc ms Q := by
  intro p e R s m args below meth c A al0 H locs cells slots CT ST ls ws LV VS hF hSt hsc hR h1 h2 h3 h4 hA hK hP hD hS hW hal hls hlv hst
  obtain ⟨hx, hb, hr, hlk, hml, hown, hts, hnm, htb⟩ := id hF
  obtain ⟨V0, VS0, rfl, hV0, hst1⟩ := hst.inv
  have hsr := hst1
  obtain ⟨a, e9, rfl, hwr, hc9⟩ := m_ref hW ho hV0
  obtain ⟨F, rfl, hF9⟩ := m_c_r hc9
  obtain ⟨t0, q9, ht0, hq9⟩ := hoa g.2.2
  exact va_alen hx hb hK hP r t0 hwr ht0 rfl hd (kk p e R s m args below meth c A al0 H locs cells slots CT ST _ _ _ _ hF hSt hsc hR h1 h2 h3 h4 hA hK hP hD hS hW hal hls hlv (m_vs.cons rfl hsr))
theorem e_siaload {g : MG} {sc : MS} {M : MM} {d w pc : Nat} {lv : ML} {st : List MV} {h : List MC} {mc ms : Nat} {Q : MO → List MC → Prop} {b L : Nat} {xs : Nat → Int32} {i : Int32} (hd : decode M.2.1 pc = .ok (.iaload, 1)) (hs : sc = some (b, L, xs)) (hin : vp_in i L) (kk : Ev g sc M d w (pc + 1) lv (mi (xs i.toNatClampNeg) :: st) h mc ms Q) : Ev g sc M d w pc lv (mi i :: msc :: st) h mc ms Q := by
  intro p e R s m args below meth c A al0 H locs cells slots CT ST ls ws LV VS hF hSt hsc hR h1 h2 h3 h4 hA hK hP hD hS hW hal hls hlv hst
  obtain ⟨hx, hb, hr, hlk, hml, hown, hts, hnm, htb⟩ := id hF
  obtain ⟨V0, VS0, rfl, hV0, hst1⟩ := hst.inv
  obtain ⟨V1, VS1, rfl, hV1, hst2⟩ := hst1.inv
  have hsr := hst2
  cases hV0
  obtain ⟨hX, hbl, hbA⟩ := hsc _ hs
  rw [hs] at hV1
  cases hV1
  exact va_sld hx hb hX hbl hbA hS hin hd (kk p e R s m args below meth c A al0 H locs cells slots CT ST _ _ _ _ hF hSt hsc hR h1 h2 h3 h4 hA hK hP hD hS hW hal hls hlv (m_vs.cons rfl hsr))
theorem e_slen {g : MG} {sc : MS} {M : MM} {d w pc : Nat} {lv : ML} {st : List MV} {h : List MC} {mc ms : Nat} {Q : MO → List MC → Prop} {b L : Nat} {xs : Nat → Int32} (hd : decode M.2.1 pc = .ok (.arraylength, 1)) (hs : sc = some (b, L, xs)) (kk : Ev g sc M d w (pc + 1) lv (mi (Int32.ofNat L) :: st) h mc ms Q) : Ev g sc M d w pc lv (msc :: st) h mc ms Q := by
  intro p e R s m args below meth c A al0 H locs cells slots CT ST ls ws LV VS hF hSt hsc hR h1 h2 h3 h4 hA hK hP hD hS hW hal hls hlv hst
  obtain ⟨hx, hb, hr, hlk, hml, hown, hts, hnm, htb⟩ := id hF
  obtain ⟨V0, VS0, rfl, hV0, hst1⟩ := hst.inv
  have hsr := hst1
  obtain ⟨hX, hbl, hbA⟩ := hsc _ hs
  rw [hs] at hV0
  cases hV0
  exact va_slen hx hb hX hbl hbA hS hd (kk p e R s m args below meth c A al0 H locs cells slots CT ST _ _ _ _ hF hSt hsc hR h1 h2 h3 h4 hA hK hP hD hS hW hal hls hlv (m_vs.cons rfl hsr))
theorem e_ireturn {g : MG} {sc : MS} {M : MM} {d w pc : Nat} {lv : ML} {h : List MC} {mc ms : Nat} {Q : MO → List MC → Prop} {x : Int32} {ty : FieldType} (hd : decode M.2.1 pc = .ok (.ireturn, 1)) (hret : M.2.2.2.1 = some ty) (hn : narrow ty (.int x) = .int x) (kk : Q (.inl (some (mi x))) h) : Ev g sc M d w pc lv ([mi x]) h mc ms Q := by
  intro p e R s m args below meth c A al0 H locs cells slots CT ST ls ws LV VS hF hSt hsc hR h1 h2 h3 h4 hA hK hP hD hS hW hal hls hlv hst
  obtain ⟨hx, hb, hr, hlk, hml, hown, hts, hnm, htb⟩ := id hF
  obtain ⟨V0, VS0, rfl, hV0, hst1⟩ := hst.inv
  have hsr := hst1
  cases hV0
  obtain rfl := hsr.inv0
  refine W.widen (k := CT) (n := ST) (by omega) (by omega) ?_
  exact m_ret (r := some (mi x)) (m_vs.cons rfl m_vs.nil) kk hW hP hK hD hal hS (W.zret hx hb (hr.trans hret) hn (fun t ht hW9 => ⟨rfl, ht⟩) hS.2.2 hd hlk)
theorem e_return {g : MG} {sc : MS} {M : MM} {d w pc : Nat} {lv : ML} {h : List MC} {mc ms : Nat} {Q : MO → List MC → Prop} (hd : decode M.2.1 pc = .ok (.return_, 1)) (hret : M.2.2.2.1 = none) (kk : Q (.inl none) h) : Ev g sc M d w pc lv ([]) h mc ms Q := by
  intro p e R s m args below meth c A al0 H locs cells slots CT ST ls ws LV VS hF hSt hsc hR h1 h2 h3 h4 hA hK hP hD hS hW hal hls hlv hst
  obtain ⟨hx, hb, hr, hlk, hml, hown, hts, hnm, htb⟩ := id hF
  obtain rfl := hst.inv0
  refine W.widen (k := CT) (n := ST) (by omega) (by omega) ?_
  exact m_ret (r := none) m_vs.nil kk hW hP hK hD hal hS (W.vret hx hb (hr.trans hret) (fun t ht hW9 => ⟨rfl, ht⟩) hS.2.2 hd hlk)
theorem e_areturn {g : MG} {sc : MS} {M : MM} {d w pc : Nat} {lv : ML} {h : List MC} {mc ms : Nat} {Q : MO → List MC → Prop} {r : Option Nat} {rt : FieldType} (hd : decode M.2.1 pc = .ok (.areturn, 1)) (hret : M.2.2.2.1 = some rt) (hrt : (∃ n, rt = .object n) ∨ ∃ t, rt = .array t) (kk : Q (.inl (some (.inr (.inr (.inl r))))) h) : Ev g sc M d w pc lv ([.inr (.inr (.inl r))]) h mc ms Q := by
  intro p e R s m args below meth c A al0 H locs cells slots CT ST ls ws LV VS hF hSt hsc hR h1 h2 h3 h4 hA hK hP hD hS hW hal hls hlv hst
  obtain ⟨hx, hb, hr, hlk, hml, hown, hts, hnm, htb⟩ := id hF
  obtain ⟨V0, VS0, rfl, hV0, hst1⟩ := hst.inv
  have hsr := hst1
  obtain rfl := hsr.inv0
  have hv9 := m_v_ref hV0
  have hV9 : m_v (m_al ws) none (.inr (.inr (.inl r))) = some V0 := m_v_none (by cases r <;> rfl) hV0
  refine W.widen (k := CT) (n := ST) (by omega) (by omega) ?_
  exact m_ret (r := some (.inr (.inr (.inl r)))) (m_vs.cons hV9 m_vs.nil) kk hW hP hK hD hal hS (W.aret hx hb (hr.trans hret) hrt hv9 (fun t ht hW9 => ⟨rfl, ht⟩) hS.2.2 hd hlk)
end
section
/-- a class may be made: its fields at their beginning -/
def m_nw (own : String) (i ci : Nat) (fs : List MV) (N : Nat) : Prop := ∃ (C : String) (T : u_T) (ty : Nat → FieldType) (FS : List Value), m_cl[ci]? = some (C, T, N) ∧ (∀ w ∈ u_ws C T N, w ∈ m_Ts) ∧ (∀ k, k < N → parseFieldDescriptor (T k).2.2.1 = some (ty k)) ∧ Cond.classLink own i C ∈ m_Ts ∧ Cond.instantiable C N ∈ m_Ts ∧ Cond.initialized C ∈ m_Ts ∧ (∀ j, j < N → defaultValue (ty j) = vp_V FS j) ∧ m_vs [] none fs FS
theorem m_le_nil (al : List Nat) : m_le [] al := ⟨al, rfl⟩
theorem e_new {g : MG} {sc : MS} {M : MM} {d w pc : Nat} {lv : ML} {st : List MV} {h : List MC} {mc ms : Nat} {Q : MO → List MC → Prop} {i ci N : Nat} {fs : List MV} (hd : decode M.2.1 pc = .ok (.new i, 3)) (hw : m_nw M.1.cls i ci fs N) (kk : Ev g sc M d w (pc + 3) lv (mr h.length :: st) (h ++ [cO ci fs]) mc ms Q) : Ev g sc M d w pc lv st h (mc + 1) (ms + N) Q := by
  intro p e R s m args below meth c A al0 H locs cells slots CT ST ls ws LV VS hF hSt hsc hR h1 h2 h3 h4 hA hK hP hD hS hW hal hls hlv hst
  obtain ⟨hx, hb, hr, hlk, hml, hown, hts, hnm, htb⟩ := id hF
  obtain ⟨C, T, ty, FS, hc, hin, hty, hcl, hinst, hini, hfs, hvs⟩ := hw
  refine va_new hx hb hts hin ty hty hown (hts _ hcl) (hts _ hinst) (hts _ hini) hK hP hD hS hA hc hfs (by omega) (by omega) hd (fun q H9 hP9 hD9 hS9 => ?_)
  have hle := m_le_push ws q (.inr (ci, FS))
  exact kk p e R s m args below meth c A al0 H9 locs (cells + 1) (slots + N) CT ST _ _ _ _ hF hSt hsc hR (by omega) (by omega) h3 h4 hA hK hP9 hD9 hS9 (hW.push ⟨FS, rfl, hvs.le (m_le_nil _)⟩) (hal.tr hle) hls (hlv.le hle) (m_vs.cons (by simp only [m_v, m_al_new hW, Option.map_some]) (hst.le hle))
theorem m_ac {D : va_G} {cl : List vw_C} {tys : List (ClassId × FieldType)} {s : State} {a b : ClassId} {ty : FieldType} (hty : ty = .int ∨ ty = .long ∨ ty = .boolean ∨ ∃ C, ty = .object C) (h1 : va_K D cl tys s) {t0 : Nat} (ht : tys[t0]? = some (a, ty)) (h2 : va_K D cl (tys ++ [(b, ty)]) s) : b = a := by
  have e1 := (h1.2 t0 _ ht).2
  have e2 := (h2.2 tys.length (b, ty) (by simp)).2
  rcases hty with rfl | rfl | rfl | ⟨C, rfl⟩
  · exact Option.some.inj (Eq.trans (Eq.symm e2) e1)
  · exact Option.some.inj (Eq.trans (Eq.symm e2) e1)
  · exact Option.some.inj (Eq.trans (Eq.symm e2) e1)
  · obtain ⟨_, _, _, _, _, e3⟩ := e1
    obtain ⟨_, _, _, _, _, e4⟩ := e2
    exact Option.some.inj (e4.symm.trans e3)
theorem e_newI {g : MG} {sc : MS} {M : MM} {d w pc : Nat} {lv : ML} {st : List MV} {h : List MC} {mc ms : Nat} {Q : MO → List MC → Prop} {n : Int32} {N : Nat} (hd : decode M.2.1 pc = .ok (.newarray .int, 2)) (hn : ¬ n < 0) (hN : n.toNatClampNeg = N) (hb9 : N ≤ 1000000) (kk : Ev g sc M d w (pc + 2) lv (mr h.length :: st) (h ++ [cI N (fun _ => 0)]) mc ms Q) : Ev g sc M d w pc lv (mi n :: st) h (mc + 1) (ms + N) Q := by
  intro p e R s m args below meth c A al0 H locs cells slots CT ST ls ws LV VS hF hSt hsc hR h1 h2 h3 h4 hA hK hP hD hS hW hal hls hlv hst
  obtain ⟨hx, hb, hr, hlk, hml, hown, hts, hnm, htb⟩ := id hF
  obtain ⟨V0, VS0, rfl, hV0, hst1⟩ := hst.inv
  have hsr := hst1
  cases hV0
  refine va_newa (atype := .int) (ty := .int) (a0 := (N, .inl (fun _ => 0))) hx hb (hts _ m_Ts_int) rfl hK hP hD hS hA (fun cA => rfl) hn hN (by show N * 4 ≤ _; omega) (by omega) (by omega) hd (fun q cA H9 hK9 hP9 hD9 hS9 => ?_)
  obtain rfl : cA = g.2.2 0 := m_ac (Or.inl rfl) hK (t0 := 0) rfl hK9
  have hle := m_le_push ws q (.inl (g.2.2 0, N, .inl (fun _ => (0 : Int32))))
  exact kk p e R s m args below meth c A al0 H9 locs (cells + 1) (slots + N) CT ST _ _ _ _ hF hSt hsc hR (by omega) (by omega) h3 h4 hA hK hP9 hD9 hS9 (hW.push rfl) (hal.tr hle) hls (hlv.le hle) (m_vs.cons (by simp only [m_v, m_al_new hW, Option.map_some]) (hsr.le hle))
theorem e_newL {g : MG} {sc : MS} {M : MM} {d w pc : Nat} {lv : ML} {st : List MV} {h : List MC} {mc ms : Nat} {Q : MO → List MC → Prop} {n : Int32} {N : Nat} (hd : decode M.2.1 pc = .ok (.newarray .long, 2)) (hn : ¬ n < 0) (hN : n.toNatClampNeg = N) (hb9 : N ≤ 1000000) (kk : Ev g sc M d w (pc + 2) lv (mr h.length :: st) (h ++ [cL N (fun _ => 0)]) mc ms Q) : Ev g sc M d w pc lv (mi n :: st) h (mc + 1) (ms + N) Q := by
  intro p e R s m args below meth c A al0 H locs cells slots CT ST ls ws LV VS hF hSt hsc hR h1 h2 h3 h4 hA hK hP hD hS hW hal hls hlv hst
  obtain ⟨hx, hb, hr, hlk, hml, hown, hts, hnm, htb⟩ := id hF
  obtain ⟨V0, VS0, rfl, hV0, hst1⟩ := hst.inv
  have hsr := hst1
  cases hV0
  refine va_newa (atype := .long) (ty := .long) (a0 := (N, .inr (.inl (fun _ => 0)))) hx hb (hts _ m_Ts_long) rfl hK hP hD hS hA (fun cA => rfl) hn hN (by show N * 8 ≤ _; omega) (by omega) (by omega) hd (fun q cA H9 hK9 hP9 hD9 hS9 => ?_)
  obtain rfl : cA = g.2.2 2 := m_ac (Or.inr (Or.inl rfl)) hK (t0 := 2) rfl hK9
  have hle := m_le_push ws q (.inl (g.2.2 2, N, .inr (.inl (fun _ => (0 : Int64)))))
  exact kk p e R s m args below meth c A al0 H9 locs (cells + 1) (slots + N) CT ST _ _ _ _ hF hSt hsc hR (by omega) (by omega) h3 h4 hA hK hP9 hD9 hS9 (hW.push rfl) (hal.tr hle) hls (hlv.le hle) (m_vs.cons (by simp only [m_v, m_al_new hW, Option.map_some]) (hsr.le hle))
theorem e_newZ {g : MG} {sc : MS} {M : MM} {d w pc : Nat} {lv : ML} {st : List MV} {h : List MC} {mc ms : Nat} {Q : MO → List MC → Prop} {n : Int32} {N : Nat} (hd : decode M.2.1 pc = .ok (.newarray .boolean, 2)) (hn : ¬ n < 0) (hN : n.toNatClampNeg = N) (hb9 : N ≤ 1000000) (kk : Ev g sc M d w (pc + 2) lv (mr h.length :: st) (h ++ [cZ N (fun _ => 0)]) mc ms Q) : Ev g sc M d w pc lv (mi n :: st) h (mc + 1) (ms + N) Q := by
  intro p e R s m args below meth c A al0 H locs cells slots CT ST ls ws LV VS hF hSt hsc hR h1 h2 h3 h4 hA hK hP hD hS hW hal hls hlv hst
  obtain ⟨hx, hb, hr, hlk, hml, hown, hts, hnm, htb⟩ := id hF
  obtain ⟨V0, VS0, rfl, hV0, hst1⟩ := hst.inv
  have hsr := hst1
  cases hV0
  refine va_newa (atype := .boolean) (ty := .boolean) (a0 := (N, .inl (fun _ => 0))) hx hb (hts _ m_Ts_bool) rfl hK hP hD hS hA (fun cA => rfl) hn hN (by show N * 1 ≤ _; omega) (by omega) (by omega) hd (fun q cA H9 hK9 hP9 hD9 hS9 => ?_)
  obtain rfl : cA = g.2.2 1 := m_ac (Or.inr (Or.inr (Or.inl rfl))) hK (t0 := 1) rfl hK9
  have hle := m_le_push ws q (.inl (g.2.2 1, N, .inl (fun _ => (0 : Int32))))
  exact kk p e R s m args below meth c A al0 H9 locs (cells + 1) (slots + N) CT ST _ _ _ _ hF hSt hsc hR (by omega) (by omega) h3 h4 hA hK hP9 hD9 hS9 (hW.push rfl) (hal.tr hle) hls (hlv.le hle) (m_vs.cons (by simp only [m_v, m_al_new hW, Option.map_some]) (hsr.le hle))
theorem e_newR {g : MG} {sc : MS} {M : MM} {d w pc : Nat} {lv : ML} {st : List MV} {h : List MC} {mc ms : Nat} {Q : MO → List MC → Prop} {i ci : Nat} {n : Int32} {N : Nat} {q : vw_C} (hd : decode M.2.1 pc = .ok (.anewarray i, 3)) (hoa : m_oa ci) (hq : m_cl[ci]? = some q) (hcl : Cond.classLink M.1.cls i q.1 ∈ m_Ts) (hao : q.1 ∈ m_aos) (hn : ¬ n < 0) (hN : n.toNatClampNeg = N) (hb9 : N ≤ 1000000) (kk : Ev g sc M d w (pc + 3) lv (mr h.length :: st) (h ++ [cR ci N (fun _ => none)]) mc ms Q) : Ev g sc M d w pc lv (mi n :: st) h (mc + 1) (ms + N) Q := by
  intro p e R s m args below meth c A al0 H locs cells slots CT ST ls ws LV VS hF hSt hsc hR h1 h2 h3 h4 hA hK hP hD hS hW hal hls hlv hst
  obtain ⟨hx, hb, hr, hlk, hml, hown, hts, hnm, htb⟩ := id hF
  obtain ⟨V0, VS0, rfl, hV0, hst1⟩ := hst.inv
  have hsr := hst1
  cases hV0
  obtain ⟨t0, q9, ht0, hq9⟩ := hoa g.2.2
  cases Option.some.inj (hq.symm.trans hq9)
  refine va_newq hx hb hown (hts _ hcl) (hSt.2.2.2.2.2.1 _ hao) hK hP hD hS hA hn hN (by omega) (by omega) (by omega) hd (fun a cA H9 hK9 hP9 hD9 hS9 => ?_)
  obtain rfl : cA = g.2.2 (3 + ci) := m_ac (Or.inr (Or.inr (Or.inr ⟨_, rfl⟩))) hK ht0 hK9
  have hle := m_le_push ws a (.inl (g.2.2 (3 + ci), N, .inr (.inr (.inr (.inr (fun _ => none))))))
  exact kk p e R s m args below meth c A al0 H9 locs (cells + 1) (slots + N) CT ST _ _ _ _ hF hSt hsc hR (by omega) (by omega) h3 h4 hA hK hP9 hD9 hS9 (hW.push ⟨_, rfl, fun _ => rfl⟩) (hal.tr hle) hls (hlv.le hle) (m_vs.cons (by simp only [m_v, m_al_new hW, Option.map_some]) (hsr.le hle))
end
section
/-! CALLS: an instruction that invokes y with AV comes to y's entry (m_Iv); y's contract is a free theorem whose end is m_E: by return or by throw; behind it the caller's frame goes on, or the thrown thing lies over it. -/
def m_Iv (p : Program) (l : Launch) (e : Env) (R : Room) (s : State) (m : MethodId) (args : Array Value) (below : List Frame) (meth : Method) (c : Code) (H : Heap) (locs : List Loc) (cells slots : Nat) (fr : JFrame) (rest : List Value) (y : MethodName) (AV : List Value) : Prop :=
  ∀ T : State, T.heap = H → Stand p l e R s m args below meth c T locs cells slots → ∃ (vm₁ : Vm) (mk : MethodId), Stand p l e R s m args below meth c (T.setVm vm₁) locs cells slots ∧ s.methodNamed? y = some mk ∧
    ∀ target, (∀ acts, Steps p.tables e below (doInvoke e ((T.setVm vm₁).setTop { fr with stack := rest }) acts mk AV.toArray).1 target) → Steps p.tables e below (T.setTop fr) target
section IV
variable {p : Program} {l : Launch} {e : Env} {R : Room} {s : State} {m : MethodId} {args : Array Value} {below : List Frame} {meth : Method} {c : Code} {H : Heap} {locs : List Loc} {cells slots : Nat} {fr : JFrame} {rest As : List Value} {y : MethodName} {own host : String} {i n : Nat} {b : Addr}
theorem m_ivV (hx : p.tables.exec = Jvm.exec) (hown : s.vm.findClass own = some m.cls) (hl : (Cond.methodLink own i y).before args s = true ∨ (Cond.methodLinkNest own i y host).before args s = true) (hin : (Cond.instanceMethod y).before args s = true) (hse : (Cond.selects y.cls y y).before args s = true)
    (hy : y.cls ≠ "java/lang/invoke/MethodHandle" ∧ y.cls ≠ "java/lang/invoke/VarHandle") (hsig : ∀ mk meth9, s.methodNamed? y = some mk → s.vm.method? mk = some meth9 → As.length = meth9.sig.parameters.length)
    (hrc : ∃ cell : Cell, H[b]? = some cell ∧ cell.vm.isStatics = false ∧ s.vm.findClass y.cls = some cell.cls) (hg : fr.method = m) (hst : fr.stack = As.reverse ++ .ref b :: rest) (hd : decode c.code fr.pc = .ok (.invokevirtual i, 3)) :
    m_Iv p l e R s m args below meth c H locs cells slots fr rest y (.ref b :: As) := by
  intro T hT X
  obtain ⟨mk, methM, hnamed, hmethM, hstM, habM⟩ := Cond.instanceMethod_spec hin
  obtain ⟨cell, hcB, hoB, hclB⟩ := hrc
  obtain ⟨c2, r2, m2, q1, q2, q3, q4, kP, hkP, hkPi⟩ := Cond.selects_spec hse
  cases hclB.symm.trans q1
  cases (State.methodFound?_of_named hnamed hy).symm.trans q2
  cases hnamed.symm.trans q3
  have hsel : selectMethod e.platform s.vm cell.cls mk = .method mk := by rw [Launch.admits_selectMethod X.admits]; exact q4
  have hcell : T.heap[b]? = some cell := by rw [hT]; exact hcB
  have hobj : ∀ z, cell.vm ≠ .statics z := fun z h => by rw [h] at hoB; cases hoB
  rcases hl with hl | hl
  · obtain ⟨vm₁, X₁, st⟩ := X.invokevirtual hx hown hl hnamed hmethM hstM hkP hkPi hy hcell hobj hsel hmethM habM hkP hkPi hg (hsig mk methM hnamed hmethM) hst hd
    exact ⟨vm₁, mk, X₁, hnamed, st⟩
  · obtain ⟨vm₁, X₁, st⟩ := X.invokevirtualNest hx hown hl hnamed hmethM hstM hkP hkPi hy hcell hobj hsel hmethM habM hkP hkPi hg (hsig mk methM hnamed hmethM) hst hd
    exact ⟨vm₁, mk, X₁, hnamed, st⟩
theorem m_ivS (hx : p.tables.exec = Jvm.exec) (hown : s.vm.findClass own = some m.cls) (hl : (Cond.methodLink own i y).before args s = true ∨ (Cond.methodLinkNest own i y host).before args s = true) (hstt : (Cond.static y).before args s = true) (hini : (Cond.initialized y.cls).before args s = true)
    (hy : y.cls ≠ "java/lang/invoke/MethodHandle" ∧ y.cls ≠ "java/lang/invoke/VarHandle") {mk : MethodId} {methM : Method} (hnamed : s.methodNamed? y = some mk) (hmethM : s.vm.method? mk = some methM) (hsig : As.length = methM.sig.parameters.length)
    (hg : fr.method = m) (hst : fr.stack = As.reverse ++ rest) (hd : decode c.code fr.pc = .ok (.invokestatic i, 3)) :
    m_Iv p l e R s m args below meth c H locs cells slots fr rest y As := by
  intro T hT X
  have hstatic : methM.isStatic = true := Cond.static_spec hnamed hmethM hstt
  obtain ⟨kP, hkP, -⟩ := className_of_methodNamed hnamed
  have hinitP : kP.init = .initialized := Cond.initialized_spec (findClass_of_methodNamed hnamed) hkP hini
  rcases hl with hl | hl
  · obtain ⟨vm₁, X₁, st⟩ := X.invokestatic hx hown hl hnamed hmethM hstatic hkP hinitP hy hg hsig hst hd
    exact ⟨vm₁, mk, X₁, hnamed, st⟩
  · obtain ⟨vm₁, X₁, st⟩ := X.invokestaticNest hx hown hl hnamed hmethM hstatic hkP hinitP hy hg hsig hst hd
    exact ⟨vm₁, mk, X₁, hnamed, st⟩
theorem m_ivI {bytes : ByteArray} {maxL : Nat} (hx : p.tables.exec = Jvm.exec) (hown : s.vm.findClass own = some m.cls) (hl : (Cond.methodLink own i y).before args s = true ∨ (Cond.methodLinkNest own i y host).before args s = true) (hin : (Cond.instanceMethod y).before args s = true) (hnm : y.name = "<init>") (hcode : (Cond.code y bytes maxL none).before args s = true)
    (hy : y.cls ≠ "java/lang/invoke/MethodHandle" ∧ y.cls ≠ "java/lang/invoke/VarHandle") (hlen : ∀ sig, parseMethodDescriptor y.desc = some sig → As.length = sig.parameters.length)
    (hg : fr.method = m) (hst : fr.stack = As.reverse ++ .ref b :: rest) (hd : decode c.code fr.pc = .ok (.invokespecial i, 3)) :
    m_Iv p l e R s m args below meth c H locs cells slots fr rest y (.ref b :: As) := by
  intro T hT X
  have hpl : e.platform.magicAccessors = ({} : Platform).magicAccessors := by rw [X.admits.platform]
  subst hg
  rcases hl with hl | hl
  · obtain ⟨mk, methM, cM, kP, vm₁, hnamed, -, -, -, -, -, -, -, hW₁, st⟩ := Steps.initColdArgs (e := e) X.here hx X.warmed hpl hown hnm hy hl hin hcode (f := fr) rfl hlen hst hd
    exact ⟨vm₁, mk, X.noted hW₁, hnamed, st⟩
  · obtain ⟨mk, methM, cM, kP, vm₁, hnamed, -, -, -, -, -, -, -, hW₁, st⟩ := Steps.initColdArgsNest (e := e) X.here hx X.warmed hpl hown hnm hy hl hin hcode (f := fr) rfl hlen hst hd
    exact ⟨vm₁, mk, X.noted hW₁, hnamed, st⟩
end IV
/-- an object of some class lies thrown over the frame fr -/
def m_X (p : Program) (l : Launch) (e : Env) (R : Room) (s : State) (m : MethodId) (args : Array Value) (below : List Frame) (meth : Method) (c : Code) (H : Heap) (locs : List Loc) (cells slots : Nat) (Z : State → Prop) (fr : JFrame) (q : Addr) : Prop :=
  ∀ T : State, T.heap = H → Stand p l e R s m args below meth c T locs cells slots → ∃ t, Steps p.tables e below ((T.setTop fr).pushFrame (.throwing q)) t ∧ Z t
/-- a method's contract: whatever stands below, from what 'm_Pc' says it ends by m_E -/
def m_Ct (g : MG) (y : MethodName) (wl : List Cond) (rm : Room) (Q : MO → List MC → Prop) (ws : va_W) (AV : List Value) (sz : Nat) (Pc : State → Prop) : Prop :=
  Jvm.Free.MetFree g.1 y (headSpec wl rm) (fun a U => a = AV.toArray ∧ Pc U) (fun _ _ _ _ _ => True) (fun _ st o t => m_E g Q (m_al ws) (va_A ws sz) rm.cells rm.slots st o t)
theorem m_Ct.go {g : MG} {y : MethodName} {wl : List Cond} {rm : Room} {Q9 : MO → List MC → Prop} {ws : va_W} {AV : List Value} {Pc : State → Prop} {p : Program} {e : Env} {R : Room} {s : State} {m : MethodId} {args : Array Value} {below : List Frame} {meth : Method} {c : Code} {A : Nat → Prop} {H : Heap} {locs : List Loc} {cells slots pc : Nat} {ls : Array Slot} {st0 rest : List Value} {ig : Instr} {Z : State → Prop} {maxL : Nat}
    (hM : m_Ct g y wl rm Q9 ws AV H.size Pc) (hI : m_Iv p g.1 e R s m args below meth c H locs cells slots (F0 m pc ls st0) rest y AV)
    (hwl : ∀ w ∈ wl, ∀ (a' : Array Value) (U : State), s.WarmedH U.vm → w.before a' U = true) (hini : (Cond.initialized y.cls).before args s = true)
    (hcd : ∀ (mk : MethodId) (U : State), s.WarmedH U.vm → U.methodNamed? y = some mk → ∃ (methY : Method) (cY : Code), U.vm.method? mk = some methY ∧ methY.code = some cY ∧ cY.maxLocals = maxL)
    (hfr : rm.frames + 1 ≤ R.frames) (hlo : 8 + (maxL + 11) + rm.locals ≤ R.locals) (hce : cells + rm.cells ≤ R.cells) (hsl : slots + rm.slots ≤ R.slots) (h8 : (rest.map fun v => v.category).sum ≤ 8) (hsz : ls.size = c.maxLocals) (hd : decode c.code pc = .ok (ig, 3))
    (hPc : ∀ U : State, U.heap = H → s.WarmedH U.vm → Pc U)
    (hA : ∀ q, s.heap.size ≤ q → A q) (hD : va_D A ws) (hS : va_S A s.heap H locs)
    (kr : ∀ (r : Option MV) (V : Option Value) (h1 : List MC) (ws1 : va_W) (H1 : Heap) (locs1 : List Loc), Q9 (.inl r) h1 → m_vs (m_al ws1) none r.toList V.toList → m_W g.2.2 h1 ws1 → va_P g.2.1 m_cl ws1 H1 → va_D A ws1 → m_le (m_al ws) (m_al ws1) → va_S A s.heap H1 locs1 → W p g.1 e R s m args below meth c H1 locs1 (cells + rm.cells) (slots + rm.slots) Z (F0 m (pc + 3) ls (V.toList ++ rest)))
    (kx : ∀ (E : String) (q : Addr) (ce : Cell) (h1 : List MC) (ws1 : va_W) (H1 : Heap) (locs1 : List Loc), Q9 (.inr E) h1 → H1[q]? = some ce → ce.vm = .none → s.vm.findClass E = some ce.cls → m_W g.2.2 h1 ws1 → va_P g.2.1 m_cl ws1 H1 → va_D A ws1 → m_le (m_al ws) (m_al ws1) → va_S A s.heap H1 locs1 → m_X p g.1 e R s m args below meth c H1 locs1 (cells + rm.cells) (slots + rm.slots) Z (F0 m pc ls rest) q) :
    W p g.1 e R s m args below meth c H locs cells slots Z (F0 m pc ls st0) := by
  have hFr : ∀ q, va_A ws H.size q → A q := by
    intro q hq
    rcases hq with ⟨k, e9, hk⟩ | hq
    · exact hD.2 k _ hk
    · exact hA q (Nat.le_trans hS.1 hq)
  intro T hT X0
  obtain ⟨vm₁, mk, X, hnm, hgo⟩ := hI T hT X0
  obtain ⟨U, hUe⟩ : ∃ U, U = T.setVm vm₁ := ⟨_, rfl⟩
  rw [← hUe] at X hgo
  have hUH : U.heap = H := by rw [hUe]; exact hT
  have hn : U.methodNamed? y = some mk := X.named hnm
  have hpre : (headSpec wl rm).pre.before AV.toArray U = true := atoms_intro fun w hw => hwl w hw _ _ X.warmed
  obtain ⟨methY, cY, hmY, hcY, hlY⟩ := hcd mk U X.warmed hn
  obtain ⟨kY, hkY, -⟩ := className_of_methodNamed hn
  have hini9 : (Cond.initialized y.cls).before AV.toArray U = true := word_at X.warmed (Or.inl (by first | rfl | simp [Cond.onTables, Cond.keeps, Cond.steady])) hini
  have hinitY : kY.init = .initialized := Cond.initialized_spec (findClass_of_methodNamed hn) hkY hini9
  obtain ⟨fr, hfre⟩ : ∃ fr : JFrame, fr = F0 m pc ls rest := ⟨_, rfl⟩
  have hat : At U fr.method c below := by rw [hfre]; exact X.here
  have hdf : decode c.code fr.pc = .ok (ig, 3) := by rw [hfre]; exact hd
  have hsf : fr.locals.size = c.maxLocals := by rw [hfre]; exact hsz
  have h89 : 2 * fr.monitorRoom + (fr.stack.map fun v => v.category).sum ≤ 8 := by rw [hfre]; exact lv_room (rest := rest) h8
  have happ : (headSpec wl rm).appliesLoose y e.platform (U.calling fr mk AV.toArray) = true :=
    Spec.appliesLoose_calling (g := fr) hat hdf hn hkY hinitY (X.room_calling (g := fr) (R' := (headSpec wl rm).room) hsf hmY hcY hfr (by rw [hlY]; show _ ≤ _; have q9 : (headSpec wl rm).room.locals = rm.locals := rfl; omega) hce hsl) hpre
  obtain ⟨mid, hmid⟩ := hat.above
  have hfrm : (U.setTop fr).frames = (.java fr :: mid) ++ below := by rw [State.frames_setTop' fr hat.top, hmid]; rfl
  have hP9 : AV.toArray = AV.toArray ∧ Pc (U.calling fr mk AV.toArray) := ⟨rfl, hPc _ hUH X.warmed⟩
  obtain ⟨o, s₂, hsteps, -, hend, hq⟩ := Jvm.Free.Steps.callFree hM p X.admits X.cas X.clock (acts := []) hfrm happ hP9 trivial
  have hq' : m_E g Q9 (m_al ws) (va_A ws H.size) rm.cells rm.slots (U.calling fr mk AV.toArray) o s₂ := hq
  rw [State.frames_setTop' fr hat.top] at hend
  obtain ⟨hcase, hFF, hW₂, L, hsm, hL⟩ := hq'
  have hW' : U.WarmedH s₂.vm := hW₂
  obtain ⟨g₀, hg0⟩ := Option.isSome_iff_exists.mp hat.top
  obtain ⟨r0, hr0⟩ := State.topJava?_eq_some.mp hg0
  obtain ⟨e2, q2, q3, q4, q5, q6⟩ := hsm
  have e3 : s₂ = ({ (U.calling fr mk AV.toArray).setFrames s₂.frames with heap := s₂.heap, slotsUsed := s₂.slotsUsed } : State).setVm s₂.vm := by
    have : s₂ = ({ s₂ with vm := (U.calling fr mk AV.toArray).vm } : State).setVm s₂.vm := rfl
    rw [e2] at this
    exact this
  have hr' : (({ U with heap := s₂.heap, slotsUsed := s₂.slotsUsed } : State).setVm s₂.vm).frames = .java g₀ :: r0 := hr0
  have hsame : U.sameButNew ({ U with heap := s₂.heap, slotsUsed := s₂.slotsUsed } : State) L rm.cells rm.slots := by
    refine ⟨?_, q2, q3, q4, q5, q6⟩
    obtain ⟨t, ht, -⟩ := State.frames_cons hr0
    show ({ U with heap := s₂.heap, slotsUsed := s₂.slotsUsed } : State) = { U.setFrames U.frames with heap := s₂.heap, slotsUsed := s₂.slotsUsed }
    rw [State.setFrames_self ht]
  have XB : Stand p g.1 e R s m args below meth c (({ U with heap := s₂.heap, slotsUsed := s₂.slotsUsed } : State).setVm s₂.vm) (locs ++ L) (cells + rm.cells) (slots + rm.slots) :=
    ⟨X.admits, X.cas, X.clock, X.frames, X.room, X.hears, X.method, X.code, (X.here.setHeapUsed s₂.heap s₂.slotsUsed).setVm hW'.alike, X.tail, State.WarmedH.trans X.warmed hW', X.limits, X.bytes, X.same.trans (hsame.setVm s.vm)⟩
  have hS1 : va_S A s.heap s₂.heap (locs ++ L) := by
    obtain ⟨hz, hk⟩ := hFF
    have hcz : (U.calling fr mk AV.toArray).heap = H := hUH
    rw [hcz] at hz hk
    refine ⟨Nat.le_trans hS.1 hz, fun q g1 g2 => ?_, fun z hz9 => ?_⟩
    · rw [hk q (Nat.lt_of_lt_of_le g1 hS.1) (fun z => g2 (hFr q z))]
      exact hS.2.1 q g1 g2
    · rcases List.mem_append.mp hz9 with h9 | h9
      · exact hS.2.2 z h9
      · exact hFr _ (hL z h9)
  rcases hcase with ⟨r, V, h1, ws1, rfl, hrv, hQ, hW1, hP1, hK1, hD1, hle⟩ | ⟨E, q, ce, h1, ws1, rfl, hce9, hcv, hcl, hQ, hW1, hP1, hK1, hD1, hle⟩
  · obtain ⟨t2, a1, b1⟩ := kr r V h1 ws1 s₂.heap (locs ++ L) hQ hrv hW1 hP1 (hD1.weaken (fun _ _ _ h9 => hFr _ h9)) hle hS1 (({ U with heap := s₂.heap, slotsUsed := s₂.slotsUsed } : State).setVm s₂.vm) rfl XB
    refine ⟨t2, hgo _ fun acts => ?_, b1⟩
    rw [doInvoke_state]
    obtain ⟨c₂, i₂, len₂, hc₂, hd₂, hf₂⟩ := hend
    have hcc : c₂ = c := by
      have g1 : s₂.code? fr.method = U.code? fr.method := by
        rw [State.code?_eq, State.code?_eq, hW'.alike.method?]
      exact Option.some.inj (hc₂.symm.trans (g1.trans hat.code))
    subst hcc
    have hlen : len₂ = 3 := by rw [hdf] at hd₂; cases hd₂; rfl
    subst hlen
    have hs₂ : s₂ = (({ U with heap := s₂.heap, slotsUsed := s₂.slotsUsed } : State).setVm s₂.vm).setTop { fr with pc := fr.pc + 3, stack := V.toList ++ fr.stack } := by
      refine e3.trans ?_
      rw [hf₂, State.calling_eq hat.top, State.setFrames_setFrames, State.setTop_of_frames _ hr', hr0]
      rfl
    subst hfre
    refine Steps.trans ?_ a1
    have hsx := hsteps
    rw [hs₂] at hsx
    exact hsx
  · have hclE : s.vm.findClass E = some ce.cls := by
      have g1 : U.vm.findClass E = some ce.cls := hcl
      rw [X.warmed.alike.findClass] at g1
      exact g1
    obtain ⟨t2, a1, b1⟩ := kx E q ce h1 ws1 s₂.heap (locs ++ L) hQ hce9 hcv hclE hW1 hP1 (hD1.weaken (fun _ _ _ h9 => hFr _ h9)) hle hS1 (({ U with heap := s₂.heap, slotsUsed := s₂.slotsUsed } : State).setVm s₂.vm) rfl XB
    refine ⟨t2, hgo _ fun acts => ?_, b1⟩
    rw [doInvoke_state]
    have hf₂ : s₂.frames = .throwing q :: .java fr :: U.frames.tail := hend
    have hs₂ : s₂ = ((({ U with heap := s₂.heap, slotsUsed := s₂.slotsUsed } : State).setVm s₂.vm).setTop fr).pushFrame (.throwing q) := by
      refine e3.trans ?_
      rw [hf₂, State.calling_eq hat.top, State.setFrames_setFrames, State.pushFrame, State.frames_setTop _ hr', State.setTop_of_frames _ hr', State.setFrames_setFrames]
      rw [hr0]
      rfl
    subst hfre
    refine Steps.trans ?_ a1
    have hsx := hsteps
    rw [hs₂] at hsx
    exact hsx
end
section
/-! CONTRACTS OUT OF Ev, AND CALLS BY THEM -/
def m_rm (d w mc ms : Nat) : Room := { frames := d, cells := mc, slots := ms, locals := w }
def m_args : Nat → List MV → ML
  | _, [] => []
  | i, v :: vs => (i, v) :: m_args (if m_cat v = 2 then i + 2 else i + 1) vs
theorem m_args_ls {al : List Nat} {sc : MS} : ∀ {vs : List MV} {VS : List Value} (i : Nat), m_vs al sc vs VS → m_ls al sc (m_args i vs) (lv_args i VS) := by
  intro vs
  induction vs with
  | nil => intro VS i h; rw [h.inv0]; exact m_ls.nil
  | cons v vs ih =>
    intro VS i h
    obtain ⟨V, VS', rfl, h1, h2⟩ := h.inv
    unfold m_args lv_args
    rw [m_v_cat h1]
    exact m_ls.cons h1 (ih _ h2)
theorem m_sl_len {al : List Nat} {sc : MS} : ∀ {vs : List MV} {VS : List Value}, m_vs al sc vs VS → (lg_sl VS).length = (vs.map m_cat).sum := by
  intro vs
  induction vs with
  | nil => intro VS h; rw [h.inv0]; rfl
  | cons v vs ih =>
    intro VS h
    obtain ⟨V, VS', rfl, h1, h2⟩ := h.inv
    have h3 := ih h2
    have h4 := m_v_cat h1
    unfold lg_sl at h3 ⊢
    rw [List.flatMap_cons, List.length_append, h3, List.map_cons, List.sum_cons, ← h4]
    rcases lv_cat V with q | q <;> simp [q]
theorem m_vs_none {al : List Nat} {sc : MS} : ∀ {vs : List MV} {VS : List Value}, vs.all m_nsc = true → m_vs al sc vs VS → m_vs al none vs VS := by
  intro vs
  induction vs with
  | nil => intro VS _ h; exact h
  | cons v vs ih =>
    intro VS hn h
    obtain ⟨V, VS', rfl, h1, h2⟩ := h.inv
    simp only [List.all_cons, Bool.and_eq_true] at hn
    exact m_vs.cons (m_v_none hn.1 h1) (ih hn.2 h2)
theorem m_L.moved {C n d : String} {A : Nat → Prop} {u U : State} {H : Heap} (hvm : u.vm.Alike U.vm) (h : m_L C n d A u H) : m_L C n d A U H := by
  obtain ⟨c, k, i, f, a, cell, h1, h2, h3, h4, h5, h6, h7, h8, h9, h10⟩ := h
  obtain ⟨k', hi', he⟩ := State.fieldFound?_setVm hvm h2
  exact ⟨c, k', i, f, a, cell, by rw [hvm.findClass]; exact h1, hi', h3, by rw [he]; exact h4, h5, h6, h7, h8, by rw [he]; exact h9, h10⟩
theorem m_L.kept {C n d : String} {A : Nat → Prop} {U : State} {H H1 : Heap} (h : m_L C n d A U H) (hq : ∀ a : Nat, a < H.size → ¬ A a → H1[a]? = H[a]?) : m_L C n d A U H1 := by
  obtain ⟨c, k, i, f, a, cell, h1, h2, h3, h4, h5, h6, h7, h8, h9, h10⟩ := h
  exact ⟨c, k, i, f, a, cell, h1, h2, h3, h4, by rw [hq a (Array.getElem?_eq_some_iff.mp h5).1 h10]; exact h5, h6, h7, h8, h9, h10⟩
theorem m_L.narrow {C n d : String} {A B : Nat → Prop} {U : State} {H : Heap} (h : m_L C n d A U H) (hAB : ∀ q, B q → A q) : m_L C n d B U H := by
  obtain ⟨c, k, i, f, a, cell, h1, h2, h3, h4, h5, h6, h7, h8, h9, h10⟩ := h
  exact ⟨c, k, i, f, a, cell, h1, h2, h3, h4, h5, h6, h7, h8, h9, fun z => h10 (hAB a z)⟩
theorem m_L.word {C n d : String} {A : Nat → Prop} {s : State} {args : Array Value} (h : m_L C n d A s s.heap) : (Cond.laysStatic C n d).before args s = true := by
  obtain ⟨c, k, i, f, a, cell, h1, h2, h3, h4, h5, h6, h7, h8, h9, -⟩ := h
  simp [Cond.before, Cond.holds, Cond.value, h1, h2, h3, h4, h5, h6, h7, h8, h9]
theorem m_Z.isRef {C n d : String} {v : Value} {A : Nat → Prop} {s : State} {args : Array Value} (h : va_Z C n d v A s s.heap) (hv : v = .null ∨ ∃ t, v = .ref t) : (Cond.isRef (.static C n d)).before args s = true := by
  obtain ⟨cf, kf, fi, f, a, cell, h1, h2, h3, h4, h5, h6, h7, -⟩ := h
  have he : (Term.static C n d).eval args s none [] s = some v := by
    simp [Term.eval, State.fieldNamed?, h1, h2, h4, h5, h6, h7]
  rcases hv with rfl | ⟨t, rfl⟩ <;> simp [Cond.before, Cond.holds, Cond.value, he, Value.isRef]
theorem m_Zq.isRef {C n d : String} {A : Nat → Prop} {s : State} {args : Array Value} (h : va_Zq C n d A s s.heap) : (Cond.isRef (.static C n d)).before args s = true := by
  rcases h with h | ⟨t, h⟩
  · exact m_Z.isRef h (Or.inl rfl)
  · exact m_Z.isRef h (Or.inr ⟨t, rfl⟩)
theorem m_nst {D : va_G} {ws : va_W} {H : Heap} (hP : va_P D m_cl ws H) : ∀ (q : Nat) (cell : Cell), va_A ws H.size q → H[q]? = some cell → cell.vm.isStatics = false := by
  intro q cell hq hc
  rcases hq with ⟨k, e, hk⟩ | hq
  · have h := hP k _ hk
    rcases e with x | o
    · have h2 : H[q]? = some (vp_cell x.1 x.2) := h
      cases Option.some.inj (hc.symm.trans h2)
      obtain ⟨c, n, f | f | f | f | f⟩ := x <;> rfl
    · obtain ⟨r, -, cell2, g1, -, g3, -⟩ := h
      cases Option.some.inj (hc.symm.trans g1)
      rw [g3]; rfl
  · rw [Array.getElem?_eq_none hq] at hc
    cases hc
/-- what a callee finds -/
def m_Pc (g : MG) (ws : va_W) (sz : Nat) (U : State) : Prop := U.heap.size = sz ∧ va_P g.2.1 m_cl ws U.heap ∧ va_K g.2.1 m_cl (m_tys g.2.2) U ∧ va_D (fun _ => True) ws ∧ m_St (va_A ws sz) U
theorem m_St_to {D : va_G} {A : Nat → Prop} {ws : va_W} {s U : State} (hW : s.WarmedH U.vm) (h : m_St A s) (hP : va_P D m_cl ws U.heap) (hk : ∀ a : Nat, a < s.heap.size → ¬ A a → U.heap[a]? = s.heap[a]?) (hAB : ∀ q, va_A ws U.heap.size q → A q) : m_St (va_A ws U.heap.size) U := by
  obtain ⟨⟨a1, a2, a3, a4⟩, -, h3, h4, h5, h6, h7, h8, h9⟩ := h
  refine ⟨⟨((a1.kept hk).moved hW.alike).narrow hAB, ((a2.kept hk).moved hW.alike).narrow hAB, va_Zq.narrow (va_Zq.moved hW.alike (va_Zq.kept a3 hk)) hAB, va_Zq.narrow (va_Zq.moved hW.alike (va_Zq.kept a4 hk)) hAB⟩, m_nst hP, fun q hq => ?_, fun q hq => va_Nw.warmF hW (h4 q hq), fun q hq => va_Nw.warmM hW (h5 q hq), fun C hC => va_AO.moved hW.alike (h6 C hC), fun q hq => va_Nc.moved hW.alike (h7 q hq), fun q hq => (h8 q hq).moved hW.alike, fun y hy => va_Nw.warmD hW (h9 y hy)⟩
  obtain ⟨sa, hsa⟩ := h3 q hq
  exact ⟨sa, vk_R.warm hW hsa⟩
theorem m_pcU {g : MG} {ws : va_W} {s : State} {H : Heap} {A : Nat → Prop} {locs : List Loc} (hSt : m_St A s) (hA : ∀ q, s.heap.size ≤ q → A q) (hK : va_K g.2.1 m_cl (m_tys g.2.2) s) (hP : va_P g.2.1 m_cl ws H) (hD : va_D A ws) (hS : va_S A s.heap H locs) : ∀ U : State, U.heap = H → s.WarmedH U.vm → m_Pc g ws H.size U := by
  intro U hU hW9
  subst hU
  refine ⟨rfl, hP, va_K.moved hW9.alike hK, hD.weaken (fun _ _ _ _ => trivial), m_St_to hW9 hSt hP (fun a h1 h2 => hS.2.1 a h1 h2) (fun q hq => ?_)⟩
  rcases hq with ⟨k, e9, hk⟩ | hq
  · exact hD.2 k _ hk
  · exact hA q (Nat.le_trans hS.1 hq)
/-- a method's words: its head is its own code -/
def m_hd (N : MM) : Cond := match N.2.2.2.2 with
  | [] => .code N.1 N.2.1 N.2.2.1 N.2.2.2.1
  | _ => .codeWith N.1 N.2.1 N.2.2.1 N.2.2.2.1 N.2.2.2.2
def m_wl (N : MM) : List Cond := m_hd N :: m_Ts
def m_me (N : MM) (n : Nat) : Prop := m_hd N ∈ m_Ts ∧ plainName N.1.cls = true ∧ (N.1.cls ≠ "java/lang/invoke/MethodHandle" ∧ N.1.cls ≠ "java/lang/invoke/VarHandle") ∧ (parseMethodDescriptor N.1.desc).map (fun d => d.parameters.length) = some n ∧ Cond.initialized N.1.cls ∈ m_Ts
/-- what the head says -/
theorem m_hd_spec {N : MM} {args : Array Value} {s : State} {m : MethodId} (h : (m_hd N).before args s = true) (hn : s.methodNamed? N.1 = some m) : ∃ (meth : Method) (c : Code), s.vm.method? m = some meth ∧ meth.code = some c ∧ c.code = N.2.1 ∧ c.maxLocals = N.2.2.1 ∧ meth.sig.returnType = N.2.2.2.1 ∧ meth.locks = false ∧ c.exceptionTable.toList = tableOf N.2.2.2.2 ∧ parseMethodDescriptor N.1.desc = some meth.sig := by
  obtain ⟨y, bytes, maxL, ret, hh⟩ := N
  cases hh with
  | nil =>
    obtain ⟨meth, c, g1, g2, g3, g4, g5, g6, g7, g8⟩ := Cond.code_spec hn h
    exact ⟨meth, c, g1, g2, g3, g4, g5, g6, by rw [Array.isEmpty_iff.mp g7]; rfl, g8⟩
  | cons a l =>
    obtain ⟨m9, meth, c, hn9, g1, g2, g3, g4, g7, g5, g6, g8⟩ := Cond.codeWith_spec h
    cases hn.symm.trans hn9
    exact ⟨meth, c, g1, g2, g3, g4, g5, g6, by rw [← g7, table_eq], g8⟩
theorem m_named {N : MM} {args : Array Value} {s : State} (h : (m_hd N).before args s = true) : ∃ mk, s.methodNamed? N.1 = some mk := by
  obtain ⟨y, bytes, maxL, ret, hh⟩ := N
  cases hh with
  | nil => exact Cond.code_named h
  | cons a l =>
    obtain ⟨m9, meth, c, hn9, -⟩ := Cond.codeWith_spec h
    exact ⟨m9, hn9⟩
theorem m_good (N : MM) (hc : m_hd N ∈ m_Ts) : ∀ w ∈ m_wl N, w ∈ m_Ts := by
  intro w hw
  rcases List.mem_cons.mp hw with rfl | hw
  · exact hc
  · exact hw
theorem m_met {g : MG} {N : MM} {d w n : Nat} {av : List MV} {h : List MC} {mc ms : Nat} {Q : MO → List MC → Prop} (hN : m_me N n) (hE : Ev g none N d w 0 (m_args 0 av) [] h mc ms Q) (hsl : (av.map m_cat).sum ≤ N.2.2.1) {ws : va_W} {AV : List Value} (hW : m_W g.2.2 h ws) (hvs : m_vs (m_al ws) none av AV) (sz : Nat) :
    m_Ct g N.1 (m_wl N) (m_rm d w mc ms) Q ws AV sz (m_Pc g ws sz) := by
  obtain ⟨hc, hpl, -⟩ := hN
  refine Jvm.Free.MetFree.of_bodyS (code := N.2.1) (maxLocals := N.2.2.1) (ret := N.2.2.2.1) hpl ?_ ?_
  · intro args s m h9 hn
    obtain ⟨meth, c, g1, g2, g3, g4, g5, g6, -, -⟩ := m_hd_spec (atoms_spec (ws := m_wl N) h9 _ List.mem_cons_self) hn
    exact ⟨meth, c, g1, g2, g3, g4, g5, g6⟩
  · intro p e s m args below meth c s₁ B hml hv _
    obtain ⟨rfl, hsz, hP, hK, hD0, hSt⟩ := hv
    subst hsz
    have hh0 : s₁.heap = s.heap := by rw [B.state]; rfl
    have hD := hD0.self (sz := s.heap.size)
    have hl := lv_entry AV (n := N.2.2.1) (by rw [m_sl_len hvs]; exact hsl)
    have ht : c.exceptionTable.toList = tableOf N.2.2.2.2 := by
      obtain ⟨meth9, c9, g1, g2, -, -, -, -, g7, -⟩ := m_hd_spec (atoms_spec (ws := m_wl N) B.pre _ List.mem_cons_self) B.named
      cases Option.some.inj (g1.symm.trans B.method)
      cases Option.some.inj (g2.symm.trans (Stand.of_body B).code)
      exact g7
    have K := hE p e (headSpec (m_wl N) (m_rm d w mc ms)).room s m AV.toArray below meth c (va_A ws s.heap.size) (m_al ws) s.heap [] 0 0 mc ms _ ws _ _ ⟨B.exec, B.bytes, B.returns, B.notSynchronized, hml, findClass_of_methodNamed B.named, fun w hw => atoms_spec (ws := m_wl N) B.pre w (List.mem_cons_of_mem _ hw), (name_of_methodNamed B.named B.method).1, ht⟩ hSt (fun q h9 => by cases h9) ⟨Nat.le_refl _, Nat.le_refl _⟩ (by omega) (by omega) (Nat.le_refl _) (Nat.le_refl _) (fun q h9 => Or.inr h9) hK hP hD va_S.rf hW m_le.rf hl (m_args_ls 0 hvs) m_vs.nil
    rw [← lg_entry_eq] at K
    obtain ⟨t, a1, o, b1, b2, b3⟩ := K s₁ hh0 (Stand.of_body B)
    exact ⟨t, o, a1, b1, b2, b3⟩
/-- an object of class E was thrown over the frame at pc -/
def Ex (g : MG) (sc : MS) (M : MM) (d w pc : Nat) (lv : ML) (h : List MC) (mc ms : Nat) (Q : MO → List MC → Prop) (E : String) : Prop :=
  ∀ (p : Program) (e : Env) (R : Room) (s : State) (m : MethodId) (args : Array Value) (below : List Frame) (meth : Method) (c : Code) (A : Nat → Prop) (al0 : List Nat) (H : Heap) (locs : List Loc) (cells slots CT ST : Nat) (ls : Array Slot) (ws : va_W) (LV : List (Nat × Value)) (VS : List Value) (q9 : Addr) (ce : Cell),
    m_Fr M p s m args meth c → m_St A s → m_sc A s sc → m_Rm d w R → cells + mc ≤ CT → slots + ms ≤ ST → CT ≤ R.cells → ST ≤ R.slots → (∀ q, s.heap.size ≤ q → A q) → va_K g.2.1 m_cl (m_tys g.2.2) s →
    va_P g.2.1 m_cl ws H → va_D A ws → va_S A s.heap H locs → m_W g.2.2 h ws → m_le al0 (m_al ws) → lv_has ls M.2.2.1 LV → m_ls (m_al ws) sc lv LV → H[q9]? = some ce → ce.vm = .none → s.vm.findClass E = some ce.cls →
    m_X p g.1 e R s m args below meth c H locs cells slots (m_Z g Q al0 A CT ST below s) (F0 m pc ls VS) q9
theorem x_out {g : MG} {sc : MS} {M : MM} {d w pc : Nat} {lv : ML} {h : List MC} {mc ms : Nat} {Q : MO → List MC → Prop} {E : String} (hh : M.2.2.2.2 = []) (k : Q (.inr E) h) : Ex g sc M d w pc lv h mc ms Q E := by
  intro p e R s m args below meth c A al0 H locs cells slots CT ST ls ws LV VS q9 ce hF hSt hsc hR h1 h2 h3 h4 hA hK hP hD hS hW hal hls hlv hce hcv hcl
  obtain ⟨hx, hb, hr, hlk, hml, hown, hts, hnm, htb⟩ := id hF
  intro T hT X
  obtain ⟨st, hrun, hend, hW9, hsm⟩ := X.leaveThrown q9 (g := F0 m pc ls VS) rfl rfl rfl (fun x hx9 => by rw [htb, hh] at hx9; cases hx9) hlk
  refine ⟨_, st, .threw q9, hrun, hend, Or.inr ⟨E, q9, ce, h, ws, rfl, ?_, hcv, hcl, k, hW, ?_, va_K.moved hW9.alike hK, hD, hal⟩, ?_, hW9, locs, hsm.mono (by omega) (by omega), hS.2.2⟩
  · show T.heap[q9]? = some ce
    rw [hT]; exact hce
  · show va_P _ _ _ T.heap
    rw [hT]; exact hP
  · exact hS.F hT
/-- the links of a call: virtual, static, <init>; between nest mates too -/
def m_lk (own : String) (i : Nat) (N : MM) : Prop := Cond.methodLink own i N.1 ∈ m_Ts ∨ ∃ host, (own, i, N.1, host) ∈ m_nestM
theorem m_lk.use {own : String} {i : Nat} {N : MM} {args : Array Value} {A : Nat → Prop} {s : State} (h : m_lk own i N) (hts : ∀ w ∈ m_Ts, w.before args s = true) (hSt : m_St A s) : ∃ host, (Cond.methodLink own i N.1).before args s = true ∨ (Cond.methodLinkNest own i N.1 host).before args s = true := by
  rcases h with h | ⟨host, h⟩
  · exact ⟨"", Or.inl (hts _ h)⟩
  · exact ⟨host, Or.inr (va_Nw.use rfl (hSt.2.2.2.2.1 _ h))⟩
def m_lV (own : String) (i : Nat) (N : MM) : Prop := Cond.instanceMethod N.1 ∈ m_Ts ∧ Cond.selects N.1.cls N.1 N.1 ∈ m_Ts ∧ m_lk own i N
def m_lS (own : String) (i : Nat) (N : MM) : Prop := Cond.static N.1 ∈ m_Ts ∧ m_lk own i N
def m_lI (own : String) (i : Nat) (N : MM) : Prop := Cond.instanceMethod N.1 ∈ m_Ts ∧ N.1.name = "<init>" ∧ N.2.2.2.1 = none ∧ N.2.2.2.2 = [] ∧ m_lk own i N
theorem e_invV {g : MG} {sc : MS} {M N : MM} {d d2 w w2 pc : Nat} {lv : ML} {st st' : List MV} {h : List MC} {mc1 ms1 mc2 ms2 : Nat} {Q Q9 : MO → List MC → Prop} {i n r ci : Nat} {av : List MV} {fs : List MV} {T : u_T} {NN : Nat} (hd : decode M.2.1 pc = .ok (.invokevirtual i, 3)) (hN : m_me N n) (hl : m_lV M.1.cls i N) (hst0 : st = av.reverse ++ mr r :: st') (hn : av.length = n) (hsl : ((mr r :: av).map m_cat).sum ≤ N.2.2.1) (hns : av.all m_nsc = true) (h8 : (st'.map m_cat).sum ≤ 8) (hd2 : d2 + 1 ≤ d) (hw2 : 19 + N.2.2.1 + w2 ≤ w) (ho : h[r]? = some (cO ci fs)) (hci : m_cl[ci]? = some (N.1.cls, T, NN)) (hE : Ev g none N d2 w2 0 (m_args 0 (mr r :: av)) [] h mc1 ms1 Q9) (kr : ∀ (r : Option MV) (h9 : List MC), Q9 (.inl r) h9 → Ev g sc M d w (pc + 3) lv (r.toList ++ st') h9 mc2 ms2 Q) (kx : ∀ (E : String) (h9 : List MC), Q9 (.inr E) h9 → Ex g sc M d w pc lv h9 mc2 ms2 Q E) : Ev g sc M d w pc lv st h (mc1 + mc2) (ms1 + ms2) Q := by
  intro p e R s m args below meth c A al0 H locs cells slots CT ST ls ws LV VS hF hSt hsc hR h1 h2 h3 h4 hA hK hP hD hS hW hal hls hlv hst
  obtain ⟨hx, hb, hr, hlk, hml, hown, hts, hnm, htb⟩ := id hF
  subst hst0
  obtain ⟨AVr, REST0, rfl, hav, hrest0⟩ := hst.split
  obtain ⟨V9, REST, rfl, hV9, hrest⟩ := hrest0.inv
  obtain ⟨a, e9, rfl, hwr, hc9⟩ := m_ref hW ho hV9
  obtain ⟨FS, rfl, hfs⟩ := m_c_o hc9
  have hav2 : m_vs (m_al ws) none av AVr.reverse := by
    have q := (m_vs_none (by rw [List.all_reverse]; exact hns) hav).rev
    rw [List.reverse_reverse] at q
    exact q
  have hlen : ∀ sig, parseMethodDescriptor N.1.desc = some sig → AVr.reverse.length = sig.parameters.length := by
    intro sig h9
    have q := hN.2.2.2.1
    rw [h9] at q
    rw [hav2.len, hn]
    exact (Option.some.inj q).symm
  have hav3 : m_vs (m_al ws) none (mr r :: av) (Value.ref a :: AVr.reverse) := m_vs.cons (m_v_none rfl hV9) hav2
  obtain ⟨l1, l2, l3⟩ := hl
  obtain ⟨host, l3⟩ := l3.use hts hSt
  have hI : m_Iv p g.1 e R s m args below meth c H locs cells slots (F0 m pc ls (AVr ++ Value.ref a :: REST)) REST N.1 (Value.ref a :: AVr.reverse) := by
    refine m_ivV hx hown l3 (hts _ l1) (hts _ l2) hN.2.2.1 (fun mk meth9 g1 g2 => ?_) (va_recv hK hP hci hwr) rfl (by rw [List.reverse_reverse]) (by rw [hb]; exact hd)
    obtain ⟨meth8, c8, g3, -, -, -, -, -, -, g4⟩ := m_hd_spec (hts _ hN.1) g1
    cases Option.some.inj (g3.symm.trans g2)
    exact hlen _ g4
  refine m_Ct.go (rm := m_rm d2 w2 mc1 ms1) (maxL := N.2.2.1) (m_met hN hE hsl hW hav3 H.size) hI (fun w9 hw9 a' U hU => word_at hU (good_of_word (m_Ts_good w9 (m_good N hN.1 w9 hw9))) (hts w9 (m_good N hN.1 w9 hw9))) (hts _ hN.2.2.2.2) (fun mk9 U hU hn9 => ?_) (Nat.le_trans hd2 hR.1) (by show 8 + (N.2.2.1 + 11) + w2 ≤ _; have q := hR.2; omega) (by show cells + mc1 ≤ _; omega) (by show slots + ms1 ≤ _; omega) (by rw [hrest.cats]; exact h8) (by rw [hml]; exact hls.1) (by rw [hb]; exact hd) (m_pcU hSt hA hK hP hD hS) hA hD hS (fun r V h9 ws1 H1 locs1 hq hrv hW1 hP1 hD1 hle hS1 => ?_) (fun E q9 ce h9 ws1 H1 locs1 hq hce hcv hcl hW1 hP1 hD1 hle hS1 => ?_)
  · have hw9 : (m_hd N).before #[] U = true := word_at hU (good_of_word (m_Ts_good _ hN.1)) (hts _ hN.1)
    obtain ⟨methY, cY, g1, g2, -, g4, -⟩ := m_hd_spec hw9 hn9
    exact ⟨methY, cY, g1, g2, g4⟩
  · exact kr r h9 hq p e R s m args below meth c A al0 H1 locs1 _ _ CT ST _ _ _ _ hF hSt hsc hR (by show cells + mc1 + mc2 ≤ _; omega) (by show slots + ms1 + ms2 ≤ _; omega) h3 h4 hA hK hP1 hD1 hS1 hW1 (hal.tr hle) hls (hlv.le hle) (hrv.sc.app (hrest.le hle))
  · exact kx E h9 hq p e R s m args below meth c A al0 H1 locs1 _ _ CT ST _ _ _ _ q9 ce hF hSt hsc hR (by show cells + mc1 + mc2 ≤ _; omega) (by show slots + ms1 + ms2 ≤ _; omega) h3 h4 hA hK hP1 hD1 hS1 hW1 (hal.tr hle) hls (hlv.le hle) hce hcv hcl
theorem e_invS {g : MG} {sc : MS} {M N : MM} {d d2 w w2 pc : Nat} {lv : ML} {st st' : List MV} {h : List MC} {mc1 ms1 mc2 ms2 : Nat} {Q Q9 : MO → List MC → Prop} {i n : Nat} {av : List MV} (hd : decode M.2.1 pc = .ok (.invokestatic i, 3)) (hN : m_me N n) (hl : m_lS M.1.cls i N) (hst0 : st = av.reverse ++ st') (hn : av.length = n) (hsl : (av.map m_cat).sum ≤ N.2.2.1) (hns : av.all m_nsc = true) (h8 : (st'.map m_cat).sum ≤ 8) (hd2 : d2 + 1 ≤ d) (hw2 : 19 + N.2.2.1 + w2 ≤ w) (hE : Ev g none N d2 w2 0 (m_args 0 av) [] h mc1 ms1 Q9) (kr : ∀ (r : Option MV) (h9 : List MC), Q9 (.inl r) h9 → Ev g sc M d w (pc + 3) lv (r.toList ++ st') h9 mc2 ms2 Q) (kx : ∀ (E : String) (h9 : List MC), Q9 (.inr E) h9 → Ex g sc M d w pc lv h9 mc2 ms2 Q E) : Ev g sc M d w pc lv st h (mc1 + mc2) (ms1 + ms2) Q := by
  intro p e R s m args below meth c A al0 H locs cells slots CT ST ls ws LV VS hF hSt hsc hR h1 h2 h3 h4 hA hK hP hD hS hW hal hls hlv hst
  obtain ⟨hx, hb, hr, hlk, hml, hown, hts, hnm, htb⟩ := id hF
  subst hst0
  obtain ⟨AVr, REST, rfl, hav, hrest⟩ := hst.split
  have hav2 : m_vs (m_al ws) none av AVr.reverse := by
    have q := (m_vs_none (by rw [List.all_reverse]; exact hns) hav).rev
    rw [List.reverse_reverse] at q
    exact q
  have hlen : ∀ sig, parseMethodDescriptor N.1.desc = some sig → AVr.reverse.length = sig.parameters.length := by
    intro sig h9
    have q := hN.2.2.2.1
    rw [h9] at q
    rw [hav2.len, hn]
    exact (Option.some.inj q).symm
  obtain ⟨l1, l3⟩ := hl
  obtain ⟨host, l3⟩ := l3.use hts hSt
  have hI : m_Iv p g.1 e R s m args below meth c H locs cells slots (F0 m pc ls (AVr ++ REST)) REST N.1 AVr.reverse := by
    obtain ⟨mk, hnamed⟩ : ∃ mk, s.methodNamed? N.1 = some mk := m_named (hts _ hN.1)
    obtain ⟨meth8, c8, g3, -, -, -, -, -, -, g4⟩ := m_hd_spec (hts _ hN.1) hnamed
    exact m_ivS hx hown l3 (hts _ l1) (hts _ hN.2.2.2.2) hN.2.2.1 hnamed g3 (hlen _ g4) rfl (by rw [List.reverse_reverse]) (by rw [hb]; exact hd)
  refine m_Ct.go (rm := m_rm d2 w2 mc1 ms1) (maxL := N.2.2.1) (m_met hN hE hsl hW hav2 H.size) hI (fun w9 hw9 a' U hU => word_at hU (good_of_word (m_Ts_good w9 (m_good N hN.1 w9 hw9))) (hts w9 (m_good N hN.1 w9 hw9))) (hts _ hN.2.2.2.2) (fun mk9 U hU hn9 => ?_) (Nat.le_trans hd2 hR.1) (by show 8 + (N.2.2.1 + 11) + w2 ≤ _; have q := hR.2; omega) (by show cells + mc1 ≤ _; omega) (by show slots + ms1 ≤ _; omega) (by rw [hrest.cats]; exact h8) (by rw [hml]; exact hls.1) (by rw [hb]; exact hd) (m_pcU hSt hA hK hP hD hS) hA hD hS (fun r V h9 ws1 H1 locs1 hq hrv hW1 hP1 hD1 hle hS1 => ?_) (fun E q9 ce h9 ws1 H1 locs1 hq hce hcv hcl hW1 hP1 hD1 hle hS1 => ?_)
  · have hw9 : (m_hd N).before #[] U = true := word_at hU (good_of_word (m_Ts_good _ hN.1)) (hts _ hN.1)
    obtain ⟨methY, cY, g1, g2, -, g4, -⟩ := m_hd_spec hw9 hn9
    exact ⟨methY, cY, g1, g2, g4⟩
  · exact kr r h9 hq p e R s m args below meth c A al0 H1 locs1 _ _ CT ST _ _ _ _ hF hSt hsc hR (by show cells + mc1 + mc2 ≤ _; omega) (by show slots + ms1 + ms2 ≤ _; omega) h3 h4 hA hK hP1 hD1 hS1 hW1 (hal.tr hle) hls (hlv.le hle) (hrv.sc.app (hrest.le hle))
  · exact kx E h9 hq p e R s m args below meth c A al0 H1 locs1 _ _ CT ST _ _ _ _ q9 ce hF hSt hsc hR (by show cells + mc1 + mc2 ≤ _; omega) (by show slots + ms1 + ms2 ≤ _; omega) h3 h4 hA hK hP1 hD1 hS1 hW1 (hal.tr hle) hls (hlv.le hle) hce hcv hcl
theorem e_invI {g : MG} {sc : MS} {M N : MM} {d d2 w w2 pc : Nat} {lv : ML} {st st' : List MV} {h : List MC} {mc1 ms1 mc2 ms2 : Nat} {Q Q9 : MO → List MC → Prop} {i n r : Nat} {av : List MV} {cc9 : MC} (hd : decode M.2.1 pc = .ok (.invokespecial i, 3)) (hN : m_me N n) (hl : m_lI M.1.cls i N) (hst0 : st = av.reverse ++ mr r :: st') (hn : av.length = n) (hsl : ((mr r :: av).map m_cat).sum ≤ N.2.2.1) (hns : av.all m_nsc = true) (h8 : (st'.map m_cat).sum ≤ 8) (hd2 : d2 + 1 ≤ d) (hw2 : 19 + N.2.2.1 + w2 ≤ w) (ho : h[r]? = some cc9) (hE : Ev g none N d2 w2 0 (m_args 0 (mr r :: av)) [] h mc1 ms1 Q9) (kr : ∀ (r : Option MV) (h9 : List MC), Q9 (.inl r) h9 → Ev g sc M d w (pc + 3) lv (r.toList ++ st') h9 mc2 ms2 Q) (kx : ∀ (E : String) (h9 : List MC), Q9 (.inr E) h9 → Ex g sc M d w pc lv h9 mc2 ms2 Q E) : Ev g sc M d w pc lv st h (mc1 + mc2) (ms1 + ms2) Q := by
  intro p e R s m args below meth c A al0 H locs cells slots CT ST ls ws LV VS hF hSt hsc hR h1 h2 h3 h4 hA hK hP hD hS hW hal hls hlv hst
  obtain ⟨hx, hb, hr, hlk, hml, hown, hts, hnm, htb⟩ := id hF
  subst hst0
  obtain ⟨AVr, REST0, rfl, hav, hrest0⟩ := hst.split
  obtain ⟨V9, REST, rfl, hV9, hrest⟩ := hrest0.inv
  obtain ⟨a, e9, rfl, hwr, hc9⟩ := m_ref hW ho hV9
  have hav2 : m_vs (m_al ws) none av AVr.reverse := by
    have q := (m_vs_none (by rw [List.all_reverse]; exact hns) hav).rev
    rw [List.reverse_reverse] at q
    exact q
  have hlen : ∀ sig, parseMethodDescriptor N.1.desc = some sig → AVr.reverse.length = sig.parameters.length := by
    intro sig h9
    have q := hN.2.2.2.1
    rw [h9] at q
    rw [hav2.len, hn]
    exact (Option.some.inj q).symm
  have hav3 : m_vs (m_al ws) none (mr r :: av) (Value.ref a :: AVr.reverse) := m_vs.cons (m_v_none rfl hV9) hav2
  obtain ⟨l1, l2, l4, l5, l3⟩ := hl
  obtain ⟨host, l3⟩ := l3.use hts hSt
  have hcode : (Cond.code N.1 N.2.1 N.2.2.1 none).before args s = true := by
    have q := hts _ hN.1
    unfold m_hd at q
    rw [l5, l4] at q
    exact q
  have hI : m_Iv p g.1 e R s m args below meth c H locs cells slots (F0 m pc ls (AVr ++ Value.ref a :: REST)) REST N.1 (Value.ref a :: AVr.reverse) :=
    m_ivI hx hown l3 (hts _ l1) l2 hcode hN.2.2.1 hlen rfl (by rw [List.reverse_reverse]) (by rw [hb]; exact hd)
  refine m_Ct.go (rm := m_rm d2 w2 mc1 ms1) (maxL := N.2.2.1) (m_met hN hE hsl hW hav3 H.size) hI (fun w9 hw9 a' U hU => word_at hU (good_of_word (m_Ts_good w9 (m_good N hN.1 w9 hw9))) (hts w9 (m_good N hN.1 w9 hw9))) (hts _ hN.2.2.2.2) (fun mk9 U hU hn9 => ?_) (Nat.le_trans hd2 hR.1) (by show 8 + (N.2.2.1 + 11) + w2 ≤ _; have q := hR.2; omega) (by show cells + mc1 ≤ _; omega) (by show slots + ms1 ≤ _; omega) (by rw [hrest.cats]; exact h8) (by rw [hml]; exact hls.1) (by rw [hb]; exact hd) (m_pcU hSt hA hK hP hD hS) hA hD hS (fun r V h9 ws1 H1 locs1 hq hrv hW1 hP1 hD1 hle hS1 => ?_) (fun E q9 ce h9 ws1 H1 locs1 hq hce hcv hcl hW1 hP1 hD1 hle hS1 => ?_)
  · have hw9 : (m_hd N).before #[] U = true := word_at hU (good_of_word (m_Ts_good _ hN.1)) (hts _ hN.1)
    obtain ⟨methY, cY, g1, g2, -, g4, -⟩ := m_hd_spec hw9 hn9
    exact ⟨methY, cY, g1, g2, g4⟩
  · exact kr r h9 hq p e R s m args below meth c A al0 H1 locs1 _ _ CT ST _ _ _ _ hF hSt hsc hR (by show cells + mc1 + mc2 ≤ _; omega) (by show slots + ms1 + ms2 ≤ _; omega) h3 h4 hA hK hP1 hD1 hS1 hW1 (hal.tr hle) hls (hlv.le hle) (hrv.sc.app (hrest.le hle))
  · exact kx E h9 hq p e R s m args below meth c A al0 H1 locs1 _ _ CT ST _ _ _ _ q9 ce hF hSt hsc hR (by show cells + mc1 + mc2 ≤ _; omega) (by show slots + ms1 + ms2 ≤ _; omega) h3 h4 hA hK hP1 hD1 hS1 hW1 (hal.tr hle) hls (hlv.le hle) hce hcv hcl
theorem e_objInit {g : MG} {sc : MS} {M : MM} {d w pc : Nat} {lv : ML} {st : List MV} {h : List MC} {mc ms : Nat} {Q : MO → List MC → Prop} {i r : Nat} (hd : decode M.2.1 pc = .ok (.invokespecial i, 3)) (hl : Cond.methodLink M.1.cls i Lib.objectInit ∈ m_Ts) (hi : Cond.instanceMethod Lib.objectInit ∈ m_Ts) (hc : Cond.code Lib.objectInit ⟨#[0xb1]⟩ 1 none ∈ m_Ts) (h8 : (st.map m_cat).sum ≤ 8) (hd1 : 1 ≤ d) (hw1 : 20 ≤ w) (kk : Ev g sc M d w (pc + 3) lv st h mc ms Q) : Ev g sc M d w pc lv (mr r :: st) h mc ms Q := by
  intro p e R s m args below meth c A al0 H locs cells slots CT ST ls ws LV VS hF hSt hsc hR h1 h2 h3 h4 hA hK hP hD hS hW hal hls hlv hst
  obtain ⟨hx, hb, hr, hlk, hml, hown, hts, hnm, htb⟩ := id hF
  obtain ⟨V, VS', rfl, hV, hsr⟩ := hst.inv
  obtain ⟨q, -, rfl⟩ := m_v_mr hV
  have h89 : 2 * (F0 m pc ls (Value.ref q :: VS')).monitorRoom + (VS'.map fun v => v.category).sum ≤ 8 := lv_room (by rw [hsr.cats]; exact h8)
  have q1 := hR.1
  have q2 := hR.2
  exact W.objInit hx hb hown (hts _ hl) (hts _ hi) (hts _ hc) rfl (by rw [hml]; exact hls.1) rfl hd (by omega) (by omega) (kk p e R s m args below meth c A al0 H locs cells slots CT ST _ _ _ _ hF hSt hsc hR h1 h2 h3 h4 hA hK hP hD hS hW hal hls hlv hsr)
end
section
/-! THROWING AND CATCHING -/
/-- where the walk stands now may be its beginning: nothing is written yet, the room is what is left -/
theorem m_again {p : Program} {l : Launch} {e : Env} {R R' : Room} {s : State} {m : MethodId} {args : Array Value} {below : List Frame} {meth : Method} {c : Code} {T : State} {locs : List Loc} {cells slots : Nat} (X : Stand p l e R s m args below meth c T locs cells slots) (hf : R'.frames ≤ R.frames) (hl : R'.locals ≤ R.locals) (hc : cells + R'.cells ≤ R.cells) (hs : slots + R'.slots ≤ R.slots) :
    Stand p l e R' ((T.setVm s.vm).setFrames (.invoking m args :: below)) m args below meth c T [] 0 0 := by
  have htop : (T.setVm s.vm).topJava?.isSome := X.here.top
  have hcur : (T.setVm s.vm).cur < (T.setVm s.vm).threads.size := State.cur_lt_of_top htop
  have hF : ((T.setVm s.vm).setFrames (.invoking m args :: below)).frames = .invoking m args :: below := State.frames_setFrames _ hcur
  have hlim : e.platform.stackLimits (T.setVm s.vm).me = e.platform.stackLimits s.me := X.limits
  have hbyt : (T.setVm s.vm).me.stackBytes = s.me.stackBytes := X.bytes
  have hloc : ((T.setVm s.vm).setFrames (.invoking m args :: below)).localsInUse = s.localsInUse := by
    rw [State.localsInUse_invoking hF (meth := meth) (c := c) X.method X.code, State.localsInUse_invoking X.frames X.method X.code]
  have hroom : ((T.setVm s.vm).setFrames (.invoking m args :: below)).hasRoom e.platform R' = true := by
    have h := X.room
    simp only [State.hasRoom, Bool.and_eq_true, decide_eq_true_eq] at h ⊢
    obtain ⟨⟨⟨⟨g1, g2, g3, g4, g5, g6⟩, g7⟩, g8⟩, -⟩ := h
    rw [X.frames, List.length_cons] at g2 g3
    have q1 := X.heapSize
    have q2 := X.used
    simp only [hF, hloc, List.length_cons, State.stackLimits_setFrames, State.stackBytes_setFrames, hlim, hbyt]
    have k1 : ((T.setVm s.vm).setFrames (.invoking m args :: below)).heap.size + R'.cells ≤ e.platform.maxCells := by
      show T.heap.size + R'.cells ≤ _
      omega
    have k2 : ((T.setVm s.vm).setFrames (.invoking m args :: below)).slotsUsed + R'.slots ≤ e.platform.maxSlots := by
      show T.slotsUsed + R'.slots ≤ _
      omega
    exact ⟨⟨⟨⟨by omega, by omega, by omega, by omega, by omega, g6⟩, k1⟩, k2⟩, X.book⟩
  obtain ⟨g₀, hg0⟩ := Option.isSome_iff_exists.mp htop
  obtain ⟨r, hr⟩ := State.topJava?_eq_some.mp hg0
  have hsame : ((T.setVm s.vm).setFrames (.invoking m args :: below)).sameButNew (T.setVm s.vm) [] 0 0 := by
    have hdrop : T.heap.toList.drop T.heap.size = [] := List.drop_eq_nil_of_le (Nat.le_of_eq Array.length_toList)
    refine ⟨?_, Nat.le_refl _, Nat.le_refl _, ?_, ?_, fun a c9 h9 => ⟨c9, h9, rfl, rfl, fun _ _ => rfl⟩⟩
    · obtain ⟨t, ht, -⟩ := State.frames_cons hr
      show T.setVm s.vm = { ((T.setVm s.vm).setFrames (.invoking m args :: below)).setFrames (T.setVm s.vm).frames with heap := T.heap, slotsUsed := T.slotsUsed }
      rw [State.setFrames_setFrames, State.setFrames_self ht]
      rfl
    · show T.slotsUsed = T.slotsUsed + ((T.heap.toList.drop T.heap.size).map (·.slots.size)).sum
      rw [hdrop]
      rfl
    · show ((T.heap.toList.drop T.heap.size).map (·.slots.size)).sum ≤ 0
      rw [hdrop]
      exact Nat.le_refl _
  exact ⟨X.admits, X.cas, X.clock, hF, hroom, X.hears, X.method, X.code, X.here, X.tail, X.warmed, by rw [State.stackLimits_setFrames]; rfl, by rw [State.stackBytes_setFrames]; rfl, hsame⟩
/-- what didn't change: all that was there, where nothing was written -/
theorem m_sameH {s U : State} {k n : Nat} (h : s.sameButNew ({ U with vm := s.vm } : State) [] k n) : s.heap.size ≤ U.heap.size ∧ ∀ q : Nat, q < s.heap.size → U.heap[q]? = s.heap[q]? := by
  obtain ⟨-, h2, -, -, -, h6⟩ := h
  refine ⟨h2, fun q hq => ?_⟩
  have hc : s.heap[q]? = some s.heap[q] := Array.getElem?_eq_getElem hq
  obtain ⟨c', g1, g2, g3, g4⟩ := h6 q _ hc
  have hsl : c'.slots = (s.heap[q]).slots := Array.ext_getElem? fun i => g4 i (fun hm => by cases hm)
  have hcc : c' = s.heap[q] := by
    rw [hsl] at g2
    exact g2
  show U.heap[q]? = _
  have g5 : U.heap[q]? = some c' := g1
  rw [g5, hcc, hc]
/-- the words of a throw with a text that ride along; the four others speak of the heap -/
def m_nh (w : Cond) : Bool := match w with
  | .isRef _ => false
  | .laysStatic _ _ _ => false
  | _ => true
/-- a throw of a new object with a text -/
def m_tw (own : String) (ik is ic : Nat) (cls text : String) (names : List String) : Prop := (Bundle.fit cls = true ∧ ∀ n ∈ names, Bundle.fit n = true) ∧ Cond.classLink own ik cls ∈ m_Ts ∧ Cond.initialized cls ∈ m_Ts ∧ (own, is, text) ∈ m_strs ∧ (∀ w ∈ Bundle.ownAtoms own ic cls names, (w ∈ m_Ts ∨ (∃ q ∈ m_cas, w = .castable q.1 q.2) ∨ ∃ y ∈ m_decl, w = .declares y) ∨ w = .isRef (.static Bundle.tN "UNASSIGNED_STACK" Bundle.steD) ∨ w = .isRef (.static Bundle.tN "SUPPRESSED_SENTINEL" Bundle.listD) ∨ w = .laysStatic Bundle.tN "UNASSIGNED_STACK" Bundle.steD ∨ w = .laysStatic Bundle.tN "SUPPRESSED_SENTINEL" Bundle.listD)
set_option maxHeartbeats 1000000 in
theorem e_throw {g : MG} {sc : MS} {M : MM} {d w pc : Nat} {lv : ML} {st : List MV} {h : List MC} {mc ms : Nat} {Q : MO → List MC → Prop} {ik is ic : Nat} {cls text : String} {names : List String} (hl : g.1.stackTraces = false) (d0 : decode M.2.1 pc = .ok (.new ik, 3)) (d3 : decode M.2.1 (pc + 3) = .ok (.dup, 1)) (d4 : decode M.2.1 (pc + 4) = .ok (.ldc is, 2)) (d6 : decode M.2.1 (pc + 6) = .ok (.invokespecial ic, 3)) (d9 : decode M.2.1 (pc + 9) = .ok (.athrow, 1)) (hw : m_tw M.1.cls ik is ic cls text names) (hh : M.2.2.2.2 = []) (h8 : (st.map m_cat).sum ≤ 8) (hd6 : names.length + 4 ≤ d) (hw6 : 51 + 13 * (names.length + 1) ≤ w) (hc1 : 1 ≤ mc) (hs6 : 6 ≤ ms) (k : Q (.inr cls) h) : Ev g sc M d w pc lv st h mc ms Q := by
  intro p e R s m args below meth c A al0 H locs cells slots CT ST ls ws LV VS hF hSt hsc hR h1 h2 h3 h4 hA hK hP hD hS hW hal hls hlv hst
  obtain ⟨hx, hb, hr, hlk, hml, hown, hts, hnm, htb⟩ := id hF
  obtain ⟨⟨hcls, hnames⟩, hk, hini, hstr, hat⟩ := hw
  obtain ⟨sa, hsa⟩ := hSt.2.2.1 _ hstr
  have q1 := hR.1
  have q2 := hR.2
  have q3 := hst.cats
  intro T hT X
  have htr : e.platform.stackTraces = false := (show e.platform.stackTraces = g.1.stackTraces by rw [X.admits.platform]).trans hl
  have Y := m_again X (R' := { frames := R.frames, locals := R.locals, cells := 1, slots := 6 }) (Nat.le_refl _) (Nat.le_refl _) (by show cells + 1 ≤ _; omega) (by show slots + 6 ≤ _; omega)
  obtain ⟨s', hs'⟩ : ∃ z, z = (T.setVm s.vm).setFrames (.invoking m args :: below) := ⟨_, rfl⟩
  rw [← hs'] at Y
  have hvm : s'.vm = s.vm := by rw [hs']; rfl
  have hhp : s'.heap = H := by rw [hs']; exact hT
  have hW0 : s.WarmedH s'.vm := by rw [hvm]; exact State.WarmedH.refl s
  have hT9 : ∀ w9 ∈ m_Ts, w9.before args s' = true := fun w9 hw9 => word_at hW0 (good_of_word (m_Ts_good w9 hw9)) (hts w9 hw9)
  obtain ⟨⟨a1, a2, a3, a4⟩, hns, -, -, -, -, -, hcas, hdec⟩ := hSt
  have b1 : m_L Bundle.tN "UNASSIGNED_STACK" Bundle.steD A s' s'.heap := by rw [hhp]; exact (a1.kept hS.2.1).moved hW0.alike
  have b2 : m_L Bundle.tN "SUPPRESSED_SENTINEL" Bundle.listD A s' s'.heap := by rw [hhp]; exact (a2.kept hS.2.1).moved hW0.alike
  have b3 : va_Zq Bundle.tN "UNASSIGNED_STACK" Bundle.steD A s' s'.heap := by rw [hhp]; exact va_Zq.moved hW0.alike (va_Zq.kept a3 hS.2.1)
  have b4 : va_Zq Bundle.tN "SUPPRESSED_SENTINEL" Bundle.listD A s' s'.heap := by rw [hhp]; exact va_Zq.moved hW0.alike (va_Zq.kept a4 hS.2.1)
  have hall : ∀ w9 ∈ Bundle.ownAtoms M.1.cls ic cls names, w9.before args s' = true := by
    intro w9 hw9
    rcases hat w9 hw9 with (h9 | ⟨q, hq, rfl⟩ | ⟨y, hy, rfl⟩) | rfl | rfl | rfl | rfl
    · exact hT9 w9 h9
    · obtain ⟨c9, t9, g1, g2, g3⟩ := (hcas q hq).moved hW0.alike
      simp [Cond.before, Cond.holds, Cond.value, g1, g2, g3]
    · exact va_Nw.use rfl (va_Nw.warmD hW0 (hdec y hy))
    · exact m_Zq.isRef b3
    · exact m_Zq.isRef b4
    · exact b1.word
    · exact b2.word
  have hown' : s'.vm.findClass M.1.cls = some m.cls := by rw [hvm]; exact hown
  obtain ⟨vm₁, cX, kX, hfX, hkX, -, -, X₁, st1⟩ := Y.newCold hx (own := M.1.cls) (C := cls) (index := ik) (n := 6) hown' (hT9 _ hk) (hall _ (by simp [Bundle.ownAtoms])) (hT9 _ hini) (g := F0 m pc ls VS) rfl (by rw [hb]; exact d0) (Nat.le_refl _) (Nat.le_refl _)
  generalize hT1 : (T.setVm vm₁).pushCell { cls := cX, slots := kX.instanceTypes.map defaultValue, vm := .none } = T1 at X₁ st1
  have hcellA : T1.heap[T.heap.size]? = some (freshCell cX kX) := by rw [← hT1]; exact State.heap_pushCell_size _ _
  have d3' : decode c.code (pc + 3) = .ok (.dup, 1) := by rw [hb]; exact d3
  have d4' : decode c.code (pc + 4) = .ok (.ldc is, 2) := by rw [hb]; exact d4
  have hsa' : vk_R M.1.cls is text sa s' := vk_R.warm hW0 hsa
  have hcat : (Value.ref T.heap.size).category = 1 := rfl
  obtain ⟨U, hsteps, hrun, hend, hW9, hsame, ce, hce, hO⟩ := X₁.ctorThrowS hx htr (own := M.1.cls) (cls := cls) (names := names) (ic := ic) hown' hcls hnames hall (fun x hx9 => nomatch hx9) hfX hkX hcellA (by rw [hhp, hT]; exact Nat.le_refl _) (msg := .ref sa) rfl
    (g := { method := m, pc := pc + 6, locals := ls, stack := .ref sa :: .ref T.heap.size :: .ref T.heap.size :: VS, locked := none }) rfl (by rw [hml]; exact hls.1) rfl rfl (rest := VS) rfl (by rw [hb]; exact d6) (by rw [hb]; exact d9) (fun x hx9 => by rw [htb, hh] at hx9; cases hx9) (by show names.length + 3 < R.frames; omega) (by
      show 2 * 0 + _ + _ ≤ R.locals
      simp only [List.map_cons, List.sum_cons, hcat, q3]
      omega) hlk
  obtain ⟨f1, f2⟩ := m_sameH hsame
  rw [hhp] at f1 f2
  have hWs : s.WarmedH U.vm := State.WarmedH.trans hW0 hW9
  have hcl : s.vm.findClass cls = some ce.cls := by
    have h9 := hO.cls
    rw [hvm] at h9
    exact h9
  have hbig : s.sameButNew ({ U with vm := s.vm } : State) locs CT ST := by
    subst hs'
    obtain ⟨e1, e2⟩ := hsame
    rw [State.setFrames_setFrames] at e1
    have g2 : (T.setVm s.vm).sameButNew ({ U with vm := s.vm } : State) [] (0 + 1) (0 + 6) := ⟨e1, e2⟩
    have g3 := X.same.trans g2
    rw [List.append_nil] at g3
    exact g3.mono (by omega) (by omega)
  refine ⟨U, ?_, .threw T.heap.size, hrun, hend, Or.inr ⟨cls, T.heap.size, ce, h, ws, rfl, hce, hO.vm, hcl, k, hW, hP.kept (fun i q hi => f2 _ (hP i q hi).lt), va_K.moved hWs.alike hK, hD, hal⟩, ⟨Nat.le_trans hS.1 f1, fun q g1 g2 => (f2 q (Nat.lt_of_lt_of_le g1 hS.1)).trans (hS.2.1 q g1 g2)⟩, hWs, locs, hbig, hS.2.2⟩
  refine st1 _ ?_
  show Steps p.tables e below (T1.setTop { method := m, pc := pc + 3, locals := ls, stack := .ref T.heap.size :: VS, locked := none }) _
  jvm_step X₁.here [X₁.here.top, hx, d3', Value.category]
  exact X₁.ldcString hx (own := M.1.cls) (text := text) (index := is) (a := sa) hown' hsa'.1 hsa'.2
    (g := { method := m, pc := pc + 4, locals := ls, stack := .ref T.heap.size :: .ref T.heap.size :: VS, locked := none }) rfl d4' _ hsteps
end
section
/-- a row of the table whose class may still have to be linked: it takes the thing, or the search goes on; the tables note the link -/
theorem m_row {Q : Handler → Pre} {E : CtlPost} {e : Env} {d : Bool} {acts : List Action} {s : State} {f : JFrame} {a : Addr} {x : ExceptionTableEntry} {t : List ExceptionTableEntry} {c : ClassId} {cell : Cell} (hx : covers x f.pc = true) (h0 : x.catchType ≠ 0)
    (hl : s.vm.ClassLinks e.platform f.method.cls x.catchType c) (hcell : s.heap[a]? = some cell) (hobj : cell.vm.isStatics = false) (hk : ∃ k, s.vm.classes[cell.cls]? = some k) (hc : ∃ k, s.vm.classes[c]? = some k) :
    wp (findHandler.go f a (x :: t)) Q E e d acts s ↔ if s.vm.assignable cell.cls c = true then Q (.found x.handlerPc) d acts (s.setVm (s.vm.noted f.method.cls x.catchType (.cls c))) else wp (findHandler.go f a t) Q E e d acts (s.setVm (s.vm.noted f.method.cls x.catchType (.cls c))) := by
  have hns : ∀ k, cell.vm ≠ .statics k := VmData.ne_statics_of hobj
  have hal : s.vm.Alike (s.vm.noted f.method.cls x.catchType (.cls c)) := (Vm.Alike.refl s.vm).noted _ _ _
  obtain ⟨k1, hk1⟩ := hk
  obtain ⟨k2, hk2⟩ := hc
  obtain ⟨k3, hk3, -⟩ := hal.2.2 _ _ hk1
  obtain ⟨k4, hk4, -⟩ := hal.2.2 _ _ hk2
  obtain ⟨o1, o2⟩ := (resolveClass_links e.toSetting hl).op (op := VmOp.resolveClass f.method.cls x.catchType) rfl
  simp only [covers] at hx
  cases hfit : s.vm.assignable cell.cls c
  · have h9 : (s.vm.noted f.method.cls x.catchType (.cls c)).assignable cell.cls c = false := by rw [hal.assignable]; exact hfit
    simp [findHandler.go, hx, h0, o1, o2, hcell, hns, hk3, hk4, h9, VmOp.dirties, VmOp.acts]
  · have h9 : (s.vm.noted f.method.cls x.catchType (.cls c)).assignable cell.cls c = true := by rw [hal.assignable]; exact hfit
    simp [findHandler.go, hx, h0, o1, o2, hcell, hns, hk3, hk4, h9, VmOp.dirties, VmOp.acts]
/-- the frame at the handler, once the search has found it -/
theorem m_caught {tb : Tables} {e : Env} {s target : State} {g : JFrame} {c : Code} {below : List Frame} {a : Addr} {pc : Nat} {vm' : Vm} (h : At s g.method c below)
    (hfind : ∀ (Q : Handler → Pre) (E : CtlPost) (d : Bool) (acts : List Action), wp (findHandler g a) Q E e d acts ((s.setTop g).pushFrame (.throwing a)) ↔ Q (.found pc) d acts (((s.setTop g).pushFrame (.throwing a)).setVm vm'))
    (hrest : Steps tb e below ((s.setVm vm').setTop { g with pc := pc, stack := [.ref a] }) target) : Steps tb e below ((s.setTop g).pushFrame (.throwing a)) target := by
  have hstep : ∀ r : List Frame, (stepThrowing e ((s.setTop g).pushFrame (.throwing a)) a (.java g :: r)).Is ((((s.setTop g).pushFrame (.throwing a)).setVm vm').setFrames (.java { g with pc := pc, stack := [.ref a] } :: r)) [] := by
    intro r
    simp only [stepThrowing, searchFrame, vmDo]
    generalize hr : Sem.go _ e false [] ((s.setTop g).pushFrame (.throwing a)) = res
    obtain ⟨as, rfl, ha⟩ := Sem.eq_ok_of hr (a := Handler.found pc) (s' := ((s.setTop g).pushFrame (.throwing a)).setVm vm') (acts' := []) (by simp [hfind _ _ _ _])
    exact ⟨rfl, ha⟩
  obtain ⟨hgo, hw⟩ := h.throwing a
  refine Steps.head hgo hw ?_
  rw [stepThread_throwing (frames_entered h.top _), (hstep _).1]
  obtain ⟨g₀, hg⟩ := Option.isSome_iff_exists.mp h.top
  obtain ⟨r, hr⟩ := State.topJava?_eq_some.mp hg
  have hr' : (s.setVm vm').frames = .java g₀ :: r := hr
  rw [State.setTop_of_frames _ hr'] at hrest
  have e1 : ∀ (u : State) (F G : List Frame), ((u.setFrames F).setVm vm').setFrames G = (u.setVm vm').setFrames G := by
    intro u F G
    have q : (u.setFrames F).setVm vm' = (u.setVm vm').setFrames F := rfl
    rw [q, State.setFrames_setFrames]
  rw [hr, List.tail_cons, State.pushFrame, e1, State.setTop_of_frames _ hr, e1]
  exact hrest
/-- caught: by the first row of the table, or by the second where the first one's class is no kin; the handler keeps the thing in a local that nobody reads -/
theorem x_catch {g : MG} {sc : MS} {M : MM} {d w pc : Nat} {lv : ML} {h : List MC} {mc ms : Nat} {Q : MO → List MC → Prop} {E nm : String} {k9 : Fin 4} {i : Nat} (pre : List ExceptionTableEntry) (x : ExceptionTableEntry) (suf : List ExceptionTableEntry) (hsplit : tableOf M.2.2.2.2 = pre ++ x :: suf)
    (hpass : ∀ z ∈ pre, covers z pc = true ∧ z.catchType ≠ 0 ∧ ∃ nm : String, Cond.classLink M.1.cls z.catchType nm ∈ m_Ts ∧ (E, nm) ∈ m_ncs) (hx9 : covers x pc = true) (h0 : x.catchType ≠ 0) (hlink : Cond.classLink M.1.cls x.catchType nm ∈ m_Ts) (hcast : (E, nm) ∈ m_cas)
    (hd : decode M.2.1 x.handlerPc = .ok (.astore_n k9, 1)) (hi : (k9 : Nat) = i) (hn : i < M.2.2.1) {lv2 : ML} (hlv2 : lv.filter (fun q => !(q.1 == i) && !(q.1 + 1 == i && m_cat q.2 == 2)) = lv2) (kk : Ev g sc M d w (x.handlerPc + 1) lv2 [] h mc ms Q) : Ex g sc M d w pc lv h mc ms Q E := by
  intro p e R s m args below meth c A al0 H locs cells slots CT ST ls ws LV VS q9 ce hF hSt hsc hR h1 h2 h3 h4 hA hK hP hD hS hW hal hls hlv hce hcv hcl
  obtain ⟨hx, hb, hr, hlk, hml, hown, hts, hnm, htb⟩ := id hF
  subst hlv2
  intro T hT X
  have hpl : e.platform.magicAccessors = ({} : Platform).magicAccessors := by rw [X.admits.platform]
  have hobj : ce.vm.isStatics = false := by rw [hcv]; rfl
  obtain ⟨k0, hk0, -⟩ := Vm.findClass_spec hcl
  -- the search, from any tables that are warmer
  have hgo : ∀ (ps : List ExceptionTableEntry), (∀ z ∈ ps, z ∈ pre) → ∀ (S : State), s.WarmedH S.vm → S.heap[q9]? = some ce → ∃ vm', s.WarmedH vm' ∧ ∀ (Q9 : Handler → Pre) (E9 : CtlPost) (d9 : Bool) (acts : List Action), wp (findHandler.go (F0 m pc ls VS) q9 (ps ++ x :: suf)) Q9 E9 e d9 acts S ↔ Q9 (.found x.handlerPc) d9 acts (S.setVm vm') := by
    intro ps
    induction ps with
    | nil =>
      intro _ S hW9 hce9
      obtain ⟨c3, c4, hc3, hc4, hasg⟩ := hSt.2.2.2.2.2.2.2.1 _ hcast
      have hc3' : s.vm.findClass E = some c3 := hc3
      have hc4' : s.vm.findClass nm = some c4 := hc4
      cases Option.some.inj (hc3'.symm.trans hcl)
      obtain ⟨c5, hc5, hcl5⟩ := Cond.classLink_spec hown (hts _ hlink) e.platform hpl
      cases Option.some.inj (hc4'.symm.trans hc5)
      obtain ⟨dk, _, _, kt, hd9, _, _, _, _, hkt, _, hopen⟩ := hcl5.here
      obtain ⟨k1, hk1, -⟩ := hW9.alike.2.2 _ _ hk0
      obtain ⟨k2, hk2, -⟩ := hW9.alike.2.2 _ _ hkt
      refine ⟨_, hW9.noted hd9 hopen (State.rightAt_cls hcl5), fun Q9 E9 d9 acts => ?_⟩
      rw [List.nil_append, m_row (f := F0 m pc ls VS) hx9 h0 (hW9.classLinks hcl5) hce9 hobj ⟨k1, hk1⟩ ⟨k2, hk2⟩, if_pos (by rw [hW9.alike.assignable]; exact hasg)]
    | cons y ys ih =>
      intro hmem S hW9 hce9
      obtain ⟨hcov, hy0, nm2, hl2, hn2⟩ := hpass y (hmem y List.mem_cons_self)
      obtain ⟨c6, t6, hc6, ht6, hno⟩ := hSt.2.2.2.2.2.2.1 _ hn2
      have hc6' : s.vm.findClass E = some c6 := hc6
      cases Option.some.inj (hc6'.symm.trans hcl)
      obtain ⟨c5, hc5, hcl5⟩ := Cond.classLink_spec hown (hts _ hl2) e.platform hpl
      have ht6' : s.vm.findClass nm2 = some t6 := ht6
      cases Option.some.inj (ht6'.symm.trans hc5)
      obtain ⟨dk, _, _, kt, hd9, _, _, _, _, hkt, _, hopen⟩ := hcl5.here
      obtain ⟨k1, hk1, -⟩ := hW9.alike.2.2 _ _ hk0
      obtain ⟨k2, hk2, -⟩ := hW9.alike.2.2 _ _ hkt
      obtain ⟨vm', hW', hq⟩ := ih (fun z hz => hmem z (List.mem_cons_of_mem _ hz)) (S.setVm (S.vm.noted m.cls y.catchType (.cls t6))) (hW9.noted hd9 hopen (State.rightAt_cls hcl5)) hce9
      refine ⟨vm', hW', fun Q9 E9 d9 acts => ?_⟩
      rw [List.cons_append, m_row (f := F0 m pc ls VS) hcov hy0 (hW9.classLinks hcl5) hce9 hobj ⟨k1, hk1⟩ ⟨k2, hk2⟩, if_neg (by rw [hW9.alike.assignable, hno]; exact Bool.false_ne_true)]
      exact hq Q9 E9 d9 acts
  obtain ⟨vm', hW', hq⟩ := hgo pre (fun _ h9 => h9) ((T.setTop (F0 m pc ls VS)).pushFrame (.throwing q9)) X.warmed (by show T.heap[q9]? = _; rw [hT]; exact hce)
  have XV : Stand p g.1 e R s m args below meth c (T.setVm vm') locs cells slots := X.noted hW'
  have K : W p g.1 e R s m args below meth c H locs cells slots (m_Z g Q al0 A CT ST below s) (F0 m x.handlerPc ls [.ref q9]) := by
    refine lv_astore_n hx hb hd hi hls hn rfl (fun ls9 hls9 => ?_)
    exact kk p e R s m args below meth c A al0 H locs cells slots CT ST _ _ _ _ hF hSt hsc hR h1 h2 h3 h4 hA hK hP hD hS hW hal ⟨hls9.1, hls9.2.1, fun z hz => hls9.2.2 z (List.mem_cons_of_mem _ hz)⟩ hlv.filt m_vs.nil
  obtain ⟨t, a1, b1⟩ := K (T.setVm vm') hT XV
  refine ⟨t, m_caught (g := F0 m pc ls VS) X.here (vm' := vm') (pc := x.handlerPc) (fun Q9 E9 d9 acts => ?_) a1, b1⟩
  rw [Jvm.W.findHandler_eq (s := (T.setTop (F0 m pc ls VS)).pushFrame (.throwing q9)) (f := F0 m pc ls VS) (meth := meth) (code := c) X.method' X.code, htb, hsplit]
  exact hq Q9 E9 d9 acts
end
section
theorem e_mmax {g : MG} {sc : MS} {M : MM} {d w pc : Nat} {lv : ML} {st : List MV} {h : List MC} {mc ms : Nat} {Q : MO → List MC → Prop} {i : Nat} {x y : Int32} (hd : decode M.2.1 pc = .ok (.invokestatic i, 3)) (hl : Cond.methodLink M.1.cls i Lib.Math.max.name ∈ m_Ts) (hs : Cond.static Lib.Math.max.name ∈ m_Ts) (hi : Cond.initialized "java/lang/Math" ∈ m_Ts) (hc : Cond.code Lib.Math.max.name Lib.Math.max.code 2 (some .int) ∈ m_Ts) (h8 : (st.map m_cat).sum ≤ 8) (hd1 : 1 ≤ d) (hw1 : 21 ≤ w) (kk : Ev g sc M d w (pc + 3) lv (mi (if x < y then y else x) :: st) h mc ms Q) : Ev g sc M d w pc lv (mi y :: mi x :: st) h mc ms Q := by
  intro p e R s m args below meth c A al0 H locs cells slots CT ST ls ws LV VS hF hSt hsc hR h1 h2 h3 h4 hA hK hP hD hS hW hal hls hlv hst
  obtain ⟨hx, hb, hr, hlk, hml, hown, hts, hnm, htb⟩ := id hF
  obtain ⟨V0, VS0, rfl, hV0, hst1⟩ := hst.inv
  obtain ⟨V1, VS1, rfl, hV1, hst2⟩ := hst1.inv
  cases hV0
  cases hV1
  have q1 := hR.1
  have q2 := hR.2
  have q3 := hst2.cats
  exact va_mmax hx hb (by rw [hml]; exact hls.1.symm) hown (hts _ hl) (hts _ hs) (hts _ hi) (hts _ hc) (by omega) (by rw [q3]; omega) (by omega) (by omega) hd (kk p e R s m args below meth c A al0 H locs cells slots CT ST _ _ _ _ hF hSt hsc hR h1 h2 h3 h4 hA hK hP hD hS hW hal hls hlv (m_vs.cons rfl hst2))
theorem e_mmin {g : MG} {sc : MS} {M : MM} {d w pc : Nat} {lv : ML} {st : List MV} {h : List MC} {mc ms : Nat} {Q : MO → List MC → Prop} {i : Nat} {x y : Int32} (hd : decode M.2.1 pc = .ok (.invokestatic i, 3)) (hl : Cond.methodLink M.1.cls i Lib.Math.min.name ∈ m_Ts) (hs : Cond.static Lib.Math.min.name ∈ m_Ts) (hi : Cond.initialized "java/lang/Math" ∈ m_Ts) (hc : Cond.code Lib.Math.min.name Lib.Math.min.code 2 (some .int) ∈ m_Ts) (h8 : (st.map m_cat).sum ≤ 8) (hd1 : 1 ≤ d) (hw1 : 21 ≤ w) (kk : Ev g sc M d w (pc + 3) lv (mi (if y < x then y else x) :: st) h mc ms Q) : Ev g sc M d w pc lv (mi y :: mi x :: st) h mc ms Q := by
  intro p e R s m args below meth c A al0 H locs cells slots CT ST ls ws LV VS hF hSt hsc hR h1 h2 h3 h4 hA hK hP hD hS hW hal hls hlv hst
  obtain ⟨hx, hb, hr, hlk, hml, hown, hts, hnm, htb⟩ := id hF
  obtain ⟨V0, VS0, rfl, hV0, hst1⟩ := hst.inv
  obtain ⟨V1, VS1, rfl, hV1, hst2⟩ := hst1.inv
  cases hV0
  cases hV1
  have q1 := hR.1
  have q2 := hR.2
  have q3 := hst2.cats
  exact va_mmin hx hb (by rw [hml]; exact hls.1.symm) hown (hts _ hl) (hts _ hs) (hts _ hi) (hts _ hc) (by omega) (by rw [q3]; omega) (by omega) (by omega) hd (kk p e R s m args below meth c A al0 H locs cells slots CT ST _ _ _ _ hF hSt hsc hR h1 h2 h3 h4 hA hK hP hD hS hW hal hls hlv (m_vs.cons rfl hst2))
theorem e_copyi {g : MG} {sc : MS} {M : MM} {d w pc : Nat} {lv : ML} {st : List MV} {h : List MC} {mc ms : Nat} {Q : MO → List MC → Prop} {i r0 r1 n0 n1 : Nat} {f f1 : Nat → Int32} {sp dp n : Int32} (hd : decode M.2.1 pc = .ok (.invokestatic i, 3)) (hl : Cond.methodLink M.1.cls i arraycopyName ∈ m_Ts) (hnat : Cond.native arraycopyName ∈ m_Ts) (hs : Cond.static arraycopyName ∈ m_Ts) (hi : Cond.initialized "java/lang/System" ∈ m_Ts) (ho : h[r0]? = some (cI n0 f)) (ho1 : h[r1]? = some (cI n1 f1)) (g1 : ¬ sp < 0) (g2 : ¬ dp < 0) (g3 : ¬ n < 0) (g4 : sp.toNatClampNeg + n.toNatClampNeg ≤ n0) (g5 : dp.toNatClampNeg + n.toNatClampNeg ≤ n1) (h8 : (st.map m_cat).sum ≤ 8) (hd1 : 1 ≤ d) (hw1 : 8 + (nativeFrameWords "java/lang/System" "arraycopy" 5 + 11) ≤ w) (kk : Ev g sc M d w (pc + 3) lv st (h.set r1 (cI n1 (va_cpy f f1 sp.toNatClampNeg dp.toNatClampNeg n.toNatClampNeg))) mc ms Q) : Ev g sc M d w pc lv (mi n :: mi dp :: mr r1 :: mi sp :: mr r0 :: st) h mc ms Q := by
  intro p e R s m args below meth c A al0 H locs cells slots CT ST ls ws LV VS hF hSt hsc hR h1 h2 h3 h4 hA hK hP hD hS hW hal hls hlv hst
  obtain ⟨hx, hb, hr, hlk, hml, hown, hts, hnm, htb⟩ := id hF
  obtain ⟨V0, VS0, rfl, hV0, hst1⟩ := hst.inv
  obtain ⟨V1, VS1, rfl, hV1, hst2⟩ := hst1.inv
  obtain ⟨V2, VS2, rfl, hV2, hst3⟩ := hst2.inv
  obtain ⟨V3, VS3, rfl, hV3, hst4⟩ := hst3.inv
  obtain ⟨V4, VS4, rfl, hV4, hst5⟩ := hst4.inv
  cases hV0
  cases hV1
  cases hV3
  obtain ⟨a1, e1, rfl, hw1', hc1⟩ := m_ref hW ho1 hV2
  obtain rfl := m_c_i hc1
  obtain ⟨a0, e0, rfl, hw0', hc0⟩ := m_ref hW ho hV4
  obtain rfl := m_c_i hc0
  have q1 := hR.1
  have q2 := hR.2
  have q3 := hst5.cats
  refine va_copyi hx hb (by rw [hml]; exact hls.1.symm) hown (hts _ hl) (hts _ hnat) (hts _ hs) (hts _ hi) hK hP hD hS r0 r1 0 0 hw0' hw1' rfl rfl rfl g1 g2 g3 g4 g5 (fun _ _ => rfl) (by omega) (by rw [q3]; omega) hd (fun H9 locs9 hP9 hD9 hS9 => ?_)
  exact kk p e R s m args below meth c A al0 H9 locs9 cells slots CT ST _ _ _ _ hF hSt hsc hR h1 h2 h3 h4 hA hK hP9 hD9 hS9 (hW.set hw1' rfl) (by rw [m_al_set hw1']; exact hal) hls (by rw [m_al_set hw1']; exact hlv) (by rw [m_al_set hw1']; exact hst5)
end
section
/-! THE STORE: all numbers as integers. Fields of objects by place and number, arrays by place and index, the law's one long. A layout says what lies at a place. -/
abbrev SS : Type := (Nat → Nat → Int) × (Nat → Int → Int) × (Nat → Int64)
/-- an array of ints (0) or booleans (1), its length; a row of references; an object: its class, its fields (none: a number; some r: a reference that stays); a row of one long -/
abbrev LC : Type := (Nat × Nat) ⊕ (Nat × Nat × (Nat → Option Nat)) ⊕ (Nat × List (Option (Option Nat))) ⊕ Unit
abbrev LY : Type := Nat → Option LC
abbrev iv (x : Int) : Int32 := Int32.ofInt x
abbrev iI (x : Int) : MV := mi (iv x)
def s_f (σ : SS) (p : Nat) : Nat → List (Option (Option Nat)) → List MV
  | _, [] => []
  | k, none :: l => iI (σ.1 p k) :: s_f σ p (k + 1) l
  | k, some r :: l => .inr (.inr (.inl r)) :: s_f σ p (k + 1) l
def s_c (σ : SS) (p : Nat) : LC → MC
  | .inl (t, n) => .inl (t, n, fun j => iv (σ.2.1 p j))
  | .inr (.inl (ci, n, f)) => cR ci n f
  | .inr (.inr (.inl (ci, l))) => cO ci (s_f σ p 0 l)
  | .inr (.inr (.inr _)) => cL 1 (fun _ => σ.2.2 p)
def Rep (ly : LY) (h : List MC) (σ : SS) : Prop := ∀ (p : Nat) (c : LC), ly p = some c → h[p]? = some (s_c σ p c)
/-- a field is set; an element is set; the long is set -/
def sF (σ : SS) (p k : Nat) (v : Int) : SS := (fun a b => if a = p ∧ b = k then v else σ.1 a b, σ.2)
def sA (σ : SS) (p : Nat) (i v : Int) : SS := (σ.1, (fun a b => if a = p ∧ b = i then v else σ.2.1 a b), σ.2.2)
def sL (σ : SS) (p : Nat) (v : Int64) : SS := (σ.1, σ.2.1, fun a => if a = p then v else σ.2.2 a)
theorem s_f_len (σ : SS) (p : Nat) : ∀ (l : List (Option (Option Nat))) (k : Nat), (s_f σ p k l).length = l.length := by
  intro l
  induction l with
  | nil => intro k; rfl
  | cons a l ih =>
    intro k
    cases a with
    | none => show (s_f σ p (k + 1) l).length + 1 = _; rw [ih]; rfl
    | some r => show (s_f σ p (k + 1) l).length + 1 = _; rw [ih]; rfl
theorem s_f_at (σ : SS) (p : Nat) : ∀ (l : List (Option (Option Nat))) (k j : Nat), (s_f σ p k l)[j]? = (l[j]?).map (fun x => match x with | none => iI (σ.1 p (k + j)) | some r => .inr (.inr (.inl r))) := by
  intro l
  induction l with
  | nil => intro k j; simp [s_f]
  | cons a l ih =>
    intro k j
    cases j with
    | zero => cases a <;> rfl
    | succ j =>
      have h := ih (k + 1) j
      rw [show k + 1 + j = k + (j + 1) by omega] at h
      cases a with
      | none => show (s_f σ p (k + 1) l)[j]? = _; rw [h]; rfl
      | some r => show (s_f σ p (k + 1) l)[j]? = _; rw [h]; rfl
theorem s_f_eq {σ τ : SS} {p q : Nat} : ∀ (l : List (Option (Option Nat))) (k : Nat), (∀ j, k ≤ j → σ.1 p j = τ.1 q j) → s_f σ p k l = s_f τ q k l := by
  intro l
  induction l with
  | nil => intro k _; rfl
  | cons a l ih =>
    intro k h
    cases a with
    | none => unfold s_f; rw [ih (k + 1) (fun j hj => h j (by omega)), h k (Nat.le_refl k)]
    | some r => unfold s_f; rw [ih (k + 1) (fun j hj => h j (by omega))]
theorem s_c_eq {σ τ : SS} {p : Nat} (h1 : ∀ j, σ.1 p j = τ.1 p j) (h2 : ∀ j, σ.2.1 p j = τ.2.1 p j) (h3 : σ.2.2 p = τ.2.2 p) (c : LC) : s_c σ p c = s_c τ p c := by
  rcases c with ⟨t, n⟩ | ⟨ci, n, f⟩ | ⟨ci, l⟩ | u
  · show (Sum.inl (t, n, fun j : Nat => iv (σ.2.1 p j)) : MC) = Sum.inl (t, n, fun j : Nat => iv (τ.2.1 p j))
    simp only [h2]
  · rfl
  · show cO ci (s_f σ p 0 l) = cO ci (s_f τ p 0 l)
    rw [s_f_eq (q := p) l 0 (fun j _ => h1 j)]
  · show cL 1 (fun _ => σ.2.2 p) = cL 1 (fun _ => τ.2.2 p)
    rw [h3]
theorem s_f_set (σ : SS) (p : Nat) (v : Int) : ∀ (l : List (Option (Option Nat))) (k j : Nat), l[j]? = some none → (s_f σ p k l).set j (iI v) = s_f (sF σ p (k + j) v) p k l := by
  intro l
  induction l with
  | nil => intro k j h; simp at h
  | cons a l ih =>
    intro k j h
    cases j with
    | zero =>
      cases a with
      | none =>
        show iI v :: s_f σ p (k + 1) l = iI ((sF σ p k v).1 p k) :: s_f (sF σ p k v) p (k + 1) l
        have h8 : ∀ j, k + 1 ≤ j → σ.1 p j = (sF σ p k v).1 p j := by
          intro j hj
          have h9 : ¬ j = k := by omega
          simp [sF, h9]
        rw [s_f_eq (τ := sF σ p k v) (q := p) l (k + 1) h8]
        simp [sF]
      | some r => cases h
    | succ j =>
      have h9 := ih (k + 1) j h
      rw [show k + 1 + j = k + (j + 1) by omega] at h9
      cases a with
      | none =>
        show iI (σ.1 p k) :: (s_f σ p (k + 1) l).set j (iI v) = iI ((sF σ p (k + (j + 1)) v).1 p k) :: _
        rw [h9]
        simp [sF]
      | some r =>
        show _ :: (s_f σ p (k + 1) l).set j (iI v) = _
        rw [h9]
        rfl
/-- a cell of the layout is written: the others stay -/
theorem Rep.put {ly : LY} {h : List MC} {σ τ : SS} {p : Nat} {c : LC} (hR : Rep ly h σ) (hp : ly p = some c) (ho : ∀ q, q ≠ p → (∀ j, σ.1 q j = τ.1 q j) ∧ (∀ j, σ.2.1 q j = τ.2.1 q j) ∧ σ.2.2 q = τ.2.2 q) : Rep ly (h.set p (s_c τ p c)) τ := by
  intro q c9 hq
  by_cases hqp : p = q
  · subst hqp
    have hl := (List.getElem?_eq_some_iff.mp (hR p c hp)).1
    rw [List.getElem?_set_self hl]
    cases Option.some.inj (hp.symm.trans hq)
    rfl
  · rw [List.getElem?_set_ne hqp, hR q c9 hq]
    obtain ⟨a1, a2, a3⟩ := ho q (fun z => hqp z.symm)
    rw [s_c_eq a1 a2 a3 c9]
end
section
/-! ROWS OVER THE STORE: numbers are integers -/
abbrev rng (x : Int) : Prop := -2147483648 ≤ x ∧ x < 2147483648
theorem iv_toInt {x : Int} (h : rng x) : (iv x).toInt = x := Int32.toInt_ofInt_of_le (by omega) (by omega)
theorem iv_lt {x y : Int} (hx : rng x) (hy : rng y) : iv x < iv y ↔ x < y := by rw [Int32.lt_iff_toInt_lt, iv_toInt hx, iv_toInt hy]
theorem iv_le {x y : Int} (hx : rng x) (hy : rng y) : iv x ≤ iv y ↔ x ≤ y := by rw [Int32.le_iff_toInt_le, iv_toInt hx, iv_toInt hy]
theorem iv_eq {x y : Int} (hx : rng x) (hy : rng y) : iv x = iv y ↔ x = y := by rw [← Int32.toInt_inj, iv_toInt hx, iv_toInt hy]
theorem iv_cl {x : Int} (h0 : 0 ≤ x) (h : x < 2147483648) : (iv x).toNatClampNeg = x.toNat := Int32.toNatClampNeg_ofInt_of_le (by omega) (by omega)
theorem iv_in {x : Int} {n : Nat} (h0 : 0 ≤ x) (h : x < n) (hn : n < 2147483648) : vp_in (iv x) n := by
  rw [vp_in_iff, iv_toInt ⟨by omega, by omega⟩]
  exact ⟨h0, h⟩
theorem iv_nat (n : Nat) : iv (n : Int) = nI n := Int32.ofInt_eq_ofNat
theorem iv_of (x : Int32) : x = iv x.toInt := (Int32.ofInt_toInt x).symm
theorem iv_rng (x : Int32) : rng x.toInt := ⟨by have := Int32.le_toInt x; omega, by have := Int32.toInt_lt x; omega⟩
theorem iv_and {x : Int} (h0 : 0 ≤ x) (h : x < 2147483648) {m : Int32} (k : Nat) (hm : m.toBitVec.toNat = 2 ^ k - 1) : iv x &&& m = iv (x % (2 ^ k : Nat)) := by
  obtain ⟨n, rfl⟩ := Int.eq_ofNat_of_zero_le h0
  rw [iv_nat, pk_andN (by omega) k hm, ← iv_nat]
  rfl
theorem iv_shr {x : Int} (h0 : 0 ≤ x) (h : x < 2147483648) (s : Int32) (k : Nat) (hs : (s.toBitVec.smod 32).toNat = k) : iv x >>> s = iv (x / (2 ^ k : Nat)) := by
  obtain ⟨n, rfl⟩ := Int.eq_ofNat_of_zero_le h0
  rw [iv_nat, pk_shrN (by omega) s k hs, ← iv_nat]
  rfl
theorem z_iadd {g : MG} {sc : MS} {M : MM} {d w pc : Nat} {lv : ML} {st : List MV} {h : List MC} {mc ms : Nat} {Q : MO → List MC → Prop} {x y : Int} (hd : decode M.2.1 pc = .ok (.iadd, 1)) (k : Ev g sc M d w (pc + 1) lv (iI (x + y) :: st) h mc ms Q) : Ev g sc M d w pc lv (iI y :: iI x :: st) h mc ms Q := by
  refine e_iadd hd ?_
  rw [← Int32.ofInt_add]
  exact k
theorem z_isub {g : MG} {sc : MS} {M : MM} {d w pc : Nat} {lv : ML} {st : List MV} {h : List MC} {mc ms : Nat} {Q : MO → List MC → Prop} {x y : Int} (hd : decode M.2.1 pc = .ok (.isub, 1)) (k : Ev g sc M d w (pc + 1) lv (iI (x - y) :: st) h mc ms Q) : Ev g sc M d w pc lv (iI y :: iI x :: st) h mc ms Q := by
  refine e_isub hd ?_
  rw [← Int32.ofInt_sub]
  exact k
theorem z_imul {g : MG} {sc : MS} {M : MM} {d w pc : Nat} {lv : ML} {st : List MV} {h : List MC} {mc ms : Nat} {Q : MO → List MC → Prop} {x y : Int} (hd : decode M.2.1 pc = .ok (.imul, 1)) (k : Ev g sc M d w (pc + 1) lv (iI (x * y) :: st) h mc ms Q) : Ev g sc M d w pc lv (iI y :: iI x :: st) h mc ms Q := by
  refine e_imul hd ?_
  rw [← Int32.ofInt_mul]
  exact k
theorem z_iinc {g : MG} {sc : MS} {M : MM} {d w pc : Nat} {lv : ML} {st : List MV} {h : List MC} {mc ms : Nat} {Q : MO → List MC → Prop} {i : Nat} {n x : Int} (hd : decode M.2.1 pc = .ok (.iinc i n, 3)) (hg : m_get lv i = some (iI x)) (hn : i < M.2.2.1) {lv2 : ML} (hlv2 : m_put lv i (iI (x + n)) = lv2) (k : Ev g sc M d w (pc + 3) lv2 st h mc ms Q) : Ev g sc M d w pc lv st h mc ms Q := e_iinc hd hg (Int32.ofInt_add x n).symm hn hlv2 k
theorem z_if_eq {g : MG} {sc : MS} {M : MM} {d w pc : Nat} {lv : ML} {st : List MV} {h : List MC} {mc ms : Nat} {Q : MO → List MC → Prop} {x off : Int} {tgt : Nat} (hd : decode M.2.1 pc = .ok (.ifCond .eq off, 3)) (ht : (pc : Int) + off = (tgt : Int)) (hx : rng x) (kt : x = 0 → Ev g sc M d w tgt lv st h mc ms Q) (kf : ¬ x = 0 → Ev g sc M d w (pc + 3) lv st h mc ms Q) : Ev g sc M d w pc lv (iI x :: st) h mc ms Q := by
  have h0 : rng 0 := by omega
  have key := iv_eq hx h0
  refine e_if_eq hd ht (fun q => kt ?_) (fun q => kf ?_)
  · exact key.mp q
  · exact fun z => q (key.mpr z)
theorem z_icmp_eq {g : MG} {sc : MS} {M : MM} {d w pc : Nat} {lv : ML} {st : List MV} {h : List MC} {mc ms : Nat} {Q : MO → List MC → Prop} {x y off : Int} {tgt : Nat} (hd : decode M.2.1 pc = .ok (.if_icmp .eq off, 3)) (ht : (pc : Int) + off = (tgt : Int)) (hx : rng x) (hy : rng y) (kt : x = y → Ev g sc M d w tgt lv st h mc ms Q) (kf : ¬ x = y → Ev g sc M d w (pc + 3) lv st h mc ms Q) : Ev g sc M d w pc lv (iI y :: iI x :: st) h mc ms Q := by
  have key := iv_eq hx hy
  refine e_icmp_eq hd ht (fun q => kt ?_) (fun q => kf ?_)
  · exact key.mp q
  · exact fun z => q (key.mpr z)
theorem z_if_ne {g : MG} {sc : MS} {M : MM} {d w pc : Nat} {lv : ML} {st : List MV} {h : List MC} {mc ms : Nat} {Q : MO → List MC → Prop} {x off : Int} {tgt : Nat} (hd : decode M.2.1 pc = .ok (.ifCond .ne off, 3)) (ht : (pc : Int) + off = (tgt : Int)) (hx : rng x) (kt : ¬ x = 0 → Ev g sc M d w tgt lv st h mc ms Q) (kf : x = 0 → Ev g sc M d w (pc + 3) lv st h mc ms Q) : Ev g sc M d w pc lv (iI x :: st) h mc ms Q := by
  have h0 : rng 0 := by omega
  have key := iv_eq hx h0
  refine e_if_ne hd ht (fun q => kt ?_) (fun q => kf ?_)
  · exact fun z => q (key.mpr z)
  · exact key.mp q
theorem z_icmp_ne {g : MG} {sc : MS} {M : MM} {d w pc : Nat} {lv : ML} {st : List MV} {h : List MC} {mc ms : Nat} {Q : MO → List MC → Prop} {x y off : Int} {tgt : Nat} (hd : decode M.2.1 pc = .ok (.if_icmp .ne off, 3)) (ht : (pc : Int) + off = (tgt : Int)) (hx : rng x) (hy : rng y) (kt : ¬ x = y → Ev g sc M d w tgt lv st h mc ms Q) (kf : x = y → Ev g sc M d w (pc + 3) lv st h mc ms Q) : Ev g sc M d w pc lv (iI y :: iI x :: st) h mc ms Q := by
  have key := iv_eq hx hy
  refine e_icmp_ne hd ht (fun q => kt ?_) (fun q => kf ?_)
  · exact fun z => q (key.mpr z)
  · exact key.mp q
theorem z_if_lt {g : MG} {sc : MS} {M : MM} {d w pc : Nat} {lv : ML} {st : List MV} {h : List MC} {mc ms : Nat} {Q : MO → List MC → Prop} {x off : Int} {tgt : Nat} (hd : decode M.2.1 pc = .ok (.ifCond .lt off, 3)) (ht : (pc : Int) + off = (tgt : Int)) (hx : rng x) (kt : x < 0 → Ev g sc M d w tgt lv st h mc ms Q) (kf : 0 ≤ x → Ev g sc M d w (pc + 3) lv st h mc ms Q) : Ev g sc M d w pc lv (iI x :: st) h mc ms Q := by
  have h0 : rng 0 := by omega
  have key := iv_lt hx h0
  refine e_if_lt hd ht (fun q => kt ?_) (fun q => kf ?_)
  · exact key.mp q
  · have q2 : ¬ (x < 0) := fun z => q (key.mpr z)
    omega
theorem z_icmp_lt {g : MG} {sc : MS} {M : MM} {d w pc : Nat} {lv : ML} {st : List MV} {h : List MC} {mc ms : Nat} {Q : MO → List MC → Prop} {x y off : Int} {tgt : Nat} (hd : decode M.2.1 pc = .ok (.if_icmp .lt off, 3)) (ht : (pc : Int) + off = (tgt : Int)) (hx : rng x) (hy : rng y) (kt : x < y → Ev g sc M d w tgt lv st h mc ms Q) (kf : y ≤ x → Ev g sc M d w (pc + 3) lv st h mc ms Q) : Ev g sc M d w pc lv (iI y :: iI x :: st) h mc ms Q := by
  have key := iv_lt hx hy
  refine e_icmp_lt hd ht (fun q => kt ?_) (fun q => kf ?_)
  · exact key.mp q
  · have q2 : ¬ (x < y) := fun z => q (key.mpr z)
    omega
theorem z_if_ge {g : MG} {sc : MS} {M : MM} {d w pc : Nat} {lv : ML} {st : List MV} {h : List MC} {mc ms : Nat} {Q : MO → List MC → Prop} {x off : Int} {tgt : Nat} (hd : decode M.2.1 pc = .ok (.ifCond .ge off, 3)) (ht : (pc : Int) + off = (tgt : Int)) (hx : rng x) (kt : 0 ≤ x → Ev g sc M d w tgt lv st h mc ms Q) (kf : x < 0 → Ev g sc M d w (pc + 3) lv st h mc ms Q) : Ev g sc M d w pc lv (iI x :: st) h mc ms Q := by
  have h0 : rng 0 := by omega
  have key := iv_le h0 hx
  refine e_if_ge hd ht (fun q => kt ?_) (fun q => kf ?_)
  · exact key.mp q
  · have q2 : ¬ (0 ≤ x) := fun z => q (key.mpr z)
    omega
theorem z_icmp_ge {g : MG} {sc : MS} {M : MM} {d w pc : Nat} {lv : ML} {st : List MV} {h : List MC} {mc ms : Nat} {Q : MO → List MC → Prop} {x y off : Int} {tgt : Nat} (hd : decode M.2.1 pc = .ok (.if_icmp .ge off, 3)) (ht : (pc : Int) + off = (tgt : Int)) (hx : rng x) (hy : rng y) (kt : y ≤ x → Ev g sc M d w tgt lv st h mc ms Q) (kf : x < y → Ev g sc M d w (pc + 3) lv st h mc ms Q) : Ev g sc M d w pc lv (iI y :: iI x :: st) h mc ms Q := by
  have key := iv_le hy hx
  refine e_icmp_ge hd ht (fun q => kt ?_) (fun q => kf ?_)
  · exact key.mp q
  · have q2 : ¬ (y ≤ x) := fun z => q (key.mpr z)
    omega
theorem z_if_gt {g : MG} {sc : MS} {M : MM} {d w pc : Nat} {lv : ML} {st : List MV} {h : List MC} {mc ms : Nat} {Q : MO → List MC → Prop} {x off : Int} {tgt : Nat} (hd : decode M.2.1 pc = .ok (.ifCond .gt off, 3)) (ht : (pc : Int) + off = (tgt : Int)) (hx : rng x) (kt : 0 < x → Ev g sc M d w tgt lv st h mc ms Q) (kf : x ≤ 0 → Ev g sc M d w (pc + 3) lv st h mc ms Q) : Ev g sc M d w pc lv (iI x :: st) h mc ms Q := by
  have h0 : rng 0 := by omega
  have key := iv_lt h0 hx
  refine e_if_gt hd ht (fun q => kt ?_) (fun q => kf ?_)
  · exact key.mp q
  · have q2 : ¬ (0 < x) := fun z => q (key.mpr z)
    omega
theorem z_icmp_gt {g : MG} {sc : MS} {M : MM} {d w pc : Nat} {lv : ML} {st : List MV} {h : List MC} {mc ms : Nat} {Q : MO → List MC → Prop} {x y off : Int} {tgt : Nat} (hd : decode M.2.1 pc = .ok (.if_icmp .gt off, 3)) (ht : (pc : Int) + off = (tgt : Int)) (hx : rng x) (hy : rng y) (kt : y < x → Ev g sc M d w tgt lv st h mc ms Q) (kf : x ≤ y → Ev g sc M d w (pc + 3) lv st h mc ms Q) : Ev g sc M d w pc lv (iI y :: iI x :: st) h mc ms Q := by
  have key := iv_lt hy hx
  refine e_icmp_gt hd ht (fun q => kt ?_) (fun q => kf ?_)
  · exact key.mp q
  · have q2 : ¬ (y < x) := fun z => q (key.mpr z)
    omega
theorem z_if_le {g : MG} {sc : MS} {M : MM} {d w pc : Nat} {lv : ML} {st : List MV} {h : List MC} {mc ms : Nat} {Q : MO → List MC → Prop} {x off : Int} {tgt : Nat} (hd : decode M.2.1 pc = .ok (.ifCond .le off, 3)) (ht : (pc : Int) + off = (tgt : Int)) (hx : rng x) (kt : x ≤ 0 → Ev g sc M d w tgt lv st h mc ms Q) (kf : 0 < x → Ev g sc M d w (pc + 3) lv st h mc ms Q) : Ev g sc M d w pc lv (iI x :: st) h mc ms Q := by
  have h0 : rng 0 := by omega
  have key := iv_le hx h0
  refine e_if_le hd ht (fun q => kt ?_) (fun q => kf ?_)
  · exact key.mp q
  · have q2 : ¬ (x ≤ 0) := fun z => q (key.mpr z)
    omega
theorem z_icmp_le {g : MG} {sc : MS} {M : MM} {d w pc : Nat} {lv : ML} {st : List MV} {h : List MC} {mc ms : Nat} {Q : MO → List MC → Prop} {x y off : Int} {tgt : Nat} (hd : decode M.2.1 pc = .ok (.if_icmp .le off, 3)) (ht : (pc : Int) + off = (tgt : Int)) (hx : rng x) (hy : rng y) (kt : x ≤ y → Ev g sc M d w tgt lv st h mc ms Q) (kf : y < x → Ev g sc M d w (pc + 3) lv st h mc ms Q) : Ev g sc M d w pc lv (iI y :: iI x :: st) h mc ms Q := by
  have key := iv_le hx hy
  refine e_icmp_le hd ht (fun q => kt ?_) (fun q => kf ?_)
  · exact key.mp q
  · have q2 : ¬ (x ≤ y) := fun z => q (key.mpr z)
    omega
theorem z_and3 {g : MG} {sc : MS} {M : MM} {d w pc : Nat} {lv : ML} {st : List MV} {h : List MC} {mc ms : Nat} {Q : MO → List MC → Prop} {x : Int} (hd : decode M.2.1 pc = .ok (.iand, 1)) (h0 : 0 ≤ x) (h1 : x < 2147483648) (k : Ev g sc M d w (pc + 1) lv (iI (x % 4) :: st) h mc ms Q) : Ev g sc M d w pc lv (iI 3 :: iI x :: st) h mc ms Q := by
  refine e_iand hd ?_
  rw [iv_and h0 h1 2 (by decide)]
  exact k
theorem z_shr2 {g : MG} {sc : MS} {M : MM} {d w pc : Nat} {lv : ML} {st : List MV} {h : List MC} {mc ms : Nat} {Q : MO → List MC → Prop} {x : Int} (hd : decode M.2.1 pc = .ok (.ishr, 1)) (h0 : 0 ≤ x) (h1 : x < 2147483648) (k : Ev g sc M d w (pc + 1) lv (iI (x / 4) :: st) h mc ms Q) : Ev g sc M d w pc lv (iI 2 :: iI x :: st) h mc ms Q := by
  refine e_ishr hd ?_
  rw [iv_shr h0 h1 _ 2 (by decide)]
  exact k
theorem z_gi {g : MG} {sc : MS} {M : MM} {d w pc : Nat} {lv : ML} {st : List MV} {h : List MC} {mc ms : Nat} {Q : MO → List MC → Prop} {ly : LY} {σ : SS} {i ci k p : Nat} {l : List (Option (Option Nat))} (hd : decode M.2.1 pc = .ok (.getfield i, 3)) (hf : m_fl M.1.cls i ci k) (hR : Rep ly h σ) (hp : ly p = some (.inr (.inr (.inl (ci, l))))) (hl : l[k]? = some none) (kk : Ev g sc M d w (pc + 3) lv (iI (σ.1 p k) :: st) h mc ms Q) : Ev g sc M d w pc lv (mr p :: st) h mc ms Q := by
  refine e_getfield hd hf (hR p _ hp) ?_ kk
  rw [s_f_at, hl, Nat.zero_add]
  rfl
theorem z_gr {g : MG} {sc : MS} {M : MM} {d w pc : Nat} {lv : ML} {st : List MV} {h : List MC} {mc ms : Nat} {Q : MO → List MC → Prop} {ly : LY} {σ : SS} {i ci k p : Nat} {r : Option Nat} {l : List (Option (Option Nat))} (hd : decode M.2.1 pc = .ok (.getfield i, 3)) (hf : m_fl M.1.cls i ci k) (hR : Rep ly h σ) (hp : ly p = some (.inr (.inr (.inl (ci, l))))) (hl : l[k]? = some (some r)) (kk : Ev g sc M d w (pc + 3) lv (.inr (.inr (.inl r)) :: st) h mc ms Q) : Ev g sc M d w pc lv (mr p :: st) h mc ms Q := by
  refine e_getfield hd hf (hR p _ hp) ?_ kk
  rw [s_f_at, hl]
  rfl
theorem z_pi {g : MG} {sc : MS} {M : MM} {d w pc : Nat} {lv : ML} {st : List MV} {h : List MC} {mc ms : Nat} {Q : MO → List MC → Prop} {ly : LY} {σ : SS} {i ci k p : Nat} {v : Int} {l : List (Option (Option Nat))} (hd : decode M.2.1 pc = .ok (.putfield i, 3)) (hf : m_fp M.1.cls i ci k .int false) (hR : Rep ly h σ) (hp : ly p = some (.inr (.inr (.inl (ci, l))))) (hl : l[k]? = some none) (kk : ∀ h : List MC, Rep ly h (sF σ p k v) → Ev g sc M d w (pc + 3) lv st h mc ms Q) : Ev g sc M d w pc lv (iI v :: mr p :: st) h mc ms Q := by
  refine e_putfield hd hf (hR p _ hp) ?_ (m_fits_i _) rfl (kk _ ?_)
  · rw [s_f_len]
    exact (List.getElem?_eq_some_iff.mp hl).1
  · have h9 := hR.put (τ := sF σ p k v) hp (fun q hq => ⟨fun j => by simp [sF, hq], fun _ => rfl, rfl⟩)
    have e9 : s_c (sF σ p k v) p (.inr (.inr (.inl (ci, l)))) = cO ci ((s_f σ p 0 l).set k (iI v)) := by
      rw [s_f_set σ p v l 0 k hl, Nat.zero_add]
      rfl
    rw [e9] at h9
    exact h9
theorem z_ald {g : MG} {sc : MS} {M : MM} {d w pc : Nat} {lv : ML} {st : List MV} {h : List MC} {mc ms : Nat} {Q : MO → List MC → Prop} {ly : LY} {σ : SS} {p n : Nat} {i : Int} (hd : decode M.2.1 pc = .ok (.iaload, 1)) (hR : Rep ly h σ) (hp : ly p = some (.inl (0, n))) (h0 : 0 ≤ i) (h1 : i < n) (hn : n < 2147483648) (kk : Ev g sc M d w (pc + 1) lv (iI (σ.2.1 p i) :: st) h mc ms Q) : Ev g sc M d w pc lv (iI i :: mr p :: st) h mc ms Q := by
  refine e_iaload hd (hR p _ hp) (iv_in h0 h1 hn) ?_
  rw [iv_cl h0 (by omega), Int.toNat_of_nonneg h0]
  exact kk
theorem z_bld {g : MG} {sc : MS} {M : MM} {d w pc : Nat} {lv : ML} {st : List MV} {h : List MC} {mc ms : Nat} {Q : MO → List MC → Prop} {ly : LY} {σ : SS} {p n : Nat} {i : Int} (hd : decode M.2.1 pc = .ok (.baload, 1)) (hR : Rep ly h σ) (hp : ly p = some (.inl (1, n))) (h0 : 0 ≤ i) (h1 : i < n) (hn : n < 2147483648) (kk : Ev g sc M d w (pc + 1) lv (iI (σ.2.1 p i) :: st) h mc ms Q) : Ev g sc M d w pc lv (iI i :: mr p :: st) h mc ms Q := by
  refine e_baload hd (hR p _ hp) (iv_in h0 h1 hn) ?_
  rw [iv_cl h0 (by omega), Int.toNat_of_nonneg h0]
  exact kk
theorem s_upd {σ : SS} {p : Nat} {i v : Int} (h0 : 0 ≤ i) (h1 : i < 2147483648) : upd (fun j : Nat => iv (σ.2.1 p j)) (iv i).toNatClampNeg (iv v) = fun j : Nat => iv ((sA σ p i v).2.1 p j) := by
  rw [iv_cl h0 h1]
  funext j
  unfold upd sA
  by_cases hj : j = i.toNat
  · subst hj
    simp [Int.toNat_of_nonneg h0]
  · have h2 : ¬ (j : Int) = i := by omega
    simp [hj, h2]
theorem z_ast {g : MG} {sc : MS} {M : MM} {d w pc : Nat} {lv : ML} {st : List MV} {h : List MC} {mc ms : Nat} {Q : MO → List MC → Prop} {ly : LY} {σ : SS} {p n : Nat} {i v : Int} (hd : decode M.2.1 pc = .ok (.iastore, 1)) (hR : Rep ly h σ) (hp : ly p = some (.inl (0, n))) (h0 : 0 ≤ i) (h1 : i < n) (hn : n < 2147483648) (kk : ∀ h : List MC, Rep ly h (sA σ p i v) → Ev g sc M d w (pc + 1) lv st h mc ms Q) : Ev g sc M d w pc lv (iI v :: iI i :: mr p :: st) h mc ms Q := by
  refine e_iastore hd (hR p _ hp) (iv_in h0 h1 hn) (kk _ ?_)
  rw [s_upd h0 (by omega)]
  exact hR.put (τ := sA σ p i v) hp (fun q hq => ⟨fun _ => rfl, fun j => by simp [sA, hq], rfl⟩)
theorem z_bst {g : MG} {sc : MS} {M : MM} {d w pc : Nat} {lv : ML} {st : List MV} {h : List MC} {mc ms : Nat} {Q : MO → List MC → Prop} {ly : LY} {σ : SS} {p n : Nat} {i v : Int} (hd : decode M.2.1 pc = .ok (.bastore, 1)) (hR : Rep ly h σ) (hp : ly p = some (.inl (1, n))) (h0 : 0 ≤ i) (h1 : i < n) (hn : n < 2147483648) (hv : v = 0 ∨ v = 1) (kk : ∀ h : List MC, Rep ly h (sA σ p i v) → Ev g sc M d w (pc + 1) lv st h mc ms Q) : Ev g sc M d w pc lv (iI v :: iI i :: mr p :: st) h mc ms Q := by
  refine e_bastore hd (hR p _ hp) (iv_in h0 h1 hn) (by rcases hv with rfl | rfl <;> decide) (kk _ ?_)
  rw [s_upd h0 (by omega)]
  exact hR.put (τ := sA σ p i v) hp (fun q hq => ⟨fun _ => rfl, fun j => by simp [sA, hq], rfl⟩)
theorem z_len {g : MG} {sc : MS} {M : MM} {d w pc : Nat} {lv : ML} {st : List MV} {h : List MC} {mc ms : Nat} {Q : MO → List MC → Prop} {ly : LY} {σ : SS} {p n : Nat} (hd : decode M.2.1 pc = .ok (.arraylength, 1)) (hR : Rep ly h σ) (hp : ly p = some (.inl (0, n))) (kk : Ev g sc M d w (pc + 1) lv (iI (n : Int) :: st) h mc ms Q) : Ev g sc M d w pc lv (mr p :: st) h mc ms Q := by
  refine e_alenI hd (hR p _ hp) ?_
  rw [← Int32.ofInt_eq_ofNat]
  exact kk
theorem z_iret {g : MG} {sc : MS} {M : MM} {d w pc : Nat} {lv : ML} {h : List MC} {mc ms : Nat} {Q : MO → List MC → Prop} {x : Int} (hd : decode M.2.1 pc = .ok (.ireturn, 1)) (hret : M.2.2.2.1 = some .int) (kk : Q (.inl (some (iI x))) h) : Ev g sc M d w pc lv [iI x] h mc ms Q := e_ireturn hd hret rfl kk
theorem z_zret {g : MG} {sc : MS} {M : MM} {d w pc : Nat} {lv : ML} {h : List MC} {mc ms : Nat} {Q : MO → List MC → Prop} {x : Int} (hd : decode M.2.1 pc = .ok (.ireturn, 1)) (hret : M.2.2.2.1 = some .boolean) (hx : x = 0 ∨ x = 1) (kk : Q (.inl (some (iI x))) h) : Ev g sc M d w pc lv [iI x] h mc ms Q := e_ireturn hd hret (by rcases hx with rfl | rfl <;> decide) kk
/-! CONTRACTS AND CALLS -/
/-- a method's contract: F frames, L words of locals; its answer and heap have P, or it throws with X -/
def Ct (g : MG) (N : MM) (F L : Nat) (av : List MV) (h : List MC) (mc ms : Nat) (P : Option MV → List MC → Prop) (X : String → List MC → Prop) : Prop :=
  ∀ (d w : Nat) (Q : MO → List MC → Prop), F ≤ d → L ≤ w → (∀ r h9, P r h9 → Q (.inl r) h9) → (∀ E h9, X E h9 → Q (.inr E) h9) → Ev g none N d w 0 (m_args 0 av) [] h mc ms Q
abbrev noX : String → List MC → Prop := fun _ _ => False
theorem Ev.room {g : MG} {sc : MS} {M : MM} {d w pc : Nat} {lv : ML} {st : List MV} {h : List MC} {mc ms mc2 ms2 : Nat} {Q : MO → List MC → Prop} (h1 : mc2 ≤ mc) (h2 : ms2 ≤ ms) (k : Ev g sc M d w pc lv st h mc2 ms2 Q) : Ev g sc M d w pc lv st h mc ms Q := by
  intro p e R s m args below meth c A al0 H locs cells slots CT ST ls ws LV VS hF hSt hsc hR g1 g2 g3 g4 hA hK hP hD hS hW hal hls hlv hst
  exact k p e R s m args below meth c A al0 H locs cells slots CT ST ls ws LV VS hF hSt hsc hR (by omega) (by omega) g3 g4 hA hK hP hD hS hW hal hls hlv hst
theorem z_invV {g : MG} {sc : MS} {M N : MM} {F L d w pc : Nat} {lv : ML} {st' : List MV} {h : List MC} {mc ms mc1 ms1 mc2 ms2 : Nat} {Q : MO → List MC → Prop} {P : Option MV → List MC → Prop} {X : String → List MC → Prop} {i n r ci : Nat} {av : List MV} {fs : List MV} {T : u_T} {NN : Nat} (hd : decode M.2.1 pc = .ok (.invokevirtual i, 3)) (hN : m_me N n) (hl : m_lV M.1.cls i N) (hC : Ct g N F L (mr r :: av) h mc1 ms1 P X) {st : List MV} (hst0 : st = av.reverse ++ mr r :: st') (hn : av.length = n) (hsl : ((mr r :: av).map m_cat).sum ≤ N.2.2.1) (hns : av.all m_nsc = true) (h8 : (st'.map m_cat).sum ≤ 8) (hd2 : F + 1 ≤ d) (hw2 : 19 + N.2.2.1 + L ≤ w) (ho : h[r]? = some (cO ci fs)) (hci : m_cl[ci]? = some (N.1.cls, T, NN)) (hmc : mc1 + mc2 ≤ mc) (hms : ms1 + ms2 ≤ ms) (kr : ∀ (r : Option MV) (h9 : List MC), P r h9 → Ev g sc M d w (pc + 3) lv (r.toList ++ st') h9 mc2 ms2 Q) (kx : ∀ (E : String) (h9 : List MC), X E h9 → Ex g sc M d w pc lv h9 mc2 ms2 Q E) : Ev g sc M d w pc lv st h mc ms Q :=
  Ev.room hmc hms <| e_invV (Q9 := fun o h9 => match o with | .inl r => P r h9 | .inr E => X E h9) hd hN hl hst0 hn hsl hns h8 hd2 hw2 ho hci (hC F L _ (Nat.le_refl _) (Nat.le_refl _) (fun _ _ q => q) (fun _ _ q => q)) (fun r h9 q => kr r h9 q) (fun E h9 q => kx E h9 q)
theorem z_invS {g : MG} {sc : MS} {M N : MM} {F L d w pc : Nat} {lv : ML} {st' : List MV} {h : List MC} {mc ms mc1 ms1 mc2 ms2 : Nat} {Q : MO → List MC → Prop} {P : Option MV → List MC → Prop} {X : String → List MC → Prop} {i n : Nat} {av : List MV} (hd : decode M.2.1 pc = .ok (.invokestatic i, 3)) (hN : m_me N n) (hl : m_lS M.1.cls i N) (hC : Ct g N F L (av) h mc1 ms1 P X) {st : List MV} (hst0 : st = av.reverse ++ st') (hn : av.length = n) (hsl : ((av).map m_cat).sum ≤ N.2.2.1) (hns : av.all m_nsc = true) (h8 : (st'.map m_cat).sum ≤ 8) (hd2 : F + 1 ≤ d) (hw2 : 19 + N.2.2.1 + L ≤ w) (hmc : mc1 + mc2 ≤ mc) (hms : ms1 + ms2 ≤ ms) (kr : ∀ (r : Option MV) (h9 : List MC), P r h9 → Ev g sc M d w (pc + 3) lv (r.toList ++ st') h9 mc2 ms2 Q) (kx : ∀ (E : String) (h9 : List MC), X E h9 → Ex g sc M d w pc lv h9 mc2 ms2 Q E) : Ev g sc M d w pc lv st h mc ms Q :=
  Ev.room hmc hms <| e_invS (Q9 := fun o h9 => match o with | .inl r => P r h9 | .inr E => X E h9) hd hN hl hst0 hn hsl hns h8 hd2 hw2  (hC F L _ (Nat.le_refl _) (Nat.le_refl _) (fun _ _ q => q) (fun _ _ q => q)) (fun r h9 q => kr r h9 q) (fun E h9 q => kx E h9 q)
theorem z_invI {g : MG} {sc : MS} {M N : MM} {F L d w pc : Nat} {lv : ML} {st' : List MV} {h : List MC} {mc ms mc1 ms1 mc2 ms2 : Nat} {Q : MO → List MC → Prop} {P : Option MV → List MC → Prop} {X : String → List MC → Prop} {i n r : Nat} {av : List MV} {cc9 : MC} (hd : decode M.2.1 pc = .ok (.invokespecial i, 3)) (hN : m_me N n) (hl : m_lI M.1.cls i N) (hC : Ct g N F L (mr r :: av) h mc1 ms1 P X) {st : List MV} (hst0 : st = av.reverse ++ mr r :: st') (hn : av.length = n) (hsl : ((mr r :: av).map m_cat).sum ≤ N.2.2.1) (hns : av.all m_nsc = true) (h8 : (st'.map m_cat).sum ≤ 8) (hd2 : F + 1 ≤ d) (hw2 : 19 + N.2.2.1 + L ≤ w) (ho : h[r]? = some cc9) (hmc : mc1 + mc2 ≤ mc) (hms : ms1 + ms2 ≤ ms) (kr : ∀ (r : Option MV) (h9 : List MC), P r h9 → Ev g sc M d w (pc + 3) lv (r.toList ++ st') h9 mc2 ms2 Q) (kx : ∀ (E : String) (h9 : List MC), X E h9 → Ex g sc M d w pc lv h9 mc2 ms2 Q E) : Ev g sc M d w pc lv st h mc ms Q :=
  Ev.room hmc hms <| e_invI (Q9 := fun o h9 => match o with | .inl r => P r h9 | .inr E => X E h9) hd hN hl hst0 hn hsl hns h8 hd2 hw2 ho (hC F L _ (Nat.le_refl _) (Nat.le_refl _) (fun _ _ q => q) (fun _ _ q => q)) (fun r h9 q => kr r h9 q) (fun E h9 q => kx E h9 q)
end
