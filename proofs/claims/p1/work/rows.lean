section
-- ===== PART A: goes FIRST, ahead of the names: the tables' words, and 'selects' of the private methods out of them =====
/-- a private method of a class that the tables say can be made, by its rows of tables_1 -/
def lw_okq (q : MethodName × Nat) : Prop := (q.1.cls ≠ "java/lang/invoke/MethodHandle" ∧ q.1.cls ≠ "java/lang/invoke/VarHandle") ∧ Cond.instantiable q.1.cls q.2 ∈ tables_1 ∧ Cond.privateMethod q.1 ∈ tables_1 ∧ Cond.instanceMethod q.1 ∈ tables_1
theorem lw_p0 : lw_okq (⟨"BackLogic$Grammar", "begin", "(LBackLogic$Tape;)V"⟩, 6) := ⟨⟨by decide +kernel, by decide +kernel⟩, List.mem_of_getElem? (i := 75) (by decide +kernel), List.mem_of_getElem? (i := 322) (by decide +kernel), List.mem_of_getElem? (i := 323) (by decide +kernel)⟩
theorem lw_p1 : lw_okq (⟨"BackLogic$Tape", "byteAt", "(I)I"⟩, 10) := ⟨⟨by decide +kernel, by decide +kernel⟩, List.mem_of_getElem? (i := 30) (by decide +kernel), List.mem_of_getElem? (i := 334) (by decide +kernel), List.mem_of_getElem? (i := 335) (by decide +kernel)⟩
theorem lw_p2 : lw_okq (⟨"BackLogic$Tape", "scanWord", "()V"⟩, 10) := ⟨⟨by decide +kernel, by decide +kernel⟩, List.mem_of_getElem? (i := 30) (by decide +kernel), List.mem_of_getElem? (i := 344) (by decide +kernel), List.mem_of_getElem? (i := 345) (by decide +kernel)⟩
theorem lw_p3 : lw_okq (⟨"BackLogic$Tape", "scanInt", "()V"⟩, 10) := ⟨⟨by decide +kernel, by decide +kernel⟩, List.mem_of_getElem? (i := 30) (by decide +kernel), List.mem_of_getElem? (i := 413) (by decide +kernel), List.mem_of_getElem? (i := 414) (by decide +kernel)⟩
theorem lw_p4 : lw_okq (⟨"BackLogic$Grammar", "faultOf", "(LBackLogic$Tape;)I"⟩, 6) := ⟨⟨by decide +kernel, by decide +kernel⟩, List.mem_of_getElem? (i := 75) (by decide +kernel), List.mem_of_getElem? (i := 421) (by decide +kernel), List.mem_of_getElem? (i := 422) (by decide +kernel)⟩
theorem lw_p5 : lw_okq (⟨"BackLogic$Grammar", "stateBehind", "(I)I"⟩, 6) := ⟨⟨by decide +kernel, by decide +kernel⟩, List.mem_of_getElem? (i := 75) (by decide +kernel), List.mem_of_getElem? (i := 425) (by decide +kernel), List.mem_of_getElem? (i := 426) (by decide +kernel)⟩
theorem lw_p6 : lw_okq (⟨"BackLogic$Grammar", "hasRoom", "(I)Z"⟩, 6) := ⟨⟨by decide +kernel, by decide +kernel⟩, List.mem_of_getElem? (i := 75) (by decide +kernel), List.mem_of_getElem? (i := 438) (by decide +kernel), List.mem_of_getElem? (i := 439) (by decide +kernel)⟩
theorem lw_p7 : lw_okq (⟨"BackLogic$Grammar", "hasRoomForLine", "(I)Z"⟩, 6) := ⟨⟨by decide +kernel, by decide +kernel⟩, List.mem_of_getElem? (i := 75) (by decide +kernel), List.mem_of_getElem? (i := 442) (by decide +kernel), List.mem_of_getElem? (i := 443) (by decide +kernel)⟩
theorem lw_p8 : lw_okq (⟨"BackLogic$Meaning", "collectNames", "(LBackLogic$Tape;)V"⟩, 3) := ⟨⟨by decide +kernel, by decide +kernel⟩, List.mem_of_getElem? (i := 101) (by decide +kernel), List.mem_of_getElem? (i := 458) (by decide +kernel), List.mem_of_getElem? (i := 459) (by decide +kernel)⟩
theorem lw_p9 : lw_okq (⟨"BackLogic$Tape", "has", "(I)Z"⟩, 10) := ⟨⟨by decide +kernel, by decide +kernel⟩, List.mem_of_getElem? (i := 30) (by decide +kernel), List.mem_of_getElem? (i := 466) (by decide +kernel), List.mem_of_getElem? (i := 467) (by decide +kernel)⟩
theorem lw_p10 : lw_okq (⟨"BackLogic$Meaning", "faultAt", "(LBackLogic$Tape;II)I"⟩, 3) := ⟨⟨by decide +kernel, by decide +kernel⟩, List.mem_of_getElem? (i := 101) (by decide +kernel), List.mem_of_getElem? (i := 474) (by decide +kernel), List.mem_of_getElem? (i := 475) (by decide +kernel)⟩
theorem lw_p11 : lw_okq (⟨"BackLogic$Meaning", "gateFault", "(LBackLogic$Tape;II)I"⟩, 3) := ⟨⟨by decide +kernel, by decide +kernel⟩, List.mem_of_getElem? (i := 101) (by decide +kernel), List.mem_of_getElem? (i := 481) (by decide +kernel), List.mem_of_getElem? (i := 482) (by decide +kernel)⟩
theorem lw_p12 : lw_okq (⟨"BackLogic$Meaning", "wireNamed", "(J)I"⟩, 3) := ⟨⟨by decide +kernel, by decide +kernel⟩, List.mem_of_getElem? (i := 101) (by decide +kernel), List.mem_of_getElem? (i := 485) (by decide +kernel), List.mem_of_getElem? (i := 486) (by decide +kernel)⟩
theorem lw_p13 : lw_okq (⟨"BackLogic", "takeOver", "()V"⟩, 16) := ⟨⟨by decide +kernel, by decide +kernel⟩, List.mem_of_getElem? (i := 22) (by decide +kernel), List.mem_of_getElem? (i := 504) (by decide +kernel), List.mem_of_getElem? (i := 505) (by decide +kernel)⟩
theorem lw_p14 : lw_okq (⟨"BackLogic$Meaning", "gateFrom", "(LBackLogic$Tape;I)I"⟩, 3) := ⟨⟨by decide +kernel, by decide +kernel⟩, List.mem_of_getElem? (i := 101) (by decide +kernel), List.mem_of_getElem? (i := 512) (by decide +kernel), List.mem_of_getElem? (i := 513) (by decide +kernel)⟩
theorem lw_p15 : lw_okq (⟨"BackLogic$Told", "lesserAlike", "(I)I"⟩, 7) := ⟨⟨by decide +kernel, by decide +kernel⟩, List.mem_of_getElem? (i := 202) (by decide +kernel), List.mem_of_getElem? (i := 542) (by decide +kernel), List.mem_of_getElem? (i := 543) (by decide +kernel)⟩
def lw_privs_1 : List (MethodName × Nat) := [(⟨"BackLogic$Grammar", "begin", "(LBackLogic$Tape;)V"⟩, 6), (⟨"BackLogic$Tape", "byteAt", "(I)I"⟩, 10), (⟨"BackLogic$Tape", "scanWord", "()V"⟩, 10), (⟨"BackLogic$Tape", "scanInt", "()V"⟩, 10), (⟨"BackLogic$Grammar", "faultOf", "(LBackLogic$Tape;)I"⟩, 6), (⟨"BackLogic$Grammar", "stateBehind", "(I)I"⟩, 6), (⟨"BackLogic$Grammar", "hasRoom", "(I)Z"⟩, 6), (⟨"BackLogic$Grammar", "hasRoomForLine", "(I)Z"⟩, 6), (⟨"BackLogic$Meaning", "collectNames", "(LBackLogic$Tape;)V"⟩, 3), (⟨"BackLogic$Tape", "has", "(I)Z"⟩, 10), (⟨"BackLogic$Meaning", "faultAt", "(LBackLogic$Tape;II)I"⟩, 3), (⟨"BackLogic$Meaning", "gateFault", "(LBackLogic$Tape;II)I"⟩, 3), (⟨"BackLogic$Meaning", "wireNamed", "(J)I"⟩, 3), (⟨"BackLogic", "takeOver", "()V"⟩, 16), (⟨"BackLogic$Meaning", "gateFrom", "(LBackLogic$Tape;I)I"⟩, 3), (⟨"BackLogic$Told", "lesserAlike", "(I)I"⟩, 7)]
theorem lw_r1 : ∀ q ∈ lw_privs_1, lw_okq q := List.forall_mem_cons.mpr ⟨lw_p0, List.forall_mem_cons.mpr ⟨lw_p1, List.forall_mem_cons.mpr ⟨lw_p2, List.forall_mem_cons.mpr ⟨lw_p3, List.forall_mem_cons.mpr ⟨lw_p4, List.forall_mem_cons.mpr ⟨lw_p5, List.forall_mem_cons.mpr ⟨lw_p6, List.forall_mem_cons.mpr ⟨lw_p7, List.forall_mem_cons.mpr ⟨lw_p8, List.forall_mem_cons.mpr ⟨lw_p9, List.forall_mem_cons.mpr ⟨lw_p10, List.forall_mem_cons.mpr ⟨lw_p11, List.forall_mem_cons.mpr ⟨lw_p12, List.forall_mem_cons.mpr ⟨lw_p13, List.forall_mem_cons.mpr ⟨lw_p14, List.forall_mem_cons.mpr ⟨lw_p15, fun _ h => absurd h List.not_mem_nil⟩⟩⟩⟩⟩⟩⟩⟩⟩⟩⟩⟩⟩⟩⟩⟩
theorem lw_p16 : lw_okq (⟨"BackLogic", "fits", "(III)Z"⟩, 16) := ⟨⟨by decide +kernel, by decide +kernel⟩, List.mem_of_getElem? (i := 22) (by decide +kernel), List.mem_of_getElem? (i := 559) (by decide +kernel), List.mem_of_getElem? (i := 560) (by decide +kernel)⟩
theorem lw_p17 : lw_okq (⟨"BackLogic", "isWire", "(I)Z"⟩, 16) := ⟨⟨by decide +kernel, by decide +kernel⟩, List.mem_of_getElem? (i := 22) (by decide +kernel), List.mem_of_getElem? (i := 563) (by decide +kernel), List.mem_of_getElem? (i := 564) (by decide +kernel)⟩
theorem lw_p18 : lw_okq (⟨"BackLogic", "rows", "()I"⟩, 16) := ⟨⟨by decide +kernel, by decide +kernel⟩, List.mem_of_getElem? (i := 22) (by decide +kernel), List.mem_of_getElem? (i := 567) (by decide +kernel), List.mem_of_getElem? (i := 568) (by decide +kernel)⟩
theorem lw_p19 : lw_okq (⟨"BackLogic", "shrunkCascade", "()LBackLogic$Cascade;"⟩, 16) := ⟨⟨by decide +kernel, by decide +kernel⟩, List.mem_of_getElem? (i := 22) (by decide +kernel), List.mem_of_getElem? (i := 610) (by decide +kernel), List.mem_of_getElem? (i := 611) (by decide +kernel)⟩
theorem lw_p20 : lw_okq (⟨"BackLogic$Cascade", "shrinkOnce", "(I)Z"⟩, 2) := ⟨⟨by decide +kernel, by decide +kernel⟩, List.mem_of_getElem? (i := 119) (by decide +kernel), List.mem_of_getElem? (i := 619) (by decide +kernel), List.mem_of_getElem? (i := 620) (by decide +kernel)⟩
theorem lw_p21 : lw_okq (⟨"BackLogic$Cascade", "reaches", "(III)Z"⟩, 2) := ⟨⟨by decide +kernel, by decide +kernel⟩, List.mem_of_getElem? (i := 119) (by decide +kernel), List.mem_of_getElem? (i := 651) (by decide +kernel), List.mem_of_getElem? (i := 652) (by decide +kernel)⟩
theorem lw_p22 : lw_okq (⟨"BackLogic$Cascade", "join", "(III)V"⟩, 2) := ⟨⟨by decide +kernel, by decide +kernel⟩, List.mem_of_getElem? (i := 119) (by decide +kernel), List.mem_of_getElem? (i := 665) (by decide +kernel), List.mem_of_getElem? (i := 666) (by decide +kernel)⟩
theorem lw_p23 : lw_okq (⟨"BackLogic", "foundCascade", "(Z)LBackLogic$Cascade;"⟩, 16) := ⟨⟨by decide +kernel, by decide +kernel⟩, List.mem_of_getElem? (i := 22) (by decide +kernel), List.mem_of_getElem? (i := 670) (by decide +kernel), List.mem_of_getElem? (i := 671) (by decide +kernel)⟩
theorem lw_p24 : lw_okq (⟨"BackLogic$Finder", "sourceOf", "(II)I"⟩, 3) := ⟨⟨by decide +kernel, by decide +kernel⟩, List.mem_of_getElem? (i := 161) (by decide +kernel), List.mem_of_getElem? (i := 687) (by decide +kernel), List.mem_of_getElem? (i := 688) (by decide +kernel)⟩
theorem lw_p25 : lw_okq (⟨"BackLogic$Finder", "lead", "(IIIZ)V"⟩, 3) := ⟨⟨by decide +kernel, by decide +kernel⟩, List.mem_of_getElem? (i := 161) (by decide +kernel), List.mem_of_getElem? (i := 692) (by decide +kernel), List.mem_of_getElem? (i := 693) (by decide +kernel)⟩
theorem lw_p26 : lw_okq (⟨"BackLogic$Finder", "note", "(IIZ)V"⟩, 3) := ⟨⟨by decide +kernel, by decide +kernel⟩, List.mem_of_getElem? (i := 161) (by decide +kernel), List.mem_of_getElem? (i := 697) (by decide +kernel), List.mem_of_getElem? (i := 698) (by decide +kernel)⟩
theorem lw_p27 : lw_okq (⟨"BackLogic$Finder", "goAhead", "(II)V"⟩, 3) := ⟨⟨by decide +kernel, by decide +kernel⟩, List.mem_of_getElem? (i := 161) (by decide +kernel), List.mem_of_getElem? (i := 701) (by decide +kernel), List.mem_of_getElem? (i := 702) (by decide +kernel)⟩
theorem lw_p28 : lw_okq (⟨"BackLogic$Finder", "goBehind", "(II)V"⟩, 3) := ⟨⟨by decide +kernel, by decide +kernel⟩, List.mem_of_getElem? (i := 161) (by decide +kernel), List.mem_of_getElem? (i := 707) (by decide +kernel), List.mem_of_getElem? (i := 708) (by decide +kernel)⟩
theorem lw_p29 : lw_okq (⟨"BackLogic", "turnedCascade", "()LBackLogic$Cascade;"⟩, 16) := ⟨⟨by decide +kernel, by decide +kernel⟩, List.mem_of_getElem? (i := 22) (by decide +kernel), List.mem_of_getElem? (i := 712) (by decide +kernel), List.mem_of_getElem? (i := 713) (by decide +kernel)⟩
theorem lw_p30 : lw_okq (⟨"BackLogic", "leastCascade", "()LBackLogic$Cascade;"⟩, 16) := ⟨⟨by decide +kernel, by decide +kernel⟩, List.mem_of_getElem? (i := 22) (by decide +kernel), List.mem_of_getElem? (i := 720) (by decide +kernel), List.mem_of_getElem? (i := 721) (by decide +kernel)⟩
theorem lw_p31 : lw_okq (⟨"BackLogic", "leastForImages", "()LBackLogic$Cascade;"⟩, 16) := ⟨⟨by decide +kernel, by decide +kernel⟩, List.mem_of_getElem? (i := 22) (by decide +kernel), List.mem_of_getElem? (i := 724) (by decide +kernel), List.mem_of_getElem? (i := 725) (by decide +kernel)⟩
def lw_privs_2 : List (MethodName × Nat) := [(⟨"BackLogic", "fits", "(III)Z"⟩, 16), (⟨"BackLogic", "isWire", "(I)Z"⟩, 16), (⟨"BackLogic", "rows", "()I"⟩, 16), (⟨"BackLogic", "shrunkCascade", "()LBackLogic$Cascade;"⟩, 16), (⟨"BackLogic$Cascade", "shrinkOnce", "(I)Z"⟩, 2), (⟨"BackLogic$Cascade", "reaches", "(III)Z"⟩, 2), (⟨"BackLogic$Cascade", "join", "(III)V"⟩, 2), (⟨"BackLogic", "foundCascade", "(Z)LBackLogic$Cascade;"⟩, 16), (⟨"BackLogic$Finder", "sourceOf", "(II)I"⟩, 3), (⟨"BackLogic$Finder", "lead", "(IIIZ)V"⟩, 3), (⟨"BackLogic$Finder", "note", "(IIZ)V"⟩, 3), (⟨"BackLogic$Finder", "goAhead", "(II)V"⟩, 3), (⟨"BackLogic$Finder", "goBehind", "(II)V"⟩, 3), (⟨"BackLogic", "turnedCascade", "()LBackLogic$Cascade;"⟩, 16), (⟨"BackLogic", "leastCascade", "()LBackLogic$Cascade;"⟩, 16), (⟨"BackLogic", "leastForImages", "()LBackLogic$Cascade;"⟩, 16)]
theorem lw_r2 : ∀ q ∈ lw_privs_2, lw_okq q := List.forall_mem_cons.mpr ⟨lw_p16, List.forall_mem_cons.mpr ⟨lw_p17, List.forall_mem_cons.mpr ⟨lw_p18, List.forall_mem_cons.mpr ⟨lw_p19, List.forall_mem_cons.mpr ⟨lw_p20, List.forall_mem_cons.mpr ⟨lw_p21, List.forall_mem_cons.mpr ⟨lw_p22, List.forall_mem_cons.mpr ⟨lw_p23, List.forall_mem_cons.mpr ⟨lw_p24, List.forall_mem_cons.mpr ⟨lw_p25, List.forall_mem_cons.mpr ⟨lw_p26, List.forall_mem_cons.mpr ⟨lw_p27, List.forall_mem_cons.mpr ⟨lw_p28, List.forall_mem_cons.mpr ⟨lw_p29, List.forall_mem_cons.mpr ⟨lw_p30, List.forall_mem_cons.mpr ⟨lw_p31, fun _ h => absurd h List.not_mem_nil⟩⟩⟩⟩⟩⟩⟩⟩⟩⟩⟩⟩⟩⟩⟩⟩
theorem lw_p32 : lw_okq (⟨"BackLogic$Shortest", "prepare", "(I)V"⟩, 10) := ⟨⟨by decide +kernel, by decide +kernel⟩, List.mem_of_getElem? (i := 728) (by decide +kernel), List.mem_of_getElem? (i := 772) (by decide +kernel), List.mem_of_getElem? (i := 773) (by decide +kernel)⟩
theorem lw_p33 : lw_okq (⟨"BackLogic$Shortest", "setKinds", "()V"⟩, 10) := ⟨⟨by decide +kernel, by decide +kernel⟩, List.mem_of_getElem? (i := 728) (by decide +kernel), List.mem_of_getElem? (i := 776) (by decide +kernel), List.mem_of_getElem? (i := 777) (by decide +kernel)⟩
theorem lw_p34 : lw_okq (⟨"BackLogic$Shortest", "movedBy", "(II)I"⟩, 10) := ⟨⟨by decide +kernel, by decide +kernel⟩, List.mem_of_getElem? (i := 728) (by decide +kernel), List.mem_of_getElem? (i := 781) (by decide +kernel), List.mem_of_getElem? (i := 782) (by decide +kernel)⟩
theorem lw_p35 : lw_okq (⟨"BackLogic$Shortest", "keep", "(II)V"⟩, 10) := ⟨⟨by decide +kernel, by decide +kernel⟩, List.mem_of_getElem? (i := 728) (by decide +kernel), List.mem_of_getElem? (i := 785) (by decide +kernel), List.mem_of_getElem? (i := 786) (by decide +kernel)⟩
theorem lw_p36 : lw_okq (⟨"BackLogic$Shortest", "placeOf", "(I)I"⟩, 10) := ⟨⟨by decide +kernel, by decide +kernel⟩, List.mem_of_getElem? (i := 728) (by decide +kernel), List.mem_of_getElem? (i := 789) (by decide +kernel), List.mem_of_getElem? (i := 790) (by decide +kernel)⟩
theorem lw_p37 : lw_okq (⟨"BackLogic$Shortest", "keepNext", "(II)V"⟩, 10) := ⟨⟨by decide +kernel, by decide +kernel⟩, List.mem_of_getElem? (i := 728) (by decide +kernel), List.mem_of_getElem? (i := 795) (by decide +kernel), List.mem_of_getElem? (i := 796) (by decide +kernel)⟩
theorem lw_p38 : lw_okq (⟨"BackLogic$Shortest", "without", "(II)I"⟩, 10) := ⟨⟨by decide +kernel, by decide +kernel⟩, List.mem_of_getElem? (i := 728) (by decide +kernel), List.mem_of_getElem? (i := 799) (by decide +kernel), List.mem_of_getElem? (i := 800) (by decide +kernel)⟩
theorem lw_p39 : lw_okq (⟨"BackLogic$Shortest", "depthOf", "(I)I"⟩, 10) := ⟨⟨by decide +kernel, by decide +kernel⟩, List.mem_of_getElem? (i := 728) (by decide +kernel), List.mem_of_getElem? (i := 803) (by decide +kernel), List.mem_of_getElem? (i := 804) (by decide +kernel)⟩
theorem lw_p40 : lw_okq (⟨"BackLogic$Shortest", "pack", "([I)I"⟩, 10) := ⟨⟨by decide +kernel, by decide +kernel⟩, List.mem_of_getElem? (i := 728) (by decide +kernel), List.mem_of_getElem? (i := 807) (by decide +kernel), List.mem_of_getElem? (i := 808) (by decide +kernel)⟩
theorem lw_p41 : lw_okq (⟨"BackLogic$Shortest", "lookAhead", "(II)Z"⟩, 10) := ⟨⟨by decide +kernel, by decide +kernel⟩, List.mem_of_getElem? (i := 728) (by decide +kernel), List.mem_of_getElem? (i := 811) (by decide +kernel), List.mem_of_getElem? (i := 812) (by decide +kernel)⟩
theorem lw_p42 : lw_okq (⟨"BackLogic$Shortest", "finish", "(I)Z"⟩, 10) := ⟨⟨by decide +kernel, by decide +kernel⟩, List.mem_of_getElem? (i := 728) (by decide +kernel), List.mem_of_getElem? (i := 815) (by decide +kernel), List.mem_of_getElem? (i := 816) (by decide +kernel)⟩
theorem lw_p43 : lw_okq (⟨"BackLogic", "holds", "(I)Z"⟩, 16) := ⟨⟨by decide +kernel, by decide +kernel⟩, List.mem_of_getElem? (i := 22) (by decide +kernel), List.mem_of_getElem? (i := 840) (by decide +kernel), List.mem_of_getElem? (i := 841) (by decide +kernel)⟩
theorem lw_p44 : lw_okq (⟨"BackLogic", "priceOf", "(I)I"⟩, 16) := ⟨⟨by decide +kernel, by decide +kernel⟩, List.mem_of_getElem? (i := 22) (by decide +kernel), List.mem_of_getElem? (i := 852) (by decide +kernel), List.mem_of_getElem? (i := 853) (by decide +kernel)⟩
theorem lw_p45 : lw_okq (⟨"BackLogic", "levelOf", "(I)I"⟩, 16) := ⟨⟨by decide +kernel, by decide +kernel⟩, List.mem_of_getElem? (i := 22) (by decide +kernel), List.mem_of_getElem? (i := 858) (by decide +kernel), List.mem_of_getElem? (i := 859) (by decide +kernel)⟩
theorem lw_p46 : lw_okq (⟨"BackLogic", "setLevels", "()I"⟩, 16) := ⟨⟨by decide +kernel, by decide +kernel⟩, List.mem_of_getElem? (i := 22) (by decide +kernel), List.mem_of_getElem? (i := 862) (by decide +kernel), List.mem_of_getElem? (i := 863) (by decide +kernel)⟩
theorem lw_p47 : lw_okq (⟨"BackLogic", "freeSteps", "(II)I"⟩, 16) := ⟨⟨by decide +kernel, by decide +kernel⟩, List.mem_of_getElem? (i := 22) (by decide +kernel), List.mem_of_getElem? (i := 870) (by decide +kernel), List.mem_of_getElem? (i := 871) (by decide +kernel)⟩
def lw_privs_3 : List (MethodName × Nat) := [(⟨"BackLogic$Shortest", "prepare", "(I)V"⟩, 10), (⟨"BackLogic$Shortest", "setKinds", "()V"⟩, 10), (⟨"BackLogic$Shortest", "movedBy", "(II)I"⟩, 10), (⟨"BackLogic$Shortest", "keep", "(II)V"⟩, 10), (⟨"BackLogic$Shortest", "placeOf", "(I)I"⟩, 10), (⟨"BackLogic$Shortest", "keepNext", "(II)V"⟩, 10), (⟨"BackLogic$Shortest", "without", "(II)I"⟩, 10), (⟨"BackLogic$Shortest", "depthOf", "(I)I"⟩, 10), (⟨"BackLogic$Shortest", "pack", "([I)I"⟩, 10), (⟨"BackLogic$Shortest", "lookAhead", "(II)Z"⟩, 10), (⟨"BackLogic$Shortest", "finish", "(I)Z"⟩, 10), (⟨"BackLogic", "holds", "(I)Z"⟩, 16), (⟨"BackLogic", "priceOf", "(I)I"⟩, 16), (⟨"BackLogic", "levelOf", "(I)I"⟩, 16), (⟨"BackLogic", "setLevels", "()I"⟩, 16), (⟨"BackLogic", "freeSteps", "(II)I"⟩, 16)]
theorem lw_r3 : ∀ q ∈ lw_privs_3, lw_okq q := List.forall_mem_cons.mpr ⟨lw_p32, List.forall_mem_cons.mpr ⟨lw_p33, List.forall_mem_cons.mpr ⟨lw_p34, List.forall_mem_cons.mpr ⟨lw_p35, List.forall_mem_cons.mpr ⟨lw_p36, List.forall_mem_cons.mpr ⟨lw_p37, List.forall_mem_cons.mpr ⟨lw_p38, List.forall_mem_cons.mpr ⟨lw_p39, List.forall_mem_cons.mpr ⟨lw_p40, List.forall_mem_cons.mpr ⟨lw_p41, List.forall_mem_cons.mpr ⟨lw_p42, List.forall_mem_cons.mpr ⟨lw_p43, List.forall_mem_cons.mpr ⟨lw_p44, List.forall_mem_cons.mpr ⟨lw_p45, List.forall_mem_cons.mpr ⟨lw_p46, List.forall_mem_cons.mpr ⟨lw_p47, fun _ h => absurd h List.not_mem_nil⟩⟩⟩⟩⟩⟩⟩⟩⟩⟩⟩⟩⟩⟩⟩⟩
theorem lw_p48 : lw_okq (⟨"BackLogic", "isRow", "(I)Z"⟩, 16) := ⟨⟨by decide +kernel, by decide +kernel⟩, List.mem_of_getElem? (i := 22) (by decide +kernel), List.mem_of_getElem? (i := 883) (by decide +kernel), List.mem_of_getElem? (i := 884) (by decide +kernel)⟩
theorem lw_p49 : lw_okq (⟨"BackLogic", "termsOf", "(I)I"⟩, 16) := ⟨⟨by decide +kernel, by decide +kernel⟩, List.mem_of_getElem? (i := 22) (by decide +kernel), List.mem_of_getElem? (i := 934) (by decide +kernel), List.mem_of_getElem? (i := 935) (by decide +kernel)⟩
theorem lw_p50 : lw_okq (⟨"BackLogic$Tests", "chooseFrom", "(III)Z"⟩, 4) := ⟨⟨by decide +kernel, by decide +kernel⟩, List.mem_of_getElem? (i := 181) (by decide +kernel), List.mem_of_getElem? (i := 960) (by decide +kernel), List.mem_of_getElem? (i := 961) (by decide +kernel)⟩
theorem lw_p51 : lw_okq (⟨"BackLogic", "isRenaming", "(I)Z"⟩, 16) := ⟨⟨by decide +kernel, by decide +kernel⟩, List.mem_of_getElem? (i := 22) (by decide +kernel), List.mem_of_getElem? (i := 983) (by decide +kernel), List.mem_of_getElem? (i := 984) (by decide +kernel)⟩
theorem lw_p52 : lw_okq (⟨"BackLogic", "becomes", "(LBackLogic$Cascade;I)Z"⟩, 16) := ⟨⟨by decide +kernel, by decide +kernel⟩, List.mem_of_getElem? (i := 22) (by decide +kernel), List.mem_of_getElem? (i := 990) (by decide +kernel), List.mem_of_getElem? (i := 991) (by decide +kernel)⟩
theorem lw_p53 : lw_okq (⟨"BackLogic", "renamed", "(II)I"⟩, 16) := ⟨⟨by decide +kernel, by decide +kernel⟩, List.mem_of_getElem? (i := 22) (by decide +kernel), List.mem_of_getElem? (i := 994) (by decide +kernel), List.mem_of_getElem? (i := 995) (by decide +kernel)⟩
theorem lw_p54 : lw_okq (⟨"BackLogic", "gatesForLaid", "(Z)I"⟩, 16) := ⟨⟨by decide +kernel, by decide +kernel⟩, List.mem_of_getElem? (i := 22) (by decide +kernel), List.mem_of_getElem? (i := 1006) (by decide +kernel), List.mem_of_getElem? (i := 1007) (by decide +kernel)⟩
theorem lw_p55 : lw_okq (⟨"BackLogic", "cost", "()I"⟩, 16) := ⟨⟨by decide +kernel, by decide +kernel⟩, List.mem_of_getElem? (i := 22) (by decide +kernel), List.mem_of_getElem? (i := 1023) (by decide +kernel), List.mem_of_getElem? (i := 1024) (by decide +kernel)⟩
theorem lw_p56 : lw_okq (⟨"BackLogic", "gatesThatAgree", "()I"⟩, 16) := ⟨⟨by decide +kernel, by decide +kernel⟩, List.mem_of_getElem? (i := 22) (by decide +kernel), List.mem_of_getElem? (i := 1027) (by decide +kernel), List.mem_of_getElem? (i := 1028) (by decide +kernel)⟩
theorem lw_p57 : lw_okq (⟨"BackLogic", "wiresUsed", "()I"⟩, 16) := ⟨⟨by decide +kernel, by decide +kernel⟩, List.mem_of_getElem? (i := 22) (by decide +kernel), List.mem_of_getElem? (i := 1031) (by decide +kernel), List.mem_of_getElem? (i := 1032) (by decide +kernel)⟩
theorem lw_p58 : lw_okq (⟨"BackLogic", "slotsHeld", "()I"⟩, 16) := ⟨⟨by decide +kernel, by decide +kernel⟩, List.mem_of_getElem? (i := 22) (by decide +kernel), List.mem_of_getElem? (i := 1035) (by decide +kernel), List.mem_of_getElem? (i := 1036) (by decide +kernel)⟩
theorem lw_p59 : lw_okq (⟨"BackLogic", "allControls", "()I"⟩, 16) := ⟨⟨by decide +kernel, by decide +kernel⟩, List.mem_of_getElem? (i := 22) (by decide +kernel), List.mem_of_getElem? (i := 1039) (by decide +kernel), List.mem_of_getElem? (i := 1040) (by decide +kernel)⟩
theorem lw_p60 : lw_okq (⟨"BackLogic", "degree", "()I"⟩, 16) := ⟨⟨by decide +kernel, by decide +kernel⟩, List.mem_of_getElem? (i := 22) (by decide +kernel), List.mem_of_getElem? (i := 1047) (by decide +kernel), List.mem_of_getElem? (i := 1048) (by decide +kernel)⟩
theorem lw_p61 : lw_okq (⟨"BackLogic", "unlikeGates", "()I"⟩, 16) := ⟨⟨by decide +kernel, by decide +kernel⟩, List.mem_of_getElem? (i := 22) (by decide +kernel), List.mem_of_getElem? (i := 1051) (by decide +kernel), List.mem_of_getElem? (i := 1052) (by decide +kernel)⟩
theorem lw_p62 : lw_okq (⟨"BackLogicModel", "lays", "(I)V"⟩, 56) := ⟨⟨by decide +kernel, by decide +kernel⟩, List.mem_of_getElem? (i := 1059) (by decide +kernel), List.mem_of_getElem? (i := 1245) (by decide +kernel), List.mem_of_getElem? (i := 1246) (by decide +kernel)⟩
theorem lw_p63 : lw_okq (⟨"BackLogicModel", "cutsText", "()V"⟩, 56) := ⟨⟨by decide +kernel, by decide +kernel⟩, List.mem_of_getElem? (i := 1059) (by decide +kernel), List.mem_of_getElem? (i := 1257) (by decide +kernel), List.mem_of_getElem? (i := 1258) (by decide +kernel)⟩
def lw_privs_4 : List (MethodName × Nat) := [(⟨"BackLogic", "isRow", "(I)Z"⟩, 16), (⟨"BackLogic", "termsOf", "(I)I"⟩, 16), (⟨"BackLogic$Tests", "chooseFrom", "(III)Z"⟩, 4), (⟨"BackLogic", "isRenaming", "(I)Z"⟩, 16), (⟨"BackLogic", "becomes", "(LBackLogic$Cascade;I)Z"⟩, 16), (⟨"BackLogic", "renamed", "(II)I"⟩, 16), (⟨"BackLogic", "gatesForLaid", "(Z)I"⟩, 16), (⟨"BackLogic", "cost", "()I"⟩, 16), (⟨"BackLogic", "gatesThatAgree", "()I"⟩, 16), (⟨"BackLogic", "wiresUsed", "()I"⟩, 16), (⟨"BackLogic", "slotsHeld", "()I"⟩, 16), (⟨"BackLogic", "allControls", "()I"⟩, 16), (⟨"BackLogic", "degree", "()I"⟩, 16), (⟨"BackLogic", "unlikeGates", "()I"⟩, 16), (⟨"BackLogicModel", "lays", "(I)V"⟩, 56), (⟨"BackLogicModel", "cutsText", "()V"⟩, 56)]
theorem lw_r4 : ∀ q ∈ lw_privs_4, lw_okq q := List.forall_mem_cons.mpr ⟨lw_p48, List.forall_mem_cons.mpr ⟨lw_p49, List.forall_mem_cons.mpr ⟨lw_p50, List.forall_mem_cons.mpr ⟨lw_p51, List.forall_mem_cons.mpr ⟨lw_p52, List.forall_mem_cons.mpr ⟨lw_p53, List.forall_mem_cons.mpr ⟨lw_p54, List.forall_mem_cons.mpr ⟨lw_p55, List.forall_mem_cons.mpr ⟨lw_p56, List.forall_mem_cons.mpr ⟨lw_p57, List.forall_mem_cons.mpr ⟨lw_p58, List.forall_mem_cons.mpr ⟨lw_p59, List.forall_mem_cons.mpr ⟨lw_p60, List.forall_mem_cons.mpr ⟨lw_p61, List.forall_mem_cons.mpr ⟨lw_p62, List.forall_mem_cons.mpr ⟨lw_p63, fun _ h => absurd h List.not_mem_nil⟩⟩⟩⟩⟩⟩⟩⟩⟩⟩⟩⟩⟩⟩⟩⟩
theorem lw_p64 : lw_okq (⟨"BackLogicModel", "byteAt", "(I)I"⟩, 56) := ⟨⟨by decide +kernel, by decide +kernel⟩, List.mem_of_getElem? (i := 1059) (by decide +kernel), List.mem_of_getElem? (i := 1261) (by decide +kernel), List.mem_of_getElem? (i := 1262) (by decide +kernel)⟩
theorem lw_p65 : lw_okq (⟨"BackLogicModel", "token", "(IIIJ)V"⟩, 56) := ⟨⟨by decide +kernel, by decide +kernel⟩, List.mem_of_getElem? (i := 1059) (by decide +kernel), List.mem_of_getElem? (i := 1265) (by decide +kernel), List.mem_of_getElem? (i := 1266) (by decide +kernel)⟩
theorem lw_p66 : lw_okq (⟨"BackLogicModel", "sign", "(II)I"⟩, 56) := ⟨⟨by decide +kernel, by decide +kernel⟩, List.mem_of_getElem? (i := 1059) (by decide +kernel), List.mem_of_getElem? (i := 1275) (by decide +kernel), List.mem_of_getElem? (i := 1276) (by decide +kernel)⟩
theorem lw_p67 : lw_okq (⟨"BackLogicModel", "is", "(I)Z"⟩, 56) := ⟨⟨by decide +kernel, by decide +kernel⟩, List.mem_of_getElem? (i := 1059) (by decide +kernel), List.mem_of_getElem? (i := 1279) (by decide +kernel), List.mem_of_getElem? (i := 1280) (by decide +kernel)⟩
theorem lw_p68 : lw_okq (⟨"BackLogicModel", "line", "()V"⟩, 56) := ⟨⟨by decide +kernel, by decide +kernel⟩, List.mem_of_getElem? (i := 1059) (by decide +kernel), List.mem_of_getElem? (i := 1283) (by decide +kernel), List.mem_of_getElem? (i := 1284) (by decide +kernel)⟩
theorem lw_p69 : lw_okq (⟨"BackLogicModel", "fail", "(I)V"⟩, 56) := ⟨⟨by decide +kernel, by decide +kernel⟩, List.mem_of_getElem? (i := 1059) (by decide +kernel), List.mem_of_getElem? (i := 1287) (by decide +kernel), List.mem_of_getElem? (i := 1288) (by decide +kernel)⟩
theorem lw_p70 : lw_okq (⟨"BackLogicModel", "passes", "()V"⟩, 56) := ⟨⟨by decide +kernel, by decide +kernel⟩, List.mem_of_getElem? (i := 1059) (by decide +kernel), List.mem_of_getElem? (i := 1291) (by decide +kernel), List.mem_of_getElem? (i := 1292) (by decide +kernel)⟩
theorem lw_p71 : lw_okq (⟨"BackLogicModel", "must", "(I)V"⟩, 56) := ⟨⟨by decide +kernel, by decide +kernel⟩, List.mem_of_getElem? (i := 1059) (by decide +kernel), List.mem_of_getElem? (i := 1295) (by decide +kernel), List.mem_of_getElem? (i := 1296) (by decide +kernel)⟩
theorem lw_p72 : lw_okq (⟨"BackLogicModel", "controls", "()V"⟩, 56) := ⟨⟨by decide +kernel, by decide +kernel⟩, List.mem_of_getElem? (i := 1059) (by decide +kernel), List.mem_of_getElem? (i := 1299) (by decide +kernel), List.mem_of_getElem? (i := 1300) (by decide +kernel)⟩
theorem lw_p73 : lw_okq (⟨"BackLogicModel", "means", "()V"⟩, 56) := ⟨⟨by decide +kernel, by decide +kernel⟩, List.mem_of_getElem? (i := 1059) (by decide +kernel), List.mem_of_getElem? (i := 1303) (by decide +kernel), List.mem_of_getElem? (i := 1304) (by decide +kernel)⟩
theorem lw_p74 : lw_okq (⟨"BackLogicModel", "named", "(II)I"⟩, 56) := ⟨⟨by decide +kernel, by decide +kernel⟩, List.mem_of_getElem? (i := 1059) (by decide +kernel), List.mem_of_getElem? (i := 1307) (by decide +kernel), List.mem_of_getElem? (i := 1308) (by decide +kernel)⟩
theorem lw_p75 : lw_okq (⟨"BackLogicModel", "wrong", "(II)V"⟩, 56) := ⟨⟨by decide +kernel, by decide +kernel⟩, List.mem_of_getElem? (i := 1059) (by decide +kernel), List.mem_of_getElem? (i := 1311) (by decide +kernel), List.mem_of_getElem? (i := 1312) (by decide +kernel)⟩
theorem lw_p76 : lw_okq (⟨"BackLogicModel", "meansGate", "(I)V"⟩, 56) := ⟨⟨by decide +kernel, by decide +kernel⟩, List.mem_of_getElem? (i := 1059) (by decide +kernel), List.mem_of_getElem? (i := 1315) (by decide +kernel), List.mem_of_getElem? (i := 1316) (by decide +kernel)⟩
theorem lw_p77 : lw_okq (⟨"BackLogicModel", "meansTable", "(I)V"⟩, 56) := ⟨⟨by decide +kernel, by decide +kernel⟩, List.mem_of_getElem? (i := 1059) (by decide +kernel), List.mem_of_getElem? (i := 1322) (by decide +kernel), List.mem_of_getElem? (i := 1323) (by decide +kernel)⟩
theorem lw_p78 : lw_okq (⟨"BackLogicModel", "gates", "()I"⟩, 56) := ⟨⟨by decide +kernel, by decide +kernel⟩, List.mem_of_getElem? (i := 1059) (by decide +kernel), List.mem_of_getElem? (i := 1334) (by decide +kernel), List.mem_of_getElem? (i := 1335) (by decide +kernel)⟩
theorem lw_p79 : lw_okq (⟨"BackLogicModel", "isRow", "(I)Z"⟩, 56) := ⟨⟨by decide +kernel, by decide +kernel⟩, List.mem_of_getElem? (i := 1059) (by decide +kernel), List.mem_of_getElem? (i := 1338) (by decide +kernel), List.mem_of_getElem? (i := 1339) (by decide +kernel)⟩
def lw_privs_5 : List (MethodName × Nat) := [(⟨"BackLogicModel", "byteAt", "(I)I"⟩, 56), (⟨"BackLogicModel", "token", "(IIIJ)V"⟩, 56), (⟨"BackLogicModel", "sign", "(II)I"⟩, 56), (⟨"BackLogicModel", "is", "(I)Z"⟩, 56), (⟨"BackLogicModel", "line", "()V"⟩, 56), (⟨"BackLogicModel", "fail", "(I)V"⟩, 56), (⟨"BackLogicModel", "passes", "()V"⟩, 56), (⟨"BackLogicModel", "must", "(I)V"⟩, 56), (⟨"BackLogicModel", "controls", "()V"⟩, 56), (⟨"BackLogicModel", "means", "()V"⟩, 56), (⟨"BackLogicModel", "named", "(II)I"⟩, 56), (⟨"BackLogicModel", "wrong", "(II)V"⟩, 56), (⟨"BackLogicModel", "meansGate", "(I)V"⟩, 56), (⟨"BackLogicModel", "meansTable", "(I)V"⟩, 56), (⟨"BackLogicModel", "gates", "()I"⟩, 56), (⟨"BackLogicModel", "isRow", "(I)Z"⟩, 56)]
theorem lw_r5 : ∀ q ∈ lw_privs_5, lw_okq q := List.forall_mem_cons.mpr ⟨lw_p64, List.forall_mem_cons.mpr ⟨lw_p65, List.forall_mem_cons.mpr ⟨lw_p66, List.forall_mem_cons.mpr ⟨lw_p67, List.forall_mem_cons.mpr ⟨lw_p68, List.forall_mem_cons.mpr ⟨lw_p69, List.forall_mem_cons.mpr ⟨lw_p70, List.forall_mem_cons.mpr ⟨lw_p71, List.forall_mem_cons.mpr ⟨lw_p72, List.forall_mem_cons.mpr ⟨lw_p73, List.forall_mem_cons.mpr ⟨lw_p74, List.forall_mem_cons.mpr ⟨lw_p75, List.forall_mem_cons.mpr ⟨lw_p76, List.forall_mem_cons.mpr ⟨lw_p77, List.forall_mem_cons.mpr ⟨lw_p78, List.forall_mem_cons.mpr ⟨lw_p79, fun _ h => absurd h List.not_mem_nil⟩⟩⟩⟩⟩⟩⟩⟩⟩⟩⟩⟩⟩⟩⟩⟩
theorem lw_p80 : lw_okq (⟨"BackLogicModel", "rows", "()I"⟩, 56) := ⟨⟨by decide +kernel, by decide +kernel⟩, List.mem_of_getElem? (i := 1059) (by decide +kernel), List.mem_of_getElem? (i := 1342) (by decide +kernel), List.mem_of_getElem? (i := 1343) (by decide +kernel)⟩
theorem lw_p81 : lw_okq (⟨"BackLogicModel", "marks", "()V"⟩, 56) := ⟨⟨by decide +kernel, by decide +kernel⟩, List.mem_of_getElem? (i := 1059) (by decide +kernel), List.mem_of_getElem? (i := 1349) (by decide +kernel), List.mem_of_getElem? (i := 1350) (by decide +kernel)⟩
theorem lw_p82 : lw_okq (⟨"BackLogicModel", "isGate", "(I)Z"⟩, 56) := ⟨⟨by decide +kernel, by decide +kernel⟩, List.mem_of_getElem? (i := 1059) (by decide +kernel), List.mem_of_getElem? (i := 1363) (by decide +kernel), List.mem_of_getElem? (i := 1364) (by decide +kernel)⟩
theorem lw_p83 : lw_okq (⟨"BackLogicModel", "laysBecome", "(I)V"⟩, 56) := ⟨⟨by decide +kernel, by decide +kernel⟩, List.mem_of_getElem? (i := 1059) (by decide +kernel), List.mem_of_getElem? (i := 1378) (by decide +kernel), List.mem_of_getElem? (i := 1379) (by decide +kernel)⟩
theorem lw_p84 : lw_okq (⟨"BackLogicModel", "laysShrunk", "()V"⟩, 56) := ⟨⟨by decide +kernel, by decide +kernel⟩, List.mem_of_getElem? (i := 1059) (by decide +kernel), List.mem_of_getElem? (i := 1382) (by decide +kernel), List.mem_of_getElem? (i := 1383) (by decide +kernel)⟩
theorem lw_p85 : lw_okq (⟨"BackLogicModel", "shrinks", "(I)Z"⟩, 56) := ⟨⟨by decide +kernel, by decide +kernel⟩, List.mem_of_getElem? (i := 1059) (by decide +kernel), List.mem_of_getElem? (i := 1386) (by decide +kernel), List.mem_of_getElem? (i := 1387) (by decide +kernel)⟩
theorem lw_p86 : lw_okq (⟨"BackLogicModel", "fits", "(III)Z"⟩, 56) := ⟨⟨by decide +kernel, by decide +kernel⟩, List.mem_of_getElem? (i := 1059) (by decide +kernel), List.mem_of_getElem? (i := 1390) (by decide +kernel), List.mem_of_getElem? (i := 1391) (by decide +kernel)⟩
theorem lw_p87 : lw_okq (⟨"BackLogicModel", "canMeet", "(II)Z"⟩, 56) := ⟨⟨by decide +kernel, by decide +kernel⟩, List.mem_of_getElem? (i := 1059) (by decide +kernel), List.mem_of_getElem? (i := 1397) (by decide +kernel), List.mem_of_getElem? (i := 1398) (by decide +kernel)⟩
theorem lw_p88 : lw_okq (⟨"BackLogicModel", "doAgree", "([III)Z"⟩, 56) := ⟨⟨by decide +kernel, by decide +kernel⟩, List.mem_of_getElem? (i := 1059) (by decide +kernel), List.mem_of_getElem? (i := 1401) (by decide +kernel), List.mem_of_getElem? (i := 1402) (by decide +kernel)⟩
theorem lw_p89 : lw_okq (⟨"BackLogicModel", "does", "(III)V"⟩, 56) := ⟨⟨by decide +kernel, by decide +kernel⟩, List.mem_of_getElem? (i := 1059) (by decide +kernel), List.mem_of_getElem? (i := 1411) (by decide +kernel), List.mem_of_getElem? (i := 1412) (by decide +kernel)⟩
theorem lw_p90 : lw_okq (⟨"BackLogicModel", "laysOrder", "([I)V"⟩, 56) := ⟨⟨by decide +kernel, by decide +kernel⟩, List.mem_of_getElem? (i := 1059) (by decide +kernel), List.mem_of_getElem? (i := 1415) (by decide +kernel), List.mem_of_getElem? (i := 1416) (by decide +kernel)⟩
theorem lw_p91 : lw_okq (⟨"BackLogicModel", "laysFound", "(IZ)V"⟩, 56) := ⟨⟨by decide +kernel, by decide +kernel⟩, List.mem_of_getElem? (i := 1059) (by decide +kernel), List.mem_of_getElem? (i := 1419) (by decide +kernel), List.mem_of_getElem? (i := 1420) (by decide +kernel)⟩
theorem lw_p92 : lw_okq (⟨"BackLogicModel", "notesGate", "(ZIIII)I"⟩, 56) := ⟨⟨by decide +kernel, by decide +kernel⟩, List.mem_of_getElem? (i := 1059) (by decide +kernel), List.mem_of_getElem? (i := 1423) (by decide +kernel), List.mem_of_getElem? (i := 1424) (by decide +kernel)⟩
theorem lw_p93 : lw_okq (⟨"BackLogicModel", "foundGate", "(II)V"⟩, 56) := ⟨⟨by decide +kernel, by decide +kernel⟩, List.mem_of_getElem? (i := 1059) (by decide +kernel), List.mem_of_getElem? (i := 1427) (by decide +kernel), List.mem_of_getElem? (i := 1428) (by decide +kernel)⟩
theorem lw_p94 : lw_okq (⟨"BackLogicModel", "laysFirst", "()V"⟩, 56) := ⟨⟨by decide +kernel, by decide +kernel⟩, List.mem_of_getElem? (i := 1059) (by decide +kernel), List.mem_of_getElem? (i := 1431) (by decide +kernel), List.mem_of_getElem? (i := 1432) (by decide +kernel)⟩
theorem lw_p95 : lw_okq (⟨"BackLogicModel", "laysTable", "()V"⟩, 56) := ⟨⟨by decide +kernel, by decide +kernel⟩, List.mem_of_getElem? (i := 1059) (by decide +kernel), List.mem_of_getElem? (i := 1435) (by decide +kernel), List.mem_of_getElem? (i := 1436) (by decide +kernel)⟩
def lw_privs_6 : List (MethodName × Nat) := [(⟨"BackLogicModel", "rows", "()I"⟩, 56), (⟨"BackLogicModel", "marks", "()V"⟩, 56), (⟨"BackLogicModel", "isGate", "(I)Z"⟩, 56), (⟨"BackLogicModel", "laysBecome", "(I)V"⟩, 56), (⟨"BackLogicModel", "laysShrunk", "()V"⟩, 56), (⟨"BackLogicModel", "shrinks", "(I)Z"⟩, 56), (⟨"BackLogicModel", "fits", "(III)Z"⟩, 56), (⟨"BackLogicModel", "canMeet", "(II)Z"⟩, 56), (⟨"BackLogicModel", "doAgree", "([III)Z"⟩, 56), (⟨"BackLogicModel", "does", "(III)V"⟩, 56), (⟨"BackLogicModel", "laysOrder", "([I)V"⟩, 56), (⟨"BackLogicModel", "laysFound", "(IZ)V"⟩, 56), (⟨"BackLogicModel", "notesGate", "(ZIIII)I"⟩, 56), (⟨"BackLogicModel", "foundGate", "(II)V"⟩, 56), (⟨"BackLogicModel", "laysFirst", "()V"⟩, 56), (⟨"BackLogicModel", "laysTable", "()V"⟩, 56)]
theorem lw_r6 : ∀ q ∈ lw_privs_6, lw_okq q := List.forall_mem_cons.mpr ⟨lw_p80, List.forall_mem_cons.mpr ⟨lw_p81, List.forall_mem_cons.mpr ⟨lw_p82, List.forall_mem_cons.mpr ⟨lw_p83, List.forall_mem_cons.mpr ⟨lw_p84, List.forall_mem_cons.mpr ⟨lw_p85, List.forall_mem_cons.mpr ⟨lw_p86, List.forall_mem_cons.mpr ⟨lw_p87, List.forall_mem_cons.mpr ⟨lw_p88, List.forall_mem_cons.mpr ⟨lw_p89, List.forall_mem_cons.mpr ⟨lw_p90, List.forall_mem_cons.mpr ⟨lw_p91, List.forall_mem_cons.mpr ⟨lw_p92, List.forall_mem_cons.mpr ⟨lw_p93, List.forall_mem_cons.mpr ⟨lw_p94, List.forall_mem_cons.mpr ⟨lw_p95, fun _ h => absurd h List.not_mem_nil⟩⟩⟩⟩⟩⟩⟩⟩⟩⟩⟩⟩⟩⟩⟩⟩
theorem lw_p96 : lw_okq (⟨"BackLogicModel", "placeOf", "(I)I"⟩, 56) := ⟨⟨by decide +kernel, by decide +kernel⟩, List.mem_of_getElem? (i := 1059) (by decide +kernel), List.mem_of_getElem? (i := 1439) (by decide +kernel), List.mem_of_getElem? (i := 1440) (by decide +kernel)⟩
theorem lw_p97 : lw_okq (⟨"BackLogicModel", "laysPlace", "(II)V"⟩, 56) := ⟨⟨by decide +kernel, by decide +kernel⟩, List.mem_of_getElem? (i := 1059) (by decide +kernel), List.mem_of_getElem? (i := 1443) (by decide +kernel), List.mem_of_getElem? (i := 1444) (by decide +kernel)⟩
theorem lw_p98 : lw_okq (⟨"BackLogicModel", "fewestFor", "()I"⟩, 56) := ⟨⟨by decide +kernel, by decide +kernel⟩, List.mem_of_getElem? (i := 1059) (by decide +kernel), List.mem_of_getElem? (i := 1447) (by decide +kernel), List.mem_of_getElem? (i := 1448) (by decide +kernel)⟩
theorem lw_p99 : lw_okq (⟨"BackLogicModel", "madeBy", "(III)I"⟩, 56) := ⟨⟨by decide +kernel, by decide +kernel⟩, List.mem_of_getElem? (i := 1059) (by decide +kernel), List.mem_of_getElem? (i := 1467) (by decide +kernel), List.mem_of_getElem? (i := 1468) (by decide +kernel)⟩
theorem lw_p100 : lw_okq (⟨"BackLogicModel", "controlsOf", "(I)I"⟩, 56) := ⟨⟨by decide +kernel, by decide +kernel⟩, List.mem_of_getElem? (i := 1059) (by decide +kernel), List.mem_of_getElem? (i := 1490) (by decide +kernel), List.mem_of_getElem? (i := 1491) (by decide +kernel)⟩
theorem lw_p101 : lw_okq (⟨"BackLogicModel", "laysLevels", "()I"⟩, 56) := ⟨⟨by decide +kernel, by decide +kernel⟩, List.mem_of_getElem? (i := 1059) (by decide +kernel), List.mem_of_getElem? (i := 1494) (by decide +kernel), List.mem_of_getElem? (i := 1495) (by decide +kernel)⟩
theorem lw_p102 : lw_okq (⟨"BackLogicModel", "freeOf", "(II)I"⟩, 56) := ⟨⟨by decide +kernel, by decide +kernel⟩, List.mem_of_getElem? (i := 1059) (by decide +kernel), List.mem_of_getElem? (i := 1501) (by decide +kernel), List.mem_of_getElem? (i := 1502) (by decide +kernel)⟩
theorem lw_p103 : lw_okq (⟨"BackLogicModel", "foundOf", "(II)I"⟩, 56) := ⟨⟨by decide +kernel, by decide +kernel⟩, List.mem_of_getElem? (i := 1059) (by decide +kernel), List.mem_of_getElem? (i := 1513) (by decide +kernel), List.mem_of_getElem? (i := 1514) (by decide +kernel)⟩
theorem lw_p104 : lw_okq (⟨"BackLogicModel", "laysSlot", "(I)V"⟩, 56) := ⟨⟨by decide +kernel, by decide +kernel⟩, List.mem_of_getElem? (i := 1059) (by decide +kernel), List.mem_of_getElem? (i := 1525) (by decide +kernel), List.mem_of_getElem? (i := 1526) (by decide +kernel)⟩
theorem lw_p105 : lw_okq (⟨"BackLogicModel", "isRenamed", "()Z"⟩, 56) := ⟨⟨by decide +kernel, by decide +kernel⟩, List.mem_of_getElem? (i := 1059) (by decide +kernel), List.mem_of_getElem? (i := 1533) (by decide +kernel), List.mem_of_getElem? (i := 1534) (by decide +kernel)⟩
theorem lw_p106 : lw_okq (⟨"BackLogicModel", "renamed", "(I)I"⟩, 56) := ⟨⟨by decide +kernel, by decide +kernel⟩, List.mem_of_getElem? (i := 1059) (by decide +kernel), List.mem_of_getElem? (i := 1537) (by decide +kernel), List.mem_of_getElem? (i := 1538) (by decide +kernel)⟩
theorem lw_p107 : lw_okq (⟨"BackLogicModel", "stuckBy", "(III)I"⟩, 56) := ⟨⟨by decide +kernel, by decide +kernel⟩, List.mem_of_getElem? (i := 1059) (by decide +kernel), List.mem_of_getElem? (i := 1545) (by decide +kernel), List.mem_of_getElem? (i := 1546) (by decide +kernel)⟩
theorem lw_p108 : lw_okq (⟨"BackLogicModel", "testRows", "()I"⟩, 56) := ⟨⟨by decide +kernel, by decide +kernel⟩, List.mem_of_getElem? (i := 1059) (by decide +kernel), List.mem_of_getElem? (i := 1553) (by decide +kernel), List.mem_of_getElem? (i := 1554) (by decide +kernel)⟩
theorem lw_p109 : lw_okq (⟨"BackLogicModel", "seenBy", "(I)I"⟩, 56) := ⟨⟨by decide +kernel, by decide +kernel⟩, List.mem_of_getElem? (i := 1059) (by decide +kernel), List.mem_of_getElem? (i := 1557) (by decide +kernel), List.mem_of_getElem? (i := 1558) (by decide +kernel)⟩
theorem lw_p110 : lw_okq (⟨"BackLogicModel", "termsOf", "(I)I"⟩, 56) := ⟨⟨by decide +kernel, by decide +kernel⟩, List.mem_of_getElem? (i := 1059) (by decide +kernel), List.mem_of_getElem? (i := 1568) (by decide +kernel), List.mem_of_getElem? (i := 1569) (by decide +kernel)⟩
theorem lw_p111 : lw_okq (⟨"BackLogicModel", "isIdle", "(II)Z"⟩, 56) := ⟨⟨by decide +kernel, by decide +kernel⟩, List.mem_of_getElem? (i := 1059) (by decide +kernel), List.mem_of_getElem? (i := 1576) (by decide +kernel), List.mem_of_getElem? (i := 1577) (by decide +kernel)⟩
def lw_privs_7 : List (MethodName × Nat) := [(⟨"BackLogicModel", "placeOf", "(I)I"⟩, 56), (⟨"BackLogicModel", "laysPlace", "(II)V"⟩, 56), (⟨"BackLogicModel", "fewestFor", "()I"⟩, 56), (⟨"BackLogicModel", "madeBy", "(III)I"⟩, 56), (⟨"BackLogicModel", "controlsOf", "(I)I"⟩, 56), (⟨"BackLogicModel", "laysLevels", "()I"⟩, 56), (⟨"BackLogicModel", "freeOf", "(II)I"⟩, 56), (⟨"BackLogicModel", "foundOf", "(II)I"⟩, 56), (⟨"BackLogicModel", "laysSlot", "(I)V"⟩, 56), (⟨"BackLogicModel", "isRenamed", "()Z"⟩, 56), (⟨"BackLogicModel", "renamed", "(I)I"⟩, 56), (⟨"BackLogicModel", "stuckBy", "(III)I"⟩, 56), (⟨"BackLogicModel", "testRows", "()I"⟩, 56), (⟨"BackLogicModel", "seenBy", "(I)I"⟩, 56), (⟨"BackLogicModel", "termsOf", "(I)I"⟩, 56), (⟨"BackLogicModel", "isIdle", "(II)Z"⟩, 56)]
theorem lw_r7 : ∀ q ∈ lw_privs_7, lw_okq q := List.forall_mem_cons.mpr ⟨lw_p96, List.forall_mem_cons.mpr ⟨lw_p97, List.forall_mem_cons.mpr ⟨lw_p98, List.forall_mem_cons.mpr ⟨lw_p99, List.forall_mem_cons.mpr ⟨lw_p100, List.forall_mem_cons.mpr ⟨lw_p101, List.forall_mem_cons.mpr ⟨lw_p102, List.forall_mem_cons.mpr ⟨lw_p103, List.forall_mem_cons.mpr ⟨lw_p104, List.forall_mem_cons.mpr ⟨lw_p105, List.forall_mem_cons.mpr ⟨lw_p106, List.forall_mem_cons.mpr ⟨lw_p107, List.forall_mem_cons.mpr ⟨lw_p108, List.forall_mem_cons.mpr ⟨lw_p109, List.forall_mem_cons.mpr ⟨lw_p110, List.forall_mem_cons.mpr ⟨lw_p111, fun _ h => absurd h List.not_mem_nil⟩⟩⟩⟩⟩⟩⟩⟩⟩⟩⟩⟩⟩⟩⟩⟩
theorem lw_p112 : lw_okq (⟨"BackLogicModel", "copies", "()I"⟩, 56) := ⟨⟨by decide +kernel, by decide +kernel⟩, List.mem_of_getElem? (i := 1059) (by decide +kernel), List.mem_of_getElem? (i := 1584) (by decide +kernel), List.mem_of_getElem? (i := 1585) (by decide +kernel)⟩
theorem lw_p113 : lw_okq (⟨"BackLogicModel", "garbage", "()I"⟩, 56) := ⟨⟨by decide +kernel, by decide +kernel⟩, List.mem_of_getElem? (i := 1059) (by decide +kernel), List.mem_of_getElem? (i := 1588) (by decide +kernel), List.mem_of_getElem? (i := 1589) (by decide +kernel)⟩
theorem lw_p114 : lw_okq (⟨"BackLogicModel", "lines", "()I"⟩, 56) := ⟨⟨by decide +kernel, by decide +kernel⟩, List.mem_of_getElem? (i := 1059) (by decide +kernel), List.mem_of_getElem? (i := 1592) (by decide +kernel), List.mem_of_getElem? (i := 1593) (by decide +kernel)⟩
theorem lw_p115 : lw_okq (⟨"BackLogicModel", "laysTold", "()V"⟩, 56) := ⟨⟨by decide +kernel, by decide +kernel⟩, List.mem_of_getElem? (i := 1059) (by decide +kernel), List.mem_of_getElem? (i := 1596) (by decide +kernel), List.mem_of_getElem? (i := 1597) (by decide +kernel)⟩
theorem lw_p116 : lw_okq (⟨"BackLogicModel", "cost", "()I"⟩, 56) := ⟨⟨by decide +kernel, by decide +kernel⟩, List.mem_of_getElem? (i := 1059) (by decide +kernel), List.mem_of_getElem? (i := 1608) (by decide +kernel), List.mem_of_getElem? (i := 1609) (by decide +kernel)⟩
theorem lw_p117 : lw_okq (⟨"BackLogicModel", "agreeing", "()I"⟩, 56) := ⟨⟨by decide +kernel, by decide +kernel⟩, List.mem_of_getElem? (i := 1059) (by decide +kernel), List.mem_of_getElem? (i := 1612) (by decide +kernel), List.mem_of_getElem? (i := 1613) (by decide +kernel)⟩
theorem lw_p118 : lw_okq (⟨"BackLogicModel", "seeing", "()I"⟩, 56) := ⟨⟨by decide +kernel, by decide +kernel⟩, List.mem_of_getElem? (i := 1059) (by decide +kernel), List.mem_of_getElem? (i := 1616) (by decide +kernel), List.mem_of_getElem? (i := 1617) (by decide +kernel)⟩
theorem lw_p119 : lw_okq (⟨"BackLogicModel", "degree", "()I"⟩, 56) := ⟨⟨by decide +kernel, by decide +kernel⟩, List.mem_of_getElem? (i := 1059) (by decide +kernel), List.mem_of_getElem? (i := 1620) (by decide +kernel), List.mem_of_getElem? (i := 1621) (by decide +kernel)⟩
theorem lw_p120 : lw_okq (⟨"BackLogicModel", "sorts", "()I"⟩, 56) := ⟨⟨by decide +kernel, by decide +kernel⟩, List.mem_of_getElem? (i := 1059) (by decide +kernel), List.mem_of_getElem? (i := 1624) (by decide +kernel), List.mem_of_getElem? (i := 1625) (by decide +kernel)⟩
def lw_privs_8 : List (MethodName × Nat) := [(⟨"BackLogicModel", "copies", "()I"⟩, 56), (⟨"BackLogicModel", "garbage", "()I"⟩, 56), (⟨"BackLogicModel", "lines", "()I"⟩, 56), (⟨"BackLogicModel", "laysTold", "()V"⟩, 56), (⟨"BackLogicModel", "cost", "()I"⟩, 56), (⟨"BackLogicModel", "agreeing", "()I"⟩, 56), (⟨"BackLogicModel", "seeing", "()I"⟩, 56), (⟨"BackLogicModel", "degree", "()I"⟩, 56), (⟨"BackLogicModel", "sorts", "()I"⟩, 56)]
theorem lw_r8 : ∀ q ∈ lw_privs_8, lw_okq q := List.forall_mem_cons.mpr ⟨lw_p112, List.forall_mem_cons.mpr ⟨lw_p113, List.forall_mem_cons.mpr ⟨lw_p114, List.forall_mem_cons.mpr ⟨lw_p115, List.forall_mem_cons.mpr ⟨lw_p116, List.forall_mem_cons.mpr ⟨lw_p117, List.forall_mem_cons.mpr ⟨lw_p118, List.forall_mem_cons.mpr ⟨lw_p119, List.forall_mem_cons.mpr ⟨lw_p120, fun _ h => absurd h List.not_mem_nil⟩⟩⟩⟩⟩⟩⟩⟩⟩
def lw_privs : List (MethodName × Nat) := lw_privs_1 ++ (lw_privs_2 ++ (lw_privs_3 ++ (lw_privs_4 ++ (lw_privs_5 ++ (lw_privs_6 ++ (lw_privs_7 ++ (lw_privs_8)))))))
def lw_tbl : List Cond := k2_sels lw_privs ++ tables_1
theorem lw_privs_ok : ∀ q ∈ lw_privs, lw_okq q := by
  show ∀ q ∈ lw_privs_1 ++ (lw_privs_2 ++ (lw_privs_3 ++ (lw_privs_4 ++ (lw_privs_5 ++ (lw_privs_6 ++ (lw_privs_7 ++ (lw_privs_8))))))), lw_okq q
  exact List.forall_mem_append.mpr ⟨lw_r1, List.forall_mem_append.mpr ⟨lw_r2, List.forall_mem_append.mpr ⟨lw_r3, List.forall_mem_append.mpr ⟨lw_r4, List.forall_mem_append.mpr ⟨lw_r5, List.forall_mem_append.mpr ⟨lw_r6, List.forall_mem_append.mpr ⟨lw_r7, lw_r8⟩⟩⟩⟩⟩⟩⟩
end
section
/-! names: classes, fields, methods -/
def RX0 : String := "BackLogic$Cascade"
def TX0 : u_T := fun k => match k with
  | 0 => ("BackLogic$Cascade", "gates", "[I", true)
  | _ => ("BackLogic$Cascade", "size", "I", false)
def tyX0 : Nat → FieldType := fun k => match k with
  | 0 => .array .int
  | _ => .int
theorem nmX0 : ∀ a, a < 2 → ∀ b, b < 2 → a ≠ b → (TX0 a).2.1 ≠ (TX0 b).2.1 := by decide +kernel
theorem tyX0_ok : ∀ k, k < 2 → parseFieldDescriptor (TX0 k).2.2.1 = some (tyX0 k) := by decide +kernel
abbrev cX0_init : ByteArray := prog_2_method_1_code
def yX0_init : MethodName := ⟨RX0, "<init>", "(I)V"⟩
abbrev cX0_has : ByteArray := prog_2_method_2_code
def yX0_has : MethodName := ⟨RX0, "has", "(I)Z"⟩
abbrev cX0_gateAt : ByteArray := prog_2_method_3_code
def yX0_gateAt : MethodName := ⟨RX0, "gateAt", "(I)I"⟩
abbrev cX0_firstPlaceOf : ByteArray := prog_2_method_4_code
def yX0_firstPlaceOf : MethodName := ⟨RX0, "firstPlaceOf", "(I)I"⟩
abbrev cX0_append : ByteArray := prog_2_method_5_code
def yX0_append : MethodName := ⟨RX0, "append", "(I)V"⟩
abbrev cX0_insert : ByteArray := prog_2_method_6_code
def yX0_insert : MethodName := ⟨RX0, "insert", "(II)V"⟩
abbrev cX0_remove : ByteArray := prog_2_method_7_code
def yX0_remove : MethodName := ⟨RX0, "remove", "(I)V"⟩
abbrev cX0_exchange : ByteArray := prog_2_method_8_code
def yX0_exchange : MethodName := ⟨RX0, "exchange", "(I)V"⟩
abbrev cX0_turnRound : ByteArray := prog_2_method_9_code
def yX0_turnRound : MethodName := ⟨RX0, "turnRound", "()V"⟩
abbrev cX0_copy : ByteArray := prog_2_method_10_code
def yX0_copy : MethodName := ⟨RX0, "copy", "(LBackLogic$Cascade;)V"⟩
abbrev cX0_run : ByteArray := prog_2_method_11_code
def yX0_run : MethodName := ⟨RX0, "run", "(III)I"⟩
abbrev cX0_runBack : ByteArray := prog_2_method_12_code
def yX0_runBack : MethodName := ⟨RX0, "runBack", "(I)I"⟩
abbrev cX0_runStuck : ByteArray := prog_2_method_13_code
def yX0_runStuck : MethodName := ⟨RX0, "runStuck", "(IIZ)I"⟩
abbrev cX0_force : ByteArray := prog_2_method_14_code
def yX0_force : MethodName := ⟨RX0, "force", "(IIZ)I"⟩
abbrev cX0_makesNothing : ByteArray := prog_2_method_15_code
def yX0_makesNothing : MethodName := ⟨RX0, "makesNothing", "(III)Z"⟩
abbrev cX0_makeOrder : ByteArray := prog_2_method_16_code
def yX0_makeOrder : MethodName := ⟨RX0, "makeOrder", "(I[I)V"⟩
abbrev cX0_shrink : ByteArray := prog_2_method_17_code
def yX0_shrink : MethodName := ⟨RX0, "shrink", "(I)V"⟩
abbrev cX0_shrinkOnce : ByteArray := prog_2_method_18_code
def yX0_shrinkOnce : MethodName := ⟨RX0, "shrinkOnce", "(I)Z"⟩
abbrev cX0_reaches : ByteArray := prog_2_method_19_code
def yX0_reaches : MethodName := ⟨RX0, "reaches", "(III)Z"⟩
abbrev cX0_join : ByteArray := prog_2_method_20_code
def yX0_join : MethodName := ⟨RX0, "join", "(III)V"⟩
def RX1 : String := "BackLogic$Finder"
def TX1 : u_T := fun k => match k with
  | 0 => ("BackLogic$Finder", "images", "[I", true)
  | 1 => ("BackLogic$Finder", "cascade", "LBackLogic$Cascade;", true)
  | _ => ("BackLogic$Finder", "behind", "LBackLogic$Cascade;", true)
def tyX1 : Nat → FieldType := fun k => match k with
  | 0 => .array .int
  | 1 => .object "BackLogic$Cascade"
  | _ => .object "BackLogic$Cascade"
theorem nmX1 : ∀ a, a < 3 → ∀ b, b < 3 → a ≠ b → (TX1 a).2.1 ≠ (TX1 b).2.1 := by decide +kernel
theorem tyX1_ok : ∀ k, k < 3 → parseFieldDescriptor (TX1 k).2.2.1 = some (tyX1 k) := by decide +kernel
abbrev cX1_init : ByteArray := prog_3_method_1_code
def yX1_init : MethodName := ⟨RX1, "<init>", "()V"⟩
abbrev cX1_find : ByteArray := prog_3_method_2_code
def yX1_find : MethodName := ⟨RX1, "find", "(IZ)V"⟩
abbrev cX1_sourceOf : ByteArray := prog_3_method_3_code
def yX1_sourceOf : MethodName := ⟨RX1, "sourceOf", "(II)I"⟩
abbrev cX1_lead : ByteArray := prog_3_method_4_code
def yX1_lead : MethodName := ⟨RX1, "lead", "(IIIZ)V"⟩
abbrev cX1_note : ByteArray := prog_3_method_5_code
def yX1_note : MethodName := ⟨RX1, "note", "(IIZ)V"⟩
abbrev cX1_goAhead : ByteArray := prog_3_method_6_code
def yX1_goAhead : MethodName := ⟨RX1, "goAhead", "(II)V"⟩
abbrev cX1_goBehind : ByteArray := prog_3_method_7_code
def yX1_goBehind : MethodName := ⟨RX1, "goBehind", "(II)V"⟩
def RX2 : String := "BackLogic$Gate"
def TX2 : u_T := fun k => match k with
  | _ => ("", "", "", false)
def tyX2 : Nat → FieldType := fun k => match k with
  | _ => .int
theorem nmX2 : ∀ a, a < 0 → ∀ b, b < 0 → a ≠ b → (TX2 a).2.1 ≠ (TX2 b).2.1 := by decide +kernel
theorem tyX2_ok : ∀ k, k < 0 → parseFieldDescriptor (TX2 k).2.2.1 = some (tyX2 k) := by decide +kernel
abbrev cX2_of : ByteArray := prog_4_method_2_code
def yX2_of : MethodName := ⟨RX2, "of", "(III)I"⟩
abbrev cX2_targetOf : ByteArray := prog_4_method_3_code
def yX2_targetOf : MethodName := ⟨RX2, "targetOf", "(I)I"⟩
abbrev cX2_onOf : ByteArray := prog_4_method_4_code
def yX2_onOf : MethodName := ⟨RX2, "onOf", "(I)I"⟩
abbrev cX2_offOf : ByteArray := prog_4_method_5_code
def yX2_offOf : MethodName := ⟨RX2, "offOf", "(I)I"⟩
abbrev cX2_controlsOf : ByteArray := prog_4_method_6_code
def yX2_controlsOf : MethodName := ⟨RX2, "controlsOf", "(I)I"⟩
abbrev cX2_wiresOf : ByteArray := prog_4_method_7_code
def yX2_wiresOf : MethodName := ⟨RX2, "wiresOf", "(I)I"⟩
abbrev cX2_part : ByteArray := prog_4_method_8_code
def yX2_part : MethodName := ⟨RX2, "part", "(II)I"⟩
abbrev cX2_turn : ByteArray := prog_4_method_9_code
def yX2_turn : MethodName := ⟨RX2, "turn", "(II)I"⟩
abbrev cX2_commute : ByteArray := prog_4_method_10_code
def yX2_commute : MethodName := ⟨RX2, "commute", "(III)Z"⟩
abbrev cX2_joined : ByteArray := prog_4_method_11_code
def yX2_joined : MethodName := ⟨RX2, "joined", "(III)I"⟩
abbrev cX2_withoutTurned : ByteArray := prog_4_method_12_code
def yX2_withoutTurned : MethodName := ⟨RX2, "withoutTurned", "(II)I"⟩
abbrev cX2_withOneMore : ByteArray := prog_4_method_13_code
def yX2_withOneMore : MethodName := ⟨RX2, "withOneMore", "(II)I"⟩
def RX3 : String := "BackLogic$Grammar"
def TX3 : u_T := fun k => match k with
  | 0 => ("BackLogic$Grammar", "faultPlace", "I", false)
  | 1 => ("BackLogic$Grammar", "state", "I", false)
  | 2 => ("BackLogic$Grammar", "wireLines", "I", false)
  | 3 => ("BackLogic$Grammar", "gateLines", "I", false)
  | 4 => ("BackLogic$Grammar", "controls", "I", false)
  | _ => ("BackLogic$Grammar", "values", "I", false)
def tyX3 : Nat → FieldType := fun k => match k with
  | 0 => .int
  | 1 => .int
  | 2 => .int
  | 3 => .int
  | 4 => .int
  | _ => .int
theorem nmX3 : ∀ a, a < 6 → ∀ b, b < 6 → a ≠ b → (TX3 a).2.1 ≠ (TX3 b).2.1 := by decide +kernel
theorem tyX3_ok : ∀ k, k < 6 → parseFieldDescriptor (TX3 k).2.2.1 = some (tyX3 k) := by decide +kernel
abbrev cX3_init : ByteArray := prog_5_method_1_code
def yX3_init : MethodName := ⟨RX3, "<init>", "()V"⟩
abbrev cX3_check : ByteArray := prog_5_method_2_code
def yX3_check : MethodName := ⟨RX3, "check", "(LBackLogic$Tape;)I"⟩
abbrev cX3_begin : ByteArray := prog_5_method_3_code
def yX3_begin : MethodName := ⟨RX3, "begin", "(LBackLogic$Tape;)V"⟩
abbrev cX3_faultOf : ByteArray := prog_5_method_4_code
def yX3_faultOf : MethodName := ⟨RX3, "faultOf", "(LBackLogic$Tape;)I"⟩
abbrev cX3_stateBehind : ByteArray := prog_5_method_5_code
def yX3_stateBehind : MethodName := ⟨RX3, "stateBehind", "(I)I"⟩
abbrev cX3_stateInLine : ByteArray := prog_5_method_6_code
def yX3_stateInLine : MethodName := ⟨RX3, "stateInLine", "(I)I"⟩
abbrev cX3_stateInControls : ByteArray := prog_5_method_7_code
def yX3_stateInControls : MethodName := ⟨RX3, "stateInControls", "(I)I"⟩
abbrev cX3_stateBehindInt : ByteArray := prog_5_method_8_code
def yX3_stateBehindInt : MethodName := ⟨RX3, "stateBehindInt", "(II)I"⟩
abbrev cX3_hasRoom : ByteArray := prog_5_method_9_code
def yX3_hasRoom : MethodName := ⟨RX3, "hasRoom", "(I)Z"⟩
abbrev cX3_hasRoomForLine : ByteArray := prog_5_method_10_code
def yX3_hasRoomForLine : MethodName := ⟨RX3, "hasRoomForLine", "(I)Z"⟩
def RX4 : String := "BackLogic$History"
def TX4 : u_T := fun k => match k with
  | 0 => ("BackLogic$History", "steps", "[LBackLogic$Cascade;", true)
  | 1 => ("BackLogic$History", "oldest", "I", false)
  | _ => ("BackLogic$History", "size", "I", false)
def tyX4 : Nat → FieldType := fun k => match k with
  | 0 => .array (.object "BackLogic$Cascade")
  | 1 => .int
  | _ => .int
theorem nmX4 : ∀ a, a < 3 → ∀ b, b < 3 → a ≠ b → (TX4 a).2.1 ≠ (TX4 b).2.1 := by decide +kernel
theorem tyX4_ok : ∀ k, k < 3 → parseFieldDescriptor (TX4 k).2.2.1 = some (tyX4 k) := by decide +kernel
abbrev cX4_init : ByteArray := prog_6_method_1_code
def yX4_init : MethodName := ⟨RX4, "<init>", "()V"⟩
abbrev cX4_clear : ByteArray := prog_6_method_2_code
def yX4_clear : MethodName := ⟨RX4, "clear", "()V"⟩
abbrev cX4_keep : ByteArray := prog_6_method_3_code
def yX4_keep : MethodName := ⟨RX4, "keep", "(LBackLogic$Cascade;)V"⟩
abbrev cX4_bringBack : ByteArray := prog_6_method_4_code
def yX4_bringBack : MethodName := ⟨RX4, "bringBack", "(LBackLogic$Cascade;)Z"⟩
def RX5 : String := "BackLogic$Meaning"
def TX5 : u_T := fun k => match k with
  | 0 => ("BackLogic$Meaning", "faultPlace", "I", false)
  | 1 => ("BackLogic$Meaning", "wires", "I", false)
  | _ => ("BackLogic$Meaning", "names", "[J", true)
def tyX5 : Nat → FieldType := fun k => match k with
  | 0 => .int
  | 1 => .int
  | _ => .array .long
theorem nmX5 : ∀ a, a < 3 → ∀ b, b < 3 → a ≠ b → (TX5 a).2.1 ≠ (TX5 b).2.1 := by decide +kernel
theorem tyX5_ok : ∀ k, k < 3 → parseFieldDescriptor (TX5 k).2.2.1 = some (tyX5 k) := by decide +kernel
abbrev cX5_init : ByteArray := prog_7_method_1_code
def yX5_init : MethodName := ⟨RX5, "<init>", "()V"⟩
abbrev cX5_check : ByteArray := prog_7_method_2_code
def yX5_check : MethodName := ⟨RX5, "check", "(LBackLogic$Tape;)I"⟩
abbrev cX5_collectNames : ByteArray := prog_7_method_3_code
def yX5_collectNames : MethodName := ⟨RX5, "collectNames", "(LBackLogic$Tape;)V"⟩
abbrev cX5_wireNamed : ByteArray := prog_7_method_4_code
def yX5_wireNamed : MethodName := ⟨RX5, "wireNamed", "(J)I"⟩
abbrev cX5_faultAt : ByteArray := prog_7_method_5_code
def yX5_faultAt : MethodName := ⟨RX5, "faultAt", "(LBackLogic$Tape;II)I"⟩
abbrev cX5_isPrice : ByteArray := prog_7_method_6_code
def yX5_isPrice : MethodName := ⟨RX5, "isPrice", "(J)Z"⟩
abbrev cX5_isPutCount : ByteArray := prog_7_method_7_code
def yX5_isPutCount : MethodName := ⟨RX5, "isPutCount", "(J)Z"⟩
abbrev cX5_wireFault : ByteArray := prog_7_method_8_code
def yX5_wireFault : MethodName := ⟨RX5, "wireFault", "(LBackLogic$Tape;II)I"⟩
abbrev cX5_gateFault : ByteArray := prog_7_method_9_code
def yX5_gateFault : MethodName := ⟨RX5, "gateFault", "(LBackLogic$Tape;II)I"⟩
abbrev cX5_tableFault : ByteArray := prog_7_method_10_code
def yX5_tableFault : MethodName := ⟨RX5, "tableFault", "(LBackLogic$Tape;II)I"⟩
abbrev cX5_tellGates : ByteArray := prog_7_method_11_code
def yX5_tellGates : MethodName := ⟨RX5, "tellGates", "(LBackLogic$Tape;LBackLogic$Cascade;)V"⟩
abbrev cX5_gateFrom : ByteArray := prog_7_method_12_code
def yX5_gateFrom : MethodName := ⟨RX5, "gateFrom", "(LBackLogic$Tape;I)I"⟩
abbrev cX5_tellPrices : ByteArray := prog_7_method_13_code
def yX5_tellPrices : MethodName := ⟨RX5, "tellPrices", "(LBackLogic$Tape;[I)V"⟩
abbrev cX5_tellTable : ByteArray := prog_7_method_14_code
def yX5_tellTable : MethodName := ⟨RX5, "tellTable", "(LBackLogic$Tape;LBackLogic$Told;)V"⟩
def RX6 : String := "BackLogic$Rounds"
def TX6 : u_T := fun k => match k with
  | _ => ("", "", "", false)
def tyX6 : Nat → FieldType := fun k => match k with
  | _ => .int
theorem nmX6 : ∀ a, a < 0 → ∀ b, b < 0 → a ≠ b → (TX6 a).2.1 ≠ (TX6 b).2.1 := by decide +kernel
theorem tyX6_ok : ∀ k, k < 0 → parseFieldDescriptor (TX6 k).2.2.1 = some (tyX6 k) := by decide +kernel
abbrev cX6_lengthFrom : ByteArray := prog_8_method_2_code
def yX6_lengthFrom : MethodName := ⟨RX6, "lengthFrom", "(I[II)I"⟩
abbrev cX6_howMany : ByteArray := prog_8_method_3_code
def yX6_howMany : MethodName := ⟨RX6, "howMany", "([II)I"⟩
abbrev cX6_longest : ByteArray := prog_8_method_4_code
def yX6_longest : MethodName := ⟨RX6, "longest", "([II)I"⟩
abbrev cX6_still : ByteArray := prog_8_method_5_code
def yX6_still : MethodName := ⟨RX6, "still", "([II)I"⟩
abbrev cX6_times : ByteArray := prog_8_method_6_code
def yX6_times : MethodName := ⟨RX6, "times", "([II)I"⟩
abbrev cX6_leastCommonMultiple : ByteArray := prog_8_method_7_code
def yX6_leastCommonMultiple : MethodName := ⟨RX6, "leastCommonMultiple", "(III)I"⟩
def RX7 : String := "BackLogic$Shortest"
def TX7 : u_T := fun k => match k with
  | 0 => ("BackLogic$Shortest", "cascade", "LBackLogic$Cascade;", true)
  | 1 => ("BackLogic$Shortest", "places", "[I", true)
  | 2 => ("BackLogic$Shortest", "kept", "[I", true)
  | 3 => ("BackLogic$Shortest", "kinds", "[I", true)
  | 4 => ("BackLogic$Shortest", "moved", "[I", true)
  | 5 => ("BackLogic$Shortest", "shifts", "[I", true)
  | 6 => ("BackLogic$Shortest", "keptSize", "I", false)
  | 7 => ("BackLogic$Shortest", "kindsSize", "I", false)
  | 8 => ("BackLogic$Shortest", "wires", "I", false)
  | _ => ("BackLogic$Shortest", "solved", "I", false)
def tyX7 : Nat → FieldType := fun k => match k with
  | 0 => .object "BackLogic$Cascade"
  | 1 => .array .int
  | 2 => .array .int
  | 3 => .array .int
  | 4 => .array .int
  | 5 => .array .int
  | 6 => .int
  | 7 => .int
  | 8 => .int
  | _ => .int
theorem nmX7 : ∀ a, a < 10 → ∀ b, b < 10 → a ≠ b → (TX7 a).2.1 ≠ (TX7 b).2.1 := by decide +kernel
theorem tyX7_ok : ∀ k, k < 10 → parseFieldDescriptor (TX7 k).2.2.1 = some (tyX7 k) := by decide +kernel
abbrev cX7_init : ByteArray := prog_9_method_1_code
def yX7_init : MethodName := ⟨RX7, "<init>", "()V"⟩
abbrev cX7_solve : ByteArray := prog_9_method_2_code
def yX7_solve : MethodName := ⟨RX7, "solve", "(I[I)V"⟩
abbrev cX7_pack : ByteArray := prog_9_method_3_code
def yX7_pack : MethodName := ⟨RX7, "pack", "([I)I"⟩
abbrev cX7_prepare : ByteArray := prog_9_method_4_code
def yX7_prepare : MethodName := ⟨RX7, "prepare", "(I)V"⟩
abbrev cX7_keepNext : ByteArray := prog_9_method_5_code
def yX7_keepNext : MethodName := ⟨RX7, "keepNext", "(II)V"⟩
abbrev cX7_setKinds : ByteArray := prog_9_method_6_code
def yX7_setKinds : MethodName := ⟨RX7, "setKinds", "()V"⟩
abbrev cX7_movedBy : ByteArray := prog_9_method_7_code
def yX7_movedBy : MethodName := ⟨RX7, "movedBy", "(II)I"⟩
abbrev cX7_without : ByteArray := prog_9_method_8_code
def yX7_without : MethodName := ⟨RX7, "without", "(II)I"⟩
abbrev cX7_placeOf : ByteArray := prog_9_method_9_code
def yX7_placeOf : MethodName := ⟨RX7, "placeOf", "(I)I"⟩
abbrev cX7_keep : ByteArray := prog_9_method_10_code
def yX7_keep : MethodName := ⟨RX7, "keep", "(II)V"⟩
abbrev cX7_depthOf : ByteArray := prog_9_method_11_code
def yX7_depthOf : MethodName := ⟨RX7, "depthOf", "(I)I"⟩
abbrev cX7_lookAhead : ByteArray := prog_9_method_12_code
def yX7_lookAhead : MethodName := ⟨RX7, "lookAhead", "(II)Z"⟩
abbrev cX7_finish : ByteArray := prog_9_method_13_code
def yX7_finish : MethodName := ⟨RX7, "finish", "(I)Z"⟩
def RX8 : String := "BackLogic$Tape"
def TX8 : u_T := fun k => match k with
  | 0 => ("BackLogic$Tape", "bytes", "[B", true)
  | 1 => ("BackLogic$Tape", "kinds", "[I", true)
  | 2 => ("BackLogic$Tape", "starts", "[I", true)
  | 3 => ("BackLogic$Tape", "values", "[J", true)
  | 4 => ("BackLogic$Tape", "length", "I", false)
  | 5 => ("BackLogic$Tape", "size", "I", false)
  | 6 => ("BackLogic$Tape", "kind", "I", false)
  | 7 => ("BackLogic$Tape", "start", "I", false)
  | 8 => ("BackLogic$Tape", "next", "I", false)
  | _ => ("BackLogic$Tape", "value", "J", false)
def tyX8 : Nat → FieldType := fun k => match k with
  | 0 => .array .byte
  | 1 => .array .int
  | 2 => .array .int
  | 3 => .array .long
  | 4 => .int
  | 5 => .int
  | 6 => .int
  | 7 => .int
  | 8 => .int
  | _ => .long
theorem nmX8 : ∀ a, a < 10 → ∀ b, b < 10 → a ≠ b → (TX8 a).2.1 ≠ (TX8 b).2.1 := by decide +kernel
theorem tyX8_ok : ∀ k, k < 10 → parseFieldDescriptor (TX8 k).2.2.1 = some (tyX8 k) := by decide +kernel
abbrev cX8_init : ByteArray := prog_10_method_1_code
def yX8_init : MethodName := ⟨RX8, "<init>", "()V"⟩
abbrev cX8_hasRoomFor : ByteArray := prog_10_method_2_code
def yX8_hasRoomFor : MethodName := ⟨RX8, "hasRoomFor", "(I)Z"⟩
abbrev cX8_addWord : ByteArray := prog_10_method_3_code
def yX8_addWord : MethodName := ⟨RX8, "addWord", "(I)V"⟩
abbrev cX8_byteAt : ByteArray := prog_10_method_4_code
def yX8_byteAt : MethodName := ⟨RX8, "byteAt", "(I)I"⟩
abbrev cX8_begin : ByteArray := prog_10_method_5_code
def yX8_begin : MethodName := ⟨RX8, "begin", "()V"⟩
abbrev cX8_isFull : ByteArray := prog_10_method_6_code
def yX8_isFull : MethodName := ⟨RX8, "isFull", "()Z"⟩
abbrev cX8_keep : ByteArray := prog_10_method_7_code
def yX8_keep : MethodName := ⟨RX8, "keep", "()V"⟩
abbrev cX8_has : ByteArray := prog_10_method_8_code
def yX8_has : MethodName := ⟨RX8, "has", "(I)Z"⟩
abbrev cX8_kindAt : ByteArray := prog_10_method_9_code
def yX8_kindAt : MethodName := ⟨RX8, "kindAt", "(I)I"⟩
abbrev cX8_startAt : ByteArray := prog_10_method_10_code
def yX8_startAt : MethodName := ⟨RX8, "startAt", "(I)I"⟩
abbrev cX8_valueAt : ByteArray := prog_10_method_11_code
def yX8_valueAt : MethodName := ⟨RX8, "valueAt", "(I)J"⟩
abbrev cX8_advance : ByteArray := prog_10_method_12_code
def yX8_advance : MethodName := ⟨RX8, "advance", "()V"⟩
abbrev cX8_signKind : ByteArray := prog_10_method_13_code
def yX8_signKind : MethodName := ⟨RX8, "signKind", "(I)I"⟩
abbrev cX8_scanWord : ByteArray := prog_10_method_14_code
def yX8_scanWord : MethodName := ⟨RX8, "scanWord", "()V"⟩
abbrev cX8_scanInt : ByteArray := prog_10_method_15_code
def yX8_scanInt : MethodName := ⟨RX8, "scanInt", "()V"⟩
abbrev cX8_wordKind : ByteArray := prog_10_method_16_code
def yX8_wordKind : MethodName := ⟨RX8, "wordKind", "(J)I"⟩
abbrev cX8_wordCode : ByteArray := prog_10_method_17_code
def yX8_wordCode : MethodName := ⟨RX8, "wordCode", "(Ljava/lang/String;)J"⟩
abbrev cX8_letterCode : ByteArray := prog_10_method_18_code
def yX8_letterCode : MethodName := ⟨RX8, "letterCode", "(I)I"⟩
abbrev cX8_isBlank : ByteArray := prog_10_method_19_code
def yX8_isBlank : MethodName := ⟨RX8, "isBlank", "(I)Z"⟩
abbrev cX8_isLetter : ByteArray := prog_10_method_20_code
def yX8_isLetter : MethodName := ⟨RX8, "isLetter", "(I)Z"⟩
abbrev cX8_isDigit : ByteArray := prog_10_method_21_code
def yX8_isDigit : MethodName := ⟨RX8, "isDigit", "(I)Z"⟩
def RX9 : String := "BackLogic$Tests"
def TX9 : u_T := fun k => match k with
  | 0 => ("BackLogic$Tests", "seen", "[I", true)
  | 1 => ("BackLogic$Tests", "chosen", "[I", true)
  | 2 => ("BackLogic$Tests", "rows", "I", false)
  | _ => ("BackLogic$Tests", "size", "I", false)
def tyX9 : Nat → FieldType := fun k => match k with
  | 0 => .array .int
  | 1 => .array .int
  | 2 => .int
  | _ => .int
theorem nmX9 : ∀ a, a < 4 → ∀ b, b < 4 → a ≠ b → (TX9 a).2.1 ≠ (TX9 b).2.1 := by decide +kernel
theorem tyX9_ok : ∀ k, k < 4 → parseFieldDescriptor (TX9 k).2.2.1 = some (tyX9 k) := by decide +kernel
abbrev cX9_init : ByteArray := prog_11_method_1_code
def yX9_init : MethodName := ⟨RX9, "<init>", "()V"⟩
abbrev cX9_look : ByteArray := prog_11_method_2_code
def yX9_look : MethodName := ⟨RX9, "look", "(LBackLogic$Cascade;I)V"⟩
abbrev cX9_seeingRows : ByteArray := prog_11_method_3_code
def yX9_seeingRows : MethodName := ⟨RX9, "seeingRows", "()I"⟩
abbrev cX9_choose : ByteArray := prog_11_method_4_code
def yX9_choose : MethodName := ⟨RX9, "choose", "()V"⟩
abbrev cX9_chooseFrom : ByteArray := prog_11_method_5_code
def yX9_chooseFrom : MethodName := ⟨RX9, "chooseFrom", "(III)Z"⟩
def RX10 : String := "BackLogic$Told"
def TX10 : u_T := fun k => match k with
  | 0 => ("BackLogic$Told", "isThere", "Z", false)
  | 1 => ("BackLogic$Told", "inputs", "I", false)
  | 2 => ("BackLogic$Told", "outputs", "I", false)
  | 3 => ("BackLogic$Told", "copies", "I", false)
  | 4 => ("BackLogic$Told", "garbage", "I", false)
  | 5 => ("BackLogic$Told", "lines", "I", false)
  | _ => ("BackLogic$Told", "values", "[I", true)
def tyX10 : Nat → FieldType := fun k => match k with
  | 0 => .boolean
  | 1 => .int
  | 2 => .int
  | 3 => .int
  | 4 => .int
  | 5 => .int
  | _ => .array .int
theorem nmX10 : ∀ a, a < 7 → ∀ b, b < 7 → a ≠ b → (TX10 a).2.1 ≠ (TX10 b).2.1 := by decide +kernel
theorem tyX10_ok : ∀ k, k < 7 → parseFieldDescriptor (TX10 k).2.2.1 = some (tyX10 k) := by decide +kernel
abbrev cX10_init : ByteArray := prog_12_method_1_code
def yX10_init : MethodName := ⟨RX10, "<init>", "()V"⟩
abbrev cX10_settle : ByteArray := prog_12_method_2_code
def yX10_settle : MethodName := ⟨RX10, "settle", "()V"⟩
abbrev cX10_lesserAlike : ByteArray := prog_12_method_3_code
def yX10_lesserAlike : MethodName := ⟨RX10, "lesserAlike", "(I)I"⟩
abbrev cX10_lay : ByteArray := prog_12_method_4_code
def yX10_lay : MethodName := ⟨RX10, "lay", "([I)V"⟩
def RX11 : String := "BackLogic"
def TX11 : u_T := fun k => match k with
  | 0 => ("BackLogic", "tape", "LBackLogic$Tape;", true)
  | 1 => ("BackLogic", "grammar", "LBackLogic$Grammar;", true)
  | 2 => ("BackLogic", "meaning", "LBackLogic$Meaning;", true)
  | 3 => ("BackLogic", "cascade", "LBackLogic$Cascade;", true)
  | 4 => ("BackLogic", "scratch", "LBackLogic$Cascade;", true)
  | 5 => ("BackLogic", "slots", "[LBackLogic$Cascade;", true)
  | 6 => ("BackLogic", "held", "[Z", true)
  | 7 => ("BackLogic", "history", "LBackLogic$History;", true)
  | 8 => ("BackLogic", "finder", "LBackLogic$Finder;", true)
  | 9 => ("BackLogic", "tests", "LBackLogic$Tests;", true)
  | 10 => ("BackLogic", "told", "LBackLogic$Told;", true)
  | 11 => ("BackLogic", "prices", "[I", true)
  | 12 => ("BackLogic", "levels", "[I", true)
  | 13 => ("BackLogic", "shortest", "LBackLogic$Shortest;", false)
  | 14 => ("BackLogic", "wires", "I", false)
  | _ => ("BackLogic", "faultPlace", "I", false)
def tyX11 : Nat → FieldType := fun k => match k with
  | 0 => .object "BackLogic$Tape"
  | 1 => .object "BackLogic$Grammar"
  | 2 => .object "BackLogic$Meaning"
  | 3 => .object "BackLogic$Cascade"
  | 4 => .object "BackLogic$Cascade"
  | 5 => .array (.object "BackLogic$Cascade")
  | 6 => .array .boolean
  | 7 => .object "BackLogic$History"
  | 8 => .object "BackLogic$Finder"
  | 9 => .object "BackLogic$Tests"
  | 10 => .object "BackLogic$Told"
  | 11 => .array .int
  | 12 => .array .int
  | 13 => .object "BackLogic$Shortest"
  | 14 => .int
  | _ => .int
theorem nmX11 : ∀ a, a < 16 → ∀ b, b < 16 → a ≠ b → (TX11 a).2.1 ≠ (TX11 b).2.1 := by decide +kernel
theorem tyX11_ok : ∀ k, k < 16 → parseFieldDescriptor (TX11 k).2.2.1 = some (tyX11 k) := by decide +kernel
abbrev cX11_init : ByteArray := prog_1_method_1_code
def yX11_init : MethodName := ⟨RX11, "<init>", "()V"⟩
abbrev cX11_feed : ByteArray := prog_1_method_2_code
def yX11_feed : MethodName := ⟨RX11, "feed", "(IIIII)I"⟩
abbrev cX11_back : ByteArray := prog_1_method_3_code
def yX11_back : MethodName := ⟨RX11, "back", "(I)I"⟩
abbrev cX11_read : ByteArray := prog_1_method_4_code
def yX11_read : MethodName := ⟨RX11, "read", "()I"⟩
abbrev cX11_takeOver : ByteArray := prog_1_method_5_code
def yX11_takeOver : MethodName := ⟨RX11, "takeOver", "()V"⟩
abbrev cX11_place : ByteArray := prog_1_method_6_code
def yX11_place : MethodName := ⟨RX11, "place", "()I"⟩
abbrev cX11_put : ByteArray := prog_1_method_7_code
def yX11_put : MethodName := ⟨RX11, "put", "(IIII)Z"⟩
abbrev cX11_fits : ByteArray := prog_1_method_8_code
def yX11_fits : MethodName := ⟨RX11, "fits", "(III)Z"⟩
abbrev cX11_take : ByteArray := prog_1_method_9_code
def yX11_take : MethodName := ⟨RX11, "take", "(I)Z"⟩
abbrev cX11_swap : ByteArray := prog_1_method_10_code
def yX11_swap : MethodName := ⟨RX11, "swap", "(I)Z"⟩
abbrev cX11_become : ByteArray := prog_1_method_11_code
def yX11_become : MethodName := ⟨RX11, "become", "(I)I"⟩
abbrev cX11_turnedCascade : ByteArray := prog_1_method_12_code
def yX11_turnedCascade : MethodName := ⟨RX11, "turnedCascade", "()LBackLogic$Cascade;"⟩
abbrev cX11_undo : ByteArray := prog_1_method_13_code
def yX11_undo : MethodName := ⟨RX11, "undo", "()Z"⟩
abbrev cX11_hold : ByteArray := prog_1_method_14_code
def yX11_hold : MethodName := ⟨RX11, "hold", "(I)Z"⟩
abbrev cX11_restore : ByteArray := prog_1_method_15_code
def yX11_restore : MethodName := ⟨RX11, "restore", "(I)Z"⟩
abbrev cX11_gate : ByteArray := prog_1_method_16_code
def yX11_gate : MethodName := ⟨RX11, "gate", "(II)I"⟩
abbrev cX11_priceOf : ByteArray := prog_1_method_17_code
def yX11_priceOf : MethodName := ⟨RX11, "priceOf", "(I)I"⟩
abbrev cX11_levelOf : ByteArray := prog_1_method_18_code
def yX11_levelOf : MethodName := ⟨RX11, "levelOf", "(I)I"⟩
abbrev cX11_setLevels : ByteArray := prog_1_method_19_code
def yX11_setLevels : MethodName := ⟨RX11, "setLevels", "()I"⟩
abbrev cX11_freeSteps : ByteArray := prog_1_method_20_code
def yX11_freeSteps : MethodName := ⟨RX11, "freeSteps", "(II)I"⟩
abbrev cX11_agree : ByteArray := prog_1_method_21_code
def yX11_agree : MethodName := ⟨RX11, "agree", "(II)I"⟩
abbrev cX11_made : ByteArray := prog_1_method_22_code
def yX11_made : MethodName := ⟨RX11, "made", "(II)I"⟩
abbrev cX11_undone : ByteArray := prog_1_method_23_code
def yX11_undone : MethodName := ⟨RX11, "undone", "(I)I"⟩
abbrev cX11_order : ByteArray := prog_1_method_24_code
def yX11_order : MethodName := ⟨RX11, "order", "(I)I"⟩
abbrev cX11_stuck : ByteArray := prog_1_method_25_code
def yX11_stuck : MethodName := ⟨RX11, "stuck", "(IIZ)I"⟩
abbrev cX11_terms : ByteArray := prog_1_method_26_code
def yX11_terms : MethodName := ⟨RX11, "terms", "(I)I"⟩
abbrev cX11_termsOf : ByteArray := prog_1_method_27_code
def yX11_termsOf : MethodName := ⟨RX11, "termsOf", "(I)I"⟩
abbrev cX11_degree : ByteArray := prog_1_method_28_code
def yX11_degree : MethodName := ⟨RX11, "degree", "()I"⟩
abbrev cX11_idle : ByteArray := prog_1_method_29_code
def yX11_idle : MethodName := ⟨RX11, "idle", "(I)I"⟩
abbrev cX11_test : ByteArray := prog_1_method_30_code
def yX11_test : MethodName := ⟨RX11, "test", "(I)I"⟩
abbrev cX11_shrunk : ByteArray := prog_1_method_31_code
def yX11_shrunk : MethodName := ⟨RX11, "shrunk", "(II)I"⟩
abbrev cX11_shrunkCascade : ByteArray := prog_1_method_32_code
def yX11_shrunkCascade : MethodName := ⟨RX11, "shrunkCascade", "()LBackLogic$Cascade;"⟩
abbrev cX11_found : ByteArray := prog_1_method_33_code
def yX11_found : MethodName := ⟨RX11, "found", "(ZII)I"⟩
abbrev cX11_foundCascade : ByteArray := prog_1_method_34_code
def yX11_foundCascade : MethodName := ⟨RX11, "foundCascade", "(Z)LBackLogic$Cascade;"⟩
abbrev cX11_least : ByteArray := prog_1_method_35_code
def yX11_least : MethodName := ⟨RX11, "least", "(II)I"⟩
abbrev cX11_leastCascade : ByteArray := prog_1_method_36_code
def yX11_leastCascade : MethodName := ⟨RX11, "leastCascade", "()LBackLogic$Cascade;"⟩
abbrev cX11_leastForImages : ByteArray := prog_1_method_37_code
def yX11_leastForImages : MethodName := ⟨RX11, "leastForImages", "()LBackLogic$Cascade;"⟩
abbrev cX11_answer : ByteArray := prog_1_method_38_code
def yX11_answer : MethodName := ⟨RX11, "answer", "(LBackLogic$Cascade;III)I"⟩
abbrev cX11_like : ByteArray := prog_1_method_39_code
def yX11_like : MethodName := ⟨RX11, "like", "(I)I"⟩
abbrev cX11_becomes : ByteArray := prog_1_method_40_code
def yX11_becomes : MethodName := ⟨RX11, "becomes", "(LBackLogic$Cascade;I)Z"⟩
abbrev cX11_newName : ByteArray := prog_1_method_41_code
def yX11_newName : MethodName := ⟨RX11, "newName", "(II)I"⟩
abbrev cX11_isRenaming : ByteArray := prog_1_method_42_code
def yX11_isRenaming : MethodName := ⟨RX11, "isRenaming", "(I)Z"⟩
abbrev cX11_renamed : ByteArray := prog_1_method_43_code
def yX11_renamed : MethodName := ⟨RX11, "renamed", "(II)I"⟩
abbrev cX11_off : ByteArray := prog_1_method_44_code
def yX11_off : MethodName := ⟨RX11, "off", "(I)I"⟩
abbrev cX11_table : ByteArray := prog_1_method_45_code
def yX11_table : MethodName := ⟨RX11, "table", "(I)I"⟩
abbrev cX11_gatesForLaid : ByteArray := prog_1_method_46_code
def yX11_gatesForLaid : MethodName := ⟨RX11, "gatesForLaid", "(Z)I"⟩
abbrev cX11_laid : ByteArray := prog_1_method_47_code
def yX11_laid : MethodName := ⟨RX11, "laid", "(I)I"⟩
abbrev cX11_count : ByteArray := prog_1_method_48_code
def yX11_count : MethodName := ⟨RX11, "count", "(I)I"⟩
abbrev cX11_cost : ByteArray := prog_1_method_49_code
def yX11_cost : MethodName := ⟨RX11, "cost", "()I"⟩
abbrev cX11_gatesThatAgree : ByteArray := prog_1_method_50_code
def yX11_gatesThatAgree : MethodName := ⟨RX11, "gatesThatAgree", "()I"⟩
abbrev cX11_wiresUsed : ByteArray := prog_1_method_51_code
def yX11_wiresUsed : MethodName := ⟨RX11, "wiresUsed", "()I"⟩
abbrev cX11_slotsHeld : ByteArray := prog_1_method_52_code
def yX11_slotsHeld : MethodName := ⟨RX11, "slotsHeld", "()I"⟩
abbrev cX11_allControls : ByteArray := prog_1_method_53_code
def yX11_allControls : MethodName := ⟨RX11, "allControls", "()I"⟩
abbrev cX11_unlikeGates : ByteArray := prog_1_method_54_code
def yX11_unlikeGates : MethodName := ⟨RX11, "unlikeGates", "()I"⟩
abbrev cX11_rows : ByteArray := prog_1_method_55_code
def yX11_rows : MethodName := ⟨RX11, "rows", "()I"⟩
abbrev cX11_isRow : ByteArray := prog_1_method_56_code
def yX11_isRow : MethodName := ⟨RX11, "isRow", "(I)Z"⟩
abbrev cX11_isWire : ByteArray := prog_1_method_57_code
def yX11_isWire : MethodName := ⟨RX11, "isWire", "(I)Z"⟩
abbrev cX11_isSlot : ByteArray := prog_1_method_58_code
def yX11_isSlot : MethodName := ⟨RX11, "isSlot", "(I)Z"⟩
abbrev cX11_holds : ByteArray := prog_1_method_59_code
def yX11_holds : MethodName := ⟨RX11, "holds", "(I)Z"⟩
def RX12 : String := "BackLogicModel"
def TX12 : u_T := fun k => match k with
  | 0 => ("BackLogicModel", "thrown", "I", false)
  | 1 => ("BackLogicModel", "tape", "[B", true)
  | 2 => ("BackLogicModel", "taped", "I", false)
  | 3 => ("BackLogicModel", "text", "[B", true)
  | 4 => ("BackLogicModel", "size", "I", false)
  | 5 => ("BackLogicModel", "tKind", "[I", true)
  | 6 => ("BackLogicModel", "tPlace", "[I", true)
  | 7 => ("BackLogicModel", "tValue", "[I", true)
  | 8 => ("BackLogicModel", "tName", "[J", true)
  | 9 => ("BackLogicModel", "keys", "[J", true)
  | 10 => ("BackLogicModel", "tokens", "I", false)
  | 11 => ("BackLogicModel", "t", "I", false)
  | 12 => ("BackLogicModel", "fault", "I", false)
  | 13 => ("BackLogicModel", "faultPlace", "I", false)
  | 14 => ("BackLogicModel", "worst", "I", false)
  | 15 => ("BackLogicModel", "worstPlace", "I", false)
  | 16 => ("BackLogicModel", "place", "I", false)
  | 17 => ("BackLogicModel", "wires", "I", false)
  | 18 => ("BackLogicModel", "price", "[I", true)
  | 19 => ("BackLogicModel", "inputs", "I", false)
  | 20 => ("BackLogicModel", "outputs", "I", false)
  | 21 => ("BackLogicModel", "valueOf", "[I", true)
  | 22 => ("BackLogicModel", "newWires", "I", false)
  | 23 => ("BackLogicModel", "newGates", "I", false)
  | 24 => ("BackLogicModel", "newPrice", "[I", true)
  | 25 => ("BackLogicModel", "newInputs", "I", false)
  | 26 => ("BackLogicModel", "newOutputs", "I", false)
  | 27 => ("BackLogicModel", "newValue", "[I", true)
  | 28 => ("BackLogicModel", "now", "[I", true)
  | 29 => ("BackLogicModel", "fresh", "[I", true)
  | 30 => ("BackLogicModel", "earlier", "[I", true)
  | 31 => ("BackLogicModel", "earliest", "I", false)
  | 32 => ("BackLogicModel", "undos", "I", false)
  | 33 => ("BackLogicModel", "held", "[I", true)
  | 34 => ("BackLogicModel", "isHeld", "[Z", true)
  | 35 => ("BackLogicModel", "orderOf", "[I", true)
  | 36 => ("BackLogicModel", "levelOf", "[I", true)
  | 37 => ("BackLogicModel", "laid", "[I", true)
  | 38 => ("BackLogicModel", "foundMany", "I", false)
  | 39 => ("BackLogicModel", "foundTarget", "[I", true)
  | 40 => ("BackLogicModel", "foundOn", "[I", true)
  | 41 => ("BackLogicModel", "aheadMany", "I", false)
  | 42 => ("BackLogicModel", "behindMany", "I", false)
  | 43 => ("BackLogicModel", "aheadTarget", "[I", true)
  | 44 => ("BackLogicModel", "aheadOn", "[I", true)
  | 45 => ("BackLogicModel", "behindTarget", "[I", true)
  | 46 => ("BackLogicModel", "behindOn", "[I", true)
  | 47 => ("BackLogicModel", "moved", "[I", true)
  | 48 => ("BackLogicModel", "tableWires", "I", false)
  | 49 => ("BackLogicModel", "fewest", "[I", true)
  | 50 => ("BackLogicModel", "waiting", "[I", true)
  | 51 => ("BackLogicModel", "line", "[I", true)
  | 52 => ("BackLogicModel", "tried", "[I", true)
  | 53 => ("BackLogicModel", "place1", "[I", true)
  | 54 => ("BackLogicModel", "sees", "[I", true)
  | _ => ("BackLogicModel", "isMade", "[Z", true)
def tyX12 : Nat → FieldType := fun k => match k with
  | 0 => .int
  | 1 => .array .byte
  | 2 => .int
  | 3 => .array .byte
  | 4 => .int
  | 5 => .array .int
  | 6 => .array .int
  | 7 => .array .int
  | 8 => .array .long
  | 9 => .array .long
  | 10 => .int
  | 11 => .int
  | 12 => .int
  | 13 => .int
  | 14 => .int
  | 15 => .int
  | 16 => .int
  | 17 => .int
  | 18 => .array .int
  | 19 => .int
  | 20 => .int
  | 21 => .array .int
  | 22 => .int
  | 23 => .int
  | 24 => .array .int
  | 25 => .int
  | 26 => .int
  | 27 => .array .int
  | 28 => .array .int
  | 29 => .array .int
  | 30 => .array .int
  | 31 => .int
  | 32 => .int
  | 33 => .array .int
  | 34 => .array .boolean
  | 35 => .array .int
  | 36 => .array .int
  | 37 => .array .int
  | 38 => .int
  | 39 => .array .int
  | 40 => .array .int
  | 41 => .int
  | 42 => .int
  | 43 => .array .int
  | 44 => .array .int
  | 45 => .array .int
  | 46 => .array .int
  | 47 => .array .int
  | 48 => .int
  | 49 => .array .int
  | 50 => .array .int
  | 51 => .array .int
  | 52 => .array .int
  | 53 => .array .int
  | 54 => .array .int
  | _ => .array .boolean
theorem nmX12 : ∀ a, a < 56 → ∀ b, b < 56 → a ≠ b → (TX12 a).2.1 ≠ (TX12 b).2.1 := by decide +kernel
theorem tyX12_ok : ∀ k, k < 56 → parseFieldDescriptor (TX12 k).2.2.1 = some (tyX12 k) := by decide +kernel
abbrev cX12_init : ByteArray := prog_14_method_2_code
def yX12_init : MethodName := ⟨RX12, "<init>", "()V"⟩
abbrev cX12_feed : ByteArray := prog_14_method_3_code
def yX12_feed : MethodName := ⟨RX12, "feed", "(IIIII)I"⟩
abbrev cX12_lays : ByteArray := prog_14_method_4_code
def yX12_lays : MethodName := ⟨RX12, "lays", "(I)V"⟩
abbrev cX12_back : ByteArray := prog_14_method_5_code
def yX12_back : MethodName := ⟨RX12, "back", "(I)I"⟩
abbrev cX12_byteAt : ByteArray := prog_14_method_6_code
def yX12_byteAt : MethodName := ⟨RX12, "byteAt", "(I)I"⟩
abbrev cX12_isDigit : ByteArray := prog_14_method_7_code
def yX12_isDigit : MethodName := ⟨RX12, "isDigit", "(I)Z"⟩
abbrev cX12_isLetter : ByteArray := prog_14_method_8_code
def yX12_isLetter : MethodName := ⟨RX12, "isLetter", "(I)Z"⟩
abbrev cX12_appends : ByteArray := prog_14_method_9_code
def yX12_appends : MethodName := ⟨RX12, "appends", "(JI)J"⟩
abbrev cX12_letters : ByteArray := prog_14_method_10_code
def yX12_letters : MethodName := ⟨RX12, "letters", "(IIIIIII)J"⟩
abbrev cX12_token : ByteArray := prog_14_method_11_code
def yX12_token : MethodName := ⟨RX12, "token", "(IIIJ)V"⟩
abbrev cX12_cutsText : ByteArray := prog_14_method_12_code
def yX12_cutsText : MethodName := ⟨RX12, "cutsText", "()V"⟩
abbrev cX12_sign : ByteArray := prog_14_method_13_code
def yX12_sign : MethodName := ⟨RX12, "sign", "(II)I"⟩
abbrev cX12_is : ByteArray := prog_14_method_14_code
def yX12_is : MethodName := ⟨RX12, "is", "(I)Z"⟩
abbrev cX12_fail : ByteArray := prog_14_method_15_code
def yX12_fail : MethodName := ⟨RX12, "fail", "(I)V"⟩
abbrev cX12_wrong : ByteArray := prog_14_method_16_code
def yX12_wrong : MethodName := ⟨RX12, "wrong", "(II)V"⟩
abbrev cX12_passes : ByteArray := prog_14_method_17_code
def yX12_passes : MethodName := ⟨RX12, "passes", "()V"⟩
abbrev cX12_must : ByteArray := prog_14_method_18_code
def yX12_must : MethodName := ⟨RX12, "must", "(I)V"⟩
abbrev cX12_read : ByteArray := prog_14_method_19_code
def yX12_read : MethodName := ⟨RX12, "read", "()I"⟩
abbrev cX12_place : ByteArray := prog_14_method_20_code
def yX12_place : MethodName := ⟨RX12, "place", "()I"⟩
abbrev cX12_line : ByteArray := prog_14_method_21_code
def yX12_line : MethodName := ⟨RX12, "line", "()V"⟩
abbrev cX12_controls : ByteArray := prog_14_method_22_code
def yX12_controls : MethodName := ⟨RX12, "controls", "()V"⟩
abbrev cX12_named : ByteArray := prog_14_method_23_code
def yX12_named : MethodName := ⟨RX12, "named", "(II)I"⟩
abbrev cX12_means : ByteArray := prog_14_method_24_code
def yX12_means : MethodName := ⟨RX12, "means", "()V"⟩
abbrev cX12_meansGate : ByteArray := prog_14_method_25_code
def yX12_meansGate : MethodName := ⟨RX12, "meansGate", "(I)V"⟩
abbrev cX12_meansTable : ByteArray := prog_14_method_26_code
def yX12_meansTable : MethodName := ⟨RX12, "meansTable", "(I)V"⟩
abbrev cX12_in : ByteArray := prog_14_method_27_code
def yX12_in : MethodName := ⟨RX12, "in", "(III)Z"⟩
abbrev cX12_has : ByteArray := prog_14_method_28_code
def yX12_has : MethodName := ⟨RX12, "has", "(II)Z"⟩
abbrev cX12_bitsOf : ByteArray := prog_14_method_29_code
def yX12_bitsOf : MethodName := ⟨RX12, "bitsOf", "(I)I"⟩
abbrev cX12_rows : ByteArray := prog_14_method_30_code
def yX12_rows : MethodName := ⟨RX12, "rows", "()I"⟩
abbrev cX12_gates : ByteArray := prog_14_method_31_code
def yX12_gates : MethodName := ⟨RX12, "gates", "()I"⟩
abbrev cX12_isGate : ByteArray := prog_14_method_32_code
def yX12_isGate : MethodName := ⟨RX12, "isGate", "(I)Z"⟩
abbrev cX12_isRow : ByteArray := prog_14_method_33_code
def yX12_isRow : MethodName := ⟨RX12, "isRow", "(I)Z"⟩
abbrev cX12_marks : ByteArray := prog_14_method_34_code
def yX12_marks : MethodName := ⟨RX12, "marks", "()V"⟩
abbrev cX12_copiesGate : ByteArray := prog_14_method_35_code
def yX12_copiesGate : MethodName := ⟨RX12, "copiesGate", "([II[II)V"⟩
abbrev cX12_sets : ByteArray := prog_14_method_36_code
def yX12_sets : MethodName := ⟨RX12, "sets", "([IIIII)V"⟩
abbrev cX12_takesOff : ByteArray := prog_14_method_37_code
def yX12_takesOff : MethodName := ⟨RX12, "takesOff", "([II)V"⟩
abbrev cX12_put : ByteArray := prog_14_method_38_code
def yX12_put : MethodName := ⟨RX12, "put", "(IIII)Z"⟩
abbrev cX12_take : ByteArray := prog_14_method_39_code
def yX12_take : MethodName := ⟨RX12, "take", "(I)Z"⟩
abbrev cX12_swap : ByteArray := prog_14_method_40_code
def yX12_swap : MethodName := ⟨RX12, "swap", "(I)Z"⟩
abbrev cX12_become : ByteArray := prog_14_method_41_code
def yX12_become : MethodName := ⟨RX12, "become", "(I)I"⟩
abbrev cX12_laysBecome : ByteArray := prog_14_method_42_code
def yX12_laysBecome : MethodName := ⟨RX12, "laysBecome", "(I)V"⟩
abbrev cX12_undo : ByteArray := prog_14_method_43_code
def yX12_undo : MethodName := ⟨RX12, "undo", "()Z"⟩
abbrev cX12_hold : ByteArray := prog_14_method_44_code
def yX12_hold : MethodName := ⟨RX12, "hold", "(I)Z"⟩
abbrev cX12_restore : ByteArray := prog_14_method_45_code
def yX12_restore : MethodName := ⟨RX12, "restore", "(I)Z"⟩
abbrev cX12_turned : ByteArray := prog_14_method_46_code
def yX12_turned : MethodName := ⟨RX12, "turned", "(IIII)I"⟩
abbrev cX12_by : ByteArray := prog_14_method_47_code
def yX12_by : MethodName := ⟨RX12, "by", "([III)I"⟩
abbrev cX12_madeBy : ByteArray := prog_14_method_48_code
def yX12_madeBy : MethodName := ⟨RX12, "madeBy", "(III)I"⟩
abbrev cX12_made : ByteArray := prog_14_method_49_code
def yX12_made : MethodName := ⟨RX12, "made", "(II)I"⟩
abbrev cX12_undone : ByteArray := prog_14_method_50_code
def yX12_undone : MethodName := ⟨RX12, "undone", "(I)I"⟩
abbrev cX12_laysOrder : ByteArray := prog_14_method_51_code
def yX12_laysOrder : MethodName := ⟨RX12, "laysOrder", "([I)V"⟩
abbrev cX12_common : ByteArray := prog_14_method_52_code
def yX12_common : MethodName := ⟨RX12, "common", "(II)I"⟩
abbrev cX12_order : ByteArray := prog_14_method_53_code
def yX12_order : MethodName := ⟨RX12, "order", "(I)I"⟩
abbrev cX12_doAgree : ByteArray := prog_14_method_54_code
def yX12_doAgree : MethodName := ⟨RX12, "doAgree", "([III)Z"⟩
abbrev cX12_agree : ByteArray := prog_14_method_55_code
def yX12_agree : MethodName := ⟨RX12, "agree", "(II)I"⟩
abbrev cX12_freeOf : ByteArray := prog_14_method_56_code
def yX12_freeOf : MethodName := ⟨RX12, "freeOf", "(II)I"⟩
abbrev cX12_wiresOf : ByteArray := prog_14_method_57_code
def yX12_wiresOf : MethodName := ⟨RX12, "wiresOf", "([II)I"⟩
abbrev cX12_laysLevels : ByteArray := prog_14_method_58_code
def yX12_laysLevels : MethodName := ⟨RX12, "laysLevels", "()I"⟩
abbrev cX12_controlsOf : ByteArray := prog_14_method_59_code
def yX12_controlsOf : MethodName := ⟨RX12, "controlsOf", "(I)I"⟩
abbrev cX12_gate : ByteArray := prog_14_method_60_code
def yX12_gate : MethodName := ⟨RX12, "gate", "(II)I"⟩
abbrev cX12_laysShrunk : ByteArray := prog_14_method_61_code
def yX12_laysShrunk : MethodName := ⟨RX12, "laysShrunk", "()V"⟩
abbrev cX12_canMeet : ByteArray := prog_14_method_62_code
def yX12_canMeet : MethodName := ⟨RX12, "canMeet", "(II)Z"⟩
abbrev cX12_shrinks : ByteArray := prog_14_method_63_code
def yX12_shrinks : MethodName := ⟨RX12, "shrinks", "(I)Z"⟩
abbrev cX12_fits : ByteArray := prog_14_method_64_code
def yX12_fits : MethodName := ⟨RX12, "fits", "(III)Z"⟩
abbrev cX12_does : ByteArray := prog_14_method_65_code
def yX12_does : MethodName := ⟨RX12, "does", "(III)V"⟩
abbrev cX12_shrunk : ByteArray := prog_14_method_66_code
def yX12_shrunk : MethodName := ⟨RX12, "shrunk", "(II)I"⟩
abbrev cX12_notesGate : ByteArray := prog_14_method_67_code
def yX12_notesGate : MethodName := ⟨RX12, "notesGate", "(ZIIII)I"⟩
abbrev cX12_laysFound : ByteArray := prog_14_method_68_code
def yX12_laysFound : MethodName := ⟨RX12, "laysFound", "(IZ)V"⟩
abbrev cX12_foundGate : ByteArray := prog_14_method_69_code
def yX12_foundGate : MethodName := ⟨RX12, "foundGate", "(II)V"⟩
abbrev cX12_foundOf : ByteArray := prog_14_method_70_code
def yX12_foundOf : MethodName := ⟨RX12, "foundOf", "(II)I"⟩
abbrev cX12_found : ByteArray := prog_14_method_71_code
def yX12_found : MethodName := ⟨RX12, "found", "(ZII)I"⟩
abbrev cX12_placeOf : ByteArray := prog_14_method_72_code
def yX12_placeOf : MethodName := ⟨RX12, "placeOf", "(I)I"⟩
abbrev cX12_laysPlace : ByteArray := prog_14_method_73_code
def yX12_laysPlace : MethodName := ⟨RX12, "laysPlace", "(II)V"⟩
abbrev cX12_laysTable : ByteArray := prog_14_method_74_code
def yX12_laysTable : MethodName := ⟨RX12, "laysTable", "()V"⟩
abbrev cX12_fewestFor : ByteArray := prog_14_method_75_code
def yX12_fewestFor : MethodName := ⟨RX12, "fewestFor", "()I"⟩
abbrev cX12_laysFirst : ByteArray := prog_14_method_76_code
def yX12_laysFirst : MethodName := ⟨RX12, "laysFirst", "()V"⟩
abbrev cX12_least : ByteArray := prog_14_method_77_code
def yX12_least : MethodName := ⟨RX12, "least", "(II)I"⟩
abbrev cX12_laysSlot : ByteArray := prog_14_method_78_code
def yX12_laysSlot : MethodName := ⟨RX12, "laysSlot", "(I)V"⟩
abbrev cX12_off : ByteArray := prog_14_method_79_code
def yX12_off : MethodName := ⟨RX12, "off", "(I)I"⟩
abbrev cX12_renamed : ByteArray := prog_14_method_80_code
def yX12_renamed : MethodName := ⟨RX12, "renamed", "(I)I"⟩
abbrev cX12_isRenamed : ByteArray := prog_14_method_81_code
def yX12_isRenamed : MethodName := ⟨RX12, "isRenamed", "()Z"⟩
abbrev cX12_like : ByteArray := prog_14_method_82_code
def yX12_like : MethodName := ⟨RX12, "like", "(I)I"⟩
abbrev cX12_stuckBy : ByteArray := prog_14_method_83_code
def yX12_stuckBy : MethodName := ⟨RX12, "stuckBy", "(III)I"⟩
abbrev cX12_stuck : ByteArray := prog_14_method_84_code
def yX12_stuck : MethodName := ⟨RX12, "stuck", "(IIZ)I"⟩
abbrev cX12_seenBy : ByteArray := prog_14_method_85_code
def yX12_seenBy : MethodName := ⟨RX12, "seenBy", "(I)I"⟩
abbrev cX12_testRows : ByteArray := prog_14_method_86_code
def yX12_testRows : MethodName := ⟨RX12, "testRows", "()I"⟩
abbrev cX12_isFirst : ByteArray := prog_14_method_87_code
def yX12_isFirst : MethodName := ⟨RX12, "isFirst", "(II)Z"⟩
abbrev cX12_test : ByteArray := prog_14_method_88_code
def yX12_test : MethodName := ⟨RX12, "test", "(I)I"⟩
abbrev cX12_termsOf : ByteArray := prog_14_method_89_code
def yX12_termsOf : MethodName := ⟨RX12, "termsOf", "(I)I"⟩
abbrev cX12_terms : ByteArray := prog_14_method_90_code
def yX12_terms : MethodName := ⟨RX12, "terms", "(I)I"⟩
abbrev cX12_degree : ByteArray := prog_14_method_91_code
def yX12_degree : MethodName := ⟨RX12, "degree", "()I"⟩
abbrev cX12_isIdle : ByteArray := prog_14_method_92_code
def yX12_isIdle : MethodName := ⟨RX12, "isIdle", "(II)Z"⟩
abbrev cX12_idle : ByteArray := prog_14_method_93_code
def yX12_idle : MethodName := ⟨RX12, "idle", "(I)I"⟩
abbrev cX12_copies : ByteArray := prog_14_method_94_code
def yX12_copies : MethodName := ⟨RX12, "copies", "()I"⟩
abbrev cX12_garbage : ByteArray := prog_14_method_95_code
def yX12_garbage : MethodName := ⟨RX12, "garbage", "()I"⟩
abbrev cX12_lines : ByteArray := prog_14_method_96_code
def yX12_lines : MethodName := ⟨RX12, "lines", "()I"⟩
abbrev cX12_laysTold : ByteArray := prog_14_method_97_code
def yX12_laysTold : MethodName := ⟨RX12, "laysTold", "()V"⟩
abbrev cX12_table : ByteArray := prog_14_method_98_code
def yX12_table : MethodName := ⟨RX12, "table", "(I)I"⟩
abbrev cX12_laid : ByteArray := prog_14_method_99_code
def yX12_laid : MethodName := ⟨RX12, "laid", "(I)I"⟩
abbrev cX12_cost : ByteArray := prog_14_method_100_code
def yX12_cost : MethodName := ⟨RX12, "cost", "()I"⟩
abbrev cX12_agreeing : ByteArray := prog_14_method_101_code
def yX12_agreeing : MethodName := ⟨RX12, "agreeing", "()I"⟩
abbrev cX12_seeing : ByteArray := prog_14_method_102_code
def yX12_seeing : MethodName := ⟨RX12, "seeing", "()I"⟩
abbrev cX12_sorts : ByteArray := prog_14_method_103_code
def yX12_sorts : MethodName := ⟨RX12, "sorts", "()I"⟩
abbrev cX12_count : ByteArray := prog_14_method_104_code
def yX12_count : MethodName := ⟨RX12, "count", "(I)I"⟩
def RJ6 : String := "java/lang/Integer"
abbrev cJ6_bitCount_0f7a4 : ByteArray := prog_16_method_49_code
def yJ6_bitCount_0f7a4 : MethodName := ⟨RJ6, "bitCount", "(I)I"⟩
def RL : String := "BackLogicLaw"
abbrev cL_law : ByteArray := code
def yL_law : MethodName := ⟨RL, "law", "([I)Z"⟩
abbrev vwCl : List vw_C := [(RX0, TX0, 2), (RX1, TX1, 3), (RX3, TX3, 6), (RX4, TX4, 3), (RX5, TX5, 3), (RX7, TX7, 10), (RX8, TX8, 10), (RX9, TX9, 4), (RX10, TX10, 7), (RX11, TX11, 16), (RX12, TX12, 56)]
end
section
/-! the tools of this claim: one list of words for all methods, one bundle for a world, one for what a walk stands on -/
abbrev zGT : Type := va_G × (Nat → ClassId)
abbrev zTy (G : zGT) : List (ClassId × FieldType) := [(G.2 0, .byte), (G.2 1, .int), (G.2 2, .long), (G.2 3, .boolean), (G.2 4, .object "BackLogic$Cascade")]
def zT : List Cond := lw_tbl.filter goodWord
theorem z_mem {w : Cond} (i : Nat) (h : (lw_tbl[i]? = some w) ∧ goodWord w = true) : w ∈ zT := List.mem_filter.mpr ⟨List.mem_of_getElem? h.1, h.2⟩
theorem z_goodT : GoodIn zT zT := fun w h => ⟨h, good_of_word (List.mem_filter.mp h).2⟩
theorem z_gc {w : Cond} {ws : List Cond} (h : w ∈ zT) (k : GoodIn zT ws) : GoodIn zT (w :: ws) := fun v hv => (List.mem_cons.mp hv).elim (fun e => by subst e; exact z_goodT _ h) (k v)
/-- what of the tables may not be carried by the words: private members of nest mates, the array class of cascades, the cloning of rows -/
def zN (U : State) : Prop := va_Nw (.methodLinkNest RX11 9 yX8_init RX11) U ∧ va_Nw (.methodLinkNest RX11 18 yX3_init RX11) U ∧ va_Nw (.methodLinkNest RX11 25 yX5_init RX11) U ∧ va_Nw (.methodLinkNest RX11 59 yX1_init RX11) U ∧ va_Nw (.methodLinkNest RX11 66 yX9_init RX11) U ∧ va_Nw (.methodLinkNest RX11 73 yX10_init RX11) U ∧ va_Nw (.methodLinkNest RX11 321 yX7_init RX11) U ∧ va_AO RX0 U ∧ va_Nw (.castable "[I" "java/lang/Cloneable") U
theorem zN.warm {s U : State} (hW : s.WarmedH U.vm) (h : zN s) : zN U := by
  obtain ⟨h1, h2, h3, h4, h5, h6, h7, h8, h9⟩ := h
  exact ⟨h1.warmM hW, h2.warmM hW, h3.warmM hW, h4.warmM hW, h5.warmM hW, h6.warmM hW, h7.warmM hW, h8.moved hW.alike, h9.warmC hW⟩
theorem zN.same {s U : State} (hv : s.vm = U.vm) (h : zN s) : zN U := by
  obtain ⟨h1, h2, h3, h4, h5, h6, h7, h8, h9⟩ := h
  exact ⟨h1.same rfl hv, h2.same rfl hv, h3.same rfl hv, h4.same rfl hv, h5.same rfl hv, h6.same rfl hv, h7.same rfl hv, h8.moved (by rw [← hv]; exact Vm.Alike.refl s.vm), h9.same rfl hv⟩
def zK (G : zGT) (U : State) : Prop := va_K G.1 vwCl (zTy G) U ∧ zN U
theorem zK.warm {G : zGT} {s U : State} (hW : s.WarmedH U.vm) (h : zK G s) : zK G U := ⟨va_K.moved hW.alike h.1, h.2.warm hW⟩
def zB (G : zGT) (A : Nat → Prop) (H0 : Heap) (ws : va_W) (H : Heap) (locs : List Loc) : Prop := va_P G.1 vwCl ws H ∧ va_D A ws ∧ va_S A H0 H locs
def zQ (G : zGT) (ws : va_W) (A : Nat → Prop) (t : State) : Prop := va_P G.1 vwCl ws t.heap ∧ va_D A ws
def zPc (G : zGT) (ws : va_W) (sz : Nat) (U : State) : Prop := U.heap.size = sz ∧ va_P G.1 vwCl ws U.heap ∧ zK G U ∧ va_D (fun _ => True) ws
theorem zPc_blind {G : zGT} {av : List Value} {ws : va_W} {sz : Nat} : FrameBlind (va_Pc av (zPc G ws sz)) := fun a U g mk q => by
  obtain ⟨q0, q1, qP, qK, qD⟩ := q
  exact ⟨q0, q1, qP, ⟨va_K.moved (u := U) (U := U.calling g mk a) (Vm.Alike.refl U.vm) qK.1, zN.same (s := U) (U := U.calling g mk a) rfl qK.2⟩, qD⟩
abbrev zo (a ci : Nat) (fs : List Value) : Nat × va_E := (a, .inr (ci, fs))
abbrev zb (G : zGT) (a n : Nat) (f : Nat → Int32) : Nat × va_E := (a, .inl (G.2 0, n, .inl f))
abbrev zi (G : zGT) (a n : Nat) (f : Nat → Int32) : Nat × va_E := (a, .inl (G.2 1, n, .inl f))
abbrev zj (G : zGT) (a n : Nat) (f : Nat → Int64) : Nat × va_E := (a, .inl (G.2 2, n, .inr (.inl f)))
abbrev zz (G : zGT) (a n : Nat) (f : Nat → Int32) : Nat × va_E := (a, .inl (G.2 3, n, .inl f))
abbrev zc (G : zGT) (a n : Nat) (f : Nat → Option Nat) : Nat × va_E := (a, .inl (G.2 4, n, .inr (.inr (.inr (.inr f)))))
theorem z_fm {α β : Type} {f : α → Option β} {is : List α} {w : List β} (h : is.map f = w.map some) : is.filterMap f = w := by
  have e : (is.map f).filterMap id = w := by rw [h, List.filterMap_map]; simp
  rw [List.filterMap_map] at e
  exact e
theorem z_upd0 (k : Nat) : upd (fun _ => 0) k 0 = (fun _ => 0) := by
  funext j
  simp [upd]
section ZP
variable {p : Program} {l : Launch} {e : Env} {R : Room} {s : State} {m : MethodId} {args : Array Value} {below : List Frame} {meth : Method} {c : Code} {H : Heap} {locs : List Loc} {cells slots : Nat} {Q : State → Prop}
variable {cc : ByteArray} {pc : Nat} {ls : Array Slot} {rest : List Value} {G : zGT} {A : Nat → Prop} {a : Nat} {ws : va_W} {own : String} {nL : Nat}
/-- what a walk stands on -/
def zE (p : Program) (s : State) (m : MethodId) (c : Code) (args : Array Value) (G : zGT) (own : String) (cc : ByteArray) (nL : Nat) (A : Nat → Prop) : Prop :=
  (p.tables.exec = Jvm.exec ∧ c.code = cc ∧ c.maxLocals = nL ∧ s.vm.findClass own = some m.cls ∧ ∀ w ∈ zT, w.before args s = true) ∧ zK G s ∧ ∀ q, s.heap.size ≤ q → A q
theorem zE.x (E : zE p s m c args G own cc nL A) : p.tables.exec = Jvm.exec := E.1.1
theorem zE.b (E : zE p s m c args G own cc nL A) : c.code = cc := E.1.2.1
theorem zE.w (E : zE p s m c args G own cc nL A) {w : Cond} (h : w ∈ zT) : w.before args s = true := E.1.2.2.2.2 w h
theorem zE.ow (E : zE p s m c args G own cc nL A) : s.vm.findClass own = some m.cls := E.1.2.2.2.1
theorem zE.k (E : zE p s m c args G own cc nL A) : va_K G.1 vwCl (zTy G) s := E.2.1.1
theorem z_topi {x : Int32} (y : Int32) (h : x = y) (k : W p l e R s m args below meth c H locs cells slots Q (F0 m pc ls (.int y :: rest))) : W p l e R s m args below meth c H locs cells slots Q (F0 m pc ls (.int x :: rest)) := h ▸ k
theorem z_topl {x : Int64} (y : Int64) (h : x = y) (k : W p l e R s m args below meth c H locs cells slots Q (F0 m pc ls (.long y :: rest))) : W p l e R s m args below meth c H locs cells slots Q (F0 m pc ls (.long x :: rest)) := h ▸ k
theorem z_topq {x : Option Nat} (y : Nat) (h : x = some y) (k : W p l e R s m args below meth c H locs cells slots Q (F0 m pc ls (.ref y :: rest))) : W p l e R s m args below meth c H locs cells slots Q (F0 m pc ls (va_rf x :: rest)) := by
  subst h
  exact k
theorem z_get {C : String} {T : u_T} {N ci index : Nat} (E : zE p s m c args G own cc nL A) (B : zB G A s.heap ws H locs) (hin : ∀ w ∈ u_ws C T N, w ∈ zT) (hc : vwCl[ci]? = some (C, T, N)) (k : Nat) (hk : k < N) (hlink : Cond.fieldLink own index (T k).1 (T k).2.1 (T k).2.2.1 ∈ zT) (q0 : Nat) {fs : List Value} (he : ws[q0]? = some (a, .inr (ci, fs))) {v : Value} (hv : fs[k]? = some v) (hdg : decode cc pc = .ok (.getfield index, 3))
    (kk : W p l e R s m args below meth c H locs cells slots Q (F0 m (pc + 3) ls (v :: rest))) : W p l e R s m args below meth c H locs cells slots Q (F0 m pc ls (.ref a :: rest)) :=
  va_get E.x E.b E.1.2.2.2.2 hin E.ow E.k B.1 q0 he hc k hk (E.w hlink) (fun _ h => h) hv hdg kk
theorem z_put {C : String} {T : u_T} {N ci index : Nat} (E : zE p s m c args G own cc nL A) (B : zB G A s.heap ws H locs) (hin : ∀ w ∈ u_ws C T N, w ∈ zT) (ty0 : Nat → FieldType) (hty : ∀ k, k < N → parseFieldDescriptor (T k).2.2.1 = some (ty0 k)) (hnm : ∀ a, a < N → ∀ b, b < N → a ≠ b → (T a).2.1 ≠ (T b).2.1) (hc : vwCl[ci]? = some (C, T, N)) (k : Nat) (hk : k < N) (hfin : (T k).2.2.2 = false) {ty : FieldType} (hd : parseFieldDescriptor (T k).2.2.1 = some ty) (hlink : Cond.fieldLink own index (T k).1 (T k).2.1 (T k).2.2.1 ∈ zT) (q0 : Nat) {fs : List Value} (he : ws[q0]? = some (a, .inr (ci, fs))) (hl : k < fs.length) {v : Value} (hn : narrow ty v = v) (hfit : fits ty v = true) (hdg : decode cc pc = .ok (.putfield index, 3))
    (kk : ∀ (H1 : Heap) (locs1 : List Loc), zB G A s.heap (ws.set q0 (a, .inr (ci, fs.set k v))) H1 locs1 → W p l e R s m args below meth c H1 locs1 cells slots Q (F0 m (pc + 3) ls rest)) : W p l e R s m args below meth c H locs cells slots Q (F0 m pc ls (v :: .ref a :: rest)) :=
  va_put E.x E.b E.1.2.2.2.2 hin ty0 hty hnm E.ow E.k B.1 B.2.1 B.2.2 q0 he hc k hk (E.w hlink) (fun _ h => h) hfin hd hn hfit hl hdg (fun H1 locs1 h1 h2 h3 => kk H1 locs1 ⟨h1, h2, h3⟩)
theorem z_putF {C : String} {T : u_T} {N ci index : Nat} (E : zE p s m c args G own cc nL A) (B : zB G A s.heap ws H locs) (hin : ∀ w ∈ u_ws C T N, w ∈ zT) (ty0 : Nat → FieldType) (hty : ∀ k, k < N → parseFieldDescriptor (T k).2.2.1 = some (ty0 k)) (hnm : ∀ a, a < N → ∀ b, b < N → a ≠ b → (T a).2.1 ≠ (T b).2.1) (hc : vwCl[ci]? = some (C, T, N)) (k : Nat) (hk : k < N) (hfin : (T k).2.2.2 = true) {ty : FieldType} (hd : parseFieldDescriptor (T k).2.2.1 = some ty) (hlink : Cond.fieldLink own index (T k).1 (T k).2.1 (T k).2.2.1 ∈ zT) (hdecl : (T k).1 = own) (hin2 : meth.name = "<init>") (q0 : Nat) {fs : List Value} (he : ws[q0]? = some (a, .inr (ci, fs))) (hl : k < fs.length) {v : Value} (hn : narrow ty v = v) (hfit : fits ty v = true) (hdg : decode cc pc = .ok (.putfield index, 3))
    (kk : ∀ (H1 : Heap) (locs1 : List Loc), zB G A s.heap (ws.set q0 (a, .inr (ci, fs.set k v))) H1 locs1 → W p l e R s m args below meth c H1 locs1 cells slots Q (F0 m (pc + 3) ls rest)) : W p l e R s m args below meth c H locs cells slots Q (F0 m pc ls (v :: .ref a :: rest)) :=
  va_putF E.x E.b E.1.2.2.2.2 hin ty0 hty hnm E.ow E.k B.1 B.2.1 B.2.2 q0 he hc k hk (E.w hlink) (fun _ h => h) hfin hin2 hdecl hd hn hfit hl hdg (fun H1 locs1 h1 h2 h3 => kk H1 locs1 ⟨h1, h2, h3⟩)
theorem z_iald (E : zE p s m c args G own cc nL A) (B : zB G A s.heap ws H locs) (q0 : Nat) {n : Nat} {f : Nat → Int32} (ha : ws[q0]? = some (zi G a n f)) {i : Int32} (hin : vp_in i n) (hdg : decode cc pc = .ok (.iaload, 1))
    (kk : W p l e R s m args below meth c H locs cells slots Q (F0 m (pc + 1) ls (.int (f i.toNatClampNeg) :: rest))) : W p l e R s m args below meth c H locs cells slots Q (F0 m pc ls (.int i :: .ref a :: rest)) :=
  va_iald E.x E.b E.k B.1 q0 1 ha rfl hin hdg kk
theorem z_bald (E : zE p s m c args G own cc nL A) (B : zB G A s.heap ws H locs) (q0 : Nat) {n : Nat} {f : Nat → Int32} (ha : ws[q0]? = some (zb G a n f)) {i : Int32} (hin : vp_in i n) (hdg : decode cc pc = .ok (.baload, 1))
    (kk : W p l e R s m args below meth c H locs cells slots Q (F0 m (pc + 1) ls (.int (f i.toNatClampNeg) :: rest))) : W p l e R s m args below meth c H locs cells slots Q (F0 m pc ls (.int i :: .ref a :: rest)) :=
  va_bald E.x E.b E.k B.1 q0 0 ha rfl hin hdg kk
theorem z_zald (E : zE p s m c args G own cc nL A) (B : zB G A s.heap ws H locs) (q0 : Nat) {n : Nat} {f : Nat → Int32} (ha : ws[q0]? = some (zz G a n f)) {i : Int32} (hin : vp_in i n) (hdg : decode cc pc = .ok (.baload, 1))
    (kk : W p l e R s m args below meth c H locs cells slots Q (F0 m (pc + 1) ls (.int (f i.toNatClampNeg) :: rest))) : W p l e R s m args below meth c H locs cells slots Q (F0 m pc ls (.int i :: .ref a :: rest)) :=
  va_zald E.x E.b E.k B.1 q0 3 ha rfl hin hdg kk
theorem z_lald (E : zE p s m c args G own cc nL A) (B : zB G A s.heap ws H locs) (q0 : Nat) {n : Nat} {f : Nat → Int64} (ha : ws[q0]? = some (zj G a n f)) {i : Int32} (hin : vp_in i n) (hdg : decode cc pc = .ok (.laload, 1))
    (kk : W p l e R s m args below meth c H locs cells slots Q (F0 m (pc + 1) ls (.long (f i.toNatClampNeg) :: rest))) : W p l e R s m args below meth c H locs cells slots Q (F0 m pc ls (.int i :: .ref a :: rest)) :=
  va_lald E.x E.b E.k B.1 q0 2 ha rfl hin hdg kk
theorem z_aald (E : zE p s m c args G own cc nL A) (B : zB G A s.heap ws H locs) (q0 : Nat) {n : Nat} {f : Nat → Option Nat} (ha : ws[q0]? = some (zc G a n f)) {i : Int32} (hin : vp_in i n) (hdg : decode cc pc = .ok (.aaload, 1))
    (kk : W p l e R s m args below meth c H locs cells slots Q (F0 m (pc + 1) ls (va_rf (f i.toNatClampNeg) :: rest))) : W p l e R s m args below meth c H locs cells slots Q (F0 m pc ls (.int i :: .ref a :: rest)) :=
  va_aldq E.x E.b E.k B.1 q0 4 ha rfl hin hdg kk
theorem z_iast (E : zE p s m c args G own cc nL A) (B : zB G A s.heap ws H locs) (q0 : Nat) {n : Nat} {f : Nat → Int32} (ha : ws[q0]? = some (zi G a n f)) {i x : Int32} (hin : vp_in i n) (hdg : decode cc pc = .ok (.iastore, 1))
    (kk : ∀ (H1 : Heap) (locs1 : List Loc), zB G A s.heap (ws.set q0 (zi G a n (upd f i.toNatClampNeg x))) H1 locs1 → W p l e R s m args below meth c H1 locs1 cells slots Q (F0 m (pc + 1) ls rest)) : W p l e R s m args below meth c H locs cells slots Q (F0 m pc ls (.int x :: .int i :: .ref a :: rest)) :=
  va_iast E.x E.b E.k B.1 B.2.1 B.2.2 q0 1 ha rfl hin hdg (fun H1 locs1 h1 h2 h3 => kk H1 locs1 ⟨h1, h2, h3⟩)
theorem z_bast (E : zE p s m c args G own cc nL A) (B : zB G A s.heap ws H locs) (q0 : Nat) {n : Nat} {f : Nat → Int32} (ha : ws[q0]? = some (zb G a n f)) {i x : Int32} (hin : vp_in i n) (hdg : decode cc pc = .ok (.bastore, 1))
    (kk : ∀ (H1 : Heap) (locs1 : List Loc) (g : Nat → Int32), zB G A s.heap (ws.set q0 (zb G a n g)) H1 locs1 → W p l e R s m args below meth c H1 locs1 cells slots Q (F0 m (pc + 1) ls rest)) : W p l e R s m args below meth c H locs cells slots Q (F0 m pc ls (.int x :: .int i :: .ref a :: rest)) :=
  va_bast E.x E.b E.k B.1 B.2.1 B.2.2 q0 0 ha rfl hin hdg (fun H1 locs1 h1 h2 h3 => kk H1 locs1 _ ⟨h1, h2, h3⟩)
theorem z_zast (E : zE p s m c args G own cc nL A) (B : zB G A s.heap ws H locs) (q0 : Nat) {n : Nat} {f : Nat → Int32} (ha : ws[q0]? = some (zz G a n f)) {i x : Int32} (hin : vp_in i n) (hdg : decode cc pc = .ok (.bastore, 1))
    (kk : ∀ (H1 : Heap) (locs1 : List Loc), zB G A s.heap (ws.set q0 (zz G a n (upd f i.toNatClampNeg (vp_nar .boolean x)))) H1 locs1 → W p l e R s m args below meth c H1 locs1 cells slots Q (F0 m (pc + 1) ls rest)) : W p l e R s m args below meth c H locs cells slots Q (F0 m pc ls (.int x :: .int i :: .ref a :: rest)) :=
  va_zast E.x E.b E.k B.1 B.2.1 B.2.2 q0 3 ha rfl hin hdg (fun H1 locs1 h1 h2 h3 => kk H1 locs1 ⟨h1, h2, h3⟩)
theorem z_last (E : zE p s m c args G own cc nL A) (B : zB G A s.heap ws H locs) (q0 : Nat) {n : Nat} {f : Nat → Int64} (ha : ws[q0]? = some (zj G a n f)) {i : Int32} {x : Int64} (hin : vp_in i n) (hdg : decode cc pc = .ok (.lastore, 1))
    (kk : ∀ (H1 : Heap) (locs1 : List Loc) (g : Nat → Int64), zB G A s.heap (ws.set q0 (zj G a n g)) H1 locs1 → W p l e R s m args below meth c H1 locs1 cells slots Q (F0 m (pc + 1) ls rest)) : W p l e R s m args below meth c H locs cells slots Q (F0 m pc ls (.long x :: .int i :: .ref a :: rest)) :=
  va_last E.x E.b E.k B.1 B.2.1 B.2.2 q0 2 ha rfl hin hdg (fun H1 locs1 h1 h2 h3 => kk H1 locs1 _ ⟨h1, h2, h3⟩)
theorem z_aast (E : zE p s m c args G own cc nL A) (B : zB G A s.heap ws H locs) (q0 qk : Nat) {n v : Nat} {vs : List Value} {f : Nat → Option Nat} (ha : ws[q0]? = some (zc G a n f)) (hv : ws[qk]? = some (zo v 0 vs)) {i : Int32} (hin : vp_in i n) (hdg : decode cc pc = .ok (.aastore, 1))
    (kk : ∀ (H1 : Heap) (locs1 : List Loc), zB G A s.heap (ws.set q0 (zc G a n (va_up f i.toNatClampNeg (some v)))) H1 locs1 → W p l e R s m args below meth c H1 locs1 cells slots Q (F0 m (pc + 1) ls rest)) : W p l e R s m args below meth c H locs cells slots Q (F0 m pc ls (.ref v :: .int i :: .ref a :: rest)) :=
  va_astq E.x E.b E.k B.1 B.2.1 B.2.2 q0 4 qk 0 (r := (RX0, TX0, 2)) ha rfl hv rfl hin hdg (fun H1 locs1 h1 h2 h3 => kk H1 locs1 ⟨h1, h2, h3⟩)
theorem z_ilen (E : zE p s m c args G own cc nL A) (B : zB G A s.heap ws H locs) (q0 : Nat) {n : Nat} {f : Nat → Int32} (ha : ws[q0]? = some (zi G a n f)) {v : Int32} (hv : Int32.ofNat n = v) (hdg : decode cc pc = .ok (.arraylength, 1))
    (kk : W p l e R s m args below meth c H locs cells slots Q (F0 m (pc + 1) ls (.int v :: rest))) : W p l e R s m args below meth c H locs cells slots Q (F0 m pc ls (.ref a :: rest)) :=
  va_alen E.x E.b E.k B.1 q0 1 ha rfl hv hdg kk
theorem z_same {G : zGT} {s : State} {k : Nat} {ty : FieldType} {cA c0 : ClassId} (h0 : va_K G.1 vwCl (zTy G) s) (h1 : va_K G.1 vwCl (zTy G ++ [(cA, ty)]) s) (hk : (zTy G)[k]? = some (c0, ty)) (hne : ∀ q cB, va_RA q cB ty → q.vm.findClass ("[" ++ ty.toString) = some cB) : c0 = cA := by
  have a1 := hne _ _ (h0.2 k _ hk).2
  have a2 := hne _ _ (h1.2 5 (cA, ty) rfl).2
  exact Option.some.inj (a1.symm.trans a2)
theorem z_newI (E : zE p s m c args G own cc nL A) (B : zB G A s.heap ws H locs) (harr : Cond.arrayClass .int ∈ zT) {n : Int32} {N' : Nat} (hn : ¬ n < 0) (hN : n.toNatClampNeg = N') (hbytes : N' * 4 ≤ 536870912) (hcells : cells + 1 ≤ R.cells) (hslots : slots + N' ≤ R.slots) (hdg : decode cc pc = .ok (.newarray .int, 2))
    (kk : ∀ (q : Nat) (H1 : Heap), zB G A s.heap (ws ++ [zi G q N' (fun _ => 0)]) H1 locs → W p l e R s m args below meth c H1 locs (cells + 1) (slots + N') Q (F0 m (pc + 2) ls (.ref q :: rest))) : W p l e R s m args below meth c H locs cells slots Q (F0 m pc ls (.int n :: rest)) := by
  refine va_newa (atype := .int) E.x E.b (E.w harr) (ty := .int) rfl E.k B.1 B.2.1 B.2.2 E.2.2 (a0 := (N', .inl (fun _ => 0))) (fun cA => rfl) hn hN hbytes hcells hslots hdg (fun q cA H1 hK hP hD hS => ?_)
  have h := z_same E.k hK (k := 1) (c0 := G.2 1) rfl (fun _ _ h => h)
  subst h
  exact kk q H1 ⟨hP, hD, hS⟩
theorem z_newB (E : zE p s m c args G own cc nL A) (B : zB G A s.heap ws H locs) (harr : Cond.arrayClass .byte ∈ zT) {n : Int32} {N' : Nat} (hn : ¬ n < 0) (hN : n.toNatClampNeg = N') (hbytes : N' * 1 ≤ 536870912) (hcells : cells + 1 ≤ R.cells) (hslots : slots + N' ≤ R.slots) (hdg : decode cc pc = .ok (.newarray .byte, 2))
    (kk : ∀ (q : Nat) (H1 : Heap), zB G A s.heap (ws ++ [zb G q N' (fun _ => 0)]) H1 locs → W p l e R s m args below meth c H1 locs (cells + 1) (slots + N') Q (F0 m (pc + 2) ls (.ref q :: rest))) : W p l e R s m args below meth c H locs cells slots Q (F0 m pc ls (.int n :: rest)) := by
  refine va_newa (atype := .byte) E.x E.b (E.w harr) (ty := .byte) rfl E.k B.1 B.2.1 B.2.2 E.2.2 (a0 := (N', .inl (fun _ => 0))) (fun cA => rfl) hn hN hbytes hcells hslots hdg (fun q cA H1 hK hP hD hS => ?_)
  have h := z_same E.k hK (k := 0) (c0 := G.2 0) rfl (fun _ _ h => h)
  subst h
  exact kk q H1 ⟨hP, hD, hS⟩
theorem z_newZ (E : zE p s m c args G own cc nL A) (B : zB G A s.heap ws H locs) (harr : Cond.arrayClass .boolean ∈ zT) {n : Int32} {N' : Nat} (hn : ¬ n < 0) (hN : n.toNatClampNeg = N') (hbytes : N' * 1 ≤ 536870912) (hcells : cells + 1 ≤ R.cells) (hslots : slots + N' ≤ R.slots) (hdg : decode cc pc = .ok (.newarray .boolean, 2))
    (kk : ∀ (q : Nat) (H1 : Heap), zB G A s.heap (ws ++ [zz G q N' (fun _ => 0)]) H1 locs → W p l e R s m args below meth c H1 locs (cells + 1) (slots + N') Q (F0 m (pc + 2) ls (.ref q :: rest))) : W p l e R s m args below meth c H locs cells slots Q (F0 m pc ls (.int n :: rest)) := by
  refine va_newa (atype := .boolean) E.x E.b (E.w harr) (ty := .boolean) rfl E.k B.1 B.2.1 B.2.2 E.2.2 (a0 := (N', .inl (fun _ => 0))) (fun cA => rfl) hn hN hbytes hcells hslots hdg (fun q cA H1 hK hP hD hS => ?_)
  have h := z_same E.k hK (k := 3) (c0 := G.2 3) rfl (fun _ _ h => h)
  subst h
  exact kk q H1 ⟨hP, hD, hS⟩
theorem z_newJ (E : zE p s m c args G own cc nL A) (B : zB G A s.heap ws H locs) (harr : Cond.arrayClass .long ∈ zT) {n : Int32} {N' : Nat} (hn : ¬ n < 0) (hN : n.toNatClampNeg = N') (hbytes : N' * 8 ≤ 536870912) (hcells : cells + 1 ≤ R.cells) (hslots : slots + N' ≤ R.slots) (hdg : decode cc pc = .ok (.newarray .long, 2))
    (kk : ∀ (q : Nat) (H1 : Heap), zB G A s.heap (ws ++ [zj G q N' (fun _ => 0)]) H1 locs → W p l e R s m args below meth c H1 locs (cells + 1) (slots + N') Q (F0 m (pc + 2) ls (.ref q :: rest))) : W p l e R s m args below meth c H locs cells slots Q (F0 m pc ls (.int n :: rest)) := by
  refine va_newa (atype := .long) E.x E.b (E.w harr) (ty := .long) rfl E.k B.1 B.2.1 B.2.2 E.2.2 (a0 := (N', .inr (.inl (fun _ => 0)))) (fun cA => rfl) hn hN hbytes hcells hslots hdg (fun q cA H1 hK hP hD hS => ?_)
  have h := z_same E.k hK (k := 2) (c0 := G.2 2) rfl (fun _ _ h => h)
  subst h
  exact kk q H1 ⟨hP, hD, hS⟩
theorem z_newC {index : Nat} (E : zE p s m c args G own cc nL A) (B : zB G A s.heap ws H locs) (hcl : Cond.classLink own index RX0 ∈ zT) {n : Int32} {N' : Nat} (hn : ¬ n < 0) (hN : n.toNatClampNeg = N') (hbytes : N' * 4 ≤ 536870912) (hcells : cells + 1 ≤ R.cells) (hslots : slots + N' ≤ R.slots) (hdg : decode cc pc = .ok (.anewarray index, 3))
    (kk : ∀ (q : Nat) (H1 : Heap), zB G A s.heap (ws ++ [zc G q N' (fun _ => none)]) H1 locs → W p l e R s m args below meth c H1 locs (cells + 1) (slots + N') Q (F0 m (pc + 3) ls (.ref q :: rest))) : W p l e R s m args below meth c H locs cells slots Q (F0 m pc ls (.int n :: rest)) := by
  refine va_newq E.x E.b E.ow (E.w hcl) E.2.1.2.2.2.2.2.2.2.2.1 E.k B.1 B.2.1 B.2.2 E.2.2 hn hN hbytes hcells hslots hdg (fun q cA H1 hK hP hD hS => ?_)
  have h := z_same E.k hK (k := 4) (c0 := G.2 4) rfl (fun _ _ h => by obtain ⟨_, _, _, _, _, h⟩ := h; exact h)
  subst h
  exact kk q H1 ⟨hP, hD, hS⟩
theorem z_new {C : String} {T : u_T} {N ci index : Nat} (E : zE p s m c args G own cc nL A) (B : zB G A s.heap ws H locs) (hin : ∀ w ∈ u_ws C T N, w ∈ zT) (ty : Nat → FieldType) (hty : ∀ k, k < N → parseFieldDescriptor (T k).2.2.1 = some (ty k)) (hcl : Cond.classLink own index C ∈ zT) (hinst : Cond.instantiable C N ∈ zT) (hini : Cond.initialized C ∈ zT) (hc : vwCl[ci]? = some (C, T, N)) {fs : List Value} (hfs : ∀ j, j < N → defaultValue (ty j) = vp_V fs j) (hcells : cells + 1 ≤ R.cells) (hslots : slots + N ≤ R.slots) (hdg : decode cc pc = .ok (.new index, 3))
    (kk : ∀ (q : Nat) (H1 : Heap), zB G A s.heap (ws ++ [zo q ci fs]) H1 locs → W p l e R s m args below meth c H1 locs (cells + 1) (slots + N) Q (F0 m (pc + 3) ls (.ref q :: rest))) : W p l e R s m args below meth c H locs cells slots Q (F0 m pc ls rest) :=
  va_new E.x E.b E.1.2.2.2.2 hin ty hty E.ow (E.w hcl) (E.w hinst) (E.w hini) E.k B.1 B.2.1 B.2.2 E.2.2 hc hfs hcells hslots hdg (fun q H1 h1 h2 h3 => kk q H1 ⟨h1, h2, h3⟩)
end ZP
end
section
/-! calls, entries, ends, loops -/
def zMV (C : String) (y : MethodName) (bytes : ByteArray) (maxL : Nat) (ret : Option FieldType) (n : Nat) : Prop := Cond.instanceMethod y ∈ zT ∧ Cond.selects C y y ∈ zT ∧ Cond.initialized C ∈ zT ∧ Cond.code y bytes maxL ret ∈ zT ∧ (y.cls = C ∧ y.cls ≠ "java/lang/invoke/MethodHandle" ∧ y.cls ≠ "java/lang/invoke/VarHandle" ∧ (parseMethodDescriptor y.desc).map (fun d => d.parameters.length) = some n)
def zMS (y : MethodName) (bytes : ByteArray) (maxL : Nat) (ret : Option FieldType) (n : Nat) : Prop := Cond.static y ∈ zT ∧ Cond.initialized y.cls ∈ zT ∧ Cond.code y bytes maxL ret ∈ zT ∧ (y.cls ≠ "java/lang/invoke/MethodHandle" ∧ y.cls ≠ "java/lang/invoke/VarHandle" ∧ (parseMethodDescriptor y.desc).map (fun d => d.parameters.length) = some n)
def zMI (y : MethodName) (bytes : ByteArray) (maxL : Nat) (n : Nat) : Prop := Cond.instanceMethod y ∈ zT ∧ Cond.initialized y.cls ∈ zT ∧ Cond.code y bytes maxL none ∈ zT ∧ y.name = "<init>" ∧ (y.cls ≠ "java/lang/invoke/MethodHandle" ∧ y.cls ≠ "java/lang/invoke/VarHandle" ∧ (parseMethodDescriptor y.desc).map (fun d => d.parameters.length) = some n)
theorem z_ofMem {w : Cond} {i : Nat} (h : w ∈ zT) : w ∈ zT := h
section ZC
variable {p : Program} {l : Launch} {e : Env} {R : Room} {s : State} {m : MethodId} {args : Array Value} {below : List Frame} {meth : Method} {c : Code} {H : Heap} {locs : List Loc} {cells slots : Nat} {Q : State → Prop}
variable {cc : ByteArray} {pc : Nat} {ls : Array Slot} {rest : List Value} {G : zGT} {A : Nat → Prop} {a b : Nat} {ws wc wr : va_W} {own C : String} {nL index maxL n mc ms : Nat} {y : MethodName} {bytes : ByteArray} {ret : Option FieldType} {rm : Room} {As st0 : List Value} {Qc : Array Value → State → Outcome → State → Prop} {free : Addr → Prop}
theorem z_pre (E : zE p s m c args G own cc nL A) (B : zB G A s.heap ws H locs) (isC : List Nat) (hC : isC.map (fun i => ws[i]?) = wc.map some) (hnC : va_nd isC = true) (av : List Value) : ∀ U : State, U.heap = H → s.WarmedH U.vm → va_Pc av (zPc G wc H.size) av.toArray U := by
  intro U hU hW
  have hP := B.1.sub (ws' := wc) isC (z_fm hC)
  have hD := B.2.1.sub (ws' := wc) isC hnC hC
  exact ⟨rfl, by rw [hU], by rw [hU]; exact hP, E.2.1.warm hW, hD.weaken (fun _ _ _ _ => trivial)⟩
theorem z_runV (E : zE p s m c args G own cc nL A) (B : zB G A s.heap ws H locs) (isC : List Nat) (hC : isC.map (fun i => ws[i]?) = wc.map some) (hnC : va_nd isC = true) (hy : zMV C y bytes maxL ret n) (hl : Cond.methodLink own index y ∈ zT) (k0 : Nat) {ci : Nat} {fs : List Value} {q : vw_C} (hcl : vwCl[ci]? = some q) (hq : q.1 = C) (he : wc[k0]? = some (b, .inr (ci, fs)))
    (hM : Met l y (.code y bytes maxL ret :: zT) rm (va_Pc (.ref b :: As) (zPc G wc H.size)) Qc mc ms free) (hrc : rm.cells = mc) (hrs : rm.slots = ms) (hR : rm.frames + 1 ≤ R.frames ∧ 8 + (maxL + 11) + rm.locals ≤ R.locals) (hn : As.length = n) (hsz : ls.size = nL) (hst : st0 = As.reverse ++ .ref b :: rest) (hroom : (rest.map fun v => v.category).sum ≤ 8) (hdg : decode cc pc = .ok (.invokevirtual index, 3)) (hf : cells + mc ≤ R.cells ∧ slots + ms ≤ R.slots) :
    va_Run p l e R s m args below meth c H locs cells slots mc ms (F0 m pc ls st0) rest (Qc (Value.ref b :: As).toArray) free := by
  obtain ⟨w1, w2, w3, w4, w5⟩ := hy
  have hP := B.1.sub (ws' := wc) isC (z_fm hC)
  refine va_runV E.1 hM (cwV (C := C) n E.1.2.2.2.2 ?_ rfl hrc hrs w5 hR) ⟨zPc_blind, ?_, z_pre E B isC hC hnC _⟩ rfl hn hsz hst (lv_room hroom) hdg hf
  · exact z_gc hl (z_gc w1 (z_gc w2 (z_gc w3 (z_gc w4 z_goodT))))
  · have h := va_recv E.k hP hcl he
    rw [hq] at h
    exact h
theorem z_runS (E : zE p s m c args G own cc nL A) (B : zB G A s.heap ws H locs) (isC : List Nat) (hC : isC.map (fun i => ws[i]?) = wc.map some) (hnC : va_nd isC = true) (hy : zMS y bytes maxL ret n) (hl : Cond.methodLink own index y ∈ zT)
    (hM : Met l y (.code y bytes maxL ret :: zT) rm (va_Pc As (zPc G wc H.size)) Qc mc ms free) (hrc : rm.cells = mc) (hrs : rm.slots = ms) (hR : rm.frames + 1 ≤ R.frames ∧ 8 + (maxL + 11) + rm.locals ≤ R.locals) (hn : As.length = n) (hsz : ls.size = nL) (hst : st0 = As.reverse ++ rest) (hroom : (rest.map fun v => v.category).sum ≤ 8) (hdg : decode cc pc = .ok (.invokestatic index, 3)) (hf : cells + mc ≤ R.cells ∧ slots + ms ≤ R.slots) :
    va_Run p l e R s m args below meth c H locs cells slots mc ms (F0 m pc ls st0) rest (Qc As.toArray) free := by
  obtain ⟨w1, w3, w4, w5⟩ := hy
  refine va_runS E.1 hM (va_cwS n E.1.2.2.2.2 ?_ rfl hrc hrs w5 hR) ⟨zPc_blind, z_pre E B isC hC hnC _⟩ rfl hn hsz hst (lv_room hroom) hdg hf
  exact z_gc hl (z_gc w1 (z_gc w3 (z_gc w4 z_goodT)))
theorem z_runI (E : zE p s m c args G own cc nL A) (B : zB G A s.heap ws H locs) (isC : List Nat) (hC : isC.map (fun i => ws[i]?) = wc.map some) (hnC : va_nd isC = true) (hy : zMI y bytes maxL n) (hl : Cond.methodLink own index y ∈ zT)
    (hM : Met l y (.code y bytes maxL none :: zT) rm (va_Pc (.ref b :: As) (zPc G wc H.size)) Qc mc ms free) (hrc : rm.cells = mc) (hrs : rm.slots = ms) (hR : rm.frames + 1 ≤ R.frames ∧ 8 + (maxL + 11) + rm.locals ≤ R.locals) (hn : As.length = n) (hsz : ls.size = nL) (hst : st0 = As.reverse ++ .ref b :: rest) (hroom : (rest.map fun v => v.category).sum ≤ 8) (hdg : decode cc pc = .ok (.invokespecial index, 3)) (hf : cells + mc ≤ R.cells ∧ slots + ms ≤ R.slots) :
    va_Run p l e R s m args below meth c H locs cells slots mc ms (F0 m pc ls st0) rest (Qc (Value.ref b :: As).toArray) free := by
  obtain ⟨w1, w3, w4, w6, w5⟩ := hy
  refine va_runI E.1 hM (cwI n E.1.2.2.2.2 (z_gc w4 z_goodT) rfl hrc hrs (E.w w3) (E.w hl) (E.w w1) w6 w5 hR) ⟨zPc_blind, z_pre E B isC hC hnC _⟩ rfl hn hsz hst (lv_room hroom) hdg hf
theorem z_runIN {host : String} (E : zE p s m c args G own cc nL A) (B : zB G A s.heap ws H locs) (isC : List Nat) (hC : isC.map (fun i => ws[i]?) = wc.map some) (hnC : va_nd isC = true) (hy : zMI y bytes maxL n) (hl : va_Nw (.methodLinkNest own index y host) s)
    (hM : Met l y (.code y bytes maxL none :: zT) rm (va_Pc (.ref b :: As) (zPc G wc H.size)) Qc mc ms free) (hrc : rm.cells = mc) (hrs : rm.slots = ms) (hR : rm.frames + 1 ≤ R.frames ∧ 8 + (maxL + 11) + rm.locals ≤ R.locals) (hn : As.length = n) (hsz : ls.size = nL) (hst : st0 = As.reverse ++ .ref b :: rest) (hroom : (rest.map fun v => v.category).sum ≤ 8) (hdg : decode cc pc = .ok (.invokespecial index, 3)) (hf : cells + mc ≤ R.cells ∧ slots + ms ≤ R.slots) :
    va_Run p l e R s m args below meth c H locs cells slots mc ms (F0 m pc ls st0) rest (Qc (Value.ref b :: As).toArray) free := by
  obtain ⟨w1, w3, w4, w6, w5⟩ := hy
  refine va_runIN (host := host) E.1 hM ⟨va_cnB n E.1.2.2.2.2 (z_gc w4 z_goodT) rfl hrc hrs hl (E.w w3) w5 hR, w6, E.w w1⟩ ⟨zPc_blind, z_pre E B isC hC hnC _⟩ rfl hn hsz hst (lv_room hroom) hdg hf
/-- behind a call -/
theorem z_join (B : zB G A s.heap ws H locs) (hA : ∀ q, s.heap.size ≤ q → A q) (isC isR : List Nat) (hC : isC.map (fun i => ws[i]?) = wc.map some) (hR : isR.map (fun i => ws[i]?) = wr.map some) (hn : va_nd isR = true) (hdis : ∀ i ∈ isR, i ∉ isC) {t : State} {H1 : Heap} {locs1 : List Loc} (ht : t.heap = H1) (hk : ∀ q : Nat, q < H.size → ¬ va_A wc H.size q → H1[q]? = H[q]?) (hS : va_S A s.heap H1 locs1) : ∀ w1, zQ G w1 (va_A wc H.size) t → zB G A s.heap (wr ++ w1) H1 locs1 := by
  intro w1 h1
  have hF := va_free (wc := wc) B.2.1 B.2.2 hA isC hC
  have hP1 := h1.1
  rw [ht] at hP1
  obtain ⟨h2, h3⟩ := va_join B.1 B.2.1 isC isR hC hR hn hdis hk hF hP1 h1.2
  exact ⟨h2, h3, hS⟩
theorem z_calli (E : zE p s m c args G own cc nL A) (B : zB G A s.heap ws H locs) (isC isR : List Nat) (hC : isC.map (fun i => ws[i]?) = wc.map some) (hR : isR.map (fun i => ws[i]?) = wr.map some) (hn : va_nd isR = true) (hdis : ∀ i ∈ isR, i ∉ isC) {post : Int32 → Unit → Prop} {Bq : Unit → State → Prop} {av : Array Value} (hr : va_Run p l e R s m args below meth c H locs cells slots mc ms (F0 m pc ls st0) rest (va_Qi post Bq (va_A wc H.size) av) (va_A wc H.size))
    (kk : ∀ (r : Int32) (t : State) (H1 : Heap) (locs1 : List Loc), post r () → Bq () t → (∀ w1, zQ G w1 (va_A wc H.size) t → zB G A s.heap (wr ++ w1) H1 locs1) → W p l e R s m args below meth c H1 locs1 (cells + mc) (slots + ms) Q (F0 m (pc + 3) ls (.int r :: rest))) : W p l e R s m args below meth c H locs cells slots Q (F0 m pc ls st0) := by
  have hF := va_free (wc := wc) B.2.1 B.2.2 E.2.2 isC hC
  exact va_calli hr B.2.2 (fun q _ h => hF q h) hF (fun r u t H1 locs1 ht _ hp hb _ hk hS => kk r t H1 locs1 hp hb (z_join B E.2.2 isC isR hC hR hn hdis ht hk hS))
theorem z_calll (E : zE p s m c args G own cc nL A) (B : zB G A s.heap ws H locs) (isC isR : List Nat) (hC : isC.map (fun i => ws[i]?) = wc.map some) (hR : isR.map (fun i => ws[i]?) = wr.map some) (hn : va_nd isR = true) (hdis : ∀ i ∈ isR, i ∉ isC) {post : Int64 → Unit → Prop} {Bq : Unit → State → Prop} {av : Array Value} (hr : va_Run p l e R s m args below meth c H locs cells slots mc ms (F0 m pc ls st0) rest (va_Ql post Bq (va_A wc H.size) av) (va_A wc H.size))
    (kk : ∀ (r : Int64) (t : State) (H1 : Heap) (locs1 : List Loc), post r () → Bq () t → (∀ w1, zQ G w1 (va_A wc H.size) t → zB G A s.heap (wr ++ w1) H1 locs1) → W p l e R s m args below meth c H1 locs1 (cells + mc) (slots + ms) Q (F0 m (pc + 3) ls (.long r :: rest))) : W p l e R s m args below meth c H locs cells slots Q (F0 m pc ls st0) := by
  have hF := va_free (wc := wc) B.2.1 B.2.2 E.2.2 isC hC
  exact va_calll hr B.2.2 (fun q _ h => hF q h) hF (fun r u t H1 locs1 ht _ hp hb _ hk hS => kk r t H1 locs1 hp hb (z_join B E.2.2 isC isR hC hR hn hdis ht hk hS))
theorem z_callv (E : zE p s m c args G own cc nL A) (B : zB G A s.heap ws H locs) (isC isR : List Nat) (hC : isC.map (fun i => ws[i]?) = wc.map some) (hR : isR.map (fun i => ws[i]?) = wr.map some) (hn : va_nd isR = true) (hdis : ∀ i ∈ isR, i ∉ isC) {post : Unit → Prop} {Bq : Unit → State → Prop} {av : Array Value} (hr : va_Run p l e R s m args below meth c H locs cells slots mc ms (F0 m pc ls st0) rest (va_Qv post Bq (va_A wc H.size) av) (va_A wc H.size))
    (kk : ∀ (t : State) (H1 : Heap) (locs1 : List Loc), post () → Bq () t → (∀ w1, zQ G w1 (va_A wc H.size) t → zB G A s.heap (wr ++ w1) H1 locs1) → W p l e R s m args below meth c H1 locs1 (cells + mc) (slots + ms) Q (F0 m (pc + 3) ls rest)) : W p l e R s m args below meth c H locs cells slots Q (F0 m pc ls st0) := by
  have hF := va_free (wc := wc) B.2.1 B.2.2 E.2.2 isC hC
  exact va_callv hr B.2.2 (fun q _ h => hF q h) hF (fun u t H1 locs1 ht _ hp hb _ hk hS => kk t H1 locs1 hp hb (z_join B E.2.2 isC isR hC hR hn hdis ht hk hS))
theorem z_callr (E : zE p s m c args G own cc nL A) (B : zB G A s.heap ws H locs) (isC isR : List Nat) (hC : isC.map (fun i => ws[i]?) = wc.map some) (hR : isR.map (fun i => ws[i]?) = wr.map some) (hn : va_nd isR = true) (hdis : ∀ i ∈ isR, i ∉ isC) {post : Unit → Prop} {Bq : Unit → Nat → State → Prop} {av : Array Value} (hr : va_Run p l e R s m args below meth c H locs cells slots mc ms (F0 m pc ls st0) rest (va_Qr post Bq (va_A wc H.size) av) (va_A wc H.size))
    (kk : ∀ (r : Nat) (t : State) (H1 : Heap) (locs1 : List Loc), post () → Bq () r t → (∀ w1, zQ G w1 (va_A wc H.size) t → zB G A s.heap (wr ++ w1) H1 locs1) → W p l e R s m args below meth c H1 locs1 (cells + mc) (slots + ms) Q (F0 m (pc + 3) ls (.ref r :: rest))) : W p l e R s m args below meth c H locs cells slots Q (F0 m pc ls st0) := by
  have hF := va_free (wc := wc) B.2.1 B.2.2 E.2.2 isC hC
  exact va_callr hr B.2.2 (fun q _ h => hF q h) hF (fun u r t H1 locs1 ht _ hp hb _ hk hS => kk r t H1 locs1 hp hb (z_join B E.2.2 isC isR hC hR hn hdis ht hk hS))
/-- a method's entry -/
theorem z_start {sz : Nat} {av : List Value} {QA : (Nat → Prop) → Array Value → State → Outcome → State → Prop} (hy : plainName y.cls = true) (ha : (lg_sl av).length ≤ maxL ∧ True)
    (body : ∀ (p : Program) (e : Env) (s : State) (m : MethodId) (below : List Frame) (meth : Method) (c : Code) (A : Nat → Prop) (ls : Array Slot), zE p s m c av.toArray G y.cls bytes maxL A → zB G A s.heap ws s.heap [] → meth.sig.returnType = ret → meth.locks = false → meth.name = y.name → lv_has ls maxL (lv_args 0 av) →
      W p l e rm s m av.toArray below meth c s.heap [] 0 0 (MQ below (QA A) av.toArray s mc ms A) (F0 m 0 ls [])) :
    Met l y (.code y bytes maxL ret :: zT) rm (va_Pc av (zPc G ws sz)) (QA (va_A ws sz)) mc ms (va_A ws sz) := by
  refine Met.ofW (cc := bytes) (maxL := maxL) (ret := ret) hy rfl ?_
  intro p e s m args below meth c s₁ B hml hv
  obtain ⟨rfl, hsz, hP, hK, hD0⟩ := hv
  have hts := atoms_spec (ws := .code y bytes maxL ret :: zT) B.pre
  subst hsz
  have hD := hD0.self (sz := s.heap.size)
  have hl := lv_entry av (n := maxL) ha.1
  rw [lg_entry_eq]
  exact body p e s m below meth c (va_A ws s.heap.size) _ ⟨⟨B.exec, B.bytes, hml, findClass_of_methodNamed B.named, fun w h => hts w (List.mem_cons_of_mem _ h)⟩, hK, fun q h => Or.inr h⟩ ⟨hP, hD, va_S.rf⟩ B.returns B.notSynchronized (name_of_methodNamed B.named B.method).1 hl
theorem z_q (B : zB G A s.heap ws H locs) (is : List Nat) (hn : va_nd is = true) (h : is.map (fun i => ws[i]?) = wr.map some) {t : State} (ht : t.heap = H) : zQ G wr A t := ⟨by rw [ht]; exact B.1.sub is (z_fm h), B.2.1.sub is hn h⟩
theorem z_iret {v : Int32} (E : zE p s m c args G own cc nL A) (hr : meth.sig.returnType = some .int) (hlocks : meth.locks = false) (B : zB G A s.heap ws H locs) {post : Int32 → Unit → Prop} {Bq : Unit → State → Prop} (hp : post v ()) (hB : ∀ t : State, t.heap = H → Bq () t) (hdg : decode cc pc = .ok (.ireturn, 1)) : W p l e R s m args below meth c H locs cells slots (MQ below (va_Qi post Bq A) args s cells slots A) (F0 m pc ls [.int v]) :=
  W.iret E.x E.b hr (fun t ht _ => ⟨⟨v, (), rfl, hp, hB t ht⟩, B.2.2.F ht⟩) B.2.2.2.2 hdg hlocks
theorem z_zret {v : Int32} (E : zE p s m c args G own cc nL A) (hr : meth.sig.returnType = some .boolean) (hlocks : meth.locks = false) (B : zB G A s.heap ws H locs) (hn : narrow .boolean (.int v) = .int v) {post : Int32 → Unit → Prop} {Bq : Unit → State → Prop} (hp : post v ()) (hB : ∀ t : State, t.heap = H → Bq () t) (hdg : decode cc pc = .ok (.ireturn, 1)) : W p l e R s m args below meth c H locs cells slots (MQ below (va_Qi post Bq A) args s cells slots A) (F0 m pc ls [.int v]) :=
  W.zret E.x E.b hr hn (fun t ht _ => ⟨⟨v, (), rfl, hp, hB t ht⟩, B.2.2.F ht⟩) B.2.2.2.2 hdg hlocks
theorem z_lret {v : Int64} (E : zE p s m c args G own cc nL A) (hr : meth.sig.returnType = some .long) (hlocks : meth.locks = false) (B : zB G A s.heap ws H locs) {post : Int64 → Unit → Prop} {Bq : Unit → State → Prop} (hp : post v ()) (hB : ∀ t : State, t.heap = H → Bq () t) (hdg : decode cc pc = .ok (.lreturn, 1)) : W p l e R s m args below meth c H locs cells slots (MQ below (va_Ql post Bq A) args s cells slots A) (F0 m pc ls [.long v]) :=
  W.lret E.x E.b hr (fun t ht _ => ⟨⟨v, (), rfl, hp, hB t ht⟩, B.2.2.F ht⟩) B.2.2.2.2 hdg hlocks
theorem z_vret (E : zE p s m c args G own cc nL A) (hr : meth.sig.returnType = none) (hlocks : meth.locks = false) (B : zB G A s.heap ws H locs) {post : Unit → Prop} {Bq : Unit → State → Prop} (hp : post ()) (hB : ∀ t : State, t.heap = H → Bq () t) (hdg : decode cc pc = .ok (.return_, 1)) : W p l e R s m args below meth c H locs cells slots (MQ below (va_Qv post Bq A) args s cells slots A) (F0 m pc ls []) :=
  W.vret E.x E.b hr (fun t ht _ => ⟨⟨(), rfl, hp, hB t ht⟩, B.2.2.F ht⟩) B.2.2.2.2 hdg hlocks
theorem z_aret {v : Nat} {rt : FieldType} (E : zE p s m c args G own cc nL A) (hr : meth.sig.returnType = some rt) (hrt : (∃ n, rt = .object n) ∨ ∃ t, rt = .array t) (hlocks : meth.locks = false) (B : zB G A s.heap ws H locs) {post : Unit → Prop} {Bq : Unit → Nat → State → Prop} (hp : post ()) (hB : ∀ t : State, t.heap = H → Bq () v t) (hdg : decode cc pc = .ok (.areturn, 1)) : W p l e R s m args below meth c H locs cells slots (MQ below (va_Qr post Bq A) args s cells slots A) (F0 m pc ls [.ref v]) :=
  W.aret E.x E.b hr hrt (Or.inr ⟨v, rfl⟩) (fun t ht _ => ⟨⟨(), v, rfl, hp, hB t ht⟩, B.2.2.F ht⟩) B.2.2.2.2 hdg hlocks
/-- a counted loop; what it makes grows with the count -/
theorem z_loop {head : Nat} (N : Nat) (Cf Sf : Nat → Nat) (Inv : Nat → Heap → List Loc → Array Slot → Prop) (hc : cells ≤ Cf 0) (hsl : slots ≤ Sf 0) (h0 : Inv 0 H locs ls)
    (hs : ∀ (i : Nat) (H : Heap) (locs : List Loc) (ls : Array Slot), i < N → (∀ (H : Heap) (locs : List Loc) (ls : Array Slot), Inv (i + 1) H locs ls → W p l e R s m args below meth c H locs (Cf (i + 1)) (Sf (i + 1)) Q (F0 m head ls [])) → Inv i H locs ls → W p l e R s m args below meth c H locs (Cf i) (Sf i) Q (F0 m head ls []))
    (hx : ∀ (H : Heap) (locs : List Loc) (ls : Array Slot), Inv N H locs ls → W p l e R s m args below meth c H locs (Cf N) (Sf N) Q (F0 m head ls [])) : W p l e R s m args below meth c H locs cells slots Q (F0 m head ls []) := by
  have key : ∀ (n i : Nat), i + n = N → ∀ (H : Heap) (locs : List Loc) (ls : Array Slot), Inv i H locs ls → W p l e R s m args below meth c H locs (Cf i) (Sf i) Q (F0 m head ls []) := by
    intro n
    induction n with
    | zero =>
      intro i hi H locs ls hI
      have : i = N := by omega
      subst this
      exact hx H locs ls hI
    | succ n ih =>
      intro i hi H locs ls hI
      exact hs i H locs ls (by omega) (fun H locs ls h => ih (i + 1) (by omega) H locs ls h) hI
  exact W.widen hc hsl (key N 0 (by omega) H locs ls h0)
theorem z_objInit (E : zE p s m c args G own cc nL A) (hl : lv_has ls nL ([] : List (Nat × Value))) {idx : Nat} (w1 : Cond.methodLink own idx Lib.objectInit ∈ zT) (w2 : Cond.instanceMethod Lib.objectInit ∈ zT) (w3 : Cond.code Lib.objectInit ⟨#[0xb1]⟩ 1 none ∈ zT) (hd : decode cc pc = .ok (.invokespecial idx, 3)) (hframes : 1 ≤ R.frames) (hlocals : (rest.map fun v => v.category).sum + 12 ≤ R.locals)
    (kk : W p l e R s m args below meth c H locs cells slots Q (F0 m (pc + 3) ls rest)) : W p l e R s m args below meth c H locs cells slots Q (F0 m pc ls (.ref a :: rest)) :=
  W.objInit E.x E.b E.ow (E.w w1) (E.w w2) (E.w w3) (g := F0 m pc ls (.ref a :: rest)) rfl (hl.1.trans E.1.2.2.1.symm) rfl hd hframes (by show 2 * 0 + _ + 12 ≤ _; omega) kk
theorem z_sub (B : zB G A s.heap ws H locs) (is : List Nat) (hn : va_nd is = true) (h : is.map (fun i => ws[i]?) = wr.map some) : zB G A s.heap wr H locs := ⟨B.1.sub is (z_fm h), B.2.1.sub is hn h, B.2.2⟩
end ZC
theorem z_cpy0 {α : Type} (f g : Nat → α) : va_cpy f g 0 0 0 = g := by
  funext k
  simp only [va_cpy]
  rw [if_neg (by omega)]
theorem zi_lt {x y : Int32} (h : x < y) : x.toInt < y.toInt := Int32.lt_iff_toInt_lt.mp h
theorem zi_le {x y : Int32} (h : x ≤ y) : x.toInt ≤ y.toInt := Int32.le_iff_toInt_le.mp h
theorem zi_nlt {x y : Int32} (h : ¬ x < y) : y.toInt ≤ x.toInt := Int.not_lt.mp (fun q => h (Int32.lt_iff_toInt_lt.mpr q))
theorem zi_nle {x y : Int32} (h : ¬ x ≤ y) : y.toInt < x.toInt := Int.not_le.mp (fun q => h (Int32.le_iff_toInt_le.mpr q))
theorem zi_eq {x y : Int32} (h : x = y) : x.toInt = y.toInt := by rw [h]
theorem zi_ne {x y : Int32} (h : ¬ x = y) : ¬ x.toInt = y.toInt := fun q => h (Int32.toInt_inj.mp q)
theorem zi_pt {x : Int32} (k : Int32) (h : x.toInt = k.toInt) : k = x := (Int32.toInt_inj.mp h).symm
end
section
/-! stores of nothing, copies of nothing, lists of words by their places -/
theorem z_inOf {C : String} {T : u_T} {N : Nat} (is : List Nat) (h : u_ws C T N = is.filterMap (fun i => lw_tbl[i]?) ∧ (u_ws C T N).all goodWord = true) : ∀ w ∈ u_ws C T N, w ∈ zT := by
  intro w hw
  refine List.mem_filter.mpr ⟨?_, List.all_eq_true.mp h.2 w hw⟩
  rw [h.1] at hw
  obtain ⟨i, -, hi⟩ := List.mem_filterMap.mp hw
  exact List.mem_of_getElem? hi
section ZM
variable {p : Program} {l : Launch} {e : Env} {R : Room} {s : State} {m : MethodId} {args : Array Value} {below : List Frame} {meth : Method} {c : Code} {H : Heap} {locs : List Loc} {cells slots : Nat} {Q : State → Prop}
variable {cc : ByteArray} {pc : Nat} {ls : Array Slot} {rest : List Value} {G : zGT} {A : Nat → Prop} {a : Nat} {ws : va_W} {own : String} {nL : Nat}
theorem z_iast0 (E : zE p s m c args G own cc nL A) (B : zB G A s.heap ws H locs) (q0 : Nat) {n : Nat} (ha : ws[q0]? = some (zi G a n (fun _ => 0))) {i : Int32} (hin : vp_in i n) (hdg : decode cc pc = .ok (.iastore, 1))
    (kk : ∀ (H1 : Heap) (locs1 : List Loc), zB G A s.heap (ws.set q0 (zi G a n (fun _ => 0))) H1 locs1 → W p l e R s m args below meth c H1 locs1 cells slots Q (F0 m (pc + 1) ls rest)) : W p l e R s m args below meth c H locs cells slots Q (F0 m pc ls (.int 0 :: .int i :: .ref a :: rest)) :=
  z_iast E B q0 ha hin hdg (fun H1 locs1 h => kk H1 locs1 (by rw [z_upd0] at h; exact h))
theorem z_zast0 (E : zE p s m c args G own cc nL A) (B : zB G A s.heap ws H locs) (q0 : Nat) {n : Nat} (ha : ws[q0]? = some (zz G a n (fun _ => 0))) {i : Int32} (hin : vp_in i n) (hdg : decode cc pc = .ok (.bastore, 1))
    (kk : ∀ (H1 : Heap) (locs1 : List Loc), zB G A s.heap (ws.set q0 (zz G a n (fun _ => 0))) H1 locs1 → W p l e R s m args below meth c H1 locs1 cells slots Q (F0 m (pc + 1) ls rest)) : W p l e R s m args below meth c H locs cells slots Q (F0 m pc ls (.int 0 :: .int i :: .ref a :: rest)) :=
  z_zast E B q0 ha hin hdg (fun H1 locs1 h => kk H1 locs1 (by rw [show vp_nar .boolean 0 = 0 from rfl, z_upd0] at h; exact h))
theorem z_copy0 {index : Nat} (E : zE p s m c args G own cc nL A) (B : zB G A s.heap ws H locs) (hl : lv_has ls nL ([] : List (Nat × Value))) (q0 q1 : Nat) {a0 n0 n1 : Nat} {f g : Nat → Int32} (ha0 : ws[q0]? = some (zi G a0 n0 f)) (ha1 : ws[q1]? = some (zi G a n1 g)) (w1 : Cond.methodLink own index arraycopyName ∈ zT) (w2 : Cond.native arraycopyName ∈ zT) (w3 : Cond.static arraycopyName ∈ zT) (w4 : Cond.initialized "java/lang/System" ∈ zT) (hframes : 1 ≤ R.frames) (hlocals : (rest.map fun v => v.category).sum + (nativeFrameWords "java/lang/System" "arraycopy" 5 + 11) ≤ R.locals) (hdg : decode cc pc = .ok (.invokestatic index, 3))
    (kk : ∀ (H1 : Heap) (locs1 : List Loc), zB G A s.heap (ws.set q1 (zi G a n1 g)) H1 locs1 → W p l e R s m args below meth c H1 locs1 cells slots Q (F0 m (pc + 3) ls rest)) : W p l e R s m args below meth c H locs cells slots Q (F0 m pc ls (.int 0 :: .int 0 :: .ref a :: .int 0 :: .ref a0 :: rest)) := by
  refine va_copyi E.x E.b (E.1.2.2.1.trans hl.1.symm) E.ow (E.w w1) (E.w w2) (E.w w3) (E.w w4) E.k B.1 B.2.1 B.2.2 q0 q1 1 1 ha0 ha1 rfl rfl rfl (by decide) (by decide) (by decide) (Nat.zero_le _) (Nat.zero_le _) (fun i hi => absurd hi (Nat.not_lt_zero i)) hframes hlocals hdg (fun H1 locs1 h1 h2 h3 => ?_)
  have e0 : va_cpy f g (0 : Int32).toNatClampNeg (0 : Int32).toNatClampNeg (0 : Int32).toNatClampNeg = g := z_cpy0 f g
  rw [e0] at h1 h2
  exact kk H1 locs1 ⟨h1, h2, h3⟩
end ZM
end
section
/-! the first prices: a row that nobody writes; it is cloned and copied -/
def zPr : Nat → Int32 := fun j => if j = 0 then 1 else if j = 1 then 1 else if j = 2 then 5 else 13
/-- the row of the first prices, as the heap has it -/
def zTp (G : zGT) (tp : Nat) (H : Heap) : Prop := ∃ cell : Cell, H[tp]? = some cell ∧ (∀ k, cell.vm ≠ .statics k) ∧ cell.vm ≠ .unknown ∧ cell.cls = G.2 1 ∧ cell.slots = (vp_cell (G.2 1) (4, .inl zPr)).slots
def zS (G : zGT) (tp : Nat) (A : Nat → Prop) (U : State) : Prop := va_Z RX11 "FIRST_PRICES" "[I" (.ref tp) A U U.heap ∧ zTp G tp U.heap ∧ ¬ A tp
theorem z_cpyP : va_cpy zPr zPr 0 0 4 = zPr := by
  funext k
  simp only [va_cpy]
  split
  · congr 1; omega
  · rfl
section ZS
variable {p : Program} {l : Launch} {e : Env} {R : Room} {s : State} {m : MethodId} {args : Array Value} {below : List Frame} {meth : Method} {c : Code} {H : Heap} {locs : List Loc} {cells slots : Nat} {Q : State → Prop}
variable {cc : ByteArray} {pc : Nat} {ls : Array Slot} {rest : List Value} {G : zGT} {A : Nat → Prop} {a b : Nat} {ws wc wr : va_W} {own C : String} {nL index maxL n mc ms tp : Nat} {y : MethodName} {bytes : ByteArray} {ret : Option FieldType} {rm : Room} {As st0 : List Value} {Qc : Array Value → State → Outcome → State → Prop} {free : Addr → Prop}
theorem z_arrI (E : zE p s m c args G own cc nL A) : s.vm.findClass "[I" = some (G.2 1) := (E.k.2 1 _ rfl).2
theorem z_castI (E : zE p s m c args G own cc nL A) (B : zB G A s.heap ws H locs) (q0 : Nat) {n : Nat} {f : Nat → Int32} (ha : ws[q0]? = some (zi G a n f)) (hl : Cond.classLink own index "[I" ∈ zT) (hdg : decode cc pc = .ok (.checkcast index, 3))
    (kk : W p l e R s m args below meth c H locs cells slots Q (F0 m (pc + 3) ls (.ref a :: rest))) : W p l e R s m args below meth c H locs cells slots Q (F0 m pc ls (.ref a :: rest)) :=
  va_castA E.x E.b E.ow (E.w hl) B.1 q0 ha (z_arrI E) hdg kk
theorem z_one {α : Type} {x y : α} {k : Nat} (h : [x][k]? = some y) : x = y := by
  cases k with
  | zero => exact Option.some.inj h
  | succ k => simp at h
theorem z_tpH (B : zB G A s.heap ws H locs) (hT : zTp G tp s.heap ∧ ¬ A tp) : zTp G tp H := by
  obtain ⟨⟨cell, h1, h2⟩, h3⟩ := hT
  refine ⟨cell, ?_, h2⟩
  rw [B.2.2.2.1 tp (Array.getElem?_eq_some_iff.mp h1).1 h3]
  exact h1
theorem z_prRead {G : zGT} {i : Nat} {v : Value} (h : (vp_cell (G.2 1) (4, .inl zPr)).slots[i]? = some v) : i < 4 ∧ v = .int (zPr i) := by
  have hv : (arrV (G.2 1) 4 (fun j => .int (zPr j))).slots[i]? = some v := h
  have hi : i < 4 := by
    have := (Array.getElem?_eq_some_iff.mp hv).1
    rw [arrV_size] at this
    exact this
  rw [arrV_read _ _ hi] at hv
  exact ⟨hi, (Option.some.inj hv).symm⟩
theorem z_prSize {G : zGT} : (vp_cell (G.2 1) (4, .inl zPr)).slots.size = 4 := arrV_size _ _ _
theorem z_prAt {G : zGT} {i : Nat} (h : i < 4) : (vp_cell (G.2 1) (4, .inl zPr)).slots[i]? = some (.int (zPr i)) := arrV_read (G.2 1) (fun j => .int (zPr j)) h
theorem z_clone (E : zE p s m c args G own cc nL A) (B : zB G A s.heap ws H locs) (hl : lv_has ls nL ([] : List (Nat × Value))) (hT : zTp G tp s.heap ∧ ¬ A tp) (w1 : Cond.methodLink own index ⟨"[I", "clone", "()Ljava/lang/Object;"⟩ ∈ zT) (w2 : Cond.sameMethod "[I" "java/lang/Object" "clone" "()Ljava/lang/Object;" ∈ zT) (w3 : Cond.native ⟨"java/lang/Object", "clone", "()Ljava/lang/Object;"⟩ ∈ zT) (w4 : Cond.instanceMethod ⟨"java/lang/Object", "clone", "()Ljava/lang/Object;"⟩ ∈ zT) (w5 : Cond.selects "[I" ⟨"[I", "clone", "()Ljava/lang/Object;"⟩ ⟨"java/lang/Object", "clone", "()Ljava/lang/Object;"⟩ ∈ zT)
    (hframes : 1 ≤ R.frames) (hlocals : (rest.map fun v => v.category).sum + 14 ≤ R.locals) (hcells : cells + 1 ≤ R.cells) (hslots : slots + 4 ≤ R.slots) (hdg : decode cc pc = .ok (.invokevirtual index, 3))
    (kk : ∀ (q : Nat) (H1 : Heap), zB G A s.heap (ws ++ [zi G q 4 zPr]) H1 locs → W p l e R s m args below meth c H1 locs (cells + 1) (slots + 4) Q (F0 m (pc + 3) ls (.ref q :: rest))) : W p l e R s m args below meth c H locs cells slots Q (F0 m pc ls (.ref tp :: rest)) := by
  obtain ⟨cell, g1, g2, g3, g4, g5⟩ := z_tpH B hT
  have gz : cell.slots.size = 4 := by rw [g5]; exact z_prSize
  obtain ⟨cI, cC, f1, f2, f3⟩ := Cond.castable_spec (va_Nw.use (A := args) rfl E.2.1.2.2.2.2.2.2.2.2.2)
  have f1 : cI = G.2 1 := Option.some.inj (f1.symm.trans (z_arrI E))
  subst f1
  intro T hTT X
  obtain ⟨-, kA, hkA, comp, hkind⟩ := State.isArrayOf_alike X.warmed.alike ((E.k.2 1 _ rfl).1 0 (fun _ => .null))
  obtain ⟨-, kS, hkS, compS, hkindS⟩ := (E.k.2 1 _ rfl).1 0 (fun _ => .null)
  obtain ⟨vm', X', st⟩ := X.cloneArray E.x E.ow (E.w w1) (E.w w2) (E.w w3) (E.w w4) (E.w w5) (a := tp) (cell := cell) (by rw [hTT]; exact g1) g2 g3 (by rw [g4]; exact z_arrI E) f2 (by rw [g4]; exact f3)
    (fun i v hv => by
      rw [g5] at hv
      obtain ⟨-, rfl⟩ := z_prRead hv
      rw [g4]
      have hk' : T.vm.classes[G.2 1]? = some kA := hkA
      simp [State.fitsSlot, State.slotType?, hk', hkind, fits])
    (g := F0 m pc ls (.ref tp :: rest)) rfl (by rw [hl.1, E.1.2.2.1]) rfl (by rw [E.b]; exact hdg) hframes (by show 2 * 0 + _ + 14 ≤ _; omega) hcells (by rw [gz]; exact hslots) (hloader := by rw [g4]; exact Vm.clonesLoader_of_array hkS hkindS)
  have hce : ({ cls := cell.cls, slots := cell.slots } : Cell) = vp_cell (G.2 1) (4, .inl zPr) := by rw [g4, g5]; rfl
  rw [hce, gz] at X'
  rw [hce] at st
  have z1 : (H.push (vp_cell (G.2 1) (4, .inl zPr))).size = H.size + 1 := Array.size_push ..
  have e1 : (H.push (vp_cell (G.2 1) (4, .inl zPr)))[H.size]? = some (vp_cell (G.2 1) (4, .inl zPr)) := Array.getElem?_push_size ..
  have o1 : ∀ q : Nat, q < H.size → (H.push (vp_cell (G.2 1) (4, .inl zPr)))[q]? = H[q]? := fun q hq => by rw [Array.getElem?_push, if_neg (Nat.ne_of_lt hq)]
  generalize hH1 : H.push (vp_cell (G.2 1) (4, .inl zPr)) = H1 at z1 e1 o1
  obtain ⟨t, b1, b2⟩ := kk H.size H1 ⟨(B.1.kept (fun k q hq => o1 q.1 ((B.1 k q hq).lt))).app (fun k q hk => by rw [← z_one hk]; exact e1), B.2.1.push B.1 rfl (E.2.2 _ B.2.2.1), Nat.le_trans B.2.2.1 (by omega), fun q h1 h2 => (o1 q (Nat.lt_of_lt_of_le h1 B.2.2.1)).trans (B.2.2.2.1 q h1 h2), B.2.2.2.2⟩ _ (by rw [← hH1, ← hTT]; rfl) X'
  refine ⟨t, st t ?_, b2⟩
  rw [hTT]
  exact b1
theorem z_copyt (E : zE p s m c args G own cc nL A) (B : zB G A s.heap ws H locs) (hl : lv_has ls nL ([] : List (Nat × Value))) (hT : zTp G tp s.heap ∧ ¬ A tp) (q1 : Nat) (ha1 : ws[q1]? = some (zi G a 4 zPr)) (w1 : Cond.methodLink own index arraycopyName ∈ zT) (w2 : Cond.native arraycopyName ∈ zT) (w3 : Cond.static arraycopyName ∈ zT) (w4 : Cond.initialized "java/lang/System" ∈ zT) (hframes : 1 ≤ R.frames) (hlocals : (rest.map fun v => v.category).sum + (nativeFrameWords "java/lang/System" "arraycopy" 5 + 11) ≤ R.locals) (hdg : decode cc pc = .ok (.invokestatic index, 3))
    (kk : ∀ (H1 : Heap) (locs1 : List Loc), zB G A s.heap (ws.set q1 (zi G a 4 zPr)) H1 locs1 → W p l e R s m args below meth c H1 locs1 cells slots Q (F0 m (pc + 3) ls rest)) : W p l e R s m args below meth c H locs cells slots Q (F0 m pc ls (.int 4 :: .int 0 :: .ref a :: .int 0 :: .ref tp :: rest)) := by
  obtain ⟨cell, g1, g2, g3, g4, g5⟩ := z_tpH B hT
  have gz : (cell.slots.size : Int) = 4 := by rw [g5, z_prSize]; rfl
  have hs5 : ∀ j : Nat, j < 4 → cell.slots[j]? = some (.int (zPr j)) := fun j hj => by rw [g5]; exact z_prAt hj
  have hc1 : H[a]? = some (vp_cell (G.2 1) (4, .inl zPr)) := B.1 q1 _ ha1
  have hsz : ((vp_cell (G.2 1) (4, .inl zPr)).slots.size : Int) = 4 := by rw [z_prSize]; rfl
  obtain ⟨-, k1, hk1, cm1, hkk1⟩ := (E.k.2 1 _ rfl).1 4 (fun j => .int (zPr j))
  have hk1' : s.vm.classes[G.2 1]? = some k1 := hk1
  intro T hTT X
  obtain ⟨vm', X', step⟩ := X.arraycopy E.x E.ow (E.w w1) (E.w w2) (E.w w3) (E.w w4) (src := tp) (dst := a) (cs := cell) (cd := vp_cell (G.2 1) (4, .inl zPr)) (srcPos := 0) (destPos := 0) (n := 4) (by rw [hTT]; exact g1) (by rw [hTT]; exact hc1)
    g2 (fun _ h => by cases h) g3 (fun h => by cases h) (by rw [g4]; exact hk1') hk1 hkk1 hkk1 (by simp [refKind]) (by decide) (by decide) (by decide) (by rw [gz]; decide) (by rw [hsz]; decide)
    (fun vm₁ _ i hi => by
      have hi : i < 4 := hi
      have e0 : cell.slots.getD ((0 : Int32).toNatClampNeg + i) .null = .int (zPr ((0 : Int32).toNatClampNeg + i)) := by
        rw [Array.getD_eq_getD_getElem?, hs5 _ (show (0 : Int32).toNatClampNeg + i < 4 from by show 0 + i < 4; omega)]
        rfl
      rw [e0]
      exact ⟨rfl, trivial⟩)
    (g := F0 m pc ls (.int 4 :: .int 0 :: .ref a :: .int 0 :: .ref tp :: rest)) rfl (by rw [hl.1, E.1.2.2.1]) (rest := rest) rfl (by rw [E.b]; exact hdg) hframes (by show 2 * 0 + _ + _ ≤ _; omega)
  have e1 : copied cell (vp_cell (G.2 1) (4, .inl zPr)) 0 0 4 = vp_cell (G.2 1) (4, .inl zPr) :=
    (va_copiedX (fun z => Value.int z) cell (G.2 1) (n0 := 4) (n1 := 4) (sp := 0) (dp := 0) (n := 4) zPr zPr hs5 (by omega)).trans (by rw [z_cpyP]; rfl)
  rw [e1] at X' step
  have hla : a < H.size := (Array.getElem?_eq_some_iff.mp hc1).1
  have oq : ∀ q : Nat, q ≠ a → (H.setIfInBounds a (vp_cell (G.2 1) (4, .inl zPr)))[q]? = H[q]? := fun q hq => by simp [Array.getElem?_setIfInBounds, Ne.symm hq]
  obtain ⟨t, a1, b1⟩ := kk (H.setIfInBounds a (vp_cell (G.2 1) (4, .inl zPr))) _ ⟨B.1.set B.2.1 ha1 (show (H.setIfInBounds a _)[a]? = some _ by simp [Array.getElem?_setIfInBounds, hla]) oq, B.2.1.set ha1, by simp; exact B.2.2.1, fun q g1 g2 => by
      rw [oq q (fun h => g2 (by rw [h]; exact B.2.1.2 q1 _ ha1))]
      exact B.2.2.2.1 q g1 g2, fun q hq => by
      rcases List.mem_append.mp hq with h | h
      · exact B.2.2.2.2 q h
      · obtain ⟨z, -, hz⟩ := List.mem_map.mp h
        rw [← hz]
        exact B.2.1.2 q1 _ ha1⟩ _ (by rw [← hTT]; rfl) X'
  exact ⟨t, step t a1, b1⟩
/-- a method that reads the first prices: its entry, and its call -/
theorem z_startS {sz : Nat} {av : List Value} {QA : (Nat → Prop) → Array Value → State → Outcome → State → Prop} (hy : plainName y.cls = true) (ha : (lg_sl av).length ≤ maxL ∧ True)
    (body : ∀ (p : Program) (e : Env) (s : State) (m : MethodId) (below : List Frame) (meth : Method) (c : Code) (A : Nat → Prop) (ls : Array Slot), zE p s m c av.toArray G y.cls bytes maxL A → zS G tp A s → zB G A s.heap ws s.heap [] → meth.sig.returnType = ret → meth.locks = false → meth.name = y.name → lv_has ls maxL (lv_args 0 av) →
      W p l e rm s m av.toArray below meth c s.heap [] 0 0 (MQ below (QA A) av.toArray s mc ms A) (F0 m 0 ls [])) :
    Met l y (.code y bytes maxL ret :: zT) rm (va_Pc av (fun U => zPc G ws sz U ∧ zS G tp (va_A ws sz) U)) (QA (va_A ws sz)) mc ms (va_A ws sz) := by
  refine Met.ofW (cc := bytes) (maxL := maxL) (ret := ret) hy rfl ?_
  intro p e s m args below meth c s₁ B hml hv
  obtain ⟨rfl, ⟨hsz, hP, hK, hD0⟩, hS⟩ := hv
  have hts := atoms_spec (ws := .code y bytes maxL ret :: zT) B.pre
  subst hsz
  have hD := hD0.self (sz := s.heap.size)
  have hl := lv_entry av (n := maxL) ha.1
  rw [lg_entry_eq]
  exact body p e s m below meth c (va_A ws s.heap.size) _ ⟨⟨B.exec, B.bytes, hml, findClass_of_methodNamed B.named, fun w h => hts w (List.mem_cons_of_mem _ h)⟩, hK, fun q h => Or.inr h⟩ hS ⟨hP, hD, va_S.rf⟩ B.returns B.notSynchronized (name_of_methodNamed B.named B.method).1 hl
theorem zPcS_blind {av : List Value} {sz : Nat} : FrameBlind (va_Pc av (fun U => zPc G ws sz U ∧ zS G tp (va_A ws sz) U)) := fun a U g mk q => by
  obtain ⟨q0, q1, q2, q3, q4⟩ := q
  obtain ⟨-, h1⟩ := zPc_blind (av := av) (G := G) (ws := ws) (sz := sz) a U g mk ⟨q0, q1⟩
  exact ⟨q0, h1, va_Z.moved (u := U) (U := U.calling g mk a) (Vm.Alike.refl U.vm) q2, q3, q4⟩
theorem z_preS (E : zE p s m c args G own cc nL A) (hS : zS G tp A s) (B : zB G A s.heap ws H locs) (isC : List Nat) (hC : isC.map (fun i => ws[i]?) = wc.map some) (hnC : va_nd isC = true) (av : List Value) : ∀ U : State, U.heap = H → s.WarmedH U.vm → va_Pc av (fun U => zPc G wc H.size U ∧ zS G tp (va_A wc H.size) U) av.toArray U := by
  intro U hU hW
  obtain ⟨h0, h1⟩ := z_pre E B isC hC hnC av U hU hW
  have hF := va_free (wc := wc) B.2.1 B.2.2 E.2.2 isC hC
  refine ⟨h0, h1, ?_, ?_, fun h => hS.2.2 (hF _ h)⟩
  · rw [hU]
    exact ((hS.1.kept B.2.2.2.1).moved hW.alike).narrow hF
  · rw [hU]
    exact z_tpH B hS.2
theorem z_runVS (E : zE p s m c args G own cc nL A) (hS : zS G tp A s) (B : zB G A s.heap ws H locs) (isC : List Nat) (hC : isC.map (fun i => ws[i]?) = wc.map some) (hnC : va_nd isC = true) (hy : zMV C y bytes maxL ret n) (hl : Cond.methodLink own index y ∈ zT) (k0 : Nat) {ci : Nat} {fs : List Value} {q : vw_C} (hcl : vwCl[ci]? = some q) (hq : q.1 = C) (he : wc[k0]? = some (b, .inr (ci, fs)))
    (hM : Met l y (.code y bytes maxL ret :: zT) rm (va_Pc (.ref b :: As) (fun U => zPc G wc H.size U ∧ zS G tp (va_A wc H.size) U)) Qc mc ms free) (hrc : rm.cells = mc) (hrs : rm.slots = ms) (hR : rm.frames + 1 ≤ R.frames ∧ 8 + (maxL + 11) + rm.locals ≤ R.locals) (hn : As.length = n) (hsz : ls.size = nL) (hst : st0 = As.reverse ++ .ref b :: rest) (hroom : (rest.map fun v => v.category).sum ≤ 8) (hdg : decode cc pc = .ok (.invokevirtual index, 3)) (hf : cells + mc ≤ R.cells ∧ slots + ms ≤ R.slots) :
    va_Run p l e R s m args below meth c H locs cells slots mc ms (F0 m pc ls st0) rest (Qc (Value.ref b :: As).toArray) free := by
  obtain ⟨w1, w2, w3, w4, w5⟩ := hy
  have hP := B.1.sub (ws' := wc) isC (z_fm hC)
  refine va_runV E.1 hM (cwV (C := C) n E.1.2.2.2.2 ?_ rfl hrc hrs w5 hR) ⟨zPcS_blind, ?_, z_preS E hS B isC hC hnC _⟩ rfl hn hsz hst (lv_room hroom) hdg hf
  · exact z_gc hl (z_gc w1 (z_gc w2 (z_gc w3 (z_gc w4 z_goodT))))
  · have h := va_recv E.k hP hcl he
    rw [hq] at h
    exact h
theorem z_runIS (E : zE p s m c args G own cc nL A) (hS : zS G tp A s) (B : zB G A s.heap ws H locs) (isC : List Nat) (hC : isC.map (fun i => ws[i]?) = wc.map some) (hnC : va_nd isC = true) (hy : zMI y bytes maxL n) (hl : Cond.methodLink own index y ∈ zT)
    (hM : Met l y (.code y bytes maxL none :: zT) rm (va_Pc (.ref b :: As) (fun U => zPc G wc H.size U ∧ zS G tp (va_A wc H.size) U)) Qc mc ms free) (hrc : rm.cells = mc) (hrs : rm.slots = ms) (hR : rm.frames + 1 ≤ R.frames ∧ 8 + (maxL + 11) + rm.locals ≤ R.locals) (hn : As.length = n) (hsz : ls.size = nL) (hst : st0 = As.reverse ++ .ref b :: rest) (hroom : (rest.map fun v => v.category).sum ≤ 8) (hdg : decode cc pc = .ok (.invokespecial index, 3)) (hf : cells + mc ≤ R.cells ∧ slots + ms ≤ R.slots) :
    va_Run p l e R s m args below meth c H locs cells slots mc ms (F0 m pc ls st0) rest (Qc (Value.ref b :: As).toArray) free := by
  obtain ⟨w1, w3, w4, w6, w5⟩ := hy
  refine va_runI E.1 hM (cwI n E.1.2.2.2.2 (z_gc w4 z_goodT) rfl hrc hrs (E.w w3) (E.w hl) (E.w w1) w6 w5 hR) ⟨zPcS_blind, z_preS E hS B isC hC hnC _⟩ rfl hn hsz hst (lv_room hroom) hdg hf
end ZS
end
