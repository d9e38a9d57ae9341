section
-- ===== PART A: goes FIRST, ahead of the names: the tables' words, and 'selects' of the private methods out of them =====
/-- a private method of a class that the tables say can be made, by its rows of tables_1 -/
def lw_okq (q : MethodName × Nat) : Prop := (q.1.cls ≠ "java/lang/invoke/MethodHandle" ∧ q.1.cls ≠ "java/lang/invoke/VarHandle") ∧ Cond.instantiable q.1.cls q.2 ∈ tables_1 ∧ Cond.privateMethod q.1 ∈ tables_1 ∧ Cond.instanceMethod q.1 ∈ tables_1
theorem lw_p0 : lw_okq (⟨"ThinExtents", "writeHead", "()V"⟩, 13) := ⟨⟨by decide +kernel, by decide +kernel⟩, List.mem_of_getElem? (i := 16) (by decide +kernel), List.mem_of_getElem? (i := 195) (by decide +kernel), List.mem_of_getElem? (i := 196) (by decide +kernel)⟩
theorem lw_p1 : lw_okq (⟨"ThinExtents", "serveQueue", "()V"⟩, 13) := ⟨⟨by decide +kernel, by decide +kernel⟩, List.mem_of_getElem? (i := 16) (by decide +kernel), List.mem_of_getElem? (i := 211) (by decide +kernel), List.mem_of_getElem? (i := 212) (by decide +kernel)⟩
theorem lw_p2 : lw_okq (⟨"ThinExtents", "serveFirst", "()Z"⟩, 13) := ⟨⟨by decide +kernel, by decide +kernel⟩, List.mem_of_getElem? (i := 16) (by decide +kernel), List.mem_of_getElem? (i := 215) (by decide +kernel), List.mem_of_getElem? (i := 216) (by decide +kernel)⟩
theorem lw_p3 : lw_okq (⟨"ThinExtents", "isOver", "(LThinExtents$Volume;I)Z"⟩, 13) := ⟨⟨by decide +kernel, by decide +kernel⟩, List.mem_of_getElem? (i := 16) (by decide +kernel), List.mem_of_getElem? (i := 235) (by decide +kernel), List.mem_of_getElem? (i := 236) (by decide +kernel)⟩
theorem lw_p4 : lw_okq (⟨"ThinExtents", "needsExtent", "(LThinExtents$Volume;I)Z"⟩, 13) := ⟨⟨by decide +kernel, by decide +kernel⟩, List.mem_of_getElem? (i := 16) (by decide +kernel), List.mem_of_getElem? (i := 243) (by decide +kernel), List.mem_of_getElem? (i := 244) (by decide +kernel)⟩
theorem lw_p5 : lw_okq (⟨"ThinExtents", "perform", "(LThinExtents$Volume;II)I"⟩, 13) := ⟨⟨by decide +kernel, by decide +kernel⟩, List.mem_of_getElem? (i := 16) (by decide +kernel), List.mem_of_getElem? (i := 267) (by decide +kernel), List.mem_of_getElem? (i := 268) (by decide +kernel)⟩
theorem lw_p6 : lw_okq (⟨"ThinExtents", "wordOf", "(LThinExtents$Volume;I)I"⟩, 13) := ⟨⟨by decide +kernel, by decide +kernel⟩, List.mem_of_getElem? (i := 16) (by decide +kernel), List.mem_of_getElem? (i := 279) (by decide +kernel), List.mem_of_getElem? (i := 280) (by decide +kernel)⟩
theorem lw_p7 : lw_okq (⟨"ThinExtents$Queue", "put", "(IIII)V"⟩, 4) := ⟨⟨by decide +kernel, by decide +kernel⟩, List.mem_of_getElem? (i := 127) (by decide +kernel), List.mem_of_getElem? (i := 303) (by decide +kernel), List.mem_of_getElem? (i := 304) (by decide +kernel)⟩
theorem lw_p8 : lw_okq (⟨"ThinExtents", "numbered", "(I)LThinExtents$Volume;"⟩, 13) := ⟨⟨by decide +kernel, by decide +kernel⟩, List.mem_of_getElem? (i := 16) (by decide +kernel), List.mem_of_getElem? (i := 330) (by decide +kernel), List.mem_of_getElem? (i := 331) (by decide +kernel)⟩
theorem lw_p9 : lw_okq (⟨"java/lang/Throwable", "fillInStackTrace", "(I)Ljava/lang/Throwable;"⟩, 6) := ⟨⟨by decide +kernel, by decide +kernel⟩, List.mem_of_getElem? (i := 373) (by decide +kernel), List.mem_of_getElem? (i := 371) (by decide +kernel), List.mem_of_getElem? (i := 372) (by decide +kernel)⟩
theorem lw_p10 : lw_okq (⟨"ThinExtents", "requireSize", "(I)V"⟩, 13) := ⟨⟨by decide +kernel, by decide +kernel⟩, List.mem_of_getElem? (i := 16) (by decide +kernel), List.mem_of_getElem? (i := 403) (by decide +kernel), List.mem_of_getElem? (i := 404) (by decide +kernel)⟩
theorem lw_p11 : lw_okq (⟨"ThinExtents", "existing", "(I)LThinExtents$Volume;"⟩, 13) := ⟨⟨by decide +kernel, by decide +kernel⟩, List.mem_of_getElem? (i := 16) (by decide +kernel), List.mem_of_getElem? (i := 450) (by decide +kernel), List.mem_of_getElem? (i := 451) (by decide +kernel)⟩
theorem lw_p12 : lw_okq (⟨"ThinExtents", "requireNoneWaits", "(III)V"⟩, 13) := ⟨⟨by decide +kernel, by decide +kernel⟩, List.mem_of_getElem? (i := 16) (by decide +kernel), List.mem_of_getElem? (i := 482) (by decide +kernel), List.mem_of_getElem? (i := 483) (by decide +kernel)⟩
theorem lw_p13 : lw_okq (⟨"ThinExtents", "requireWord", "(LThinExtents$Volume;I)V"⟩, 13) := ⟨⟨by decide +kernel, by decide +kernel⟩, List.mem_of_getElem? (i := 16) (by decide +kernel), List.mem_of_getElem? (i := 498) (by decide +kernel), List.mem_of_getElem? (i := 499) (by decide +kernel)⟩
theorem lw_p14 : lw_okq (⟨"ThinExtents", "enqueue", "(III)I"⟩, 13) := ⟨⟨by decide +kernel, by decide +kernel⟩, List.mem_of_getElem? (i := 16) (by decide +kernel), List.mem_of_getElem? (i := 503) (by decide +kernel), List.mem_of_getElem? (i := 504) (by decide +kernel)⟩
theorem lw_p15 : lw_okq (⟨"ThinExtents", "writeNeeding", "(LThinExtents$Volume;III)I"⟩, 13) := ⟨⟨by decide +kernel, by decide +kernel⟩, List.mem_of_getElem? (i := 16) (by decide +kernel), List.mem_of_getElem? (i := 511) (by decide +kernel), List.mem_of_getElem? (i := 512) (by decide +kernel)⟩
def lw_privs_1 : List (MethodName × Nat) := [(⟨"ThinExtents", "writeHead", "()V"⟩, 13), (⟨"ThinExtents", "serveQueue", "()V"⟩, 13), (⟨"ThinExtents", "serveFirst", "()Z"⟩, 13), (⟨"ThinExtents", "isOver", "(LThinExtents$Volume;I)Z"⟩, 13), (⟨"ThinExtents", "needsExtent", "(LThinExtents$Volume;I)Z"⟩, 13), (⟨"ThinExtents", "perform", "(LThinExtents$Volume;II)I"⟩, 13), (⟨"ThinExtents", "wordOf", "(LThinExtents$Volume;I)I"⟩, 13), (⟨"ThinExtents$Queue", "put", "(IIII)V"⟩, 4), (⟨"ThinExtents", "numbered", "(I)LThinExtents$Volume;"⟩, 13), (⟨"java/lang/Throwable", "fillInStackTrace", "(I)Ljava/lang/Throwable;"⟩, 6), (⟨"ThinExtents", "requireSize", "(I)V"⟩, 13), (⟨"ThinExtents", "existing", "(I)LThinExtents$Volume;"⟩, 13), (⟨"ThinExtents", "requireNoneWaits", "(III)V"⟩, 13), (⟨"ThinExtents", "requireWord", "(LThinExtents$Volume;I)V"⟩, 13), (⟨"ThinExtents", "enqueue", "(III)I"⟩, 13), (⟨"ThinExtents", "writeNeeding", "(LThinExtents$Volume;III)I"⟩, 13)]
theorem lw_r1 : ∀ q ∈ lw_privs_1, lw_okq q := List.forall_mem_cons.mpr ⟨lw_p0, List.forall_mem_cons.mpr ⟨lw_p1, List.forall_mem_cons.mpr ⟨lw_p2, List.forall_mem_cons.mpr ⟨lw_p3, List.forall_mem_cons.mpr ⟨lw_p4, List.forall_mem_cons.mpr ⟨lw_p5, List.forall_mem_cons.mpr ⟨lw_p6, List.forall_mem_cons.mpr ⟨lw_p7, List.forall_mem_cons.mpr ⟨lw_p8, List.forall_mem_cons.mpr ⟨lw_p9, List.forall_mem_cons.mpr ⟨lw_p10, List.forall_mem_cons.mpr ⟨lw_p11, List.forall_mem_cons.mpr ⟨lw_p12, List.forall_mem_cons.mpr ⟨lw_p13, List.forall_mem_cons.mpr ⟨lw_p14, List.forall_mem_cons.mpr ⟨lw_p15, fun _ h => absurd h List.not_mem_nil⟩⟩⟩⟩⟩⟩⟩⟩⟩⟩⟩⟩⟩⟩⟩⟩
theorem lw_p16 : lw_okq (⟨"ThinExtents", "requireNotNegative", "(I)V"⟩, 13) := ⟨⟨by decide +kernel, by decide +kernel⟩, List.mem_of_getElem? (i := 16) (by decide +kernel), List.mem_of_getElem? (i := 537) (by decide +kernel), List.mem_of_getElem? (i := 538) (by decide +kernel)⟩
theorem lw_p17 : lw_okq (⟨"ThinExtents", "stateOf", "(I)LThinExtents$State;"⟩, 13) := ⟨⟨by decide +kernel, by decide +kernel⟩, List.mem_of_getElem? (i := 16) (by decide +kernel), List.mem_of_getElem? (i := 581) (by decide +kernel), List.mem_of_getElem? (i := 582) (by decide +kernel)⟩
theorem lw_p18 : lw_okq (⟨"ThinExtents", "countShared", "(LThinExtents$Volume;)I"⟩, 13) := ⟨⟨by decide +kernel, by decide +kernel⟩, List.mem_of_getElem? (i := 16) (by decide +kernel), List.mem_of_getElem? (i := 649) (by decide +kernel), List.mem_of_getElem? (i := 650) (by decide +kernel)⟩
theorem lw_p19 : lw_okq (⟨"ThinExtents", "countRuns", "(LThinExtents$Volume;LThinExtents$Volume;)I"⟩, 13) := ⟨⟨by decide +kernel, by decide +kernel⟩, List.mem_of_getElem? (i := 16) (by decide +kernel), List.mem_of_getElem? (i := 665) (by decide +kernel), List.mem_of_getElem? (i := 666) (by decide +kernel)⟩
theorem lw_p20 : lw_okq (⟨"ThinExtents", "sortOf", "(LThinExtents$Volume;LThinExtents$Volume;I)I"⟩, 13) := ⟨⟨by decide +kernel, by decide +kernel⟩, List.mem_of_getElem? (i := 16) (by decide +kernel), List.mem_of_getElem? (i := 669) (by decide +kernel), List.mem_of_getElem? (i := 670) (by decide +kernel)⟩
theorem lw_p21 : lw_okq (⟨"ThinExtents", "countSort", "(LThinExtents$Volume;LThinExtents$Volume;I)I"⟩, 13) := ⟨⟨by decide +kernel, by decide +kernel⟩, List.mem_of_getElem? (i := 16) (by decide +kernel), List.mem_of_getElem? (i := 673) (by decide +kernel), List.mem_of_getElem? (i := 674) (by decide +kernel)⟩
theorem lw_p22 : lw_okq (⟨"ThinExtents", "requireExtent", "(I)V"⟩, 13) := ⟨⟨by decide +kernel, by decide +kernel⟩, List.mem_of_getElem? (i := 16) (by decide +kernel), List.mem_of_getElem? (i := 684) (by decide +kernel), List.mem_of_getElem? (i := 685) (by decide +kernel)⟩
theorem lw_p23 : lw_okq (⟨"ThinExtentsModel", "isVolume", "(I)Z"⟩, 27) := ⟨⟨by decide +kernel, by decide +kernel⟩, List.mem_of_getElem? (i := 708) (by decide +kernel), List.mem_of_getElem? (i := 805) (by decide +kernel), List.mem_of_getElem? (i := 806) (by decide +kernel)⟩
theorem lw_p24 : lw_okq (⟨"ThinExtentsModel", "waits", "(II)Z"⟩, 27) := ⟨⟨by decide +kernel, by decide +kernel⟩, List.mem_of_getElem? (i := 708) (by decide +kernel), List.mem_of_getElem? (i := 812) (by decide +kernel), List.mem_of_getElem? (i := 813) (by decide +kernel)⟩
theorem lw_p25 : lw_okq (⟨"ThinExtentsModel", "enqueue", "(III)I"⟩, 27) := ⟨⟨by decide +kernel, by decide +kernel⟩, List.mem_of_getElem? (i := 708) (by decide +kernel), List.mem_of_getElem? (i := 816) (by decide +kernel), List.mem_of_getElem? (i := 817) (by decide +kernel)⟩
theorem lw_p26 : lw_okq (⟨"ThinExtentsModel", "isOver", "(II)Z"⟩, 27) := ⟨⟨by decide +kernel, by decide +kernel⟩, List.mem_of_getElem? (i := 708) (by decide +kernel), List.mem_of_getElem? (i := 820) (by decide +kernel), List.mem_of_getElem? (i := 821) (by decide +kernel)⟩
theorem lw_p27 : lw_okq (⟨"ThinExtentsModel", "mapped", "(I)I"⟩, 27) := ⟨⟨by decide +kernel, by decide +kernel⟩, List.mem_of_getElem? (i := 708) (by decide +kernel), List.mem_of_getElem? (i := 827) (by decide +kernel), List.mem_of_getElem? (i := 828) (by decide +kernel)⟩
theorem lw_p28 : lw_okq (⟨"ThinExtentsModel", "needs", "(II)Z"⟩, 27) := ⟨⟨by decide +kernel, by decide +kernel⟩, List.mem_of_getElem? (i := 708) (by decide +kernel), List.mem_of_getElem? (i := 831) (by decide +kernel), List.mem_of_getElem? (i := 832) (by decide +kernel)⟩
theorem lw_p29 : lw_okq (⟨"ThinExtentsModel", "isSole", "(I)Z"⟩, 27) := ⟨⟨by decide +kernel, by decide +kernel⟩, List.mem_of_getElem? (i := 708) (by decide +kernel), List.mem_of_getElem? (i := 835) (by decide +kernel), List.mem_of_getElem? (i := 836) (by decide +kernel)⟩
theorem lw_p30 : lw_okq (⟨"ThinExtentsModel", "usersOf", "(II)I"⟩, 27) := ⟨⟨by decide +kernel, by decide +kernel⟩, List.mem_of_getElem? (i := 708) (by decide +kernel), List.mem_of_getElem? (i := 839) (by decide +kernel), List.mem_of_getElem? (i := 840) (by decide +kernel)⟩
theorem lw_p31 : lw_okq (⟨"ThinExtentsModel", "perform", "(III)I"⟩, 27) := ⟨⟨by decide +kernel, by decide +kernel⟩, List.mem_of_getElem? (i := 708) (by decide +kernel), List.mem_of_getElem? (i := 843) (by decide +kernel), List.mem_of_getElem? (i := 844) (by decide +kernel)⟩
def lw_privs_2 : List (MethodName × Nat) := [(⟨"ThinExtents", "requireNotNegative", "(I)V"⟩, 13), (⟨"ThinExtents", "stateOf", "(I)LThinExtents$State;"⟩, 13), (⟨"ThinExtents", "countShared", "(LThinExtents$Volume;)I"⟩, 13), (⟨"ThinExtents", "countRuns", "(LThinExtents$Volume;LThinExtents$Volume;)I"⟩, 13), (⟨"ThinExtents", "sortOf", "(LThinExtents$Volume;LThinExtents$Volume;I)I"⟩, 13), (⟨"ThinExtents", "countSort", "(LThinExtents$Volume;LThinExtents$Volume;I)I"⟩, 13), (⟨"ThinExtents", "requireExtent", "(I)V"⟩, 13), (⟨"ThinExtentsModel", "isVolume", "(I)Z"⟩, 27), (⟨"ThinExtentsModel", "waits", "(II)Z"⟩, 27), (⟨"ThinExtentsModel", "enqueue", "(III)I"⟩, 27), (⟨"ThinExtentsModel", "isOver", "(II)Z"⟩, 27), (⟨"ThinExtentsModel", "mapped", "(I)I"⟩, 27), (⟨"ThinExtentsModel", "needs", "(II)Z"⟩, 27), (⟨"ThinExtentsModel", "isSole", "(I)Z"⟩, 27), (⟨"ThinExtentsModel", "usersOf", "(II)I"⟩, 27), (⟨"ThinExtentsModel", "perform", "(III)I"⟩, 27)]
theorem lw_r2 : ∀ q ∈ lw_privs_2, lw_okq q := List.forall_mem_cons.mpr ⟨lw_p16, List.forall_mem_cons.mpr ⟨lw_p17, List.forall_mem_cons.mpr ⟨lw_p18, List.forall_mem_cons.mpr ⟨lw_p19, List.forall_mem_cons.mpr ⟨lw_p20, List.forall_mem_cons.mpr ⟨lw_p21, List.forall_mem_cons.mpr ⟨lw_p22, List.forall_mem_cons.mpr ⟨lw_p23, List.forall_mem_cons.mpr ⟨lw_p24, List.forall_mem_cons.mpr ⟨lw_p25, List.forall_mem_cons.mpr ⟨lw_p26, List.forall_mem_cons.mpr ⟨lw_p27, List.forall_mem_cons.mpr ⟨lw_p28, List.forall_mem_cons.mpr ⟨lw_p29, List.forall_mem_cons.mpr ⟨lw_p30, List.forall_mem_cons.mpr ⟨lw_p31, fun _ h => absurd h List.not_mem_nil⟩⟩⟩⟩⟩⟩⟩⟩⟩⟩⟩⟩⟩⟩⟩⟩
theorem lw_p32 : lw_okq (⟨"ThinExtentsModel", "take", "(II)V"⟩, 27) := ⟨⟨by decide +kernel, by decide +kernel⟩, List.mem_of_getElem? (i := 708) (by decide +kernel), List.mem_of_getElem? (i := 847) (by decide +kernel), List.mem_of_getElem? (i := 848) (by decide +kernel)⟩
theorem lw_p33 : lw_okq (⟨"ThinExtentsModel", "isFree", "(I)Z"⟩, 27) := ⟨⟨by decide +kernel, by decide +kernel⟩, List.mem_of_getElem? (i := 708) (by decide +kernel), List.mem_of_getElem? (i := 851) (by decide +kernel), List.mem_of_getElem? (i := 852) (by decide +kernel)⟩
theorem lw_p34 : lw_okq (⟨"ThinExtentsModel", "wordOf", "(II)I"⟩, 27) := ⟨⟨by decide +kernel, by decide +kernel⟩, List.mem_of_getElem? (i := 708) (by decide +kernel), List.mem_of_getElem? (i := 855) (by decide +kernel), List.mem_of_getElem? (i := 856) (by decide +kernel)⟩
theorem lw_p35 : lw_okq (⟨"ThinExtentsModel", "freeMany", "()I"⟩, 27) := ⟨⟨by decide +kernel, by decide +kernel⟩, List.mem_of_getElem? (i := 708) (by decide +kernel), List.mem_of_getElem? (i := 859) (by decide +kernel), List.mem_of_getElem? (i := 860) (by decide +kernel)⟩
theorem lw_p36 : lw_okq (⟨"ThinExtentsModel", "volumes", "(I)I"⟩, 27) := ⟨⟨by decide +kernel, by decide +kernel⟩, List.mem_of_getElem? (i := 708) (by decide +kernel), List.mem_of_getElem? (i := 874) (by decide +kernel), List.mem_of_getElem? (i := 875) (by decide +kernel)⟩
theorem lw_p37 : lw_okq (⟨"ThinExtentsModel", "copyVolume", "(IIII)V"⟩, 27) := ⟨⟨by decide +kernel, by decide +kernel⟩, List.mem_of_getElem? (i := 708) (by decide +kernel), List.mem_of_getElem? (i := 882) (by decide +kernel), List.mem_of_getElem? (i := 883) (by decide +kernel)⟩
theorem lw_p38 : lw_okq (⟨"ThinExtentsModel", "unqueue", "(I)V"⟩, 27) := ⟨⟨by decide +kernel, by decide +kernel⟩, List.mem_of_getElem? (i := 708) (by decide +kernel), List.mem_of_getElem? (i := 890) (by decide +kernel), List.mem_of_getElem? (i := 891) (by decide +kernel)⟩
theorem lw_p39 : lw_okq (⟨"ThinExtentsModel", "drain", "()V"⟩, 27) := ⟨⟨by decide +kernel, by decide +kernel⟩, List.mem_of_getElem? (i := 708) (by decide +kernel), List.mem_of_getElem? (i := 894) (by decide +kernel), List.mem_of_getElem? (i := 895) (by decide +kernel)⟩
theorem lw_p40 : lw_okq (⟨"ThinExtentsModel", "waitsIn", "(III)Z"⟩, 27) := ⟨⟨by decide +kernel, by decide +kernel⟩, List.mem_of_getElem? (i := 708) (by decide +kernel), List.mem_of_getElem? (i := 902) (by decide +kernel), List.mem_of_getElem? (i := 903) (by decide +kernel)⟩
theorem lw_p41 : lw_okq (⟨"ThinExtentsModel", "unmap", "(III)I"⟩, 27) := ⟨⟨by decide +kernel, by decide +kernel⟩, List.mem_of_getElem? (i := 708) (by decide +kernel), List.mem_of_getElem? (i := 906) (by decide +kernel), List.mem_of_getElem? (i := 907) (by decide +kernel)⟩
theorem lw_p42 : lw_okq (⟨"ThinExtentsModel", "copy", "(II)V"⟩, 27) := ⟨⟨by decide +kernel, by decide +kernel⟩, List.mem_of_getElem? (i := 708) (by decide +kernel), List.mem_of_getElem? (i := 942) (by decide +kernel), List.mem_of_getElem? (i := 943) (by decide +kernel)⟩
theorem lw_p43 : lw_okq (⟨"ThinExtentsModel", "clearState", "(I)V"⟩, 27) := ⟨⟨by decide +kernel, by decide +kernel⟩, List.mem_of_getElem? (i := 708) (by decide +kernel), List.mem_of_getElem? (i := 958) (by decide +kernel), List.mem_of_getElem? (i := 959) (by decide +kernel)⟩
theorem lw_p44 : lw_okq (⟨"ThinExtentsModel", "sortAt", "(III)I"⟩, 27) := ⟨⟨by decide +kernel, by decide +kernel⟩, List.mem_of_getElem? (i := 708) (by decide +kernel), List.mem_of_getElem? (i := 986) (by decide +kernel), List.mem_of_getElem? (i := 987) (by decide +kernel)⟩
def lw_privs_3 : List (MethodName × Nat) := [(⟨"ThinExtentsModel", "take", "(II)V"⟩, 27), (⟨"ThinExtentsModel", "isFree", "(I)Z"⟩, 27), (⟨"ThinExtentsModel", "wordOf", "(II)I"⟩, 27), (⟨"ThinExtentsModel", "freeMany", "()I"⟩, 27), (⟨"ThinExtentsModel", "volumes", "(I)I"⟩, 27), (⟨"ThinExtentsModel", "copyVolume", "(IIII)V"⟩, 27), (⟨"ThinExtentsModel", "unqueue", "(I)V"⟩, 27), (⟨"ThinExtentsModel", "drain", "()V"⟩, 27), (⟨"ThinExtentsModel", "waitsIn", "(III)Z"⟩, 27), (⟨"ThinExtentsModel", "unmap", "(III)I"⟩, 27), (⟨"ThinExtentsModel", "copy", "(II)V"⟩, 27), (⟨"ThinExtentsModel", "clearState", "(I)V"⟩, 27), (⟨"ThinExtentsModel", "sortAt", "(III)I"⟩, 27)]
theorem lw_r3 : ∀ q ∈ lw_privs_3, lw_okq q := List.forall_mem_cons.mpr ⟨lw_p32, List.forall_mem_cons.mpr ⟨lw_p33, List.forall_mem_cons.mpr ⟨lw_p34, List.forall_mem_cons.mpr ⟨lw_p35, List.forall_mem_cons.mpr ⟨lw_p36, List.forall_mem_cons.mpr ⟨lw_p37, List.forall_mem_cons.mpr ⟨lw_p38, List.forall_mem_cons.mpr ⟨lw_p39, List.forall_mem_cons.mpr ⟨lw_p40, List.forall_mem_cons.mpr ⟨lw_p41, List.forall_mem_cons.mpr ⟨lw_p42, List.forall_mem_cons.mpr ⟨lw_p43, List.forall_mem_cons.mpr ⟨lw_p44, fun _ h => absurd h List.not_mem_nil⟩⟩⟩⟩⟩⟩⟩⟩⟩⟩⟩⟩⟩
def lw_privs : List (MethodName × Nat) := lw_privs_1 ++ (lw_privs_2 ++ (lw_privs_3))
def lw_tbl : List Cond := k2_sels lw_privs ++ tables_1
theorem lw_privs_ok : ∀ q ∈ lw_privs, lw_okq q := by
  show ∀ q ∈ lw_privs_1 ++ (lw_privs_2 ++ (lw_privs_3)), lw_okq q
  exact List.forall_mem_append.mpr ⟨lw_r1, List.forall_mem_append.mpr ⟨lw_r2, lw_r3⟩⟩

/-! ===== BEGIN words of one list among another's, by their places ===== -/
theorem goodIn_r {big : List Cond} (ws : List Cond) (ps : List Nat) (hp : ws = ps.filterMap (fun i => big[i]?)) (h : ws.all goodWord = true) : GoodIn big ws := by
  intro w hw
  have h1 := List.all_eq_true.mp h w hw
  rw [hp] at hw
  obtain ⟨i, -, hi⟩ := List.mem_filterMap.mp hw
  have hm : w ∈ big := by first | exact List.mem_of_getElem? hi | exact List.getElem?_mem hi
  exact ⟨hm, good_of_word h1⟩
theorem goodIn_app {big a b : List Cond} (ha : GoodIn big a) (hb : GoodIn big b) : GoodIn big (a ++ b) := fun w h => (List.mem_append.mp h).elim (ha w) (hb w)
theorem goodIn_ca {big a b : List Cond} {c : Cond} (ha : GoodIn big (c :: a)) (hb : GoodIn big b) : GoodIn big (c :: (a ++ b)) := fun w h => (List.mem_cons.mp h).elim (fun e => ha w (List.mem_cons.mpr (Or.inl e))) (fun h => (List.mem_append.mp h).elim (fun h => ha w (List.mem_cons.mpr (Or.inr h))) (hb w))
theorem goodIn_sub {big ws : List Cond} (hm : ∀ w ∈ ws, w ∈ big) (h : ws.all goodWord = true) : GoodIn big ws := fun w hw => ⟨hm w hw, good_of_word (List.all_eq_true.mp h w hw)⟩
/-! ===== END ===== -/

/-! ===== BEGIN exceptions that leave a method, and their catching by the caller (launches without stack traces) ===== -/
section VXA
/-! The laws vx_back, vx_callV, vx_callS, vx_callSW, vx_throw0, vx_throwS follow proofs of the library, with one case more: JvmDerived/Free/Laws.lean (Back.of_free), Shelf42/LK1.lean (callV, callS), Shelf/KitTraced.lean (throwNew0V, throwNewS). -/
/-- where a method has thrown q: the class by its name, the cell, what was written, the world -/
def vx_T (XC : String → State → State → Prop) (st : State) (q : Addr) (t : State) (mc ms : Nat) (free : Addr → Prop) : Prop :=
  ∃ (E : String) (ce : Cell) (L : List Loc), XC E st t ∧ t.heap[q]? = some ce ∧ ce.vm = .none ∧ st.vm.findClass E = some ce.cls ∧ st.WarmedH t.vm ∧ st.sameButNew ({ t with vm := st.vm } : State) L mc ms ∧ ∀ z ∈ L, free z.base
def vx_Q (Qc : Array Value → State → Outcome → State → Prop) (XC : String → State → State → Prop) (mc ms : Nat) (free : Addr → Prop) : Array Value → State → Outcome → State → Prop := fun a st o t =>
  (Qc a st o t ∧ ∃ L, FrameEnd st o t L mc ms ∧ ∀ q ∈ L, free q.base) ∨ ∃ q, o = .threw q ∧ vx_T XC st q t mc ms free
/-- a callee that returns or throws -/
def vx_Met (l : Launch) (y : MethodName) (ws : List Cond) (rm : Room) (Pc : Array Value → State → Prop) (Qc : Array Value → State → Outcome → State → Prop) (XC : String → State → State → Prop) (mc ms : Nat) (free : Addr → Prop) : Prop :=
  MetFree l y (headSpec ws rm) Pc (fun _ _ _ _ _ => True) (vx_Q Qc XC mc ms free)
def vx_Post (XC : String → State → State → Prop) (mc ms : Nat) (free : Addr → Prop) : Pt → Array Value → Addr → Pt → Prop := fun A a q B =>
  ∃ (g : JFrame) (mk : MethodId) (t : State) (L : List Loc) (E : String) (ce : Cell), B.U.heap = t.heap ∧ B.U.vm = t.vm ∧ XC E (A.U.calling g mk a) t ∧ t.heap[q]? = some ce ∧ ce.vm = .none ∧ A.U.vm.findClass E = some ce.cls ∧ B.locs = A.locs ++ L ∧ (∀ z ∈ L, free z.base) ∧ B.cells = A.cells + mc ∧ B.slots = A.slots + ms
def vx_Back (l : Launch) (R : Room) (p : Program) (e : Env) (below : List Frame) (s : State) (sargs : Array Value) (y : MethodName) (len W9 : Nat)
    (Pre : Pt → Array Value → Prop) (Post : Pt → Array Value → Option Value → Pt → Prop) (PostX : Pt → Array Value → Addr → Pt → Prop) : Prop :=
  ∀ (m : MethodId) (meth : Method) (c : Code) (A : Pt) (g : JFrame) (ig : Instr) (mk : MethodId) (a : Array Value),
    Stand p l e R s m sargs below meth c A.U A.locs A.cells A.slots → g.method = m → g.locals.size = c.maxLocals → decode c.code g.pc = .ok (ig, len) →
    2 * g.monitorRoom + (g.stack.map fun v => v.category).sum ≤ W9 → A.U.methodNamed? y = some mk → Pre A a →
    (∃ (v : Option Value) (B : Pt), Stand p l e R s m sargs below meth c B.U B.locs B.cells B.slots ∧ Post A a v B ∧
      Steps p.tables e below (doInvoke e (A.U.setTop g) [] mk a).1 (B.U.setTop { g with pc := g.pc + len, stack := v.toList ++ g.stack })) ∨
    (∃ (q : Addr) (B : Pt), Stand p l e R s m sargs below meth c B.U B.locs B.cells B.slots ∧ PostX A a q B ∧
      Steps p.tables e below (doInvoke e (A.U.setTop g) [] mk a).1 ((B.U.setTop g).pushFrame (.throwing q)))
section Payer
variable {l : Launch} {R : Room} {p : Program} {e : Env} {below : List Frame} {s : State} {sargs : Array Value} {y : MethodName} {len W9 : Nat}
theorem vx_back {ws : List Cond} {rm : Room} {Pc : Array Value → State → Prop} {Qc : Array Value → State → Outcome → State → Prop} {XC : String → State → State → Prop} {mc ms : Nat} {free : Addr → Prop} {bytes : ByteArray} {maxL : Nat} {ret : Option FieldType}
    (hM : vx_Met l y ws rm Pc Qc XC mc ms free) (hblind : FrameBlind Pc) (hrc : rm.cells = mc) (hrs : rm.slots = ms)
    (hframes : rm.frames + 1 ≤ R.frames) (hlocals : W9 + (maxL + 11) + rm.locals ≤ R.locals)
    (hws : ∀ w ∈ ws, ∀ a' U, s.WarmedH U.vm → w.before a' U = true) (hcode : Cond.code y bytes maxL ret ∈ ws) (hinit : ∀ a' U, s.WarmedH U.vm → (Cond.initialized y.cls).before a' U = true) :
    vx_Back l R p e below s sargs y len W9 (PreOf R mc ms Pc) (PostOf Qc mc ms free) (vx_Post XC mc ms free) := by
  intro m meth c A g ig mk a X hg hsize hdg hW hn hp
  have h1 : (headSpec ws rm).pre.before a A.U = true := atoms_intro fun w hw => hws w hw _ _ X.warmed
  have h2 : (Cond.code y bytes maxL ret).before a A.U = true := hws _ hcode _ _ X.warmed
  have h3 : (Cond.initialized y.cls).before a A.U = true := hinit _ _ X.warmed
  have h4 : A.cells + (headSpec ws rm).room.cells ≤ R.cells := by rw [show (headSpec ws rm).room.cells = mc from hrc]; exact hp.1
  have h5 : A.slots + (headSpec ws rm).room.slots ≤ R.slots := by rw [show (headSpec ws rm).room.slots = ms from hrs]; exact hp.2.1
  have hPc : Pc a (A.U.calling g mk a) := hblind _ _ _ _ hp.2.2
  obtain ⟨U, Ls, c0, s0⟩ := A
  dsimp only [Pt.U, Pt.locs, Pt.cells, Pt.slots] at h1 h2 h3 h4 h5 X hn hPc ⊢
  obtain ⟨methY, cY, hmY, hcY, -, hlY, -, -, -, -⟩ := Cond.code_spec hn h2
  obtain ⟨kY, hkY, -⟩ := className_of_methodNamed hn
  have hinitY : kY.init = .initialized := Cond.initialized_spec (findClass_of_methodNamed hn) hkY h3
  have h : At U g.method c below := by rw [hg]; exact X.here
  have hlocals9 : W9 + (maxL + 11) + (headSpec ws rm).room.locals ≤ R.locals := hlocals
  have happ : (headSpec ws rm).appliesLoose y e.platform (U.calling g mk a) = true :=
    Spec.appliesLoose_calling (g := g) h hdg hn hkY hinitY
      (X.room_calling (g := g) (R' := (headSpec ws rm).room) hsize hmY hcY hframes (by rw [hlY]; omega) h4 h5) h1
  obtain ⟨mid, hmid⟩ := h.above
  have hfr : (U.setTop g).frames = (.java g :: mid) ++ below := by rw [State.frames_setTop' g h.top, hmid]; rfl
  obtain ⟨o, s₂, hsteps, -, hend, hq⟩ := Steps.callFree hM p X.admits X.cas X.clock (acts := []) hfr happ hPc trivial
  have hq' : vx_Q Qc XC mc ms free a (U.calling g mk a) o s₂ := hq
  rw [State.frames_setTop' g h.top] at hend
  obtain ⟨g₀, hg0⟩ := Option.isSome_iff_exists.mp h.top
  obtain ⟨r, hr⟩ := State.topJava?_eq_some.mp hg0
  have hr' : (({ U with heap := s₂.heap, slotsUsed := s₂.slotsUsed } : State).setVm s₂.vm).frames = .java g₀ :: r := hr
  rcases hq' with ⟨hqc, L, hfe, hL⟩ | ⟨q, rfl, E, ce, L, hx, hce, hcv, hcl, hW₂, hsm, hL⟩
  · obtain ⟨⟨v, rfl⟩, hW₂, e2, q2, q3, q4, q5, q6⟩ := id hfe
    have e3 : s₂ = ({ (U.calling g mk a).setFrames s₂.frames with heap := s₂.heap, slotsUsed := s₂.slotsUsed } : State).setVm s₂.vm := by
      have : s₂ = ({ s₂ with vm := (U.calling g mk a).vm } : State).setVm s₂.vm := rfl
      rw [e2] at this
      exact this
    obtain ⟨c₂, i₂, len₂, hc₂, hd₂, hf₂⟩ := hend
    have hW' : U.WarmedH s₂.vm := hW₂
    have hcc : c₂ = c := by
      have h1 : s₂.code? g.method = U.code? g.method := by
        rw [State.code?_eq, State.code?_eq, hW'.alike.method?]
      exact Option.some.inj (hc₂.symm.trans (h1.trans h.code))
    subst hcc
    have hlen : len₂ = len := by rw [hdg] at hd₂; cases hd₂; rfl
    subst hlen
    have hs₂ : s₂ = (({ U with heap := s₂.heap, slotsUsed := s₂.slotsUsed } : State).setVm s₂.vm).setTop { g with pc := g.pc + len₂, stack := v.toList ++ g.stack } := by
      refine e3.trans ?_
      rw [hf₂, State.calling_eq h.top, State.setFrames_setFrames, State.setTop_of_frames _ hr', hr]
      rfl
    have hsame : U.sameButNew ({ U with heap := s₂.heap, slotsUsed := s₂.slotsUsed } : State) L mc ms := by
      refine ⟨?_, q2, q3, q4, q5, q6⟩
      obtain ⟨t, ht, -⟩ := State.frames_cons hr
      show ({ U with heap := s₂.heap, slotsUsed := s₂.slotsUsed } : State) = { U.setFrames U.frames with heap := s₂.heap, slotsUsed := s₂.slotsUsed }
      rw [State.setFrames_self ht]
    subst hg
    refine Or.inl ⟨v, ⟨(({ U with heap := s₂.heap, slotsUsed := s₂.slotsUsed } : State).setVm s₂.vm), Ls ++ L, c0 + mc, s0 + ms⟩,
      ⟨X.admits, X.cas, X.clock, X.frames, X.room, X.hears, X.method, X.code, (X.here.setHeapUsed s₂.heap s₂.slotsUsed).setVm hW'.alike, X.tail, State.WarmedH.trans X.warmed hW', X.limits, X.bytes, X.same.trans (hsame.setVm s.vm)⟩,
      ⟨g, mk, s₂, L, rfl, rfl, hqc, rfl, hL, rfl, rfl⟩, ?_⟩
    show Steps p.tables e below _ ((({ U with heap := s₂.heap, slotsUsed := s₂.slotsUsed } : State).setVm s₂.vm).setTop { g with pc := g.pc + len₂, stack := v.toList ++ g.stack })
    rw [← hs₂]
    exact hsteps
  · obtain ⟨e2, q2, q3, q4, q5, q6⟩ := id hsm
    have e3 : s₂ = ({ (U.calling g mk a).setFrames s₂.frames with heap := s₂.heap, slotsUsed := s₂.slotsUsed } : State).setVm s₂.vm := by
      have : s₂ = ({ s₂ with vm := (U.calling g mk a).vm } : State).setVm s₂.vm := rfl
      rw [e2] at this
      exact this
    have hf₂ : s₂.frames = .throwing q :: .java g :: U.frames.tail := hend
    have hW' : U.WarmedH s₂.vm := hW₂
    have hs₂ : s₂ = ((({ U with heap := s₂.heap, slotsUsed := s₂.slotsUsed } : State).setVm s₂.vm).setTop g).pushFrame (.throwing q) := by
      refine e3.trans ?_
      rw [hf₂, State.calling_eq h.top, State.setFrames_setFrames, State.pushFrame, State.frames_setTop _ hr', State.setTop_of_frames _ hr', State.setFrames_setFrames, hr]
      rfl
    have hsame : U.sameButNew ({ U with heap := s₂.heap, slotsUsed := s₂.slotsUsed } : State) L mc ms := by
      refine ⟨?_, q2, q3, q4, q5, q6⟩
      obtain ⟨t, ht, -⟩ := State.frames_cons hr
      show ({ U with heap := s₂.heap, slotsUsed := s₂.slotsUsed } : State) = { U.setFrames U.frames with heap := s₂.heap, slotsUsed := s₂.slotsUsed }
      rw [State.setFrames_self ht]
    subst hg
    refine Or.inr ⟨q, ⟨(({ U with heap := s₂.heap, slotsUsed := s₂.slotsUsed } : State).setVm s₂.vm), Ls ++ L, c0 + mc, s0 + ms⟩,
      ⟨X.admits, X.cas, X.clock, X.frames, X.room, X.hears, X.method, X.code, (X.here.setHeapUsed s₂.heap s₂.slotsUsed).setVm hW'.alike, X.tail, State.WarmedH.trans X.warmed hW', X.limits, X.bytes, X.same.trans (hsame.setVm s.vm)⟩,
      ⟨g, mk, s₂, L, E, ce, rfl, rfl, hx, hce, hcv, hcl, rfl, hL, rfl, rfl⟩, ?_⟩
    show Steps p.tables e below _ (((({ U with heap := s₂.heap, slotsUsed := s₂.slotsUsed } : State).setVm s₂.vm).setTop g).pushFrame (.throwing q))
    rw [← hs₂]
    exact hsteps
end Payer
section Calls
variable {p : Program} {l : Launch} {e : Env} {R : Room} {s : State} {m : MethodId} {args : Array Value} {below : List Frame} {meth : Method} {c : Code} {T : State} {locs : List Loc} {cells slots : Nat}
theorem vx_callV (X : Stand p l e R s m args below meth c T locs cells slots) (hexec : p.tables.exec = Jvm.exec) {own C : String} {index : Nat} {y : MethodName} {bytes : ByteArray} {maxL : Nat} {ret : Option FieldType}
    (hown : s.vm.findClass own = some m.cls) (hlink : (Cond.methodLink own index y).before args s = true) (hinst : (Cond.instanceMethod y).before args s = true) (hsel : (Cond.selects C y y).before args s = true)
    (hcode : (Cond.code y bytes maxL ret).before args s = true) (hy : y.cls ≠ "java/lang/invoke/MethodHandle" ∧ y.cls ≠ "java/lang/invoke/VarHandle")
    {W9 : Nat} {Pre : Pt → Array Value → Prop} {Post : Pt → Array Value → Option Value → Pt → Prop} {PostX : Pt → Array Value → Addr → Pt → Prop} (hK : vx_Back l R p e below s args y 3 W9 Pre Post PostX)
    {b : Addr} {cellB : Cell} (hcell : T.heap[b]? = some cellB) (hobj : cellB.vm.isStatics = false) (hcls : s.vm.findClass C = some cellB.cls)
    {g : JFrame} (hg : g.method = m) (hsize : g.locals.size = c.maxLocals) {argsL rest : List Value} (hlen : ∀ sig, parseMethodDescriptor y.desc = some sig → argsL.length = sig.parameters.length)
    (hstack : g.stack = argsL.reverse ++ .ref b :: rest) (hW : 2 * g.monitorRoom + (rest.map fun v => v.category).sum ≤ W9) (hdg : decode c.code g.pc = .ok (.invokevirtual index, 3))
    (hpre : ∀ vm₁, s.WarmedH vm₁ → Pre ⟨T.setVm vm₁, locs, cells, slots⟩ (Value.ref b :: argsL).toArray) :
    (∃ (v : Option Value) (vm₁ : Vm) (B : Pt), s.WarmedH vm₁ ∧ Stand p l e R s m args below meth c B.U B.locs B.cells B.slots ∧ Post ⟨T.setVm vm₁, locs, cells, slots⟩ (Value.ref b :: argsL).toArray v B ∧
      ∀ target, Steps p.tables e below (B.U.setTop { g with pc := g.pc + 3, stack := v.toList ++ rest }) target → Steps p.tables e below (T.setTop g) target) ∨
    (∃ (q : Addr) (vm₁ : Vm) (B : Pt), s.WarmedH vm₁ ∧ Stand p l e R s m args below meth c B.U B.locs B.cells B.slots ∧ PostX ⟨T.setVm vm₁, locs, cells, slots⟩ (Value.ref b :: argsL).toArray q B ∧
      Steps p.tables e below (T.setTop g) ((B.U.setTop { g with stack := rest }).pushFrame (.throwing q))) := by
  obtain ⟨mk, methM, hnamed, hmethM, hstM, habM⟩ := Cond.instanceMethod_spec hinst
  obtain ⟨methM', cM, hmethM', -, -, -, -, -, -, hsigM⟩ := Cond.code_spec hnamed hcode
  cases hmethM.symm.trans hmethM'
  obtain ⟨c2, r2, m2, q1, q2, q3, q4, kP, hkP, hkPi⟩ := Cond.selects_spec hsel
  cases hcls.symm.trans q1
  cases (State.methodFound?_of_named hnamed hy).symm.trans q2
  cases hnamed.symm.trans q3
  have hselP : selectMethod e.platform s.vm cellB.cls mk = .method mk := by rw [Launch.admits_selectMethod X.admits]; exact q4
  obtain ⟨vm₁, X₁, hstep₁⟩ := X.invokevirtual hexec hown hlink hnamed hmethM hstM hkP hkPi hy (a := b) (cell := cellB) hcell
    (fun z h => by rw [h] at hobj; cases hobj) hselP hmethM habM hkP hkPi (g := g) hg (argsL := argsL) (rest := rest) (hlen _ hsigM) hstack hdg
  rcases hK m meth c ⟨T.setVm vm₁, locs, cells, slots⟩ { g with stack := rest } (.invokevirtual index) mk (Value.ref b :: argsL).toArray X₁ hg hsize hdg hW (X₁.named hnamed) (hpre vm₁ X₁.warmed) with ⟨v, B, X', hpost, hsteps⟩ | ⟨q, B, X', hpost, hsteps⟩
  · exact Or.inl ⟨v, vm₁, B, X₁.warmed, X', hpost, fun target h => hstep₁ _ fun acts => by rw [doInvoke_state]; exact hsteps.trans h⟩
  · exact Or.inr ⟨q, vm₁, B, X₁.warmed, X', hpost, hstep₁ _ fun acts => by rw [doInvoke_state]; exact hsteps⟩
theorem vx_callS (X : Stand p l e R s m args below meth c T locs cells slots) (hexec : p.tables.exec = Jvm.exec) {own : String} {index : Nat} {y : MethodName} {bytes : ByteArray} {maxL : Nat} {ret : Option FieldType}
    (hown : s.vm.findClass own = some m.cls) (hlink : (Cond.methodLink own index y).before args s = true) (hstat : (Cond.static y).before args s = true) (hinit : (Cond.initialized y.cls).before args s = true)
    (hcode : (Cond.code y bytes maxL ret).before args s = true) (hy : y.cls ≠ "java/lang/invoke/MethodHandle" ∧ y.cls ≠ "java/lang/invoke/VarHandle")
    {W9 : Nat} {Pre : Pt → Array Value → Prop} {Post : Pt → Array Value → Option Value → Pt → Prop} {PostX : Pt → Array Value → Addr → Pt → Prop} (hK : vx_Back l R p e below s args y 3 W9 Pre Post PostX)
    {g : JFrame} (hg : g.method = m) (hsize : g.locals.size = c.maxLocals) {argsL rest : List Value} (hlen : ∀ sig, parseMethodDescriptor y.desc = some sig → argsL.length = sig.parameters.length)
    (hstack : g.stack = argsL.reverse ++ rest) (hW : 2 * g.monitorRoom + (rest.map fun v => v.category).sum ≤ W9) (hdg : decode c.code g.pc = .ok (.invokestatic index, 3))
    (hpre : ∀ vm₁, s.WarmedH vm₁ → Pre ⟨T.setVm vm₁, locs, cells, slots⟩ argsL.toArray) :
    (∃ (v : Option Value) (vm₁ : Vm) (B : Pt), s.WarmedH vm₁ ∧ Stand p l e R s m args below meth c B.U B.locs B.cells B.slots ∧ Post ⟨T.setVm vm₁, locs, cells, slots⟩ argsL.toArray v B ∧
      ∀ target, Steps p.tables e below (B.U.setTop { g with pc := g.pc + 3, stack := v.toList ++ rest }) target → Steps p.tables e below (T.setTop g) target) ∨
    (∃ (q : Addr) (vm₁ : Vm) (B : Pt), s.WarmedH vm₁ ∧ Stand p l e R s m args below meth c B.U B.locs B.cells B.slots ∧ PostX ⟨T.setVm vm₁, locs, cells, slots⟩ argsL.toArray q B ∧
      Steps p.tables e below (T.setTop g) ((B.U.setTop { g with stack := rest }).pushFrame (.throwing q))) := by
  obtain ⟨mk, hnamed⟩ := Cond.code_named hcode
  obtain ⟨methM, cM, hmethM, -, -, -, -, -, -, hsigM⟩ := Cond.code_spec hnamed hcode
  have hstatic : methM.isStatic = true := Cond.static_spec hnamed hmethM hstat
  obtain ⟨kP, hkP, -⟩ := className_of_methodNamed hnamed
  have hinitP : kP.init = .initialized := Cond.initialized_spec (findClass_of_methodNamed hnamed) hkP hinit
  obtain ⟨vm₁, X₁, hstep₁⟩ := X.invokestatic hexec hown hlink hnamed hmethM hstatic hkP hinitP hy (g := g) hg (argsL := argsL) (rest := rest) (hlen _ hsigM) hstack hdg
  rcases hK m meth c ⟨T.setVm vm₁, locs, cells, slots⟩ { g with stack := rest } (.invokestatic index) mk argsL.toArray X₁ hg hsize hdg hW (X₁.named hnamed) (hpre vm₁ X₁.warmed) with ⟨v, B, X', hpost, hsteps⟩ | ⟨q, B, X', hpost, hsteps⟩
  · exact Or.inl ⟨v, vm₁, B, X₁.warmed, X', hpost, fun target h => hstep₁ _ fun acts => by rw [doInvoke_state]; exact hsteps.trans h⟩
  · exact Or.inr ⟨q, vm₁, B, X₁.warmed, X', hpost, hstep₁ _ fun acts => by rw [doInvoke_state]; exact hsteps⟩
end Calls
theorem vx_cls {s : State} {T : State} {vm₁ : Vm} {E : String} {k : ClassId} (hW : s.WarmedH vm₁) (h : (T.setVm vm₁).vm.findClass E = some k) : s.vm.findClass E = some k := by
  have h1 : vm₁.findClass E = some k := h
  rw [hW.alike.findClass] at h1
  exact h1
/-- the method's frame g, with q thrown over it -/
def vx_W (p : Program) (l : Launch) (e : Env) (R : Room) (s : State) (m : MethodId) (args : Array Value) (below : List Frame) (meth : Method) (c : Code) (H : Heap) (locs : List Loc) (cells slots : Nat) (Q : State → Prop) (g : JFrame) (q : Addr) : Prop :=
  ∀ T : State, T.heap = H → Stand p l e R s m args below meth c T locs cells slots → ∃ t, Steps p.tables e below ((T.setTop g).pushFrame (.throwing q)) t ∧ Q t
def vx_Run (p : Program) (l : Launch) (e : Env) (R : Room) (s : State) (m : MethodId) (args : Array Value) (below : List Frame) (meth : Method) (c : Code) (H : Heap) (locs : List Loc) (cells slots mc ms : Nat) (g : JFrame) (rest : List Value) (Qa : State → Outcome → State → Prop) (XC : String → State → State → Prop) (free : Addr → Prop) : Prop :=
  ∀ T : State, T.heap = H → Stand p l e R s m args below meth c T locs cells slots →
    (∃ (v : Option Value) (st₀ t T' : State) (L : List Loc), st₀.heap = H ∧ Stand p l e R s m args below meth c T' (locs ++ L) (cells + mc) (slots + ms) ∧ (∀ q ∈ L, free q.base) ∧ T'.heap = t.heap ∧ T'.vm = t.vm ∧ Qa st₀ (.returned v) t ∧
      Goes p e below T g T' { g with pc := g.pc + 3, stack := v.toList ++ rest }) ∨
    (∃ (q : Addr) (st₀ t T' : State) (L : List Loc) (E : String) (ce : Cell), st₀.heap = H ∧ Stand p l e R s m args below meth c T' (locs ++ L) (cells + mc) (slots + ms) ∧ (∀ z ∈ L, free z.base) ∧ T'.heap = t.heap ∧ T'.vm = t.vm ∧ XC E st₀ t ∧ t.heap[q]? = some ce ∧ ce.vm = .none ∧ s.vm.findClass E = some ce.cls ∧
      Steps p.tables e below (T.setTop g) ((T'.setTop { g with stack := rest }).pushFrame (.throwing q)))
def vx_X {S : Type} (px : S → Prop) (B : String → S → State → Prop) (A : Nat → Prop) : String → State → State → Prop := fun E st t => ∃ u : S, px u ∧ B E u t ∧ va_F A st t
section Runs
variable {p : Program} {l : Launch} {e : Env} {R : Room} {s : State} {m : MethodId} {args : Array Value} {below : List Frame} {meth : Method} {c : Code} {H : Heap} {locs : List Loc} {cells slots : Nat}
variable {y : MethodName} {bytes cc : ByteArray} {maxL nL mc ms n index : Nat} {ret : Option FieldType} {ws : List Cond} {rm : Room} {Pc : Array Value → State → Prop} {Qc : Array Value → State → Outcome → State → Prop} {XC : String → State → State → Prop} {free : Addr → Prop} {Ts : List Cond} {own C : String} {b : Addr} {As rest : List Value} {g : JFrame}
theorem vx_callBack (cb : CallB R s args own index y bytes maxL ret ws rm mc ms n) (hM : vx_Met l y ws rm Pc Qc XC mc ms free) (hbl : FrameBlind Pc) : vx_Back l R p e below s args y 3 8 (PreOf R mc ms Pc) (PostOf Qc mc ms free) (vx_Post XC mc ms free) := by
  obtain ⟨hrc, hrs, hfr, hlo, hws, hcw, -, hini, -⟩ := cb
  exact vx_back (bytes := bytes) (maxL := maxL) (ret := ret) hM hbl hrc hrs hfr hlo hws hcw (fun a' U hW => word_at hW (Or.inl (by first | rfl | simp [Cond.onTables, Cond.keeps, Cond.steady])) hini)
theorem vx_runV (S : CallFix p m c cc nL s args Ts own) (hM : vx_Met l y ws rm Pc Qc XC mc ms free) (cw : CallW R s args own C index y bytes maxL ret ws rm mc ms n) (hp : PreV s H C b Pc As)
    (hg : g.method = m) (hn : As.length = n) (hsize : g.locals.size = nL) (hstack : g.stack = As.reverse ++ .ref b :: rest) (hW : 2 * g.monitorRoom + (rest.map fun v => v.category).sum ≤ 8) (hdg : decode cc g.pc = .ok (.invokevirtual index, 3)) (hf : cells + mc ≤ R.cells ∧ slots + ms ≤ R.slots) :
    vx_Run p l e R s m args below meth c H locs cells slots mc ms g rest (Qc (Value.ref b :: As).toArray) XC free := by
  have hK : vx_Back l R p e below s args y 3 8 (PreOf R mc ms Pc) (PostOf Qc mc ms free) (vx_Post XC mc ms free) := vx_callBack cw.1 hM hp.1
  obtain ⟨⟨-, -, -, -, -, -, hcode, -, hy, hlen, hl⟩, hin, hse⟩ := cw
  obtain ⟨hx, hb, hml, ho, -⟩ := S
  obtain ⟨-, ⟨cellB, hcB, hoB, hclB⟩, hPc⟩ := hp
  intro T hT X
  rcases vx_callV X hx (C := C) (bytes := bytes) (maxL := maxL) (ret := ret) ho hl hin hse hcode hy hK (by rw [hT]; exact hcB) hoB hclB hg (hsize.trans hml.symm) (argsL := As) (rest := rest) (fun sig h => hn.trans (hlen sig h)) hstack hW (by rw [hb]; exact hdg)
    (fun vm₁ hW₁ => ⟨hf.1, hf.2, hPc (T.setVm vm₁) hT hW₁⟩) with ⟨v, vm₁, ⟨U', l2, c2, s2⟩, hW₁, X', ⟨g', mk, t, L, e1, e2, hq, h1, hL, h2, h3⟩, st⟩ | ⟨q, vm₁, ⟨U', l2, c2, s2⟩, hW₁, X', ⟨g', mk, t, L, E, ce, e1, e2, hq, hce, hcv, hcl, h1, hL, h2, h3⟩, st⟩
  · dsimp only [Pt.U, Pt.locs, Pt.cells, Pt.slots] at X' e1 e2 h1 h2 h3 st
    subst h1; subst h2; subst h3
    exact Or.inl ⟨v, (T.setVm vm₁).calling g' mk (Value.ref b :: As).toArray, t, U', L, hT, X', hL, e1, e2, hq, st⟩
  · dsimp only [Pt.U, Pt.locs, Pt.cells, Pt.slots] at X' e1 e2 h1 h2 h3 st hcl
    subst h1; subst h2; subst h3
    exact Or.inr ⟨q, (T.setVm vm₁).calling g' mk (Value.ref b :: As).toArray, t, U', L, E, ce, hT, X', hL, e1, e2, hq, hce, hcv, vx_cls hW₁ hcl, st⟩
theorem vx_runS (S : CallFix p m c cc nL s args Ts own) (hM : vx_Met l y ws rm Pc Qc XC mc ms free) (cw : CallB R s args own index y bytes maxL ret ws rm mc ms n ∧ (Cond.static y).before args s = true) (hp : PreS s H Pc As)
    (hg : g.method = m) (hn : As.length = n) (hsize : g.locals.size = nL) (hstack : g.stack = As.reverse ++ rest) (hW : 2 * g.monitorRoom + (rest.map fun v => v.category).sum ≤ 8) (hdg : decode cc g.pc = .ok (.invokestatic index, 3)) (hf : cells + mc ≤ R.cells ∧ slots + ms ≤ R.slots) :
    vx_Run p l e R s m args below meth c H locs cells slots mc ms g rest (Qc As.toArray) XC free := by
  have hK : vx_Back l R p e below s args y 3 8 (PreOf R mc ms Pc) (PostOf Qc mc ms free) (vx_Post XC mc ms free) := vx_callBack cw.1 hM hp.1
  obtain ⟨⟨-, -, -, -, -, -, hcode, hini, hy, hlen, hl⟩, hstt⟩ := cw
  obtain ⟨hx, hb, hml, ho, -⟩ := S
  intro T hT X
  rcases vx_callS X hx (bytes := bytes) (maxL := maxL) (ret := ret) ho hl hstt hini hcode hy hK hg (hsize.trans hml.symm) (argsL := As) (rest := rest) (fun sig h => hn.trans (hlen sig h)) hstack hW (by rw [hb]; exact hdg)
    (fun vm₁ hW₁ => ⟨hf.1, hf.2, hp.2 (T.setVm vm₁) hT hW₁⟩) with ⟨v, vm₁, ⟨U', l2, c2, s2⟩, hW₁, X', ⟨g', mk, t, L, e1, e2, hq, h1, hL, h2, h3⟩, st⟩ | ⟨q, vm₁, ⟨U', l2, c2, s2⟩, hW₁, X', ⟨g', mk, t, L, E, ce, e1, e2, hq, hce, hcv, hcl, h1, hL, h2, h3⟩, st⟩
  · dsimp only [Pt.U, Pt.locs, Pt.cells, Pt.slots] at X' e1 e2 h1 h2 h3 st
    subst h1; subst h2; subst h3
    exact Or.inl ⟨v, (T.setVm vm₁).calling g' mk As.toArray, t, U', L, hT, X', hL, e1, e2, hq, st⟩
  · dsimp only [Pt.U, Pt.locs, Pt.cells, Pt.slots] at X' e1 e2 h1 h2 h3 st hcl
    subst h1; subst h2; subst h3
    exact Or.inr ⟨q, (T.setVm vm₁).calling g' mk As.toArray, t, U', L, E, ce, hT, X', hL, e1, e2, hq, hce, hcv, vx_cls hW₁ hcl, st⟩
end Runs
section Rows
variable {p : Program} {l : Launch} {e : Env} {R : Room} {s : State} {m : MethodId} {args : Array Value} {below : List Frame} {meth : Method} {c : Code} {H : Heap} {locs : List Loc} {cells slots : Nat} {Q : State → Prop}
variable {mc ms : Nat} {free : Addr → Prop} {A0 A1 : Nat → Prop} {H0 : Heap} {a : Array Value} {pc : Nat} {ls : Array Slot} {st0 rest : List Value}
theorem vx_keep {st₀ t T' : State} {L : List Loc} (h0 : st₀.heap = H) (e1 : T'.heap = t.heap) (hS : va_S A0 H0 H locs) (hA : ∀ q, q < H.size → A1 q → A0 q) (hf : ∀ q, free q → A0 q) (hL : ∀ q ∈ L, free q.base) (hF : va_F A1 st₀ t) :
    H.size ≤ T'.heap.size ∧ (∀ q : Nat, q < H.size → ¬ A1 q → T'.heap[q]? = H[q]?) ∧ va_S A0 H0 T'.heap (locs ++ L) := by
  obtain ⟨hz, hk⟩ := hF
  rw [h0] at hz hk
  exact ⟨by rw [e1]; exact hz, fun q h1 h2 => by rw [e1]; exact hk q h1 h2,
    ⟨Nat.le_trans hS.1 (by rw [e1]; exact hz), fun q h1 h2 => by rw [e1, hk q (Nat.lt_of_lt_of_le h1 hS.1) (fun z => h2 (hA q (Nat.lt_of_lt_of_le h1 hS.1) z))]; exact hS.2.1 q h1 h2, fun q hq => by
      rcases List.mem_append.mp hq with h | h
      · exact hS.2.2 q h
      · exact hf _ (hL q h)⟩⟩
theorem vx_calli {S SX : Type} {post : Int32 → S → Prop} {px : SX → Prop} {B : S → State → Prop} {BX : String → SX → State → Prop} {AX : Nat → Prop} (hr : vx_Run p l e R s m args below meth c H locs cells slots mc ms (F0 m pc ls st0) rest (va_Qi post B A1 a) (vx_X px BX AX) free) (hS : va_S A0 H0 H locs) (hA : ∀ q, q < H.size → A1 q → A0 q) (hf : ∀ q, free q → A0 q) (hAX : ∀ q, q < H.size → AX q → A0 q)
    (kx : ∀ (E : String) (ce : Cell) (q9 : Addr) (u : SX) (t : State) (H1 : Heap) (locs1 : List Loc), t.heap = H1 → s.vm.Alike t.vm → px u → BX E u t → H.size ≤ H1.size → (∀ q : Nat, q < H.size → ¬ AX q → H1[q]? = H[q]?) → va_S A0 H0 H1 locs1 → H1[q9]? = some ce → ce.vm = .none → s.vm.findClass E = some ce.cls → vx_W p l e R s m args below meth c H1 locs1 (cells + mc) (slots + ms) Q (F0 m pc ls rest) q9)
    (kk : ∀ (r : Int32) (u : S) (t : State) (H1 : Heap) (locs1 : List Loc), t.heap = H1 → s.vm.Alike t.vm → post r u → B u t → H.size ≤ H1.size → (∀ q : Nat, q < H.size → ¬ A1 q → H1[q]? = H[q]?) → va_S A0 H0 H1 locs1 → W p l e R s m args below meth c H1 locs1 (cells + mc) (slots + ms) Q (F0 m (pc + 3) ls (.int r :: rest))) : W p l e R s m args below meth c H locs cells slots Q (F0 m pc ls st0) := by
  intro T hT X
  rcases hr T hT X with ⟨v, st₀, t, T', L, h0, X', hL, e1, e2, ⟨⟨r, u, hv, hp, hb⟩, hF⟩, st⟩ | ⟨q, st₀, t, T', L, E, ce, h0, X', hL, e1, e2, ⟨u, hp, hb, hF⟩, hce, hcv, hcl, st⟩
  · cases hv
    obtain ⟨k1, k2, k3⟩ := vx_keep h0 e1 hS hA hf hL hF
    obtain ⟨t2, a1, b1⟩ := kk r u t T'.heap (locs ++ L) e1.symm (by rw [← e2]; exact X'.warmed.alike) hp hb k1 k2 k3 T' rfl X'
    exact ⟨t2, st t2 a1, b1⟩
  · obtain ⟨k1, k2, k3⟩ := vx_keep h0 e1 hS hAX hf hL hF
    obtain ⟨t2, a1, b1⟩ := kx E ce q u t T'.heap (locs ++ L) e1.symm (by rw [← e2]; exact X'.warmed.alike) hp hb k1 k2 k3 (by rw [e1]; exact hce) hcv hcl T' rfl X'
    exact ⟨t2, st.trans a1, b1⟩
theorem vx_calll {S SX : Type} {post : Int64 → S → Prop} {px : SX → Prop} {B : S → State → Prop} {BX : String → SX → State → Prop} {AX : Nat → Prop} (hr : vx_Run p l e R s m args below meth c H locs cells slots mc ms (F0 m pc ls st0) rest (va_Ql post B A1 a) (vx_X px BX AX) free) (hS : va_S A0 H0 H locs) (hA : ∀ q, q < H.size → A1 q → A0 q) (hf : ∀ q, free q → A0 q) (hAX : ∀ q, q < H.size → AX q → A0 q)
    (kx : ∀ (E : String) (ce : Cell) (q9 : Addr) (u : SX) (t : State) (H1 : Heap) (locs1 : List Loc), t.heap = H1 → s.vm.Alike t.vm → px u → BX E u t → H.size ≤ H1.size → (∀ q : Nat, q < H.size → ¬ AX q → H1[q]? = H[q]?) → va_S A0 H0 H1 locs1 → H1[q9]? = some ce → ce.vm = .none → s.vm.findClass E = some ce.cls → vx_W p l e R s m args below meth c H1 locs1 (cells + mc) (slots + ms) Q (F0 m pc ls rest) q9)
    (kk : ∀ (r : Int64) (u : S) (t : State) (H1 : Heap) (locs1 : List Loc), t.heap = H1 → s.vm.Alike t.vm → post r u → B u t → H.size ≤ H1.size → (∀ q : Nat, q < H.size → ¬ A1 q → H1[q]? = H[q]?) → va_S A0 H0 H1 locs1 → W p l e R s m args below meth c H1 locs1 (cells + mc) (slots + ms) Q (F0 m (pc + 3) ls (.long r :: rest))) : W p l e R s m args below meth c H locs cells slots Q (F0 m pc ls st0) := by
  intro T hT X
  rcases hr T hT X with ⟨v, st₀, t, T', L, h0, X', hL, e1, e2, ⟨⟨r, u, hv, hp, hb⟩, hF⟩, st⟩ | ⟨q, st₀, t, T', L, E, ce, h0, X', hL, e1, e2, ⟨u, hp, hb, hF⟩, hce, hcv, hcl, st⟩
  · cases hv
    obtain ⟨k1, k2, k3⟩ := vx_keep h0 e1 hS hA hf hL hF
    obtain ⟨t2, a1, b1⟩ := kk r u t T'.heap (locs ++ L) e1.symm (by rw [← e2]; exact X'.warmed.alike) hp hb k1 k2 k3 T' rfl X'
    exact ⟨t2, st t2 a1, b1⟩
  · obtain ⟨k1, k2, k3⟩ := vx_keep h0 e1 hS hAX hf hL hF
    obtain ⟨t2, a1, b1⟩ := kx E ce q u t T'.heap (locs ++ L) e1.symm (by rw [← e2]; exact X'.warmed.alike) hp hb k1 k2 k3 (by rw [e1]; exact hce) hcv hcl T' rfl X'
    exact ⟨t2, st.trans a1, b1⟩
theorem vx_callf {S SX : Type} {post : UInt32 → S → Prop} {px : SX → Prop} {B : S → State → Prop} {BX : String → SX → State → Prop} {AX : Nat → Prop} (hr : vx_Run p l e R s m args below meth c H locs cells slots mc ms (F0 m pc ls st0) rest (va_Qf post B A1 a) (vx_X px BX AX) free) (hS : va_S A0 H0 H locs) (hA : ∀ q, q < H.size → A1 q → A0 q) (hf : ∀ q, free q → A0 q) (hAX : ∀ q, q < H.size → AX q → A0 q)
    (kx : ∀ (E : String) (ce : Cell) (q9 : Addr) (u : SX) (t : State) (H1 : Heap) (locs1 : List Loc), t.heap = H1 → s.vm.Alike t.vm → px u → BX E u t → H.size ≤ H1.size → (∀ q : Nat, q < H.size → ¬ AX q → H1[q]? = H[q]?) → va_S A0 H0 H1 locs1 → H1[q9]? = some ce → ce.vm = .none → s.vm.findClass E = some ce.cls → vx_W p l e R s m args below meth c H1 locs1 (cells + mc) (slots + ms) Q (F0 m pc ls rest) q9)
    (kk : ∀ (r : UInt32) (u : S) (t : State) (H1 : Heap) (locs1 : List Loc), t.heap = H1 → s.vm.Alike t.vm → post r u → B u t → H.size ≤ H1.size → (∀ q : Nat, q < H.size → ¬ A1 q → H1[q]? = H[q]?) → va_S A0 H0 H1 locs1 → W p l e R s m args below meth c H1 locs1 (cells + mc) (slots + ms) Q (F0 m (pc + 3) ls (.float r :: rest))) : W p l e R s m args below meth c H locs cells slots Q (F0 m pc ls st0) := by
  intro T hT X
  rcases hr T hT X with ⟨v, st₀, t, T', L, h0, X', hL, e1, e2, ⟨⟨r, u, hv, hp, hb⟩, hF⟩, st⟩ | ⟨q, st₀, t, T', L, E, ce, h0, X', hL, e1, e2, ⟨u, hp, hb, hF⟩, hce, hcv, hcl, st⟩
  · cases hv
    obtain ⟨k1, k2, k3⟩ := vx_keep h0 e1 hS hA hf hL hF
    obtain ⟨t2, a1, b1⟩ := kk r u t T'.heap (locs ++ L) e1.symm (by rw [← e2]; exact X'.warmed.alike) hp hb k1 k2 k3 T' rfl X'
    exact ⟨t2, st t2 a1, b1⟩
  · obtain ⟨k1, k2, k3⟩ := vx_keep h0 e1 hS hAX hf hL hF
    obtain ⟨t2, a1, b1⟩ := kx E ce q u t T'.heap (locs ++ L) e1.symm (by rw [← e2]; exact X'.warmed.alike) hp hb k1 k2 k3 (by rw [e1]; exact hce) hcv hcl T' rfl X'
    exact ⟨t2, st.trans a1, b1⟩
theorem vx_calld {S SX : Type} {post : UInt64 → S → Prop} {px : SX → Prop} {B : S → State → Prop} {BX : String → SX → State → Prop} {AX : Nat → Prop} (hr : vx_Run p l e R s m args below meth c H locs cells slots mc ms (F0 m pc ls st0) rest (va_Qd post B A1 a) (vx_X px BX AX) free) (hS : va_S A0 H0 H locs) (hA : ∀ q, q < H.size → A1 q → A0 q) (hf : ∀ q, free q → A0 q) (hAX : ∀ q, q < H.size → AX q → A0 q)
    (kx : ∀ (E : String) (ce : Cell) (q9 : Addr) (u : SX) (t : State) (H1 : Heap) (locs1 : List Loc), t.heap = H1 → s.vm.Alike t.vm → px u → BX E u t → H.size ≤ H1.size → (∀ q : Nat, q < H.size → ¬ AX q → H1[q]? = H[q]?) → va_S A0 H0 H1 locs1 → H1[q9]? = some ce → ce.vm = .none → s.vm.findClass E = some ce.cls → vx_W p l e R s m args below meth c H1 locs1 (cells + mc) (slots + ms) Q (F0 m pc ls rest) q9)
    (kk : ∀ (r : UInt64) (u : S) (t : State) (H1 : Heap) (locs1 : List Loc), t.heap = H1 → s.vm.Alike t.vm → post r u → B u t → H.size ≤ H1.size → (∀ q : Nat, q < H.size → ¬ A1 q → H1[q]? = H[q]?) → va_S A0 H0 H1 locs1 → W p l e R s m args below meth c H1 locs1 (cells + mc) (slots + ms) Q (F0 m (pc + 3) ls (.double r :: rest))) : W p l e R s m args below meth c H locs cells slots Q (F0 m pc ls st0) := by
  intro T hT X
  rcases hr T hT X with ⟨v, st₀, t, T', L, h0, X', hL, e1, e2, ⟨⟨r, u, hv, hp, hb⟩, hF⟩, st⟩ | ⟨q, st₀, t, T', L, E, ce, h0, X', hL, e1, e2, ⟨u, hp, hb, hF⟩, hce, hcv, hcl, st⟩
  · cases hv
    obtain ⟨k1, k2, k3⟩ := vx_keep h0 e1 hS hA hf hL hF
    obtain ⟨t2, a1, b1⟩ := kk r u t T'.heap (locs ++ L) e1.symm (by rw [← e2]; exact X'.warmed.alike) hp hb k1 k2 k3 T' rfl X'
    exact ⟨t2, st t2 a1, b1⟩
  · obtain ⟨k1, k2, k3⟩ := vx_keep h0 e1 hS hAX hf hL hF
    obtain ⟨t2, a1, b1⟩ := kx E ce q u t T'.heap (locs ++ L) e1.symm (by rw [← e2]; exact X'.warmed.alike) hp hb k1 k2 k3 (by rw [e1]; exact hce) hcv hcl T' rfl X'
    exact ⟨t2, st.trans a1, b1⟩
theorem vx_callv {S SX : Type} {post : S → Prop} {px : SX → Prop} {B : S → State → Prop} {BX : String → SX → State → Prop} {AX : Nat → Prop} (hr : vx_Run p l e R s m args below meth c H locs cells slots mc ms (F0 m pc ls st0) rest (va_Qv post B A1 a) (vx_X px BX AX) free) (hS : va_S A0 H0 H locs) (hA : ∀ q, q < H.size → A1 q → A0 q) (hf : ∀ q, free q → A0 q) (hAX : ∀ q, q < H.size → AX q → A0 q)
    (kx : ∀ (E : String) (ce : Cell) (q9 : Addr) (u : SX) (t : State) (H1 : Heap) (locs1 : List Loc), t.heap = H1 → s.vm.Alike t.vm → px u → BX E u t → H.size ≤ H1.size → (∀ q : Nat, q < H.size → ¬ AX q → H1[q]? = H[q]?) → va_S A0 H0 H1 locs1 → H1[q9]? = some ce → ce.vm = .none → s.vm.findClass E = some ce.cls → vx_W p l e R s m args below meth c H1 locs1 (cells + mc) (slots + ms) Q (F0 m pc ls rest) q9)
    (kk : ∀ (u : S) (t : State) (H1 : Heap) (locs1 : List Loc), t.heap = H1 → s.vm.Alike t.vm → post u → B u t → H.size ≤ H1.size → (∀ q : Nat, q < H.size → ¬ A1 q → H1[q]? = H[q]?) → va_S A0 H0 H1 locs1 → W p l e R s m args below meth c H1 locs1 (cells + mc) (slots + ms) Q (F0 m (pc + 3) ls (rest))) : W p l e R s m args below meth c H locs cells slots Q (F0 m pc ls st0) := by
  intro T hT X
  rcases hr T hT X with ⟨v, st₀, t, T', L, h0, X', hL, e1, e2, ⟨⟨u, hv, hp, hb⟩, hF⟩, st⟩ | ⟨q, st₀, t, T', L, E, ce, h0, X', hL, e1, e2, ⟨u, hp, hb, hF⟩, hce, hcv, hcl, st⟩
  · cases hv
    obtain ⟨k1, k2, k3⟩ := vx_keep h0 e1 hS hA hf hL hF
    obtain ⟨t2, a1, b1⟩ := kk u t T'.heap (locs ++ L) e1.symm (by rw [← e2]; exact X'.warmed.alike) hp hb k1 k2 k3 T' rfl X'
    exact ⟨t2, st t2 a1, b1⟩
  · obtain ⟨k1, k2, k3⟩ := vx_keep h0 e1 hS hAX hf hL hF
    obtain ⟨t2, a1, b1⟩ := kx E ce q u t T'.heap (locs ++ L) e1.symm (by rw [← e2]; exact X'.warmed.alike) hp hb k1 k2 k3 (by rw [e1]; exact hce) hcv hcl T' rfl X'
    exact ⟨t2, st.trans a1, b1⟩
/-- caught by the row x of this method's table; the rows ahead don't take it -/
theorem vx_catch {own name : String} {E : String} {ce : Cell} {q : Addr} (hown : s.vm.findClass own = some m.cls) (pre : List ExceptionTableEntry) (x : ExceptionTableEntry) (suf : List ExceptionTableEntry) (hsplit : c.exceptionTable.toList = pre ++ x :: suf)
    (hpass : ∀ z ∈ pre, covers z pc = false ∨ (z.catchType ≠ 0 ∧ ∃ nm : String, (Cond.classLink own z.catchType nm).before args s = true ∧ va_Nc E nm s)) (hx : covers x pc = true) (h0 : x.catchType ≠ 0)
    (hlink : (Cond.classLink own x.catchType name).before args s = true) (hcast : (Cond.castable E name).before args s = true) (hcell : H[q]? = some ce) (hv : ce.vm = .none) (hcl : s.vm.findClass E = some ce.cls)
    (kk : W p l e R s m args below meth c H locs cells slots Q (F0 m x.handlerPc ls [.ref q])) : vx_W p l e R s m args below meth c H locs cells slots Q (F0 m pc ls rest) q := by
  intro T hT X
  have hpl : e.platform.magicAccessors = ({} : Platform).magicAccessors := by rw [X.admits.platform]
  obtain ⟨c3, c4, hc3, hc4, hasg⟩ := Cond.castable_spec hcast
  cases Option.some.inj (hc3.symm.trans hcl)
  obtain ⟨c5, hc5, hcl5⟩ := Cond.classLink_spec hown hlink e.platform hpl
  cases Option.some.inj (hc4.symm.trans hc5)
  obtain ⟨vm', X', st⟩ := X.thenCaughtThrough q (g := F0 m pc ls rest) rfl (Steps.refl _) (by rw [hT]; exact hcell) (by rw [hv]; rfl) (by obtain ⟨k9, h9, -⟩ := Vm.findClass_spec hcl; exact ⟨k9, h9⟩) pre x suf hsplit
    (fun z hz => by
      rcases hpass z hz with h | ⟨hz0, nm, hl1, hn1⟩
      · exact Or.inl h
      · obtain ⟨c6, hc6, hcl6⟩ := Cond.classLink_spec hown hl1 e.platform hpl
        obtain ⟨a8, b8, h1, h2, h3⟩ := hn1
        cases Option.some.inj (h1.symm.trans hcl)
        cases Option.some.inj (h2.symm.trans hc6)
        exact Or.inr ⟨hz0, _, hcl6, h3⟩) hx (Or.inr ⟨h0, c4, hcl5, hasg⟩)
  obtain ⟨t, a1, b1⟩ := kk (T.setVm vm') hT X'
  exact ⟨t, st.trans a1, b1⟩
end Rows
section Ends
variable {p : Program} {l : Launch} {e : Env} {R : Room} {s : State} {m : MethodId} {args : Array Value} {below : List Frame} {meth : Method} {c : Code} {H : Heap} {locs : List Loc} {cells slots : Nat} {Q : State → Prop}
variable {mc ms : Nat} {free : Addr → Prop} {A0 A1 : Nat → Prop} {H0 : Heap} {a : Array Value} {ls : Array Slot} {st0 rest : List Value}
variable {Qc : Array Value → State → Outcome → State → Prop} {XC : String → State → State → Prop}
/-- what a body that may throw owes at its end -/
def vx_MQ (below : List Frame) (Qc : Array Value → State → Outcome → State → Prop) (XC : String → State → State → Prop) (a : Array Value) (s : State) (mc ms : Nat) (free : Addr → Prop) : State → Prop := fun t =>
  ∃ o, t.status = .running ∧ Ended t below o ∧ vx_Q Qc XC mc ms free a s o t
theorem vx_ret {g : JFrame} {mc ms : Nat} (k : W p l e R s m args below meth c H locs cells slots (MQ below Qc args s mc ms free) g) : W p l e R s m args below meth c H locs cells slots (vx_MQ below Qc XC args s mc ms free) g := by
  intro T hT X
  obtain ⟨t, a1, o, b1, b2, b3, b4⟩ := k T hT X
  exact ⟨t, a1, o, b1, b2, Or.inl ⟨b3, b4⟩⟩
/-- not caught here: it goes on to the caller -/
theorem vx_widen {g : JFrame} {q : Addr} {k n : Nat} (h1 : cells ≤ k) (h2 : slots ≤ n) (kk : vx_W p l e R s m args below meth c H locs k n Q g q) : vx_W p l e R s m args below meth c H locs cells slots Q g q := fun T hT X => kk T hT (stand_widen X h1 h2)
theorem vx_out {pc : Nat} {E : String} {ce : Cell} {q : Addr} {mc ms : Nat} (hout : ∀ x ∈ c.exceptionTable.toList, covers x pc = false) (hlocks : meth.locks = false) (hcell : H[q]? = some ce) (hv : ce.vm = .none) (hcl : s.vm.findClass E = some ce.cls)
    (hx : ∀ t : State, t.heap = H → s.vm.Alike t.vm → XC E s t) (hf : ∀ z ∈ locs, free z.base) (hc : cells ≤ mc) (hs : slots ≤ ms) :
    vx_W p l e R s m args below meth c H locs cells slots (vx_MQ below Qc XC args s mc ms free) (F0 m pc ls rest) q := by
  intro T hT X
  obtain ⟨st1, hrun, hend, hW, hsm⟩ := X.leaveThrown q (g := F0 m pc ls rest) rfl rfl rfl hout hlocks
  have hcell9 : (T.setFrames (.throwing q :: below)).heap[q]? = some ce := by
    show T.heap[q]? = some ce
    rw [hT]; exact hcell
  exact ⟨_, st1, .threw q, hrun, hend, Or.inr ⟨q, rfl, E, ce, locs, hx _ hT hW.alike, hcell9, hv, hcl, hW, hsm.mono hc hs, hf⟩⟩
theorem vx_frame {U : State} {k n : Nat} (h : s.sameButNew ({ U with vm := s.vm } : State) locs k n) : s.heap.size ≤ U.heap.size ∧ ∀ q : Nat, q < s.heap.size → (∀ z ∈ locs, z.base ≠ q) → U.heap[q]? = s.heap[q]? := by
  obtain ⟨-, h2, -, -, -, h6⟩ := h
  refine ⟨h2, fun q hq hz => ?_⟩
  obtain ⟨c9, e1, e2, e3, e4⟩ := h6 q _ (Array.getElem?_eq_getElem hq)
  have hs : c9.slots = (s.heap[q]).slots := Array.ext_getElem? fun i => e4 i fun hm => hz _ hm rfl
  have h9 : c9 = s.heap[q] := by
    rw [hs] at e2
    exact e2
  have e5 : U.heap[q]? = some c9 := e1
  rw [e5, h9, Array.getElem?_eq_getElem hq]
/-- the words of a throw but the four that speak of the heap -/
def vx_no (w : Cond) : Bool := decide (w ≠ .isRef (.static Bundle.tN "UNASSIGNED_STACK" Bundle.steD)) && decide (w ≠ .isRef (.static Bundle.tN "SUPPRESSED_SENTINEL" Bundle.listD)) && decide (w ≠ .laysStatic Bundle.tN "UNASSIGNED_STACK" Bundle.steD) && decide (w ≠ .laysStatic Bundle.tN "SUPPRESSED_SENTINEL" Bundle.listD)
def vx_at0 (own : String) (ic : Nat) (X : String) (names : List String) : List Cond := (Bundle.ownAtoms0 own ic X names).filter vx_no
def vx_atS (own : String) (ic : Nat) (X : String) (names : List String) : List Cond := (Bundle.ownAtoms own ic X names).filter vx_no
/-- a word that the tables alone decide, or a good one -/
def vx_ot (w : Cond) : Bool := w.onTables || goodWord w
theorem vx_ot_at {args a' : Array Value} {s U : State} {w : Cond} (hW : s.WarmedH U.vm) (hvm : s.vm = U.vm) (hg : vx_ot w = true) (h : w.before args s = true) : w.before a' U = true := by
  simp only [vx_ot, Bool.or_eq_true] at hg
  rcases hg with hg | hg
  · exact va_tabs hg hvm h
  · exact word_at hW (good_of_word hg) h
/-- a list's words: the good ones out of the method's own list, the others by premises of their own -/
theorem vx_hat {args : Array Value} {s : State} {L B : List Cond} (h1 : ∀ w ∈ L.filter goodWord, w.before args s = true) (h2 : ∀ w ∈ L.filter (fun w => !goodWord w), w ∈ B) (h3 : ∀ w ∈ B, w.before args s = true) : ∀ w ∈ L, w.before args s = true := by
  intro w hw
  by_cases g : goodWord w = true
  · exact h1 w (List.mem_filter.mpr ⟨hw, g⟩)
  · refine h3 w (h2 w (List.mem_filter.mpr ⟨hw, ?_⟩))
    show (!goodWord w) = true
    cases hgw : goodWord w
    · rfl
    · exact absurd hgw g
theorem vx_c {args : Array Value} {s : State} {w : Cond} {B : List Cond} (h : w.before args s = true) (t : ∀ w ∈ B, w.before args s = true) : ∀ w' ∈ w :: B, w'.before args s = true := fun w' h' => (List.mem_cons.mp h').elim (fun e => by rw [e]; exact h) (t w')
theorem vx_n {args : Array Value} {s : State} : ∀ w ∈ ([] : List Cond), w.before args s = true := fun _ h => nomatch h
theorem vx_own {args : Array Value} {s : State} {L : List Cond} (h1 : ∀ w ∈ L.filter vx_no, w.before args s = true)
    (hU : (Cond.isRef (.static Bundle.tN "UNASSIGNED_STACK" Bundle.steD)).before args s = true) (hN : (Cond.isRef (.static Bundle.tN "SUPPRESSED_SENTINEL" Bundle.listD)).before args s = true)
    (lU : (Cond.laysStatic Bundle.tN "UNASSIGNED_STACK" Bundle.steD).before args s = true) (lN : (Cond.laysStatic Bundle.tN "SUPPRESSED_SENTINEL" Bundle.listD).before args s = true) : ∀ w ∈ L, w.before args s = true := by
  intro w hw
  by_cases e1 : w = .isRef (.static Bundle.tN "UNASSIGNED_STACK" Bundle.steD)
  · rw [e1]; exact hU
  · by_cases e2 : w = .isRef (.static Bundle.tN "SUPPRESSED_SENTINEL" Bundle.listD)
    · rw [e2]; exact hN
    · by_cases e3 : w = .laysStatic Bundle.tN "UNASSIGNED_STACK" Bundle.steD
      · rw [e3]; exact lU
      · by_cases e4 : w = .laysStatic Bundle.tN "SUPPRESSED_SENTINEL" Bundle.listD
        · rw [e4]; exact lN
        · exact h1 w (List.mem_filter.mpr ⟨hw, by unfold vx_no; rw [decide_eq_true e1, decide_eq_true e2, decide_eq_true e3, decide_eq_true e4]; rfl⟩)
/-- where a static field lies, its class's statics cell in H -/
def vx_L (C n d : String) (A : Nat → Prop) (U : State) (H : Heap) : Prop := ∃ (c : ClassId) (k : Class) (i : Nat) (f : Field) (a : Nat) (cell : Cell), U.vm.findClass C = some c ∧ U.fieldFound? C n d = some (c, k, i, f) ∧ f.isStatic = true ∧ k.statics = some a ∧ H[a]? = some cell ∧ cell.vm.isStatics = true ∧ cell.cls = c ∧ f.slot < cell.slots.size ∧ k.staticTypes[f.slot]? = some f.type ∧ ¬ A a
theorem vx_L.moved {C n d : String} {A : Nat → Prop} {u U : State} {H : Heap} (hvm : u.vm.Alike U.vm) (h : vx_L C n d A u H) : vx_L C n d A U H := by
  obtain ⟨c, k, i, f, a, cell, h1, h2, h3, h4, h5, h6, h7, h8, h9, h10⟩ := h
  obtain ⟨k', hi', he⟩ := State.fieldFound?_setVm hvm h2
  exact ⟨c, k', i, f, a, cell, by rw [hvm.findClass]; exact h1, hi', h3, by rw [he]; exact h4, h5, h6, h7, h8, by rw [he]; exact h9, h10⟩
theorem vx_L.kept {C n d : String} {A : Nat → Prop} {U : State} {H H1 : Heap} (h : vx_L C n d A U H) (hq : ∀ a : Nat, a < H.size → ¬ A a → H1[a]? = H[a]?) : vx_L C n d A U H1 := by
  obtain ⟨c, k, i, f, a, cell, h1, h2, h3, h4, h5, h6, h7, h8, h9, h10⟩ := h
  exact ⟨c, k, i, f, a, cell, h1, h2, h3, h4, by rw [hq a (Array.getElem?_eq_some_iff.mp h5).1 h10]; exact h5, h6, h7, h8, h9, h10⟩
theorem vx_L.narrow {C n d : String} {A B : Nat → Prop} {U : State} {H : Heap} (h : vx_L C n d A U H) (hAB : ∀ q, B q → A q) : vx_L C n d B U H := by
  obtain ⟨c, k, i, f, a, cell, h1, h2, h3, h4, h5, h6, h7, h8, h9, h10⟩ := h
  exact ⟨c, k, i, f, a, cell, h1, h2, h3, h4, h5, h6, h7, h8, h9, fun z => h10 (hAB _ z)⟩
theorem vx_L.word {C n d : String} {A : Nat → Prop} {s : State} {args : Array Value} (h : vx_L C n d A s s.heap) : (Cond.laysStatic C n d).before args s = true := by
  obtain ⟨c, k, i, f, a, cell, h1, h2, h3, h4, h5, h6, h7, h8, h9, -⟩ := h
  show (Cond.laysStatic C n d).holds args s none s [] = true
  exact Cond.laysStatic_of h1 h2 h3 h4 h5 h6 h7 h8 h9
/-- .. and what it holds: null or some reference -/
def vx_Zq (C n d : String) (A : Nat → Prop) (U : State) (H : Heap) : Prop := va_Zq C n d A U H ∧ vx_L C n d A U H
theorem vx_Zq.moved {C n d : String} {A : Nat → Prop} {u U : State} {H : Heap} (hvm : u.vm.Alike U.vm) (h : vx_Zq C n d A u H) : vx_Zq C n d A U H := ⟨va_Zq.moved hvm h.1, vx_L.moved hvm h.2⟩
theorem vx_Zq.kept {C n d : String} {A : Nat → Prop} {U : State} {H H1 : Heap} (h : vx_Zq C n d A U H) (hq : ∀ a : Nat, a < H.size → ¬ A a → H1[a]? = H[a]?) : vx_Zq C n d A U H1 := ⟨va_Zq.kept h.1 hq, vx_L.kept h.2 hq⟩
theorem vx_Zq.narrow {C n d : String} {A B : Nat → Prop} {U : State} {H : Heap} (h : vx_Zq C n d A U H) (hAB : ∀ q, B q → A q) : vx_Zq C n d B U H := ⟨va_Zq.narrow h.1 hAB, vx_L.narrow h.2 hAB⟩
theorem vx_Zqof {args : Array Value} {s : State} {C n d : String} {A : Nat → Prop} (hl : (Cond.laysStatic C n d).before args s = true) (hini : (Cond.initialized C).before args s = true) (h : (Cond.isRef (.static C n d)).before args s = true) (hA : ∀ a : Nat, a < s.heap.size → ¬ A a) : vx_Zq C n d A s s.heap := by
  refine ⟨va_Zqof hl hini h hA, ?_⟩
  obtain ⟨c, k, i, f, a, cell, h1, h2, h3, h4, h5, h6, h7, h8, h9⟩ := Cond.laysStatic_spec hl
  exact ⟨c, k, i, f, a, cell, h1, h2, h3, h4, h5, h6, h7, h8, h9, hA a (Array.getElem?_eq_some_iff.mp h5).1⟩
theorem vx_isRef {C n d : String} {v : Value} {A : Nat → Prop} {s : State} {args : Array Value} (h : va_Z C n d v A s s.heap) (hv : v.isRef = true) : (Cond.isRef (.static C n d)).before args s = true := by
  obtain ⟨cf, kf, fi, f, a, cell, h1, h2, h3, h4, h5, h6, h7, -⟩ := h
  have he : (Term.static C n d).eval args s none [] s = some v := by
    simp [Term.eval, State.fieldNamed?, h1, h2, h4, h5, h6, h7]
  simp only [Cond.before, Cond.holds, Cond.value, he]
  cases v <;> simp_all [Value.isRef]
theorem vx_isRefq {C n d : String} {A : Nat → Prop} {s : State} {args : Array Value} (h : va_Zq C n d A s s.heap) : (Cond.isRef (.static C n d)).before args s = true := by
  rcases h with h | ⟨t, h⟩
  · exact vx_isRef h rfl
  · exact vx_isRef h rfl
/-- the same frame, seen from here: as if the method were called anew in this heap -/
theorem vx_rebase {T : State} (X : Stand p l e R s m args below meth c T locs cells slots) {R' : Room} (hf : R'.frames ≤ R.frames) (hl : R'.locals ≤ R.locals) (hc : cells + R'.cells ≤ R.cells) (hs : slots + R'.slots ≤ R.slots) :
    Stand p l e R' ((T.setVm s.vm).setFrames (.invoking m args :: below)) m args below meth c T [] 0 0 := by
  have htop : (T.setVm s.vm).topJava?.isSome := X.here.top
  have hF : ((T.setVm s.vm).setFrames (.invoking m args :: below)).frames = .invoking m args :: below := State.frames_setFrames _ (State.cur_lt_of_top htop)
  obtain ⟨g₀, hg0⟩ := Option.isSome_iff_exists.mp htop
  obtain ⟨r, hr⟩ := State.topJava?_eq_some.mp hg0
  have hl9 : e.platform.stackLimits (T.setVm s.vm).me = e.platform.stackLimits s.me := X.limits
  have hb9 : (T.setVm s.vm).me.stackBytes = s.me.stackBytes := X.bytes
  refine ⟨X.admits, X.cas, X.clock, hF, ?_, X.hears, X.method, X.code, X.here, X.tail, X.warmed, ?_, ?_, ?_⟩
  · have h := X.room
    have hU : ((T.setVm s.vm).setFrames (.invoking m args :: below)).localsInUse = s.localsInUse := by
      rw [State.localsInUse_invoking hF (meth := meth) (c := c) X.method X.code, State.localsInUse_invoking X.frames X.method X.code]
    simp only [State.hasRoom, Bool.and_eq_true, decide_eq_true_eq] at h ⊢
    obtain ⟨⟨⟨⟨h1, h2, h3, h4, h5, h6⟩, h7⟩, h8⟩, h9⟩ := h
    rw [X.frames, List.length_cons] at h2 h3
    have q1 := X.heapSize
    have q2 := X.used
    simp only [hF, hU, List.length_cons, State.stackLimits_setFrames, State.stackBytes_setFrames, hl9, hb9]
    refine ⟨⟨⟨⟨by omega, by omega, by omega, by omega, by omega, h6⟩, ?_⟩, ?_⟩, X.book⟩
    · show T.heap.size + R'.cells ≤ e.platform.maxCells
      omega
    · show T.slotsUsed + R'.slots ≤ e.platform.maxSlots
      omega
  · rw [State.stackLimits_setFrames]; rfl
  · rw [State.stackBytes_setFrames]; rfl
  · refine ⟨?_, Nat.le_refl _, Nat.le_refl _, ?_, ?_, fun a c9 h9 => ⟨c9, h9, rfl, rfl, fun _ _ => rfl⟩⟩
    · obtain ⟨t, ht, -⟩ := State.frames_cons hr
      show T.setVm s.vm = { ((T.setVm s.vm).setFrames (.invoking m args :: below)).setFrames (T.setVm s.vm).frames with heap := T.heap, slotsUsed := T.slotsUsed }
      rw [State.setFrames_setFrames, State.setFrames_self ht]
      rfl
    · show T.slotsUsed = T.slotsUsed + ((T.heap.toList.drop T.heap.size).map (·.slots.size)).sum
      rw [List.drop_eq_nil_of_le (Nat.le_of_eq Array.length_toList)]
      rfl
    · show ((T.heap.toList.drop T.heap.size).map (·.slots.size)).sum ≤ 0
      rw [List.drop_eq_nil_of_le (Nat.le_of_eq Array.length_toList)]
      exact Nat.le_refl _
/-- 'throw new E()': new; dup; invokespecial; athrow -/
theorem vx_throw0 {cc : ByteArray} {pc : Nat} (hexec : p.tables.exec = Jvm.exec) (hb : c.code = cc) (hl : l.stackTraces = false) {own cls : String} {names : List String} {ik ic mc ms : Nat} {A : Nat → Prop}
    (hown : s.vm.findClass own = some m.cls) (hcls : Bundle.fit cls = true) (hnames : ∀ n ∈ names, Bundle.fit n = true)
    (hk : (Cond.classLink own ik cls).before args s = true) (hini : (Cond.initialized cls).before args s = true) (hat : ∀ w ∈ vx_at0 own ic cls names, w.before args s = true)
    (hgood : ∀ w ∈ Cond.classLink own ik cls :: Cond.initialized cls :: vx_at0 own ic cls names, vx_ot w = true)
    (hU : vx_Zq Bundle.tN "UNASSIGNED_STACK" Bundle.steD A s s.heap) (hN : vx_Zq Bundle.tN "SUPPRESSED_SENTINEL" Bundle.listD A s s.heap) (hS : va_S A s.heap H locs) (hsize : ls.size = c.maxLocals)
    (d0 : decode cc pc = .ok (.new ik, 3)) (d3 : decode cc (pc + 3) = .ok (.dup, 1)) (d4 : decode cc (pc + 4) = .ok (.invokespecial ic, 3)) (d7 : decode cc (pc + 7) = .ok (.athrow, 1))
    (hout : ∀ x ∈ c.exceptionTable.toList, covers x (pc + 7) = false)
    (hRframes : names.length + 3 < R.frames) (hRlocals : (rest.map fun v => v.category).sum + (13 * (names.length + 1) + 42) ≤ R.locals) (hRcells : cells + 1 ≤ R.cells) (hRslots : slots + 6 ≤ R.slots) (hlocks : meth.locks = false)
    (hx : ∀ t : State, s.vm.Alike t.vm → H.size ≤ t.heap.size → (∀ q : Nat, q < H.size → t.heap[q]? = H[q]?) → XC cls s t)
    (hf : ∀ z ∈ locs, free z.base) (hc : cells + 1 ≤ mc) (hs : slots + 6 ≤ ms) :
    W p l e R s m args below meth c H locs cells slots (vx_MQ below Qc XC args s mc ms free) (F0 m pc ls rest) := by
  intro T hT X
  have htr : e.platform.stackTraces = false := (show e.platform.stackTraces = l.stackTraces by rw [X.admits.platform]).trans hl
  have Y := vx_rebase X (R' := { frames := R.frames, locals := R.locals, cells := 1, slots := 6 }) (Nat.le_refl _) (Nat.le_refl _) hRcells hRslots
  obtain ⟨s', hA⟩ : ∃ z, z = (T.setVm s.vm).setFrames (.invoking m args :: below) := ⟨_, rfl⟩
  rw [← hA] at Y
  have hvm : s'.vm = s.vm := by rw [hA]; rfl
  have hhp : s'.heap = H := by rw [hA]; exact hT
  have hW0 : s.WarmedH s'.vm := by rw [hvm]; exact State.WarmedH.refl s
  have hat' : ∀ w ∈ vx_at0 own ic cls names, w.before args s' = true := fun w hw => vx_ot_at hW0 hvm.symm (hgood w (List.mem_cons_of_mem _ (List.mem_cons_of_mem _ hw))) (hat w hw)
  have hk' : (Cond.classLink own ik cls).before args s' = true := vx_ot_at hW0 hvm.symm (hgood _ List.mem_cons_self) hk
  have hini' : (Cond.initialized cls).before args s' = true := vx_ot_at hW0 hvm.symm (hgood _ (List.mem_cons_of_mem _ List.mem_cons_self)) hini
  have hU' : vx_Zq Bundle.tN "UNASSIGNED_STACK" Bundle.steD A s' s'.heap := by rw [hhp]; exact vx_Zq.moved hW0.alike (hU.kept hS.2.1)
  have hN' : vx_Zq Bundle.tN "SUPPRESSED_SENTINEL" Bundle.listD A s' s'.heap := by rw [hhp]; exact vx_Zq.moved hW0.alike (hN.kept hS.2.1)
  have h : ∀ w ∈ Bundle.ownAtoms0 own ic cls names, w.before args s' = true := vx_own hat' (vx_isRefq hU'.1) (vx_isRefq hN'.1) hU'.2.word hN'.2.word
  have hown' : s'.vm.findClass own = some m.cls := by rw [hvm]; exact hown
  have hins : (Cond.instantiable cls 6).before args s' = true := h _ (by simp [Bundle.ownAtoms0])
  obtain ⟨vm₁, cX, kX, hfX, hkX, -, -, X₁, st1⟩ := Y.newCold hexec (own := own) (C := cls) (index := ik) (n := 6) hown' hk' hins hini'
    (g := F0 m pc ls rest) rfl (by rw [hb]; exact d0) (Nat.le_refl _) (Nat.le_refl _)
  generalize hT1 : (T.setVm vm₁).pushCell { cls := cX, slots := kX.instanceTypes.map defaultValue, vm := .none } = T1 at X₁ st1
  have hcat : (Value.ref T.heap.size).category = 1 := rfl
  have hcellA : T1.heap[T.heap.size]? = some (freshCell cX kX) := by rw [← hT1]; exact State.heap_pushCell_size _ _
  have d3' : decode c.code (pc + 3) = .ok (.dup, 1) := by rw [hb]; exact d3
  obtain ⟨U, hsteps, hrun, hend, hW, hsame, ce, hce, hO⟩ := X₁.ctorThrow0 hexec htr (own := own) (cls := cls) (names := names) (ic := ic) hown' hcls hnames h (fun x hx => nomatch hx) hfX hkX hcellA (by rw [hhp, hT]; exact Nat.le_refl _)
    (g := { method := m, pc := pc + 4, locals := ls, stack := .ref T.heap.size :: .ref T.heap.size :: rest, locked := none }) rfl hsize rfl rfl (rest := rest) rfl
    (by rw [hb]; exact d4) (by rw [hb]; exact d7) hout hRframes (by simp only [List.map_cons, List.sum_cons, hcat]; omega) hlocks
  obtain ⟨f1, f2⟩ := vx_frame hsame
  rw [hhp] at f1 f2
  have hWs : s.WarmedH U.vm := State.WarmedH.trans hW0 hW
  have hcl : s.vm.findClass cls = some ce.cls := by
    have h9 := hO.cls
    rw [hvm] at h9
    exact h9
  have hall : s.sameButNew ({ U with vm := s.vm } : State) locs mc ms := by
    subst hA
    obtain ⟨e1, e2⟩ := hsame
    rw [State.setFrames_setFrames] at e1
    have h2 : (T.setVm s.vm).sameButNew ({ U with vm := s.vm } : State) [] (0 + 1) (0 + 6) := ⟨e1, e2⟩
    have h3 := X.same.trans h2
    rw [List.append_nil] at h3
    exact h3.mono hc hs
  refine ⟨U, ?_, .threw T.heap.size, hrun, hend, Or.inr ⟨T.heap.size, rfl, cls, ce, locs, hx U hWs.alike f1 (fun q hq => f2 q hq (fun z hz => nomatch hz)), hce, hO.vm, hcl, hWs, hall, hf⟩⟩
  refine st1 _ ?_
  show Steps p.tables e below (T1.setTop { method := m, pc := pc + 3, locals := ls, stack := .ref T.heap.size :: rest, locked := none }) _
  jvm_step X₁.here [X₁.here.top, hexec, d3', Value.category]
  exact hsteps
/-- 'throw new E("text")': new; dup; ldc; invokespecial; athrow -/
theorem vx_throwS {cc : ByteArray} {pc : Nat} (hexec : p.tables.exec = Jvm.exec) (hb : c.code = cc) (hl : l.stackTraces = false) {own cls text : String} {names : List String} {ik is ic mc ms sa : Nat} {A : Nat → Prop}
    (hown : s.vm.findClass own = some m.cls) (hcls : Bundle.fit cls = true) (hnames : ∀ n ∈ names, Bundle.fit n = true)
    (hk : (Cond.classLink own ik cls).before args s = true) (hini : (Cond.initialized cls).before args s = true) (hstr : vk_R own is text sa s) (hat : ∀ w ∈ vx_atS own ic cls names, w.before args s = true)
    (hgood : ∀ w ∈ Cond.classLink own ik cls :: Cond.initialized cls :: vx_atS own ic cls names, vx_ot w = true)
    (hU : vx_Zq Bundle.tN "UNASSIGNED_STACK" Bundle.steD A s s.heap) (hN : vx_Zq Bundle.tN "SUPPRESSED_SENTINEL" Bundle.listD A s s.heap) (hS : va_S A s.heap H locs) (hsize : ls.size = c.maxLocals)
    (d0 : decode cc pc = .ok (.new ik, 3)) (d3 : decode cc (pc + 3) = .ok (.dup, 1)) (d4 : decode cc (pc + 4) = .ok (.ldc is, 2)) (d6 : decode cc (pc + 6) = .ok (.invokespecial ic, 3)) (d9 : decode cc (pc + 9) = .ok (.athrow, 1))
    (hout : ∀ x ∈ c.exceptionTable.toList, covers x (pc + 9) = false)
    (hRframes : names.length + 3 < R.frames) (hRlocals : (rest.map fun v => v.category).sum + (13 * (names.length + 1) + 43) ≤ R.locals) (hRcells : cells + 1 ≤ R.cells) (hRslots : slots + 6 ≤ R.slots) (hlocks : meth.locks = false)
    (hx : ∀ t : State, s.vm.Alike t.vm → H.size ≤ t.heap.size → (∀ q : Nat, q < H.size → t.heap[q]? = H[q]?) → XC cls s t)
    (hf : ∀ z ∈ locs, free z.base) (hc : cells + 1 ≤ mc) (hs : slots + 6 ≤ ms) :
    W p l e R s m args below meth c H locs cells slots (vx_MQ below Qc XC args s mc ms free) (F0 m pc ls rest) := by
  intro T hT X
  have htr : e.platform.stackTraces = false := (show e.platform.stackTraces = l.stackTraces by rw [X.admits.platform]).trans hl
  have Y := vx_rebase X (R' := { frames := R.frames, locals := R.locals, cells := 1, slots := 6 }) (Nat.le_refl _) (Nat.le_refl _) hRcells hRslots
  obtain ⟨s', hA⟩ : ∃ z, z = (T.setVm s.vm).setFrames (.invoking m args :: below) := ⟨_, rfl⟩
  rw [← hA] at Y
  have hvm : s'.vm = s.vm := by rw [hA]; rfl
  have hhp : s'.heap = H := by rw [hA]; exact hT
  have hW0 : s.WarmedH s'.vm := by rw [hvm]; exact State.WarmedH.refl s
  have hat' : ∀ w ∈ vx_atS own ic cls names, w.before args s' = true := fun w hw => vx_ot_at hW0 hvm.symm (hgood w (List.mem_cons_of_mem _ (List.mem_cons_of_mem _ hw))) (hat w hw)
  have hk' : (Cond.classLink own ik cls).before args s' = true := vx_ot_at hW0 hvm.symm (hgood _ List.mem_cons_self) hk
  have hini' : (Cond.initialized cls).before args s' = true := vx_ot_at hW0 hvm.symm (hgood _ (List.mem_cons_of_mem _ List.mem_cons_self)) hini
  have hU' : vx_Zq Bundle.tN "UNASSIGNED_STACK" Bundle.steD A s' s'.heap := by rw [hhp]; exact vx_Zq.moved hW0.alike (hU.kept hS.2.1)
  have hN' : vx_Zq Bundle.tN "SUPPRESSED_SENTINEL" Bundle.listD A s' s'.heap := by rw [hhp]; exact vx_Zq.moved hW0.alike (hN.kept hS.2.1)
  have h : ∀ w ∈ Bundle.ownAtoms own ic cls names, w.before args s' = true := vx_own hat' (vx_isRefq hU'.1) (vx_isRefq hN'.1) hU'.2.word hN'.2.word
  have hown' : s'.vm.findClass own = some m.cls := by rw [hvm]; exact hown
  have hins : (Cond.instantiable cls 6).before args s' = true := h _ (by simp [Bundle.ownAtoms])
  obtain ⟨vm₁, cX, kX, hfX, hkX, -, -, X₁, st1⟩ := Y.newCold hexec (own := own) (C := cls) (index := ik) (n := 6) hown' hk' hins hini'
    (g := F0 m pc ls rest) rfl (by rw [hb]; exact d0) (Nat.le_refl _) (Nat.le_refl _)
  generalize hT1 : (T.setVm vm₁).pushCell { cls := cX, slots := kX.instanceTypes.map defaultValue, vm := .none } = T1 at X₁ st1
  have hcat : (Value.ref T.heap.size).category = 1 := rfl
  have hcellA : T1.heap[T.heap.size]? = some (freshCell cX kX) := by rw [← hT1]; exact State.heap_pushCell_size _ _
  have d3' : decode c.code (pc + 3) = .ok (.dup, 1) := by rw [hb]; exact d3
  have d4' : decode c.code (pc + 4) = .ok (.ldc is, 2) := by rw [hb]; exact d4
  have hstr' : vk_R own is text sa s' := vk_R.warm hW0 hstr
  obtain ⟨U, hsteps, hrun, hend, hW, hsame, ce, hce, hO⟩ := X₁.ctorThrowS hexec htr (own := own) (cls := cls) (names := names) (ic := ic) hown' hcls hnames h (fun x hx => nomatch hx) hfX hkX hcellA (by rw [hhp, hT]; exact Nat.le_refl _) (msg := .ref sa) rfl
    (g := { method := m, pc := pc + 6, locals := ls, stack := .ref sa :: .ref T.heap.size :: .ref T.heap.size :: rest, locked := none }) rfl hsize rfl rfl (rest := rest) rfl
    (by rw [hb]; exact d6) (by rw [hb]; exact d9) hout hRframes (by simp only [List.map_cons, List.sum_cons, hcat]; omega) hlocks
  obtain ⟨f1, f2⟩ := vx_frame hsame
  rw [hhp] at f1 f2
  have hWs : s.WarmedH U.vm := State.WarmedH.trans hW0 hW
  have hcl : s.vm.findClass cls = some ce.cls := by
    have h9 := hO.cls
    rw [hvm] at h9
    exact h9
  have hall : s.sameButNew ({ U with vm := s.vm } : State) locs mc ms := by
    subst hA
    obtain ⟨e1, e2⟩ := hsame
    rw [State.setFrames_setFrames] at e1
    have h2 : (T.setVm s.vm).sameButNew ({ U with vm := s.vm } : State) [] (0 + 1) (0 + 6) := ⟨e1, e2⟩
    have h3 := X.same.trans h2
    rw [List.append_nil] at h3
    exact h3.mono hc hs
  refine ⟨U, ?_, .threw T.heap.size, hrun, hend, Or.inr ⟨T.heap.size, rfl, cls, ce, locs, hx U hWs.alike f1 (fun q hq => f2 q hq (fun z hz => nomatch hz)), hce, hO.vm, hcl, hWs, hall, hf⟩⟩
  refine st1 _ ?_
  show Steps p.tables e below (T1.setTop { method := m, pc := pc + 3, locals := ls, stack := .ref T.heap.size :: rest, locked := none }) _
  jvm_step X₁.here [X₁.here.top, hexec, d3', Value.category]
  exact X₁.ldcString hexec (own := own) (text := text) (index := is) (a := sa) hown' hstr'.1 hstr'.2
    (g := { method := m, pc := pc + 4, locals := ls, stack := .ref T.heap.size :: .ref T.heap.size :: rest, locked := none }) rfl d4' _ hsteps
/-- 'throw new E("text")', the text by a wide index -/
theorem vx_throwSW {cc : ByteArray} {pc : Nat} (hexec : p.tables.exec = Jvm.exec) (hb : c.code = cc) (hl : l.stackTraces = false) {own cls text : String} {names : List String} {ik is ic mc ms sa : Nat} {A : Nat → Prop}
    (hown : s.vm.findClass own = some m.cls) (hcls : Bundle.fit cls = true) (hnames : ∀ n ∈ names, Bundle.fit n = true)
    (hk : (Cond.classLink own ik cls).before args s = true) (hini : (Cond.initialized cls).before args s = true) (hstr : vk_R own is text sa s) (hat : ∀ w ∈ vx_atS own ic cls names, w.before args s = true)
    (hgood : ∀ w ∈ Cond.classLink own ik cls :: Cond.initialized cls :: vx_atS own ic cls names, vx_ot w = true)
    (hU : vx_Zq Bundle.tN "UNASSIGNED_STACK" Bundle.steD A s s.heap) (hN : vx_Zq Bundle.tN "SUPPRESSED_SENTINEL" Bundle.listD A s s.heap) (hS : va_S A s.heap H locs) (hsize : ls.size = c.maxLocals)
    (d0 : decode cc pc = .ok (.new ik, 3)) (d3 : decode cc (pc + 3) = .ok (.dup, 1)) (d4 : decode cc (pc + 4) = .ok (.ldc_w is, 3)) (d7 : decode cc (pc + 7) = .ok (.invokespecial ic, 3)) (d10 : decode cc (pc + 10) = .ok (.athrow, 1))
    (hout : ∀ x ∈ c.exceptionTable.toList, covers x (pc + 10) = false)
    (hRframes : names.length + 3 < R.frames) (hRlocals : (rest.map fun v => v.category).sum + (13 * (names.length + 1) + 43) ≤ R.locals) (hRcells : cells + 1 ≤ R.cells) (hRslots : slots + 6 ≤ R.slots) (hlocks : meth.locks = false)
    (hx : ∀ t : State, s.vm.Alike t.vm → H.size ≤ t.heap.size → (∀ q : Nat, q < H.size → t.heap[q]? = H[q]?) → XC cls s t)
    (hf : ∀ z ∈ locs, free z.base) (hc : cells + 1 ≤ mc) (hs : slots + 6 ≤ ms) :
    W p l e R s m args below meth c H locs cells slots (vx_MQ below Qc XC args s mc ms free) (F0 m pc ls rest) := by
  intro T hT X
  have htr : e.platform.stackTraces = false := (show e.platform.stackTraces = l.stackTraces by rw [X.admits.platform]).trans hl
  have Y := vx_rebase X (R' := { frames := R.frames, locals := R.locals, cells := 1, slots := 6 }) (Nat.le_refl _) (Nat.le_refl _) hRcells hRslots
  obtain ⟨s', hA⟩ : ∃ z, z = (T.setVm s.vm).setFrames (.invoking m args :: below) := ⟨_, rfl⟩
  rw [← hA] at Y
  have hvm : s'.vm = s.vm := by rw [hA]; rfl
  have hhp : s'.heap = H := by rw [hA]; exact hT
  have hW0 : s.WarmedH s'.vm := by rw [hvm]; exact State.WarmedH.refl s
  have hat' : ∀ w ∈ vx_atS own ic cls names, w.before args s' = true := fun w hw => vx_ot_at hW0 hvm.symm (hgood w (List.mem_cons_of_mem _ (List.mem_cons_of_mem _ hw))) (hat w hw)
  have hk' : (Cond.classLink own ik cls).before args s' = true := vx_ot_at hW0 hvm.symm (hgood _ List.mem_cons_self) hk
  have hini' : (Cond.initialized cls).before args s' = true := vx_ot_at hW0 hvm.symm (hgood _ (List.mem_cons_of_mem _ List.mem_cons_self)) hini
  have hU' : vx_Zq Bundle.tN "UNASSIGNED_STACK" Bundle.steD A s' s'.heap := by rw [hhp]; exact vx_Zq.moved hW0.alike (hU.kept hS.2.1)
  have hN' : vx_Zq Bundle.tN "SUPPRESSED_SENTINEL" Bundle.listD A s' s'.heap := by rw [hhp]; exact vx_Zq.moved hW0.alike (hN.kept hS.2.1)
  have h : ∀ w ∈ Bundle.ownAtoms own ic cls names, w.before args s' = true := vx_own hat' (vx_isRefq hU'.1) (vx_isRefq hN'.1) hU'.2.word hN'.2.word
  have hown' : s'.vm.findClass own = some m.cls := by rw [hvm]; exact hown
  have hins : (Cond.instantiable cls 6).before args s' = true := h _ (by simp [Bundle.ownAtoms])
  obtain ⟨vm₁, cX, kX, hfX, hkX, -, -, X₁, st1⟩ := Y.newCold hexec (own := own) (C := cls) (index := ik) (n := 6) hown' hk' hins hini'
    (g := F0 m pc ls rest) rfl (by rw [hb]; exact d0) (Nat.le_refl _) (Nat.le_refl _)
  generalize hT1 : (T.setVm vm₁).pushCell { cls := cX, slots := kX.instanceTypes.map defaultValue, vm := .none } = T1 at X₁ st1
  have hcat : (Value.ref T.heap.size).category = 1 := rfl
  have hcellA : T1.heap[T.heap.size]? = some (freshCell cX kX) := by rw [← hT1]; exact State.heap_pushCell_size _ _
  have d3' : decode c.code (pc + 3) = .ok (.dup, 1) := by rw [hb]; exact d3
  have d4' : decode c.code (pc + 4) = .ok (.ldc_w is, 3) := by rw [hb]; exact d4
  have hstr' : vk_R own is text sa s' := vk_R.warm hW0 hstr
  obtain ⟨U, hsteps, hrun, hend, hW, hsame, ce, hce, hO⟩ := X₁.ctorThrowS hexec htr (own := own) (cls := cls) (names := names) (ic := ic) hown' hcls hnames h (fun x hx => nomatch hx) hfX hkX hcellA (by rw [hhp, hT]; exact Nat.le_refl _) (msg := .ref sa) rfl
    (g := { method := m, pc := pc + 7, locals := ls, stack := .ref sa :: .ref T.heap.size :: .ref T.heap.size :: rest, locked := none }) rfl hsize rfl rfl (rest := rest) rfl
    (by rw [hb]; exact d7) (by rw [hb]; exact d10) hout hRframes (by simp only [List.map_cons, List.sum_cons, hcat]; omega) hlocks
  obtain ⟨f1, f2⟩ := vx_frame hsame
  rw [hhp] at f1 f2
  have hWs : s.WarmedH U.vm := State.WarmedH.trans hW0 hW
  have hcl : s.vm.findClass cls = some ce.cls := by
    have h9 := hO.cls
    rw [hvm] at h9
    exact h9
  have hall : s.sameButNew ({ U with vm := s.vm } : State) locs mc ms := by
    subst hA
    obtain ⟨e1, e2⟩ := hsame
    rw [State.setFrames_setFrames] at e1
    have h2 : (T.setVm s.vm).sameButNew ({ U with vm := s.vm } : State) [] (0 + 1) (0 + 6) := ⟨e1, e2⟩
    have h3 := X.same.trans h2
    rw [List.append_nil] at h3
    exact h3.mono hc hs
  refine ⟨U, ?_, .threw T.heap.size, hrun, hend, Or.inr ⟨T.heap.size, rfl, cls, ce, locs, hx U hWs.alike f1 (fun q hq => f2 q hq (fun z hz => nomatch hz)), hce, hO.vm, hcl, hWs, hall, hf⟩⟩
  refine st1 _ ?_
  show Steps p.tables e below (T1.setTop { method := m, pc := pc + 3, locals := ls, stack := .ref T.heap.size :: rest, locked := none }) _
  jvm_step X₁.here [X₁.here.top, hexec, d3', Value.category]
  exact X₁.ldcStringW hexec (own := own) (text := text) (index := is) (a := sa) hown' hstr'.1 hstr'.2
    (g := { method := m, pc := pc + 4, locals := ls, stack := .ref T.heap.size :: .ref T.heap.size :: rest, locked := none }) rfl d4' _ hsteps
end Ends
section Bodies
variable {l : Launch}
theorem vx_ofW {y : MethodName} {ws ws' : List Cond} {rm : Room} {Pc : Array Value → State → Prop} {Qc : Array Value → State → Outcome → State → Prop} {XC : String → State → State → Prop} {mc ms : Nat} {free : Addr → Prop} {cc : ByteArray} {maxL : Nat} {ret : Option FieldType}
    (hy : plainName y.cls = true) (hw : ws = Cond.code y cc maxL ret :: ws')
    (body : ∀ p e s m args below meth c s₁, BodyLoose p l y (headSpec ws rm) cc maxL ret e s m args below meth c s₁ → c.maxLocals = maxL → (∀ x ∈ c.exceptionTable.toList, False) → Pc args s →
      W p l e (headSpec ws rm).room s m args below meth c s.heap [] 0 0 (vx_MQ below Qc XC args s mc ms free) (entryFrame m args maxL)) : vx_Met l y ws rm Pc Qc XC mc ms free := by
  refine MetFree.of_bodyS (code := cc) (maxLocals := maxL) (ret := ret) hy ?_ ?_
  · intro args s m h hn
    obtain ⟨meth, c, h1, h2, h3, h4, h5, h6, -, -⟩ := Cond.code_spec hn (atoms_spec (ws := ws) h _ (by rw [hw]; exact List.mem_cons_self))
    exact ⟨meth, c, h1, h2, h3, h4, h5, h6⟩
  · intro p e s m args below meth c s₁ B hml hP _
    have hh0 : s₁.heap = s.heap := by rw [B.state]; rfl
    have ht : ∀ x ∈ c.exceptionTable.toList, False := by
      obtain ⟨meth9, c9, h1, h2, -, -, -, -, h7, -⟩ := Cond.code_spec B.named (atoms_spec (ws := ws) B.pre _ (by rw [hw]; exact List.mem_cons_self))
      cases Option.some.inj (h1.symm.trans B.method)
      cases Option.some.inj (h2.symm.trans (Stand.of_body B).code)
      intro x hx
      rw [Array.isEmpty_iff.mp h7] at hx
      cases hx
    obtain ⟨t, a1, o, b1, b2, b3⟩ := body p e s m args below meth c s₁ B hml ht hP s₁ hh0 (Stand.of_body B)
    exact ⟨t, o, a1, b1, b2, b3⟩
/-- the table of a body with handlers -/
theorem vx_table {p : Program} {x y : MethodName} {S : Spec} {cc bytes : ByteArray} {maxL maxL' : Nat} {ret ret' : Option FieldType} {e : Env} {s s₁ : State} {m : MethodId} {args : Array Value} {below : List Frame} {meth : Method} {c : Code} {hh : List (Nat × Nat × Nat × Nat)}
    (B : BodyLoose p l y S cc maxL ret e s m args below meth c s₁) (h : (Cond.codeWith y bytes maxL' ret' hh).before args s = true) : c.exceptionTable.toList = tableOf hh := by
  obtain ⟨m9, meth9, c9, hn9, h1, h2, -, -, h6, -⟩ := Cond.codeWith_spec h
  cases Option.some.inj (hn9.symm.trans B.named)
  cases Option.some.inj (h1.symm.trans B.method)
  cases Option.some.inj (h2.symm.trans (Stand.of_body B).code)
  rw [← h6, table_eq]
end Bodies
end VXA
/-! ===== END ===== -/
/-! ===== BEGIN a static call of a method with an exception table ===== -/
section VXS
variable {p : Program} {l : Launch} {e : Env} {R : Room} {s : State} {m : MethodId} {args : Array Value} {below : List Frame} {meth : Method} {c : Code} {T : State} {H : Heap} {locs : List Loc} {cells slots : Nat}
abbrev vx_CSW (R : Room) (s : State) (args : Array Value) (own : String) (index : Nat) (y : MethodName) (bytes : ByteArray) (maxL : Nat) (ret : Option FieldType) (hh : List (Nat × Nat × Nat × Nat)) (ws : List Cond) (rm : Room) (mc ms n : Nat) : Prop :=
  (rm.cells = mc ∧ rm.slots = ms ∧ rm.frames + 1 ≤ R.frames ∧ 8 + (maxL + 11) + rm.locals ≤ R.locals ∧ (∀ w ∈ ws, ∀ (a' : Array Value) (U : State), s.WarmedH U.vm → w.before a' U = true) ∧ Cond.codeWith y bytes maxL ret hh ∈ ws) ∧
  (Cond.codeWith y bytes maxL ret hh).before args s = true ∧ (Cond.initialized y.cls).before args s = true ∧ (y.cls ≠ "java/lang/invoke/MethodHandle" ∧ y.cls ≠ "java/lang/invoke/VarHandle") ∧
  (∀ sig, parseMethodDescriptor y.desc = some sig → n = sig.parameters.length) ∧ (Cond.methodLink own index y).before args s = true ∧ (Cond.static y).before args s = true
theorem vx_cwSW {own : String} {index maxL mc ms : Nat} {y : MethodName} {bytes : ByteArray} {ret : Option FieldType} {hh : List (Nat × Nat × Nat × Nat)} {Ts ws ws' : List Cond} {rm : Room} (n : Nat) (ht : ∀ w ∈ Ts, w.before args s = true) (hT : GoodIn Ts (va_wsS own index y ws)) (hw : ws = Cond.codeWith y bytes maxL ret hh :: ws') (hrc : rm.cells = mc) (hrs : rm.slots = ms)
    (hd : y.cls ≠ "java/lang/invoke/MethodHandle" ∧ y.cls ≠ "java/lang/invoke/VarHandle" ∧ (parseMethodDescriptor y.desc).map (fun d => d.parameters.length) = some n) (hR : rm.frames + 1 ≤ R.frames ∧ 8 + (maxL + 11) + rm.locals ≤ R.locals) :
    vx_CSW R s args own index y bytes maxL ret hh ws rm mc ms n := by
  have ok : ∀ w ∈ va_wsS own index y ws, w.before args s = true := fun w h => ht w (hT w h).1
  have hG : GoodIn Ts ws := fun w h => hT w (by unfold va_wsS; exact List.mem_append_right _ h)
  have hc : Cond.codeWith y bytes maxL ret hh ∈ ws := by rw [hw]; exact List.mem_cons_self
  refine ⟨⟨hrc, hrs, hR.1, hR.2, pay_in ht hG, hc⟩, ht _ (hG _ hc).1, ok _ (by simp [va_wsS]), ⟨hd.1, hd.2.1⟩, fun sig h => ?_, ok _ (by simp [va_wsS]), ok _ (by simp [va_wsS])⟩
  have h2 := hd.2.2
  rw [h] at h2
  exact (Option.some.inj h2).symm
theorem vx_callSW (X : Stand p l e R s m args below meth c T locs cells slots) (hexec : p.tables.exec = Jvm.exec) {own : String} {index : Nat} {y : MethodName} {bytes : ByteArray} {maxL : Nat} {ret : Option FieldType} {hh : List (Nat × Nat × Nat × Nat)}
    (hown : s.vm.findClass own = some m.cls) (hlink : (Cond.methodLink own index y).before args s = true) (hstat : (Cond.static y).before args s = true) (hinit : (Cond.initialized y.cls).before args s = true)
    (hcode : (Cond.codeWith y bytes maxL ret hh).before args s = true) (hy : y.cls ≠ "java/lang/invoke/MethodHandle" ∧ y.cls ≠ "java/lang/invoke/VarHandle")
    {W9 : Nat} {Pre : Pt → Array Value → Prop} {Post : Pt → Array Value → Option Value → Pt → Prop} (hK : Back l R p e below s args y 3 W9 Pre Post)
    {g : JFrame} (hg : g.method = m) (hsize : g.locals.size = c.maxLocals) {argsL rest : List Value} (hlen : ∀ sig, parseMethodDescriptor y.desc = some sig → argsL.length = sig.parameters.length)
    (hstack : g.stack = argsL.reverse ++ rest) (hW : 2 * g.monitorRoom + (rest.map fun v => v.category).sum ≤ W9) (hdg : decode c.code g.pc = .ok (.invokestatic index, 3))
    (hpre : ∀ vm₁, s.WarmedH vm₁ → Pre ⟨T.setVm vm₁, locs, cells, slots⟩ argsL.toArray) :
    ∃ (v : Option Value) (vm₁ : Vm) (B : Pt), s.WarmedH vm₁ ∧ Stand p l e R s m args below meth c B.U B.locs B.cells B.slots ∧ Post ⟨T.setVm vm₁, locs, cells, slots⟩ argsL.toArray v B ∧
      ∀ target, Steps p.tables e below (B.U.setTop { g with pc := g.pc + 3, stack := v.toList ++ rest }) target → Steps p.tables e below (T.setTop g) target := by
  obtain ⟨mk, methM, cM, hnamed, hmethM, -, -, -, -, -, -, hsigM⟩ := Cond.codeWith_spec hcode
  have hstatic : methM.isStatic = true := Cond.static_spec hnamed hmethM hstat
  obtain ⟨kP, hkP, -⟩ := className_of_methodNamed hnamed
  have hinitP : kP.init = .initialized := Cond.initialized_spec (findClass_of_methodNamed hnamed) hkP hinit
  obtain ⟨vm₁, X₁, hstep₁⟩ := X.invokestatic hexec hown hlink hnamed hmethM hstatic hkP hinitP hy (g := g) hg (argsL := argsL) (rest := rest) (hlen _ hsigM) hstack hdg
  obtain ⟨v, B, X', hpost, hsteps⟩ := hK m meth c ⟨T.setVm vm₁, locs, cells, slots⟩ { g with stack := rest } (.invokestatic index) mk argsL.toArray X₁ hg hsize hdg hW (X₁.named hnamed) (hpre vm₁ X₁.warmed)
  exact ⟨v, vm₁, B, X₁.warmed, X', hpost, fun target h => hstep₁ _ fun acts => by rw [doInvoke_state]; exact hsteps.trans h⟩
theorem vx_runSW {y : MethodName} {bytes cc : ByteArray} {maxL nL mc ms n index : Nat} {ret : Option FieldType} {hh : List (Nat × Nat × Nat × Nat)} {ws : List Cond} {rm : Room} {Pc : Array Value → State → Prop} {Qc : Array Value → State → Outcome → State → Prop} {free : Addr → Prop} {Ts : List Cond} {own : String} {As rest : List Value} {g : JFrame}
    (S : CallFix p m c cc nL s args Ts own) (hM : Met l y ws rm Pc Qc mc ms free) (cw : vx_CSW R s args own index y bytes maxL ret hh ws rm mc ms n) (hp : PreS s H Pc As)
    (hg : g.method = m) (hn : As.length = n) (hsize : g.locals.size = nL) (hstack : g.stack = As.reverse ++ rest) (hW : 2 * g.monitorRoom + (rest.map fun v => v.category).sum ≤ 8) (hdg : decode cc g.pc = .ok (.invokestatic index, 3)) (hf : cells + mc ≤ R.cells ∧ slots + ms ≤ R.slots) :
    va_Run p l e R s m args below meth c H locs cells slots mc ms g rest (Qc As.toArray) (free) := by
  obtain ⟨⟨hrc, hrs, hfr, hlo, hws, hcw⟩, hcode, hini, hy, hlen, hl, hstt⟩ := cw
  have hK : Back l R p e below s args y 3 8 (PreOf R mc ms Pc) (PostOf Qc mc ms free) := va_backW (hh := hh) (bytes := bytes) (maxL := maxL) (ret := ret) hM hp.1 hrc hrs hfr hlo hws hcw (fun a' U hW => word_at hW (Or.inl (by first | rfl | simp [Cond.onTables, Cond.keeps, Cond.steady])) hini)
  obtain ⟨hx, hb, hml, ho, -⟩ := S
  intro T hT X
  obtain ⟨v, vm₁, ⟨U', l2, c2, s2⟩, hW₁, X', ⟨g', mk, t, L, e1, e2, hq, h1, hL, h2, h3⟩, st⟩ := vx_callSW X hx (hh := hh) (bytes := bytes) (maxL := maxL) (ret := ret) ho hl hstt hini hcode hy hK hg (hsize.trans hml.symm) (argsL := As) (rest := rest) (fun sig h => hn.trans (hlen sig h)) hstack hW (by rw [hb]; exact hdg)
    (fun vm₁ hW₁ => ⟨hf.1, hf.2, hp.2 (T.setVm vm₁) hT hW₁⟩)
  dsimp only [Pt.U, Pt.locs, Pt.cells, Pt.slots] at X' e1 e2 h1 h2 h3 st
  subst h1; subst h2; subst h3
  exact ⟨v, (T.setVm vm₁).calling g' mk As.toArray, t, U', L, hT, X', hL, e1, e2, hq, st⟩
/-- not caught here, past rows that name other classes: it goes on to the caller -/
theorem vx_outP {p : Program} {l : Launch} {e : Env} {R : Room} {s : State} {m : MethodId} {args : Array Value} {below : List Frame} {meth : Method} {c : Code} {H : Heap} {locs : List Loc} {cells slots : Nat} {free : Addr → Prop} {ls : Array Slot} {rest : List Value} {Qc : Array Value → State → Outcome → State → Prop} {XC : String → State → State → Prop}
    {pc : Nat} {own E : String} {ce : Cell} {q : Addr} {mc ms : Nat} (hown : s.vm.findClass own = some m.cls) (hlocks : meth.locks = false)
    (hpass : ∀ z ∈ c.exceptionTable.toList, covers z pc = false ∨ (z.catchType ≠ 0 ∧ ∃ nm : String, (Cond.classLink own z.catchType nm).before args s = true ∧ va_Nc E nm s)) (hcell : H[q]? = some ce) (hv : ce.vm = .none) (hcl : s.vm.findClass E = some ce.cls)
    (hx : ∀ t : State, t.heap = H → s.vm.Alike t.vm → XC E s t) (hf : ∀ z ∈ locs, free z.base) (hc : cells ≤ mc) (hs : slots ≤ ms) :
    vx_W p l e R s m args below meth c H locs cells slots (vx_MQ below Qc XC args s mc ms free) (F0 m pc ls rest) q := by
  intro T hT X
  have hpl : e.platform.magicAccessors = ({} : Platform).magicAccessors := by rw [X.admits.platform]
  obtain ⟨vm', hW', X', st⟩ := X.outThrough hlocks q (g := F0 m pc ls rest) rfl rfl rfl (cell := ce) (by rw [hT]; exact hcell) (by rw [hv]; rfl)
    (by obtain ⟨k9, h9, -⟩ := Vm.findClass_spec hcl; exact ⟨k9, h9⟩) (fun z hz => by
      rcases hpass z hz with h | ⟨hz0, nm, hl1, hn1⟩
      · exact Or.inl h
      · obtain ⟨c6, hc6, hcl6⟩ := Cond.classLink_spec hown hl1 e.platform hpl
        obtain ⟨a8, b8, h1, h2, h3⟩ := hn1
        cases Option.some.inj (h1.symm.trans hcl)
        cases Option.some.inj (h2.symm.trans hc6)
        exact Or.inr ⟨hz0, _, hcl6, h3⟩)
  obtain ⟨g₀, hfr⟩ := X'.frames_eq
  have hcell9 : ((T.setVm vm').setFrames (.throwing q :: below)).heap[q]? = some ce := by
    show T.heap[q]? = some ce
    rw [hT]; exact hcell
  have hend : Ended ((T.setVm vm').setFrames (.throwing q :: below)) below (.threw q) := State.frames_setFrames _ (State.cur_lt_of_frames hfr)
  refine ⟨(T.setVm vm').setFrames (.throwing q :: below), ?_, .threw q, X'.here.running, hend, Or.inr ⟨q, rfl, E, ce, locs, hx _ hT (X'.ends _).1.alike, hcell9, hv, hcl, (X'.ends _).1, (X'.ends _).2.mono hc hs, hf⟩⟩
  rw [X.pushThrowing_eq]
  exact st
/-- a thing of a world lies in the heap -/
theorem vx_lt {D : va_G} {cl : List vw_C} {ws : va_W} {H1 : Heap} (h : va_P D cl ws H1) {k : Nat} {q : Nat × va_E} (hk : ws[k]? = some q) : q.1 < H1.size := (h k q hk).lt
end VXS
/-! ===== END ===== -/
/-! ===== BEGIN methods with a table of their own: called by a name, returning or throwing ===== -/
section VXH
/-! vx_backW, vx_callVX, vx_callSX, vx_callVW, vx_runVW, vx_runVX, vx_runSX, vx_ofWH follow the same proofs as their sisters above (Free/Laws.lean, Shelf42/LK1.lean); vx_outP calls Shelf42/NT130.lean (outThrough). -/
section
variable {l : Launch} {R : Room} {p : Program} {e : Env} {below : List Frame} {s : State} {sargs : Array Value} {y : MethodName} {len W9 : Nat}
theorem vx_backW {ws : List Cond} {rm : Room} {Pc : Array Value → State → Prop} {Qc : Array Value → State → Outcome → State → Prop} {XC : String → State → State → Prop} {mc ms : Nat} {free : Addr → Prop} {bytes : ByteArray} {maxL : Nat} {ret : Option FieldType} {hh : List (Nat × Nat × Nat × Nat)}
    (hM : vx_Met l y ws rm Pc Qc XC mc ms free) (hblind : FrameBlind Pc) (hrc : rm.cells = mc) (hrs : rm.slots = ms)
    (hframes : rm.frames + 1 ≤ R.frames) (hlocals : W9 + (maxL + 11) + rm.locals ≤ R.locals)
    (hws : ∀ w ∈ ws, ∀ a' U, s.WarmedH U.vm → w.before a' U = true) (hcode : Cond.codeWith y bytes maxL ret hh ∈ ws) (hinit : ∀ a' U, s.WarmedH U.vm → (Cond.initialized y.cls).before a' U = true) :
    vx_Back l R p e below s sargs y len W9 (PreOf R mc ms Pc) (PostOf Qc mc ms free) (vx_Post XC mc ms free) := by
  intro m meth c A g ig mk a X hg hsize hdg hW hn hp
  have h1 : (headSpec ws rm).pre.before a A.U = true := atoms_intro fun w hw => hws w hw _ _ X.warmed
  have h2 : (Cond.codeWith y bytes maxL ret hh).before a A.U = true := hws _ hcode _ _ X.warmed
  have h3 : (Cond.initialized y.cls).before a A.U = true := hinit _ _ X.warmed
  have h4 : A.cells + (headSpec ws rm).room.cells ≤ R.cells := by rw [show (headSpec ws rm).room.cells = mc from hrc]; exact hp.1
  have h5 : A.slots + (headSpec ws rm).room.slots ≤ R.slots := by rw [show (headSpec ws rm).room.slots = ms from hrs]; exact hp.2.1
  have hPc : Pc a (A.U.calling g mk a) := hblind _ _ _ _ hp.2.2
  obtain ⟨U, Ls, c0, s0⟩ := A
  dsimp only [Pt.U, Pt.locs, Pt.cells, Pt.slots] at h1 h2 h3 h4 h5 X hn hPc ⊢
  obtain ⟨m9, methY, cY, hn9, hmY, hcY, -, hlY, -⟩ := Cond.codeWith_spec h2
  cases Option.some.inj (hn9.symm.trans hn)
  obtain ⟨kY, hkY, -⟩ := className_of_methodNamed hn
  have hinitY : kY.init = .initialized := Cond.initialized_spec (findClass_of_methodNamed hn) hkY h3
  have h : At U g.method c below := by rw [hg]; exact X.here
  have hlocals9 : W9 + (maxL + 11) + (headSpec ws rm).room.locals ≤ R.locals := hlocals
  have happ : (headSpec ws rm).appliesLoose y e.platform (U.calling g mk a) = true :=
    Spec.appliesLoose_calling (g := g) h hdg hn hkY hinitY
      (X.room_calling (g := g) (R' := (headSpec ws rm).room) hsize hmY hcY hframes (by rw [hlY]; omega) h4 h5) h1
  obtain ⟨mid, hmid⟩ := h.above
  have hfr : (U.setTop g).frames = (.java g :: mid) ++ below := by rw [State.frames_setTop' g h.top, hmid]; rfl
  obtain ⟨o, s₂, hsteps, -, hend, hq⟩ := Steps.callFree hM p X.admits X.cas X.clock (acts := []) hfr happ hPc trivial
  have hq' : vx_Q Qc XC mc ms free a (U.calling g mk a) o s₂ := hq
  rw [State.frames_setTop' g h.top] at hend
  obtain ⟨g₀, hg0⟩ := Option.isSome_iff_exists.mp h.top
  obtain ⟨r, hr⟩ := State.topJava?_eq_some.mp hg0
  have hr' : (({ U with heap := s₂.heap, slotsUsed := s₂.slotsUsed } : State).setVm s₂.vm).frames = .java g₀ :: r := hr
  rcases hq' with ⟨hqc, L, hfe, hL⟩ | ⟨q, rfl, E, ce, L, hx, hce, hcv, hcl, hW₂, hsm, hL⟩
  · obtain ⟨⟨v, rfl⟩, hW₂, e2, q2, q3, q4, q5, q6⟩ := id hfe
    have e3 : s₂ = ({ (U.calling g mk a).setFrames s₂.frames with heap := s₂.heap, slotsUsed := s₂.slotsUsed } : State).setVm s₂.vm := by
      have : s₂ = ({ s₂ with vm := (U.calling g mk a).vm } : State).setVm s₂.vm := rfl
      rw [e2] at this
      exact this
    obtain ⟨c₂, i₂, len₂, hc₂, hd₂, hf₂⟩ := hend
    have hW' : U.WarmedH s₂.vm := hW₂
    have hcc : c₂ = c := by
      have h1 : s₂.code? g.method = U.code? g.method := by
        rw [State.code?_eq, State.code?_eq, hW'.alike.method?]
      exact Option.some.inj (hc₂.symm.trans (h1.trans h.code))
    subst hcc
    have hlen : len₂ = len := by rw [hdg] at hd₂; cases hd₂; rfl
    subst hlen
    have hs₂ : s₂ = (({ U with heap := s₂.heap, slotsUsed := s₂.slotsUsed } : State).setVm s₂.vm).setTop { g with pc := g.pc + len₂, stack := v.toList ++ g.stack } := by
      refine e3.trans ?_
      rw [hf₂, State.calling_eq h.top, State.setFrames_setFrames, State.setTop_of_frames _ hr', hr]
      rfl
    have hsame : U.sameButNew ({ U with heap := s₂.heap, slotsUsed := s₂.slotsUsed } : State) L mc ms := by
      refine ⟨?_, q2, q3, q4, q5, q6⟩
      obtain ⟨t, ht, -⟩ := State.frames_cons hr
      show ({ U with heap := s₂.heap, slotsUsed := s₂.slotsUsed } : State) = { U.setFrames U.frames with heap := s₂.heap, slotsUsed := s₂.slotsUsed }
      rw [State.setFrames_self ht]
    subst hg
    refine Or.inl ⟨v, ⟨(({ U with heap := s₂.heap, slotsUsed := s₂.slotsUsed } : State).setVm s₂.vm), Ls ++ L, c0 + mc, s0 + ms⟩,
      ⟨X.admits, X.cas, X.clock, X.frames, X.room, X.hears, X.method, X.code, (X.here.setHeapUsed s₂.heap s₂.slotsUsed).setVm hW'.alike, X.tail, State.WarmedH.trans X.warmed hW', X.limits, X.bytes, X.same.trans (hsame.setVm s.vm)⟩,
      ⟨g, mk, s₂, L, rfl, rfl, hqc, rfl, hL, rfl, rfl⟩, ?_⟩
    show Steps p.tables e below _ ((({ U with heap := s₂.heap, slotsUsed := s₂.slotsUsed } : State).setVm s₂.vm).setTop { g with pc := g.pc + len₂, stack := v.toList ++ g.stack })
    rw [← hs₂]
    exact hsteps
  · obtain ⟨e2, q2, q3, q4, q5, q6⟩ := id hsm
    have e3 : s₂ = ({ (U.calling g mk a).setFrames s₂.frames with heap := s₂.heap, slotsUsed := s₂.slotsUsed } : State).setVm s₂.vm := by
      have : s₂ = ({ s₂ with vm := (U.calling g mk a).vm } : State).setVm s₂.vm := rfl
      rw [e2] at this
      exact this
    have hf₂ : s₂.frames = .throwing q :: .java g :: U.frames.tail := hend
    have hW' : U.WarmedH s₂.vm := hW₂
    have hs₂ : s₂ = ((({ U with heap := s₂.heap, slotsUsed := s₂.slotsUsed } : State).setVm s₂.vm).setTop g).pushFrame (.throwing q) := by
      refine e3.trans ?_
      rw [hf₂, State.calling_eq h.top, State.setFrames_setFrames, State.pushFrame, State.frames_setTop _ hr', State.setTop_of_frames _ hr', State.setFrames_setFrames, hr]
      rfl
    have hsame : U.sameButNew ({ U with heap := s₂.heap, slotsUsed := s₂.slotsUsed } : State) L mc ms := by
      refine ⟨?_, q2, q3, q4, q5, q6⟩
      obtain ⟨t, ht, -⟩ := State.frames_cons hr
      show ({ U with heap := s₂.heap, slotsUsed := s₂.slotsUsed } : State) = { U.setFrames U.frames with heap := s₂.heap, slotsUsed := s₂.slotsUsed }
      rw [State.setFrames_self ht]
    subst hg
    refine Or.inr ⟨q, ⟨(({ U with heap := s₂.heap, slotsUsed := s₂.slotsUsed } : State).setVm s₂.vm), Ls ++ L, c0 + mc, s0 + ms⟩,
      ⟨X.admits, X.cas, X.clock, X.frames, X.room, X.hears, X.method, X.code, (X.here.setHeapUsed s₂.heap s₂.slotsUsed).setVm hW'.alike, X.tail, State.WarmedH.trans X.warmed hW', X.limits, X.bytes, X.same.trans (hsame.setVm s.vm)⟩,
      ⟨g, mk, s₂, L, E, ce, rfl, rfl, hx, hce, hcv, hcl, rfl, hL, rfl, rfl⟩, ?_⟩
    show Steps p.tables e below _ (((({ U with heap := s₂.heap, slotsUsed := s₂.slotsUsed } : State).setVm s₂.vm).setTop g).pushFrame (.throwing q))
    rw [← hs₂]
    exact hsteps
end
variable {p : Program} {l : Launch} {e : Env} {R : Room} {s : State} {m : MethodId} {args : Array Value} {below : List Frame} {meth : Method} {c : Code} {T : State} {H : Heap} {locs : List Loc} {cells slots : Nat}
theorem vx_callVX (X : Stand p l e R s m args below meth c T locs cells slots) (hexec : p.tables.exec = Jvm.exec) {own C : String} {index : Nat} {y : MethodName} {bytes : ByteArray} {maxL : Nat} {ret : Option FieldType} {hh : List (Nat × Nat × Nat × Nat)}
    (hown : s.vm.findClass own = some m.cls) (hlink : (Cond.methodLink own index y).before args s = true) (hinst : (Cond.instanceMethod y).before args s = true) (hsel : (Cond.selects C y y).before args s = true)
    (hcode : (Cond.codeWith y bytes maxL ret hh).before args s = true) (hy : y.cls ≠ "java/lang/invoke/MethodHandle" ∧ y.cls ≠ "java/lang/invoke/VarHandle")
    {W9 : Nat} {Pre : Pt → Array Value → Prop} {Post : Pt → Array Value → Option Value → Pt → Prop} {PostX : Pt → Array Value → Addr → Pt → Prop} (hK : vx_Back l R p e below s args y 3 W9 Pre Post PostX)
    {b : Addr} {cellB : Cell} (hcell : T.heap[b]? = some cellB) (hobj : cellB.vm.isStatics = false) (hcls : s.vm.findClass C = some cellB.cls)
    {g : JFrame} (hg : g.method = m) (hsize : g.locals.size = c.maxLocals) {argsL rest : List Value} (hlen : ∀ sig, parseMethodDescriptor y.desc = some sig → argsL.length = sig.parameters.length)
    (hstack : g.stack = argsL.reverse ++ .ref b :: rest) (hW : 2 * g.monitorRoom + (rest.map fun v => v.category).sum ≤ W9) (hdg : decode c.code g.pc = .ok (.invokevirtual index, 3))
    (hpre : ∀ vm₁, s.WarmedH vm₁ → Pre ⟨T.setVm vm₁, locs, cells, slots⟩ (Value.ref b :: argsL).toArray) :
    (∃ (v : Option Value) (vm₁ : Vm) (B : Pt), s.WarmedH vm₁ ∧ Stand p l e R s m args below meth c B.U B.locs B.cells B.slots ∧ Post ⟨T.setVm vm₁, locs, cells, slots⟩ (Value.ref b :: argsL).toArray v B ∧
      ∀ target, Steps p.tables e below (B.U.setTop { g with pc := g.pc + 3, stack := v.toList ++ rest }) target → Steps p.tables e below (T.setTop g) target) ∨
    (∃ (q : Addr) (vm₁ : Vm) (B : Pt), s.WarmedH vm₁ ∧ Stand p l e R s m args below meth c B.U B.locs B.cells B.slots ∧ PostX ⟨T.setVm vm₁, locs, cells, slots⟩ (Value.ref b :: argsL).toArray q B ∧
      Steps p.tables e below (T.setTop g) ((B.U.setTop { g with stack := rest }).pushFrame (.throwing q))) := by
  obtain ⟨mk, methM, hnamed, hmethM, hstM, habM⟩ := Cond.instanceMethod_spec hinst
  obtain ⟨m8, methM', cM, hn8, hmethM', -, -, -, -, -, -, hsigM⟩ := Cond.codeWith_spec hcode
  cases Option.some.inj (hn8.symm.trans hnamed)
  cases hmethM.symm.trans hmethM'
  obtain ⟨c2, r2, m2, q1, q2, q3, q4, kP, hkP, hkPi⟩ := Cond.selects_spec hsel
  cases hcls.symm.trans q1
  cases (State.methodFound?_of_named hnamed hy).symm.trans q2
  cases hnamed.symm.trans q3
  have hselP : selectMethod e.platform s.vm cellB.cls mk = .method mk := by rw [Launch.admits_selectMethod X.admits]; exact q4
  obtain ⟨vm₁, X₁, hstep₁⟩ := X.invokevirtual hexec hown hlink hnamed hmethM hstM hkP hkPi hy (a := b) (cell := cellB) hcell
    (fun z h => by rw [h] at hobj; cases hobj) hselP hmethM habM hkP hkPi (g := g) hg (argsL := argsL) (rest := rest) (hlen _ hsigM) hstack hdg
  rcases hK m meth c ⟨T.setVm vm₁, locs, cells, slots⟩ { g with stack := rest } (.invokevirtual index) mk (Value.ref b :: argsL).toArray X₁ hg hsize hdg hW (X₁.named hnamed) (hpre vm₁ X₁.warmed) with ⟨v, B, X', hpost, hsteps⟩ | ⟨q, B, X', hpost, hsteps⟩
  · exact Or.inl ⟨v, vm₁, B, X₁.warmed, X', hpost, fun target h => hstep₁ _ fun acts => by rw [doInvoke_state]; exact hsteps.trans h⟩
  · exact Or.inr ⟨q, vm₁, B, X₁.warmed, X', hpost, hstep₁ _ fun acts => by rw [doInvoke_state]; exact hsteps⟩
theorem vx_callSX (X : Stand p l e R s m args below meth c T locs cells slots) (hexec : p.tables.exec = Jvm.exec) {own : String} {index : Nat} {y : MethodName} {bytes : ByteArray} {maxL : Nat} {ret : Option FieldType} {hh : List (Nat × Nat × Nat × Nat)}
    (hown : s.vm.findClass own = some m.cls) (hlink : (Cond.methodLink own index y).before args s = true) (hstat : (Cond.static y).before args s = true) (hinit : (Cond.initialized y.cls).before args s = true)
    (hcode : (Cond.codeWith y bytes maxL ret hh).before args s = true) (hy : y.cls ≠ "java/lang/invoke/MethodHandle" ∧ y.cls ≠ "java/lang/invoke/VarHandle")
    {W9 : Nat} {Pre : Pt → Array Value → Prop} {Post : Pt → Array Value → Option Value → Pt → Prop} {PostX : Pt → Array Value → Addr → Pt → Prop} (hK : vx_Back l R p e below s args y 3 W9 Pre Post PostX)
    {g : JFrame} (hg : g.method = m) (hsize : g.locals.size = c.maxLocals) {argsL rest : List Value} (hlen : ∀ sig, parseMethodDescriptor y.desc = some sig → argsL.length = sig.parameters.length)
    (hstack : g.stack = argsL.reverse ++ rest) (hW : 2 * g.monitorRoom + (rest.map fun v => v.category).sum ≤ W9) (hdg : decode c.code g.pc = .ok (.invokestatic index, 3))
    (hpre : ∀ vm₁, s.WarmedH vm₁ → Pre ⟨T.setVm vm₁, locs, cells, slots⟩ argsL.toArray) :
    (∃ (v : Option Value) (vm₁ : Vm) (B : Pt), s.WarmedH vm₁ ∧ Stand p l e R s m args below meth c B.U B.locs B.cells B.slots ∧ Post ⟨T.setVm vm₁, locs, cells, slots⟩ argsL.toArray v B ∧
      ∀ target, Steps p.tables e below (B.U.setTop { g with pc := g.pc + 3, stack := v.toList ++ rest }) target → Steps p.tables e below (T.setTop g) target) ∨
    (∃ (q : Addr) (vm₁ : Vm) (B : Pt), s.WarmedH vm₁ ∧ Stand p l e R s m args below meth c B.U B.locs B.cells B.slots ∧ PostX ⟨T.setVm vm₁, locs, cells, slots⟩ argsL.toArray q B ∧
      Steps p.tables e below (T.setTop g) ((B.U.setTop { g with stack := rest }).pushFrame (.throwing q))) := by
  obtain ⟨mk, methM, cM, hnamed, hmethM, -, -, -, -, -, -, hsigM⟩ := Cond.codeWith_spec hcode
  have hstatic : methM.isStatic = true := Cond.static_spec hnamed hmethM hstat
  obtain ⟨kP, hkP, -⟩ := className_of_methodNamed hnamed
  have hinitP : kP.init = .initialized := Cond.initialized_spec (findClass_of_methodNamed hnamed) hkP hinit
  obtain ⟨vm₁, X₁, hstep₁⟩ := X.invokestatic hexec hown hlink hnamed hmethM hstatic hkP hinitP hy (g := g) hg (argsL := argsL) (rest := rest) (hlen _ hsigM) hstack hdg
  rcases hK m meth c ⟨T.setVm vm₁, locs, cells, slots⟩ { g with stack := rest } (.invokestatic index) mk argsL.toArray X₁ hg hsize hdg hW (X₁.named hnamed) (hpre vm₁ X₁.warmed) with ⟨v, B, X', hpost, hsteps⟩ | ⟨q, B, X', hpost, hsteps⟩
  · exact Or.inl ⟨v, vm₁, B, X₁.warmed, X', hpost, fun target h => hstep₁ _ fun acts => by rw [doInvoke_state]; exact hsteps.trans h⟩
  · exact Or.inr ⟨q, vm₁, B, X₁.warmed, X', hpost, hstep₁ _ fun acts => by rw [doInvoke_state]; exact hsteps⟩
theorem vx_callVW (X : Stand p l e R s m args below meth c T locs cells slots) (hexec : p.tables.exec = Jvm.exec) {own C : String} {index : Nat} {y : MethodName} {bytes : ByteArray} {maxL : Nat} {ret : Option FieldType} {hh : List (Nat × Nat × Nat × Nat)}
    (hown : s.vm.findClass own = some m.cls) (hlink : (Cond.methodLink own index y).before args s = true) (hinst : (Cond.instanceMethod y).before args s = true) (hsel : (Cond.selects C y y).before args s = true)
    (hcode : (Cond.codeWith y bytes maxL ret hh).before args s = true) (hy : y.cls ≠ "java/lang/invoke/MethodHandle" ∧ y.cls ≠ "java/lang/invoke/VarHandle")
    {W9 : Nat} {Pre : Pt → Array Value → Prop} {Post : Pt → Array Value → Option Value → Pt → Prop} (hK : Back l R p e below s args y 3 W9 Pre Post)
    {b : Addr} {cellB : Cell} (hcell : T.heap[b]? = some cellB) (hobj : cellB.vm.isStatics = false) (hcls : s.vm.findClass C = some cellB.cls)
    {g : JFrame} (hg : g.method = m) (hsize : g.locals.size = c.maxLocals) {argsL rest : List Value} (hlen : ∀ sig, parseMethodDescriptor y.desc = some sig → argsL.length = sig.parameters.length)
    (hstack : g.stack = argsL.reverse ++ .ref b :: rest) (hW : 2 * g.monitorRoom + (rest.map fun v => v.category).sum ≤ W9) (hdg : decode c.code g.pc = .ok (.invokevirtual index, 3))
    (hpre : ∀ vm₁, s.WarmedH vm₁ → Pre ⟨T.setVm vm₁, locs, cells, slots⟩ (Value.ref b :: argsL).toArray) :
    ∃ (v : Option Value) (vm₁ : Vm) (B : Pt), s.WarmedH vm₁ ∧ Stand p l e R s m args below meth c B.U B.locs B.cells B.slots ∧ Post ⟨T.setVm vm₁, locs, cells, slots⟩ (Value.ref b :: argsL).toArray v B ∧
      ∀ target, Steps p.tables e below (B.U.setTop { g with pc := g.pc + 3, stack := v.toList ++ rest }) target → Steps p.tables e below (T.setTop g) target := by
  obtain ⟨mk, methM, hnamed, hmethM, hstM, habM⟩ := Cond.instanceMethod_spec hinst
  obtain ⟨m8, methM', cM, hn8, hmethM', -, -, -, -, -, -, hsigM⟩ := Cond.codeWith_spec hcode
  cases Option.some.inj (hn8.symm.trans hnamed)
  cases hmethM.symm.trans hmethM'
  obtain ⟨c2, r2, m2, q1, q2, q3, q4, kP, hkP, hkPi⟩ := Cond.selects_spec hsel
  cases hcls.symm.trans q1
  cases (State.methodFound?_of_named hnamed hy).symm.trans q2
  cases hnamed.symm.trans q3
  have hselP : selectMethod e.platform s.vm cellB.cls mk = .method mk := by rw [Launch.admits_selectMethod X.admits]; exact q4
  obtain ⟨vm₁, X₁, hstep₁⟩ := X.invokevirtual hexec hown hlink hnamed hmethM hstM hkP hkPi hy (a := b) (cell := cellB) hcell
    (fun z h => by rw [h] at hobj; cases hobj) hselP hmethM habM hkP hkPi (g := g) hg (argsL := argsL) (rest := rest) (hlen _ hsigM) hstack hdg
  obtain ⟨v, B, X', hpost, hsteps⟩ := hK m meth c ⟨T.setVm vm₁, locs, cells, slots⟩ { g with stack := rest } (.invokevirtual index) mk (Value.ref b :: argsL).toArray X₁ hg hsize hdg hW (X₁.named hnamed) (hpre vm₁ X₁.warmed)
  exact ⟨v, vm₁, B, X₁.warmed, X', hpost, fun target h => hstep₁ _ fun acts => by rw [doInvoke_state]; exact hsteps.trans h⟩
abbrev vx_CVW (R : Room) (s : State) (args : Array Value) (own C : String) (index : Nat) (y : MethodName) (bytes : ByteArray) (maxL : Nat) (ret : Option FieldType) (hh : List (Nat × Nat × Nat × Nat)) (ws : List Cond) (rm : Room) (mc ms n : Nat) : Prop :=
  (rm.cells = mc ∧ rm.slots = ms ∧ rm.frames + 1 ≤ R.frames ∧ 8 + (maxL + 11) + rm.locals ≤ R.locals ∧ (∀ w ∈ ws, ∀ (a' : Array Value) (U : State), s.WarmedH U.vm → w.before a' U = true) ∧ Cond.codeWith y bytes maxL ret hh ∈ ws) ∧
  (Cond.codeWith y bytes maxL ret hh).before args s = true ∧ (Cond.initialized y.cls).before args s = true ∧ (y.cls ≠ "java/lang/invoke/MethodHandle" ∧ y.cls ≠ "java/lang/invoke/VarHandle") ∧
  (∀ sig, parseMethodDescriptor y.desc = some sig → n = sig.parameters.length) ∧ (Cond.methodLink own index y).before args s = true ∧ (Cond.instanceMethod y).before args s = true ∧ (Cond.selects C y y).before args s = true
theorem vx_cwVW {own C : String} {index maxL mc ms : Nat} {y : MethodName} {bytes : ByteArray} {ret : Option FieldType} {hh : List (Nat × Nat × Nat × Nat)} {Ts ws ws' : List Cond} {rm : Room} (n : Nat) (ht : ∀ w ∈ Ts, w.before args s = true) (hT : GoodIn Ts (wsV own index C y ws)) (hw : ws = Cond.codeWith y bytes maxL ret hh :: ws') (hrc : rm.cells = mc) (hrs : rm.slots = ms)
    (hd : y.cls = C ∧ y.cls ≠ "java/lang/invoke/MethodHandle" ∧ y.cls ≠ "java/lang/invoke/VarHandle" ∧ (parseMethodDescriptor y.desc).map (fun d => d.parameters.length) = some n) (hR : rm.frames + 1 ≤ R.frames ∧ 8 + (maxL + 11) + rm.locals ≤ R.locals) :
    vx_CVW R s args own C index y bytes maxL ret hh ws rm mc ms n := by
  obtain ⟨hC, hd⟩ := hd
  subst hC
  have ok : ∀ w ∈ wsV own index y.cls y ws, w.before args s = true := fun w h => ht w (hT w h).1
  have hG : GoodIn Ts ws := fun w h => hT w (by unfold wsV; exact List.mem_append_right _ h)
  have hc : Cond.codeWith y bytes maxL ret hh ∈ ws := by rw [hw]; exact List.mem_cons_self
  refine ⟨⟨hrc, hrs, hR.1, hR.2, pay_in ht hG, hc⟩, ht _ (hG _ hc).1, ok _ (by simp [wsV]), ⟨hd.1, hd.2.1⟩, fun sig h => ?_, ok _ (by simp [wsV]), ok _ (by simp [wsV]), ok _ (by simp [wsV])⟩
  have h2 := hd.2.2
  rw [h] at h2
  exact (Option.some.inj h2).symm
theorem vx_runVW {y : MethodName} {bytes cc : ByteArray} {maxL nL mc ms n index : Nat} {ret : Option FieldType} {hh : List (Nat × Nat × Nat × Nat)} {ws : List Cond} {rm : Room} {Pc : Array Value → State → Prop} {Qc : Array Value → State → Outcome → State → Prop} {free : Addr → Prop} {Ts : List Cond} {own C : String} {b : Addr} {As rest : List Value} {g : JFrame}
    (S : CallFix p m c cc nL s args Ts own) (hM : Met l y ws rm Pc Qc mc ms free) (cw : vx_CVW R s args own C index y bytes maxL ret hh ws rm mc ms n) (hp : PreV s H C b Pc As)
    (hg : g.method = m) (hn : As.length = n) (hsize : g.locals.size = nL) (hstack : g.stack = As.reverse ++ .ref b :: rest) (hW : 2 * g.monitorRoom + (rest.map fun v => v.category).sum ≤ 8) (hdg : decode cc g.pc = .ok (.invokevirtual index, 3)) (hf : cells + mc ≤ R.cells ∧ slots + ms ≤ R.slots) :
    va_Run p l e R s m args below meth c H locs cells slots mc ms g rest (Qc (Value.ref b :: As).toArray) free := by
  obtain ⟨⟨hrc, hrs, hfr, hlo, hws, hcw⟩, hcode, hini, hy, hlen, hl, hin, hse⟩ := cw
  have hK : Back l R p e below s args y 3 8 (PreOf R mc ms Pc) (PostOf Qc mc ms free) := va_backW (hh := hh) (bytes := bytes) (maxL := maxL) (ret := ret) hM hp.1 hrc hrs hfr hlo hws hcw (fun a' U hW => word_at hW (Or.inl (by first | rfl | simp [Cond.onTables, Cond.keeps, Cond.steady])) hini)
  obtain ⟨hx, hb, hml, ho, -⟩ := S
  obtain ⟨-, ⟨cellB, hcB, hoB, hclB⟩, hPc⟩ := hp
  intro T hT X
  obtain ⟨v, vm₁, ⟨U', l2, c2, s2⟩, hW₁, X', ⟨g', mk, t, L, e1, e2, hq, h1, hL, h2, h3⟩, st⟩ := vx_callVW X hx (C := C) (hh := hh) (bytes := bytes) (maxL := maxL) (ret := ret) ho hl hin hse hcode hy hK (by rw [hT]; exact hcB) hoB hclB hg (hsize.trans hml.symm) (argsL := As) (rest := rest) (fun sig h => hn.trans (hlen sig h)) hstack hW (by rw [hb]; exact hdg)
    (fun vm₁ hW₁ => ⟨hf.1, hf.2, hPc (T.setVm vm₁) hT hW₁⟩)
  dsimp only [Pt.U, Pt.locs, Pt.cells, Pt.slots] at X' e1 e2 h1 h2 h3 st
  subst h1; subst h2; subst h3
  exact ⟨v, (T.setVm vm₁).calling g' mk (Value.ref b :: As).toArray, t, U', L, hT, X', hL, e1, e2, hq, st⟩
section
variable {y : MethodName} {bytes cc : ByteArray} {maxL nL mc ms n index : Nat} {ret : Option FieldType} {ws : List Cond} {rm : Room} {Pc : Array Value → State → Prop} {Qc : Array Value → State → Outcome → State → Prop} {XC : String → State → State → Prop} {free : Addr → Prop} {Ts : List Cond} {own C : String} {b : Addr} {As rest : List Value} {g : JFrame}
theorem vx_runVX {hh : List (Nat × Nat × Nat × Nat)} (S : CallFix p m c cc nL s args Ts own) (hM : vx_Met l y ws rm Pc Qc XC mc ms free) (cw : vx_CVW R s args own C index y bytes maxL ret hh ws rm mc ms n) (hp : PreV s H C b Pc As)
    (hg : g.method = m) (hn : As.length = n) (hsize : g.locals.size = nL) (hstack : g.stack = As.reverse ++ .ref b :: rest) (hW : 2 * g.monitorRoom + (rest.map fun v => v.category).sum ≤ 8) (hdg : decode cc g.pc = .ok (.invokevirtual index, 3)) (hf : cells + mc ≤ R.cells ∧ slots + ms ≤ R.slots) :
    vx_Run p l e R s m args below meth c H locs cells slots mc ms g rest (Qc (Value.ref b :: As).toArray) XC free := by
  obtain ⟨⟨hrc, hrs, hfr, hlo, hws, hcw⟩, hcode, hini, hy, hlen, hl, hin, hse⟩ := cw
  have hK : vx_Back l R p e below s args y 3 8 (PreOf R mc ms Pc) (PostOf Qc mc ms free) (vx_Post XC mc ms free) := vx_backW (hh := hh) (bytes := bytes) (maxL := maxL) (ret := ret) hM hp.1 hrc hrs hfr hlo hws hcw (fun a' U hW => word_at hW (Or.inl (by first | rfl | simp [Cond.onTables, Cond.keeps, Cond.steady])) hini)
  obtain ⟨hx, hb, hml, ho, -⟩ := S
  obtain ⟨-, ⟨cellB, hcB, hoB, hclB⟩, hPc⟩ := hp
  intro T hT X
  rcases vx_callVX X hx (C := C) (hh := hh) (bytes := bytes) (maxL := maxL) (ret := ret) ho hl hin hse hcode hy hK (by rw [hT]; exact hcB) hoB hclB hg (hsize.trans hml.symm) (argsL := As) (rest := rest) (fun sig h => hn.trans (hlen sig h)) hstack hW (by rw [hb]; exact hdg)
    (fun vm₁ hW₁ => ⟨hf.1, hf.2, hPc (T.setVm vm₁) hT hW₁⟩) with ⟨v, vm₁, ⟨U', l2, c2, s2⟩, hW₁, X', ⟨g', mk, t, L, e1, e2, hq, h1, hL, h2, h3⟩, st⟩ | ⟨q, vm₁, ⟨U', l2, c2, s2⟩, hW₁, X', ⟨g', mk, t, L, E, ce, e1, e2, hq, hce, hcv, hcl, h1, hL, h2, h3⟩, st⟩
  · dsimp only [Pt.U, Pt.locs, Pt.cells, Pt.slots] at X' e1 e2 h1 h2 h3 st
    subst h1; subst h2; subst h3
    exact Or.inl ⟨v, (T.setVm vm₁).calling g' mk (Value.ref b :: As).toArray, t, U', L, hT, X', hL, e1, e2, hq, st⟩
  · dsimp only [Pt.U, Pt.locs, Pt.cells, Pt.slots] at X' e1 e2 h1 h2 h3 st hcl
    subst h1; subst h2; subst h3
    exact Or.inr ⟨q, (T.setVm vm₁).calling g' mk (Value.ref b :: As).toArray, t, U', L, E, ce, hT, X', hL, e1, e2, hq, hce, hcv, vx_cls hW₁ hcl, st⟩
theorem vx_runSX {hh : List (Nat × Nat × Nat × Nat)} (S : CallFix p m c cc nL s args Ts own) (hM : vx_Met l y ws rm Pc Qc XC mc ms free) (cw : vx_CSW R s args own index y bytes maxL ret hh ws rm mc ms n) (hp : PreS s H Pc As)
    (hg : g.method = m) (hn : As.length = n) (hsize : g.locals.size = nL) (hstack : g.stack = As.reverse ++ rest) (hW : 2 * g.monitorRoom + (rest.map fun v => v.category).sum ≤ 8) (hdg : decode cc g.pc = .ok (.invokestatic index, 3)) (hf : cells + mc ≤ R.cells ∧ slots + ms ≤ R.slots) :
    vx_Run p l e R s m args below meth c H locs cells slots mc ms g rest (Qc As.toArray) XC free := by
  obtain ⟨⟨hrc, hrs, hfr, hlo, hws, hcw⟩, hcode, hini, hy, hlen, hl, hstt⟩ := cw
  have hK : vx_Back l R p e below s args y 3 8 (PreOf R mc ms Pc) (PostOf Qc mc ms free) (vx_Post XC mc ms free) := vx_backW (hh := hh) (bytes := bytes) (maxL := maxL) (ret := ret) hM hp.1 hrc hrs hfr hlo hws hcw (fun a' U hW => word_at hW (Or.inl (by first | rfl | simp [Cond.onTables, Cond.keeps, Cond.steady])) hini)
  obtain ⟨hx, hb, hml, ho, -⟩ := S
  intro T hT X
  rcases vx_callSX X hx (hh := hh) (bytes := bytes) (maxL := maxL) (ret := ret) ho hl hstt hini hcode hy hK hg (hsize.trans hml.symm) (argsL := As) (rest := rest) (fun sig h => hn.trans (hlen sig h)) hstack hW (by rw [hb]; exact hdg)
    (fun vm₁ hW₁ => ⟨hf.1, hf.2, hp.2 (T.setVm vm₁) hT hW₁⟩) with ⟨v, vm₁, ⟨U', l2, c2, s2⟩, hW₁, X', ⟨g', mk, t, L, e1, e2, hq, h1, hL, h2, h3⟩, st⟩ | ⟨q, vm₁, ⟨U', l2, c2, s2⟩, hW₁, X', ⟨g', mk, t, L, E, ce, e1, e2, hq, hce, hcv, hcl, h1, hL, h2, h3⟩, st⟩
  · dsimp only [Pt.U, Pt.locs, Pt.cells, Pt.slots] at X' e1 e2 h1 h2 h3 st
    subst h1; subst h2; subst h3
    exact Or.inl ⟨v, (T.setVm vm₁).calling g' mk As.toArray, t, U', L, hT, X', hL, e1, e2, hq, st⟩
  · dsimp only [Pt.U, Pt.locs, Pt.cells, Pt.slots] at X' e1 e2 h1 h2 h3 st hcl
    subst h1; subst h2; subst h3
    exact Or.inr ⟨q, (T.setVm vm₁).calling g' mk As.toArray, t, U', L, E, ce, hT, X', hL, e1, e2, hq, hce, hcv, vx_cls hW₁ hcl, st⟩
end
end VXH
theorem vx_ofWH {l : Launch} {y : MethodName} {ws ws' : List Cond} {rm : Room} {Pc : Array Value → State → Prop} {Qc : Array Value → State → Outcome → State → Prop} {XC : String → State → State → Prop} {mc ms : Nat} {free : Addr → Prop} {cc : ByteArray} {maxL : Nat} {ret : Option FieldType} {hh : List (Nat × Nat × Nat × Nat)}
    (hy : plainName y.cls = true) (hw : ws = Cond.codeWith y cc maxL ret hh :: ws')
    (body : ∀ p e s m args below meth c s₁, BodyLoose p l y (headSpec ws rm) cc maxL ret e s m args below meth c s₁ → c.maxLocals = maxL → Pc args s →
      W p l e (headSpec ws rm).room s m args below meth c s.heap [] 0 0 (vx_MQ below Qc XC args s mc ms free) (entryFrame m args maxL)) : vx_Met l y ws rm Pc Qc XC mc ms free := by
  refine MetFree.of_bodyS (code := cc) (maxLocals := maxL) (ret := ret) hy ?_ ?_
  · intro args s m h hn
    obtain ⟨m9, meth, c, hn9, h1, h2, h3, h4, -, h5, h6, -⟩ := Cond.codeWith_spec (atoms_spec (ws := ws) h _ (by rw [hw]; exact List.mem_cons_self))
    cases hn.symm.trans hn9
    exact ⟨meth, c, h1, h2, h3, h4, h5, h6⟩
  · intro p e s m args below meth c s₁ B hml hP _
    have hh0 : s₁.heap = s.heap := by rw [B.state]; rfl
    obtain ⟨t, a1, o, b1, b2, b3⟩ := body p e s m args below meth c s₁ B hml hP s₁ hh0 (Stand.of_body B)
    exact ⟨t, o, a1, b1, b2, b3⟩
/-! ===== END ===== -/
end
section
def RX0 : String := "ThinExtents$Pool"
def TX0 : u_T := fun k => match k with
  | 0 => ("ThinExtents$Pool", "size", "I", false)
  | 1 => ("ThinExtents$Pool", "cursor", "I", false)
  | 2 => ("ThinExtents$Pool", "alarmAt", "I", false)
  | 3 => ("ThinExtents$Pool", "alarms", "I", false)
  | 4 => ("ThinExtents$Pool", "taken", "I", false)
  | 5 => ("ThinExtents$Pool", "live", "LThinExtents$State;", true)
  | 6 => ("ThinExtents$Pool", "committed", "LThinExtents$State;", true)
  | 7 => ("ThinExtents$Pool", "held", "LThinExtents$State;", true)
  | _ => ("ThinExtents$Pool", "words", "[I", true)
def tyX0 : Nat → FieldType := fun k => match k with
  | 0 => .int
  | 1 => .int
  | 2 => .int
  | 3 => .int
  | 4 => .int
  | 5 => .object "ThinExtents$State"
  | 6 => .object "ThinExtents$State"
  | 7 => .object "ThinExtents$State"
  | _ => .array .int
abbrev wsX00 : List Cond := u_ws RX0 TX0 9
theorem nmX0 : ∀ a, a < 9 → ∀ b, b < 9 → a ≠ b → (TX0 a).2.1 ≠ (TX0 b).2.1 := by decide +kernel
theorem tyX0_ok : ∀ k, k < 9 → parseFieldDescriptor (TX0 k).2.2.1 = some (tyX0 k) := by decide +kernel
abbrev cX0_init : ByteArray := prog_2_method_1_code
def yX0_init : MethodName := ⟨RX0, "<init>", "(LThinExtents$State;LThinExtents$State;LThinExtents$State;)V"⟩
abbrev cX0_isFree : ByteArray := prog_2_method_2_code
def yX0_isFree : MethodName := ⟨RX0, "isFree", "(I)Z"⟩
abbrev cX0_isSole : ByteArray := prog_2_method_3_code
def yX0_isSole : MethodName := ⟨RX0, "isSole", "(I)Z"⟩
abbrev cX0_areFree : ByteArray := prog_2_method_4_code
def yX0_areFree : MethodName := ⟨RX0, "areFree", "(II)Z"⟩
abbrev cX0_countFree : ByteArray := prog_2_method_5_code
def yX0_countFree : MethodName := ⟨RX0, "countFree", "()I"⟩
abbrev cX0_take : ByteArray := prog_2_method_6_code
def yX0_take : MethodName := ⟨RX0, "take", "()I"⟩
abbrev cX0_wordAt : ByteArray := prog_2_method_7_code
def yX0_wordAt : MethodName := ⟨RX0, "wordAt", "(II)I"⟩
abbrev cX0_setWord : ByteArray := prog_2_method_8_code
def yX0_setWord : MethodName := ⟨RX0, "setWord", "(III)V"⟩
def RX1 : String := "ThinExtents$Queue"
def TX1 : u_T := fun k => match k with
  | 0 => ("ThinExtents$Queue", "count", "I", false)
  | 1 => ("ThinExtents$Queue", "volumes", "[I", true)
  | 2 => ("ThinExtents$Queue", "words", "[I", true)
  | _ => ("ThinExtents$Queue", "values", "[I", true)
def tyX1 : Nat → FieldType := fun k => match k with
  | 0 => .int
  | 1 => .array .int
  | 2 => .array .int
  | _ => .array .int
abbrev wsX10 : List Cond := u_ws RX1 TX1 4
theorem nmX1 : ∀ a, a < 4 → ∀ b, b < 4 → a ≠ b → (TX1 a).2.1 ≠ (TX1 b).2.1 := by decide +kernel
theorem tyX1_ok : ∀ k, k < 4 → parseFieldDescriptor (TX1 k).2.2.1 = some (tyX1 k) := by decide +kernel
abbrev cX1_init : ByteArray := prog_3_method_1_code
def yX1_init : MethodName := ⟨RX1, "<init>", "()V"⟩
abbrev cX1_add : ByteArray := prog_3_method_2_code
def yX1_add : MethodName := ⟨RX1, "add", "(III)Z"⟩
abbrev cX1_put : ByteArray := prog_3_method_3_code
def yX1_put : MethodName := ⟨RX1, "put", "(IIII)V"⟩
abbrev cX1_volumeAt : ByteArray := prog_3_method_4_code
def yX1_volumeAt : MethodName := ⟨RX1, "volumeAt", "(I)I"⟩
abbrev cX1_wordAt : ByteArray := prog_3_method_5_code
def yX1_wordAt : MethodName := ⟨RX1, "wordAt", "(I)I"⟩
abbrev cX1_valueAt : ByteArray := prog_3_method_6_code
def yX1_valueAt : MethodName := ⟨RX1, "valueAt", "(I)I"⟩
abbrev cX1_waitsIn : ByteArray := prog_3_method_7_code
def yX1_waitsIn : MethodName := ⟨RX1, "waitsIn", "(III)Z"⟩
abbrev cX1_countOf : ByteArray := prog_3_method_8_code
def yX1_countOf : MethodName := ⟨RX1, "countOf", "(I)I"⟩
abbrev cX1_removeFirst : ByteArray := prog_3_method_9_code
def yX1_removeFirst : MethodName := ⟨RX1, "removeFirst", "()V"⟩
abbrev cX1_removeAllOf : ByteArray := prog_3_method_10_code
def yX1_removeAllOf : MethodName := ⟨RX1, "removeAllOf", "(I)I"⟩
abbrev cX1_removeAll : ByteArray := prog_3_method_11_code
def yX1_removeAll : MethodName := ⟨RX1, "removeAll", "()I"⟩
def RX2 : String := "ThinExtents$State"
def TX2 : u_T := fun k => match k with
  | 0 => ("ThinExtents$State", "sign", "I", false)
  | 1 => ("ThinExtents$State", "count", "I", false)
  | 2 => ("ThinExtents$State", "volumes", "[LThinExtents$Volume;", true)
  | _ => ("ThinExtents$State", "uses", "[I", true)
def tyX2 : Nat → FieldType := fun k => match k with
  | 0 => .int
  | 1 => .int
  | 2 => .array (.object "ThinExtents$Volume")
  | _ => .array .int
abbrev wsX20 : List Cond := u_ws RX2 TX2 4
theorem nmX2 : ∀ a, a < 4 → ∀ b, b < 4 → a ≠ b → (TX2 a).2.1 ≠ (TX2 b).2.1 := by decide +kernel
theorem tyX2_ok : ∀ k, k < 4 → parseFieldDescriptor (TX2 k).2.2.1 = some (tyX2 k) := by decide +kernel
abbrev cX2_init : ByteArray := prog_4_method_1_code
def yX2_init : MethodName := ⟨RX2, "<init>", "()V"⟩
abbrev cX2_slot : ByteArray := prog_4_method_2_code
def yX2_slot : MethodName := ⟨RX2, "slot", "(I)LThinExtents$Volume;"⟩
abbrev cX2_find : ByteArray := prog_4_method_3_code
def yX2_find : MethodName := ⟨RX2, "find", "(I)LThinExtents$Volume;"⟩
abbrev cX2_add : ByteArray := prog_4_method_4_code
def yX2_add : MethodName := ⟨RX2, "add", "(LThinExtents$Volume;IZII)V"⟩
abbrev cX2_remove : ByteArray := prog_4_method_5_code
def yX2_remove : MethodName := ⟨RX2, "remove", "(LThinExtents$Volume;)V"⟩
abbrev cX2_usesOf : ByteArray := prog_4_method_6_code
def yX2_usesOf : MethodName := ⟨RX2, "usesOf", "(I)I"⟩
abbrev cX2_setExtent : ByteArray := prog_4_method_7_code
def yX2_setExtent : MethodName := ⟨RX2, "setExtent", "(LThinExtents$Volume;II)V"⟩
abbrev cX2_unmap : ByteArray := prog_4_method_8_code
def yX2_unmap : MethodName := ⟨RX2, "unmap", "(LThinExtents$Volume;II)I"⟩
abbrev cX2_userOf : ByteArray := prog_4_method_9_code
def yX2_userOf : MethodName := ⟨RX2, "userOf", "(II)I"⟩
abbrev cX2_hasBacked : ByteArray := prog_4_method_10_code
def yX2_hasBacked : MethodName := ⟨RX2, "hasBacked", "()Z"⟩
abbrev cX2_copy : ByteArray := prog_4_method_11_code
def yX2_copy : MethodName := ⟨RX2, "copy", "(LThinExtents$State;)V"⟩
abbrev cX2_clear : ByteArray := prog_4_method_12_code
def yX2_clear : MethodName := ⟨RX2, "clear", "()V"⟩
def RX3 : String := "ThinExtents$Volume"
def TX3 : u_T := fun k => match k with
  | 0 => ("ThinExtents$Volume", "there", "Z", false)
  | 1 => ("ThinExtents$Volume", "backed", "Z", false)
  | 2 => ("ThinExtents$Volume", "size", "I", false)
  | 3 => ("ThinExtents$Volume", "limit", "I", false)
  | 4 => ("ThinExtents$Volume", "origin", "I", false)
  | 5 => ("ThinExtents$Volume", "mapped", "I", false)
  | _ => ("ThinExtents$Volume", "extents", "[I", true)
def tyX3 : Nat → FieldType := fun k => match k with
  | 0 => .boolean
  | 1 => .boolean
  | 2 => .int
  | 3 => .int
  | 4 => .int
  | 5 => .int
  | _ => .array .int
abbrev wsX30 : List Cond := u_ws RX3 TX3 7
theorem nmX3 : ∀ a, a < 7 → ∀ b, b < 7 → a ≠ b → (TX3 a).2.1 ≠ (TX3 b).2.1 := by decide +kernel
theorem tyX3_ok : ∀ k, k < 7 → parseFieldDescriptor (TX3 k).2.2.1 = some (tyX3 k) := by decide +kernel
abbrev cX3_init : ByteArray := prog_5_method_1_code
def yX3_init : MethodName := ⟨RX3, "<init>", "()V"⟩
abbrev cX3_extentOf : ByteArray := prog_5_method_2_code
def yX3_extentOf : MethodName := ⟨RX3, "extentOf", "(I)I"⟩
abbrev cX3_setExtent : ByteArray := prog_5_method_3_code
def yX3_setExtent : MethodName := ⟨RX3, "setExtent", "(II)V"⟩
abbrev cX3_lastMapped : ByteArray := prog_5_method_4_code
def yX3_lastMapped : MethodName := ⟨RX3, "lastMapped", "()I"⟩
abbrev cX3_copy : ByteArray := prog_5_method_5_code
def yX3_copy : MethodName := ⟨RX3, "copy", "(LThinExtents$Volume;)V"⟩
abbrev cX3_clear : ByteArray := prog_5_method_6_code
def yX3_clear : MethodName := ⟨RX3, "clear", "()V"⟩
def RX4 : String := "ThinExtents"
def TX4 : u_T := fun k => match k with
  | 0 => ("ThinExtents", "live", "LThinExtents$State;", true)
  | 1 => ("ThinExtents", "committed", "LThinExtents$State;", true)
  | 2 => ("ThinExtents", "held", "LThinExtents$State;", true)
  | 3 => ("ThinExtents", "pool", "LThinExtents$Pool;", true)
  | 4 => ("ThinExtents", "queue", "LThinExtents$Queue;", true)
  | 5 => ("ThinExtents", "backing", "[I", true)
  | 6 => ("ThinExtents", "holding", "Z", false)
  | 7 => ("ThinExtents", "mode", "I", false)
  | 8 => ("ThinExtents", "patienceSet", "I", false)
  | 9 => ("ThinExtents", "failsAt", "I", false)
  | 10 => ("ThinExtents", "now", "I", false)
  | 11 => ("ThinExtents", "failed", "I", false)
  | _ => ("ThinExtents", "commits", "I", false)
def tyX4 : Nat → FieldType := fun k => match k with
  | 0 => .object "ThinExtents$State"
  | 1 => .object "ThinExtents$State"
  | 2 => .object "ThinExtents$State"
  | 3 => .object "ThinExtents$Pool"
  | 4 => .object "ThinExtents$Queue"
  | 5 => .array .int
  | 6 => .boolean
  | 7 => .int
  | 8 => .int
  | 9 => .int
  | 10 => .int
  | 11 => .int
  | _ => .int
abbrev wsX40 : List Cond := u_ws RX4 TX4 13
theorem nmX4 : ∀ a, a < 13 → ∀ b, b < 13 → a ≠ b → (TX4 a).2.1 ≠ (TX4 b).2.1 := by decide +kernel
theorem tyX4_ok : ∀ k, k < 13 → parseFieldDescriptor (TX4 k).2.2.1 = some (tyX4 k) := by decide +kernel
abbrev cX4_init : ByteArray := prog_1_method_1_code
def yX4_init : MethodName := ⟨RX4, "<init>", "()V"⟩
abbrev cX4_make : ByteArray := prog_1_method_2_code
def yX4_make : MethodName := ⟨RX4, "make", "(IIZ)I"⟩
abbrev cX4_snap : ByteArray := prog_1_method_3_code
def yX4_snap : MethodName := ⟨RX4, "snap", "(II)I"⟩
abbrev cX4_drop : ByteArray := prog_1_method_4_code
def yX4_drop : MethodName := ⟨RX4, "drop", "(I)I"⟩
abbrev cX4_resize : ByteArray := prog_1_method_5_code
def yX4_resize : MethodName := ⟨RX4, "resize", "(II)I"⟩
abbrev cX4_write : ByteArray := prog_1_method_6_code
def yX4_write : MethodName := ⟨RX4, "write", "(III)I"⟩
abbrev cX4_read : ByteArray := prog_1_method_7_code
def yX4_read : MethodName := ⟨RX4, "read", "(II)I"⟩
abbrev cX4_discard : ByteArray := prog_1_method_8_code
def yX4_discard : MethodName := ⟨RX4, "discard", "(III)I"⟩
abbrev cX4_grow : ByteArray := prog_1_method_9_code
def yX4_grow : MethodName := ⟨RX4, "grow", "(I)I"⟩
abbrev cX4_shrink : ByteArray := prog_1_method_10_code
def yX4_shrink : MethodName := ⟨RX4, "shrink", "(I)I"⟩
abbrev cX4_back : ByteArray := prog_1_method_11_code
def yX4_back : MethodName := ⟨RX4, "back", "(II)I"⟩
abbrev cX4_quota : ByteArray := prog_1_method_12_code
def yX4_quota : MethodName := ⟨RX4, "quota", "(II)I"⟩
abbrev cX4_mark : ByteArray := prog_1_method_13_code
def yX4_mark : MethodName := ⟨RX4, "mark", "(II)Z"⟩
abbrev cX4_marked : ByteArray := prog_1_method_14_code
def yX4_marked : MethodName := ⟨RX4, "marked", "(I)I"⟩
abbrev cX4_commit : ByteArray := prog_1_method_15_code
def yX4_commit : MethodName := ⟨RX4, "commit", "()I"⟩
abbrev cX4_cut : ByteArray := prog_1_method_16_code
def yX4_cut : MethodName := ⟨RX4, "cut", "(I)I"⟩
abbrev cX4_hold : ByteArray := prog_1_method_17_code
def yX4_hold : MethodName := ⟨RX4, "hold", "()I"⟩
abbrev cX4_release : ByteArray := prog_1_method_18_code
def yX4_release : MethodName := ⟨RX4, "release", "()Z"⟩
abbrev cX4_patience : ByteArray := prog_1_method_19_code
def yX4_patience : MethodName := ⟨RX4, "patience", "(I)I"⟩
abbrev cX4_alarm : ByteArray := prog_1_method_20_code
def yX4_alarm : MethodName := ⟨RX4, "alarm", "(I)I"⟩
abbrev cX4_tick : ByteArray := prog_1_method_21_code
def yX4_tick : MethodName := ⟨RX4, "tick", "(I)I"⟩
abbrev cX4_map : ByteArray := prog_1_method_22_code
def yX4_map : MethodName := ⟨RX4, "map", "(III)I"⟩
abbrev cX4_volume : ByteArray := prog_1_method_23_code
def yX4_volume : MethodName := ⟨RX4, "volume", "(II)I"⟩
abbrev cX4_differ : ByteArray := prog_1_method_24_code
def yX4_differ : MethodName := ⟨RX4, "differ", "(III)I"⟩
abbrev cX4_users : ByteArray := prog_1_method_25_code
def yX4_users : MethodName := ⟨RX4, "users", "(I)I"⟩
abbrev cX4_user : ByteArray := prog_1_method_26_code
def yX4_user : MethodName := ⟨RX4, "user", "(II)I"⟩
abbrev cX4_told : ByteArray := prog_1_method_27_code
def yX4_told : MethodName := ⟨RX4, "told", "(I)I"⟩
abbrev cX4_numbered : ByteArray := prog_1_method_28_code
def yX4_numbered : MethodName := ⟨RX4, "numbered", "(I)LThinExtents$Volume;"⟩
abbrev cX4_existing : ByteArray := prog_1_method_29_code
def yX4_existing : MethodName := ⟨RX4, "existing", "(I)LThinExtents$Volume;"⟩
abbrev cX4_requireSize : ByteArray := prog_1_method_30_code
def yX4_requireSize : MethodName := ⟨RX4, "requireSize", "(I)V"⟩
abbrev cX4_requireWord : ByteArray := prog_1_method_31_code
def yX4_requireWord : MethodName := ⟨RX4, "requireWord", "(LThinExtents$Volume;I)V"⟩
abbrev cX4_requireNoneWaits : ByteArray := prog_1_method_32_code
def yX4_requireNoneWaits : MethodName := ⟨RX4, "requireNoneWaits", "(III)V"⟩
abbrev cX4_requireNotNegative : ByteArray := prog_1_method_33_code
def yX4_requireNotNegative : MethodName := ⟨RX4, "requireNotNegative", "(I)V"⟩
abbrev cX4_requireExtent : ByteArray := prog_1_method_34_code
def yX4_requireExtent : MethodName := ⟨RX4, "requireExtent", "(I)V"⟩
abbrev cX4_stateOf : ByteArray := prog_1_method_35_code
def yX4_stateOf : MethodName := ⟨RX4, "stateOf", "(I)LThinExtents$State;"⟩
abbrev cX4_needsExtent : ByteArray := prog_1_method_36_code
def yX4_needsExtent : MethodName := ⟨RX4, "needsExtent", "(LThinExtents$Volume;I)Z"⟩
abbrev cX4_isOver : ByteArray := prog_1_method_37_code
def yX4_isOver : MethodName := ⟨RX4, "isOver", "(LThinExtents$Volume;I)Z"⟩
abbrev cX4_writeNeeding : ByteArray := prog_1_method_38_code
def yX4_writeNeeding : MethodName := ⟨RX4, "writeNeeding", "(LThinExtents$Volume;III)I"⟩
abbrev cX4_enqueue : ByteArray := prog_1_method_39_code
def yX4_enqueue : MethodName := ⟨RX4, "enqueue", "(III)I"⟩
abbrev cX4_perform : ByteArray := prog_1_method_40_code
def yX4_perform : MethodName := ⟨RX4, "perform", "(LThinExtents$Volume;II)I"⟩
abbrev cX4_wordOf : ByteArray := prog_1_method_41_code
def yX4_wordOf : MethodName := ⟨RX4, "wordOf", "(LThinExtents$Volume;I)I"⟩
abbrev cX4_writeHead : ByteArray := prog_1_method_42_code
def yX4_writeHead : MethodName := ⟨RX4, "writeHead", "()V"⟩
abbrev cX4_serveQueue : ByteArray := prog_1_method_43_code
def yX4_serveQueue : MethodName := ⟨RX4, "serveQueue", "()V"⟩
abbrev cX4_serveFirst : ByteArray := prog_1_method_44_code
def yX4_serveFirst : MethodName := ⟨RX4, "serveFirst", "()Z"⟩
abbrev cX4_countShared : ByteArray := prog_1_method_45_code
def yX4_countShared : MethodName := ⟨RX4, "countShared", "(LThinExtents$Volume;)I"⟩
abbrev cX4_sortOf : ByteArray := prog_1_method_46_code
def yX4_sortOf : MethodName := ⟨RX4, "sortOf", "(LThinExtents$Volume;LThinExtents$Volume;I)I"⟩
abbrev cX4_countSort : ByteArray := prog_1_method_47_code
def yX4_countSort : MethodName := ⟨RX4, "countSort", "(LThinExtents$Volume;LThinExtents$Volume;I)I"⟩
abbrev cX4_countRuns : ByteArray := prog_1_method_48_code
def yX4_countRuns : MethodName := ⟨RX4, "countRuns", "(LThinExtents$Volume;LThinExtents$Volume;)I"⟩
def RX5 : String := "ThinExtentsModel"
def TX5 : u_T := fun k => match k with
  | 0 => ("ThinExtentsModel", "thrown", "I", false)
  | 1 => ("ThinExtentsModel", "there", "[Z", true)
  | 2 => ("ThinExtentsModel", "size", "[I", true)
  | 3 => ("ThinExtentsModel", "backed", "[Z", true)
  | 4 => ("ThinExtentsModel", "quota", "[I", true)
  | 5 => ("ThinExtentsModel", "origin", "[I", true)
  | 6 => ("ThinExtentsModel", "map", "[I", true)
  | 7 => ("ThinExtentsModel", "mark", "[I", true)
  | 8 => ("ThinExtentsModel", "held", "Z", false)
  | 9 => ("ThinExtentsModel", "extents", "I", false)
  | 10 => ("ThinExtentsModel", "words", "[I", true)
  | 11 => ("ThinExtentsModel", "backing", "[I", true)
  | 12 => ("ThinExtentsModel", "cursor", "I", false)
  | 13 => ("ThinExtentsModel", "alarm", "I", false)
  | 14 => ("ThinExtentsModel", "alarms", "I", false)
  | 15 => ("ThinExtentsModel", "taken", "I", false)
  | 16 => ("ThinExtentsModel", "mode", "I", false)
  | 17 => ("ThinExtentsModel", "patience", "I", false)
  | 18 => ("ThinExtentsModel", "limit", "I", false)
  | 19 => ("ThinExtentsModel", "waited", "I", false)
  | 20 => ("ThinExtentsModel", "time", "I", false)
  | 21 => ("ThinExtentsModel", "failed", "I", false)
  | 22 => ("ThinExtentsModel", "commits", "I", false)
  | 23 => ("ThinExtentsModel", "queued", "I", false)
  | 24 => ("ThinExtentsModel", "queueVolume", "[I", true)
  | 25 => ("ThinExtentsModel", "queueWord", "[I", true)
  | _ => ("ThinExtentsModel", "queueValue", "[I", true)
def tyX5 : Nat → FieldType := fun k => match k with
  | 0 => .int
  | 1 => .array .boolean
  | 2 => .array .int
  | 3 => .array .boolean
  | 4 => .array .int
  | 5 => .array .int
  | 6 => .array .int
  | 7 => .array .int
  | 8 => .boolean
  | 9 => .int
  | 10 => .array .int
  | 11 => .array .int
  | 12 => .int
  | 13 => .int
  | 14 => .int
  | 15 => .int
  | 16 => .int
  | 17 => .int
  | 18 => .int
  | 19 => .int
  | 20 => .int
  | 21 => .int
  | 22 => .int
  | 23 => .int
  | 24 => .array .int
  | 25 => .array .int
  | _ => .array .int
abbrev wsX50 : List Cond := u_ws RX5 TX5 27
theorem nmX5 : ∀ a, a < 27 → ∀ b, b < 27 → a ≠ b → (TX5 a).2.1 ≠ (TX5 b).2.1 := by decide +kernel
theorem tyX5_ok : ∀ k, k < 27 → parseFieldDescriptor (TX5 k).2.2.1 = some (tyX5 k) := by decide +kernel
abbrev cX5_init : ByteArray := prog_7_method_1_code
def yX5_init : MethodName := ⟨RX5, "<init>", "()V"⟩
abbrev cX5_thrown : ByteArray := prog_7_method_2_code
def yX5_thrown : MethodName := ⟨RX5, "thrown", "()I"⟩
abbrev cX5_isNumber : ByteArray := prog_7_method_3_code
def yX5_isNumber : MethodName := ⟨RX5, "isNumber", "(I)Z"⟩
abbrev cX5_isVolume : ByteArray := prog_7_method_4_code
def yX5_isVolume : MethodName := ⟨RX5, "isVolume", "(I)Z"⟩
abbrev cX5_isSize : ByteArray := prog_7_method_5_code
def yX5_isSize : MethodName := ⟨RX5, "isSize", "(I)Z"⟩
abbrev cX5_at : ByteArray := prog_7_method_6_code
def yX5_at : MethodName := ⟨RX5, "at", "(III)I"⟩
abbrev cX5_usersOf : ByteArray := prog_7_method_7_code
def yX5_usersOf : MethodName := ⟨RX5, "usersOf", "(II)I"⟩
abbrev cX5_isFree : ByteArray := prog_7_method_8_code
def yX5_isFree : MethodName := ⟨RX5, "isFree", "(I)Z"⟩
abbrev cX5_isSole : ByteArray := prog_7_method_9_code
def yX5_isSole : MethodName := ⟨RX5, "isSole", "(I)Z"⟩
abbrev cX5_freeMany : ByteArray := prog_7_method_10_code
def yX5_freeMany : MethodName := ⟨RX5, "freeMany", "()I"⟩
abbrev cX5_mapped : ByteArray := prog_7_method_11_code
def yX5_mapped : MethodName := ⟨RX5, "mapped", "(I)I"⟩
abbrev cX5_volumes : ByteArray := prog_7_method_12_code
def yX5_volumes : MethodName := ⟨RX5, "volumes", "(I)I"⟩
abbrev cX5_clearState : ByteArray := prog_7_method_13_code
def yX5_clearState : MethodName := ⟨RX5, "clearState", "(I)V"⟩
abbrev cX5_copy : ByteArray := prog_7_method_14_code
def yX5_copy : MethodName := ⟨RX5, "copy", "(II)V"⟩
abbrev cX5_copyVolume : ByteArray := prog_7_method_15_code
def yX5_copyVolume : MethodName := ⟨RX5, "copyVolume", "(IIII)V"⟩
abbrev cX5_needs : ByteArray := prog_7_method_16_code
def yX5_needs : MethodName := ⟨RX5, "needs", "(II)Z"⟩
abbrev cX5_isOver : ByteArray := prog_7_method_17_code
def yX5_isOver : MethodName := ⟨RX5, "isOver", "(II)Z"⟩
abbrev cX5_wordOf : ByteArray := prog_7_method_18_code
def yX5_wordOf : MethodName := ⟨RX5, "wordOf", "(II)I"⟩
abbrev cX5_take : ByteArray := prog_7_method_19_code
def yX5_take : MethodName := ⟨RX5, "take", "(II)V"⟩
abbrev cX5_perform : ByteArray := prog_7_method_20_code
def yX5_perform : MethodName := ⟨RX5, "perform", "(III)I"⟩
abbrev cX5_waits : ByteArray := prog_7_method_21_code
def yX5_waits : MethodName := ⟨RX5, "waits", "(II)Z"⟩
abbrev cX5_enqueue : ByteArray := prog_7_method_22_code
def yX5_enqueue : MethodName := ⟨RX5, "enqueue", "(III)I"⟩
abbrev cX5_unqueue : ByteArray := prog_7_method_23_code
def yX5_unqueue : MethodName := ⟨RX5, "unqueue", "(I)V"⟩
abbrev cX5_drain : ByteArray := prog_7_method_24_code
def yX5_drain : MethodName := ⟨RX5, "drain", "()V"⟩
abbrev cX5_write : ByteArray := prog_7_method_25_code
def yX5_write : MethodName := ⟨RX5, "write", "(III)I"⟩
abbrev cX5_read : ByteArray := prog_7_method_26_code
def yX5_read : MethodName := ⟨RX5, "read", "(II)I"⟩
abbrev cX5_make : ByteArray := prog_7_method_27_code
def yX5_make : MethodName := ⟨RX5, "make", "(IIZ)I"⟩
abbrev cX5_snap : ByteArray := prog_7_method_28_code
def yX5_snap : MethodName := ⟨RX5, "snap", "(II)I"⟩
abbrev cX5_drop : ByteArray := prog_7_method_29_code
def yX5_drop : MethodName := ⟨RX5, "drop", "(I)I"⟩
abbrev cX5_waitsIn : ByteArray := prog_7_method_30_code
def yX5_waitsIn : MethodName := ⟨RX5, "waitsIn", "(III)Z"⟩
abbrev cX5_unmap : ByteArray := prog_7_method_31_code
def yX5_unmap : MethodName := ⟨RX5, "unmap", "(III)I"⟩
abbrev cX5_resize : ByteArray := prog_7_method_32_code
def yX5_resize : MethodName := ⟨RX5, "resize", "(II)I"⟩
abbrev cX5_discard : ByteArray := prog_7_method_33_code
def yX5_discard : MethodName := ⟨RX5, "discard", "(III)I"⟩
abbrev cX5_grow : ByteArray := prog_7_method_34_code
def yX5_grow : MethodName := ⟨RX5, "grow", "(I)I"⟩
abbrev cX5_shrink : ByteArray := prog_7_method_35_code
def yX5_shrink : MethodName := ⟨RX5, "shrink", "(I)I"⟩
abbrev cX5_back : ByteArray := prog_7_method_36_code
def yX5_back : MethodName := ⟨RX5, "back", "(II)I"⟩
abbrev cX5_quota : ByteArray := prog_7_method_37_code
def yX5_quota : MethodName := ⟨RX5, "quota", "(II)I"⟩
abbrev cX5_mark : ByteArray := prog_7_method_38_code
def yX5_mark : MethodName := ⟨RX5, "mark", "(II)Z"⟩
abbrev cX5_marked : ByteArray := prog_7_method_39_code
def yX5_marked : MethodName := ⟨RX5, "marked", "(I)I"⟩
abbrev cX5_commit : ByteArray := prog_7_method_40_code
def yX5_commit : MethodName := ⟨RX5, "commit", "()I"⟩
abbrev cX5_cut : ByteArray := prog_7_method_41_code
def yX5_cut : MethodName := ⟨RX5, "cut", "(I)I"⟩
abbrev cX5_hold : ByteArray := prog_7_method_42_code
def yX5_hold : MethodName := ⟨RX5, "hold", "()I"⟩
abbrev cX5_release : ByteArray := prog_7_method_43_code
def yX5_release : MethodName := ⟨RX5, "release", "()Z"⟩
abbrev cX5_patience : ByteArray := prog_7_method_44_code
def yX5_patience : MethodName := ⟨RX5, "patience", "(I)I"⟩
abbrev cX5_alarm : ByteArray := prog_7_method_45_code
def yX5_alarm : MethodName := ⟨RX5, "alarm", "(I)I"⟩
abbrev cX5_tick : ByteArray := prog_7_method_46_code
def yX5_tick : MethodName := ⟨RX5, "tick", "(I)I"⟩
abbrev cX5_map : ByteArray := prog_7_method_47_code
def yX5_map : MethodName := ⟨RX5, "map", "(III)I"⟩
abbrev cX5_volume : ByteArray := prog_7_method_48_code
def yX5_volume : MethodName := ⟨RX5, "volume", "(II)I"⟩
abbrev cX5_sortAt : ByteArray := prog_7_method_49_code
def yX5_sortAt : MethodName := ⟨RX5, "sortAt", "(III)I"⟩
abbrev cX5_differ : ByteArray := prog_7_method_50_code
def yX5_differ : MethodName := ⟨RX5, "differ", "(III)I"⟩
abbrev cX5_users : ByteArray := prog_7_method_51_code
def yX5_users : MethodName := ⟨RX5, "users", "(I)I"⟩
abbrev cX5_user : ByteArray := prog_7_method_52_code
def yX5_user : MethodName := ⟨RX5, "user", "(II)I"⟩
abbrev cX5_told : ByteArray := prog_7_method_53_code
def yX5_told : MethodName := ⟨RX5, "told", "(I)I"⟩
def RJ7 : String := "java/util/Arrays"
abbrev cJ7_fill_53178 : ByteArray := prog_16_method_103_code
def yJ7_fill_53178 : MethodName := ⟨RJ7, "fill", "([II)V"⟩
def RL : String := "ThinExtentsLaw"
abbrev cL_make : ByteArray := method_3_code
def yL_make : MethodName := ⟨RL, "make", "(LThinExtents;IIZ[J)I"⟩
abbrev cL_snap : ByteArray := method_4_code
def yL_snap : MethodName := ⟨RL, "snap", "(LThinExtents;II[J)I"⟩
abbrev cL_drop : ByteArray := method_5_code
def yL_drop : MethodName := ⟨RL, "drop", "(LThinExtents;I[J)I"⟩
abbrev cL_resize : ByteArray := method_6_code
def yL_resize : MethodName := ⟨RL, "resize", "(LThinExtents;II[J)I"⟩
abbrev cL_write : ByteArray := method_7_code
def yL_write : MethodName := ⟨RL, "write", "(LThinExtents;III[J)I"⟩
abbrev cL_read : ByteArray := method_8_code
def yL_read : MethodName := ⟨RL, "read", "(LThinExtents;II[J)I"⟩
abbrev cL_discard : ByteArray := method_9_code
def yL_discard : MethodName := ⟨RL, "discard", "(LThinExtents;III[J)I"⟩
abbrev cL_grow : ByteArray := method_10_code
def yL_grow : MethodName := ⟨RL, "grow", "(LThinExtents;I[J)I"⟩
abbrev cL_shrink : ByteArray := method_11_code
def yL_shrink : MethodName := ⟨RL, "shrink", "(LThinExtents;I[J)I"⟩
abbrev cL_back : ByteArray := method_12_code
def yL_back : MethodName := ⟨RL, "back", "(LThinExtents;II[J)I"⟩
abbrev cL_quota : ByteArray := method_13_code
def yL_quota : MethodName := ⟨RL, "quota", "(LThinExtents;II[J)I"⟩
abbrev cL_marked : ByteArray := method_14_code
def yL_marked : MethodName := ⟨RL, "marked", "(LThinExtents;I[J)I"⟩
abbrev cL_cut : ByteArray := method_15_code
def yL_cut : MethodName := ⟨RL, "cut", "(LThinExtents;I[J)I"⟩
abbrev cL_hold : ByteArray := method_16_code
def yL_hold : MethodName := ⟨RL, "hold", "(LThinExtents;[J)I"⟩
abbrev cL_patience : ByteArray := method_17_code
def yL_patience : MethodName := ⟨RL, "patience", "(LThinExtents;I[J)I"⟩
abbrev cL_alarm : ByteArray := method_18_code
def yL_alarm : MethodName := ⟨RL, "alarm", "(LThinExtents;I[J)I"⟩
abbrev cL_tick : ByteArray := method_19_code
def yL_tick : MethodName := ⟨RL, "tick", "(LThinExtents;I[J)I"⟩
abbrev cL_map : ByteArray := method_20_code
def yL_map : MethodName := ⟨RL, "map", "(LThinExtents;III[J)I"⟩
abbrev cL_volume : ByteArray := method_21_code
def yL_volume : MethodName := ⟨RL, "volume", "(LThinExtents;II[J)I"⟩
abbrev cL_differ : ByteArray := method_22_code
def yL_differ : MethodName := ⟨RL, "differ", "(LThinExtents;III[J)I"⟩
abbrev cL_users : ByteArray := method_23_code
def yL_users : MethodName := ⟨RL, "users", "(LThinExtents;I[J)I"⟩
abbrev cL_user : ByteArray := method_24_code
def yL_user : MethodName := ⟨RL, "user", "(LThinExtents;II[J)I"⟩
abbrev cL_told : ByteArray := method_25_code
def yL_told : MethodName := ⟨RL, "told", "(LThinExtents;I[J)I"⟩
abbrev cL_law : ByteArray := code
def yL_law : MethodName := ⟨RL, "law", "([I)Z"⟩
theorem dX0_init_0 : decode cX0_init 0 = .ok (.aload_n 0, 1) := by decide +kernel
theorem dX0_init_1 : decode cX0_init 1 = .ok (.invokespecial 3, 3) := by decide +kernel
theorem dX0_init_4 : decode cX0_init 4 = .ok (.aload_n 0, 1) := by decide +kernel
theorem dX0_init_5 : decode cX0_init 5 = .ok (.aload_n 1, 1) := by decide +kernel
theorem dX0_init_6 : decode cX0_init 6 = .ok (.putfield 9, 3) := by decide +kernel
theorem dX0_init_9 : decode cX0_init 9 = .ok (.aload_n 0, 1) := by decide +kernel
theorem dX0_init_10 : decode cX0_init 10 = .ok (.aload_n 2, 1) := by decide +kernel
theorem dX0_init_11 : decode cX0_init 11 = .ok (.putfield 15, 3) := by decide +kernel
theorem dX0_init_14 : decode cX0_init 14 = .ok (.aload_n 0, 1) := by decide +kernel
theorem dX0_init_15 : decode cX0_init 15 = .ok (.aload_n 3, 1) := by decide +kernel
theorem dX0_init_16 : decode cX0_init 16 = .ok (.putfield 18, 3) := by decide +kernel
theorem dX0_init_19 : decode cX0_init 19 = .ok (.aload_n 0, 1) := by decide +kernel
theorem dX0_init_20 : decode cX0_init 20 = .ok (.sipush 384, 3) := by decide +kernel
theorem dX0_init_23 : decode cX0_init 23 = .ok (.newarray .int, 2) := by decide +kernel
theorem dX0_init_25 : decode cX0_init 25 = .ok (.putfield 21, 3) := by decide +kernel
theorem dX0_init_28 : decode cX0_init 28 = .ok (.aload_n 0, 1) := by decide +kernel
theorem dX0_init_29 : decode cX0_init 29 = .ok (.bipush 8, 2) := by decide +kernel
theorem dX0_init_31 : decode cX0_init 31 = .ok (.putfield 25, 3) := by decide +kernel
theorem dX0_init_34 : decode cX0_init 34 = .ok (.return_, 1) := by decide +kernel
theorem dX0_isFree_0 : decode cX0_isFree 0 = .ok (.aload_n 0, 1) := by decide +kernel
theorem dX0_isFree_1 : decode cX0_isFree 1 = .ok (.getfield 9, 3) := by decide +kernel
theorem dX0_isFree_4 : decode cX0_isFree 4 = .ok (.iload_n 1, 1) := by decide +kernel
theorem dX0_isFree_5 : decode cX0_isFree 5 = .ok (.invokevirtual 29, 3) := by decide +kernel
theorem dX0_isFree_8 : decode cX0_isFree 8 = .ok (.aload_n 0, 1) := by decide +kernel
theorem dX0_isFree_9 : decode cX0_isFree 9 = .ok (.getfield 15, 3) := by decide +kernel
theorem dX0_isFree_12 : decode cX0_isFree 12 = .ok (.iload_n 1, 1) := by decide +kernel
theorem dX0_isFree_13 : decode cX0_isFree 13 = .ok (.invokevirtual 29, 3) := by decide +kernel
theorem dX0_isFree_16 : decode cX0_isFree 16 = .ok (.iadd, 1) := by decide +kernel
theorem dX0_isFree_17 : decode cX0_isFree 17 = .ok (.aload_n 0, 1) := by decide +kernel
theorem dX0_isFree_18 : decode cX0_isFree 18 = .ok (.getfield 18, 3) := by decide +kernel
theorem dX0_isFree_21 : decode cX0_isFree 21 = .ok (.iload_n 1, 1) := by decide +kernel
theorem dX0_isFree_22 : decode cX0_isFree 22 = .ok (.invokevirtual 29, 3) := by decide +kernel
theorem dX0_isFree_25 : decode cX0_isFree 25 = .ok (.iadd, 1) := by decide +kernel
theorem dX0_isFree_26 : decode cX0_isFree 26 = .ok (.ifCond .ne 7, 3) := by decide +kernel
theorem dX0_isFree_29 : decode cX0_isFree 29 = .ok (.iconst 1, 1) := by decide +kernel
theorem dX0_isFree_30 : decode cX0_isFree 30 = .ok (.goto 4, 3) := by decide +kernel
theorem dX0_isFree_33 : decode cX0_isFree 33 = .ok (.iconst 0, 1) := by decide +kernel
theorem dX0_isFree_34 : decode cX0_isFree 34 = .ok (.ireturn, 1) := by decide +kernel
theorem dX0_isSole_0 : decode cX0_isSole 0 = .ok (.aload_n 0, 1) := by decide +kernel
theorem dX0_isSole_1 : decode cX0_isSole 1 = .ok (.getfield 9, 3) := by decide +kernel
theorem dX0_isSole_4 : decode cX0_isSole 4 = .ok (.iload_n 1, 1) := by decide +kernel
theorem dX0_isSole_5 : decode cX0_isSole 5 = .ok (.invokevirtual 29, 3) := by decide +kernel
theorem dX0_isSole_8 : decode cX0_isSole 8 = .ok (.iconst 1, 1) := by decide +kernel
theorem dX0_isSole_9 : decode cX0_isSole 9 = .ok (.if_icmp .ne 27, 3) := by decide +kernel
theorem dX0_isSole_12 : decode cX0_isSole 12 = .ok (.aload_n 0, 1) := by decide +kernel
theorem dX0_isSole_13 : decode cX0_isSole 13 = .ok (.getfield 15, 3) := by decide +kernel
theorem dX0_isSole_16 : decode cX0_isSole 16 = .ok (.iload_n 1, 1) := by decide +kernel
theorem dX0_isSole_17 : decode cX0_isSole 17 = .ok (.invokevirtual 29, 3) := by decide +kernel
theorem dX0_isSole_20 : decode cX0_isSole 20 = .ok (.aload_n 0, 1) := by decide +kernel
theorem dX0_isSole_21 : decode cX0_isSole 21 = .ok (.getfield 18, 3) := by decide +kernel
theorem dX0_isSole_24 : decode cX0_isSole 24 = .ok (.iload_n 1, 1) := by decide +kernel
theorem dX0_isSole_25 : decode cX0_isSole 25 = .ok (.invokevirtual 29, 3) := by decide +kernel
theorem dX0_isSole_28 : decode cX0_isSole 28 = .ok (.iadd, 1) := by decide +kernel
theorem dX0_isSole_29 : decode cX0_isSole 29 = .ok (.ifCond .ne 7, 3) := by decide +kernel
theorem dX0_isSole_32 : decode cX0_isSole 32 = .ok (.iconst 1, 1) := by decide +kernel
theorem dX0_isSole_33 : decode cX0_isSole 33 = .ok (.goto 4, 3) := by decide +kernel
theorem dX0_isSole_36 : decode cX0_isSole 36 = .ok (.iconst 0, 1) := by decide +kernel
theorem dX0_isSole_37 : decode cX0_isSole 37 = .ok (.ireturn, 1) := by decide +kernel
theorem dX0_areFree_0 : decode cX0_areFree 0 = .ok (.iload_n 1, 1) := by decide +kernel
theorem dX0_areFree_1 : decode cX0_areFree 1 = .ok (.istore_n 3, 1) := by decide +kernel
theorem dX0_areFree_2 : decode cX0_areFree 2 = .ok (.iload_n 3, 1) := by decide +kernel
theorem dX0_areFree_3 : decode cX0_areFree 3 = .ok (.iload_n 2, 1) := by decide +kernel
theorem dX0_areFree_4 : decode cX0_areFree 4 = .ok (.if_icmp .ge 19, 3) := by decide +kernel
theorem dX0_areFree_7 : decode cX0_areFree 7 = .ok (.aload_n 0, 1) := by decide +kernel
theorem dX0_areFree_8 : decode cX0_areFree 8 = .ok (.iload_n 3, 1) := by decide +kernel
theorem dX0_areFree_9 : decode cX0_areFree 9 = .ok (.invokevirtual 35, 3) := by decide +kernel
theorem dX0_areFree_12 : decode cX0_areFree 12 = .ok (.ifCond .ne 5, 3) := by decide +kernel
theorem dX0_areFree_15 : decode cX0_areFree 15 = .ok (.iconst 0, 1) := by decide +kernel
theorem dX0_areFree_16 : decode cX0_areFree 16 = .ok (.ireturn, 1) := by decide +kernel
theorem dX0_areFree_17 : decode cX0_areFree 17 = .ok (.iinc 3 1, 3) := by decide +kernel
theorem dX0_areFree_20 : decode cX0_areFree 20 = .ok (.goto (-18), 3) := by decide +kernel
theorem dX0_areFree_23 : decode cX0_areFree 23 = .ok (.iconst 1, 1) := by decide +kernel
theorem dX0_areFree_24 : decode cX0_areFree 24 = .ok (.ireturn, 1) := by decide +kernel
theorem dX0_countFree_0 : decode cX0_countFree 0 = .ok (.iconst 0, 1) := by decide +kernel
theorem dX0_countFree_1 : decode cX0_countFree 1 = .ok (.istore_n 1, 1) := by decide +kernel
theorem dX0_countFree_2 : decode cX0_countFree 2 = .ok (.iconst 0, 1) := by decide +kernel
theorem dX0_countFree_3 : decode cX0_countFree 3 = .ok (.istore_n 2, 1) := by decide +kernel
theorem dX0_countFree_4 : decode cX0_countFree 4 = .ok (.iload_n 2, 1) := by decide +kernel
theorem dX0_countFree_5 : decode cX0_countFree 5 = .ok (.aload_n 0, 1) := by decide +kernel
theorem dX0_countFree_6 : decode cX0_countFree 6 = .ok (.getfield 25, 3) := by decide +kernel
theorem dX0_countFree_9 : decode cX0_countFree 9 = .ok (.if_icmp .ge 20, 3) := by decide +kernel
theorem dX0_countFree_12 : decode cX0_countFree 12 = .ok (.aload_n 0, 1) := by decide +kernel
theorem dX0_countFree_13 : decode cX0_countFree 13 = .ok (.iload_n 2, 1) := by decide +kernel
theorem dX0_countFree_14 : decode cX0_countFree 14 = .ok (.invokevirtual 35, 3) := by decide +kernel
theorem dX0_countFree_17 : decode cX0_countFree 17 = .ok (.ifCond .eq 6, 3) := by decide +kernel
theorem dX0_countFree_20 : decode cX0_countFree 20 = .ok (.iinc 1 1, 3) := by decide +kernel
theorem dX0_countFree_23 : decode cX0_countFree 23 = .ok (.iinc 2 1, 3) := by decide +kernel
theorem dX0_countFree_26 : decode cX0_countFree 26 = .ok (.goto (-22), 3) := by decide +kernel
theorem dX0_countFree_29 : decode cX0_countFree 29 = .ok (.iload_n 1, 1) := by decide +kernel
theorem dX0_countFree_30 : decode cX0_countFree 30 = .ok (.ireturn, 1) := by decide +kernel
theorem dX0_take_0 : decode cX0_take 0 = .ok (.aload_n 0, 1) := by decide +kernel
theorem dX0_take_1 : decode cX0_take 1 = .ok (.getfield 39, 3) := by decide +kernel
theorem dX0_take_4 : decode cX0_take 4 = .ok (.istore_n 1, 1) := by decide +kernel
theorem dX0_take_5 : decode cX0_take 5 = .ok (.iconst 0, 1) := by decide +kernel
theorem dX0_take_6 : decode cX0_take 6 = .ok (.istore_n 2, 1) := by decide +kernel
theorem dX0_take_7 : decode cX0_take 7 = .ok (.iload_n 2, 1) := by decide +kernel
theorem dX0_take_8 : decode cX0_take 8 = .ok (.aload_n 0, 1) := by decide +kernel
theorem dX0_take_9 : decode cX0_take 9 = .ok (.getfield 25, 3) := by decide +kernel
theorem dX0_take_12 : decode cX0_take 12 = .ok (.if_icmp .ge 54, 3) := by decide +kernel
theorem dX0_take_15 : decode cX0_take 15 = .ok (.iload_n 1, 1) := by decide +kernel
theorem dX0_take_16 : decode cX0_take 16 = .ok (.iconst 1, 1) := by decide +kernel
theorem dX0_take_17 : decode cX0_take 17 = .ok (.iadd, 1) := by decide +kernel
theorem dX0_take_18 : decode cX0_take 18 = .ok (.aload_n 0, 1) := by decide +kernel
theorem dX0_take_19 : decode cX0_take 19 = .ok (.getfield 25, 3) := by decide +kernel
theorem dX0_take_22 : decode cX0_take 22 = .ok (.if_icmp .ge 9, 3) := by decide +kernel
theorem dX0_take_25 : decode cX0_take 25 = .ok (.iload_n 1, 1) := by decide +kernel
theorem dX0_take_26 : decode cX0_take 26 = .ok (.iconst 1, 1) := by decide +kernel
theorem dX0_take_27 : decode cX0_take 27 = .ok (.iadd, 1) := by decide +kernel
theorem dX0_take_28 : decode cX0_take 28 = .ok (.goto 4, 3) := by decide +kernel
theorem dX0_take_31 : decode cX0_take 31 = .ok (.iconst 0, 1) := by decide +kernel
theorem dX0_take_32 : decode cX0_take 32 = .ok (.istore_n 3, 1) := by decide +kernel
theorem dX0_take_33 : decode cX0_take 33 = .ok (.aload_n 0, 1) := by decide +kernel
theorem dX0_take_34 : decode cX0_take 34 = .ok (.iload_n 1, 1) := by decide +kernel
theorem dX0_take_35 : decode cX0_take 35 = .ok (.invokevirtual 35, 3) := by decide +kernel
theorem dX0_take_38 : decode cX0_take 38 = .ok (.ifCond .eq 20, 3) := by decide +kernel
theorem dX0_take_41 : decode cX0_take 41 = .ok (.aload_n 0, 1) := by decide +kernel
theorem dX0_take_42 : decode cX0_take 42 = .ok (.iload_n 3, 1) := by decide +kernel
theorem dX0_take_43 : decode cX0_take 43 = .ok (.putfield 39, 3) := by decide +kernel
theorem dX0_take_46 : decode cX0_take 46 = .ok (.aload_n 0, 1) := by decide +kernel
theorem dX0_take_47 : decode cX0_take 47 = .ok (.dup, 1) := by decide +kernel
theorem dX0_take_48 : decode cX0_take 48 = .ok (.getfield 42, 3) := by decide +kernel
theorem dX0_take_51 : decode cX0_take 51 = .ok (.iconst 1, 1) := by decide +kernel
theorem dX0_take_52 : decode cX0_take 52 = .ok (.iadd, 1) := by decide +kernel
theorem dX0_take_53 : decode cX0_take 53 = .ok (.putfield 42, 3) := by decide +kernel
theorem dX0_take_56 : decode cX0_take 56 = .ok (.iload_n 1, 1) := by decide +kernel
theorem dX0_take_57 : decode cX0_take 57 = .ok (.ireturn, 1) := by decide +kernel
theorem dX0_take_58 : decode cX0_take 58 = .ok (.iload_n 3, 1) := by decide +kernel
theorem dX0_take_59 : decode cX0_take 59 = .ok (.istore_n 1, 1) := by decide +kernel
theorem dX0_take_60 : decode cX0_take 60 = .ok (.iinc 2 1, 3) := by decide +kernel
theorem dX0_take_63 : decode cX0_take 63 = .ok (.goto (-56), 3) := by decide +kernel
theorem dX0_take_66 : decode cX0_take 66 = .ok (.iconst (-1), 1) := by decide +kernel
theorem dX0_take_67 : decode cX0_take 67 = .ok (.ireturn, 1) := by decide +kernel
theorem dX0_wordAt_0 : decode cX0_wordAt 0 = .ok (.iload_n 1, 1) := by decide +kernel
theorem dX0_wordAt_1 : decode cX0_wordAt 1 = .ok (.iconst 4, 1) := by decide +kernel
theorem dX0_wordAt_2 : decode cX0_wordAt 2 = .ok (.imul, 1) := by decide +kernel
theorem dX0_wordAt_3 : decode cX0_wordAt 3 = .ok (.iload_n 2, 1) := by decide +kernel
theorem dX0_wordAt_4 : decode cX0_wordAt 4 = .ok (.iadd, 1) := by decide +kernel
theorem dX0_wordAt_5 : decode cX0_wordAt 5 = .ok (.istore_n 3, 1) := by decide +kernel
theorem dX0_wordAt_6 : decode cX0_wordAt 6 = .ok (.iload_n 3, 1) := by decide +kernel
theorem dX0_wordAt_7 : decode cX0_wordAt 7 = .ok (.ifCond .lt 21, 3) := by decide +kernel
theorem dX0_wordAt_10 : decode cX0_wordAt 10 = .ok (.iload_n 3, 1) := by decide +kernel
theorem dX0_wordAt_11 : decode cX0_wordAt 11 = .ok (.aload_n 0, 1) := by decide +kernel
theorem dX0_wordAt_12 : decode cX0_wordAt 12 = .ok (.getfield 21, 3) := by decide +kernel
theorem dX0_wordAt_15 : decode cX0_wordAt 15 = .ok (.arraylength, 1) := by decide +kernel
theorem dX0_wordAt_16 : decode cX0_wordAt 16 = .ok (.if_icmp .ge 12, 3) := by decide +kernel
theorem dX0_wordAt_19 : decode cX0_wordAt 19 = .ok (.aload_n 0, 1) := by decide +kernel
theorem dX0_wordAt_20 : decode cX0_wordAt 20 = .ok (.getfield 21, 3) := by decide +kernel
theorem dX0_wordAt_23 : decode cX0_wordAt 23 = .ok (.iload_n 3, 1) := by decide +kernel
theorem dX0_wordAt_24 : decode cX0_wordAt 24 = .ok (.iaload, 1) := by decide +kernel
theorem dX0_wordAt_25 : decode cX0_wordAt 25 = .ok (.goto 4, 3) := by decide +kernel
theorem dX0_wordAt_28 : decode cX0_wordAt 28 = .ok (.iconst 0, 1) := by decide +kernel
theorem dX0_wordAt_29 : decode cX0_wordAt 29 = .ok (.ireturn, 1) := by decide +kernel
theorem dX0_setWord_0 : decode cX0_setWord 0 = .ok (.iload_n 1, 1) := by decide +kernel
theorem dX0_setWord_1 : decode cX0_setWord 1 = .ok (.iconst 4, 1) := by decide +kernel
theorem dX0_setWord_2 : decode cX0_setWord 2 = .ok (.imul, 1) := by decide +kernel
theorem dX0_setWord_3 : decode cX0_setWord 3 = .ok (.iload_n 2, 1) := by decide +kernel
theorem dX0_setWord_4 : decode cX0_setWord 4 = .ok (.iadd, 1) := by decide +kernel
theorem dX0_setWord_5 : decode cX0_setWord 5 = .ok (.istore 4, 2) := by decide +kernel
theorem dX0_setWord_7 : decode cX0_setWord 7 = .ok (.iload 4, 2) := by decide +kernel
theorem dX0_setWord_9 : decode cX0_setWord 9 = .ok (.ifCond .lt 21, 3) := by decide +kernel
theorem dX0_setWord_12 : decode cX0_setWord 12 = .ok (.iload 4, 2) := by decide +kernel
theorem dX0_setWord_14 : decode cX0_setWord 14 = .ok (.aload_n 0, 1) := by decide +kernel
theorem dX0_setWord_15 : decode cX0_setWord 15 = .ok (.getfield 21, 3) := by decide +kernel
theorem dX0_setWord_18 : decode cX0_setWord 18 = .ok (.arraylength, 1) := by decide +kernel
theorem dX0_setWord_19 : decode cX0_setWord 19 = .ok (.if_icmp .ge 11, 3) := by decide +kernel
theorem dX0_setWord_22 : decode cX0_setWord 22 = .ok (.aload_n 0, 1) := by decide +kernel
theorem dX0_setWord_23 : decode cX0_setWord 23 = .ok (.getfield 21, 3) := by decide +kernel
theorem dX0_setWord_26 : decode cX0_setWord 26 = .ok (.iload 4, 2) := by decide +kernel
theorem dX0_setWord_28 : decode cX0_setWord 28 = .ok (.iload_n 3, 1) := by decide +kernel
theorem dX0_setWord_29 : decode cX0_setWord 29 = .ok (.iastore, 1) := by decide +kernel
theorem dX0_setWord_30 : decode cX0_setWord 30 = .ok (.return_, 1) := by decide +kernel
theorem dX1_init_0 : decode cX1_init 0 = .ok (.aload_n 0, 1) := by decide +kernel
theorem dX1_init_1 : decode cX1_init 1 = .ok (.invokespecial 3, 3) := by decide +kernel
theorem dX1_init_4 : decode cX1_init 4 = .ok (.aload_n 0, 1) := by decide +kernel
theorem dX1_init_5 : decode cX1_init 5 = .ok (.bipush 8, 2) := by decide +kernel
theorem dX1_init_7 : decode cX1_init 7 = .ok (.newarray .int, 2) := by decide +kernel
theorem dX1_init_9 : decode cX1_init 9 = .ok (.putfield 9, 3) := by decide +kernel
theorem dX1_init_12 : decode cX1_init 12 = .ok (.aload_n 0, 1) := by decide +kernel
theorem dX1_init_13 : decode cX1_init 13 = .ok (.bipush 8, 2) := by decide +kernel
theorem dX1_init_15 : decode cX1_init 15 = .ok (.newarray .int, 2) := by decide +kernel
theorem dX1_init_17 : decode cX1_init 17 = .ok (.putfield 15, 3) := by decide +kernel
theorem dX1_init_20 : decode cX1_init 20 = .ok (.aload_n 0, 1) := by decide +kernel
theorem dX1_init_21 : decode cX1_init 21 = .ok (.bipush 8, 2) := by decide +kernel
theorem dX1_init_23 : decode cX1_init 23 = .ok (.newarray .int, 2) := by decide +kernel
theorem dX1_init_25 : decode cX1_init 25 = .ok (.putfield 18, 3) := by decide +kernel
theorem dX1_init_28 : decode cX1_init 28 = .ok (.return_, 1) := by decide +kernel
theorem dX1_add_0 : decode cX1_add 0 = .ok (.aload_n 0, 1) := by decide +kernel
theorem dX1_add_1 : decode cX1_add 1 = .ok (.getfield 21, 3) := by decide +kernel
theorem dX1_add_4 : decode cX1_add 4 = .ok (.bipush 8, 2) := by decide +kernel
theorem dX1_add_6 : decode cX1_add 6 = .ok (.if_icmp .lt 5, 3) := by decide +kernel
theorem dX1_add_9 : decode cX1_add 9 = .ok (.iconst 0, 1) := by decide +kernel
theorem dX1_add_10 : decode cX1_add 10 = .ok (.ireturn, 1) := by decide +kernel
theorem dX1_add_11 : decode cX1_add 11 = .ok (.aload_n 0, 1) := by decide +kernel
theorem dX1_add_12 : decode cX1_add 12 = .ok (.aload_n 0, 1) := by decide +kernel
theorem dX1_add_13 : decode cX1_add 13 = .ok (.getfield 21, 3) := by decide +kernel
theorem dX1_add_16 : decode cX1_add 16 = .ok (.iload_n 1, 1) := by decide +kernel
theorem dX1_add_17 : decode cX1_add 17 = .ok (.iload_n 2, 1) := by decide +kernel
theorem dX1_add_18 : decode cX1_add 18 = .ok (.iload_n 3, 1) := by decide +kernel
theorem dX1_add_19 : decode cX1_add 19 = .ok (.invokevirtual 25, 3) := by decide +kernel
theorem dX1_add_22 : decode cX1_add 22 = .ok (.aload_n 0, 1) := by decide +kernel
theorem dX1_add_23 : decode cX1_add 23 = .ok (.dup, 1) := by decide +kernel
theorem dX1_add_24 : decode cX1_add 24 = .ok (.getfield 21, 3) := by decide +kernel
theorem dX1_add_27 : decode cX1_add 27 = .ok (.iconst 1, 1) := by decide +kernel
theorem dX1_add_28 : decode cX1_add 28 = .ok (.iadd, 1) := by decide +kernel
theorem dX1_add_29 : decode cX1_add 29 = .ok (.putfield 21, 3) := by decide +kernel
theorem dX1_add_32 : decode cX1_add 32 = .ok (.iconst 1, 1) := by decide +kernel
theorem dX1_add_33 : decode cX1_add 33 = .ok (.ireturn, 1) := by decide +kernel
theorem dX1_put_0 : decode cX1_put 0 = .ok (.iload_n 1, 1) := by decide +kernel
theorem dX1_put_1 : decode cX1_put 1 = .ok (.ifCond .lt 31, 3) := by decide +kernel
theorem dX1_put_4 : decode cX1_put 4 = .ok (.iload_n 1, 1) := by decide +kernel
theorem dX1_put_5 : decode cX1_put 5 = .ok (.bipush 8, 2) := by decide +kernel
theorem dX1_put_7 : decode cX1_put 7 = .ok (.if_icmp .ge 25, 3) := by decide +kernel
theorem dX1_put_10 : decode cX1_put 10 = .ok (.aload_n 0, 1) := by decide +kernel
theorem dX1_put_11 : decode cX1_put 11 = .ok (.getfield 9, 3) := by decide +kernel
theorem dX1_put_14 : decode cX1_put 14 = .ok (.iload_n 1, 1) := by decide +kernel
theorem dX1_put_15 : decode cX1_put 15 = .ok (.iload_n 2, 1) := by decide +kernel
theorem dX1_put_16 : decode cX1_put 16 = .ok (.iastore, 1) := by decide +kernel
theorem dX1_put_17 : decode cX1_put 17 = .ok (.aload_n 0, 1) := by decide +kernel
theorem dX1_put_18 : decode cX1_put 18 = .ok (.getfield 15, 3) := by decide +kernel
theorem dX1_put_21 : decode cX1_put 21 = .ok (.iload_n 1, 1) := by decide +kernel
theorem dX1_put_22 : decode cX1_put 22 = .ok (.iload_n 3, 1) := by decide +kernel
theorem dX1_put_23 : decode cX1_put 23 = .ok (.iastore, 1) := by decide +kernel
theorem dX1_put_24 : decode cX1_put 24 = .ok (.aload_n 0, 1) := by decide +kernel
theorem dX1_put_25 : decode cX1_put 25 = .ok (.getfield 18, 3) := by decide +kernel
theorem dX1_put_28 : decode cX1_put 28 = .ok (.iload_n 1, 1) := by decide +kernel
theorem dX1_put_29 : decode cX1_put 29 = .ok (.iload 4, 2) := by decide +kernel
theorem dX1_put_31 : decode cX1_put 31 = .ok (.iastore, 1) := by decide +kernel
theorem dX1_put_32 : decode cX1_put 32 = .ok (.return_, 1) := by decide +kernel
theorem dX1_volumeAt_0 : decode cX1_volumeAt 0 = .ok (.iload_n 1, 1) := by decide +kernel
theorem dX1_volumeAt_1 : decode cX1_volumeAt 1 = .ok (.ifCond .lt 20, 3) := by decide +kernel
theorem dX1_volumeAt_4 : decode cX1_volumeAt 4 = .ok (.iload_n 1, 1) := by decide +kernel
theorem dX1_volumeAt_5 : decode cX1_volumeAt 5 = .ok (.aload_n 0, 1) := by decide +kernel
theorem dX1_volumeAt_6 : decode cX1_volumeAt 6 = .ok (.getfield 21, 3) := by decide +kernel
theorem dX1_volumeAt_9 : decode cX1_volumeAt 9 = .ok (.if_icmp .ge 12, 3) := by decide +kernel
theorem dX1_volumeAt_12 : decode cX1_volumeAt 12 = .ok (.aload_n 0, 1) := by decide +kernel
theorem dX1_volumeAt_13 : decode cX1_volumeAt 13 = .ok (.getfield 9, 3) := by decide +kernel
theorem dX1_volumeAt_16 : decode cX1_volumeAt 16 = .ok (.iload_n 1, 1) := by decide +kernel
theorem dX1_volumeAt_17 : decode cX1_volumeAt 17 = .ok (.iaload, 1) := by decide +kernel
theorem dX1_volumeAt_18 : decode cX1_volumeAt 18 = .ok (.goto 4, 3) := by decide +kernel
theorem dX1_volumeAt_21 : decode cX1_volumeAt 21 = .ok (.iconst (-1), 1) := by decide +kernel
theorem dX1_volumeAt_22 : decode cX1_volumeAt 22 = .ok (.ireturn, 1) := by decide +kernel
theorem dX1_wordAt_0 : decode cX1_wordAt 0 = .ok (.iload_n 1, 1) := by decide +kernel
theorem dX1_wordAt_1 : decode cX1_wordAt 1 = .ok (.ifCond .lt 20, 3) := by decide +kernel
theorem dX1_wordAt_4 : decode cX1_wordAt 4 = .ok (.iload_n 1, 1) := by decide +kernel
theorem dX1_wordAt_5 : decode cX1_wordAt 5 = .ok (.aload_n 0, 1) := by decide +kernel
theorem dX1_wordAt_6 : decode cX1_wordAt 6 = .ok (.getfield 21, 3) := by decide +kernel
theorem dX1_wordAt_9 : decode cX1_wordAt 9 = .ok (.if_icmp .ge 12, 3) := by decide +kernel
theorem dX1_wordAt_12 : decode cX1_wordAt 12 = .ok (.aload_n 0, 1) := by decide +kernel
theorem dX1_wordAt_13 : decode cX1_wordAt 13 = .ok (.getfield 15, 3) := by decide +kernel
theorem dX1_wordAt_16 : decode cX1_wordAt 16 = .ok (.iload_n 1, 1) := by decide +kernel
theorem dX1_wordAt_17 : decode cX1_wordAt 17 = .ok (.iaload, 1) := by decide +kernel
theorem dX1_wordAt_18 : decode cX1_wordAt 18 = .ok (.goto 4, 3) := by decide +kernel
theorem dX1_wordAt_21 : decode cX1_wordAt 21 = .ok (.iconst 0, 1) := by decide +kernel
theorem dX1_wordAt_22 : decode cX1_wordAt 22 = .ok (.ireturn, 1) := by decide +kernel
theorem dX1_valueAt_0 : decode cX1_valueAt 0 = .ok (.iload_n 1, 1) := by decide +kernel
theorem dX1_valueAt_1 : decode cX1_valueAt 1 = .ok (.ifCond .lt 20, 3) := by decide +kernel
theorem dX1_valueAt_4 : decode cX1_valueAt 4 = .ok (.iload_n 1, 1) := by decide +kernel
theorem dX1_valueAt_5 : decode cX1_valueAt 5 = .ok (.aload_n 0, 1) := by decide +kernel
theorem dX1_valueAt_6 : decode cX1_valueAt 6 = .ok (.getfield 21, 3) := by decide +kernel
theorem dX1_valueAt_9 : decode cX1_valueAt 9 = .ok (.if_icmp .ge 12, 3) := by decide +kernel
theorem dX1_valueAt_12 : decode cX1_valueAt 12 = .ok (.aload_n 0, 1) := by decide +kernel
theorem dX1_valueAt_13 : decode cX1_valueAt 13 = .ok (.getfield 18, 3) := by decide +kernel
theorem dX1_valueAt_16 : decode cX1_valueAt 16 = .ok (.iload_n 1, 1) := by decide +kernel
theorem dX1_valueAt_17 : decode cX1_valueAt 17 = .ok (.iaload, 1) := by decide +kernel
theorem dX1_valueAt_18 : decode cX1_valueAt 18 = .ok (.goto 4, 3) := by decide +kernel
theorem dX1_valueAt_21 : decode cX1_valueAt 21 = .ok (.iconst 0, 1) := by decide +kernel
theorem dX1_valueAt_22 : decode cX1_valueAt 22 = .ok (.ireturn, 1) := by decide +kernel
theorem dX1_waitsIn_0 : decode cX1_waitsIn 0 = .ok (.iconst 0, 1) := by decide +kernel
theorem dX1_waitsIn_1 : decode cX1_waitsIn 1 = .ok (.istore 4, 2) := by decide +kernel
theorem dX1_waitsIn_3 : decode cX1_waitsIn 3 = .ok (.iload 4, 2) := by decide +kernel
theorem dX1_waitsIn_5 : decode cX1_waitsIn 5 = .ok (.aload_n 0, 1) := by decide +kernel
theorem dX1_waitsIn_6 : decode cX1_waitsIn 6 = .ok (.getfield 21, 3) := by decide +kernel
theorem dX1_waitsIn_9 : decode cX1_waitsIn 9 = .ok (.if_icmp .ge 43, 3) := by decide +kernel
theorem dX1_waitsIn_12 : decode cX1_waitsIn 12 = .ok (.aload_n 0, 1) := by decide +kernel
theorem dX1_waitsIn_13 : decode cX1_waitsIn 13 = .ok (.iload 4, 2) := by decide +kernel
theorem dX1_waitsIn_15 : decode cX1_waitsIn 15 = .ok (.invokevirtual 29, 3) := by decide +kernel
theorem dX1_waitsIn_18 : decode cX1_waitsIn 18 = .ok (.iconst 4, 1) := by decide +kernel
theorem dX1_waitsIn_19 : decode cX1_waitsIn 19 = .ok (.idiv, 1) := by decide +kernel
theorem dX1_waitsIn_20 : decode cX1_waitsIn 20 = .ok (.istore 5, 2) := by decide +kernel
theorem dX1_waitsIn_22 : decode cX1_waitsIn 22 = .ok (.aload_n 0, 1) := by decide +kernel
theorem dX1_waitsIn_23 : decode cX1_waitsIn 23 = .ok (.iload 4, 2) := by decide +kernel
theorem dX1_waitsIn_25 : decode cX1_waitsIn 25 = .ok (.invokevirtual 33, 3) := by decide +kernel
theorem dX1_waitsIn_28 : decode cX1_waitsIn 28 = .ok (.iload_n 1, 1) := by decide +kernel
theorem dX1_waitsIn_29 : decode cX1_waitsIn 29 = .ok (.if_icmp .ne 17, 3) := by decide +kernel
theorem dX1_waitsIn_32 : decode cX1_waitsIn 32 = .ok (.iload 5, 2) := by decide +kernel
theorem dX1_waitsIn_34 : decode cX1_waitsIn 34 = .ok (.iload_n 2, 1) := by decide +kernel
theorem dX1_waitsIn_35 : decode cX1_waitsIn 35 = .ok (.if_icmp .lt 11, 3) := by decide +kernel
theorem dX1_waitsIn_38 : decode cX1_waitsIn 38 = .ok (.iload 5, 2) := by decide +kernel
theorem dX1_waitsIn_40 : decode cX1_waitsIn 40 = .ok (.iload_n 3, 1) := by decide +kernel
theorem dX1_waitsIn_41 : decode cX1_waitsIn 41 = .ok (.if_icmp .ge 5, 3) := by decide +kernel
theorem dX1_waitsIn_44 : decode cX1_waitsIn 44 = .ok (.iconst 1, 1) := by decide +kernel
theorem dX1_waitsIn_45 : decode cX1_waitsIn 45 = .ok (.ireturn, 1) := by decide +kernel
theorem dX1_waitsIn_46 : decode cX1_waitsIn 46 = .ok (.iinc 4 1, 3) := by decide +kernel
theorem dX1_waitsIn_49 : decode cX1_waitsIn 49 = .ok (.goto (-46), 3) := by decide +kernel
theorem dX1_waitsIn_52 : decode cX1_waitsIn 52 = .ok (.iconst 0, 1) := by decide +kernel
theorem dX1_waitsIn_53 : decode cX1_waitsIn 53 = .ok (.ireturn, 1) := by decide +kernel
theorem dX1_countOf_0 : decode cX1_countOf 0 = .ok (.iconst 0, 1) := by decide +kernel
theorem dX1_countOf_1 : decode cX1_countOf 1 = .ok (.istore_n 2, 1) := by decide +kernel
theorem dX1_countOf_2 : decode cX1_countOf 2 = .ok (.iconst 0, 1) := by decide +kernel
theorem dX1_countOf_3 : decode cX1_countOf 3 = .ok (.istore_n 3, 1) := by decide +kernel
theorem dX1_countOf_4 : decode cX1_countOf 4 = .ok (.iload_n 3, 1) := by decide +kernel
theorem dX1_countOf_5 : decode cX1_countOf 5 = .ok (.aload_n 0, 1) := by decide +kernel
theorem dX1_countOf_6 : decode cX1_countOf 6 = .ok (.getfield 21, 3) := by decide +kernel
theorem dX1_countOf_9 : decode cX1_countOf 9 = .ok (.if_icmp .ge 21, 3) := by decide +kernel
theorem dX1_countOf_12 : decode cX1_countOf 12 = .ok (.aload_n 0, 1) := by decide +kernel
theorem dX1_countOf_13 : decode cX1_countOf 13 = .ok (.iload_n 3, 1) := by decide +kernel
theorem dX1_countOf_14 : decode cX1_countOf 14 = .ok (.invokevirtual 33, 3) := by decide +kernel
theorem dX1_countOf_17 : decode cX1_countOf 17 = .ok (.iload_n 1, 1) := by decide +kernel
theorem dX1_countOf_18 : decode cX1_countOf 18 = .ok (.if_icmp .ne 6, 3) := by decide +kernel
theorem dX1_countOf_21 : decode cX1_countOf 21 = .ok (.iinc 2 1, 3) := by decide +kernel
theorem dX1_countOf_24 : decode cX1_countOf 24 = .ok (.iinc 3 1, 3) := by decide +kernel
theorem dX1_countOf_27 : decode cX1_countOf 27 = .ok (.goto (-23), 3) := by decide +kernel
theorem dX1_countOf_30 : decode cX1_countOf 30 = .ok (.iload_n 2, 1) := by decide +kernel
theorem dX1_countOf_31 : decode cX1_countOf 31 = .ok (.ireturn, 1) := by decide +kernel
theorem dX1_removeFirst_0 : decode cX1_removeFirst 0 = .ok (.iconst 1, 1) := by decide +kernel
theorem dX1_removeFirst_1 : decode cX1_removeFirst 1 = .ok (.istore_n 1, 1) := by decide +kernel
theorem dX1_removeFirst_2 : decode cX1_removeFirst 2 = .ok (.iload_n 1, 1) := by decide +kernel
theorem dX1_removeFirst_3 : decode cX1_removeFirst 3 = .ok (.aload_n 0, 1) := by decide +kernel
theorem dX1_removeFirst_4 : decode cX1_removeFirst 4 = .ok (.getfield 21, 3) := by decide +kernel
theorem dX1_removeFirst_7 : decode cX1_removeFirst 7 = .ok (.if_icmp .ge 31, 3) := by decide +kernel
theorem dX1_removeFirst_10 : decode cX1_removeFirst 10 = .ok (.aload_n 0, 1) := by decide +kernel
theorem dX1_removeFirst_11 : decode cX1_removeFirst 11 = .ok (.iload_n 1, 1) := by decide +kernel
theorem dX1_removeFirst_12 : decode cX1_removeFirst 12 = .ok (.iconst 1, 1) := by decide +kernel
theorem dX1_removeFirst_13 : decode cX1_removeFirst 13 = .ok (.isub, 1) := by decide +kernel
theorem dX1_removeFirst_14 : decode cX1_removeFirst 14 = .ok (.aload_n 0, 1) := by decide +kernel
theorem dX1_removeFirst_15 : decode cX1_removeFirst 15 = .ok (.iload_n 1, 1) := by decide +kernel
theorem dX1_removeFirst_16 : decode cX1_removeFirst 16 = .ok (.invokevirtual 33, 3) := by decide +kernel
theorem dX1_removeFirst_19 : decode cX1_removeFirst 19 = .ok (.aload_n 0, 1) := by decide +kernel
theorem dX1_removeFirst_20 : decode cX1_removeFirst 20 = .ok (.iload_n 1, 1) := by decide +kernel
theorem dX1_removeFirst_21 : decode cX1_removeFirst 21 = .ok (.invokevirtual 29, 3) := by decide +kernel
theorem dX1_removeFirst_24 : decode cX1_removeFirst 24 = .ok (.aload_n 0, 1) := by decide +kernel
theorem dX1_removeFirst_25 : decode cX1_removeFirst 25 = .ok (.iload_n 1, 1) := by decide +kernel
theorem dX1_removeFirst_26 : decode cX1_removeFirst 26 = .ok (.invokevirtual 36, 3) := by decide +kernel
theorem dX1_removeFirst_29 : decode cX1_removeFirst 29 = .ok (.invokevirtual 25, 3) := by decide +kernel
theorem dX1_removeFirst_32 : decode cX1_removeFirst 32 = .ok (.iinc 1 1, 3) := by decide +kernel
theorem dX1_removeFirst_35 : decode cX1_removeFirst 35 = .ok (.goto (-33), 3) := by decide +kernel
theorem dX1_removeFirst_38 : decode cX1_removeFirst 38 = .ok (.aload_n 0, 1) := by decide +kernel
theorem dX1_removeFirst_39 : decode cX1_removeFirst 39 = .ok (.getfield 21, 3) := by decide +kernel
theorem dX1_removeFirst_42 : decode cX1_removeFirst 42 = .ok (.ifCond .le 13, 3) := by decide +kernel
theorem dX1_removeFirst_45 : decode cX1_removeFirst 45 = .ok (.aload_n 0, 1) := by decide +kernel
theorem dX1_removeFirst_46 : decode cX1_removeFirst 46 = .ok (.dup, 1) := by decide +kernel
theorem dX1_removeFirst_47 : decode cX1_removeFirst 47 = .ok (.getfield 21, 3) := by decide +kernel
theorem dX1_removeFirst_50 : decode cX1_removeFirst 50 = .ok (.iconst 1, 1) := by decide +kernel
theorem dX1_removeFirst_51 : decode cX1_removeFirst 51 = .ok (.isub, 1) := by decide +kernel
theorem dX1_removeFirst_52 : decode cX1_removeFirst 52 = .ok (.putfield 21, 3) := by decide +kernel
theorem dX1_removeFirst_55 : decode cX1_removeFirst 55 = .ok (.return_, 1) := by decide +kernel
theorem dX1_removeAllOf_0 : decode cX1_removeAllOf 0 = .ok (.iconst 0, 1) := by decide +kernel
theorem dX1_removeAllOf_1 : decode cX1_removeAllOf 1 = .ok (.istore_n 2, 1) := by decide +kernel
theorem dX1_removeAllOf_2 : decode cX1_removeAllOf 2 = .ok (.iconst 0, 1) := by decide +kernel
theorem dX1_removeAllOf_3 : decode cX1_removeAllOf 3 = .ok (.istore_n 3, 1) := by decide +kernel
theorem dX1_removeAllOf_4 : decode cX1_removeAllOf 4 = .ok (.iload_n 3, 1) := by decide +kernel
theorem dX1_removeAllOf_5 : decode cX1_removeAllOf 5 = .ok (.aload_n 0, 1) := by decide +kernel
theorem dX1_removeAllOf_6 : decode cX1_removeAllOf 6 = .ok (.getfield 21, 3) := by decide +kernel
theorem dX1_removeAllOf_9 : decode cX1_removeAllOf 9 = .ok (.if_icmp .ge 41, 3) := by decide +kernel
theorem dX1_removeAllOf_12 : decode cX1_removeAllOf 12 = .ok (.aload_n 0, 1) := by decide +kernel
theorem dX1_removeAllOf_13 : decode cX1_removeAllOf 13 = .ok (.iload_n 3, 1) := by decide +kernel
theorem dX1_removeAllOf_14 : decode cX1_removeAllOf 14 = .ok (.invokevirtual 33, 3) := by decide +kernel
theorem dX1_removeAllOf_17 : decode cX1_removeAllOf 17 = .ok (.iload_n 1, 1) := by decide +kernel
theorem dX1_removeAllOf_18 : decode cX1_removeAllOf 18 = .ok (.if_icmp .eq 26, 3) := by decide +kernel
theorem dX1_removeAllOf_21 : decode cX1_removeAllOf 21 = .ok (.aload_n 0, 1) := by decide +kernel
theorem dX1_removeAllOf_22 : decode cX1_removeAllOf 22 = .ok (.iload_n 2, 1) := by decide +kernel
theorem dX1_removeAllOf_23 : decode cX1_removeAllOf 23 = .ok (.aload_n 0, 1) := by decide +kernel
theorem dX1_removeAllOf_24 : decode cX1_removeAllOf 24 = .ok (.iload_n 3, 1) := by decide +kernel
theorem dX1_removeAllOf_25 : decode cX1_removeAllOf 25 = .ok (.invokevirtual 33, 3) := by decide +kernel
theorem dX1_removeAllOf_28 : decode cX1_removeAllOf 28 = .ok (.aload_n 0, 1) := by decide +kernel
theorem dX1_removeAllOf_29 : decode cX1_removeAllOf 29 = .ok (.iload_n 3, 1) := by decide +kernel
theorem dX1_removeAllOf_30 : decode cX1_removeAllOf 30 = .ok (.invokevirtual 29, 3) := by decide +kernel
theorem dX1_removeAllOf_33 : decode cX1_removeAllOf 33 = .ok (.aload_n 0, 1) := by decide +kernel
theorem dX1_removeAllOf_34 : decode cX1_removeAllOf 34 = .ok (.iload_n 3, 1) := by decide +kernel
theorem dX1_removeAllOf_35 : decode cX1_removeAllOf 35 = .ok (.invokevirtual 36, 3) := by decide +kernel
theorem dX1_removeAllOf_38 : decode cX1_removeAllOf 38 = .ok (.invokevirtual 25, 3) := by decide +kernel
theorem dX1_removeAllOf_41 : decode cX1_removeAllOf 41 = .ok (.iinc 2 1, 3) := by decide +kernel
theorem dX1_removeAllOf_44 : decode cX1_removeAllOf 44 = .ok (.iinc 3 1, 3) := by decide +kernel
theorem dX1_removeAllOf_47 : decode cX1_removeAllOf 47 = .ok (.goto (-43), 3) := by decide +kernel
theorem dX1_removeAllOf_50 : decode cX1_removeAllOf 50 = .ok (.aload_n 0, 1) := by decide +kernel
theorem dX1_removeAllOf_51 : decode cX1_removeAllOf 51 = .ok (.getfield 21, 3) := by decide +kernel
theorem dX1_removeAllOf_54 : decode cX1_removeAllOf 54 = .ok (.iload_n 2, 1) := by decide +kernel
theorem dX1_removeAllOf_55 : decode cX1_removeAllOf 55 = .ok (.isub, 1) := by decide +kernel
theorem dX1_removeAllOf_56 : decode cX1_removeAllOf 56 = .ok (.istore_n 3, 1) := by decide +kernel
theorem dX1_removeAllOf_57 : decode cX1_removeAllOf 57 = .ok (.aload_n 0, 1) := by decide +kernel
theorem dX1_removeAllOf_58 : decode cX1_removeAllOf 58 = .ok (.iload_n 2, 1) := by decide +kernel
theorem dX1_removeAllOf_59 : decode cX1_removeAllOf 59 = .ok (.putfield 21, 3) := by decide +kernel
theorem dX1_removeAllOf_62 : decode cX1_removeAllOf 62 = .ok (.iload_n 3, 1) := by decide +kernel
theorem dX1_removeAllOf_63 : decode cX1_removeAllOf 63 = .ok (.ireturn, 1) := by decide +kernel
theorem dX1_removeAll_0 : decode cX1_removeAll 0 = .ok (.aload_n 0, 1) := by decide +kernel
theorem dX1_removeAll_1 : decode cX1_removeAll 1 = .ok (.getfield 21, 3) := by decide +kernel
theorem dX1_removeAll_4 : decode cX1_removeAll 4 = .ok (.istore_n 1, 1) := by decide +kernel
theorem dX1_removeAll_5 : decode cX1_removeAll 5 = .ok (.aload_n 0, 1) := by decide +kernel
theorem dX1_removeAll_6 : decode cX1_removeAll 6 = .ok (.iconst 0, 1) := by decide +kernel
theorem dX1_removeAll_7 : decode cX1_removeAll 7 = .ok (.putfield 21, 3) := by decide +kernel
theorem dX1_removeAll_10 : decode cX1_removeAll 10 = .ok (.iload_n 1, 1) := by decide +kernel
theorem dX1_removeAll_11 : decode cX1_removeAll 11 = .ok (.ireturn, 1) := by decide +kernel
theorem dX2_init_0 : decode cX2_init 0 = .ok (.aload_n 0, 1) := by decide +kernel
theorem dX2_init_1 : decode cX2_init 1 = .ok (.invokespecial 3, 3) := by decide +kernel
theorem dX2_init_4 : decode cX2_init 4 = .ok (.aload_n 0, 1) := by decide +kernel
theorem dX2_init_5 : decode cX2_init 5 = .ok (.bipush 16, 2) := by decide +kernel
theorem dX2_init_7 : decode cX2_init 7 = .ok (.anewarray 9, 3) := by decide +kernel
theorem dX2_init_10 : decode cX2_init 10 = .ok (.putfield 11, 3) := by decide +kernel
theorem dX2_init_13 : decode cX2_init 13 = .ok (.iconst 0, 1) := by decide +kernel
theorem dX2_init_14 : decode cX2_init 14 = .ok (.istore_n 1, 1) := by decide +kernel
theorem dX2_init_15 : decode cX2_init 15 = .ok (.iload_n 1, 1) := by decide +kernel
theorem dX2_init_16 : decode cX2_init 16 = .ok (.bipush 16, 2) := by decide +kernel
theorem dX2_init_18 : decode cX2_init 18 = .ok (.if_icmp .ge 22, 3) := by decide +kernel
theorem dX2_init_21 : decode cX2_init 21 = .ok (.aload_n 0, 1) := by decide +kernel
theorem dX2_init_22 : decode cX2_init 22 = .ok (.getfield 11, 3) := by decide +kernel
theorem dX2_init_25 : decode cX2_init 25 = .ok (.iload_n 1, 1) := by decide +kernel
theorem dX2_init_26 : decode cX2_init 26 = .ok (.new 9, 3) := by decide +kernel
theorem dX2_init_29 : decode cX2_init 29 = .ok (.dup, 1) := by decide +kernel
theorem dX2_init_30 : decode cX2_init 30 = .ok (.invokespecial 17, 3) := by decide +kernel
theorem dX2_init_33 : decode cX2_init 33 = .ok (.aastore, 1) := by decide +kernel
theorem dX2_init_34 : decode cX2_init 34 = .ok (.iinc 1 1, 3) := by decide +kernel
theorem dX2_init_37 : decode cX2_init 37 = .ok (.goto (-22), 3) := by decide +kernel
theorem dX2_init_40 : decode cX2_init 40 = .ok (.aload_n 0, 1) := by decide +kernel
theorem dX2_init_41 : decode cX2_init 41 = .ok (.bipush 96, 2) := by decide +kernel
theorem dX2_init_43 : decode cX2_init 43 = .ok (.newarray .int, 2) := by decide +kernel
theorem dX2_init_45 : decode cX2_init 45 = .ok (.putfield 18, 3) := by decide +kernel
theorem dX2_init_48 : decode cX2_init 48 = .ok (.return_, 1) := by decide +kernel
theorem dX2_slot_0 : decode cX2_slot 0 = .ok (.iload_n 1, 1) := by decide +kernel
theorem dX2_slot_1 : decode cX2_slot 1 = .ok (.ifCond .lt 21, 3) := by decide +kernel
theorem dX2_slot_4 : decode cX2_slot 4 = .ok (.iload_n 1, 1) := by decide +kernel
theorem dX2_slot_5 : decode cX2_slot 5 = .ok (.aload_n 0, 1) := by decide +kernel
theorem dX2_slot_6 : decode cX2_slot 6 = .ok (.getfield 11, 3) := by decide +kernel
theorem dX2_slot_9 : decode cX2_slot 9 = .ok (.arraylength, 1) := by decide +kernel
theorem dX2_slot_10 : decode cX2_slot 10 = .ok (.if_icmp .ge 12, 3) := by decide +kernel
theorem dX2_slot_13 : decode cX2_slot 13 = .ok (.aload_n 0, 1) := by decide +kernel
theorem dX2_slot_14 : decode cX2_slot 14 = .ok (.getfield 11, 3) := by decide +kernel
theorem dX2_slot_17 : decode cX2_slot 17 = .ok (.iload_n 1, 1) := by decide +kernel
theorem dX2_slot_18 : decode cX2_slot 18 = .ok (.aaload, 1) := by decide +kernel
theorem dX2_slot_19 : decode cX2_slot 19 = .ok (.goto 4, 3) := by decide +kernel
theorem dX2_slot_22 : decode cX2_slot 22 = .ok (.aconst_null, 1) := by decide +kernel
theorem dX2_slot_23 : decode cX2_slot 23 = .ok (.areturn, 1) := by decide +kernel
theorem dX2_find_0 : decode cX2_find 0 = .ok (.aload_n 0, 1) := by decide +kernel
theorem dX2_find_1 : decode cX2_find 1 = .ok (.iload_n 1, 1) := by decide +kernel
theorem dX2_find_2 : decode cX2_find 2 = .ok (.invokevirtual 22, 3) := by decide +kernel
theorem dX2_find_5 : decode cX2_find 5 = .ok (.astore_n 2, 1) := by decide +kernel
theorem dX2_find_6 : decode cX2_find 6 = .ok (.aload_n 2, 1) := by decide +kernel
theorem dX2_find_7 : decode cX2_find 7 = .ok (.ifnull 14, 3) := by decide +kernel
theorem dX2_find_10 : decode cX2_find 10 = .ok (.aload_n 2, 1) := by decide +kernel
theorem dX2_find_11 : decode cX2_find 11 = .ok (.getfield 26, 3) := by decide +kernel
theorem dX2_find_14 : decode cX2_find 14 = .ok (.ifCond .eq 7, 3) := by decide +kernel
theorem dX2_find_17 : decode cX2_find 17 = .ok (.aload_n 2, 1) := by decide +kernel
theorem dX2_find_18 : decode cX2_find 18 = .ok (.goto 4, 3) := by decide +kernel
theorem dX2_find_21 : decode cX2_find 21 = .ok (.aconst_null, 1) := by decide +kernel
theorem dX2_find_22 : decode cX2_find 22 = .ok (.areturn, 1) := by decide +kernel
theorem dX2_add_0 : decode cX2_add 0 = .ok (.aload_n 1, 1) := by decide +kernel
theorem dX2_add_1 : decode cX2_add 1 = .ok (.iconst 1, 1) := by decide +kernel
theorem dX2_add_2 : decode cX2_add 2 = .ok (.putfield 26, 3) := by decide +kernel
theorem dX2_add_5 : decode cX2_add 5 = .ok (.aload_n 1, 1) := by decide +kernel
theorem dX2_add_6 : decode cX2_add 6 = .ok (.iload_n 2, 1) := by decide +kernel
theorem dX2_add_7 : decode cX2_add 7 = .ok (.putfield 30, 3) := by decide +kernel
theorem dX2_add_10 : decode cX2_add 10 = .ok (.aload_n 1, 1) := by decide +kernel
theorem dX2_add_11 : decode cX2_add 11 = .ok (.iload_n 3, 1) := by decide +kernel
theorem dX2_add_12 : decode cX2_add 12 = .ok (.putfield 34, 3) := by decide +kernel
theorem dX2_add_15 : decode cX2_add 15 = .ok (.aload_n 1, 1) := by decide +kernel
theorem dX2_add_16 : decode cX2_add 16 = .ok (.iload 4, 2) := by decide +kernel
theorem dX2_add_18 : decode cX2_add 18 = .ok (.putfield 37, 3) := by decide +kernel
theorem dX2_add_21 : decode cX2_add 21 = .ok (.aload_n 1, 1) := by decide +kernel
theorem dX2_add_22 : decode cX2_add 22 = .ok (.iload 5, 2) := by decide +kernel
theorem dX2_add_24 : decode cX2_add 24 = .ok (.putfield 40, 3) := by decide +kernel
theorem dX2_add_27 : decode cX2_add 27 = .ok (.aload_n 0, 1) := by decide +kernel
theorem dX2_add_28 : decode cX2_add 28 = .ok (.dup, 1) := by decide +kernel
theorem dX2_add_29 : decode cX2_add 29 = .ok (.getfield 43, 3) := by decide +kernel
theorem dX2_add_32 : decode cX2_add 32 = .ok (.iconst 1, 1) := by decide +kernel
theorem dX2_add_33 : decode cX2_add 33 = .ok (.iadd, 1) := by decide +kernel
theorem dX2_add_34 : decode cX2_add 34 = .ok (.putfield 43, 3) := by decide +kernel
theorem dX2_add_37 : decode cX2_add 37 = .ok (.return_, 1) := by decide +kernel
theorem dX2_remove_0 : decode cX2_remove 0 = .ok (.aload_n 1, 1) := by decide +kernel
theorem dX2_remove_1 : decode cX2_remove 1 = .ok (.invokevirtual 46, 3) := by decide +kernel
theorem dX2_remove_4 : decode cX2_remove 4 = .ok (.aload_n 0, 1) := by decide +kernel
theorem dX2_remove_5 : decode cX2_remove 5 = .ok (.dup, 1) := by decide +kernel
theorem dX2_remove_6 : decode cX2_remove 6 = .ok (.getfield 43, 3) := by decide +kernel
theorem dX2_remove_9 : decode cX2_remove 9 = .ok (.iconst 1, 1) := by decide +kernel
theorem dX2_remove_10 : decode cX2_remove 10 = .ok (.isub, 1) := by decide +kernel
theorem dX2_remove_11 : decode cX2_remove 11 = .ok (.putfield 43, 3) := by decide +kernel
theorem dX2_remove_14 : decode cX2_remove 14 = .ok (.return_, 1) := by decide +kernel
theorem dX2_usesOf_0 : decode cX2_usesOf 0 = .ok (.iload_n 1, 1) := by decide +kernel
theorem dX2_usesOf_1 : decode cX2_usesOf 1 = .ok (.ifCond .lt 21, 3) := by decide +kernel
theorem dX2_usesOf_4 : decode cX2_usesOf 4 = .ok (.iload_n 1, 1) := by decide +kernel
theorem dX2_usesOf_5 : decode cX2_usesOf 5 = .ok (.aload_n 0, 1) := by decide +kernel
theorem dX2_usesOf_6 : decode cX2_usesOf 6 = .ok (.getfield 18, 3) := by decide +kernel
theorem dX2_usesOf_9 : decode cX2_usesOf 9 = .ok (.arraylength, 1) := by decide +kernel
theorem dX2_usesOf_10 : decode cX2_usesOf 10 = .ok (.if_icmp .ge 12, 3) := by decide +kernel
theorem dX2_usesOf_13 : decode cX2_usesOf 13 = .ok (.aload_n 0, 1) := by decide +kernel
theorem dX2_usesOf_14 : decode cX2_usesOf 14 = .ok (.getfield 18, 3) := by decide +kernel
theorem dX2_usesOf_17 : decode cX2_usesOf 17 = .ok (.iload_n 1, 1) := by decide +kernel
theorem dX2_usesOf_18 : decode cX2_usesOf 18 = .ok (.iaload, 1) := by decide +kernel
theorem dX2_usesOf_19 : decode cX2_usesOf 19 = .ok (.goto 4, 3) := by decide +kernel
theorem dX2_usesOf_22 : decode cX2_usesOf 22 = .ok (.iconst 0, 1) := by decide +kernel
theorem dX2_usesOf_23 : decode cX2_usesOf 23 = .ok (.ireturn, 1) := by decide +kernel
theorem dX2_setExtent_0 : decode cX2_setExtent 0 = .ok (.aload_n 1, 1) := by decide +kernel
theorem dX2_setExtent_1 : decode cX2_setExtent 1 = .ok (.iload_n 2, 1) := by decide +kernel
theorem dX2_setExtent_2 : decode cX2_setExtent 2 = .ok (.invokevirtual 49, 3) := by decide +kernel
theorem dX2_setExtent_5 : decode cX2_setExtent 5 = .ok (.istore 4, 2) := by decide +kernel
theorem dX2_setExtent_7 : decode cX2_setExtent 7 = .ok (.iload 4, 2) := by decide +kernel
theorem dX2_setExtent_9 : decode cX2_setExtent 9 = .ok (.ifCond .lt 34, 3) := by decide +kernel
theorem dX2_setExtent_12 : decode cX2_setExtent 12 = .ok (.iload 4, 2) := by decide +kernel
theorem dX2_setExtent_14 : decode cX2_setExtent 14 = .ok (.aload_n 0, 1) := by decide +kernel
theorem dX2_setExtent_15 : decode cX2_setExtent 15 = .ok (.getfield 18, 3) := by decide +kernel
theorem dX2_setExtent_18 : decode cX2_setExtent 18 = .ok (.arraylength, 1) := by decide +kernel
theorem dX2_setExtent_19 : decode cX2_setExtent 19 = .ok (.if_icmp .ge 24, 3) := by decide +kernel
theorem dX2_setExtent_22 : decode cX2_setExtent 22 = .ok (.aload_n 0, 1) := by decide +kernel
theorem dX2_setExtent_23 : decode cX2_setExtent 23 = .ok (.getfield 18, 3) := by decide +kernel
theorem dX2_setExtent_26 : decode cX2_setExtent 26 = .ok (.iload 4, 2) := by decide +kernel
theorem dX2_setExtent_28 : decode cX2_setExtent 28 = .ok (.dup2, 1) := by decide +kernel
theorem dX2_setExtent_29 : decode cX2_setExtent 29 = .ok (.iaload, 1) := by decide +kernel
theorem dX2_setExtent_30 : decode cX2_setExtent 30 = .ok (.iconst 1, 1) := by decide +kernel
theorem dX2_setExtent_31 : decode cX2_setExtent 31 = .ok (.isub, 1) := by decide +kernel
theorem dX2_setExtent_32 : decode cX2_setExtent 32 = .ok (.iastore, 1) := by decide +kernel
theorem dX2_setExtent_33 : decode cX2_setExtent 33 = .ok (.aload_n 1, 1) := by decide +kernel
theorem dX2_setExtent_34 : decode cX2_setExtent 34 = .ok (.dup, 1) := by decide +kernel
theorem dX2_setExtent_35 : decode cX2_setExtent 35 = .ok (.getfield 53, 3) := by decide +kernel
theorem dX2_setExtent_38 : decode cX2_setExtent 38 = .ok (.iconst 1, 1) := by decide +kernel
theorem dX2_setExtent_39 : decode cX2_setExtent 39 = .ok (.isub, 1) := by decide +kernel
theorem dX2_setExtent_40 : decode cX2_setExtent 40 = .ok (.putfield 53, 3) := by decide +kernel
theorem dX2_setExtent_43 : decode cX2_setExtent 43 = .ok (.iload_n 3, 1) := by decide +kernel
theorem dX2_setExtent_44 : decode cX2_setExtent 44 = .ok (.ifCond .lt 32, 3) := by decide +kernel
theorem dX2_setExtent_47 : decode cX2_setExtent 47 = .ok (.iload_n 3, 1) := by decide +kernel
theorem dX2_setExtent_48 : decode cX2_setExtent 48 = .ok (.aload_n 0, 1) := by decide +kernel
theorem dX2_setExtent_49 : decode cX2_setExtent 49 = .ok (.getfield 18, 3) := by decide +kernel
theorem dX2_setExtent_52 : decode cX2_setExtent 52 = .ok (.arraylength, 1) := by decide +kernel
theorem dX2_setExtent_53 : decode cX2_setExtent 53 = .ok (.if_icmp .ge 23, 3) := by decide +kernel
theorem dX2_setExtent_56 : decode cX2_setExtent 56 = .ok (.aload_n 0, 1) := by decide +kernel
theorem dX2_setExtent_57 : decode cX2_setExtent 57 = .ok (.getfield 18, 3) := by decide +kernel
theorem dX2_setExtent_60 : decode cX2_setExtent 60 = .ok (.iload_n 3, 1) := by decide +kernel
theorem dX2_setExtent_61 : decode cX2_setExtent 61 = .ok (.dup2, 1) := by decide +kernel
theorem dX2_setExtent_62 : decode cX2_setExtent 62 = .ok (.iaload, 1) := by decide +kernel
theorem dX2_setExtent_63 : decode cX2_setExtent 63 = .ok (.iconst 1, 1) := by decide +kernel
theorem dX2_setExtent_64 : decode cX2_setExtent 64 = .ok (.iadd, 1) := by decide +kernel
theorem dX2_setExtent_65 : decode cX2_setExtent 65 = .ok (.iastore, 1) := by decide +kernel
theorem dX2_setExtent_66 : decode cX2_setExtent 66 = .ok (.aload_n 1, 1) := by decide +kernel
theorem dX2_setExtent_67 : decode cX2_setExtent 67 = .ok (.dup, 1) := by decide +kernel
theorem dX2_setExtent_68 : decode cX2_setExtent 68 = .ok (.getfield 53, 3) := by decide +kernel
theorem dX2_setExtent_71 : decode cX2_setExtent 71 = .ok (.iconst 1, 1) := by decide +kernel
theorem dX2_setExtent_72 : decode cX2_setExtent 72 = .ok (.iadd, 1) := by decide +kernel
theorem dX2_setExtent_73 : decode cX2_setExtent 73 = .ok (.putfield 53, 3) := by decide +kernel
theorem dX2_setExtent_76 : decode cX2_setExtent 76 = .ok (.aload_n 1, 1) := by decide +kernel
theorem dX2_setExtent_77 : decode cX2_setExtent 77 = .ok (.iload_n 2, 1) := by decide +kernel
theorem dX2_setExtent_78 : decode cX2_setExtent 78 = .ok (.iload_n 3, 1) := by decide +kernel
theorem dX2_setExtent_79 : decode cX2_setExtent 79 = .ok (.invokevirtual 56, 3) := by decide +kernel
theorem dX2_setExtent_82 : decode cX2_setExtent 82 = .ok (.return_, 1) := by decide +kernel
theorem dX2_unmap_0 : decode cX2_unmap 0 = .ok (.aload_n 1, 1) := by decide +kernel
theorem dX2_unmap_1 : decode cX2_unmap 1 = .ok (.getfield 53, 3) := by decide +kernel
theorem dX2_unmap_4 : decode cX2_unmap 4 = .ok (.istore 4, 2) := by decide +kernel
theorem dX2_unmap_6 : decode cX2_unmap 6 = .ok (.iload_n 2, 1) := by decide +kernel
theorem dX2_unmap_7 : decode cX2_unmap 7 = .ok (.istore 5, 2) := by decide +kernel
theorem dX2_unmap_9 : decode cX2_unmap 9 = .ok (.iload 5, 2) := by decide +kernel
theorem dX2_unmap_11 : decode cX2_unmap 11 = .ok (.iload_n 3, 1) := by decide +kernel
theorem dX2_unmap_12 : decode cX2_unmap 12 = .ok (.if_icmp .ge 17, 3) := by decide +kernel
theorem dX2_unmap_15 : decode cX2_unmap 15 = .ok (.aload_n 0, 1) := by decide +kernel
theorem dX2_unmap_16 : decode cX2_unmap 16 = .ok (.aload_n 1, 1) := by decide +kernel
theorem dX2_unmap_17 : decode cX2_unmap 17 = .ok (.iload 5, 2) := by decide +kernel
theorem dX2_unmap_19 : decode cX2_unmap 19 = .ok (.iconst (-1), 1) := by decide +kernel
theorem dX2_unmap_20 : decode cX2_unmap 20 = .ok (.invokevirtual 60, 3) := by decide +kernel
theorem dX2_unmap_23 : decode cX2_unmap 23 = .ok (.iinc 5 1, 3) := by decide +kernel
theorem dX2_unmap_26 : decode cX2_unmap 26 = .ok (.goto (-17), 3) := by decide +kernel
theorem dX2_unmap_29 : decode cX2_unmap 29 = .ok (.iload 4, 2) := by decide +kernel
theorem dX2_unmap_31 : decode cX2_unmap 31 = .ok (.aload_n 1, 1) := by decide +kernel
theorem dX2_unmap_32 : decode cX2_unmap 32 = .ok (.getfield 53, 3) := by decide +kernel
theorem dX2_unmap_35 : decode cX2_unmap 35 = .ok (.isub, 1) := by decide +kernel
theorem dX2_unmap_36 : decode cX2_unmap 36 = .ok (.ireturn, 1) := by decide +kernel
theorem dX2_userOf_0 : decode cX2_userOf 0 = .ok (.iconst 0, 1) := by decide +kernel
theorem dX2_userOf_1 : decode cX2_userOf 1 = .ok (.istore_n 3, 1) := by decide +kernel
theorem dX2_userOf_2 : decode cX2_userOf 2 = .ok (.iconst 0, 1) := by decide +kernel
theorem dX2_userOf_3 : decode cX2_userOf 3 = .ok (.istore 4, 2) := by decide +kernel
theorem dX2_userOf_5 : decode cX2_userOf 5 = .ok (.iload 4, 2) := by decide +kernel
theorem dX2_userOf_7 : decode cX2_userOf 7 = .ok (.sipush 640, 3) := by decide +kernel
theorem dX2_userOf_10 : decode cX2_userOf 10 = .ok (.if_icmp .ge 62, 3) := by decide +kernel
theorem dX2_userOf_13 : decode cX2_userOf 13 = .ok (.aload_n 0, 1) := by decide +kernel
theorem dX2_userOf_14 : decode cX2_userOf 14 = .ok (.iload 4, 2) := by decide +kernel
theorem dX2_userOf_16 : decode cX2_userOf 16 = .ok (.bipush 40, 2) := by decide +kernel
theorem dX2_userOf_18 : decode cX2_userOf 18 = .ok (.idiv, 1) := by decide +kernel
theorem dX2_userOf_19 : decode cX2_userOf 19 = .ok (.invokevirtual 22, 3) := by decide +kernel
theorem dX2_userOf_22 : decode cX2_userOf 22 = .ok (.astore 5, 2) := by decide +kernel
theorem dX2_userOf_24 : decode cX2_userOf 24 = .ok (.aload 5, 2) := by decide +kernel
theorem dX2_userOf_26 : decode cX2_userOf 26 = .ok (.ifnull 40, 3) := by decide +kernel
theorem dX2_userOf_29 : decode cX2_userOf 29 = .ok (.aload 5, 2) := by decide +kernel
theorem dX2_userOf_31 : decode cX2_userOf 31 = .ok (.iload 4, 2) := by decide +kernel
theorem dX2_userOf_33 : decode cX2_userOf 33 = .ok (.bipush 40, 2) := by decide +kernel
theorem dX2_userOf_35 : decode cX2_userOf 35 = .ok (.irem, 1) := by decide +kernel
theorem dX2_userOf_36 : decode cX2_userOf 36 = .ok (.invokevirtual 49, 3) := by decide +kernel
theorem dX2_userOf_39 : decode cX2_userOf 39 = .ok (.iload_n 1, 1) := by decide +kernel
theorem dX2_userOf_40 : decode cX2_userOf 40 = .ok (.if_icmp .ne 26, 3) := by decide +kernel
theorem dX2_userOf_43 : decode cX2_userOf 43 = .ok (.iload_n 3, 1) := by decide +kernel
theorem dX2_userOf_44 : decode cX2_userOf 44 = .ok (.iload_n 2, 1) := by decide +kernel
theorem dX2_userOf_45 : decode cX2_userOf 45 = .ok (.if_icmp .ne 18, 3) := by decide +kernel
theorem dX2_userOf_48 : decode cX2_userOf 48 = .ok (.bipush 64, 2) := by decide +kernel
theorem dX2_userOf_50 : decode cX2_userOf 50 = .ok (.iload 4, 2) := by decide +kernel
theorem dX2_userOf_52 : decode cX2_userOf 52 = .ok (.bipush 40, 2) := by decide +kernel
theorem dX2_userOf_54 : decode cX2_userOf 54 = .ok (.idiv, 1) := by decide +kernel
theorem dX2_userOf_55 : decode cX2_userOf 55 = .ok (.imul, 1) := by decide +kernel
theorem dX2_userOf_56 : decode cX2_userOf 56 = .ok (.iload 4, 2) := by decide +kernel
theorem dX2_userOf_58 : decode cX2_userOf 58 = .ok (.bipush 40, 2) := by decide +kernel
theorem dX2_userOf_60 : decode cX2_userOf 60 = .ok (.irem, 1) := by decide +kernel
theorem dX2_userOf_61 : decode cX2_userOf 61 = .ok (.iadd, 1) := by decide +kernel
theorem dX2_userOf_62 : decode cX2_userOf 62 = .ok (.ireturn, 1) := by decide +kernel
theorem dX2_userOf_63 : decode cX2_userOf 63 = .ok (.iinc 3 1, 3) := by decide +kernel
theorem dX2_userOf_66 : decode cX2_userOf 66 = .ok (.iinc 4 1, 3) := by decide +kernel
theorem dX2_userOf_69 : decode cX2_userOf 69 = .ok (.goto (-64), 3) := by decide +kernel
theorem dX2_userOf_72 : decode cX2_userOf 72 = .ok (.iconst (-1), 1) := by decide +kernel
theorem dX2_userOf_73 : decode cX2_userOf 73 = .ok (.ireturn, 1) := by decide +kernel
theorem dX2_hasBacked_0 : decode cX2_hasBacked 0 = .ok (.aload_n 0, 1) := by decide +kernel
theorem dX2_hasBacked_1 : decode cX2_hasBacked 1 = .ok (.getfield 11, 3) := by decide +kernel
theorem dX2_hasBacked_4 : decode cX2_hasBacked 4 = .ok (.astore_n 1, 1) := by decide +kernel
theorem dX2_hasBacked_5 : decode cX2_hasBacked 5 = .ok (.aload_n 1, 1) := by decide +kernel
theorem dX2_hasBacked_6 : decode cX2_hasBacked 6 = .ok (.arraylength, 1) := by decide +kernel
theorem dX2_hasBacked_7 : decode cX2_hasBacked 7 = .ok (.istore_n 2, 1) := by decide +kernel
theorem dX2_hasBacked_8 : decode cX2_hasBacked 8 = .ok (.iconst 0, 1) := by decide +kernel
theorem dX2_hasBacked_9 : decode cX2_hasBacked 9 = .ok (.istore_n 3, 1) := by decide +kernel
theorem dX2_hasBacked_10 : decode cX2_hasBacked 10 = .ok (.iload_n 3, 1) := by decide +kernel
theorem dX2_hasBacked_11 : decode cX2_hasBacked 11 = .ok (.iload_n 2, 1) := by decide +kernel
theorem dX2_hasBacked_12 : decode cX2_hasBacked 12 = .ok (.if_icmp .ge 32, 3) := by decide +kernel
theorem dX2_hasBacked_15 : decode cX2_hasBacked 15 = .ok (.aload_n 1, 1) := by decide +kernel
theorem dX2_hasBacked_16 : decode cX2_hasBacked 16 = .ok (.iload_n 3, 1) := by decide +kernel
theorem dX2_hasBacked_17 : decode cX2_hasBacked 17 = .ok (.aaload, 1) := by decide +kernel
theorem dX2_hasBacked_18 : decode cX2_hasBacked 18 = .ok (.astore 4, 2) := by decide +kernel
theorem dX2_hasBacked_20 : decode cX2_hasBacked 20 = .ok (.aload 4, 2) := by decide +kernel
theorem dX2_hasBacked_22 : decode cX2_hasBacked 22 = .ok (.getfield 26, 3) := by decide +kernel
theorem dX2_hasBacked_25 : decode cX2_hasBacked 25 = .ok (.ifCond .eq 13, 3) := by decide +kernel
theorem dX2_hasBacked_28 : decode cX2_hasBacked 28 = .ok (.aload 4, 2) := by decide +kernel
theorem dX2_hasBacked_30 : decode cX2_hasBacked 30 = .ok (.getfield 34, 3) := by decide +kernel
theorem dX2_hasBacked_33 : decode cX2_hasBacked 33 = .ok (.ifCond .eq 5, 3) := by decide +kernel
theorem dX2_hasBacked_36 : decode cX2_hasBacked 36 = .ok (.iconst 1, 1) := by decide +kernel
theorem dX2_hasBacked_37 : decode cX2_hasBacked 37 = .ok (.ireturn, 1) := by decide +kernel
theorem dX2_hasBacked_38 : decode cX2_hasBacked 38 = .ok (.iinc 3 1, 3) := by decide +kernel
theorem dX2_hasBacked_41 : decode cX2_hasBacked 41 = .ok (.goto (-31), 3) := by decide +kernel
theorem dX2_hasBacked_44 : decode cX2_hasBacked 44 = .ok (.iconst 0, 1) := by decide +kernel
theorem dX2_hasBacked_45 : decode cX2_hasBacked 45 = .ok (.ireturn, 1) := by decide +kernel
theorem dX2_copy_0 : decode cX2_copy 0 = .ok (.aload_n 0, 1) := by decide +kernel
theorem dX2_copy_1 : decode cX2_copy 1 = .ok (.aload_n 1, 1) := by decide +kernel
theorem dX2_copy_2 : decode cX2_copy 2 = .ok (.getfield 63, 3) := by decide +kernel
theorem dX2_copy_5 : decode cX2_copy 5 = .ok (.putfield 63, 3) := by decide +kernel
theorem dX2_copy_8 : decode cX2_copy 8 = .ok (.aload_n 0, 1) := by decide +kernel
theorem dX2_copy_9 : decode cX2_copy 9 = .ok (.aload_n 1, 1) := by decide +kernel
theorem dX2_copy_10 : decode cX2_copy 10 = .ok (.getfield 43, 3) := by decide +kernel
theorem dX2_copy_13 : decode cX2_copy 13 = .ok (.putfield 43, 3) := by decide +kernel
theorem dX2_copy_16 : decode cX2_copy 16 = .ok (.iconst 0, 1) := by decide +kernel
theorem dX2_copy_17 : decode cX2_copy 17 = .ok (.istore_n 2, 1) := by decide +kernel
theorem dX2_copy_18 : decode cX2_copy 18 = .ok (.iload_n 2, 1) := by decide +kernel
theorem dX2_copy_19 : decode cX2_copy 19 = .ok (.bipush 16, 2) := by decide +kernel
theorem dX2_copy_21 : decode cX2_copy 21 = .ok (.if_icmp .ge 24, 3) := by decide +kernel
theorem dX2_copy_24 : decode cX2_copy 24 = .ok (.aload_n 0, 1) := by decide +kernel
theorem dX2_copy_25 : decode cX2_copy 25 = .ok (.getfield 11, 3) := by decide +kernel
theorem dX2_copy_28 : decode cX2_copy 28 = .ok (.iload_n 2, 1) := by decide +kernel
theorem dX2_copy_29 : decode cX2_copy 29 = .ok (.aaload, 1) := by decide +kernel
theorem dX2_copy_30 : decode cX2_copy 30 = .ok (.aload_n 1, 1) := by decide +kernel
theorem dX2_copy_31 : decode cX2_copy 31 = .ok (.getfield 11, 3) := by decide +kernel
theorem dX2_copy_34 : decode cX2_copy 34 = .ok (.iload_n 2, 1) := by decide +kernel
theorem dX2_copy_35 : decode cX2_copy 35 = .ok (.aaload, 1) := by decide +kernel
theorem dX2_copy_36 : decode cX2_copy 36 = .ok (.invokevirtual 66, 3) := by decide +kernel
theorem dX2_copy_39 : decode cX2_copy 39 = .ok (.iinc 2 1, 3) := by decide +kernel
theorem dX2_copy_42 : decode cX2_copy 42 = .ok (.goto (-24), 3) := by decide +kernel
theorem dX2_copy_45 : decode cX2_copy 45 = .ok (.aload_n 1, 1) := by decide +kernel
theorem dX2_copy_46 : decode cX2_copy 46 = .ok (.getfield 18, 3) := by decide +kernel
theorem dX2_copy_49 : decode cX2_copy 49 = .ok (.iconst 0, 1) := by decide +kernel
theorem dX2_copy_50 : decode cX2_copy 50 = .ok (.aload_n 0, 1) := by decide +kernel
theorem dX2_copy_51 : decode cX2_copy 51 = .ok (.getfield 18, 3) := by decide +kernel
theorem dX2_copy_54 : decode cX2_copy 54 = .ok (.iconst 0, 1) := by decide +kernel
theorem dX2_copy_55 : decode cX2_copy 55 = .ok (.bipush 96, 2) := by decide +kernel
theorem dX2_copy_57 : decode cX2_copy 57 = .ok (.invokestatic 70, 3) := by decide +kernel
theorem dX2_copy_60 : decode cX2_copy 60 = .ok (.return_, 1) := by decide +kernel
theorem dX2_clear_0 : decode cX2_clear 0 = .ok (.aload_n 0, 1) := by decide +kernel
theorem dX2_clear_1 : decode cX2_clear 1 = .ok (.iconst 0, 1) := by decide +kernel
theorem dX2_clear_2 : decode cX2_clear 2 = .ok (.putfield 63, 3) := by decide +kernel
theorem dX2_clear_5 : decode cX2_clear 5 = .ok (.aload_n 0, 1) := by decide +kernel
theorem dX2_clear_6 : decode cX2_clear 6 = .ok (.iconst 0, 1) := by decide +kernel
theorem dX2_clear_7 : decode cX2_clear 7 = .ok (.putfield 43, 3) := by decide +kernel
theorem dX2_clear_10 : decode cX2_clear 10 = .ok (.aload_n 0, 1) := by decide +kernel
theorem dX2_clear_11 : decode cX2_clear 11 = .ok (.getfield 11, 3) := by decide +kernel
theorem dX2_clear_14 : decode cX2_clear 14 = .ok (.astore_n 1, 1) := by decide +kernel
theorem dX2_clear_15 : decode cX2_clear 15 = .ok (.aload_n 1, 1) := by decide +kernel
theorem dX2_clear_16 : decode cX2_clear 16 = .ok (.arraylength, 1) := by decide +kernel
theorem dX2_clear_17 : decode cX2_clear 17 = .ok (.istore_n 2, 1) := by decide +kernel
theorem dX2_clear_18 : decode cX2_clear 18 = .ok (.iconst 0, 1) := by decide +kernel
theorem dX2_clear_19 : decode cX2_clear 19 = .ok (.istore_n 3, 1) := by decide +kernel
theorem dX2_clear_20 : decode cX2_clear 20 = .ok (.iload_n 3, 1) := by decide +kernel
theorem dX2_clear_21 : decode cX2_clear 21 = .ok (.iload_n 2, 1) := by decide +kernel
theorem dX2_clear_22 : decode cX2_clear 22 = .ok (.if_icmp .ge 19, 3) := by decide +kernel
theorem dX2_clear_25 : decode cX2_clear 25 = .ok (.aload_n 1, 1) := by decide +kernel
theorem dX2_clear_26 : decode cX2_clear 26 = .ok (.iload_n 3, 1) := by decide +kernel
theorem dX2_clear_27 : decode cX2_clear 27 = .ok (.aaload, 1) := by decide +kernel
theorem dX2_clear_28 : decode cX2_clear 28 = .ok (.astore 4, 2) := by decide +kernel
theorem dX2_clear_30 : decode cX2_clear 30 = .ok (.aload 4, 2) := by decide +kernel
theorem dX2_clear_32 : decode cX2_clear 32 = .ok (.invokevirtual 46, 3) := by decide +kernel
theorem dX2_clear_35 : decode cX2_clear 35 = .ok (.iinc 3 1, 3) := by decide +kernel
theorem dX2_clear_38 : decode cX2_clear 38 = .ok (.goto (-18), 3) := by decide +kernel
theorem dX2_clear_41 : decode cX2_clear 41 = .ok (.aload_n 0, 1) := by decide +kernel
theorem dX2_clear_42 : decode cX2_clear 42 = .ok (.getfield 18, 3) := by decide +kernel
theorem dX2_clear_45 : decode cX2_clear 45 = .ok (.iconst 0, 1) := by decide +kernel
theorem dX2_clear_46 : decode cX2_clear 46 = .ok (.invokestatic 76, 3) := by decide +kernel
theorem dX2_clear_49 : decode cX2_clear 49 = .ok (.return_, 1) := by decide +kernel
theorem dX3_init_0 : decode cX3_init 0 = .ok (.aload_n 0, 1) := by decide +kernel
theorem dX3_init_1 : decode cX3_init 1 = .ok (.invokespecial 3, 3) := by decide +kernel
theorem dX3_init_4 : decode cX3_init 4 = .ok (.aload_n 0, 1) := by decide +kernel
theorem dX3_init_5 : decode cX3_init 5 = .ok (.bipush 40, 2) := by decide +kernel
theorem dX3_init_7 : decode cX3_init 7 = .ok (.newarray .int, 2) := by decide +kernel
theorem dX3_init_9 : decode cX3_init 9 = .ok (.putfield 9, 3) := by decide +kernel
theorem dX3_init_12 : decode cX3_init 12 = .ok (.aload_n 0, 1) := by decide +kernel
theorem dX3_init_13 : decode cX3_init 13 = .ok (.getfield 9, 3) := by decide +kernel
theorem dX3_init_16 : decode cX3_init 16 = .ok (.iconst (-1), 1) := by decide +kernel
theorem dX3_init_17 : decode cX3_init 17 = .ok (.invokestatic 15, 3) := by decide +kernel
theorem dX3_init_20 : decode cX3_init 20 = .ok (.aload_n 0, 1) := by decide +kernel
theorem dX3_init_21 : decode cX3_init 21 = .ok (.iconst (-1), 1) := by decide +kernel
theorem dX3_init_22 : decode cX3_init 22 = .ok (.putfield 21, 3) := by decide +kernel
theorem dX3_init_25 : decode cX3_init 25 = .ok (.aload_n 0, 1) := by decide +kernel
theorem dX3_init_26 : decode cX3_init 26 = .ok (.iconst (-1), 1) := by decide +kernel
theorem dX3_init_27 : decode cX3_init 27 = .ok (.putfield 25, 3) := by decide +kernel
theorem dX3_init_30 : decode cX3_init 30 = .ok (.return_, 1) := by decide +kernel
theorem dX3_extentOf_0 : decode cX3_extentOf 0 = .ok (.iload_n 1, 1) := by decide +kernel
theorem dX3_extentOf_1 : decode cX3_extentOf 1 = .ok (.ifCond .lt 21, 3) := by decide +kernel
theorem dX3_extentOf_4 : decode cX3_extentOf 4 = .ok (.iload_n 1, 1) := by decide +kernel
theorem dX3_extentOf_5 : decode cX3_extentOf 5 = .ok (.aload_n 0, 1) := by decide +kernel
theorem dX3_extentOf_6 : decode cX3_extentOf 6 = .ok (.getfield 9, 3) := by decide +kernel
theorem dX3_extentOf_9 : decode cX3_extentOf 9 = .ok (.arraylength, 1) := by decide +kernel
theorem dX3_extentOf_10 : decode cX3_extentOf 10 = .ok (.if_icmp .ge 12, 3) := by decide +kernel
theorem dX3_extentOf_13 : decode cX3_extentOf 13 = .ok (.aload_n 0, 1) := by decide +kernel
theorem dX3_extentOf_14 : decode cX3_extentOf 14 = .ok (.getfield 9, 3) := by decide +kernel
theorem dX3_extentOf_17 : decode cX3_extentOf 17 = .ok (.iload_n 1, 1) := by decide +kernel
theorem dX3_extentOf_18 : decode cX3_extentOf 18 = .ok (.iaload, 1) := by decide +kernel
theorem dX3_extentOf_19 : decode cX3_extentOf 19 = .ok (.goto 4, 3) := by decide +kernel
theorem dX3_extentOf_22 : decode cX3_extentOf 22 = .ok (.iconst (-1), 1) := by decide +kernel
theorem dX3_extentOf_23 : decode cX3_extentOf 23 = .ok (.ireturn, 1) := by decide +kernel
theorem dX3_setExtent_0 : decode cX3_setExtent 0 = .ok (.iload_n 1, 1) := by decide +kernel
theorem dX3_setExtent_1 : decode cX3_setExtent 1 = .ok (.ifCond .lt 19, 3) := by decide +kernel
theorem dX3_setExtent_4 : decode cX3_setExtent 4 = .ok (.iload_n 1, 1) := by decide +kernel
theorem dX3_setExtent_5 : decode cX3_setExtent 5 = .ok (.aload_n 0, 1) := by decide +kernel
theorem dX3_setExtent_6 : decode cX3_setExtent 6 = .ok (.getfield 9, 3) := by decide +kernel
theorem dX3_setExtent_9 : decode cX3_setExtent 9 = .ok (.arraylength, 1) := by decide +kernel
theorem dX3_setExtent_10 : decode cX3_setExtent 10 = .ok (.if_icmp .ge 10, 3) := by decide +kernel
theorem dX3_setExtent_13 : decode cX3_setExtent 13 = .ok (.aload_n 0, 1) := by decide +kernel
theorem dX3_setExtent_14 : decode cX3_setExtent 14 = .ok (.getfield 9, 3) := by decide +kernel
theorem dX3_setExtent_17 : decode cX3_setExtent 17 = .ok (.iload_n 1, 1) := by decide +kernel
theorem dX3_setExtent_18 : decode cX3_setExtent 18 = .ok (.iload_n 2, 1) := by decide +kernel
theorem dX3_setExtent_19 : decode cX3_setExtent 19 = .ok (.iastore, 1) := by decide +kernel
theorem dX3_setExtent_20 : decode cX3_setExtent 20 = .ok (.return_, 1) := by decide +kernel
theorem dX3_lastMapped_0 : decode cX3_lastMapped 0 = .ok (.aload_n 0, 1) := by decide +kernel
theorem dX3_lastMapped_1 : decode cX3_lastMapped 1 = .ok (.getfield 9, 3) := by decide +kernel
theorem dX3_lastMapped_4 : decode cX3_lastMapped 4 = .ok (.arraylength, 1) := by decide +kernel
theorem dX3_lastMapped_5 : decode cX3_lastMapped 5 = .ok (.iconst 1, 1) := by decide +kernel
theorem dX3_lastMapped_6 : decode cX3_lastMapped 6 = .ok (.isub, 1) := by decide +kernel
theorem dX3_lastMapped_7 : decode cX3_lastMapped 7 = .ok (.istore_n 1, 1) := by decide +kernel
theorem dX3_lastMapped_8 : decode cX3_lastMapped 8 = .ok (.iload_n 1, 1) := by decide +kernel
theorem dX3_lastMapped_9 : decode cX3_lastMapped 9 = .ok (.ifCond .lt 21, 3) := by decide +kernel
theorem dX3_lastMapped_12 : decode cX3_lastMapped 12 = .ok (.aload_n 0, 1) := by decide +kernel
theorem dX3_lastMapped_13 : decode cX3_lastMapped 13 = .ok (.getfield 9, 3) := by decide +kernel
theorem dX3_lastMapped_16 : decode cX3_lastMapped 16 = .ok (.iload_n 1, 1) := by decide +kernel
theorem dX3_lastMapped_17 : decode cX3_lastMapped 17 = .ok (.iaload, 1) := by decide +kernel
theorem dX3_lastMapped_18 : decode cX3_lastMapped 18 = .ok (.iconst (-1), 1) := by decide +kernel
theorem dX3_lastMapped_19 : decode cX3_lastMapped 19 = .ok (.if_icmp .eq 5, 3) := by decide +kernel
theorem dX3_lastMapped_22 : decode cX3_lastMapped 22 = .ok (.iload_n 1, 1) := by decide +kernel
theorem dX3_lastMapped_23 : decode cX3_lastMapped 23 = .ok (.ireturn, 1) := by decide +kernel
theorem dX3_lastMapped_24 : decode cX3_lastMapped 24 = .ok (.iinc 1 (-1), 3) := by decide +kernel
theorem dX3_lastMapped_27 : decode cX3_lastMapped 27 = .ok (.goto (-19), 3) := by decide +kernel
theorem dX3_lastMapped_30 : decode cX3_lastMapped 30 = .ok (.iconst (-1), 1) := by decide +kernel
theorem dX3_lastMapped_31 : decode cX3_lastMapped 31 = .ok (.ireturn, 1) := by decide +kernel
theorem dX3_copy_0 : decode cX3_copy 0 = .ok (.aload_n 0, 1) := by decide +kernel
theorem dX3_copy_1 : decode cX3_copy 1 = .ok (.aload_n 1, 1) := by decide +kernel
theorem dX3_copy_2 : decode cX3_copy 2 = .ok (.getfield 28, 3) := by decide +kernel
theorem dX3_copy_5 : decode cX3_copy 5 = .ok (.putfield 28, 3) := by decide +kernel
theorem dX3_copy_8 : decode cX3_copy 8 = .ok (.aload_n 0, 1) := by decide +kernel
theorem dX3_copy_9 : decode cX3_copy 9 = .ok (.aload_n 1, 1) := by decide +kernel
theorem dX3_copy_10 : decode cX3_copy 10 = .ok (.getfield 32, 3) := by decide +kernel
theorem dX3_copy_13 : decode cX3_copy 13 = .ok (.putfield 32, 3) := by decide +kernel
theorem dX3_copy_16 : decode cX3_copy 16 = .ok (.aload_n 0, 1) := by decide +kernel
theorem dX3_copy_17 : decode cX3_copy 17 = .ok (.aload_n 1, 1) := by decide +kernel
theorem dX3_copy_18 : decode cX3_copy 18 = .ok (.getfield 35, 3) := by decide +kernel
theorem dX3_copy_21 : decode cX3_copy 21 = .ok (.putfield 35, 3) := by decide +kernel
theorem dX3_copy_24 : decode cX3_copy 24 = .ok (.aload_n 0, 1) := by decide +kernel
theorem dX3_copy_25 : decode cX3_copy 25 = .ok (.aload_n 1, 1) := by decide +kernel
theorem dX3_copy_26 : decode cX3_copy 26 = .ok (.getfield 21, 3) := by decide +kernel
theorem dX3_copy_29 : decode cX3_copy 29 = .ok (.putfield 21, 3) := by decide +kernel
theorem dX3_copy_32 : decode cX3_copy 32 = .ok (.aload_n 0, 1) := by decide +kernel
theorem dX3_copy_33 : decode cX3_copy 33 = .ok (.aload_n 1, 1) := by decide +kernel
theorem dX3_copy_34 : decode cX3_copy 34 = .ok (.getfield 25, 3) := by decide +kernel
theorem dX3_copy_37 : decode cX3_copy 37 = .ok (.putfield 25, 3) := by decide +kernel
theorem dX3_copy_40 : decode cX3_copy 40 = .ok (.aload_n 0, 1) := by decide +kernel
theorem dX3_copy_41 : decode cX3_copy 41 = .ok (.aload_n 1, 1) := by decide +kernel
theorem dX3_copy_42 : decode cX3_copy 42 = .ok (.getfield 38, 3) := by decide +kernel
theorem dX3_copy_45 : decode cX3_copy 45 = .ok (.putfield 38, 3) := by decide +kernel
theorem dX3_copy_48 : decode cX3_copy 48 = .ok (.aload_n 1, 1) := by decide +kernel
theorem dX3_copy_49 : decode cX3_copy 49 = .ok (.getfield 9, 3) := by decide +kernel
theorem dX3_copy_52 : decode cX3_copy 52 = .ok (.iconst 0, 1) := by decide +kernel
theorem dX3_copy_53 : decode cX3_copy 53 = .ok (.aload_n 0, 1) := by decide +kernel
theorem dX3_copy_54 : decode cX3_copy 54 = .ok (.getfield 9, 3) := by decide +kernel
theorem dX3_copy_57 : decode cX3_copy 57 = .ok (.iconst 0, 1) := by decide +kernel
theorem dX3_copy_58 : decode cX3_copy 58 = .ok (.bipush 40, 2) := by decide +kernel
theorem dX3_copy_60 : decode cX3_copy 60 = .ok (.invokestatic 41, 3) := by decide +kernel
theorem dX3_copy_63 : decode cX3_copy 63 = .ok (.return_, 1) := by decide +kernel
theorem dX3_clear_0 : decode cX3_clear 0 = .ok (.aload_n 0, 1) := by decide +kernel
theorem dX3_clear_1 : decode cX3_clear 1 = .ok (.iconst 0, 1) := by decide +kernel
theorem dX3_clear_2 : decode cX3_clear 2 = .ok (.putfield 28, 3) := by decide +kernel
theorem dX3_clear_5 : decode cX3_clear 5 = .ok (.aload_n 0, 1) := by decide +kernel
theorem dX3_clear_6 : decode cX3_clear 6 = .ok (.iconst 0, 1) := by decide +kernel
theorem dX3_clear_7 : decode cX3_clear 7 = .ok (.putfield 32, 3) := by decide +kernel
theorem dX3_clear_10 : decode cX3_clear 10 = .ok (.aload_n 0, 1) := by decide +kernel
theorem dX3_clear_11 : decode cX3_clear 11 = .ok (.iconst 0, 1) := by decide +kernel
theorem dX3_clear_12 : decode cX3_clear 12 = .ok (.putfield 38, 3) := by decide +kernel
theorem dX3_clear_15 : decode cX3_clear 15 = .ok (.aload_n 0, 1) := by decide +kernel
theorem dX3_clear_16 : decode cX3_clear 16 = .ok (.getfield 9, 3) := by decide +kernel
theorem dX3_clear_19 : decode cX3_clear 19 = .ok (.iconst (-1), 1) := by decide +kernel
theorem dX3_clear_20 : decode cX3_clear 20 = .ok (.invokestatic 15, 3) := by decide +kernel
theorem dX3_clear_23 : decode cX3_clear 23 = .ok (.return_, 1) := by decide +kernel
theorem dX4_init_0 : decode cX4_init 0 = .ok (.aload_n 0, 1) := by decide +kernel
theorem dX4_init_1 : decode cX4_init 1 = .ok (.invokespecial 1, 3) := by decide +kernel
theorem dX4_init_4 : decode cX4_init 4 = .ok (.aload_n 0, 1) := by decide +kernel
theorem dX4_init_5 : decode cX4_init 5 = .ok (.new 7, 3) := by decide +kernel
theorem dX4_init_8 : decode cX4_init 8 = .ok (.dup, 1) := by decide +kernel
theorem dX4_init_9 : decode cX4_init 9 = .ok (.invokespecial 9, 3) := by decide +kernel
theorem dX4_init_12 : decode cX4_init 12 = .ok (.putfield 10, 3) := by decide +kernel
theorem dX4_init_15 : decode cX4_init 15 = .ok (.aload_n 0, 1) := by decide +kernel
theorem dX4_init_16 : decode cX4_init 16 = .ok (.new 7, 3) := by decide +kernel
theorem dX4_init_19 : decode cX4_init 19 = .ok (.dup, 1) := by decide +kernel
theorem dX4_init_20 : decode cX4_init 20 = .ok (.invokespecial 9, 3) := by decide +kernel
theorem dX4_init_23 : decode cX4_init 23 = .ok (.putfield 16, 3) := by decide +kernel
theorem dX4_init_26 : decode cX4_init 26 = .ok (.aload_n 0, 1) := by decide +kernel
theorem dX4_init_27 : decode cX4_init 27 = .ok (.new 7, 3) := by decide +kernel
theorem dX4_init_30 : decode cX4_init 30 = .ok (.dup, 1) := by decide +kernel
theorem dX4_init_31 : decode cX4_init 31 = .ok (.invokespecial 9, 3) := by decide +kernel
theorem dX4_init_34 : decode cX4_init 34 = .ok (.putfield 19, 3) := by decide +kernel
theorem dX4_init_37 : decode cX4_init 37 = .ok (.aload_n 0, 1) := by decide +kernel
theorem dX4_init_38 : decode cX4_init 38 = .ok (.new 22, 3) := by decide +kernel
theorem dX4_init_41 : decode cX4_init 41 = .ok (.dup, 1) := by decide +kernel
theorem dX4_init_42 : decode cX4_init 42 = .ok (.aload_n 0, 1) := by decide +kernel
theorem dX4_init_43 : decode cX4_init 43 = .ok (.getfield 10, 3) := by decide +kernel
theorem dX4_init_46 : decode cX4_init 46 = .ok (.aload_n 0, 1) := by decide +kernel
theorem dX4_init_47 : decode cX4_init 47 = .ok (.getfield 16, 3) := by decide +kernel
theorem dX4_init_50 : decode cX4_init 50 = .ok (.aload_n 0, 1) := by decide +kernel
theorem dX4_init_51 : decode cX4_init 51 = .ok (.getfield 19, 3) := by decide +kernel
theorem dX4_init_54 : decode cX4_init 54 = .ok (.invokespecial 24, 3) := by decide +kernel
theorem dX4_init_57 : decode cX4_init 57 = .ok (.putfield 27, 3) := by decide +kernel
theorem dX4_init_60 : decode cX4_init 60 = .ok (.aload_n 0, 1) := by decide +kernel
theorem dX4_init_61 : decode cX4_init 61 = .ok (.new 31, 3) := by decide +kernel
theorem dX4_init_64 : decode cX4_init 64 = .ok (.dup, 1) := by decide +kernel
theorem dX4_init_65 : decode cX4_init 65 = .ok (.invokespecial 33, 3) := by decide +kernel
theorem dX4_init_68 : decode cX4_init 68 = .ok (.putfield 34, 3) := by decide +kernel
theorem dX4_init_71 : decode cX4_init 71 = .ok (.aload_n 0, 1) := by decide +kernel
theorem dX4_init_72 : decode cX4_init 72 = .ok (.sipush 160, 3) := by decide +kernel
theorem dX4_init_75 : decode cX4_init 75 = .ok (.newarray .int, 2) := by decide +kernel
theorem dX4_init_77 : decode cX4_init 77 = .ok (.putfield 38, 3) := by decide +kernel
theorem dX4_init_80 : decode cX4_init 80 = .ok (.return_, 1) := by decide +kernel
theorem dX4_make_0 : decode cX4_make 0 = .ok (.aload_n 0, 1) := by decide +kernel
theorem dX4_make_1 : decode cX4_make 1 = .ok (.iload_n 1, 1) := by decide +kernel
theorem dX4_make_2 : decode cX4_make 2 = .ok (.invokevirtual 42, 3) := by decide +kernel
theorem dX4_make_5 : decode cX4_make 5 = .ok (.astore 4, 2) := by decide +kernel
theorem dX4_make_7 : decode cX4_make 7 = .ok (.aload_n 0, 1) := by decide +kernel
theorem dX4_make_8 : decode cX4_make 8 = .ok (.iload_n 2, 1) := by decide +kernel
theorem dX4_make_9 : decode cX4_make 9 = .ok (.invokevirtual 46, 3) := by decide +kernel
theorem dX4_make_12 : decode cX4_make 12 = .ok (.aload 4, 2) := by decide +kernel
theorem dX4_make_14 : decode cX4_make 14 = .ok (.getfield 50, 3) := by decide +kernel
theorem dX4_make_17 : decode cX4_make 17 = .ok (.ifCond .eq 13, 3) := by decide +kernel
theorem dX4_make_20 : decode cX4_make 20 = .ok (.new 56, 3) := by decide +kernel
theorem dX4_make_23 : decode cX4_make 23 = .ok (.dup, 1) := by decide +kernel
theorem dX4_make_24 : decode cX4_make 24 = .ok (.ldc 58, 2) := by decide +kernel
theorem dX4_make_26 : decode cX4_make 26 = .ok (.invokespecial 60, 3) := by decide +kernel
theorem dX4_make_29 : decode cX4_make 29 = .ok (.athrow, 1) := by decide +kernel
theorem dX4_make_30 : decode cX4_make 30 = .ok (.aload_n 0, 1) := by decide +kernel
theorem dX4_make_31 : decode cX4_make 31 = .ok (.getfield 10, 3) := by decide +kernel
theorem dX4_make_34 : decode cX4_make 34 = .ok (.aload 4, 2) := by decide +kernel
theorem dX4_make_36 : decode cX4_make 36 = .ok (.iload_n 2, 1) := by decide +kernel
theorem dX4_make_37 : decode cX4_make 37 = .ok (.iload_n 3, 1) := by decide +kernel
theorem dX4_make_38 : decode cX4_make 38 = .ok (.iconst (-1), 1) := by decide +kernel
theorem dX4_make_39 : decode cX4_make 39 = .ok (.iconst (-1), 1) := by decide +kernel
theorem dX4_make_40 : decode cX4_make 40 = .ok (.invokevirtual 63, 3) := by decide +kernel
theorem dX4_make_43 : decode cX4_make 43 = .ok (.aload_n 0, 1) := by decide +kernel
theorem dX4_make_44 : decode cX4_make 44 = .ok (.getfield 10, 3) := by decide +kernel
theorem dX4_make_47 : decode cX4_make 47 = .ok (.getfield 67, 3) := by decide +kernel
theorem dX4_make_50 : decode cX4_make 50 = .ok (.ireturn, 1) := by decide +kernel
theorem dX4_snap_0 : decode cX4_snap 0 = .ok (.aload_n 0, 1) := by decide +kernel
theorem dX4_snap_1 : decode cX4_snap 1 = .ok (.iload_n 2, 1) := by decide +kernel
theorem dX4_snap_2 : decode cX4_snap 2 = .ok (.invokevirtual 42, 3) := by decide +kernel
theorem dX4_snap_5 : decode cX4_snap 5 = .ok (.astore_n 3, 1) := by decide +kernel
theorem dX4_snap_6 : decode cX4_snap 6 = .ok (.aload_n 0, 1) := by decide +kernel
theorem dX4_snap_7 : decode cX4_snap 7 = .ok (.iload_n 1, 1) := by decide +kernel
theorem dX4_snap_8 : decode cX4_snap 8 = .ok (.invokevirtual 71, 3) := by decide +kernel
theorem dX4_snap_11 : decode cX4_snap 11 = .ok (.astore 4, 2) := by decide +kernel
theorem dX4_snap_13 : decode cX4_snap 13 = .ok (.aload_n 3, 1) := by decide +kernel
theorem dX4_snap_14 : decode cX4_snap 14 = .ok (.getfield 50, 3) := by decide +kernel
theorem dX4_snap_17 : decode cX4_snap 17 = .ok (.ifCond .eq 13, 3) := by decide +kernel
theorem dX4_snap_20 : decode cX4_snap 20 = .ok (.new 56, 3) := by decide +kernel
theorem dX4_snap_23 : decode cX4_snap 23 = .ok (.dup, 1) := by decide +kernel
theorem dX4_snap_24 : decode cX4_snap 24 = .ok (.ldc 58, 2) := by decide +kernel
theorem dX4_snap_26 : decode cX4_snap 26 = .ok (.invokespecial 60, 3) := by decide +kernel
theorem dX4_snap_29 : decode cX4_snap 29 = .ok (.athrow, 1) := by decide +kernel
theorem dX4_snap_30 : decode cX4_snap 30 = .ok (.aload_n 0, 1) := by decide +kernel
theorem dX4_snap_31 : decode cX4_snap 31 = .ok (.getfield 10, 3) := by decide +kernel
theorem dX4_snap_34 : decode cX4_snap 34 = .ok (.aload_n 3, 1) := by decide +kernel
theorem dX4_snap_35 : decode cX4_snap 35 = .ok (.aload 4, 2) := by decide +kernel
theorem dX4_snap_37 : decode cX4_snap 37 = .ok (.getfield 74, 3) := by decide +kernel
theorem dX4_snap_40 : decode cX4_snap 40 = .ok (.aload 4, 2) := by decide +kernel
theorem dX4_snap_42 : decode cX4_snap 42 = .ok (.getfield 77, 3) := by decide +kernel
theorem dX4_snap_45 : decode cX4_snap 45 = .ok (.aload 4, 2) := by decide +kernel
theorem dX4_snap_47 : decode cX4_snap 47 = .ok (.getfield 80, 3) := by decide +kernel
theorem dX4_snap_50 : decode cX4_snap 50 = .ok (.iload_n 1, 1) := by decide +kernel
theorem dX4_snap_51 : decode cX4_snap 51 = .ok (.invokevirtual 63, 3) := by decide +kernel
theorem dX4_snap_54 : decode cX4_snap 54 = .ok (.iconst 0, 1) := by decide +kernel
theorem dX4_snap_55 : decode cX4_snap 55 = .ok (.istore 5, 2) := by decide +kernel
theorem dX4_snap_57 : decode cX4_snap 57 = .ok (.iload 5, 2) := by decide +kernel
theorem dX4_snap_59 : decode cX4_snap 59 = .ok (.bipush 40, 2) := by decide +kernel
theorem dX4_snap_61 : decode cX4_snap 61 = .ok (.if_icmp .ge 26, 3) := by decide +kernel
theorem dX4_snap_64 : decode cX4_snap 64 = .ok (.aload_n 0, 1) := by decide +kernel
theorem dX4_snap_65 : decode cX4_snap 65 = .ok (.getfield 10, 3) := by decide +kernel
theorem dX4_snap_68 : decode cX4_snap 68 = .ok (.aload_n 3, 1) := by decide +kernel
theorem dX4_snap_69 : decode cX4_snap 69 = .ok (.iload 5, 2) := by decide +kernel
theorem dX4_snap_71 : decode cX4_snap 71 = .ok (.aload 4, 2) := by decide +kernel
theorem dX4_snap_73 : decode cX4_snap 73 = .ok (.iload 5, 2) := by decide +kernel
theorem dX4_snap_75 : decode cX4_snap 75 = .ok (.invokevirtual 83, 3) := by decide +kernel
theorem dX4_snap_78 : decode cX4_snap 78 = .ok (.invokevirtual 87, 3) := by decide +kernel
theorem dX4_snap_81 : decode cX4_snap 81 = .ok (.iinc 5 1, 3) := by decide +kernel
theorem dX4_snap_84 : decode cX4_snap 84 = .ok (.goto (-27), 3) := by decide +kernel
theorem dX4_snap_87 : decode cX4_snap 87 = .ok (.aload_n 3, 1) := by decide +kernel
theorem dX4_snap_88 : decode cX4_snap 88 = .ok (.getfield 91, 3) := by decide +kernel
theorem dX4_snap_91 : decode cX4_snap 91 = .ok (.ireturn, 1) := by decide +kernel
theorem dX4_drop_0 : decode cX4_drop 0 = .ok (.aload_n 0, 1) := by decide +kernel
theorem dX4_drop_1 : decode cX4_drop 1 = .ok (.iload_n 1, 1) := by decide +kernel
theorem dX4_drop_2 : decode cX4_drop 2 = .ok (.invokevirtual 71, 3) := by decide +kernel
theorem dX4_drop_5 : decode cX4_drop 5 = .ok (.astore_n 2, 1) := by decide +kernel
theorem dX4_drop_6 : decode cX4_drop 6 = .ok (.aload_n 0, 1) := by decide +kernel
theorem dX4_drop_7 : decode cX4_drop 7 = .ok (.dup, 1) := by decide +kernel
theorem dX4_drop_8 : decode cX4_drop 8 = .ok (.getfield 94, 3) := by decide +kernel
theorem dX4_drop_11 : decode cX4_drop 11 = .ok (.aload_n 0, 1) := by decide +kernel
theorem dX4_drop_12 : decode cX4_drop 12 = .ok (.getfield 34, 3) := by decide +kernel
theorem dX4_drop_15 : decode cX4_drop 15 = .ok (.iload_n 1, 1) := by decide +kernel
theorem dX4_drop_16 : decode cX4_drop 16 = .ok (.invokevirtual 97, 3) := by decide +kernel
theorem dX4_drop_19 : decode cX4_drop 19 = .ok (.iadd, 1) := by decide +kernel
theorem dX4_drop_20 : decode cX4_drop 20 = .ok (.putfield 94, 3) := by decide +kernel
theorem dX4_drop_23 : decode cX4_drop 23 = .ok (.aload_n 0, 1) := by decide +kernel
theorem dX4_drop_24 : decode cX4_drop 24 = .ok (.getfield 10, 3) := by decide +kernel
theorem dX4_drop_27 : decode cX4_drop 27 = .ok (.aload_n 2, 1) := by decide +kernel
theorem dX4_drop_28 : decode cX4_drop 28 = .ok (.iconst 0, 1) := by decide +kernel
theorem dX4_drop_29 : decode cX4_drop 29 = .ok (.bipush 40, 2) := by decide +kernel
theorem dX4_drop_31 : decode cX4_drop 31 = .ok (.invokevirtual 100, 3) := by decide +kernel
theorem dX4_drop_34 : decode cX4_drop 34 = .ok (.istore_n 3, 1) := by decide +kernel
theorem dX4_drop_35 : decode cX4_drop 35 = .ok (.aload_n 0, 1) := by decide +kernel
theorem dX4_drop_36 : decode cX4_drop 36 = .ok (.getfield 10, 3) := by decide +kernel
theorem dX4_drop_39 : decode cX4_drop 39 = .ok (.aload_n 2, 1) := by decide +kernel
theorem dX4_drop_40 : decode cX4_drop 40 = .ok (.invokevirtual 104, 3) := by decide +kernel
theorem dX4_drop_43 : decode cX4_drop 43 = .ok (.aload_n 0, 1) := by decide +kernel
theorem dX4_drop_44 : decode cX4_drop 44 = .ok (.invokevirtual 108, 3) := by decide +kernel
theorem dX4_drop_47 : decode cX4_drop 47 = .ok (.iload_n 3, 1) := by decide +kernel
theorem dX4_drop_48 : decode cX4_drop 48 = .ok (.ireturn, 1) := by decide +kernel
theorem dX4_resize_0 : decode cX4_resize 0 = .ok (.aload_n 0, 1) := by decide +kernel
theorem dX4_resize_1 : decode cX4_resize 1 = .ok (.iload_n 1, 1) := by decide +kernel
theorem dX4_resize_2 : decode cX4_resize 2 = .ok (.invokevirtual 71, 3) := by decide +kernel
theorem dX4_resize_5 : decode cX4_resize 5 = .ok (.astore_n 3, 1) := by decide +kernel
theorem dX4_resize_6 : decode cX4_resize 6 = .ok (.aload_n 0, 1) := by decide +kernel
theorem dX4_resize_7 : decode cX4_resize 7 = .ok (.iload_n 2, 1) := by decide +kernel
theorem dX4_resize_8 : decode cX4_resize 8 = .ok (.invokevirtual 46, 3) := by decide +kernel
theorem dX4_resize_11 : decode cX4_resize 11 = .ok (.aload_n 0, 1) := by decide +kernel
theorem dX4_resize_12 : decode cX4_resize 12 = .ok (.iload_n 1, 1) := by decide +kernel
theorem dX4_resize_13 : decode cX4_resize 13 = .ok (.iload_n 2, 1) := by decide +kernel
theorem dX4_resize_14 : decode cX4_resize 14 = .ok (.bipush 40, 2) := by decide +kernel
theorem dX4_resize_16 : decode cX4_resize 16 = .ok (.invokevirtual 111, 3) := by decide +kernel
theorem dX4_resize_19 : decode cX4_resize 19 = .ok (.aload_n 0, 1) := by decide +kernel
theorem dX4_resize_20 : decode cX4_resize 20 = .ok (.getfield 10, 3) := by decide +kernel
theorem dX4_resize_23 : decode cX4_resize 23 = .ok (.aload_n 3, 1) := by decide +kernel
theorem dX4_resize_24 : decode cX4_resize 24 = .ok (.iload_n 2, 1) := by decide +kernel
theorem dX4_resize_25 : decode cX4_resize 25 = .ok (.bipush 40, 2) := by decide +kernel
theorem dX4_resize_27 : decode cX4_resize 27 = .ok (.invokevirtual 100, 3) := by decide +kernel
theorem dX4_resize_30 : decode cX4_resize 30 = .ok (.istore 4, 2) := by decide +kernel
theorem dX4_resize_32 : decode cX4_resize 32 = .ok (.aload_n 3, 1) := by decide +kernel
theorem dX4_resize_33 : decode cX4_resize 33 = .ok (.iload_n 2, 1) := by decide +kernel
theorem dX4_resize_34 : decode cX4_resize 34 = .ok (.putfield 74, 3) := by decide +kernel
theorem dX4_resize_37 : decode cX4_resize 37 = .ok (.aload_n 0, 1) := by decide +kernel
theorem dX4_resize_38 : decode cX4_resize 38 = .ok (.invokevirtual 108, 3) := by decide +kernel
theorem dX4_resize_41 : decode cX4_resize 41 = .ok (.iload 4, 2) := by decide +kernel
theorem dX4_resize_43 : decode cX4_resize 43 = .ok (.ireturn, 1) := by decide +kernel
theorem dX4_write_0 : decode cX4_write 0 = .ok (.aload_n 0, 1) := by decide +kernel
theorem dX4_write_1 : decode cX4_write 1 = .ok (.iload_n 1, 1) := by decide +kernel
theorem dX4_write_2 : decode cX4_write 2 = .ok (.invokevirtual 71, 3) := by decide +kernel
theorem dX4_write_5 : decode cX4_write 5 = .ok (.astore 4, 2) := by decide +kernel
theorem dX4_write_7 : decode cX4_write 7 = .ok (.aload_n 0, 1) := by decide +kernel
theorem dX4_write_8 : decode cX4_write 8 = .ok (.aload 4, 2) := by decide +kernel
theorem dX4_write_10 : decode cX4_write 10 = .ok (.iload_n 2, 1) := by decide +kernel
theorem dX4_write_11 : decode cX4_write 11 = .ok (.invokevirtual 115, 3) := by decide +kernel
theorem dX4_write_14 : decode cX4_write 14 = .ok (.iload_n 2, 1) := by decide +kernel
theorem dX4_write_15 : decode cX4_write 15 = .ok (.iconst 4, 1) := by decide +kernel
theorem dX4_write_16 : decode cX4_write 16 = .ok (.idiv, 1) := by decide +kernel
theorem dX4_write_17 : decode cX4_write 17 = .ok (.istore 5, 2) := by decide +kernel
theorem dX4_write_19 : decode cX4_write 19 = .ok (.aload_n 0, 1) := by decide +kernel
theorem dX4_write_20 : decode cX4_write 20 = .ok (.getfield 119, 3) := by decide +kernel
theorem dX4_write_23 : decode cX4_write 23 = .ok (.iconst 1, 1) := by decide +kernel
theorem dX4_write_24 : decode cX4_write 24 = .ok (.if_icmp .ne 28, 3) := by decide +kernel
theorem dX4_write_27 : decode cX4_write 27 = .ok (.aload_n 0, 1) := by decide +kernel
theorem dX4_write_28 : decode cX4_write 28 = .ok (.getfield 34, 3) := by decide +kernel
theorem dX4_write_31 : decode cX4_write 31 = .ok (.iload_n 1, 1) := by decide +kernel
theorem dX4_write_32 : decode cX4_write 32 = .ok (.iload 5, 2) := by decide +kernel
theorem dX4_write_34 : decode cX4_write 34 = .ok (.iload 5, 2) := by decide +kernel
theorem dX4_write_36 : decode cX4_write 36 = .ok (.iconst 1, 1) := by decide +kernel
theorem dX4_write_37 : decode cX4_write 37 = .ok (.iadd, 1) := by decide +kernel
theorem dX4_write_38 : decode cX4_write 38 = .ok (.invokevirtual 122, 3) := by decide +kernel
theorem dX4_write_41 : decode cX4_write 41 = .ok (.ifCond .eq 11, 3) := by decide +kernel
theorem dX4_write_44 : decode cX4_write 44 = .ok (.aload_n 0, 1) := by decide +kernel
theorem dX4_write_45 : decode cX4_write 45 = .ok (.iload_n 1, 1) := by decide +kernel
theorem dX4_write_46 : decode cX4_write 46 = .ok (.iload_n 2, 1) := by decide +kernel
theorem dX4_write_47 : decode cX4_write 47 = .ok (.iload_n 3, 1) := by decide +kernel
theorem dX4_write_48 : decode cX4_write 48 = .ok (.invokevirtual 126, 3) := by decide +kernel
theorem dX4_write_51 : decode cX4_write 51 = .ok (.ireturn, 1) := by decide +kernel
theorem dX4_write_52 : decode cX4_write 52 = .ok (.aload_n 0, 1) := by decide +kernel
theorem dX4_write_53 : decode cX4_write 53 = .ok (.aload 4, 2) := by decide +kernel
theorem dX4_write_55 : decode cX4_write 55 = .ok (.iload 5, 2) := by decide +kernel
theorem dX4_write_57 : decode cX4_write 57 = .ok (.invokevirtual 130, 3) := by decide +kernel
theorem dX4_write_60 : decode cX4_write 60 = .ok (.ifCond .ne 12, 3) := by decide +kernel
theorem dX4_write_63 : decode cX4_write 63 = .ok (.aload_n 0, 1) := by decide +kernel
theorem dX4_write_64 : decode cX4_write 64 = .ok (.aload 4, 2) := by decide +kernel
theorem dX4_write_66 : decode cX4_write 66 = .ok (.iload_n 2, 1) := by decide +kernel
theorem dX4_write_67 : decode cX4_write 67 = .ok (.iload_n 3, 1) := by decide +kernel
theorem dX4_write_68 : decode cX4_write 68 = .ok (.invokevirtual 134, 3) := by decide +kernel
theorem dX4_write_71 : decode cX4_write 71 = .ok (.ireturn, 1) := by decide +kernel
theorem dX4_write_72 : decode cX4_write 72 = .ok (.aload_n 0, 1) := by decide +kernel
theorem dX4_write_73 : decode cX4_write 73 = .ok (.aload 4, 2) := by decide +kernel
theorem dX4_write_75 : decode cX4_write 75 = .ok (.iload 5, 2) := by decide +kernel
theorem dX4_write_77 : decode cX4_write 77 = .ok (.invokevirtual 137, 3) := by decide +kernel
theorem dX4_write_80 : decode cX4_write 80 = .ok (.ifCond .eq 5, 3) := by decide +kernel
theorem dX4_write_83 : decode cX4_write 83 = .ok (.iconst (-1), 1) := by decide +kernel
theorem dX4_write_84 : decode cX4_write 84 = .ok (.ireturn, 1) := by decide +kernel
theorem dX4_write_85 : decode cX4_write 85 = .ok (.aload_n 0, 1) := by decide +kernel
theorem dX4_write_86 : decode cX4_write 86 = .ok (.aload 4, 2) := by decide +kernel
theorem dX4_write_88 : decode cX4_write 88 = .ok (.iload_n 1, 1) := by decide +kernel
theorem dX4_write_89 : decode cX4_write 89 = .ok (.iload_n 2, 1) := by decide +kernel
theorem dX4_write_90 : decode cX4_write 90 = .ok (.iload_n 3, 1) := by decide +kernel
theorem dX4_write_91 : decode cX4_write 91 = .ok (.invokevirtual 140, 3) := by decide +kernel
theorem dX4_write_94 : decode cX4_write 94 = .ok (.ireturn, 1) := by decide +kernel
theorem dX4_read_0 : decode cX4_read 0 = .ok (.aload_n 0, 1) := by decide +kernel
theorem dX4_read_1 : decode cX4_read 1 = .ok (.iload_n 1, 1) := by decide +kernel
theorem dX4_read_2 : decode cX4_read 2 = .ok (.invokevirtual 71, 3) := by decide +kernel
theorem dX4_read_5 : decode cX4_read 5 = .ok (.astore_n 3, 1) := by decide +kernel
theorem dX4_read_6 : decode cX4_read 6 = .ok (.aload_n 0, 1) := by decide +kernel
theorem dX4_read_7 : decode cX4_read 7 = .ok (.aload_n 3, 1) := by decide +kernel
theorem dX4_read_8 : decode cX4_read 8 = .ok (.iload_n 2, 1) := by decide +kernel
theorem dX4_read_9 : decode cX4_read 9 = .ok (.invokevirtual 115, 3) := by decide +kernel
theorem dX4_read_12 : decode cX4_read 12 = .ok (.aload_n 0, 1) := by decide +kernel
theorem dX4_read_13 : decode cX4_read 13 = .ok (.aload_n 3, 1) := by decide +kernel
theorem dX4_read_14 : decode cX4_read 14 = .ok (.iload_n 2, 1) := by decide +kernel
theorem dX4_read_15 : decode cX4_read 15 = .ok (.invokevirtual 144, 3) := by decide +kernel
theorem dX4_read_18 : decode cX4_read 18 = .ok (.ireturn, 1) := by decide +kernel
theorem dX4_discard_0 : decode cX4_discard 0 = .ok (.aload_n 0, 1) := by decide +kernel
theorem dX4_discard_1 : decode cX4_discard 1 = .ok (.iload_n 1, 1) := by decide +kernel
theorem dX4_discard_2 : decode cX4_discard 2 = .ok (.invokevirtual 71, 3) := by decide +kernel
theorem dX4_discard_5 : decode cX4_discard 5 = .ok (.astore 4, 2) := by decide +kernel
theorem dX4_discard_7 : decode cX4_discard 7 = .ok (.iload_n 2, 1) := by decide +kernel
theorem dX4_discard_8 : decode cX4_discard 8 = .ok (.ifCond .lt 27, 3) := by decide +kernel
theorem dX4_discard_11 : decode cX4_discard 11 = .ok (.iload_n 3, 1) := by decide +kernel
theorem dX4_discard_12 : decode cX4_discard 12 = .ok (.ifCond .lt 23, 3) := by decide +kernel
theorem dX4_discard_15 : decode cX4_discard 15 = .ok (.iload_n 2, 1) := by decide +kernel
theorem dX4_discard_16 : decode cX4_discard 16 = .ok (.aload 4, 2) := by decide +kernel
theorem dX4_discard_18 : decode cX4_discard 18 = .ok (.getfield 74, 3) := by decide +kernel
theorem dX4_discard_21 : decode cX4_discard 21 = .ok (.if_icmp .gt 14, 3) := by decide +kernel
theorem dX4_discard_24 : decode cX4_discard 24 = .ok (.iload_n 3, 1) := by decide +kernel
theorem dX4_discard_25 : decode cX4_discard 25 = .ok (.aload 4, 2) := by decide +kernel
theorem dX4_discard_27 : decode cX4_discard 27 = .ok (.getfield 74, 3) := by decide +kernel
theorem dX4_discard_30 : decode cX4_discard 30 = .ok (.iload_n 2, 1) := by decide +kernel
theorem dX4_discard_31 : decode cX4_discard 31 = .ok (.isub, 1) := by decide +kernel
theorem dX4_discard_32 : decode cX4_discard 32 = .ok (.if_icmp .le 13, 3) := by decide +kernel
theorem dX4_discard_35 : decode cX4_discard 35 = .ok (.new 148, 3) := by decide +kernel
theorem dX4_discard_38 : decode cX4_discard 38 = .ok (.dup, 1) := by decide +kernel
theorem dX4_discard_39 : decode cX4_discard 39 = .ok (.ldc 150, 2) := by decide +kernel
theorem dX4_discard_41 : decode cX4_discard 41 = .ok (.invokespecial 152, 3) := by decide +kernel
theorem dX4_discard_44 : decode cX4_discard 44 = .ok (.athrow, 1) := by decide +kernel
theorem dX4_discard_45 : decode cX4_discard 45 = .ok (.aload_n 0, 1) := by decide +kernel
theorem dX4_discard_46 : decode cX4_discard 46 = .ok (.iload_n 1, 1) := by decide +kernel
theorem dX4_discard_47 : decode cX4_discard 47 = .ok (.iload_n 2, 1) := by decide +kernel
theorem dX4_discard_48 : decode cX4_discard 48 = .ok (.iload_n 2, 1) := by decide +kernel
theorem dX4_discard_49 : decode cX4_discard 49 = .ok (.iload_n 3, 1) := by decide +kernel
theorem dX4_discard_50 : decode cX4_discard 50 = .ok (.iadd, 1) := by decide +kernel
theorem dX4_discard_51 : decode cX4_discard 51 = .ok (.invokevirtual 111, 3) := by decide +kernel
theorem dX4_discard_54 : decode cX4_discard 54 = .ok (.aload_n 0, 1) := by decide +kernel
theorem dX4_discard_55 : decode cX4_discard 55 = .ok (.getfield 10, 3) := by decide +kernel
theorem dX4_discard_58 : decode cX4_discard 58 = .ok (.aload 4, 2) := by decide +kernel
theorem dX4_discard_60 : decode cX4_discard 60 = .ok (.iload_n 2, 1) := by decide +kernel
theorem dX4_discard_61 : decode cX4_discard 61 = .ok (.iload_n 2, 1) := by decide +kernel
theorem dX4_discard_62 : decode cX4_discard 62 = .ok (.iload_n 3, 1) := by decide +kernel
theorem dX4_discard_63 : decode cX4_discard 63 = .ok (.iadd, 1) := by decide +kernel
theorem dX4_discard_64 : decode cX4_discard 64 = .ok (.invokevirtual 100, 3) := by decide +kernel
theorem dX4_discard_67 : decode cX4_discard 67 = .ok (.istore 5, 2) := by decide +kernel
theorem dX4_discard_69 : decode cX4_discard 69 = .ok (.aload_n 0, 1) := by decide +kernel
theorem dX4_discard_70 : decode cX4_discard 70 = .ok (.invokevirtual 108, 3) := by decide +kernel
theorem dX4_discard_73 : decode cX4_discard 73 = .ok (.iload 5, 2) := by decide +kernel
theorem dX4_discard_75 : decode cX4_discard 75 = .ok (.ireturn, 1) := by decide +kernel
theorem dX4_grow_0 : decode cX4_grow 0 = .ok (.aload_n 0, 1) := by decide +kernel
theorem dX4_grow_1 : decode cX4_grow 1 = .ok (.iload_n 1, 1) := by decide +kernel
theorem dX4_grow_2 : decode cX4_grow 2 = .ok (.invokevirtual 153, 3) := by decide +kernel
theorem dX4_grow_5 : decode cX4_grow 5 = .ok (.iload_n 1, 1) := by decide +kernel
theorem dX4_grow_6 : decode cX4_grow 6 = .ok (.bipush 96, 2) := by decide +kernel
theorem dX4_grow_8 : decode cX4_grow 8 = .ok (.aload_n 0, 1) := by decide +kernel
theorem dX4_grow_9 : decode cX4_grow 9 = .ok (.getfield 27, 3) := by decide +kernel
theorem dX4_grow_12 : decode cX4_grow 12 = .ok (.getfield 156, 3) := by decide +kernel
theorem dX4_grow_15 : decode cX4_grow 15 = .ok (.isub, 1) := by decide +kernel
theorem dX4_grow_16 : decode cX4_grow 16 = .ok (.if_icmp .le 5, 3) := by decide +kernel
theorem dX4_grow_19 : decode cX4_grow 19 = .ok (.iconst (-1), 1) := by decide +kernel
theorem dX4_grow_20 : decode cX4_grow 20 = .ok (.ireturn, 1) := by decide +kernel
theorem dX4_grow_21 : decode cX4_grow 21 = .ok (.aload_n 0, 1) := by decide +kernel
theorem dX4_grow_22 : decode cX4_grow 22 = .ok (.getfield 27, 3) := by decide +kernel
theorem dX4_grow_25 : decode cX4_grow 25 = .ok (.dup, 1) := by decide +kernel
theorem dX4_grow_26 : decode cX4_grow 26 = .ok (.getfield 156, 3) := by decide +kernel
theorem dX4_grow_29 : decode cX4_grow 29 = .ok (.iload_n 1, 1) := by decide +kernel
theorem dX4_grow_30 : decode cX4_grow 30 = .ok (.iadd, 1) := by decide +kernel
theorem dX4_grow_31 : decode cX4_grow 31 = .ok (.putfield 156, 3) := by decide +kernel
theorem dX4_grow_34 : decode cX4_grow 34 = .ok (.aload_n 0, 1) := by decide +kernel
theorem dX4_grow_35 : decode cX4_grow 35 = .ok (.invokevirtual 108, 3) := by decide +kernel
theorem dX4_grow_38 : decode cX4_grow 38 = .ok (.aload_n 0, 1) := by decide +kernel
theorem dX4_grow_39 : decode cX4_grow 39 = .ok (.getfield 27, 3) := by decide +kernel
theorem dX4_grow_42 : decode cX4_grow 42 = .ok (.getfield 156, 3) := by decide +kernel
theorem dX4_grow_45 : decode cX4_grow 45 = .ok (.ireturn, 1) := by decide +kernel
theorem dX4_shrink_0 : decode cX4_shrink 0 = .ok (.aload_n 0, 1) := by decide +kernel
theorem dX4_shrink_1 : decode cX4_shrink 1 = .ok (.iload_n 1, 1) := by decide +kernel
theorem dX4_shrink_2 : decode cX4_shrink 2 = .ok (.invokevirtual 153, 3) := by decide +kernel
theorem dX4_shrink_5 : decode cX4_shrink 5 = .ok (.iload_n 1, 1) := by decide +kernel
theorem dX4_shrink_6 : decode cX4_shrink 6 = .ok (.aload_n 0, 1) := by decide +kernel
theorem dX4_shrink_7 : decode cX4_shrink 7 = .ok (.getfield 27, 3) := by decide +kernel
theorem dX4_shrink_10 : decode cX4_shrink 10 = .ok (.getfield 156, 3) := by decide +kernel
theorem dX4_shrink_13 : decode cX4_shrink 13 = .ok (.if_icmp .ge 29, 3) := by decide +kernel
theorem dX4_shrink_16 : decode cX4_shrink 16 = .ok (.aload_n 0, 1) := by decide +kernel
theorem dX4_shrink_17 : decode cX4_shrink 17 = .ok (.getfield 27, 3) := by decide +kernel
theorem dX4_shrink_20 : decode cX4_shrink 20 = .ok (.aload_n 0, 1) := by decide +kernel
theorem dX4_shrink_21 : decode cX4_shrink 21 = .ok (.getfield 27, 3) := by decide +kernel
theorem dX4_shrink_24 : decode cX4_shrink 24 = .ok (.getfield 156, 3) := by decide +kernel
theorem dX4_shrink_27 : decode cX4_shrink 27 = .ok (.iload_n 1, 1) := by decide +kernel
theorem dX4_shrink_28 : decode cX4_shrink 28 = .ok (.isub, 1) := by decide +kernel
theorem dX4_shrink_29 : decode cX4_shrink 29 = .ok (.aload_n 0, 1) := by decide +kernel
theorem dX4_shrink_30 : decode cX4_shrink 30 = .ok (.getfield 27, 3) := by decide +kernel
theorem dX4_shrink_33 : decode cX4_shrink 33 = .ok (.getfield 156, 3) := by decide +kernel
theorem dX4_shrink_36 : decode cX4_shrink 36 = .ok (.invokevirtual 157, 3) := by decide +kernel
theorem dX4_shrink_39 : decode cX4_shrink 39 = .ok (.ifCond .ne 5, 3) := by decide +kernel
theorem dX4_shrink_42 : decode cX4_shrink 42 = .ok (.iconst (-1), 1) := by decide +kernel
theorem dX4_shrink_43 : decode cX4_shrink 43 = .ok (.ireturn, 1) := by decide +kernel
theorem dX4_shrink_44 : decode cX4_shrink 44 = .ok (.aload_n 0, 1) := by decide +kernel
theorem dX4_shrink_45 : decode cX4_shrink 45 = .ok (.getfield 27, 3) := by decide +kernel
theorem dX4_shrink_48 : decode cX4_shrink 48 = .ok (.dup, 1) := by decide +kernel
theorem dX4_shrink_49 : decode cX4_shrink 49 = .ok (.getfield 156, 3) := by decide +kernel
theorem dX4_shrink_52 : decode cX4_shrink 52 = .ok (.iload_n 1, 1) := by decide +kernel
theorem dX4_shrink_53 : decode cX4_shrink 53 = .ok (.isub, 1) := by decide +kernel
theorem dX4_shrink_54 : decode cX4_shrink 54 = .ok (.putfield 156, 3) := by decide +kernel
theorem dX4_shrink_57 : decode cX4_shrink 57 = .ok (.aload_n 0, 1) := by decide +kernel
theorem dX4_shrink_58 : decode cX4_shrink 58 = .ok (.getfield 27, 3) := by decide +kernel
theorem dX4_shrink_61 : decode cX4_shrink 61 = .ok (.getfield 161, 3) := by decide +kernel
theorem dX4_shrink_64 : decode cX4_shrink 64 = .ok (.aload_n 0, 1) := by decide +kernel
theorem dX4_shrink_65 : decode cX4_shrink 65 = .ok (.getfield 27, 3) := by decide +kernel
theorem dX4_shrink_68 : decode cX4_shrink 68 = .ok (.getfield 156, 3) := by decide +kernel
theorem dX4_shrink_71 : decode cX4_shrink 71 = .ok (.if_icmp .lt 11, 3) := by decide +kernel
theorem dX4_shrink_74 : decode cX4_shrink 74 = .ok (.aload_n 0, 1) := by decide +kernel
theorem dX4_shrink_75 : decode cX4_shrink 75 = .ok (.getfield 27, 3) := by decide +kernel
theorem dX4_shrink_78 : decode cX4_shrink 78 = .ok (.iconst 0, 1) := by decide +kernel
theorem dX4_shrink_79 : decode cX4_shrink 79 = .ok (.putfield 161, 3) := by decide +kernel
theorem dX4_shrink_82 : decode cX4_shrink 82 = .ok (.aload_n 0, 1) := by decide +kernel
theorem dX4_shrink_83 : decode cX4_shrink 83 = .ok (.getfield 27, 3) := by decide +kernel
theorem dX4_shrink_86 : decode cX4_shrink 86 = .ok (.getfield 156, 3) := by decide +kernel
theorem dX4_shrink_89 : decode cX4_shrink 89 = .ok (.ireturn, 1) := by decide +kernel
theorem dX4_back_0 : decode cX4_back 0 = .ok (.iload_n 1, 1) := by decide +kernel
theorem dX4_back_1 : decode cX4_back 1 = .ok (.ifCond .lt 12, 3) := by decide +kernel
theorem dX4_back_4 : decode cX4_back 4 = .ok (.iload_n 1, 1) := by decide +kernel
theorem dX4_back_5 : decode cX4_back 5 = .ok (.aload_n 0, 1) := by decide +kernel
theorem dX4_back_6 : decode cX4_back 6 = .ok (.getfield 38, 3) := by decide +kernel
theorem dX4_back_9 : decode cX4_back 9 = .ok (.arraylength, 1) := by decide +kernel
theorem dX4_back_10 : decode cX4_back 10 = .ok (.if_icmp .lt 13, 3) := by decide +kernel
theorem dX4_back_13 : decode cX4_back 13 = .ok (.new 148, 3) := by decide +kernel
theorem dX4_back_16 : decode cX4_back 16 = .ok (.dup, 1) := by decide +kernel
theorem dX4_back_17 : decode cX4_back 17 = .ok (.ldc 164, 2) := by decide +kernel
theorem dX4_back_19 : decode cX4_back 19 = .ok (.invokespecial 152, 3) := by decide +kernel
theorem dX4_back_22 : decode cX4_back 22 = .ok (.athrow, 1) := by decide +kernel
theorem dX4_back_23 : decode cX4_back 23 = .ok (.aload_n 0, 1) := by decide +kernel
theorem dX4_back_24 : decode cX4_back 24 = .ok (.getfield 10, 3) := by decide +kernel
theorem dX4_back_27 : decode cX4_back 27 = .ok (.invokevirtual 166, 3) := by decide +kernel
theorem dX4_back_30 : decode cX4_back 30 = .ok (.ifCond .ne 23, 3) := by decide +kernel
theorem dX4_back_33 : decode cX4_back 33 = .ok (.aload_n 0, 1) := by decide +kernel
theorem dX4_back_34 : decode cX4_back 34 = .ok (.getfield 16, 3) := by decide +kernel
theorem dX4_back_37 : decode cX4_back 37 = .ok (.invokevirtual 166, 3) := by decide +kernel
theorem dX4_back_40 : decode cX4_back 40 = .ok (.ifCond .ne 13, 3) := by decide +kernel
theorem dX4_back_43 : decode cX4_back 43 = .ok (.aload_n 0, 1) := by decide +kernel
theorem dX4_back_44 : decode cX4_back 44 = .ok (.getfield 19, 3) := by decide +kernel
theorem dX4_back_47 : decode cX4_back 47 = .ok (.invokevirtual 166, 3) := by decide +kernel
theorem dX4_back_50 : decode cX4_back 50 = .ok (.ifCond .eq 13, 3) := by decide +kernel
theorem dX4_back_53 : decode cX4_back 53 = .ok (.new 56, 3) := by decide +kernel
theorem dX4_back_56 : decode cX4_back 56 = .ok (.dup, 1) := by decide +kernel
theorem dX4_back_57 : decode cX4_back 57 = .ok (.ldc 170, 2) := by decide +kernel
theorem dX4_back_59 : decode cX4_back 59 = .ok (.invokespecial 60, 3) := by decide +kernel
theorem dX4_back_62 : decode cX4_back 62 = .ok (.athrow, 1) := by decide +kernel
theorem dX4_back_63 : decode cX4_back 63 = .ok (.aload_n 0, 1) := by decide +kernel
theorem dX4_back_64 : decode cX4_back 64 = .ok (.getfield 38, 3) := by decide +kernel
theorem dX4_back_67 : decode cX4_back 67 = .ok (.iload_n 1, 1) := by decide +kernel
theorem dX4_back_68 : decode cX4_back 68 = .ok (.iaload, 1) := by decide +kernel
theorem dX4_back_69 : decode cX4_back 69 = .ok (.istore_n 3, 1) := by decide +kernel
theorem dX4_back_70 : decode cX4_back 70 = .ok (.aload_n 0, 1) := by decide +kernel
theorem dX4_back_71 : decode cX4_back 71 = .ok (.getfield 38, 3) := by decide +kernel
theorem dX4_back_74 : decode cX4_back 74 = .ok (.iload_n 1, 1) := by decide +kernel
theorem dX4_back_75 : decode cX4_back 75 = .ok (.iload_n 2, 1) := by decide +kernel
theorem dX4_back_76 : decode cX4_back 76 = .ok (.iastore, 1) := by decide +kernel
theorem dX4_back_77 : decode cX4_back 77 = .ok (.iload_n 3, 1) := by decide +kernel
theorem dX4_back_78 : decode cX4_back 78 = .ok (.ireturn, 1) := by decide +kernel
theorem dX4_quota_0 : decode cX4_quota 0 = .ok (.aload_n 0, 1) := by decide +kernel
theorem dX4_quota_1 : decode cX4_quota 1 = .ok (.iload_n 1, 1) := by decide +kernel
theorem dX4_quota_2 : decode cX4_quota 2 = .ok (.invokevirtual 71, 3) := by decide +kernel
theorem dX4_quota_5 : decode cX4_quota 5 = .ok (.astore_n 3, 1) := by decide +kernel
theorem dX4_quota_6 : decode cX4_quota 6 = .ok (.iload_n 2, 1) := by decide +kernel
theorem dX4_quota_7 : decode cX4_quota 7 = .ok (.iconst (-1), 1) := by decide +kernel
theorem dX4_quota_8 : decode cX4_quota 8 = .ok (.if_icmp .lt 9, 3) := by decide +kernel
theorem dX4_quota_11 : decode cX4_quota 11 = .ok (.iload_n 2, 1) := by decide +kernel
theorem dX4_quota_12 : decode cX4_quota 12 = .ok (.bipush 40, 2) := by decide +kernel
theorem dX4_quota_14 : decode cX4_quota 14 = .ok (.if_icmp .le 13, 3) := by decide +kernel
theorem dX4_quota_17 : decode cX4_quota 17 = .ok (.new 172, 3) := by decide +kernel
theorem dX4_quota_20 : decode cX4_quota 20 = .ok (.dup, 1) := by decide +kernel
theorem dX4_quota_21 : decode cX4_quota 21 = .ok (.ldc 174, 2) := by decide +kernel
theorem dX4_quota_23 : decode cX4_quota 23 = .ok (.invokespecial 176, 3) := by decide +kernel
theorem dX4_quota_26 : decode cX4_quota 26 = .ok (.athrow, 1) := by decide +kernel
theorem dX4_quota_27 : decode cX4_quota 27 = .ok (.aload_n 3, 1) := by decide +kernel
theorem dX4_quota_28 : decode cX4_quota 28 = .ok (.getfield 80, 3) := by decide +kernel
theorem dX4_quota_31 : decode cX4_quota 31 = .ok (.istore 4, 2) := by decide +kernel
theorem dX4_quota_33 : decode cX4_quota 33 = .ok (.aload_n 3, 1) := by decide +kernel
theorem dX4_quota_34 : decode cX4_quota 34 = .ok (.iload_n 2, 1) := by decide +kernel
theorem dX4_quota_35 : decode cX4_quota 35 = .ok (.putfield 80, 3) := by decide +kernel
theorem dX4_quota_38 : decode cX4_quota 38 = .ok (.aload_n 0, 1) := by decide +kernel
theorem dX4_quota_39 : decode cX4_quota 39 = .ok (.invokevirtual 108, 3) := by decide +kernel
theorem dX4_quota_42 : decode cX4_quota 42 = .ok (.iload 4, 2) := by decide +kernel
theorem dX4_quota_44 : decode cX4_quota 44 = .ok (.ireturn, 1) := by decide +kernel
theorem dX4_mark_0 : decode cX4_mark 0 = .ok (.aload_n 0, 1) := by decide +kernel
theorem dX4_mark_1 : decode cX4_mark 1 = .ok (.getfield 10, 3) := by decide +kernel
theorem dX4_mark_4 : decode cX4_mark 4 = .ok (.getfield 177, 3) := by decide +kernel
theorem dX4_mark_7 : decode cX4_mark 7 = .ok (.iload_n 1, 1) := by decide +kernel
theorem dX4_mark_8 : decode cX4_mark 8 = .ok (.if_icmp .eq 5, 3) := by decide +kernel
theorem dX4_mark_11 : decode cX4_mark 11 = .ok (.iconst 0, 1) := by decide +kernel
theorem dX4_mark_12 : decode cX4_mark 12 = .ok (.ireturn, 1) := by decide +kernel
theorem dX4_mark_13 : decode cX4_mark 13 = .ok (.aload_n 0, 1) := by decide +kernel
theorem dX4_mark_14 : decode cX4_mark 14 = .ok (.getfield 10, 3) := by decide +kernel
theorem dX4_mark_17 : decode cX4_mark 17 = .ok (.iload_n 2, 1) := by decide +kernel
theorem dX4_mark_18 : decode cX4_mark 18 = .ok (.putfield 177, 3) := by decide +kernel
theorem dX4_mark_21 : decode cX4_mark 21 = .ok (.iconst 1, 1) := by decide +kernel
theorem dX4_mark_22 : decode cX4_mark 22 = .ok (.ireturn, 1) := by decide +kernel
theorem dX4_marked_0 : decode cX4_marked 0 = .ok (.aload_n 0, 1) := by decide +kernel
theorem dX4_marked_1 : decode cX4_marked 1 = .ok (.iload_n 1, 1) := by decide +kernel
theorem dX4_marked_2 : decode cX4_marked 2 = .ok (.invokevirtual 180, 3) := by decide +kernel
theorem dX4_marked_5 : decode cX4_marked 5 = .ok (.getfield 177, 3) := by decide +kernel
theorem dX4_marked_8 : decode cX4_marked 8 = .ok (.ireturn, 1) := by decide +kernel
theorem dX4_commit_0 : decode cX4_commit 0 = .ok (.aload_n 0, 1) := by decide +kernel
theorem dX4_commit_1 : decode cX4_commit 1 = .ok (.invokevirtual 184, 3) := by decide +kernel
theorem dX4_commit_4 : decode cX4_commit 4 = .ok (.aload_n 0, 1) := by decide +kernel
theorem dX4_commit_5 : decode cX4_commit 5 = .ok (.invokevirtual 108, 3) := by decide +kernel
theorem dX4_commit_8 : decode cX4_commit 8 = .ok (.aload_n 0, 1) := by decide +kernel
theorem dX4_commit_9 : decode cX4_commit 9 = .ok (.getfield 187, 3) := by decide +kernel
theorem dX4_commit_12 : decode cX4_commit 12 = .ok (.ireturn, 1) := by decide +kernel
theorem dX4_cut_0 : decode cX4_cut 0 = .ok (.iload_n 1, 1) := by decide +kernel
theorem dX4_cut_1 : decode cX4_cut 1 = .ok (.ifCond .lt 8, 3) := by decide +kernel
theorem dX4_cut_4 : decode cX4_cut 4 = .ok (.iload_n 1, 1) := by decide +kernel
theorem dX4_cut_5 : decode cX4_cut 5 = .ok (.iconst 2, 1) := by decide +kernel
theorem dX4_cut_6 : decode cX4_cut 6 = .ok (.if_icmp .le 13, 3) := by decide +kernel
theorem dX4_cut_9 : decode cX4_cut 9 = .ok (.new 172, 3) := by decide +kernel
theorem dX4_cut_12 : decode cX4_cut 12 = .ok (.dup, 1) := by decide +kernel
theorem dX4_cut_13 : decode cX4_cut 13 = .ok (.ldc 190, 2) := by decide +kernel
theorem dX4_cut_15 : decode cX4_cut 15 = .ok (.invokespecial 176, 3) := by decide +kernel
theorem dX4_cut_18 : decode cX4_cut 18 = .ok (.athrow, 1) := by decide +kernel
theorem dX4_cut_19 : decode cX4_cut 19 = .ok (.iload_n 1, 1) := by decide +kernel
theorem dX4_cut_20 : decode cX4_cut 20 = .ok (.iconst 2, 1) := by decide +kernel
theorem dX4_cut_21 : decode cX4_cut 21 = .ok (.if_icmp .ne 7, 3) := by decide +kernel
theorem dX4_cut_24 : decode cX4_cut 24 = .ok (.aload_n 0, 1) := by decide +kernel
theorem dX4_cut_25 : decode cX4_cut 25 = .ok (.invokevirtual 184, 3) := by decide +kernel
theorem dX4_cut_28 : decode cX4_cut 28 = .ok (.aload_n 0, 1) := by decide +kernel
theorem dX4_cut_29 : decode cX4_cut 29 = .ok (.getfield 10, 3) := by decide +kernel
theorem dX4_cut_32 : decode cX4_cut 32 = .ok (.aload_n 0, 1) := by decide +kernel
theorem dX4_cut_33 : decode cX4_cut 33 = .ok (.getfield 16, 3) := by decide +kernel
theorem dX4_cut_36 : decode cX4_cut 36 = .ok (.invokevirtual 192, 3) := by decide +kernel
theorem dX4_cut_39 : decode cX4_cut 39 = .ok (.aload_n 0, 1) := by decide +kernel
theorem dX4_cut_40 : decode cX4_cut 40 = .ok (.dup, 1) := by decide +kernel
theorem dX4_cut_41 : decode cX4_cut 41 = .ok (.getfield 94, 3) := by decide +kernel
theorem dX4_cut_44 : decode cX4_cut 44 = .ok (.aload_n 0, 1) := by decide +kernel
theorem dX4_cut_45 : decode cX4_cut 45 = .ok (.getfield 34, 3) := by decide +kernel
theorem dX4_cut_48 : decode cX4_cut 48 = .ok (.invokevirtual 196, 3) := by decide +kernel
theorem dX4_cut_51 : decode cX4_cut 51 = .ok (.iadd, 1) := by decide +kernel
theorem dX4_cut_52 : decode cX4_cut 52 = .ok (.putfield 94, 3) := by decide +kernel
theorem dX4_cut_55 : decode cX4_cut 55 = .ok (.aload_n 0, 1) := by decide +kernel
theorem dX4_cut_56 : decode cX4_cut 56 = .ok (.iconst 0, 1) := by decide +kernel
theorem dX4_cut_57 : decode cX4_cut 57 = .ok (.putfield 119, 3) := by decide +kernel
theorem dX4_cut_60 : decode cX4_cut 60 = .ok (.aload_n 0, 1) := by decide +kernel
theorem dX4_cut_61 : decode cX4_cut 61 = .ok (.getfield 27, 3) := by decide +kernel
theorem dX4_cut_64 : decode cX4_cut 64 = .ok (.iconst 0, 1) := by decide +kernel
theorem dX4_cut_65 : decode cX4_cut 65 = .ok (.putfield 161, 3) := by decide +kernel
theorem dX4_cut_68 : decode cX4_cut 68 = .ok (.aload_n 0, 1) := by decide +kernel
theorem dX4_cut_69 : decode cX4_cut 69 = .ok (.getfield 10, 3) := by decide +kernel
theorem dX4_cut_72 : decode cX4_cut 72 = .ok (.getfield 67, 3) := by decide +kernel
theorem dX4_cut_75 : decode cX4_cut 75 = .ok (.ireturn, 1) := by decide +kernel
theorem dX4_hold_0 : decode cX4_hold 0 = .ok (.aload_n 0, 1) := by decide +kernel
theorem dX4_hold_1 : decode cX4_hold 1 = .ok (.getfield 200, 3) := by decide +kernel
theorem dX4_hold_4 : decode cX4_hold 4 = .ok (.ifCond .eq 13, 3) := by decide +kernel
theorem dX4_hold_7 : decode cX4_hold 7 = .ok (.new 56, 3) := by decide +kernel
theorem dX4_hold_10 : decode cX4_hold 10 = .ok (.dup, 1) := by decide +kernel
theorem dX4_hold_11 : decode cX4_hold 11 = .ok (.ldc 203, 2) := by decide +kernel
theorem dX4_hold_13 : decode cX4_hold 13 = .ok (.invokespecial 60, 3) := by decide +kernel
theorem dX4_hold_16 : decode cX4_hold 16 = .ok (.athrow, 1) := by decide +kernel
theorem dX4_hold_17 : decode cX4_hold 17 = .ok (.aload_n 0, 1) := by decide +kernel
theorem dX4_hold_18 : decode cX4_hold 18 = .ok (.getfield 19, 3) := by decide +kernel
theorem dX4_hold_21 : decode cX4_hold 21 = .ok (.aload_n 0, 1) := by decide +kernel
theorem dX4_hold_22 : decode cX4_hold 22 = .ok (.getfield 16, 3) := by decide +kernel
theorem dX4_hold_25 : decode cX4_hold 25 = .ok (.invokevirtual 192, 3) := by decide +kernel
theorem dX4_hold_28 : decode cX4_hold 28 = .ok (.aload_n 0, 1) := by decide +kernel
theorem dX4_hold_29 : decode cX4_hold 29 = .ok (.iconst 1, 1) := by decide +kernel
theorem dX4_hold_30 : decode cX4_hold 30 = .ok (.putfield 200, 3) := by decide +kernel
theorem dX4_hold_33 : decode cX4_hold 33 = .ok (.aload_n 0, 1) := by decide +kernel
theorem dX4_hold_34 : decode cX4_hold 34 = .ok (.getfield 19, 3) := by decide +kernel
theorem dX4_hold_37 : decode cX4_hold 37 = .ok (.getfield 67, 3) := by decide +kernel
theorem dX4_hold_40 : decode cX4_hold 40 = .ok (.ireturn, 1) := by decide +kernel
theorem dX4_release_0 : decode cX4_release 0 = .ok (.aload_n 0, 1) := by decide +kernel
theorem dX4_release_1 : decode cX4_release 1 = .ok (.getfield 200, 3) := by decide +kernel
theorem dX4_release_4 : decode cX4_release 4 = .ok (.istore_n 1, 1) := by decide +kernel
theorem dX4_release_5 : decode cX4_release 5 = .ok (.aload_n 0, 1) := by decide +kernel
theorem dX4_release_6 : decode cX4_release 6 = .ok (.getfield 19, 3) := by decide +kernel
theorem dX4_release_9 : decode cX4_release 9 = .ok (.invokevirtual 205, 3) := by decide +kernel
theorem dX4_release_12 : decode cX4_release 12 = .ok (.aload_n 0, 1) := by decide +kernel
theorem dX4_release_13 : decode cX4_release 13 = .ok (.iconst 0, 1) := by decide +kernel
theorem dX4_release_14 : decode cX4_release 14 = .ok (.putfield 200, 3) := by decide +kernel
theorem dX4_release_17 : decode cX4_release 17 = .ok (.aload_n 0, 1) := by decide +kernel
theorem dX4_release_18 : decode cX4_release 18 = .ok (.invokevirtual 108, 3) := by decide +kernel
theorem dX4_release_21 : decode cX4_release 21 = .ok (.iload_n 1, 1) := by decide +kernel
theorem dX4_release_22 : decode cX4_release 22 = .ok (.ireturn, 1) := by decide +kernel
theorem dX4_patience_0 : decode cX4_patience 0 = .ok (.iload_n 1, 1) := by decide +kernel
theorem dX4_patience_1 : decode cX4_patience 1 = .ok (.ifCond .lt 10, 3) := by decide +kernel
theorem dX4_patience_4 : decode cX4_patience 4 = .ok (.iload_n 1, 1) := by decide +kernel
theorem dX4_patience_5 : decode cX4_patience 5 = .ok (.sipush 1000, 3) := by decide +kernel
theorem dX4_patience_8 : decode cX4_patience 8 = .ok (.if_icmp .le 13, 3) := by decide +kernel
theorem dX4_patience_11 : decode cX4_patience 11 = .ok (.new 172, 3) := by decide +kernel
theorem dX4_patience_14 : decode cX4_patience 14 = .ok (.dup, 1) := by decide +kernel
theorem dX4_patience_15 : decode cX4_patience 15 = .ok (.ldc 208, 2) := by decide +kernel
theorem dX4_patience_17 : decode cX4_patience 17 = .ok (.invokespecial 176, 3) := by decide +kernel
theorem dX4_patience_20 : decode cX4_patience 20 = .ok (.athrow, 1) := by decide +kernel
theorem dX4_patience_21 : decode cX4_patience 21 = .ok (.aload_n 0, 1) := by decide +kernel
theorem dX4_patience_22 : decode cX4_patience 22 = .ok (.getfield 210, 3) := by decide +kernel
theorem dX4_patience_25 : decode cX4_patience 25 = .ok (.istore_n 2, 1) := by decide +kernel
theorem dX4_patience_26 : decode cX4_patience 26 = .ok (.aload_n 0, 1) := by decide +kernel
theorem dX4_patience_27 : decode cX4_patience 27 = .ok (.iload_n 1, 1) := by decide +kernel
theorem dX4_patience_28 : decode cX4_patience 28 = .ok (.putfield 210, 3) := by decide +kernel
theorem dX4_patience_31 : decode cX4_patience 31 = .ok (.iload_n 2, 1) := by decide +kernel
theorem dX4_patience_32 : decode cX4_patience 32 = .ok (.ireturn, 1) := by decide +kernel
theorem dX4_alarm_0 : decode cX4_alarm 0 = .ok (.iload_n 1, 1) := by decide +kernel
theorem dX4_alarm_1 : decode cX4_alarm 1 = .ok (.ifCond .lt 9, 3) := by decide +kernel
theorem dX4_alarm_4 : decode cX4_alarm 4 = .ok (.iload_n 1, 1) := by decide +kernel
theorem dX4_alarm_5 : decode cX4_alarm 5 = .ok (.bipush 96, 2) := by decide +kernel
theorem dX4_alarm_7 : decode cX4_alarm 7 = .ok (.if_icmp .le 13, 3) := by decide +kernel
theorem dX4_alarm_10 : decode cX4_alarm 10 = .ok (.new 172, 3) := by decide +kernel
theorem dX4_alarm_13 : decode cX4_alarm 13 = .ok (.dup, 1) := by decide +kernel
theorem dX4_alarm_14 : decode cX4_alarm 14 = .ok (.ldc 213, 2) := by decide +kernel
theorem dX4_alarm_16 : decode cX4_alarm 16 = .ok (.invokespecial 176, 3) := by decide +kernel
theorem dX4_alarm_19 : decode cX4_alarm 19 = .ok (.athrow, 1) := by decide +kernel
theorem dX4_alarm_20 : decode cX4_alarm 20 = .ok (.aload_n 0, 1) := by decide +kernel
theorem dX4_alarm_21 : decode cX4_alarm 21 = .ok (.getfield 27, 3) := by decide +kernel
theorem dX4_alarm_24 : decode cX4_alarm 24 = .ok (.getfield 215, 3) := by decide +kernel
theorem dX4_alarm_27 : decode cX4_alarm 27 = .ok (.istore_n 2, 1) := by decide +kernel
theorem dX4_alarm_28 : decode cX4_alarm 28 = .ok (.aload_n 0, 1) := by decide +kernel
theorem dX4_alarm_29 : decode cX4_alarm 29 = .ok (.getfield 27, 3) := by decide +kernel
theorem dX4_alarm_32 : decode cX4_alarm 32 = .ok (.iload_n 1, 1) := by decide +kernel
theorem dX4_alarm_33 : decode cX4_alarm 33 = .ok (.putfield 215, 3) := by decide +kernel
theorem dX4_alarm_36 : decode cX4_alarm 36 = .ok (.iload_n 2, 1) := by decide +kernel
theorem dX4_alarm_37 : decode cX4_alarm 37 = .ok (.ireturn, 1) := by decide +kernel
theorem dX4_tick_0 : decode cX4_tick 0 = .ok (.iload_n 1, 1) := by decide +kernel
theorem dX4_tick_1 : decode cX4_tick 1 = .ok (.ifCond .lt 10, 3) := by decide +kernel
theorem dX4_tick_4 : decode cX4_tick 4 = .ok (.iload_n 1, 1) := by decide +kernel
theorem dX4_tick_5 : decode cX4_tick 5 = .ok (.sipush 10000, 3) := by decide +kernel
theorem dX4_tick_8 : decode cX4_tick 8 = .ok (.if_icmp .le 13, 3) := by decide +kernel
theorem dX4_tick_11 : decode cX4_tick 11 = .ok (.new 172, 3) := by decide +kernel
theorem dX4_tick_14 : decode cX4_tick 14 = .ok (.dup, 1) := by decide +kernel
theorem dX4_tick_15 : decode cX4_tick 15 = .ok (.ldc 218, 2) := by decide +kernel
theorem dX4_tick_17 : decode cX4_tick 17 = .ok (.invokespecial 176, 3) := by decide +kernel
theorem dX4_tick_20 : decode cX4_tick 20 = .ok (.athrow, 1) := by decide +kernel
theorem dX4_tick_21 : decode cX4_tick 21 = .ok (.aload_n 0, 1) := by decide +kernel
theorem dX4_tick_22 : decode cX4_tick 22 = .ok (.dup, 1) := by decide +kernel
theorem dX4_tick_23 : decode cX4_tick 23 = .ok (.getfield 220, 3) := by decide +kernel
theorem dX4_tick_26 : decode cX4_tick 26 = .ok (.iload_n 1, 1) := by decide +kernel
theorem dX4_tick_27 : decode cX4_tick 27 = .ok (.iadd, 1) := by decide +kernel
theorem dX4_tick_28 : decode cX4_tick 28 = .ok (.putfield 220, 3) := by decide +kernel
theorem dX4_tick_31 : decode cX4_tick 31 = .ok (.aload_n 0, 1) := by decide +kernel
theorem dX4_tick_32 : decode cX4_tick 32 = .ok (.getfield 119, 3) := by decide +kernel
theorem dX4_tick_35 : decode cX4_tick 35 = .ok (.iconst 1, 1) := by decide +kernel
theorem dX4_tick_36 : decode cX4_tick 36 = .ok (.if_icmp .ne 14, 3) := by decide +kernel
theorem dX4_tick_39 : decode cX4_tick 39 = .ok (.aload_n 0, 1) := by decide +kernel
theorem dX4_tick_40 : decode cX4_tick 40 = .ok (.getfield 220, 3) := by decide +kernel
theorem dX4_tick_43 : decode cX4_tick 43 = .ok (.aload_n 0, 1) := by decide +kernel
theorem dX4_tick_44 : decode cX4_tick 44 = .ok (.getfield 223, 3) := by decide +kernel
theorem dX4_tick_47 : decode cX4_tick 47 = .ok (.if_icmp .ge 5, 3) := by decide +kernel
theorem dX4_tick_50 : decode cX4_tick 50 = .ok (.iconst 0, 1) := by decide +kernel
theorem dX4_tick_51 : decode cX4_tick 51 = .ok (.ireturn, 1) := by decide +kernel
theorem dX4_tick_52 : decode cX4_tick 52 = .ok (.aload_n 0, 1) := by decide +kernel
theorem dX4_tick_53 : decode cX4_tick 53 = .ok (.getfield 34, 3) := by decide +kernel
theorem dX4_tick_56 : decode cX4_tick 56 = .ok (.invokevirtual 196, 3) := by decide +kernel
theorem dX4_tick_59 : decode cX4_tick 59 = .ok (.istore_n 2, 1) := by decide +kernel
theorem dX4_tick_60 : decode cX4_tick 60 = .ok (.aload_n 0, 1) := by decide +kernel
theorem dX4_tick_61 : decode cX4_tick 61 = .ok (.dup, 1) := by decide +kernel
theorem dX4_tick_62 : decode cX4_tick 62 = .ok (.getfield 94, 3) := by decide +kernel
theorem dX4_tick_65 : decode cX4_tick 65 = .ok (.iload_n 2, 1) := by decide +kernel
theorem dX4_tick_66 : decode cX4_tick 66 = .ok (.iadd, 1) := by decide +kernel
theorem dX4_tick_67 : decode cX4_tick 67 = .ok (.putfield 94, 3) := by decide +kernel
theorem dX4_tick_70 : decode cX4_tick 70 = .ok (.aload_n 0, 1) := by decide +kernel
theorem dX4_tick_71 : decode cX4_tick 71 = .ok (.iconst 2, 1) := by decide +kernel
theorem dX4_tick_72 : decode cX4_tick 72 = .ok (.putfield 119, 3) := by decide +kernel
theorem dX4_tick_75 : decode cX4_tick 75 = .ok (.iload_n 2, 1) := by decide +kernel
theorem dX4_tick_76 : decode cX4_tick 76 = .ok (.ireturn, 1) := by decide +kernel
theorem dX4_map_0 : decode cX4_map 0 = .ok (.aload_n 0, 1) := by decide +kernel
theorem dX4_map_1 : decode cX4_map 1 = .ok (.iload_n 1, 1) := by decide +kernel
theorem dX4_map_2 : decode cX4_map 2 = .ok (.invokevirtual 180, 3) := by decide +kernel
theorem dX4_map_5 : decode cX4_map 5 = .ok (.astore 4, 2) := by decide +kernel
theorem dX4_map_7 : decode cX4_map 7 = .ok (.aload 4, 2) := by decide +kernel
theorem dX4_map_9 : decode cX4_map 9 = .ok (.iload_n 2, 1) := by decide +kernel
theorem dX4_map_10 : decode cX4_map 10 = .ok (.invokevirtual 226, 3) := by decide +kernel
theorem dX4_map_13 : decode cX4_map 13 = .ok (.astore 5, 2) := by decide +kernel
theorem dX4_map_15 : decode cX4_map 15 = .ok (.aload 5, 2) := by decide +kernel
theorem dX4_map_17 : decode cX4_map 17 = .ok (.ifnull 13, 3) := by decide +kernel
theorem dX4_map_20 : decode cX4_map 20 = .ok (.iload_n 3, 1) := by decide +kernel
theorem dX4_map_21 : decode cX4_map 21 = .ok (.ifCond .lt 9, 3) := by decide +kernel
theorem dX4_map_24 : decode cX4_map 24 = .ok (.iload_n 3, 1) := by decide +kernel
theorem dX4_map_25 : decode cX4_map 25 = .ok (.bipush 40, 2) := by decide +kernel
theorem dX4_map_27 : decode cX4_map 27 = .ok (.if_icmp .lt 13, 3) := by decide +kernel
theorem dX4_map_30 : decode cX4_map 30 = .ok (.new 148, 3) := by decide +kernel
theorem dX4_map_33 : decode cX4_map 33 = .ok (.dup, 1) := by decide +kernel
theorem dX4_map_34 : decode cX4_map 34 = .ok (.ldc 229, 2) := by decide +kernel
theorem dX4_map_36 : decode cX4_map 36 = .ok (.invokespecial 152, 3) := by decide +kernel
theorem dX4_map_39 : decode cX4_map 39 = .ok (.athrow, 1) := by decide +kernel
theorem dX4_map_40 : decode cX4_map 40 = .ok (.aload 5, 2) := by decide +kernel
theorem dX4_map_42 : decode cX4_map 42 = .ok (.iload_n 3, 1) := by decide +kernel
theorem dX4_map_43 : decode cX4_map 43 = .ok (.invokevirtual 83, 3) := by decide +kernel
theorem dX4_map_46 : decode cX4_map 46 = .ok (.ireturn, 1) := by decide +kernel
theorem dX4_volume_0 : decode cX4_volume 0 = .ok (.aload_n 0, 1) := by decide +kernel
theorem dX4_volume_1 : decode cX4_volume 1 = .ok (.iload_n 1, 1) := by decide +kernel
theorem dX4_volume_2 : decode cX4_volume 2 = .ok (.invokevirtual 71, 3) := by decide +kernel
theorem dX4_volume_5 : decode cX4_volume 5 = .ok (.astore_n 3, 1) := by decide +kernel
theorem dX4_volume_6 : decode cX4_volume 6 = .ok (.iload_n 2, 1) := by decide +kernel
theorem dX4_volume_7 : decode cX4_volume 7 = .ok (.tableswitch 98 0 7 #[45, 50, 55, 60, 66, 71, 80, 93], 45) := by decide +kernel
theorem dX4_volume_52 : decode cX4_volume 52 = .ok (.aload_n 3, 1) := by decide +kernel
theorem dX4_volume_53 : decode cX4_volume 53 = .ok (.getfield 74, 3) := by decide +kernel
theorem dX4_volume_56 : decode cX4_volume 56 = .ok (.ireturn, 1) := by decide +kernel
theorem dX4_volume_57 : decode cX4_volume 57 = .ok (.aload_n 3, 1) := by decide +kernel
theorem dX4_volume_58 : decode cX4_volume 58 = .ok (.getfield 91, 3) := by decide +kernel
theorem dX4_volume_61 : decode cX4_volume 61 = .ok (.ireturn, 1) := by decide +kernel
theorem dX4_volume_62 : decode cX4_volume 62 = .ok (.aload_n 3, 1) := by decide +kernel
theorem dX4_volume_63 : decode cX4_volume 63 = .ok (.invokevirtual 231, 3) := by decide +kernel
theorem dX4_volume_66 : decode cX4_volume 66 = .ok (.ireturn, 1) := by decide +kernel
theorem dX4_volume_67 : decode cX4_volume 67 = .ok (.aload_n 0, 1) := by decide +kernel
theorem dX4_volume_68 : decode cX4_volume 68 = .ok (.aload_n 3, 1) := by decide +kernel
theorem dX4_volume_69 : decode cX4_volume 69 = .ok (.invokevirtual 234, 3) := by decide +kernel
theorem dX4_volume_72 : decode cX4_volume 72 = .ok (.ireturn, 1) := by decide +kernel
theorem dX4_volume_73 : decode cX4_volume 73 = .ok (.aload_n 3, 1) := by decide +kernel
theorem dX4_volume_74 : decode cX4_volume 74 = .ok (.getfield 238, 3) := by decide +kernel
theorem dX4_volume_77 : decode cX4_volume 77 = .ok (.ireturn, 1) := by decide +kernel
theorem dX4_volume_78 : decode cX4_volume 78 = .ok (.aload_n 0, 1) := by decide +kernel
theorem dX4_volume_79 : decode cX4_volume 79 = .ok (.getfield 34, 3) := by decide +kernel
theorem dX4_volume_82 : decode cX4_volume 82 = .ok (.iload_n 1, 1) := by decide +kernel
theorem dX4_volume_83 : decode cX4_volume 83 = .ok (.invokevirtual 241, 3) := by decide +kernel
theorem dX4_volume_86 : decode cX4_volume 86 = .ok (.ireturn, 1) := by decide +kernel
theorem dX4_volume_87 : decode cX4_volume 87 = .ok (.aload_n 3, 1) := by decide +kernel
theorem dX4_volume_88 : decode cX4_volume 88 = .ok (.getfield 77, 3) := by decide +kernel
theorem dX4_volume_91 : decode cX4_volume 91 = .ok (.ifCond .eq 7, 3) := by decide +kernel
theorem dX4_volume_94 : decode cX4_volume 94 = .ok (.iconst 1, 1) := by decide +kernel
theorem dX4_volume_95 : decode cX4_volume 95 = .ok (.goto 4, 3) := by decide +kernel
theorem dX4_volume_98 : decode cX4_volume 98 = .ok (.iconst 0, 1) := by decide +kernel
theorem dX4_volume_99 : decode cX4_volume 99 = .ok (.ireturn, 1) := by decide +kernel
theorem dX4_volume_100 : decode cX4_volume 100 = .ok (.aload_n 3, 1) := by decide +kernel
theorem dX4_volume_101 : decode cX4_volume 101 = .ok (.getfield 80, 3) := by decide +kernel
theorem dX4_volume_104 : decode cX4_volume 104 = .ok (.ireturn, 1) := by decide +kernel
theorem dX4_volume_105 : decode cX4_volume 105 = .ok (.new 148, 3) := by decide +kernel
theorem dX4_volume_108 : decode cX4_volume 108 = .ok (.dup, 1) := by decide +kernel
theorem dX4_volume_109 : decode cX4_volume 109 = .ok (.ldc 244, 2) := by decide +kernel
theorem dX4_volume_111 : decode cX4_volume 111 = .ok (.invokespecial 152, 3) := by decide +kernel
theorem dX4_volume_114 : decode cX4_volume 114 = .ok (.athrow, 1) := by decide +kernel
theorem dX4_differ_0 : decode cX4_differ 0 = .ok (.aload_n 0, 1) := by decide +kernel
theorem dX4_differ_1 : decode cX4_differ 1 = .ok (.iload_n 1, 1) := by decide +kernel
theorem dX4_differ_2 : decode cX4_differ 2 = .ok (.invokevirtual 71, 3) := by decide +kernel
theorem dX4_differ_5 : decode cX4_differ 5 = .ok (.astore 4, 2) := by decide +kernel
theorem dX4_differ_7 : decode cX4_differ 7 = .ok (.aload_n 0, 1) := by decide +kernel
theorem dX4_differ_8 : decode cX4_differ 8 = .ok (.iload_n 2, 1) := by decide +kernel
theorem dX4_differ_9 : decode cX4_differ 9 = .ok (.invokevirtual 71, 3) := by decide +kernel
theorem dX4_differ_12 : decode cX4_differ 12 = .ok (.astore 5, 2) := by decide +kernel
theorem dX4_differ_14 : decode cX4_differ 14 = .ok (.iload_n 3, 1) := by decide +kernel
theorem dX4_differ_15 : decode cX4_differ 15 = .ok (.ifCond .lt 8, 3) := by decide +kernel
theorem dX4_differ_18 : decode cX4_differ 18 = .ok (.iload_n 3, 1) := by decide +kernel
theorem dX4_differ_19 : decode cX4_differ 19 = .ok (.iconst 4, 1) := by decide +kernel
theorem dX4_differ_20 : decode cX4_differ 20 = .ok (.if_icmp .le 13, 3) := by decide +kernel
theorem dX4_differ_23 : decode cX4_differ 23 = .ok (.new 148, 3) := by decide +kernel
theorem dX4_differ_26 : decode cX4_differ 26 = .ok (.dup, 1) := by decide +kernel
theorem dX4_differ_27 : decode cX4_differ 27 = .ok (.ldc 244, 2) := by decide +kernel
theorem dX4_differ_29 : decode cX4_differ 29 = .ok (.invokespecial 152, 3) := by decide +kernel
theorem dX4_differ_32 : decode cX4_differ 32 = .ok (.athrow, 1) := by decide +kernel
theorem dX4_differ_33 : decode cX4_differ 33 = .ok (.iload_n 3, 1) := by decide +kernel
theorem dX4_differ_34 : decode cX4_differ 34 = .ok (.iconst 4, 1) := by decide +kernel
theorem dX4_differ_35 : decode cX4_differ 35 = .ok (.if_icmp .ne 14, 3) := by decide +kernel
theorem dX4_differ_38 : decode cX4_differ 38 = .ok (.aload_n 0, 1) := by decide +kernel
theorem dX4_differ_39 : decode cX4_differ 39 = .ok (.aload 4, 2) := by decide +kernel
theorem dX4_differ_41 : decode cX4_differ 41 = .ok (.aload 5, 2) := by decide +kernel
theorem dX4_differ_43 : decode cX4_differ 43 = .ok (.invokevirtual 246, 3) := by decide +kernel
theorem dX4_differ_46 : decode cX4_differ 46 = .ok (.goto 12, 3) := by decide +kernel
theorem dX4_differ_49 : decode cX4_differ 49 = .ok (.aload_n 0, 1) := by decide +kernel
theorem dX4_differ_50 : decode cX4_differ 50 = .ok (.aload 4, 2) := by decide +kernel
theorem dX4_differ_52 : decode cX4_differ 52 = .ok (.aload 5, 2) := by decide +kernel
theorem dX4_differ_54 : decode cX4_differ 54 = .ok (.iload_n 3, 1) := by decide +kernel
theorem dX4_differ_55 : decode cX4_differ 55 = .ok (.invokevirtual 250, 3) := by decide +kernel
theorem dX4_differ_58 : decode cX4_differ 58 = .ok (.ireturn, 1) := by decide +kernel
theorem dX4_users_0 : decode cX4_users 0 = .ok (.aload_n 0, 1) := by decide +kernel
theorem dX4_users_1 : decode cX4_users 1 = .ok (.iload_n 1, 1) := by decide +kernel
theorem dX4_users_2 : decode cX4_users 2 = .ok (.invokevirtual 254, 3) := by decide +kernel
theorem dX4_users_5 : decode cX4_users 5 = .ok (.aload_n 0, 1) := by decide +kernel
theorem dX4_users_6 : decode cX4_users 6 = .ok (.getfield 10, 3) := by decide +kernel
theorem dX4_users_9 : decode cX4_users 9 = .ok (.iload_n 1, 1) := by decide +kernel
theorem dX4_users_10 : decode cX4_users 10 = .ok (.invokevirtual 257, 3) := by decide +kernel
theorem dX4_users_13 : decode cX4_users 13 = .ok (.ireturn, 1) := by decide +kernel
theorem dX4_user_0 : decode cX4_user 0 = .ok (.aload_n 0, 1) := by decide +kernel
theorem dX4_user_1 : decode cX4_user 1 = .ok (.iload_n 1, 1) := by decide +kernel
theorem dX4_user_2 : decode cX4_user 2 = .ok (.invokevirtual 254, 3) := by decide +kernel
theorem dX4_user_5 : decode cX4_user 5 = .ok (.aload_n 0, 1) := by decide +kernel
theorem dX4_user_6 : decode cX4_user 6 = .ok (.getfield 10, 3) := by decide +kernel
theorem dX4_user_9 : decode cX4_user 9 = .ok (.iload_n 1, 1) := by decide +kernel
theorem dX4_user_10 : decode cX4_user 10 = .ok (.iload_n 2, 1) := by decide +kernel
theorem dX4_user_11 : decode cX4_user 11 = .ok (.invokevirtual 260, 3) := by decide +kernel
theorem dX4_user_14 : decode cX4_user 14 = .ok (.ireturn, 1) := by decide +kernel
theorem dX4_told_0 : decode cX4_told 0 = .ok (.iload_n 1, 1) := by decide +kernel
theorem dX4_told_1 : decode cX4_told 1 = .ok (.tableswitch 193 0 13 #[71, 79, 87, 92, 100, 105, 113, 121, 129, 137, 145, 153, 166, 171], 71) := by decide +kernel
theorem dX4_told_72 : decode cX4_told 72 = .ok (.aload_n 0, 1) := by decide +kernel
theorem dX4_told_73 : decode cX4_told 73 = .ok (.getfield 27, 3) := by decide +kernel
theorem dX4_told_76 : decode cX4_told 76 = .ok (.getfield 156, 3) := by decide +kernel
theorem dX4_told_79 : decode cX4_told 79 = .ok (.ireturn, 1) := by decide +kernel
theorem dX4_told_80 : decode cX4_told 80 = .ok (.aload_n 0, 1) := by decide +kernel
theorem dX4_told_81 : decode cX4_told 81 = .ok (.getfield 27, 3) := by decide +kernel
theorem dX4_told_84 : decode cX4_told 84 = .ok (.invokevirtual 264, 3) := by decide +kernel
theorem dX4_told_87 : decode cX4_told 87 = .ok (.ireturn, 1) := by decide +kernel
theorem dX4_told_88 : decode cX4_told 88 = .ok (.aload_n 0, 1) := by decide +kernel
theorem dX4_told_89 : decode cX4_told 89 = .ok (.getfield 119, 3) := by decide +kernel
theorem dX4_told_92 : decode cX4_told 92 = .ok (.ireturn, 1) := by decide +kernel
theorem dX4_told_93 : decode cX4_told 93 = .ok (.aload_n 0, 1) := by decide +kernel
theorem dX4_told_94 : decode cX4_told 94 = .ok (.getfield 34, 3) := by decide +kernel
theorem dX4_told_97 : decode cX4_told 97 = .ok (.getfield 267, 3) := by decide +kernel
theorem dX4_told_100 : decode cX4_told 100 = .ok (.ireturn, 1) := by decide +kernel
theorem dX4_told_101 : decode cX4_told 101 = .ok (.aload_n 0, 1) := by decide +kernel
theorem dX4_told_102 : decode cX4_told 102 = .ok (.getfield 94, 3) := by decide +kernel
theorem dX4_told_105 : decode cX4_told 105 = .ok (.ireturn, 1) := by decide +kernel
theorem dX4_told_106 : decode cX4_told 106 = .ok (.aload_n 0, 1) := by decide +kernel
theorem dX4_told_107 : decode cX4_told 107 = .ok (.getfield 27, 3) := by decide +kernel
theorem dX4_told_110 : decode cX4_told 110 = .ok (.getfield 268, 3) := by decide +kernel
theorem dX4_told_113 : decode cX4_told 113 = .ok (.ireturn, 1) := by decide +kernel
theorem dX4_told_114 : decode cX4_told 114 = .ok (.aload_n 0, 1) := by decide +kernel
theorem dX4_told_115 : decode cX4_told 115 = .ok (.getfield 27, 3) := by decide +kernel
theorem dX4_told_118 : decode cX4_told 118 = .ok (.getfield 161, 3) := by decide +kernel
theorem dX4_told_121 : decode cX4_told 121 = .ok (.ireturn, 1) := by decide +kernel
theorem dX4_told_122 : decode cX4_told 122 = .ok (.aload_n 0, 1) := by decide +kernel
theorem dX4_told_123 : decode cX4_told 123 = .ok (.getfield 27, 3) := by decide +kernel
theorem dX4_told_126 : decode cX4_told 126 = .ok (.getfield 271, 3) := by decide +kernel
theorem dX4_told_129 : decode cX4_told 129 = .ok (.ireturn, 1) := by decide +kernel
theorem dX4_told_130 : decode cX4_told 130 = .ok (.aload_n 0, 1) := by decide +kernel
theorem dX4_told_131 : decode cX4_told 131 = .ok (.getfield 10, 3) := by decide +kernel
theorem dX4_told_134 : decode cX4_told 134 = .ok (.getfield 67, 3) := by decide +kernel
theorem dX4_told_137 : decode cX4_told 137 = .ok (.ireturn, 1) := by decide +kernel
theorem dX4_told_138 : decode cX4_told 138 = .ok (.aload_n 0, 1) := by decide +kernel
theorem dX4_told_139 : decode cX4_told 139 = .ok (.getfield 16, 3) := by decide +kernel
theorem dX4_told_142 : decode cX4_told 142 = .ok (.getfield 67, 3) := by decide +kernel
theorem dX4_told_145 : decode cX4_told 145 = .ok (.ireturn, 1) := by decide +kernel
theorem dX4_told_146 : decode cX4_told 146 = .ok (.aload_n 0, 1) := by decide +kernel
theorem dX4_told_147 : decode cX4_told 147 = .ok (.getfield 19, 3) := by decide +kernel
theorem dX4_told_150 : decode cX4_told 150 = .ok (.getfield 67, 3) := by decide +kernel
theorem dX4_told_153 : decode cX4_told 153 = .ok (.ireturn, 1) := by decide +kernel
theorem dX4_told_154 : decode cX4_told 154 = .ok (.aload_n 0, 1) := by decide +kernel
theorem dX4_told_155 : decode cX4_told 155 = .ok (.getfield 200, 3) := by decide +kernel
theorem dX4_told_158 : decode cX4_told 158 = .ok (.ifCond .eq 7, 3) := by decide +kernel
theorem dX4_told_161 : decode cX4_told 161 = .ok (.iconst 1, 1) := by decide +kernel
theorem dX4_told_162 : decode cX4_told 162 = .ok (.goto 4, 3) := by decide +kernel
theorem dX4_told_165 : decode cX4_told 165 = .ok (.iconst 0, 1) := by decide +kernel
theorem dX4_told_166 : decode cX4_told 166 = .ok (.ireturn, 1) := by decide +kernel
theorem dX4_told_167 : decode cX4_told 167 = .ok (.aload_n 0, 1) := by decide +kernel
theorem dX4_told_168 : decode cX4_told 168 = .ok (.getfield 220, 3) := by decide +kernel
theorem dX4_told_171 : decode cX4_told 171 = .ok (.ireturn, 1) := by decide +kernel
theorem dX4_told_172 : decode cX4_told 172 = .ok (.aload_n 0, 1) := by decide +kernel
theorem dX4_told_173 : decode cX4_told 173 = .ok (.getfield 119, 3) := by decide +kernel
theorem dX4_told_176 : decode cX4_told 176 = .ok (.iconst 1, 1) := by decide +kernel
theorem dX4_told_177 : decode cX4_told 177 = .ok (.if_icmp .ne 15, 3) := by decide +kernel
theorem dX4_told_180 : decode cX4_told 180 = .ok (.aload_n 0, 1) := by decide +kernel
theorem dX4_told_181 : decode cX4_told 181 = .ok (.getfield 223, 3) := by decide +kernel
theorem dX4_told_184 : decode cX4_told 184 = .ok (.aload_n 0, 1) := by decide +kernel
theorem dX4_told_185 : decode cX4_told 185 = .ok (.getfield 220, 3) := by decide +kernel
theorem dX4_told_188 : decode cX4_told 188 = .ok (.isub, 1) := by decide +kernel
theorem dX4_told_189 : decode cX4_told 189 = .ok (.goto 4, 3) := by decide +kernel
theorem dX4_told_192 : decode cX4_told 192 = .ok (.iconst 0, 1) := by decide +kernel
theorem dX4_told_193 : decode cX4_told 193 = .ok (.ireturn, 1) := by decide +kernel
theorem dX4_told_194 : decode cX4_told 194 = .ok (.new 148, 3) := by decide +kernel
theorem dX4_told_197 : decode cX4_told 197 = .ok (.dup, 1) := by decide +kernel
theorem dX4_told_198 : decode cX4_told 198 = .ok (.ldc 244, 2) := by decide +kernel
theorem dX4_told_200 : decode cX4_told 200 = .ok (.invokespecial 152, 3) := by decide +kernel
theorem dX4_told_203 : decode cX4_told 203 = .ok (.athrow, 1) := by decide +kernel
theorem dX4_numbered_0 : decode cX4_numbered 0 = .ok (.aload_n 0, 1) := by decide +kernel
theorem dX4_numbered_1 : decode cX4_numbered 1 = .ok (.getfield 10, 3) := by decide +kernel
theorem dX4_numbered_4 : decode cX4_numbered 4 = .ok (.iload_n 1, 1) := by decide +kernel
theorem dX4_numbered_5 : decode cX4_numbered 5 = .ok (.invokevirtual 226, 3) := by decide +kernel
theorem dX4_numbered_8 : decode cX4_numbered 8 = .ok (.astore_n 2, 1) := by decide +kernel
theorem dX4_numbered_9 : decode cX4_numbered 9 = .ok (.aload_n 2, 1) := by decide +kernel
theorem dX4_numbered_10 : decode cX4_numbered 10 = .ok (.ifnonnull 14, 3) := by decide +kernel
theorem dX4_numbered_13 : decode cX4_numbered 13 = .ok (.new 148, 3) := by decide +kernel
theorem dX4_numbered_16 : decode cX4_numbered 16 = .ok (.dup, 1) := by decide +kernel
theorem dX4_numbered_17 : decode cX4_numbered 17 = .ok (.ldc_w 274, 3) := by decide +kernel
theorem dX4_numbered_20 : decode cX4_numbered 20 = .ok (.invokespecial 152, 3) := by decide +kernel
theorem dX4_numbered_23 : decode cX4_numbered 23 = .ok (.athrow, 1) := by decide +kernel
theorem dX4_numbered_24 : decode cX4_numbered 24 = .ok (.aload_n 2, 1) := by decide +kernel
theorem dX4_numbered_25 : decode cX4_numbered 25 = .ok (.areturn, 1) := by decide +kernel
theorem dX4_existing_0 : decode cX4_existing 0 = .ok (.aload_n 0, 1) := by decide +kernel
theorem dX4_existing_1 : decode cX4_existing 1 = .ok (.getfield 10, 3) := by decide +kernel
theorem dX4_existing_4 : decode cX4_existing 4 = .ok (.iload_n 1, 1) := by decide +kernel
theorem dX4_existing_5 : decode cX4_existing 5 = .ok (.invokevirtual 276, 3) := by decide +kernel
theorem dX4_existing_8 : decode cX4_existing 8 = .ok (.astore_n 2, 1) := by decide +kernel
theorem dX4_existing_9 : decode cX4_existing 9 = .ok (.aload_n 2, 1) := by decide +kernel
theorem dX4_existing_10 : decode cX4_existing 10 = .ok (.ifnonnull 14, 3) := by decide +kernel
theorem dX4_existing_13 : decode cX4_existing 13 = .ok (.new 148, 3) := by decide +kernel
theorem dX4_existing_16 : decode cX4_existing 16 = .ok (.dup, 1) := by decide +kernel
theorem dX4_existing_17 : decode cX4_existing 17 = .ok (.ldc_w 279, 3) := by decide +kernel
theorem dX4_existing_20 : decode cX4_existing 20 = .ok (.invokespecial 152, 3) := by decide +kernel
theorem dX4_existing_23 : decode cX4_existing 23 = .ok (.athrow, 1) := by decide +kernel
theorem dX4_existing_24 : decode cX4_existing 24 = .ok (.aload_n 2, 1) := by decide +kernel
theorem dX4_existing_25 : decode cX4_existing 25 = .ok (.areturn, 1) := by decide +kernel
theorem dX4_requireSize_0 : decode cX4_requireSize 0 = .ok (.iload_n 1, 1) := by decide +kernel
theorem dX4_requireSize_1 : decode cX4_requireSize 1 = .ok (.iconst 1, 1) := by decide +kernel
theorem dX4_requireSize_2 : decode cX4_requireSize 2 = .ok (.if_icmp .lt 9, 3) := by decide +kernel
theorem dX4_requireSize_5 : decode cX4_requireSize 5 = .ok (.iload_n 1, 1) := by decide +kernel
theorem dX4_requireSize_6 : decode cX4_requireSize 6 = .ok (.bipush 40, 2) := by decide +kernel
theorem dX4_requireSize_8 : decode cX4_requireSize 8 = .ok (.if_icmp .le 14, 3) := by decide +kernel
theorem dX4_requireSize_11 : decode cX4_requireSize 11 = .ok (.new 172, 3) := by decide +kernel
theorem dX4_requireSize_14 : decode cX4_requireSize 14 = .ok (.dup, 1) := by decide +kernel
theorem dX4_requireSize_15 : decode cX4_requireSize 15 = .ok (.ldc_w 281, 3) := by decide +kernel
theorem dX4_requireSize_18 : decode cX4_requireSize 18 = .ok (.invokespecial 176, 3) := by decide +kernel
theorem dX4_requireSize_21 : decode cX4_requireSize 21 = .ok (.athrow, 1) := by decide +kernel
theorem dX4_requireSize_22 : decode cX4_requireSize 22 = .ok (.return_, 1) := by decide +kernel
theorem dX4_requireWord_0 : decode cX4_requireWord 0 = .ok (.iload_n 2, 1) := by decide +kernel
theorem dX4_requireWord_1 : decode cX4_requireWord 1 = .ok (.ifCond .lt 13, 3) := by decide +kernel
theorem dX4_requireWord_4 : decode cX4_requireWord 4 = .ok (.iload_n 2, 1) := by decide +kernel
theorem dX4_requireWord_5 : decode cX4_requireWord 5 = .ok (.aload_n 1, 1) := by decide +kernel
theorem dX4_requireWord_6 : decode cX4_requireWord 6 = .ok (.getfield 74, 3) := by decide +kernel
theorem dX4_requireWord_9 : decode cX4_requireWord 9 = .ok (.iconst 4, 1) := by decide +kernel
theorem dX4_requireWord_10 : decode cX4_requireWord 10 = .ok (.imul, 1) := by decide +kernel
theorem dX4_requireWord_11 : decode cX4_requireWord 11 = .ok (.if_icmp .lt 14, 3) := by decide +kernel
theorem dX4_requireWord_14 : decode cX4_requireWord 14 = .ok (.new 148, 3) := by decide +kernel
theorem dX4_requireWord_17 : decode cX4_requireWord 17 = .ok (.dup, 1) := by decide +kernel
theorem dX4_requireWord_18 : decode cX4_requireWord 18 = .ok (.ldc_w 283, 3) := by decide +kernel
theorem dX4_requireWord_21 : decode cX4_requireWord 21 = .ok (.invokespecial 152, 3) := by decide +kernel
theorem dX4_requireWord_24 : decode cX4_requireWord 24 = .ok (.athrow, 1) := by decide +kernel
theorem dX4_requireWord_25 : decode cX4_requireWord 25 = .ok (.return_, 1) := by decide +kernel
theorem dX4_requireNoneWaits_0 : decode cX4_requireNoneWaits 0 = .ok (.aload_n 0, 1) := by decide +kernel
theorem dX4_requireNoneWaits_1 : decode cX4_requireNoneWaits 1 = .ok (.getfield 34, 3) := by decide +kernel
theorem dX4_requireNoneWaits_4 : decode cX4_requireNoneWaits 4 = .ok (.iload_n 1, 1) := by decide +kernel
theorem dX4_requireNoneWaits_5 : decode cX4_requireNoneWaits 5 = .ok (.iload_n 2, 1) := by decide +kernel
theorem dX4_requireNoneWaits_6 : decode cX4_requireNoneWaits 6 = .ok (.iload_n 3, 1) := by decide +kernel
theorem dX4_requireNoneWaits_7 : decode cX4_requireNoneWaits 7 = .ok (.invokevirtual 122, 3) := by decide +kernel
theorem dX4_requireNoneWaits_10 : decode cX4_requireNoneWaits 10 = .ok (.ifCond .eq 14, 3) := by decide +kernel
theorem dX4_requireNoneWaits_13 : decode cX4_requireNoneWaits 13 = .ok (.new 56, 3) := by decide +kernel
theorem dX4_requireNoneWaits_16 : decode cX4_requireNoneWaits 16 = .ok (.dup, 1) := by decide +kernel
theorem dX4_requireNoneWaits_17 : decode cX4_requireNoneWaits 17 = .ok (.ldc_w 285, 3) := by decide +kernel
theorem dX4_requireNoneWaits_20 : decode cX4_requireNoneWaits 20 = .ok (.invokespecial 60, 3) := by decide +kernel
theorem dX4_requireNoneWaits_23 : decode cX4_requireNoneWaits 23 = .ok (.athrow, 1) := by decide +kernel
theorem dX4_requireNoneWaits_24 : decode cX4_requireNoneWaits 24 = .ok (.return_, 1) := by decide +kernel
theorem dX4_requireNotNegative_0 : decode cX4_requireNotNegative 0 = .ok (.iload_n 1, 1) := by decide +kernel
theorem dX4_requireNotNegative_1 : decode cX4_requireNotNegative 1 = .ok (.ifCond .ge 14, 3) := by decide +kernel
theorem dX4_requireNotNegative_4 : decode cX4_requireNotNegative 4 = .ok (.new 172, 3) := by decide +kernel
theorem dX4_requireNotNegative_7 : decode cX4_requireNotNegative 7 = .ok (.dup, 1) := by decide +kernel
theorem dX4_requireNotNegative_8 : decode cX4_requireNotNegative 8 = .ok (.ldc_w 287, 3) := by decide +kernel
theorem dX4_requireNotNegative_11 : decode cX4_requireNotNegative 11 = .ok (.invokespecial 176, 3) := by decide +kernel
theorem dX4_requireNotNegative_14 : decode cX4_requireNotNegative 14 = .ok (.athrow, 1) := by decide +kernel
theorem dX4_requireNotNegative_15 : decode cX4_requireNotNegative 15 = .ok (.return_, 1) := by decide +kernel
theorem dX4_requireExtent_0 : decode cX4_requireExtent 0 = .ok (.iload_n 1, 1) := by decide +kernel
theorem dX4_requireExtent_1 : decode cX4_requireExtent 1 = .ok (.ifCond .lt 14, 3) := by decide +kernel
theorem dX4_requireExtent_4 : decode cX4_requireExtent 4 = .ok (.iload_n 1, 1) := by decide +kernel
theorem dX4_requireExtent_5 : decode cX4_requireExtent 5 = .ok (.aload_n 0, 1) := by decide +kernel
theorem dX4_requireExtent_6 : decode cX4_requireExtent 6 = .ok (.getfield 27, 3) := by decide +kernel
theorem dX4_requireExtent_9 : decode cX4_requireExtent 9 = .ok (.getfield 156, 3) := by decide +kernel
theorem dX4_requireExtent_12 : decode cX4_requireExtent 12 = .ok (.if_icmp .lt 14, 3) := by decide +kernel
theorem dX4_requireExtent_15 : decode cX4_requireExtent 15 = .ok (.new 148, 3) := by decide +kernel
theorem dX4_requireExtent_18 : decode cX4_requireExtent 18 = .ok (.dup, 1) := by decide +kernel
theorem dX4_requireExtent_19 : decode cX4_requireExtent 19 = .ok (.ldc_w 289, 3) := by decide +kernel
theorem dX4_requireExtent_22 : decode cX4_requireExtent 22 = .ok (.invokespecial 152, 3) := by decide +kernel
theorem dX4_requireExtent_25 : decode cX4_requireExtent 25 = .ok (.athrow, 1) := by decide +kernel
theorem dX4_requireExtent_26 : decode cX4_requireExtent 26 = .ok (.return_, 1) := by decide +kernel
theorem dX4_stateOf_0 : decode cX4_stateOf 0 = .ok (.iload_n 1, 1) := by decide +kernel
theorem dX4_stateOf_1 : decode cX4_stateOf 1 = .ok (.tableswitch 42 0 2 #[27, 32, 37], 27) := by decide +kernel
theorem dX4_stateOf_28 : decode cX4_stateOf 28 = .ok (.aload_n 0, 1) := by decide +kernel
theorem dX4_stateOf_29 : decode cX4_stateOf 29 = .ok (.getfield 10, 3) := by decide +kernel
theorem dX4_stateOf_32 : decode cX4_stateOf 32 = .ok (.areturn, 1) := by decide +kernel
theorem dX4_stateOf_33 : decode cX4_stateOf 33 = .ok (.aload_n 0, 1) := by decide +kernel
theorem dX4_stateOf_34 : decode cX4_stateOf 34 = .ok (.getfield 16, 3) := by decide +kernel
theorem dX4_stateOf_37 : decode cX4_stateOf 37 = .ok (.areturn, 1) := by decide +kernel
theorem dX4_stateOf_38 : decode cX4_stateOf 38 = .ok (.aload_n 0, 1) := by decide +kernel
theorem dX4_stateOf_39 : decode cX4_stateOf 39 = .ok (.getfield 19, 3) := by decide +kernel
theorem dX4_stateOf_42 : decode cX4_stateOf 42 = .ok (.areturn, 1) := by decide +kernel
theorem dX4_stateOf_43 : decode cX4_stateOf 43 = .ok (.new 172, 3) := by decide +kernel
theorem dX4_stateOf_46 : decode cX4_stateOf 46 = .ok (.dup, 1) := by decide +kernel
theorem dX4_stateOf_47 : decode cX4_stateOf 47 = .ok (.ldc_w 291, 3) := by decide +kernel
theorem dX4_stateOf_50 : decode cX4_stateOf 50 = .ok (.invokespecial 176, 3) := by decide +kernel
theorem dX4_stateOf_53 : decode cX4_stateOf 53 = .ok (.athrow, 1) := by decide +kernel
theorem dX4_needsExtent_0 : decode cX4_needsExtent 0 = .ok (.aload_n 0, 1) := by decide +kernel
theorem dX4_needsExtent_1 : decode cX4_needsExtent 1 = .ok (.getfield 27, 3) := by decide +kernel
theorem dX4_needsExtent_4 : decode cX4_needsExtent 4 = .ok (.aload_n 1, 1) := by decide +kernel
theorem dX4_needsExtent_5 : decode cX4_needsExtent 5 = .ok (.iload_n 2, 1) := by decide +kernel
theorem dX4_needsExtent_6 : decode cX4_needsExtent 6 = .ok (.invokevirtual 83, 3) := by decide +kernel
theorem dX4_needsExtent_9 : decode cX4_needsExtent 9 = .ok (.invokevirtual 293, 3) := by decide +kernel
theorem dX4_needsExtent_12 : decode cX4_needsExtent 12 = .ok (.ifCond .ne 7, 3) := by decide +kernel
theorem dX4_needsExtent_15 : decode cX4_needsExtent 15 = .ok (.iconst 1, 1) := by decide +kernel
theorem dX4_needsExtent_16 : decode cX4_needsExtent 16 = .ok (.goto 4, 3) := by decide +kernel
theorem dX4_needsExtent_19 : decode cX4_needsExtent 19 = .ok (.iconst 0, 1) := by decide +kernel
theorem dX4_needsExtent_20 : decode cX4_needsExtent 20 = .ok (.ireturn, 1) := by decide +kernel
theorem dX4_isOver_0 : decode cX4_isOver 0 = .ok (.aload_n 1, 1) := by decide +kernel
theorem dX4_isOver_1 : decode cX4_isOver 1 = .ok (.iload_n 2, 1) := by decide +kernel
theorem dX4_isOver_2 : decode cX4_isOver 2 = .ok (.invokevirtual 83, 3) := by decide +kernel
theorem dX4_isOver_5 : decode cX4_isOver 5 = .ok (.iconst (-1), 1) := by decide +kernel
theorem dX4_isOver_6 : decode cX4_isOver 6 = .ok (.if_icmp .ne 26, 3) := by decide +kernel
theorem dX4_isOver_9 : decode cX4_isOver 9 = .ok (.aload_n 1, 1) := by decide +kernel
theorem dX4_isOver_10 : decode cX4_isOver 10 = .ok (.getfield 80, 3) := by decide +kernel
theorem dX4_isOver_13 : decode cX4_isOver 13 = .ok (.iconst (-1), 1) := by decide +kernel
theorem dX4_isOver_14 : decode cX4_isOver 14 = .ok (.if_icmp .eq 18, 3) := by decide +kernel
theorem dX4_isOver_17 : decode cX4_isOver 17 = .ok (.aload_n 1, 1) := by decide +kernel
theorem dX4_isOver_18 : decode cX4_isOver 18 = .ok (.getfield 91, 3) := by decide +kernel
theorem dX4_isOver_21 : decode cX4_isOver 21 = .ok (.aload_n 1, 1) := by decide +kernel
theorem dX4_isOver_22 : decode cX4_isOver 22 = .ok (.getfield 80, 3) := by decide +kernel
theorem dX4_isOver_25 : decode cX4_isOver 25 = .ok (.if_icmp .lt 7, 3) := by decide +kernel
theorem dX4_isOver_28 : decode cX4_isOver 28 = .ok (.iconst 1, 1) := by decide +kernel
theorem dX4_isOver_29 : decode cX4_isOver 29 = .ok (.goto 4, 3) := by decide +kernel
theorem dX4_isOver_32 : decode cX4_isOver 32 = .ok (.iconst 0, 1) := by decide +kernel
theorem dX4_isOver_33 : decode cX4_isOver 33 = .ok (.ireturn, 1) := by decide +kernel
theorem dX4_writeNeeding_0 : decode cX4_writeNeeding 0 = .ok (.aload_n 0, 1) := by decide +kernel
theorem dX4_writeNeeding_1 : decode cX4_writeNeeding 1 = .ok (.getfield 119, 3) := by decide +kernel
theorem dX4_writeNeeding_4 : decode cX4_writeNeeding 4 = .ok (.iconst 1, 1) := by decide +kernel
theorem dX4_writeNeeding_5 : decode cX4_writeNeeding 5 = .ok (.if_icmp .ne 12, 3) := by decide +kernel
theorem dX4_writeNeeding_8 : decode cX4_writeNeeding 8 = .ok (.aload_n 0, 1) := by decide +kernel
theorem dX4_writeNeeding_9 : decode cX4_writeNeeding 9 = .ok (.iload_n 2, 1) := by decide +kernel
theorem dX4_writeNeeding_10 : decode cX4_writeNeeding 10 = .ok (.iload_n 3, 1) := by decide +kernel
theorem dX4_writeNeeding_11 : decode cX4_writeNeeding 11 = .ok (.iload 4, 2) := by decide +kernel
theorem dX4_writeNeeding_13 : decode cX4_writeNeeding 13 = .ok (.invokevirtual 126, 3) := by decide +kernel
theorem dX4_writeNeeding_16 : decode cX4_writeNeeding 16 = .ok (.ireturn, 1) := by decide +kernel
theorem dX4_writeNeeding_17 : decode cX4_writeNeeding 17 = .ok (.aload_n 0, 1) := by decide +kernel
theorem dX4_writeNeeding_18 : decode cX4_writeNeeding 18 = .ok (.getfield 27, 3) := by decide +kernel
theorem dX4_writeNeeding_21 : decode cX4_writeNeeding 21 = .ok (.invokevirtual 264, 3) := by decide +kernel
theorem dX4_writeNeeding_24 : decode cX4_writeNeeding 24 = .ok (.ifCond .le 17, 3) := by decide +kernel
theorem dX4_writeNeeding_27 : decode cX4_writeNeeding 27 = .ok (.aload_n 0, 1) := by decide +kernel
theorem dX4_writeNeeding_28 : decode cX4_writeNeeding 28 = .ok (.iconst 0, 1) := by decide +kernel
theorem dX4_writeNeeding_29 : decode cX4_writeNeeding 29 = .ok (.putfield 119, 3) := by decide +kernel
theorem dX4_writeNeeding_32 : decode cX4_writeNeeding 32 = .ok (.aload_n 0, 1) := by decide +kernel
theorem dX4_writeNeeding_33 : decode cX4_writeNeeding 33 = .ok (.aload_n 1, 1) := by decide +kernel
theorem dX4_writeNeeding_34 : decode cX4_writeNeeding 34 = .ok (.iload_n 3, 1) := by decide +kernel
theorem dX4_writeNeeding_35 : decode cX4_writeNeeding 35 = .ok (.iload 4, 2) := by decide +kernel
theorem dX4_writeNeeding_37 : decode cX4_writeNeeding 37 = .ok (.invokevirtual 134, 3) := by decide +kernel
theorem dX4_writeNeeding_40 : decode cX4_writeNeeding 40 = .ok (.ireturn, 1) := by decide +kernel
theorem dX4_writeNeeding_41 : decode cX4_writeNeeding 41 = .ok (.aload_n 0, 1) := by decide +kernel
theorem dX4_writeNeeding_42 : decode cX4_writeNeeding 42 = .ok (.getfield 119, 3) := by decide +kernel
theorem dX4_writeNeeding_45 : decode cX4_writeNeeding 45 = .ok (.ifCond .ne 37, 3) := by decide +kernel
theorem dX4_writeNeeding_48 : decode cX4_writeNeeding 48 = .ok (.aload_n 0, 1) := by decide +kernel
theorem dX4_writeNeeding_49 : decode cX4_writeNeeding 49 = .ok (.getfield 210, 3) := by decide +kernel
theorem dX4_writeNeeding_52 : decode cX4_writeNeeding 52 = .ok (.ifCond .le 30, 3) := by decide +kernel
theorem dX4_writeNeeding_55 : decode cX4_writeNeeding 55 = .ok (.aload_n 0, 1) := by decide +kernel
theorem dX4_writeNeeding_56 : decode cX4_writeNeeding 56 = .ok (.iconst 1, 1) := by decide +kernel
theorem dX4_writeNeeding_57 : decode cX4_writeNeeding 57 = .ok (.putfield 119, 3) := by decide +kernel
theorem dX4_writeNeeding_60 : decode cX4_writeNeeding 60 = .ok (.aload_n 0, 1) := by decide +kernel
theorem dX4_writeNeeding_61 : decode cX4_writeNeeding 61 = .ok (.aload_n 0, 1) := by decide +kernel
theorem dX4_writeNeeding_62 : decode cX4_writeNeeding 62 = .ok (.getfield 220, 3) := by decide +kernel
theorem dX4_writeNeeding_65 : decode cX4_writeNeeding 65 = .ok (.aload_n 0, 1) := by decide +kernel
theorem dX4_writeNeeding_66 : decode cX4_writeNeeding 66 = .ok (.getfield 210, 3) := by decide +kernel
theorem dX4_writeNeeding_69 : decode cX4_writeNeeding 69 = .ok (.iadd, 1) := by decide +kernel
theorem dX4_writeNeeding_70 : decode cX4_writeNeeding 70 = .ok (.putfield 223, 3) := by decide +kernel
theorem dX4_writeNeeding_73 : decode cX4_writeNeeding 73 = .ok (.aload_n 0, 1) := by decide +kernel
theorem dX4_writeNeeding_74 : decode cX4_writeNeeding 74 = .ok (.iload_n 2, 1) := by decide +kernel
theorem dX4_writeNeeding_75 : decode cX4_writeNeeding 75 = .ok (.iload_n 3, 1) := by decide +kernel
theorem dX4_writeNeeding_76 : decode cX4_writeNeeding 76 = .ok (.iload 4, 2) := by decide +kernel
theorem dX4_writeNeeding_78 : decode cX4_writeNeeding 78 = .ok (.invokevirtual 126, 3) := by decide +kernel
theorem dX4_writeNeeding_81 : decode cX4_writeNeeding 81 = .ok (.ireturn, 1) := by decide +kernel
theorem dX4_writeNeeding_82 : decode cX4_writeNeeding 82 = .ok (.aload_n 0, 1) := by decide +kernel
theorem dX4_writeNeeding_83 : decode cX4_writeNeeding 83 = .ok (.iconst 2, 1) := by decide +kernel
theorem dX4_writeNeeding_84 : decode cX4_writeNeeding 84 = .ok (.putfield 119, 3) := by decide +kernel
theorem dX4_writeNeeding_87 : decode cX4_writeNeeding 87 = .ok (.iconst (-1), 1) := by decide +kernel
theorem dX4_writeNeeding_88 : decode cX4_writeNeeding 88 = .ok (.ireturn, 1) := by decide +kernel
theorem dX4_enqueue_0 : decode cX4_enqueue 0 = .ok (.aload_n 0, 1) := by decide +kernel
theorem dX4_enqueue_1 : decode cX4_enqueue 1 = .ok (.getfield 34, 3) := by decide +kernel
theorem dX4_enqueue_4 : decode cX4_enqueue 4 = .ok (.iload_n 1, 1) := by decide +kernel
theorem dX4_enqueue_5 : decode cX4_enqueue 5 = .ok (.iload_n 2, 1) := by decide +kernel
theorem dX4_enqueue_6 : decode cX4_enqueue 6 = .ok (.iload_n 3, 1) := by decide +kernel
theorem dX4_enqueue_7 : decode cX4_enqueue 7 = .ok (.invokevirtual 297, 3) := by decide +kernel
theorem dX4_enqueue_10 : decode cX4_enqueue 10 = .ok (.ifCond .eq 7, 3) := by decide +kernel
theorem dX4_enqueue_13 : decode cX4_enqueue 13 = .ok (.iconst 3, 1) := by decide +kernel
theorem dX4_enqueue_14 : decode cX4_enqueue 14 = .ok (.goto 4, 3) := by decide +kernel
theorem dX4_enqueue_17 : decode cX4_enqueue 17 = .ok (.iconst (-1), 1) := by decide +kernel
theorem dX4_enqueue_18 : decode cX4_enqueue 18 = .ok (.ireturn, 1) := by decide +kernel
theorem dX4_perform_0 : decode cX4_perform 0 = .ok (.iload_n 2, 1) := by decide +kernel
theorem dX4_perform_1 : decode cX4_perform 1 = .ok (.iconst 4, 1) := by decide +kernel
theorem dX4_perform_2 : decode cX4_perform 2 = .ok (.idiv, 1) := by decide +kernel
theorem dX4_perform_3 : decode cX4_perform 3 = .ok (.istore 4, 2) := by decide +kernel
theorem dX4_perform_5 : decode cX4_perform 5 = .ok (.aload_n 1, 1) := by decide +kernel
theorem dX4_perform_6 : decode cX4_perform 6 = .ok (.iload 4, 2) := by decide +kernel
theorem dX4_perform_8 : decode cX4_perform 8 = .ok (.invokevirtual 83, 3) := by decide +kernel
theorem dX4_perform_11 : decode cX4_perform 11 = .ok (.istore 5, 2) := by decide +kernel
theorem dX4_perform_13 : decode cX4_perform 13 = .ok (.aload_n 0, 1) := by decide +kernel
theorem dX4_perform_14 : decode cX4_perform 14 = .ok (.getfield 27, 3) := by decide +kernel
theorem dX4_perform_17 : decode cX4_perform 17 = .ok (.iload 5, 2) := by decide +kernel
theorem dX4_perform_19 : decode cX4_perform 19 = .ok (.invokevirtual 293, 3) := by decide +kernel
theorem dX4_perform_22 : decode cX4_perform 22 = .ok (.ifCond .eq 18, 3) := by decide +kernel
theorem dX4_perform_25 : decode cX4_perform 25 = .ok (.aload_n 0, 1) := by decide +kernel
theorem dX4_perform_26 : decode cX4_perform 26 = .ok (.getfield 27, 3) := by decide +kernel
theorem dX4_perform_29 : decode cX4_perform 29 = .ok (.iload 5, 2) := by decide +kernel
theorem dX4_perform_31 : decode cX4_perform 31 = .ok (.iload_n 2, 1) := by decide +kernel
theorem dX4_perform_32 : decode cX4_perform 32 = .ok (.iconst 4, 1) := by decide +kernel
theorem dX4_perform_33 : decode cX4_perform 33 = .ok (.irem, 1) := by decide +kernel
theorem dX4_perform_34 : decode cX4_perform 34 = .ok (.iload_n 3, 1) := by decide +kernel
theorem dX4_perform_35 : decode cX4_perform 35 = .ok (.invokevirtual 299, 3) := by decide +kernel
theorem dX4_perform_38 : decode cX4_perform 38 = .ok (.iconst 0, 1) := by decide +kernel
theorem dX4_perform_39 : decode cX4_perform 39 = .ok (.ireturn, 1) := by decide +kernel
theorem dX4_perform_40 : decode cX4_perform 40 = .ok (.aload_n 0, 1) := by decide +kernel
theorem dX4_perform_41 : decode cX4_perform 41 = .ok (.getfield 27, 3) := by decide +kernel
theorem dX4_perform_44 : decode cX4_perform 44 = .ok (.invokevirtual 302, 3) := by decide +kernel
theorem dX4_perform_47 : decode cX4_perform 47 = .ok (.istore 6, 2) := by decide +kernel
theorem dX4_perform_49 : decode cX4_perform 49 = .ok (.iload 6, 2) := by decide +kernel
theorem dX4_perform_51 : decode cX4_perform 51 = .ok (.iconst (-1), 1) := by decide +kernel
theorem dX4_perform_52 : decode cX4_perform 52 = .ok (.if_icmp .ne 5, 3) := by decide +kernel
theorem dX4_perform_55 : decode cX4_perform 55 = .ok (.iconst (-1), 1) := by decide +kernel
theorem dX4_perform_56 : decode cX4_perform 56 = .ok (.ireturn, 1) := by decide +kernel
theorem dX4_perform_57 : decode cX4_perform 57 = .ok (.iconst 0, 1) := by decide +kernel
theorem dX4_perform_58 : decode cX4_perform 58 = .ok (.istore 7, 2) := by decide +kernel
theorem dX4_perform_60 : decode cX4_perform 60 = .ok (.iload 7, 2) := by decide +kernel
theorem dX4_perform_62 : decode cX4_perform 62 = .ok (.iconst 4, 1) := by decide +kernel
theorem dX4_perform_63 : decode cX4_perform 63 = .ok (.if_icmp .ge 32, 3) := by decide +kernel
theorem dX4_perform_66 : decode cX4_perform 66 = .ok (.aload_n 0, 1) := by decide +kernel
theorem dX4_perform_67 : decode cX4_perform 67 = .ok (.getfield 27, 3) := by decide +kernel
theorem dX4_perform_70 : decode cX4_perform 70 = .ok (.iload 6, 2) := by decide +kernel
theorem dX4_perform_72 : decode cX4_perform 72 = .ok (.iload 7, 2) := by decide +kernel
theorem dX4_perform_74 : decode cX4_perform 74 = .ok (.aload_n 0, 1) := by decide +kernel
theorem dX4_perform_75 : decode cX4_perform 75 = .ok (.aload_n 1, 1) := by decide +kernel
theorem dX4_perform_76 : decode cX4_perform 76 = .ok (.iload 4, 2) := by decide +kernel
theorem dX4_perform_78 : decode cX4_perform 78 = .ok (.iconst 4, 1) := by decide +kernel
theorem dX4_perform_79 : decode cX4_perform 79 = .ok (.imul, 1) := by decide +kernel
theorem dX4_perform_80 : decode cX4_perform 80 = .ok (.iload 7, 2) := by decide +kernel
theorem dX4_perform_82 : decode cX4_perform 82 = .ok (.iadd, 1) := by decide +kernel
theorem dX4_perform_83 : decode cX4_perform 83 = .ok (.invokevirtual 144, 3) := by decide +kernel
theorem dX4_perform_86 : decode cX4_perform 86 = .ok (.invokevirtual 299, 3) := by decide +kernel
theorem dX4_perform_89 : decode cX4_perform 89 = .ok (.iinc 7 1, 3) := by decide +kernel
theorem dX4_perform_92 : decode cX4_perform 92 = .ok (.goto (-32), 3) := by decide +kernel
theorem dX4_perform_95 : decode cX4_perform 95 = .ok (.aload_n 0, 1) := by decide +kernel
theorem dX4_perform_96 : decode cX4_perform 96 = .ok (.getfield 27, 3) := by decide +kernel
theorem dX4_perform_99 : decode cX4_perform 99 = .ok (.iload 6, 2) := by decide +kernel
theorem dX4_perform_101 : decode cX4_perform 101 = .ok (.iload_n 2, 1) := by decide +kernel
theorem dX4_perform_102 : decode cX4_perform 102 = .ok (.iconst 4, 1) := by decide +kernel
theorem dX4_perform_103 : decode cX4_perform 103 = .ok (.irem, 1) := by decide +kernel
theorem dX4_perform_104 : decode cX4_perform 104 = .ok (.iload_n 3, 1) := by decide +kernel
theorem dX4_perform_105 : decode cX4_perform 105 = .ok (.invokevirtual 299, 3) := by decide +kernel
theorem dX4_perform_108 : decode cX4_perform 108 = .ok (.aload_n 0, 1) := by decide +kernel
theorem dX4_perform_109 : decode cX4_perform 109 = .ok (.getfield 10, 3) := by decide +kernel
theorem dX4_perform_112 : decode cX4_perform 112 = .ok (.aload_n 1, 1) := by decide +kernel
theorem dX4_perform_113 : decode cX4_perform 113 = .ok (.iload 4, 2) := by decide +kernel
theorem dX4_perform_115 : decode cX4_perform 115 = .ok (.iload 6, 2) := by decide +kernel
theorem dX4_perform_117 : decode cX4_perform 117 = .ok (.invokevirtual 87, 3) := by decide +kernel
theorem dX4_perform_120 : decode cX4_perform 120 = .ok (.aload_n 0, 1) := by decide +kernel
theorem dX4_perform_121 : decode cX4_perform 121 = .ok (.getfield 27, 3) := by decide +kernel
theorem dX4_perform_124 : decode cX4_perform 124 = .ok (.invokevirtual 264, 3) := by decide +kernel
theorem dX4_perform_127 : decode cX4_perform 127 = .ok (.aload_n 0, 1) := by decide +kernel
theorem dX4_perform_128 : decode cX4_perform 128 = .ok (.getfield 27, 3) := by decide +kernel
theorem dX4_perform_131 : decode cX4_perform 131 = .ok (.getfield 215, 3) := by decide +kernel
theorem dX4_perform_134 : decode cX4_perform 134 = .ok (.if_icmp .ne 16, 3) := by decide +kernel
theorem dX4_perform_137 : decode cX4_perform 137 = .ok (.aload_n 0, 1) := by decide +kernel
theorem dX4_perform_138 : decode cX4_perform 138 = .ok (.getfield 27, 3) := by decide +kernel
theorem dX4_perform_141 : decode cX4_perform 141 = .ok (.dup, 1) := by decide +kernel
theorem dX4_perform_142 : decode cX4_perform 142 = .ok (.getfield 268, 3) := by decide +kernel
theorem dX4_perform_145 : decode cX4_perform 145 = .ok (.iconst 1, 1) := by decide +kernel
theorem dX4_perform_146 : decode cX4_perform 146 = .ok (.iadd, 1) := by decide +kernel
theorem dX4_perform_147 : decode cX4_perform 147 = .ok (.putfield 268, 3) := by decide +kernel
theorem dX4_perform_150 : decode cX4_perform 150 = .ok (.iload 5, 2) := by decide +kernel
theorem dX4_perform_152 : decode cX4_perform 152 = .ok (.iconst (-1), 1) := by decide +kernel
theorem dX4_perform_153 : decode cX4_perform 153 = .ok (.if_icmp .ne 7, 3) := by decide +kernel
theorem dX4_perform_156 : decode cX4_perform 156 = .ok (.iconst 1, 1) := by decide +kernel
theorem dX4_perform_157 : decode cX4_perform 157 = .ok (.goto 4, 3) := by decide +kernel
theorem dX4_perform_160 : decode cX4_perform 160 = .ok (.iconst 2, 1) := by decide +kernel
theorem dX4_perform_161 : decode cX4_perform 161 = .ok (.ireturn, 1) := by decide +kernel
theorem dX4_wordOf_0 : decode cX4_wordOf 0 = .ok (.aload_n 1, 1) := by decide +kernel
theorem dX4_wordOf_1 : decode cX4_wordOf 1 = .ok (.iload_n 2, 1) := by decide +kernel
theorem dX4_wordOf_2 : decode cX4_wordOf 2 = .ok (.iconst 4, 1) := by decide +kernel
theorem dX4_wordOf_3 : decode cX4_wordOf 3 = .ok (.idiv, 1) := by decide +kernel
theorem dX4_wordOf_4 : decode cX4_wordOf 4 = .ok (.invokevirtual 83, 3) := by decide +kernel
theorem dX4_wordOf_7 : decode cX4_wordOf 7 = .ok (.istore_n 3, 1) := by decide +kernel
theorem dX4_wordOf_8 : decode cX4_wordOf 8 = .ok (.iload_n 3, 1) := by decide +kernel
theorem dX4_wordOf_9 : decode cX4_wordOf 9 = .ok (.iconst (-1), 1) := by decide +kernel
theorem dX4_wordOf_10 : decode cX4_wordOf 10 = .ok (.if_icmp .eq 15, 3) := by decide +kernel
theorem dX4_wordOf_13 : decode cX4_wordOf 13 = .ok (.aload_n 0, 1) := by decide +kernel
theorem dX4_wordOf_14 : decode cX4_wordOf 14 = .ok (.getfield 27, 3) := by decide +kernel
theorem dX4_wordOf_17 : decode cX4_wordOf 17 = .ok (.iload_n 3, 1) := by decide +kernel
theorem dX4_wordOf_18 : decode cX4_wordOf 18 = .ok (.iload_n 2, 1) := by decide +kernel
theorem dX4_wordOf_19 : decode cX4_wordOf 19 = .ok (.iconst 4, 1) := by decide +kernel
theorem dX4_wordOf_20 : decode cX4_wordOf 20 = .ok (.irem, 1) := by decide +kernel
theorem dX4_wordOf_21 : decode cX4_wordOf 21 = .ok (.invokevirtual 305, 3) := by decide +kernel
theorem dX4_wordOf_24 : decode cX4_wordOf 24 = .ok (.ireturn, 1) := by decide +kernel
theorem dX4_wordOf_25 : decode cX4_wordOf 25 = .ok (.aload_n 1, 1) := by decide +kernel
theorem dX4_wordOf_26 : decode cX4_wordOf 26 = .ok (.getfield 77, 3) := by decide +kernel
theorem dX4_wordOf_29 : decode cX4_wordOf 29 = .ok (.ifCond .eq 25, 3) := by decide +kernel
theorem dX4_wordOf_32 : decode cX4_wordOf 32 = .ok (.iload_n 2, 1) := by decide +kernel
theorem dX4_wordOf_33 : decode cX4_wordOf 33 = .ok (.ifCond .lt 21, 3) := by decide +kernel
theorem dX4_wordOf_36 : decode cX4_wordOf 36 = .ok (.iload_n 2, 1) := by decide +kernel
theorem dX4_wordOf_37 : decode cX4_wordOf 37 = .ok (.aload_n 0, 1) := by decide +kernel
theorem dX4_wordOf_38 : decode cX4_wordOf 38 = .ok (.getfield 38, 3) := by decide +kernel
theorem dX4_wordOf_41 : decode cX4_wordOf 41 = .ok (.arraylength, 1) := by decide +kernel
theorem dX4_wordOf_42 : decode cX4_wordOf 42 = .ok (.if_icmp .ge 12, 3) := by decide +kernel
theorem dX4_wordOf_45 : decode cX4_wordOf 45 = .ok (.aload_n 0, 1) := by decide +kernel
theorem dX4_wordOf_46 : decode cX4_wordOf 46 = .ok (.getfield 38, 3) := by decide +kernel
theorem dX4_wordOf_49 : decode cX4_wordOf 49 = .ok (.iload_n 2, 1) := by decide +kernel
theorem dX4_wordOf_50 : decode cX4_wordOf 50 = .ok (.iaload, 1) := by decide +kernel
theorem dX4_wordOf_51 : decode cX4_wordOf 51 = .ok (.goto 4, 3) := by decide +kernel
theorem dX4_wordOf_54 : decode cX4_wordOf 54 = .ok (.iconst 0, 1) := by decide +kernel
theorem dX4_wordOf_55 : decode cX4_wordOf 55 = .ok (.ireturn, 1) := by decide +kernel
theorem dX4_writeHead_0 : decode cX4_writeHead 0 = .ok (.aload_n 0, 1) := by decide +kernel
theorem dX4_writeHead_1 : decode cX4_writeHead 1 = .ok (.getfield 16, 3) := by decide +kernel
theorem dX4_writeHead_4 : decode cX4_writeHead 4 = .ok (.aload_n 0, 1) := by decide +kernel
theorem dX4_writeHead_5 : decode cX4_writeHead 5 = .ok (.getfield 10, 3) := by decide +kernel
theorem dX4_writeHead_8 : decode cX4_writeHead 8 = .ok (.invokevirtual 192, 3) := by decide +kernel
theorem dX4_writeHead_11 : decode cX4_writeHead 11 = .ok (.aload_n 0, 1) := by decide +kernel
theorem dX4_writeHead_12 : decode cX4_writeHead 12 = .ok (.dup, 1) := by decide +kernel
theorem dX4_writeHead_13 : decode cX4_writeHead 13 = .ok (.getfield 187, 3) := by decide +kernel
theorem dX4_writeHead_16 : decode cX4_writeHead 16 = .ok (.iconst 1, 1) := by decide +kernel
theorem dX4_writeHead_17 : decode cX4_writeHead 17 = .ok (.iadd, 1) := by decide +kernel
theorem dX4_writeHead_18 : decode cX4_writeHead 18 = .ok (.putfield 187, 3) := by decide +kernel
theorem dX4_writeHead_21 : decode cX4_writeHead 21 = .ok (.return_, 1) := by decide +kernel
theorem dX4_serveQueue_0 : decode cX4_serveQueue 0 = .ok (.aload_n 0, 1) := by decide +kernel
theorem dX4_serveQueue_1 : decode cX4_serveQueue 1 = .ok (.getfield 119, 3) := by decide +kernel
theorem dX4_serveQueue_4 : decode cX4_serveQueue 4 = .ok (.iconst 1, 1) := by decide +kernel
theorem dX4_serveQueue_5 : decode cX4_serveQueue 5 = .ok (.if_icmp .eq 4, 3) := by decide +kernel
theorem dX4_serveQueue_8 : decode cX4_serveQueue 8 = .ok (.return_, 1) := by decide +kernel
theorem dX4_serveQueue_9 : decode cX4_serveQueue 9 = .ok (.iconst 0, 1) := by decide +kernel
theorem dX4_serveQueue_10 : decode cX4_serveQueue 10 = .ok (.istore_n 1, 1) := by decide +kernel
theorem dX4_serveQueue_11 : decode cX4_serveQueue 11 = .ok (.iload_n 1, 1) := by decide +kernel
theorem dX4_serveQueue_12 : decode cX4_serveQueue 12 = .ok (.bipush 8, 2) := by decide +kernel
theorem dX4_serveQueue_14 : decode cX4_serveQueue 14 = .ok (.if_icmp .ge 33, 3) := by decide +kernel
theorem dX4_serveQueue_17 : decode cX4_serveQueue 17 = .ok (.aload_n 0, 1) := by decide +kernel
theorem dX4_serveQueue_18 : decode cX4_serveQueue 18 = .ok (.getfield 34, 3) := by decide +kernel
theorem dX4_serveQueue_21 : decode cX4_serveQueue 21 = .ok (.getfield 267, 3) := by decide +kernel
theorem dX4_serveQueue_24 : decode cX4_serveQueue 24 = .ok (.ifCond .le 23, 3) := by decide +kernel
theorem dX4_serveQueue_27 : decode cX4_serveQueue 27 = .ok (.aload_n 0, 1) := by decide +kernel
theorem dX4_serveQueue_28 : decode cX4_serveQueue 28 = .ok (.invokevirtual 308, 3) := by decide +kernel
theorem dX4_serveQueue_31 : decode cX4_serveQueue 31 = .ok (.ifCond .eq 16, 3) := by decide +kernel
theorem dX4_serveQueue_34 : decode cX4_serveQueue 34 = .ok (.aload_n 0, 1) := by decide +kernel
theorem dX4_serveQueue_35 : decode cX4_serveQueue 35 = .ok (.getfield 34, 3) := by decide +kernel
theorem dX4_serveQueue_38 : decode cX4_serveQueue 38 = .ok (.invokevirtual 311, 3) := by decide +kernel
theorem dX4_serveQueue_41 : decode cX4_serveQueue 41 = .ok (.iinc 1 1, 3) := by decide +kernel
theorem dX4_serveQueue_44 : decode cX4_serveQueue 44 = .ok (.goto (-33), 3) := by decide +kernel
theorem dX4_serveQueue_47 : decode cX4_serveQueue 47 = .ok (.aload_n 0, 1) := by decide +kernel
theorem dX4_serveQueue_48 : decode cX4_serveQueue 48 = .ok (.getfield 34, 3) := by decide +kernel
theorem dX4_serveQueue_51 : decode cX4_serveQueue 51 = .ok (.getfield 267, 3) := by decide +kernel
theorem dX4_serveQueue_54 : decode cX4_serveQueue 54 = .ok (.ifCond .ne 8, 3) := by decide +kernel
theorem dX4_serveQueue_57 : decode cX4_serveQueue 57 = .ok (.aload_n 0, 1) := by decide +kernel
theorem dX4_serveQueue_58 : decode cX4_serveQueue 58 = .ok (.iconst 0, 1) := by decide +kernel
theorem dX4_serveQueue_59 : decode cX4_serveQueue 59 = .ok (.putfield 119, 3) := by decide +kernel
theorem dX4_serveQueue_62 : decode cX4_serveQueue 62 = .ok (.return_, 1) := by decide +kernel
theorem dX4_serveFirst_0 : decode cX4_serveFirst 0 = .ok (.aload_n 0, 1) := by decide +kernel
theorem dX4_serveFirst_1 : decode cX4_serveFirst 1 = .ok (.getfield 10, 3) := by decide +kernel
theorem dX4_serveFirst_4 : decode cX4_serveFirst 4 = .ok (.aload_n 0, 1) := by decide +kernel
theorem dX4_serveFirst_5 : decode cX4_serveFirst 5 = .ok (.getfield 34, 3) := by decide +kernel
theorem dX4_serveFirst_8 : decode cX4_serveFirst 8 = .ok (.iconst 0, 1) := by decide +kernel
theorem dX4_serveFirst_9 : decode cX4_serveFirst 9 = .ok (.invokevirtual 314, 3) := by decide +kernel
theorem dX4_serveFirst_12 : decode cX4_serveFirst 12 = .ok (.invokevirtual 276, 3) := by decide +kernel
theorem dX4_serveFirst_15 : decode cX4_serveFirst 15 = .ok (.astore_n 1, 1) := by decide +kernel
theorem dX4_serveFirst_16 : decode cX4_serveFirst 16 = .ok (.aload_n 0, 1) := by decide +kernel
theorem dX4_serveFirst_17 : decode cX4_serveFirst 17 = .ok (.getfield 34, 3) := by decide +kernel
theorem dX4_serveFirst_20 : decode cX4_serveFirst 20 = .ok (.iconst 0, 1) := by decide +kernel
theorem dX4_serveFirst_21 : decode cX4_serveFirst 21 = .ok (.invokevirtual 317, 3) := by decide +kernel
theorem dX4_serveFirst_24 : decode cX4_serveFirst 24 = .ok (.istore_n 2, 1) := by decide +kernel
theorem dX4_serveFirst_25 : decode cX4_serveFirst 25 = .ok (.aload_n 1, 1) := by decide +kernel
theorem dX4_serveFirst_26 : decode cX4_serveFirst 26 = .ok (.ifnull 14, 3) := by decide +kernel
theorem dX4_serveFirst_29 : decode cX4_serveFirst 29 = .ok (.aload_n 0, 1) := by decide +kernel
theorem dX4_serveFirst_30 : decode cX4_serveFirst 30 = .ok (.aload_n 1, 1) := by decide +kernel
theorem dX4_serveFirst_31 : decode cX4_serveFirst 31 = .ok (.iload_n 2, 1) := by decide +kernel
theorem dX4_serveFirst_32 : decode cX4_serveFirst 32 = .ok (.iconst 4, 1) := by decide +kernel
theorem dX4_serveFirst_33 : decode cX4_serveFirst 33 = .ok (.idiv, 1) := by decide +kernel
theorem dX4_serveFirst_34 : decode cX4_serveFirst 34 = .ok (.invokevirtual 137, 3) := by decide +kernel
theorem dX4_serveFirst_37 : decode cX4_serveFirst 37 = .ok (.ifCond .eq 15, 3) := by decide +kernel
theorem dX4_serveFirst_40 : decode cX4_serveFirst 40 = .ok (.aload_n 0, 1) := by decide +kernel
theorem dX4_serveFirst_41 : decode cX4_serveFirst 41 = .ok (.dup, 1) := by decide +kernel
theorem dX4_serveFirst_42 : decode cX4_serveFirst 42 = .ok (.getfield 94, 3) := by decide +kernel
theorem dX4_serveFirst_45 : decode cX4_serveFirst 45 = .ok (.iconst 1, 1) := by decide +kernel
theorem dX4_serveFirst_46 : decode cX4_serveFirst 46 = .ok (.iadd, 1) := by decide +kernel
theorem dX4_serveFirst_47 : decode cX4_serveFirst 47 = .ok (.putfield 94, 3) := by decide +kernel
theorem dX4_serveFirst_50 : decode cX4_serveFirst 50 = .ok (.iconst 1, 1) := by decide +kernel
theorem dX4_serveFirst_51 : decode cX4_serveFirst 51 = .ok (.ireturn, 1) := by decide +kernel
theorem dX4_serveFirst_52 : decode cX4_serveFirst 52 = .ok (.aload_n 0, 1) := by decide +kernel
theorem dX4_serveFirst_53 : decode cX4_serveFirst 53 = .ok (.aload_n 1, 1) := by decide +kernel
theorem dX4_serveFirst_54 : decode cX4_serveFirst 54 = .ok (.iload_n 2, 1) := by decide +kernel
theorem dX4_serveFirst_55 : decode cX4_serveFirst 55 = .ok (.iconst 4, 1) := by decide +kernel
theorem dX4_serveFirst_56 : decode cX4_serveFirst 56 = .ok (.idiv, 1) := by decide +kernel
theorem dX4_serveFirst_57 : decode cX4_serveFirst 57 = .ok (.invokevirtual 130, 3) := by decide +kernel
theorem dX4_serveFirst_60 : decode cX4_serveFirst 60 = .ok (.ifCond .eq 15, 3) := by decide +kernel
theorem dX4_serveFirst_63 : decode cX4_serveFirst 63 = .ok (.aload_n 0, 1) := by decide +kernel
theorem dX4_serveFirst_64 : decode cX4_serveFirst 64 = .ok (.getfield 27, 3) := by decide +kernel
theorem dX4_serveFirst_67 : decode cX4_serveFirst 67 = .ok (.invokevirtual 264, 3) := by decide +kernel
theorem dX4_serveFirst_70 : decode cX4_serveFirst 70 = .ok (.ifCond .ne 5, 3) := by decide +kernel
theorem dX4_serveFirst_73 : decode cX4_serveFirst 73 = .ok (.iconst 0, 1) := by decide +kernel
theorem dX4_serveFirst_74 : decode cX4_serveFirst 74 = .ok (.ireturn, 1) := by decide +kernel
theorem dX4_serveFirst_75 : decode cX4_serveFirst 75 = .ok (.aload_n 0, 1) := by decide +kernel
theorem dX4_serveFirst_76 : decode cX4_serveFirst 76 = .ok (.aload_n 1, 1) := by decide +kernel
theorem dX4_serveFirst_77 : decode cX4_serveFirst 77 = .ok (.iload_n 2, 1) := by decide +kernel
theorem dX4_serveFirst_78 : decode cX4_serveFirst 78 = .ok (.aload_n 0, 1) := by decide +kernel
theorem dX4_serveFirst_79 : decode cX4_serveFirst 79 = .ok (.getfield 34, 3) := by decide +kernel
theorem dX4_serveFirst_82 : decode cX4_serveFirst 82 = .ok (.iconst 0, 1) := by decide +kernel
theorem dX4_serveFirst_83 : decode cX4_serveFirst 83 = .ok (.invokevirtual 319, 3) := by decide +kernel
theorem dX4_serveFirst_86 : decode cX4_serveFirst 86 = .ok (.invokevirtual 134, 3) := by decide +kernel
theorem dX4_serveFirst_89 : decode cX4_serveFirst 89 = .ok (.pop, 1) := by decide +kernel
theorem dX4_serveFirst_90 : decode cX4_serveFirst 90 = .ok (.iconst 1, 1) := by decide +kernel
theorem dX4_serveFirst_91 : decode cX4_serveFirst 91 = .ok (.ireturn, 1) := by decide +kernel
theorem dX4_countShared_0 : decode cX4_countShared 0 = .ok (.iconst 0, 1) := by decide +kernel
theorem dX4_countShared_1 : decode cX4_countShared 1 = .ok (.istore_n 2, 1) := by decide +kernel
theorem dX4_countShared_2 : decode cX4_countShared 2 = .ok (.iconst 0, 1) := by decide +kernel
theorem dX4_countShared_3 : decode cX4_countShared 3 = .ok (.istore_n 3, 1) := by decide +kernel
theorem dX4_countShared_4 : decode cX4_countShared 4 = .ok (.iload_n 3, 1) := by decide +kernel
theorem dX4_countShared_5 : decode cX4_countShared 5 = .ok (.bipush 40, 2) := by decide +kernel
theorem dX4_countShared_7 : decode cX4_countShared 7 = .ok (.if_icmp .ge 37, 3) := by decide +kernel
theorem dX4_countShared_10 : decode cX4_countShared 10 = .ok (.aload_n 1, 1) := by decide +kernel
theorem dX4_countShared_11 : decode cX4_countShared 11 = .ok (.iload_n 3, 1) := by decide +kernel
theorem dX4_countShared_12 : decode cX4_countShared 12 = .ok (.invokevirtual 83, 3) := by decide +kernel
theorem dX4_countShared_15 : decode cX4_countShared 15 = .ok (.istore 4, 2) := by decide +kernel
theorem dX4_countShared_17 : decode cX4_countShared 17 = .ok (.iload 4, 2) := by decide +kernel
theorem dX4_countShared_19 : decode cX4_countShared 19 = .ok (.iconst (-1), 1) := by decide +kernel
theorem dX4_countShared_20 : decode cX4_countShared 20 = .ok (.if_icmp .eq 18, 3) := by decide +kernel
theorem dX4_countShared_23 : decode cX4_countShared 23 = .ok (.aload_n 0, 1) := by decide +kernel
theorem dX4_countShared_24 : decode cX4_countShared 24 = .ok (.getfield 27, 3) := by decide +kernel
theorem dX4_countShared_27 : decode cX4_countShared 27 = .ok (.iload 4, 2) := by decide +kernel
theorem dX4_countShared_29 : decode cX4_countShared 29 = .ok (.invokevirtual 293, 3) := by decide +kernel
theorem dX4_countShared_32 : decode cX4_countShared 32 = .ok (.ifCond .ne 6, 3) := by decide +kernel
theorem dX4_countShared_35 : decode cX4_countShared 35 = .ok (.iinc 2 1, 3) := by decide +kernel
theorem dX4_countShared_38 : decode cX4_countShared 38 = .ok (.iinc 3 1, 3) := by decide +kernel
theorem dX4_countShared_41 : decode cX4_countShared 41 = .ok (.goto (-37), 3) := by decide +kernel
theorem dX4_countShared_44 : decode cX4_countShared 44 = .ok (.iload_n 2, 1) := by decide +kernel
theorem dX4_countShared_45 : decode cX4_countShared 45 = .ok (.ireturn, 1) := by decide +kernel
theorem dX4_sortOf_0 : decode cX4_sortOf 0 = .ok (.aload_n 1, 1) := by decide +kernel
theorem dX4_sortOf_1 : decode cX4_sortOf 1 = .ok (.iload_n 3, 1) := by decide +kernel
theorem dX4_sortOf_2 : decode cX4_sortOf 2 = .ok (.invokevirtual 83, 3) := by decide +kernel
theorem dX4_sortOf_5 : decode cX4_sortOf 5 = .ok (.istore 4, 2) := by decide +kernel
theorem dX4_sortOf_7 : decode cX4_sortOf 7 = .ok (.aload_n 2, 1) := by decide +kernel
theorem dX4_sortOf_8 : decode cX4_sortOf 8 = .ok (.iload_n 3, 1) := by decide +kernel
theorem dX4_sortOf_9 : decode cX4_sortOf 9 = .ok (.invokevirtual 83, 3) := by decide +kernel
theorem dX4_sortOf_12 : decode cX4_sortOf 12 = .ok (.istore 5, 2) := by decide +kernel
theorem dX4_sortOf_14 : decode cX4_sortOf 14 = .ok (.iload 4, 2) := by decide +kernel
theorem dX4_sortOf_16 : decode cX4_sortOf 16 = .ok (.iconst (-1), 1) := by decide +kernel
theorem dX4_sortOf_17 : decode cX4_sortOf 17 = .ok (.if_icmp .ne 15, 3) := by decide +kernel
theorem dX4_sortOf_20 : decode cX4_sortOf 20 = .ok (.iload 5, 2) := by decide +kernel
theorem dX4_sortOf_22 : decode cX4_sortOf 22 = .ok (.iconst (-1), 1) := by decide +kernel
theorem dX4_sortOf_23 : decode cX4_sortOf 23 = .ok (.if_icmp .ne 7, 3) := by decide +kernel
theorem dX4_sortOf_26 : decode cX4_sortOf 26 = .ok (.iconst (-1), 1) := by decide +kernel
theorem dX4_sortOf_27 : decode cX4_sortOf 27 = .ok (.goto 4, 3) := by decide +kernel
theorem dX4_sortOf_30 : decode cX4_sortOf 30 = .ok (.iconst 3, 1) := by decide +kernel
theorem dX4_sortOf_31 : decode cX4_sortOf 31 = .ok (.ireturn, 1) := by decide +kernel
theorem dX4_sortOf_32 : decode cX4_sortOf 32 = .ok (.iload 5, 2) := by decide +kernel
theorem dX4_sortOf_34 : decode cX4_sortOf 34 = .ok (.iconst (-1), 1) := by decide +kernel
theorem dX4_sortOf_35 : decode cX4_sortOf 35 = .ok (.if_icmp .ne 5, 3) := by decide +kernel
theorem dX4_sortOf_38 : decode cX4_sortOf 38 = .ok (.iconst 2, 1) := by decide +kernel
theorem dX4_sortOf_39 : decode cX4_sortOf 39 = .ok (.ireturn, 1) := by decide +kernel
theorem dX4_sortOf_40 : decode cX4_sortOf 40 = .ok (.iload 4, 2) := by decide +kernel
theorem dX4_sortOf_42 : decode cX4_sortOf 42 = .ok (.iload 5, 2) := by decide +kernel
theorem dX4_sortOf_44 : decode cX4_sortOf 44 = .ok (.if_icmp .ne 7, 3) := by decide +kernel
theorem dX4_sortOf_47 : decode cX4_sortOf 47 = .ok (.iconst 0, 1) := by decide +kernel
theorem dX4_sortOf_48 : decode cX4_sortOf 48 = .ok (.goto 4, 3) := by decide +kernel
theorem dX4_sortOf_51 : decode cX4_sortOf 51 = .ok (.iconst 1, 1) := by decide +kernel
theorem dX4_sortOf_52 : decode cX4_sortOf 52 = .ok (.ireturn, 1) := by decide +kernel
theorem dX4_countSort_0 : decode cX4_countSort 0 = .ok (.iconst 0, 1) := by decide +kernel
theorem dX4_countSort_1 : decode cX4_countSort 1 = .ok (.istore 4, 2) := by decide +kernel
theorem dX4_countSort_3 : decode cX4_countSort 3 = .ok (.iconst 0, 1) := by decide +kernel
theorem dX4_countSort_4 : decode cX4_countSort 4 = .ok (.istore 5, 2) := by decide +kernel
theorem dX4_countSort_6 : decode cX4_countSort 6 = .ok (.iload 5, 2) := by decide +kernel
theorem dX4_countSort_8 : decode cX4_countSort 8 = .ok (.bipush 40, 2) := by decide +kernel
theorem dX4_countSort_10 : decode cX4_countSort 10 = .ok (.if_icmp .ge 24, 3) := by decide +kernel
theorem dX4_countSort_13 : decode cX4_countSort 13 = .ok (.aload_n 0, 1) := by decide +kernel
theorem dX4_countSort_14 : decode cX4_countSort 14 = .ok (.aload_n 1, 1) := by decide +kernel
theorem dX4_countSort_15 : decode cX4_countSort 15 = .ok (.aload_n 2, 1) := by decide +kernel
theorem dX4_countSort_16 : decode cX4_countSort 16 = .ok (.iload 5, 2) := by decide +kernel
theorem dX4_countSort_18 : decode cX4_countSort 18 = .ok (.invokevirtual 322, 3) := by decide +kernel
theorem dX4_countSort_21 : decode cX4_countSort 21 = .ok (.iload_n 3, 1) := by decide +kernel
theorem dX4_countSort_22 : decode cX4_countSort 22 = .ok (.if_icmp .ne 6, 3) := by decide +kernel
theorem dX4_countSort_25 : decode cX4_countSort 25 = .ok (.iinc 4 1, 3) := by decide +kernel
theorem dX4_countSort_28 : decode cX4_countSort 28 = .ok (.iinc 5 1, 3) := by decide +kernel
theorem dX4_countSort_31 : decode cX4_countSort 31 = .ok (.goto (-25), 3) := by decide +kernel
theorem dX4_countSort_34 : decode cX4_countSort 34 = .ok (.iload 4, 2) := by decide +kernel
theorem dX4_countSort_36 : decode cX4_countSort 36 = .ok (.ireturn, 1) := by decide +kernel
theorem dX4_countRuns_0 : decode cX4_countRuns 0 = .ok (.iconst 0, 1) := by decide +kernel
theorem dX4_countRuns_1 : decode cX4_countRuns 1 = .ok (.istore_n 3, 1) := by decide +kernel
theorem dX4_countRuns_2 : decode cX4_countRuns 2 = .ok (.iconst (-1), 1) := by decide +kernel
theorem dX4_countRuns_3 : decode cX4_countRuns 3 = .ok (.istore 4, 2) := by decide +kernel
theorem dX4_countRuns_5 : decode cX4_countRuns 5 = .ok (.iconst 0, 1) := by decide +kernel
theorem dX4_countRuns_6 : decode cX4_countRuns 6 = .ok (.istore 5, 2) := by decide +kernel
theorem dX4_countRuns_8 : decode cX4_countRuns 8 = .ok (.iload 5, 2) := by decide +kernel
theorem dX4_countRuns_10 : decode cX4_countRuns 10 = .ok (.bipush 40, 2) := by decide +kernel
theorem dX4_countRuns_12 : decode cX4_countRuns 12 = .ok (.if_icmp .ge 39, 3) := by decide +kernel
theorem dX4_countRuns_15 : decode cX4_countRuns 15 = .ok (.aload_n 0, 1) := by decide +kernel
theorem dX4_countRuns_16 : decode cX4_countRuns 16 = .ok (.aload_n 1, 1) := by decide +kernel
theorem dX4_countRuns_17 : decode cX4_countRuns 17 = .ok (.aload_n 2, 1) := by decide +kernel
theorem dX4_countRuns_18 : decode cX4_countRuns 18 = .ok (.iload 5, 2) := by decide +kernel
theorem dX4_countRuns_20 : decode cX4_countRuns 20 = .ok (.invokevirtual 322, 3) := by decide +kernel
theorem dX4_countRuns_23 : decode cX4_countRuns 23 = .ok (.istore 6, 2) := by decide +kernel
theorem dX4_countRuns_25 : decode cX4_countRuns 25 = .ok (.iload 6, 2) := by decide +kernel
theorem dX4_countRuns_27 : decode cX4_countRuns 27 = .ok (.iconst (-1), 1) := by decide +kernel
theorem dX4_countRuns_28 : decode cX4_countRuns 28 = .ok (.if_icmp .eq 13, 3) := by decide +kernel
theorem dX4_countRuns_31 : decode cX4_countRuns 31 = .ok (.iload 6, 2) := by decide +kernel
theorem dX4_countRuns_33 : decode cX4_countRuns 33 = .ok (.iload 4, 2) := by decide +kernel
theorem dX4_countRuns_35 : decode cX4_countRuns 35 = .ok (.if_icmp .eq 6, 3) := by decide +kernel
theorem dX4_countRuns_38 : decode cX4_countRuns 38 = .ok (.iinc 3 1, 3) := by decide +kernel
theorem dX4_countRuns_41 : decode cX4_countRuns 41 = .ok (.iload 6, 2) := by decide +kernel
theorem dX4_countRuns_43 : decode cX4_countRuns 43 = .ok (.istore 4, 2) := by decide +kernel
theorem dX4_countRuns_45 : decode cX4_countRuns 45 = .ok (.iinc 5 1, 3) := by decide +kernel
theorem dX4_countRuns_48 : decode cX4_countRuns 48 = .ok (.goto (-40), 3) := by decide +kernel
theorem dX4_countRuns_51 : decode cX4_countRuns 51 = .ok (.iload_n 3, 1) := by decide +kernel
theorem dX4_countRuns_52 : decode cX4_countRuns 52 = .ok (.ireturn, 1) := by decide +kernel
theorem dX5_init_0 : decode cX5_init 0 = .ok (.aload_n 0, 1) := by decide +kernel
theorem dX5_init_1 : decode cX5_init 1 = .ok (.invokespecial 1, 3) := by decide +kernel
theorem dX5_init_4 : decode cX5_init 4 = .ok (.aload_n 0, 1) := by decide +kernel
theorem dX5_init_5 : decode cX5_init 5 = .ok (.bipush 48, 2) := by decide +kernel
theorem dX5_init_7 : decode cX5_init 7 = .ok (.newarray .boolean, 2) := by decide +kernel
theorem dX5_init_9 : decode cX5_init 9 = .ok (.putfield 7, 3) := by decide +kernel
theorem dX5_init_12 : decode cX5_init 12 = .ok (.aload_n 0, 1) := by decide +kernel
theorem dX5_init_13 : decode cX5_init 13 = .ok (.bipush 48, 2) := by decide +kernel
theorem dX5_init_15 : decode cX5_init 15 = .ok (.newarray .int, 2) := by decide +kernel
theorem dX5_init_17 : decode cX5_init 17 = .ok (.putfield 13, 3) := by decide +kernel
theorem dX5_init_20 : decode cX5_init 20 = .ok (.aload_n 0, 1) := by decide +kernel
theorem dX5_init_21 : decode cX5_init 21 = .ok (.bipush 48, 2) := by decide +kernel
theorem dX5_init_23 : decode cX5_init 23 = .ok (.newarray .boolean, 2) := by decide +kernel
theorem dX5_init_25 : decode cX5_init 25 = .ok (.putfield 17, 3) := by decide +kernel
theorem dX5_init_28 : decode cX5_init 28 = .ok (.aload_n 0, 1) := by decide +kernel
theorem dX5_init_29 : decode cX5_init 29 = .ok (.bipush 48, 2) := by decide +kernel
theorem dX5_init_31 : decode cX5_init 31 = .ok (.newarray .int, 2) := by decide +kernel
theorem dX5_init_33 : decode cX5_init 33 = .ok (.putfield 20, 3) := by decide +kernel
theorem dX5_init_36 : decode cX5_init 36 = .ok (.aload_n 0, 1) := by decide +kernel
theorem dX5_init_37 : decode cX5_init 37 = .ok (.bipush 48, 2) := by decide +kernel
theorem dX5_init_39 : decode cX5_init 39 = .ok (.newarray .int, 2) := by decide +kernel
theorem dX5_init_41 : decode cX5_init 41 = .ok (.putfield 23, 3) := by decide +kernel
theorem dX5_init_44 : decode cX5_init 44 = .ok (.aload_n 0, 1) := by decide +kernel
theorem dX5_init_45 : decode cX5_init 45 = .ok (.sipush 1920, 3) := by decide +kernel
theorem dX5_init_48 : decode cX5_init 48 = .ok (.newarray .int, 2) := by decide +kernel
theorem dX5_init_50 : decode cX5_init 50 = .ok (.putfield 26, 3) := by decide +kernel
theorem dX5_init_53 : decode cX5_init 53 = .ok (.aload_n 0, 1) := by decide +kernel
theorem dX5_init_54 : decode cX5_init 54 = .ok (.iconst 3, 1) := by decide +kernel
theorem dX5_init_55 : decode cX5_init 55 = .ok (.newarray .int, 2) := by decide +kernel
theorem dX5_init_57 : decode cX5_init 57 = .ok (.putfield 29, 3) := by decide +kernel
theorem dX5_init_60 : decode cX5_init 60 = .ok (.aload_n 0, 1) := by decide +kernel
theorem dX5_init_61 : decode cX5_init 61 = .ok (.bipush 8, 2) := by decide +kernel
theorem dX5_init_63 : decode cX5_init 63 = .ok (.putfield 32, 3) := by decide +kernel
theorem dX5_init_66 : decode cX5_init 66 = .ok (.aload_n 0, 1) := by decide +kernel
theorem dX5_init_67 : decode cX5_init 67 = .ok (.sipush 384, 3) := by decide +kernel
theorem dX5_init_70 : decode cX5_init 70 = .ok (.newarray .int, 2) := by decide +kernel
theorem dX5_init_72 : decode cX5_init 72 = .ok (.putfield 36, 3) := by decide +kernel
theorem dX5_init_75 : decode cX5_init 75 = .ok (.aload_n 0, 1) := by decide +kernel
theorem dX5_init_76 : decode cX5_init 76 = .ok (.sipush 160, 3) := by decide +kernel
theorem dX5_init_79 : decode cX5_init 79 = .ok (.newarray .int, 2) := by decide +kernel
theorem dX5_init_81 : decode cX5_init 81 = .ok (.putfield 39, 3) := by decide +kernel
theorem dX5_init_84 : decode cX5_init 84 = .ok (.aload_n 0, 1) := by decide +kernel
theorem dX5_init_85 : decode cX5_init 85 = .ok (.bipush 8, 2) := by decide +kernel
theorem dX5_init_87 : decode cX5_init 87 = .ok (.newarray .int, 2) := by decide +kernel
theorem dX5_init_89 : decode cX5_init 89 = .ok (.putfield 42, 3) := by decide +kernel
theorem dX5_init_92 : decode cX5_init 92 = .ok (.aload_n 0, 1) := by decide +kernel
theorem dX5_init_93 : decode cX5_init 93 = .ok (.bipush 8, 2) := by decide +kernel
theorem dX5_init_95 : decode cX5_init 95 = .ok (.newarray .int, 2) := by decide +kernel
theorem dX5_init_97 : decode cX5_init 97 = .ok (.putfield 45, 3) := by decide +kernel
theorem dX5_init_100 : decode cX5_init 100 = .ok (.aload_n 0, 1) := by decide +kernel
theorem dX5_init_101 : decode cX5_init 101 = .ok (.bipush 8, 2) := by decide +kernel
theorem dX5_init_103 : decode cX5_init 103 = .ok (.newarray .int, 2) := by decide +kernel
theorem dX5_init_105 : decode cX5_init 105 = .ok (.putfield 48, 3) := by decide +kernel
theorem dX5_init_108 : decode cX5_init 108 = .ok (.return_, 1) := by decide +kernel
theorem dX5_thrown_0 : decode cX5_thrown 0 = .ok (.aload_n 0, 1) := by decide +kernel
theorem dX5_thrown_1 : decode cX5_thrown 1 = .ok (.getfield 51, 3) := by decide +kernel
theorem dX5_thrown_4 : decode cX5_thrown 4 = .ok (.ireturn, 1) := by decide +kernel
theorem dX5_isNumber_0 : decode cX5_isNumber 0 = .ok (.iload_n 0, 1) := by decide +kernel
theorem dX5_isNumber_1 : decode cX5_isNumber 1 = .ok (.ifCond .lt 13, 3) := by decide +kernel
theorem dX5_isNumber_4 : decode cX5_isNumber 4 = .ok (.iload_n 0, 1) := by decide +kernel
theorem dX5_isNumber_5 : decode cX5_isNumber 5 = .ok (.bipush 16, 2) := by decide +kernel
theorem dX5_isNumber_7 : decode cX5_isNumber 7 = .ok (.if_icmp .ge 7, 3) := by decide +kernel
theorem dX5_isNumber_10 : decode cX5_isNumber 10 = .ok (.iconst 1, 1) := by decide +kernel
theorem dX5_isNumber_11 : decode cX5_isNumber 11 = .ok (.goto 4, 3) := by decide +kernel
theorem dX5_isNumber_14 : decode cX5_isNumber 14 = .ok (.iconst 0, 1) := by decide +kernel
theorem dX5_isNumber_15 : decode cX5_isNumber 15 = .ok (.ireturn, 1) := by decide +kernel
theorem dX5_isVolume_0 : decode cX5_isVolume 0 = .ok (.iload_n 1, 1) := by decide +kernel
theorem dX5_isVolume_1 : decode cX5_isVolume 1 = .ok (.invokestatic 54, 3) := by decide +kernel
theorem dX5_isVolume_4 : decode cX5_isVolume 4 = .ok (.ifCond .eq 16, 3) := by decide +kernel
theorem dX5_isVolume_7 : decode cX5_isVolume 7 = .ok (.aload_n 0, 1) := by decide +kernel
theorem dX5_isVolume_8 : decode cX5_isVolume 8 = .ok (.getfield 7, 3) := by decide +kernel
theorem dX5_isVolume_11 : decode cX5_isVolume 11 = .ok (.iload_n 1, 1) := by decide +kernel
theorem dX5_isVolume_12 : decode cX5_isVolume 12 = .ok (.baload, 1) := by decide +kernel
theorem dX5_isVolume_13 : decode cX5_isVolume 13 = .ok (.ifCond .eq 7, 3) := by decide +kernel
theorem dX5_isVolume_16 : decode cX5_isVolume 16 = .ok (.iconst 1, 1) := by decide +kernel
theorem dX5_isVolume_17 : decode cX5_isVolume 17 = .ok (.goto 4, 3) := by decide +kernel
theorem dX5_isVolume_20 : decode cX5_isVolume 20 = .ok (.iconst 0, 1) := by decide +kernel
theorem dX5_isVolume_21 : decode cX5_isVolume 21 = .ok (.ireturn, 1) := by decide +kernel
theorem dX5_isSize_0 : decode cX5_isSize 0 = .ok (.iload_n 0, 1) := by decide +kernel
theorem dX5_isSize_1 : decode cX5_isSize 1 = .ok (.iconst 1, 1) := by decide +kernel
theorem dX5_isSize_2 : decode cX5_isSize 2 = .ok (.if_icmp .lt 13, 3) := by decide +kernel
theorem dX5_isSize_5 : decode cX5_isSize 5 = .ok (.iload_n 0, 1) := by decide +kernel
theorem dX5_isSize_6 : decode cX5_isSize 6 = .ok (.bipush 40, 2) := by decide +kernel
theorem dX5_isSize_8 : decode cX5_isSize 8 = .ok (.if_icmp .gt 7, 3) := by decide +kernel
theorem dX5_isSize_11 : decode cX5_isSize 11 = .ok (.iconst 1, 1) := by decide +kernel
theorem dX5_isSize_12 : decode cX5_isSize 12 = .ok (.goto 4, 3) := by decide +kernel
theorem dX5_isSize_15 : decode cX5_isSize 15 = .ok (.iconst 0, 1) := by decide +kernel
theorem dX5_isSize_16 : decode cX5_isSize 16 = .ok (.ireturn, 1) := by decide +kernel
theorem dX5_at_0 : decode cX5_at 0 = .ok (.bipush 40, 2) := by decide +kernel
theorem dX5_at_2 : decode cX5_at 2 = .ok (.bipush 16, 2) := by decide +kernel
theorem dX5_at_4 : decode cX5_at 4 = .ok (.iload_n 0, 1) := by decide +kernel
theorem dX5_at_5 : decode cX5_at 5 = .ok (.imul, 1) := by decide +kernel
theorem dX5_at_6 : decode cX5_at 6 = .ok (.iload_n 1, 1) := by decide +kernel
theorem dX5_at_7 : decode cX5_at 7 = .ok (.iadd, 1) := by decide +kernel
theorem dX5_at_8 : decode cX5_at 8 = .ok (.imul, 1) := by decide +kernel
theorem dX5_at_9 : decode cX5_at 9 = .ok (.iload_n 2, 1) := by decide +kernel
theorem dX5_at_10 : decode cX5_at 10 = .ok (.iadd, 1) := by decide +kernel
theorem dX5_at_11 : decode cX5_at 11 = .ok (.ireturn, 1) := by decide +kernel
theorem dX5_usersOf_0 : decode cX5_usersOf 0 = .ok (.iconst 0, 1) := by decide +kernel
theorem dX5_usersOf_1 : decode cX5_usersOf 1 = .ok (.istore_n 3, 1) := by decide +kernel
theorem dX5_usersOf_2 : decode cX5_usersOf 2 = .ok (.iconst 0, 1) := by decide +kernel
theorem dX5_usersOf_3 : decode cX5_usersOf 3 = .ok (.istore 4, 2) := by decide +kernel
theorem dX5_usersOf_5 : decode cX5_usersOf 5 = .ok (.iload 4, 2) := by decide +kernel
theorem dX5_usersOf_7 : decode cX5_usersOf 7 = .ok (.bipush 16, 2) := by decide +kernel
theorem dX5_usersOf_9 : decode cX5_usersOf 9 = .ok (.if_icmp .ge 65, 3) := by decide +kernel
theorem dX5_usersOf_12 : decode cX5_usersOf 12 = .ok (.iconst 0, 1) := by decide +kernel
theorem dX5_usersOf_13 : decode cX5_usersOf 13 = .ok (.istore 5, 2) := by decide +kernel
theorem dX5_usersOf_15 : decode cX5_usersOf 15 = .ok (.iload 5, 2) := by decide +kernel
theorem dX5_usersOf_17 : decode cX5_usersOf 17 = .ok (.bipush 40, 2) := by decide +kernel
theorem dX5_usersOf_19 : decode cX5_usersOf 19 = .ok (.if_icmp .ge 49, 3) := by decide +kernel
theorem dX5_usersOf_22 : decode cX5_usersOf 22 = .ok (.aload_n 0, 1) := by decide +kernel
theorem dX5_usersOf_23 : decode cX5_usersOf 23 = .ok (.getfield 7, 3) := by decide +kernel
theorem dX5_usersOf_26 : decode cX5_usersOf 26 = .ok (.bipush 16, 2) := by decide +kernel
theorem dX5_usersOf_28 : decode cX5_usersOf 28 = .ok (.iload_n 1, 1) := by decide +kernel
theorem dX5_usersOf_29 : decode cX5_usersOf 29 = .ok (.imul, 1) := by decide +kernel
theorem dX5_usersOf_30 : decode cX5_usersOf 30 = .ok (.iload 4, 2) := by decide +kernel
theorem dX5_usersOf_32 : decode cX5_usersOf 32 = .ok (.iadd, 1) := by decide +kernel
theorem dX5_usersOf_33 : decode cX5_usersOf 33 = .ok (.baload, 1) := by decide +kernel
theorem dX5_usersOf_34 : decode cX5_usersOf 34 = .ok (.ifCond .eq 34, 3) := by decide +kernel
theorem dX5_usersOf_37 : decode cX5_usersOf 37 = .ok (.iload_n 3, 1) := by decide +kernel
theorem dX5_usersOf_38 : decode cX5_usersOf 38 = .ok (.aload_n 0, 1) := by decide +kernel
theorem dX5_usersOf_39 : decode cX5_usersOf 39 = .ok (.getfield 26, 3) := by decide +kernel
theorem dX5_usersOf_42 : decode cX5_usersOf 42 = .ok (.iload_n 1, 1) := by decide +kernel
theorem dX5_usersOf_43 : decode cX5_usersOf 43 = .ok (.iload 4, 2) := by decide +kernel
theorem dX5_usersOf_45 : decode cX5_usersOf 45 = .ok (.iload 5, 2) := by decide +kernel
theorem dX5_usersOf_47 : decode cX5_usersOf 47 = .ok (.invokestatic 58, 3) := by decide +kernel
theorem dX5_usersOf_50 : decode cX5_usersOf 50 = .ok (.iaload, 1) := by decide +kernel
theorem dX5_usersOf_51 : decode cX5_usersOf 51 = .ok (.iload_n 2, 1) := by decide +kernel
theorem dX5_usersOf_52 : decode cX5_usersOf 52 = .ok (.if_icmp .ne 7, 3) := by decide +kernel
theorem dX5_usersOf_55 : decode cX5_usersOf 55 = .ok (.iconst 1, 1) := by decide +kernel
theorem dX5_usersOf_56 : decode cX5_usersOf 56 = .ok (.goto 4, 3) := by decide +kernel
theorem dX5_usersOf_59 : decode cX5_usersOf 59 = .ok (.iconst 0, 1) := by decide +kernel
theorem dX5_usersOf_60 : decode cX5_usersOf 60 = .ok (.iadd, 1) := by decide +kernel
theorem dX5_usersOf_61 : decode cX5_usersOf 61 = .ok (.istore_n 3, 1) := by decide +kernel
theorem dX5_usersOf_62 : decode cX5_usersOf 62 = .ok (.iinc 5 1, 3) := by decide +kernel
theorem dX5_usersOf_65 : decode cX5_usersOf 65 = .ok (.goto (-50), 3) := by decide +kernel
theorem dX5_usersOf_68 : decode cX5_usersOf 68 = .ok (.iinc 4 1, 3) := by decide +kernel
theorem dX5_usersOf_71 : decode cX5_usersOf 71 = .ok (.goto (-66), 3) := by decide +kernel
theorem dX5_usersOf_74 : decode cX5_usersOf 74 = .ok (.iload_n 3, 1) := by decide +kernel
theorem dX5_usersOf_75 : decode cX5_usersOf 75 = .ok (.ireturn, 1) := by decide +kernel
theorem dX5_isFree_0 : decode cX5_isFree 0 = .ok (.aload_n 0, 1) := by decide +kernel
theorem dX5_isFree_1 : decode cX5_isFree 1 = .ok (.iconst 0, 1) := by decide +kernel
theorem dX5_isFree_2 : decode cX5_isFree 2 = .ok (.iload_n 1, 1) := by decide +kernel
theorem dX5_isFree_3 : decode cX5_isFree 3 = .ok (.invokevirtual 62, 3) := by decide +kernel
theorem dX5_isFree_6 : decode cX5_isFree 6 = .ok (.aload_n 0, 1) := by decide +kernel
theorem dX5_isFree_7 : decode cX5_isFree 7 = .ok (.iconst 1, 1) := by decide +kernel
theorem dX5_isFree_8 : decode cX5_isFree 8 = .ok (.iload_n 1, 1) := by decide +kernel
theorem dX5_isFree_9 : decode cX5_isFree 9 = .ok (.invokevirtual 62, 3) := by decide +kernel
theorem dX5_isFree_12 : decode cX5_isFree 12 = .ok (.iadd, 1) := by decide +kernel
theorem dX5_isFree_13 : decode cX5_isFree 13 = .ok (.aload_n 0, 1) := by decide +kernel
theorem dX5_isFree_14 : decode cX5_isFree 14 = .ok (.iconst 2, 1) := by decide +kernel
theorem dX5_isFree_15 : decode cX5_isFree 15 = .ok (.iload_n 1, 1) := by decide +kernel
theorem dX5_isFree_16 : decode cX5_isFree 16 = .ok (.invokevirtual 62, 3) := by decide +kernel
theorem dX5_isFree_19 : decode cX5_isFree 19 = .ok (.iadd, 1) := by decide +kernel
theorem dX5_isFree_20 : decode cX5_isFree 20 = .ok (.ifCond .ne 7, 3) := by decide +kernel
theorem dX5_isFree_23 : decode cX5_isFree 23 = .ok (.iconst 1, 1) := by decide +kernel
theorem dX5_isFree_24 : decode cX5_isFree 24 = .ok (.goto 4, 3) := by decide +kernel
theorem dX5_isFree_27 : decode cX5_isFree 27 = .ok (.iconst 0, 1) := by decide +kernel
theorem dX5_isFree_28 : decode cX5_isFree 28 = .ok (.ireturn, 1) := by decide +kernel
theorem dX5_isSole_0 : decode cX5_isSole 0 = .ok (.aload_n 0, 1) := by decide +kernel
theorem dX5_isSole_1 : decode cX5_isSole 1 = .ok (.iconst 0, 1) := by decide +kernel
theorem dX5_isSole_2 : decode cX5_isSole 2 = .ok (.iload_n 1, 1) := by decide +kernel
theorem dX5_isSole_3 : decode cX5_isSole 3 = .ok (.invokevirtual 62, 3) := by decide +kernel
theorem dX5_isSole_6 : decode cX5_isSole 6 = .ok (.iconst 1, 1) := by decide +kernel
theorem dX5_isSole_7 : decode cX5_isSole 7 = .ok (.if_icmp .ne 23, 3) := by decide +kernel
theorem dX5_isSole_10 : decode cX5_isSole 10 = .ok (.aload_n 0, 1) := by decide +kernel
theorem dX5_isSole_11 : decode cX5_isSole 11 = .ok (.iconst 1, 1) := by decide +kernel
theorem dX5_isSole_12 : decode cX5_isSole 12 = .ok (.iload_n 1, 1) := by decide +kernel
theorem dX5_isSole_13 : decode cX5_isSole 13 = .ok (.invokevirtual 62, 3) := by decide +kernel
theorem dX5_isSole_16 : decode cX5_isSole 16 = .ok (.aload_n 0, 1) := by decide +kernel
theorem dX5_isSole_17 : decode cX5_isSole 17 = .ok (.iconst 2, 1) := by decide +kernel
theorem dX5_isSole_18 : decode cX5_isSole 18 = .ok (.iload_n 1, 1) := by decide +kernel
theorem dX5_isSole_19 : decode cX5_isSole 19 = .ok (.invokevirtual 62, 3) := by decide +kernel
theorem dX5_isSole_22 : decode cX5_isSole 22 = .ok (.iadd, 1) := by decide +kernel
theorem dX5_isSole_23 : decode cX5_isSole 23 = .ok (.ifCond .ne 7, 3) := by decide +kernel
theorem dX5_isSole_26 : decode cX5_isSole 26 = .ok (.iconst 1, 1) := by decide +kernel
theorem dX5_isSole_27 : decode cX5_isSole 27 = .ok (.goto 4, 3) := by decide +kernel
theorem dX5_isSole_30 : decode cX5_isSole 30 = .ok (.iconst 0, 1) := by decide +kernel
theorem dX5_isSole_31 : decode cX5_isSole 31 = .ok (.ireturn, 1) := by decide +kernel
theorem dX5_freeMany_0 : decode cX5_freeMany 0 = .ok (.iconst 0, 1) := by decide +kernel
theorem dX5_freeMany_1 : decode cX5_freeMany 1 = .ok (.istore_n 1, 1) := by decide +kernel
theorem dX5_freeMany_2 : decode cX5_freeMany 2 = .ok (.iconst 0, 1) := by decide +kernel
theorem dX5_freeMany_3 : decode cX5_freeMany 3 = .ok (.istore_n 2, 1) := by decide +kernel
theorem dX5_freeMany_4 : decode cX5_freeMany 4 = .ok (.iload_n 2, 1) := by decide +kernel
theorem dX5_freeMany_5 : decode cX5_freeMany 5 = .ok (.aload_n 0, 1) := by decide +kernel
theorem dX5_freeMany_6 : decode cX5_freeMany 6 = .ok (.getfield 32, 3) := by decide +kernel
theorem dX5_freeMany_9 : decode cX5_freeMany 9 = .ok (.if_icmp .ge 25, 3) := by decide +kernel
theorem dX5_freeMany_12 : decode cX5_freeMany 12 = .ok (.iload_n 1, 1) := by decide +kernel
theorem dX5_freeMany_13 : decode cX5_freeMany 13 = .ok (.aload_n 0, 1) := by decide +kernel
theorem dX5_freeMany_14 : decode cX5_freeMany 14 = .ok (.iload_n 2, 1) := by decide +kernel
theorem dX5_freeMany_15 : decode cX5_freeMany 15 = .ok (.invokevirtual 66, 3) := by decide +kernel
theorem dX5_freeMany_18 : decode cX5_freeMany 18 = .ok (.ifCond .eq 7, 3) := by decide +kernel
theorem dX5_freeMany_21 : decode cX5_freeMany 21 = .ok (.iconst 1, 1) := by decide +kernel
theorem dX5_freeMany_22 : decode cX5_freeMany 22 = .ok (.goto 4, 3) := by decide +kernel
theorem dX5_freeMany_25 : decode cX5_freeMany 25 = .ok (.iconst 0, 1) := by decide +kernel
theorem dX5_freeMany_26 : decode cX5_freeMany 26 = .ok (.iadd, 1) := by decide +kernel
theorem dX5_freeMany_27 : decode cX5_freeMany 27 = .ok (.istore_n 1, 1) := by decide +kernel
theorem dX5_freeMany_28 : decode cX5_freeMany 28 = .ok (.iinc 2 1, 3) := by decide +kernel
theorem dX5_freeMany_31 : decode cX5_freeMany 31 = .ok (.goto (-27), 3) := by decide +kernel
theorem dX5_freeMany_34 : decode cX5_freeMany 34 = .ok (.iload_n 1, 1) := by decide +kernel
theorem dX5_freeMany_35 : decode cX5_freeMany 35 = .ok (.ireturn, 1) := by decide +kernel
theorem dX5_mapped_0 : decode cX5_mapped 0 = .ok (.iconst 0, 1) := by decide +kernel
theorem dX5_mapped_1 : decode cX5_mapped 1 = .ok (.istore_n 2, 1) := by decide +kernel
theorem dX5_mapped_2 : decode cX5_mapped 2 = .ok (.iconst 0, 1) := by decide +kernel
theorem dX5_mapped_3 : decode cX5_mapped 3 = .ok (.istore_n 3, 1) := by decide +kernel
theorem dX5_mapped_4 : decode cX5_mapped 4 = .ok (.iload_n 3, 1) := by decide +kernel
theorem dX5_mapped_5 : decode cX5_mapped 5 = .ok (.bipush 40, 2) := by decide +kernel
theorem dX5_mapped_7 : decode cX5_mapped 7 = .ok (.if_icmp .ge 32, 3) := by decide +kernel
theorem dX5_mapped_10 : decode cX5_mapped 10 = .ok (.iload_n 2, 1) := by decide +kernel
theorem dX5_mapped_11 : decode cX5_mapped 11 = .ok (.aload_n 0, 1) := by decide +kernel
theorem dX5_mapped_12 : decode cX5_mapped 12 = .ok (.getfield 26, 3) := by decide +kernel
theorem dX5_mapped_15 : decode cX5_mapped 15 = .ok (.iconst 0, 1) := by decide +kernel
theorem dX5_mapped_16 : decode cX5_mapped 16 = .ok (.iload_n 1, 1) := by decide +kernel
theorem dX5_mapped_17 : decode cX5_mapped 17 = .ok (.iload_n 3, 1) := by decide +kernel
theorem dX5_mapped_18 : decode cX5_mapped 18 = .ok (.invokestatic 58, 3) := by decide +kernel
theorem dX5_mapped_21 : decode cX5_mapped 21 = .ok (.iaload, 1) := by decide +kernel
theorem dX5_mapped_22 : decode cX5_mapped 22 = .ok (.iconst (-1), 1) := by decide +kernel
theorem dX5_mapped_23 : decode cX5_mapped 23 = .ok (.if_icmp .eq 7, 3) := by decide +kernel
theorem dX5_mapped_26 : decode cX5_mapped 26 = .ok (.iconst 1, 1) := by decide +kernel
theorem dX5_mapped_27 : decode cX5_mapped 27 = .ok (.goto 4, 3) := by decide +kernel
theorem dX5_mapped_30 : decode cX5_mapped 30 = .ok (.iconst 0, 1) := by decide +kernel
theorem dX5_mapped_31 : decode cX5_mapped 31 = .ok (.iadd, 1) := by decide +kernel
theorem dX5_mapped_32 : decode cX5_mapped 32 = .ok (.istore_n 2, 1) := by decide +kernel
theorem dX5_mapped_33 : decode cX5_mapped 33 = .ok (.iinc 3 1, 3) := by decide +kernel
theorem dX5_mapped_36 : decode cX5_mapped 36 = .ok (.goto (-32), 3) := by decide +kernel
theorem dX5_mapped_39 : decode cX5_mapped 39 = .ok (.iload_n 2, 1) := by decide +kernel
theorem dX5_mapped_40 : decode cX5_mapped 40 = .ok (.ireturn, 1) := by decide +kernel
theorem dX5_volumes_0 : decode cX5_volumes 0 = .ok (.iconst 0, 1) := by decide +kernel
theorem dX5_volumes_1 : decode cX5_volumes 1 = .ok (.istore_n 2, 1) := by decide +kernel
theorem dX5_volumes_2 : decode cX5_volumes 2 = .ok (.iconst 0, 1) := by decide +kernel
theorem dX5_volumes_3 : decode cX5_volumes 3 = .ok (.istore_n 3, 1) := by decide +kernel
theorem dX5_volumes_4 : decode cX5_volumes 4 = .ok (.iload_n 3, 1) := by decide +kernel
theorem dX5_volumes_5 : decode cX5_volumes 5 = .ok (.bipush 16, 2) := by decide +kernel
theorem dX5_volumes_7 : decode cX5_volumes 7 = .ok (.if_icmp .ge 31, 3) := by decide +kernel
theorem dX5_volumes_10 : decode cX5_volumes 10 = .ok (.iload_n 2, 1) := by decide +kernel
theorem dX5_volumes_11 : decode cX5_volumes 11 = .ok (.aload_n 0, 1) := by decide +kernel
theorem dX5_volumes_12 : decode cX5_volumes 12 = .ok (.getfield 7, 3) := by decide +kernel
theorem dX5_volumes_15 : decode cX5_volumes 15 = .ok (.bipush 16, 2) := by decide +kernel
theorem dX5_volumes_17 : decode cX5_volumes 17 = .ok (.iload_n 1, 1) := by decide +kernel
theorem dX5_volumes_18 : decode cX5_volumes 18 = .ok (.imul, 1) := by decide +kernel
theorem dX5_volumes_19 : decode cX5_volumes 19 = .ok (.iload_n 3, 1) := by decide +kernel
theorem dX5_volumes_20 : decode cX5_volumes 20 = .ok (.iadd, 1) := by decide +kernel
theorem dX5_volumes_21 : decode cX5_volumes 21 = .ok (.baload, 1) := by decide +kernel
theorem dX5_volumes_22 : decode cX5_volumes 22 = .ok (.ifCond .eq 7, 3) := by decide +kernel
theorem dX5_volumes_25 : decode cX5_volumes 25 = .ok (.iconst 1, 1) := by decide +kernel
theorem dX5_volumes_26 : decode cX5_volumes 26 = .ok (.goto 4, 3) := by decide +kernel
theorem dX5_volumes_29 : decode cX5_volumes 29 = .ok (.iconst 0, 1) := by decide +kernel
theorem dX5_volumes_30 : decode cX5_volumes 30 = .ok (.iadd, 1) := by decide +kernel
theorem dX5_volumes_31 : decode cX5_volumes 31 = .ok (.istore_n 2, 1) := by decide +kernel
theorem dX5_volumes_32 : decode cX5_volumes 32 = .ok (.iinc 3 1, 3) := by decide +kernel
theorem dX5_volumes_35 : decode cX5_volumes 35 = .ok (.goto (-31), 3) := by decide +kernel
theorem dX5_volumes_38 : decode cX5_volumes 38 = .ok (.iload_n 2, 1) := by decide +kernel
theorem dX5_volumes_39 : decode cX5_volumes 39 = .ok (.ireturn, 1) := by decide +kernel
theorem dX5_clearState_0 : decode cX5_clearState 0 = .ok (.bipush 16, 2) := by decide +kernel
theorem dX5_clearState_2 : decode cX5_clearState 2 = .ok (.iload_n 1, 1) := by decide +kernel
theorem dX5_clearState_3 : decode cX5_clearState 3 = .ok (.imul, 1) := by decide +kernel
theorem dX5_clearState_4 : decode cX5_clearState 4 = .ok (.istore_n 2, 1) := by decide +kernel
theorem dX5_clearState_5 : decode cX5_clearState 5 = .ok (.iload_n 2, 1) := by decide +kernel
theorem dX5_clearState_6 : decode cX5_clearState 6 = .ok (.bipush 16, 2) := by decide +kernel
theorem dX5_clearState_8 : decode cX5_clearState 8 = .ok (.iload_n 1, 1) := by decide +kernel
theorem dX5_clearState_9 : decode cX5_clearState 9 = .ok (.imul, 1) := by decide +kernel
theorem dX5_clearState_10 : decode cX5_clearState 10 = .ok (.bipush 16, 2) := by decide +kernel
theorem dX5_clearState_12 : decode cX5_clearState 12 = .ok (.iadd, 1) := by decide +kernel
theorem dX5_clearState_13 : decode cX5_clearState 13 = .ok (.if_icmp .ge 16, 3) := by decide +kernel
theorem dX5_clearState_16 : decode cX5_clearState 16 = .ok (.aload_n 0, 1) := by decide +kernel
theorem dX5_clearState_17 : decode cX5_clearState 17 = .ok (.getfield 7, 3) := by decide +kernel
theorem dX5_clearState_20 : decode cX5_clearState 20 = .ok (.iload_n 2, 1) := by decide +kernel
theorem dX5_clearState_21 : decode cX5_clearState 21 = .ok (.iconst 0, 1) := by decide +kernel
theorem dX5_clearState_22 : decode cX5_clearState 22 = .ok (.bastore, 1) := by decide +kernel
theorem dX5_clearState_23 : decode cX5_clearState 23 = .ok (.iinc 2 1, 3) := by decide +kernel
theorem dX5_clearState_26 : decode cX5_clearState 26 = .ok (.goto (-21), 3) := by decide +kernel
theorem dX5_clearState_29 : decode cX5_clearState 29 = .ok (.aload_n 0, 1) := by decide +kernel
theorem dX5_clearState_30 : decode cX5_clearState 30 = .ok (.getfield 29, 3) := by decide +kernel
theorem dX5_clearState_33 : decode cX5_clearState 33 = .ok (.iload_n 1, 1) := by decide +kernel
theorem dX5_clearState_34 : decode cX5_clearState 34 = .ok (.iconst 0, 1) := by decide +kernel
theorem dX5_clearState_35 : decode cX5_clearState 35 = .ok (.iastore, 1) := by decide +kernel
theorem dX5_clearState_36 : decode cX5_clearState 36 = .ok (.return_, 1) := by decide +kernel
theorem dX5_copy_0 : decode cX5_copy 0 = .ok (.iconst 0, 1) := by decide +kernel
theorem dX5_copy_1 : decode cX5_copy 1 = .ok (.istore_n 3, 1) := by decide +kernel
theorem dX5_copy_2 : decode cX5_copy 2 = .ok (.iload_n 3, 1) := by decide +kernel
theorem dX5_copy_3 : decode cX5_copy 3 = .ok (.bipush 16, 2) := by decide +kernel
theorem dX5_copy_5 : decode cX5_copy 5 = .ok (.if_icmp .ge 39, 3) := by decide +kernel
theorem dX5_copy_8 : decode cX5_copy 8 = .ok (.aload_n 0, 1) := by decide +kernel
theorem dX5_copy_9 : decode cX5_copy 9 = .ok (.iload_n 1, 1) := by decide +kernel
theorem dX5_copy_10 : decode cX5_copy 10 = .ok (.iload_n 3, 1) := by decide +kernel
theorem dX5_copy_11 : decode cX5_copy 11 = .ok (.iload_n 2, 1) := by decide +kernel
theorem dX5_copy_12 : decode cX5_copy 12 = .ok (.iload_n 3, 1) := by decide +kernel
theorem dX5_copy_13 : decode cX5_copy 13 = .ok (.invokevirtual 69, 3) := by decide +kernel
theorem dX5_copy_16 : decode cX5_copy 16 = .ok (.aload_n 0, 1) := by decide +kernel
theorem dX5_copy_17 : decode cX5_copy 17 = .ok (.getfield 23, 3) := by decide +kernel
theorem dX5_copy_20 : decode cX5_copy 20 = .ok (.bipush 16, 2) := by decide +kernel
theorem dX5_copy_22 : decode cX5_copy 22 = .ok (.iload_n 2, 1) := by decide +kernel
theorem dX5_copy_23 : decode cX5_copy 23 = .ok (.imul, 1) := by decide +kernel
theorem dX5_copy_24 : decode cX5_copy 24 = .ok (.iload_n 3, 1) := by decide +kernel
theorem dX5_copy_25 : decode cX5_copy 25 = .ok (.iadd, 1) := by decide +kernel
theorem dX5_copy_26 : decode cX5_copy 26 = .ok (.aload_n 0, 1) := by decide +kernel
theorem dX5_copy_27 : decode cX5_copy 27 = .ok (.getfield 23, 3) := by decide +kernel
theorem dX5_copy_30 : decode cX5_copy 30 = .ok (.bipush 16, 2) := by decide +kernel
theorem dX5_copy_32 : decode cX5_copy 32 = .ok (.iload_n 1, 1) := by decide +kernel
theorem dX5_copy_33 : decode cX5_copy 33 = .ok (.imul, 1) := by decide +kernel
theorem dX5_copy_34 : decode cX5_copy 34 = .ok (.iload_n 3, 1) := by decide +kernel
theorem dX5_copy_35 : decode cX5_copy 35 = .ok (.iadd, 1) := by decide +kernel
theorem dX5_copy_36 : decode cX5_copy 36 = .ok (.iaload, 1) := by decide +kernel
theorem dX5_copy_37 : decode cX5_copy 37 = .ok (.iastore, 1) := by decide +kernel
theorem dX5_copy_38 : decode cX5_copy 38 = .ok (.iinc 3 1, 3) := by decide +kernel
theorem dX5_copy_41 : decode cX5_copy 41 = .ok (.goto (-39), 3) := by decide +kernel
theorem dX5_copy_44 : decode cX5_copy 44 = .ok (.aload_n 0, 1) := by decide +kernel
theorem dX5_copy_45 : decode cX5_copy 45 = .ok (.getfield 29, 3) := by decide +kernel
theorem dX5_copy_48 : decode cX5_copy 48 = .ok (.iload_n 2, 1) := by decide +kernel
theorem dX5_copy_49 : decode cX5_copy 49 = .ok (.aload_n 0, 1) := by decide +kernel
theorem dX5_copy_50 : decode cX5_copy 50 = .ok (.getfield 29, 3) := by decide +kernel
theorem dX5_copy_53 : decode cX5_copy 53 = .ok (.iload_n 1, 1) := by decide +kernel
theorem dX5_copy_54 : decode cX5_copy 54 = .ok (.iaload, 1) := by decide +kernel
theorem dX5_copy_55 : decode cX5_copy 55 = .ok (.iastore, 1) := by decide +kernel
theorem dX5_copy_56 : decode cX5_copy 56 = .ok (.return_, 1) := by decide +kernel
theorem dX5_copyVolume_0 : decode cX5_copyVolume 0 = .ok (.bipush 16, 2) := by decide +kernel
theorem dX5_copyVolume_2 : decode cX5_copyVolume 2 = .ok (.iload_n 1, 1) := by decide +kernel
theorem dX5_copyVolume_3 : decode cX5_copyVolume 3 = .ok (.imul, 1) := by decide +kernel
theorem dX5_copyVolume_4 : decode cX5_copyVolume 4 = .ok (.iload_n 2, 1) := by decide +kernel
theorem dX5_copyVolume_5 : decode cX5_copyVolume 5 = .ok (.iadd, 1) := by decide +kernel
theorem dX5_copyVolume_6 : decode cX5_copyVolume 6 = .ok (.istore 5, 2) := by decide +kernel
theorem dX5_copyVolume_8 : decode cX5_copyVolume 8 = .ok (.bipush 16, 2) := by decide +kernel
theorem dX5_copyVolume_10 : decode cX5_copyVolume 10 = .ok (.iload_n 3, 1) := by decide +kernel
theorem dX5_copyVolume_11 : decode cX5_copyVolume 11 = .ok (.imul, 1) := by decide +kernel
theorem dX5_copyVolume_12 : decode cX5_copyVolume 12 = .ok (.iload 4, 2) := by decide +kernel
theorem dX5_copyVolume_14 : decode cX5_copyVolume 14 = .ok (.iadd, 1) := by decide +kernel
theorem dX5_copyVolume_15 : decode cX5_copyVolume 15 = .ok (.istore 6, 2) := by decide +kernel
theorem dX5_copyVolume_17 : decode cX5_copyVolume 17 = .ok (.aload_n 0, 1) := by decide +kernel
theorem dX5_copyVolume_18 : decode cX5_copyVolume 18 = .ok (.getfield 7, 3) := by decide +kernel
theorem dX5_copyVolume_21 : decode cX5_copyVolume 21 = .ok (.iload 6, 2) := by decide +kernel
theorem dX5_copyVolume_23 : decode cX5_copyVolume 23 = .ok (.aload_n 0, 1) := by decide +kernel
theorem dX5_copyVolume_24 : decode cX5_copyVolume 24 = .ok (.getfield 7, 3) := by decide +kernel
theorem dX5_copyVolume_27 : decode cX5_copyVolume 27 = .ok (.iload 5, 2) := by decide +kernel
theorem dX5_copyVolume_29 : decode cX5_copyVolume 29 = .ok (.baload, 1) := by decide +kernel
theorem dX5_copyVolume_30 : decode cX5_copyVolume 30 = .ok (.bastore, 1) := by decide +kernel
theorem dX5_copyVolume_31 : decode cX5_copyVolume 31 = .ok (.aload_n 0, 1) := by decide +kernel
theorem dX5_copyVolume_32 : decode cX5_copyVolume 32 = .ok (.getfield 13, 3) := by decide +kernel
theorem dX5_copyVolume_35 : decode cX5_copyVolume 35 = .ok (.iload 6, 2) := by decide +kernel
theorem dX5_copyVolume_37 : decode cX5_copyVolume 37 = .ok (.aload_n 0, 1) := by decide +kernel
theorem dX5_copyVolume_38 : decode cX5_copyVolume 38 = .ok (.getfield 13, 3) := by decide +kernel
theorem dX5_copyVolume_41 : decode cX5_copyVolume 41 = .ok (.iload 5, 2) := by decide +kernel
theorem dX5_copyVolume_43 : decode cX5_copyVolume 43 = .ok (.iaload, 1) := by decide +kernel
theorem dX5_copyVolume_44 : decode cX5_copyVolume 44 = .ok (.iastore, 1) := by decide +kernel
theorem dX5_copyVolume_45 : decode cX5_copyVolume 45 = .ok (.aload_n 0, 1) := by decide +kernel
theorem dX5_copyVolume_46 : decode cX5_copyVolume 46 = .ok (.getfield 17, 3) := by decide +kernel
theorem dX5_copyVolume_49 : decode cX5_copyVolume 49 = .ok (.iload 6, 2) := by decide +kernel
theorem dX5_copyVolume_51 : decode cX5_copyVolume 51 = .ok (.aload_n 0, 1) := by decide +kernel
theorem dX5_copyVolume_52 : decode cX5_copyVolume 52 = .ok (.getfield 17, 3) := by decide +kernel
theorem dX5_copyVolume_55 : decode cX5_copyVolume 55 = .ok (.iload 5, 2) := by decide +kernel
theorem dX5_copyVolume_57 : decode cX5_copyVolume 57 = .ok (.baload, 1) := by decide +kernel
theorem dX5_copyVolume_58 : decode cX5_copyVolume 58 = .ok (.bastore, 1) := by decide +kernel
theorem dX5_copyVolume_59 : decode cX5_copyVolume 59 = .ok (.aload_n 0, 1) := by decide +kernel
theorem dX5_copyVolume_60 : decode cX5_copyVolume 60 = .ok (.getfield 20, 3) := by decide +kernel
theorem dX5_copyVolume_63 : decode cX5_copyVolume 63 = .ok (.iload 6, 2) := by decide +kernel
theorem dX5_copyVolume_65 : decode cX5_copyVolume 65 = .ok (.aload_n 0, 1) := by decide +kernel
theorem dX5_copyVolume_66 : decode cX5_copyVolume 66 = .ok (.getfield 20, 3) := by decide +kernel
theorem dX5_copyVolume_69 : decode cX5_copyVolume 69 = .ok (.iload 5, 2) := by decide +kernel
theorem dX5_copyVolume_71 : decode cX5_copyVolume 71 = .ok (.iaload, 1) := by decide +kernel
theorem dX5_copyVolume_72 : decode cX5_copyVolume 72 = .ok (.iastore, 1) := by decide +kernel
theorem dX5_copyVolume_73 : decode cX5_copyVolume 73 = .ok (.iconst 0, 1) := by decide +kernel
theorem dX5_copyVolume_74 : decode cX5_copyVolume 74 = .ok (.istore 7, 2) := by decide +kernel
theorem dX5_copyVolume_76 : decode cX5_copyVolume 76 = .ok (.iload 7, 2) := by decide +kernel
theorem dX5_copyVolume_78 : decode cX5_copyVolume 78 = .ok (.bipush 40, 2) := by decide +kernel
theorem dX5_copyVolume_80 : decode cX5_copyVolume 80 = .ok (.if_icmp .ge 35, 3) := by decide +kernel
theorem dX5_copyVolume_83 : decode cX5_copyVolume 83 = .ok (.aload_n 0, 1) := by decide +kernel
theorem dX5_copyVolume_84 : decode cX5_copyVolume 84 = .ok (.getfield 26, 3) := by decide +kernel
theorem dX5_copyVolume_87 : decode cX5_copyVolume 87 = .ok (.bipush 40, 2) := by decide +kernel
theorem dX5_copyVolume_89 : decode cX5_copyVolume 89 = .ok (.iload 6, 2) := by decide +kernel
theorem dX5_copyVolume_91 : decode cX5_copyVolume 91 = .ok (.imul, 1) := by decide +kernel
theorem dX5_copyVolume_92 : decode cX5_copyVolume 92 = .ok (.iload 7, 2) := by decide +kernel
theorem dX5_copyVolume_94 : decode cX5_copyVolume 94 = .ok (.iadd, 1) := by decide +kernel
theorem dX5_copyVolume_95 : decode cX5_copyVolume 95 = .ok (.aload_n 0, 1) := by decide +kernel
theorem dX5_copyVolume_96 : decode cX5_copyVolume 96 = .ok (.getfield 26, 3) := by decide +kernel
theorem dX5_copyVolume_99 : decode cX5_copyVolume 99 = .ok (.bipush 40, 2) := by decide +kernel
theorem dX5_copyVolume_101 : decode cX5_copyVolume 101 = .ok (.iload 5, 2) := by decide +kernel
theorem dX5_copyVolume_103 : decode cX5_copyVolume 103 = .ok (.imul, 1) := by decide +kernel
theorem dX5_copyVolume_104 : decode cX5_copyVolume 104 = .ok (.iload 7, 2) := by decide +kernel
theorem dX5_copyVolume_106 : decode cX5_copyVolume 106 = .ok (.iadd, 1) := by decide +kernel
theorem dX5_copyVolume_107 : decode cX5_copyVolume 107 = .ok (.iaload, 1) := by decide +kernel
theorem dX5_copyVolume_108 : decode cX5_copyVolume 108 = .ok (.iastore, 1) := by decide +kernel
theorem dX5_copyVolume_109 : decode cX5_copyVolume 109 = .ok (.iinc 7 1, 3) := by decide +kernel
theorem dX5_copyVolume_112 : decode cX5_copyVolume 112 = .ok (.goto (-36), 3) := by decide +kernel
theorem dX5_copyVolume_115 : decode cX5_copyVolume 115 = .ok (.return_, 1) := by decide +kernel
theorem dX5_needs_0 : decode cX5_needs 0 = .ok (.aload_n 0, 1) := by decide +kernel
theorem dX5_needs_1 : decode cX5_needs 1 = .ok (.getfield 26, 3) := by decide +kernel
theorem dX5_needs_4 : decode cX5_needs 4 = .ok (.iconst 0, 1) := by decide +kernel
theorem dX5_needs_5 : decode cX5_needs 5 = .ok (.iload_n 1, 1) := by decide +kernel
theorem dX5_needs_6 : decode cX5_needs 6 = .ok (.iload_n 2, 1) := by decide +kernel
theorem dX5_needs_7 : decode cX5_needs 7 = .ok (.invokestatic 58, 3) := by decide +kernel
theorem dX5_needs_10 : decode cX5_needs 10 = .ok (.iaload, 1) := by decide +kernel
theorem dX5_needs_11 : decode cX5_needs 11 = .ok (.istore_n 3, 1) := by decide +kernel
theorem dX5_needs_12 : decode cX5_needs 12 = .ok (.iload_n 3, 1) := by decide +kernel
theorem dX5_needs_13 : decode cX5_needs 13 = .ok (.iconst (-1), 1) := by decide +kernel
theorem dX5_needs_14 : decode cX5_needs 14 = .ok (.if_icmp .eq 11, 3) := by decide +kernel
theorem dX5_needs_17 : decode cX5_needs 17 = .ok (.aload_n 0, 1) := by decide +kernel
theorem dX5_needs_18 : decode cX5_needs 18 = .ok (.iload_n 3, 1) := by decide +kernel
theorem dX5_needs_19 : decode cX5_needs 19 = .ok (.invokevirtual 73, 3) := by decide +kernel
theorem dX5_needs_22 : decode cX5_needs 22 = .ok (.ifCond .ne 7, 3) := by decide +kernel
theorem dX5_needs_25 : decode cX5_needs 25 = .ok (.iconst 1, 1) := by decide +kernel
theorem dX5_needs_26 : decode cX5_needs 26 = .ok (.goto 4, 3) := by decide +kernel
theorem dX5_needs_29 : decode cX5_needs 29 = .ok (.iconst 0, 1) := by decide +kernel
theorem dX5_needs_30 : decode cX5_needs 30 = .ok (.ireturn, 1) := by decide +kernel
theorem dX5_isOver_0 : decode cX5_isOver 0 = .ok (.aload_n 0, 1) := by decide +kernel
theorem dX5_isOver_1 : decode cX5_isOver 1 = .ok (.getfield 26, 3) := by decide +kernel
theorem dX5_isOver_4 : decode cX5_isOver 4 = .ok (.iconst 0, 1) := by decide +kernel
theorem dX5_isOver_5 : decode cX5_isOver 5 = .ok (.iload_n 1, 1) := by decide +kernel
theorem dX5_isOver_6 : decode cX5_isOver 6 = .ok (.iload_n 2, 1) := by decide +kernel
theorem dX5_isOver_7 : decode cX5_isOver 7 = .ok (.invokestatic 58, 3) := by decide +kernel
theorem dX5_isOver_10 : decode cX5_isOver 10 = .ok (.iaload, 1) := by decide +kernel
theorem dX5_isOver_11 : decode cX5_isOver 11 = .ok (.iconst (-1), 1) := by decide +kernel
theorem dX5_isOver_12 : decode cX5_isOver 12 = .ok (.if_icmp .ne 31, 3) := by decide +kernel
theorem dX5_isOver_15 : decode cX5_isOver 15 = .ok (.aload_n 0, 1) := by decide +kernel
theorem dX5_isOver_16 : decode cX5_isOver 16 = .ok (.getfield 20, 3) := by decide +kernel
theorem dX5_isOver_19 : decode cX5_isOver 19 = .ok (.iload_n 1, 1) := by decide +kernel
theorem dX5_isOver_20 : decode cX5_isOver 20 = .ok (.iaload, 1) := by decide +kernel
theorem dX5_isOver_21 : decode cX5_isOver 21 = .ok (.iconst (-1), 1) := by decide +kernel
theorem dX5_isOver_22 : decode cX5_isOver 22 = .ok (.if_icmp .eq 21, 3) := by decide +kernel
theorem dX5_isOver_25 : decode cX5_isOver 25 = .ok (.aload_n 0, 1) := by decide +kernel
theorem dX5_isOver_26 : decode cX5_isOver 26 = .ok (.iload_n 1, 1) := by decide +kernel
theorem dX5_isOver_27 : decode cX5_isOver 27 = .ok (.invokevirtual 76, 3) := by decide +kernel
theorem dX5_isOver_30 : decode cX5_isOver 30 = .ok (.aload_n 0, 1) := by decide +kernel
theorem dX5_isOver_31 : decode cX5_isOver 31 = .ok (.getfield 20, 3) := by decide +kernel
theorem dX5_isOver_34 : decode cX5_isOver 34 = .ok (.iload_n 1, 1) := by decide +kernel
theorem dX5_isOver_35 : decode cX5_isOver 35 = .ok (.iaload, 1) := by decide +kernel
theorem dX5_isOver_36 : decode cX5_isOver 36 = .ok (.if_icmp .lt 7, 3) := by decide +kernel
theorem dX5_isOver_39 : decode cX5_isOver 39 = .ok (.iconst 1, 1) := by decide +kernel
theorem dX5_isOver_40 : decode cX5_isOver 40 = .ok (.goto 4, 3) := by decide +kernel
theorem dX5_isOver_43 : decode cX5_isOver 43 = .ok (.iconst 0, 1) := by decide +kernel
theorem dX5_isOver_44 : decode cX5_isOver 44 = .ok (.ireturn, 1) := by decide +kernel
theorem dX5_wordOf_0 : decode cX5_wordOf 0 = .ok (.aload_n 0, 1) := by decide +kernel
theorem dX5_wordOf_1 : decode cX5_wordOf 1 = .ok (.getfield 26, 3) := by decide +kernel
theorem dX5_wordOf_4 : decode cX5_wordOf 4 = .ok (.iconst 0, 1) := by decide +kernel
theorem dX5_wordOf_5 : decode cX5_wordOf 5 = .ok (.iload_n 1, 1) := by decide +kernel
theorem dX5_wordOf_6 : decode cX5_wordOf 6 = .ok (.iload_n 2, 1) := by decide +kernel
theorem dX5_wordOf_7 : decode cX5_wordOf 7 = .ok (.iconst 4, 1) := by decide +kernel
theorem dX5_wordOf_8 : decode cX5_wordOf 8 = .ok (.idiv, 1) := by decide +kernel
theorem dX5_wordOf_9 : decode cX5_wordOf 9 = .ok (.invokestatic 58, 3) := by decide +kernel
theorem dX5_wordOf_12 : decode cX5_wordOf 12 = .ok (.iaload, 1) := by decide +kernel
theorem dX5_wordOf_13 : decode cX5_wordOf 13 = .ok (.istore_n 3, 1) := by decide +kernel
theorem dX5_wordOf_14 : decode cX5_wordOf 14 = .ok (.iload_n 3, 1) := by decide +kernel
theorem dX5_wordOf_15 : decode cX5_wordOf 15 = .ok (.iconst (-1), 1) := by decide +kernel
theorem dX5_wordOf_16 : decode cX5_wordOf 16 = .ok (.if_icmp .eq 18, 3) := by decide +kernel
theorem dX5_wordOf_19 : decode cX5_wordOf 19 = .ok (.aload_n 0, 1) := by decide +kernel
theorem dX5_wordOf_20 : decode cX5_wordOf 20 = .ok (.getfield 36, 3) := by decide +kernel
theorem dX5_wordOf_23 : decode cX5_wordOf 23 = .ok (.iconst 4, 1) := by decide +kernel
theorem dX5_wordOf_24 : decode cX5_wordOf 24 = .ok (.iload_n 3, 1) := by decide +kernel
theorem dX5_wordOf_25 : decode cX5_wordOf 25 = .ok (.imul, 1) := by decide +kernel
theorem dX5_wordOf_26 : decode cX5_wordOf 26 = .ok (.iload_n 2, 1) := by decide +kernel
theorem dX5_wordOf_27 : decode cX5_wordOf 27 = .ok (.iconst 4, 1) := by decide +kernel
theorem dX5_wordOf_28 : decode cX5_wordOf 28 = .ok (.irem, 1) := by decide +kernel
theorem dX5_wordOf_29 : decode cX5_wordOf 29 = .ok (.iadd, 1) := by decide +kernel
theorem dX5_wordOf_30 : decode cX5_wordOf 30 = .ok (.iaload, 1) := by decide +kernel
theorem dX5_wordOf_31 : decode cX5_wordOf 31 = .ok (.goto 22, 3) := by decide +kernel
theorem dX5_wordOf_34 : decode cX5_wordOf 34 = .ok (.aload_n 0, 1) := by decide +kernel
theorem dX5_wordOf_35 : decode cX5_wordOf 35 = .ok (.getfield 17, 3) := by decide +kernel
theorem dX5_wordOf_38 : decode cX5_wordOf 38 = .ok (.iload_n 1, 1) := by decide +kernel
theorem dX5_wordOf_39 : decode cX5_wordOf 39 = .ok (.baload, 1) := by decide +kernel
theorem dX5_wordOf_40 : decode cX5_wordOf 40 = .ok (.ifCond .eq 12, 3) := by decide +kernel
theorem dX5_wordOf_43 : decode cX5_wordOf 43 = .ok (.aload_n 0, 1) := by decide +kernel
theorem dX5_wordOf_44 : decode cX5_wordOf 44 = .ok (.getfield 39, 3) := by decide +kernel
theorem dX5_wordOf_47 : decode cX5_wordOf 47 = .ok (.iload_n 2, 1) := by decide +kernel
theorem dX5_wordOf_48 : decode cX5_wordOf 48 = .ok (.iaload, 1) := by decide +kernel
theorem dX5_wordOf_49 : decode cX5_wordOf 49 = .ok (.goto 4, 3) := by decide +kernel
theorem dX5_wordOf_52 : decode cX5_wordOf 52 = .ok (.iconst 0, 1) := by decide +kernel
theorem dX5_wordOf_53 : decode cX5_wordOf 53 = .ok (.ireturn, 1) := by decide +kernel
theorem dX5_take_0 : decode cX5_take 0 = .ok (.aload_n 0, 1) := by decide +kernel
theorem dX5_take_1 : decode cX5_take 1 = .ok (.getfield 80, 3) := by decide +kernel
theorem dX5_take_4 : decode cX5_take 4 = .ok (.aload_n 0, 1) := by decide +kernel
theorem dX5_take_5 : decode cX5_take 5 = .ok (.getfield 32, 3) := by decide +kernel
theorem dX5_take_8 : decode cX5_take 8 = .ok (.if_icmp .ge 10, 3) := by decide +kernel
theorem dX5_take_11 : decode cX5_take 11 = .ok (.aload_n 0, 1) := by decide +kernel
theorem dX5_take_12 : decode cX5_take 12 = .ok (.getfield 80, 3) := by decide +kernel
theorem dX5_take_15 : decode cX5_take 15 = .ok (.goto 4, 3) := by decide +kernel
theorem dX5_take_18 : decode cX5_take 18 = .ok (.iconst 0, 1) := by decide +kernel
theorem dX5_take_19 : decode cX5_take 19 = .ok (.istore_n 3, 1) := by decide +kernel
theorem dX5_take_20 : decode cX5_take 20 = .ok (.aload_n 0, 1) := by decide +kernel
theorem dX5_take_21 : decode cX5_take 21 = .ok (.iload_n 3, 1) := by decide +kernel
theorem dX5_take_22 : decode cX5_take 22 = .ok (.invokevirtual 66, 3) := by decide +kernel
theorem dX5_take_25 : decode cX5_take 25 = .ok (.ifCond .ne 24, 3) := by decide +kernel
theorem dX5_take_28 : decode cX5_take 28 = .ok (.iload_n 3, 1) := by decide +kernel
theorem dX5_take_29 : decode cX5_take 29 = .ok (.iconst 1, 1) := by decide +kernel
theorem dX5_take_30 : decode cX5_take 30 = .ok (.iadd, 1) := by decide +kernel
theorem dX5_take_31 : decode cX5_take 31 = .ok (.aload_n 0, 1) := by decide +kernel
theorem dX5_take_32 : decode cX5_take 32 = .ok (.getfield 32, 3) := by decide +kernel
theorem dX5_take_35 : decode cX5_take 35 = .ok (.if_icmp .ne 7, 3) := by decide +kernel
theorem dX5_take_38 : decode cX5_take 38 = .ok (.iconst 0, 1) := by decide +kernel
theorem dX5_take_39 : decode cX5_take 39 = .ok (.goto 6, 3) := by decide +kernel
theorem dX5_take_42 : decode cX5_take 42 = .ok (.iload_n 3, 1) := by decide +kernel
theorem dX5_take_43 : decode cX5_take 43 = .ok (.iconst 1, 1) := by decide +kernel
theorem dX5_take_44 : decode cX5_take 44 = .ok (.iadd, 1) := by decide +kernel
theorem dX5_take_45 : decode cX5_take 45 = .ok (.istore_n 3, 1) := by decide +kernel
theorem dX5_take_46 : decode cX5_take 46 = .ok (.goto (-26), 3) := by decide +kernel
theorem dX5_take_49 : decode cX5_take 49 = .ok (.iconst 0, 1) := by decide +kernel
theorem dX5_take_50 : decode cX5_take 50 = .ok (.istore 4, 2) := by decide +kernel
theorem dX5_take_52 : decode cX5_take 52 = .ok (.iload 4, 2) := by decide +kernel
theorem dX5_take_54 : decode cX5_take 54 = .ok (.iconst 4, 1) := by decide +kernel
theorem dX5_take_55 : decode cX5_take 55 = .ok (.if_icmp .ge 31, 3) := by decide +kernel
theorem dX5_take_58 : decode cX5_take 58 = .ok (.aload_n 0, 1) := by decide +kernel
theorem dX5_take_59 : decode cX5_take 59 = .ok (.getfield 36, 3) := by decide +kernel
theorem dX5_take_62 : decode cX5_take 62 = .ok (.iconst 4, 1) := by decide +kernel
theorem dX5_take_63 : decode cX5_take 63 = .ok (.iload_n 3, 1) := by decide +kernel
theorem dX5_take_64 : decode cX5_take 64 = .ok (.imul, 1) := by decide +kernel
theorem dX5_take_65 : decode cX5_take 65 = .ok (.iload 4, 2) := by decide +kernel
theorem dX5_take_67 : decode cX5_take 67 = .ok (.iadd, 1) := by decide +kernel
theorem dX5_take_68 : decode cX5_take 68 = .ok (.aload_n 0, 1) := by decide +kernel
theorem dX5_take_69 : decode cX5_take 69 = .ok (.iload_n 1, 1) := by decide +kernel
theorem dX5_take_70 : decode cX5_take 70 = .ok (.iconst 4, 1) := by decide +kernel
theorem dX5_take_71 : decode cX5_take 71 = .ok (.iload_n 2, 1) := by decide +kernel
theorem dX5_take_72 : decode cX5_take 72 = .ok (.imul, 1) := by decide +kernel
theorem dX5_take_73 : decode cX5_take 73 = .ok (.iload 4, 2) := by decide +kernel
theorem dX5_take_75 : decode cX5_take 75 = .ok (.iadd, 1) := by decide +kernel
theorem dX5_take_76 : decode cX5_take 76 = .ok (.invokevirtual 83, 3) := by decide +kernel
theorem dX5_take_79 : decode cX5_take 79 = .ok (.iastore, 1) := by decide +kernel
theorem dX5_take_80 : decode cX5_take 80 = .ok (.iinc 4 1, 3) := by decide +kernel
theorem dX5_take_83 : decode cX5_take 83 = .ok (.goto (-31), 3) := by decide +kernel
theorem dX5_take_86 : decode cX5_take 86 = .ok (.aload_n 0, 1) := by decide +kernel
theorem dX5_take_87 : decode cX5_take 87 = .ok (.getfield 26, 3) := by decide +kernel
theorem dX5_take_90 : decode cX5_take 90 = .ok (.iconst 0, 1) := by decide +kernel
theorem dX5_take_91 : decode cX5_take 91 = .ok (.iload_n 1, 1) := by decide +kernel
theorem dX5_take_92 : decode cX5_take 92 = .ok (.iload_n 2, 1) := by decide +kernel
theorem dX5_take_93 : decode cX5_take 93 = .ok (.invokestatic 58, 3) := by decide +kernel
theorem dX5_take_96 : decode cX5_take 96 = .ok (.iload_n 3, 1) := by decide +kernel
theorem dX5_take_97 : decode cX5_take 97 = .ok (.iastore, 1) := by decide +kernel
theorem dX5_take_98 : decode cX5_take 98 = .ok (.aload_n 0, 1) := by decide +kernel
theorem dX5_take_99 : decode cX5_take 99 = .ok (.iload_n 3, 1) := by decide +kernel
theorem dX5_take_100 : decode cX5_take 100 = .ok (.iconst 1, 1) := by decide +kernel
theorem dX5_take_101 : decode cX5_take 101 = .ok (.iadd, 1) := by decide +kernel
theorem dX5_take_102 : decode cX5_take 102 = .ok (.aload_n 0, 1) := by decide +kernel
theorem dX5_take_103 : decode cX5_take 103 = .ok (.getfield 32, 3) := by decide +kernel
theorem dX5_take_106 : decode cX5_take 106 = .ok (.if_icmp .ne 7, 3) := by decide +kernel
theorem dX5_take_109 : decode cX5_take 109 = .ok (.iconst 0, 1) := by decide +kernel
theorem dX5_take_110 : decode cX5_take 110 = .ok (.goto 6, 3) := by decide +kernel
theorem dX5_take_113 : decode cX5_take 113 = .ok (.iload_n 3, 1) := by decide +kernel
theorem dX5_take_114 : decode cX5_take 114 = .ok (.iconst 1, 1) := by decide +kernel
theorem dX5_take_115 : decode cX5_take 115 = .ok (.iadd, 1) := by decide +kernel
theorem dX5_take_116 : decode cX5_take 116 = .ok (.putfield 80, 3) := by decide +kernel
theorem dX5_take_119 : decode cX5_take 119 = .ok (.aload_n 0, 1) := by decide +kernel
theorem dX5_take_120 : decode cX5_take 120 = .ok (.dup, 1) := by decide +kernel
theorem dX5_take_121 : decode cX5_take 121 = .ok (.getfield 86, 3) := by decide +kernel
theorem dX5_take_124 : decode cX5_take 124 = .ok (.iconst 1, 1) := by decide +kernel
theorem dX5_take_125 : decode cX5_take 125 = .ok (.iadd, 1) := by decide +kernel
theorem dX5_take_126 : decode cX5_take 126 = .ok (.putfield 86, 3) := by decide +kernel
theorem dX5_take_129 : decode cX5_take 129 = .ok (.aload_n 0, 1) := by decide +kernel
theorem dX5_take_130 : decode cX5_take 130 = .ok (.dup, 1) := by decide +kernel
theorem dX5_take_131 : decode cX5_take 131 = .ok (.getfield 89, 3) := by decide +kernel
theorem dX5_take_134 : decode cX5_take 134 = .ok (.aload_n 0, 1) := by decide +kernel
theorem dX5_take_135 : decode cX5_take 135 = .ok (.invokevirtual 92, 3) := by decide +kernel
theorem dX5_take_138 : decode cX5_take 138 = .ok (.aload_n 0, 1) := by decide +kernel
theorem dX5_take_139 : decode cX5_take 139 = .ok (.getfield 96, 3) := by decide +kernel
theorem dX5_take_142 : decode cX5_take 142 = .ok (.if_icmp .ne 7, 3) := by decide +kernel
theorem dX5_take_145 : decode cX5_take 145 = .ok (.iconst 1, 1) := by decide +kernel
theorem dX5_take_146 : decode cX5_take 146 = .ok (.goto 4, 3) := by decide +kernel
theorem dX5_take_149 : decode cX5_take 149 = .ok (.iconst 0, 1) := by decide +kernel
theorem dX5_take_150 : decode cX5_take 150 = .ok (.iadd, 1) := by decide +kernel
theorem dX5_take_151 : decode cX5_take 151 = .ok (.putfield 89, 3) := by decide +kernel
theorem dX5_take_154 : decode cX5_take 154 = .ok (.return_, 1) := by decide +kernel
theorem dX5_perform_0 : decode cX5_perform 0 = .ok (.iload_n 2, 1) := by decide +kernel
theorem dX5_perform_1 : decode cX5_perform 1 = .ok (.iconst 4, 1) := by decide +kernel
theorem dX5_perform_2 : decode cX5_perform 2 = .ok (.idiv, 1) := by decide +kernel
theorem dX5_perform_3 : decode cX5_perform 3 = .ok (.istore 4, 2) := by decide +kernel
theorem dX5_perform_5 : decode cX5_perform 5 = .ok (.aload_n 0, 1) := by decide +kernel
theorem dX5_perform_6 : decode cX5_perform 6 = .ok (.getfield 26, 3) := by decide +kernel
theorem dX5_perform_9 : decode cX5_perform 9 = .ok (.iconst 0, 1) := by decide +kernel
theorem dX5_perform_10 : decode cX5_perform 10 = .ok (.iload_n 1, 1) := by decide +kernel
theorem dX5_perform_11 : decode cX5_perform 11 = .ok (.iload 4, 2) := by decide +kernel
theorem dX5_perform_13 : decode cX5_perform 13 = .ok (.invokestatic 58, 3) := by decide +kernel
theorem dX5_perform_16 : decode cX5_perform 16 = .ok (.iaload, 1) := by decide +kernel
theorem dX5_perform_17 : decode cX5_perform 17 = .ok (.istore 5, 2) := by decide +kernel
theorem dX5_perform_19 : decode cX5_perform 19 = .ok (.aload_n 0, 1) := by decide +kernel
theorem dX5_perform_20 : decode cX5_perform 20 = .ok (.iload_n 1, 1) := by decide +kernel
theorem dX5_perform_21 : decode cX5_perform 21 = .ok (.iload 4, 2) := by decide +kernel
theorem dX5_perform_23 : decode cX5_perform 23 = .ok (.invokevirtual 99, 3) := by decide +kernel
theorem dX5_perform_26 : decode cX5_perform 26 = .ok (.istore 6, 2) := by decide +kernel
theorem dX5_perform_28 : decode cX5_perform 28 = .ok (.iload 6, 2) := by decide +kernel
theorem dX5_perform_30 : decode cX5_perform 30 = .ok (.ifCond .eq 10, 3) := by decide +kernel
theorem dX5_perform_33 : decode cX5_perform 33 = .ok (.aload_n 0, 1) := by decide +kernel
theorem dX5_perform_34 : decode cX5_perform 34 = .ok (.iload_n 1, 1) := by decide +kernel
theorem dX5_perform_35 : decode cX5_perform 35 = .ok (.iload 4, 2) := by decide +kernel
theorem dX5_perform_37 : decode cX5_perform 37 = .ok (.invokevirtual 103, 3) := by decide +kernel
theorem dX5_perform_40 : decode cX5_perform 40 = .ok (.aload_n 0, 1) := by decide +kernel
theorem dX5_perform_41 : decode cX5_perform 41 = .ok (.getfield 36, 3) := by decide +kernel
theorem dX5_perform_44 : decode cX5_perform 44 = .ok (.iconst 4, 1) := by decide +kernel
theorem dX5_perform_45 : decode cX5_perform 45 = .ok (.aload_n 0, 1) := by decide +kernel
theorem dX5_perform_46 : decode cX5_perform 46 = .ok (.getfield 26, 3) := by decide +kernel
theorem dX5_perform_49 : decode cX5_perform 49 = .ok (.iconst 0, 1) := by decide +kernel
theorem dX5_perform_50 : decode cX5_perform 50 = .ok (.iload_n 1, 1) := by decide +kernel
theorem dX5_perform_51 : decode cX5_perform 51 = .ok (.iload 4, 2) := by decide +kernel
theorem dX5_perform_53 : decode cX5_perform 53 = .ok (.invokestatic 58, 3) := by decide +kernel
theorem dX5_perform_56 : decode cX5_perform 56 = .ok (.iaload, 1) := by decide +kernel
theorem dX5_perform_57 : decode cX5_perform 57 = .ok (.imul, 1) := by decide +kernel
theorem dX5_perform_58 : decode cX5_perform 58 = .ok (.iload_n 2, 1) := by decide +kernel
theorem dX5_perform_59 : decode cX5_perform 59 = .ok (.iconst 4, 1) := by decide +kernel
theorem dX5_perform_60 : decode cX5_perform 60 = .ok (.irem, 1) := by decide +kernel
theorem dX5_perform_61 : decode cX5_perform 61 = .ok (.iadd, 1) := by decide +kernel
theorem dX5_perform_62 : decode cX5_perform 62 = .ok (.iload_n 3, 1) := by decide +kernel
theorem dX5_perform_63 : decode cX5_perform 63 = .ok (.iastore, 1) := by decide +kernel
theorem dX5_perform_64 : decode cX5_perform 64 = .ok (.iload 6, 2) := by decide +kernel
theorem dX5_perform_66 : decode cX5_perform 66 = .ok (.ifCond .ne 7, 3) := by decide +kernel
theorem dX5_perform_69 : decode cX5_perform 69 = .ok (.iconst 0, 1) := by decide +kernel
theorem dX5_perform_70 : decode cX5_perform 70 = .ok (.goto 14, 3) := by decide +kernel
theorem dX5_perform_73 : decode cX5_perform 73 = .ok (.iload 5, 2) := by decide +kernel
theorem dX5_perform_75 : decode cX5_perform 75 = .ok (.iconst (-1), 1) := by decide +kernel
theorem dX5_perform_76 : decode cX5_perform 76 = .ok (.if_icmp .ne 7, 3) := by decide +kernel
theorem dX5_perform_79 : decode cX5_perform 79 = .ok (.iconst 1, 1) := by decide +kernel
theorem dX5_perform_80 : decode cX5_perform 80 = .ok (.goto 4, 3) := by decide +kernel
theorem dX5_perform_83 : decode cX5_perform 83 = .ok (.iconst 2, 1) := by decide +kernel
theorem dX5_perform_84 : decode cX5_perform 84 = .ok (.ireturn, 1) := by decide +kernel
theorem dX5_waits_0 : decode cX5_waits 0 = .ok (.iconst 0, 1) := by decide +kernel
theorem dX5_waits_1 : decode cX5_waits 1 = .ok (.istore_n 3, 1) := by decide +kernel
theorem dX5_waits_2 : decode cX5_waits 2 = .ok (.iconst 0, 1) := by decide +kernel
theorem dX5_waits_3 : decode cX5_waits 3 = .ok (.istore 4, 2) := by decide +kernel
theorem dX5_waits_5 : decode cX5_waits 5 = .ok (.iload 4, 2) := by decide +kernel
theorem dX5_waits_7 : decode cX5_waits 7 = .ok (.aload_n 0, 1) := by decide +kernel
theorem dX5_waits_8 : decode cX5_waits 8 = .ok (.getfield 107, 3) := by decide +kernel
theorem dX5_waits_11 : decode cX5_waits 11 = .ok (.if_icmp .ge 43, 3) := by decide +kernel
theorem dX5_waits_14 : decode cX5_waits 14 = .ok (.iload_n 3, 1) := by decide +kernel
theorem dX5_waits_15 : decode cX5_waits 15 = .ok (.ifCond .ne 27, 3) := by decide +kernel
theorem dX5_waits_18 : decode cX5_waits 18 = .ok (.aload_n 0, 1) := by decide +kernel
theorem dX5_waits_19 : decode cX5_waits 19 = .ok (.getfield 42, 3) := by decide +kernel
theorem dX5_waits_22 : decode cX5_waits 22 = .ok (.iload 4, 2) := by decide +kernel
theorem dX5_waits_24 : decode cX5_waits 24 = .ok (.iaload, 1) := by decide +kernel
theorem dX5_waits_25 : decode cX5_waits 25 = .ok (.iload_n 1, 1) := by decide +kernel
theorem dX5_waits_26 : decode cX5_waits 26 = .ok (.if_icmp .ne 20, 3) := by decide +kernel
theorem dX5_waits_29 : decode cX5_waits 29 = .ok (.aload_n 0, 1) := by decide +kernel
theorem dX5_waits_30 : decode cX5_waits 30 = .ok (.getfield 45, 3) := by decide +kernel
theorem dX5_waits_33 : decode cX5_waits 33 = .ok (.iload 4, 2) := by decide +kernel
theorem dX5_waits_35 : decode cX5_waits 35 = .ok (.iaload, 1) := by decide +kernel
theorem dX5_waits_36 : decode cX5_waits 36 = .ok (.iconst 4, 1) := by decide +kernel
theorem dX5_waits_37 : decode cX5_waits 37 = .ok (.idiv, 1) := by decide +kernel
theorem dX5_waits_38 : decode cX5_waits 38 = .ok (.iload_n 2, 1) := by decide +kernel
theorem dX5_waits_39 : decode cX5_waits 39 = .ok (.if_icmp .ne 7, 3) := by decide +kernel
theorem dX5_waits_42 : decode cX5_waits 42 = .ok (.iconst 1, 1) := by decide +kernel
theorem dX5_waits_43 : decode cX5_waits 43 = .ok (.goto 4, 3) := by decide +kernel
theorem dX5_waits_46 : decode cX5_waits 46 = .ok (.iconst 0, 1) := by decide +kernel
theorem dX5_waits_47 : decode cX5_waits 47 = .ok (.istore_n 3, 1) := by decide +kernel
theorem dX5_waits_48 : decode cX5_waits 48 = .ok (.iinc 4 1, 3) := by decide +kernel
theorem dX5_waits_51 : decode cX5_waits 51 = .ok (.goto (-46), 3) := by decide +kernel
theorem dX5_waits_54 : decode cX5_waits 54 = .ok (.iload_n 3, 1) := by decide +kernel
theorem dX5_waits_55 : decode cX5_waits 55 = .ok (.ireturn, 1) := by decide +kernel
theorem dX5_enqueue_0 : decode cX5_enqueue 0 = .ok (.aload_n 0, 1) := by decide +kernel
theorem dX5_enqueue_1 : decode cX5_enqueue 1 = .ok (.getfield 107, 3) := by decide +kernel
theorem dX5_enqueue_4 : decode cX5_enqueue 4 = .ok (.bipush 8, 2) := by decide +kernel
theorem dX5_enqueue_6 : decode cX5_enqueue 6 = .ok (.if_icmp .ne 5, 3) := by decide +kernel
theorem dX5_enqueue_9 : decode cX5_enqueue 9 = .ok (.iconst (-1), 1) := by decide +kernel
theorem dX5_enqueue_10 : decode cX5_enqueue 10 = .ok (.ireturn, 1) := by decide +kernel
theorem dX5_enqueue_11 : decode cX5_enqueue 11 = .ok (.aload_n 0, 1) := by decide +kernel
theorem dX5_enqueue_12 : decode cX5_enqueue 12 = .ok (.getfield 42, 3) := by decide +kernel
theorem dX5_enqueue_15 : decode cX5_enqueue 15 = .ok (.aload_n 0, 1) := by decide +kernel
theorem dX5_enqueue_16 : decode cX5_enqueue 16 = .ok (.getfield 107, 3) := by decide +kernel
theorem dX5_enqueue_19 : decode cX5_enqueue 19 = .ok (.iload_n 1, 1) := by decide +kernel
theorem dX5_enqueue_20 : decode cX5_enqueue 20 = .ok (.iastore, 1) := by decide +kernel
theorem dX5_enqueue_21 : decode cX5_enqueue 21 = .ok (.aload_n 0, 1) := by decide +kernel
theorem dX5_enqueue_22 : decode cX5_enqueue 22 = .ok (.getfield 45, 3) := by decide +kernel
theorem dX5_enqueue_25 : decode cX5_enqueue 25 = .ok (.aload_n 0, 1) := by decide +kernel
theorem dX5_enqueue_26 : decode cX5_enqueue 26 = .ok (.getfield 107, 3) := by decide +kernel
theorem dX5_enqueue_29 : decode cX5_enqueue 29 = .ok (.iload_n 2, 1) := by decide +kernel
theorem dX5_enqueue_30 : decode cX5_enqueue 30 = .ok (.iastore, 1) := by decide +kernel
theorem dX5_enqueue_31 : decode cX5_enqueue 31 = .ok (.aload_n 0, 1) := by decide +kernel
theorem dX5_enqueue_32 : decode cX5_enqueue 32 = .ok (.getfield 48, 3) := by decide +kernel
theorem dX5_enqueue_35 : decode cX5_enqueue 35 = .ok (.aload_n 0, 1) := by decide +kernel
theorem dX5_enqueue_36 : decode cX5_enqueue 36 = .ok (.getfield 107, 3) := by decide +kernel
theorem dX5_enqueue_39 : decode cX5_enqueue 39 = .ok (.iload_n 3, 1) := by decide +kernel
theorem dX5_enqueue_40 : decode cX5_enqueue 40 = .ok (.iastore, 1) := by decide +kernel
theorem dX5_enqueue_41 : decode cX5_enqueue 41 = .ok (.aload_n 0, 1) := by decide +kernel
theorem dX5_enqueue_42 : decode cX5_enqueue 42 = .ok (.dup, 1) := by decide +kernel
theorem dX5_enqueue_43 : decode cX5_enqueue 43 = .ok (.getfield 107, 3) := by decide +kernel
theorem dX5_enqueue_46 : decode cX5_enqueue 46 = .ok (.iconst 1, 1) := by decide +kernel
theorem dX5_enqueue_47 : decode cX5_enqueue 47 = .ok (.iadd, 1) := by decide +kernel
theorem dX5_enqueue_48 : decode cX5_enqueue 48 = .ok (.putfield 107, 3) := by decide +kernel
theorem dX5_enqueue_51 : decode cX5_enqueue 51 = .ok (.iconst 3, 1) := by decide +kernel
theorem dX5_enqueue_52 : decode cX5_enqueue 52 = .ok (.ireturn, 1) := by decide +kernel
theorem dX5_unqueue_0 : decode cX5_unqueue 0 = .ok (.aload_n 0, 1) := by decide +kernel
theorem dX5_unqueue_1 : decode cX5_unqueue 1 = .ok (.dup, 1) := by decide +kernel
theorem dX5_unqueue_2 : decode cX5_unqueue 2 = .ok (.getfield 107, 3) := by decide +kernel
theorem dX5_unqueue_5 : decode cX5_unqueue 5 = .ok (.iconst 1, 1) := by decide +kernel
theorem dX5_unqueue_6 : decode cX5_unqueue 6 = .ok (.isub, 1) := by decide +kernel
theorem dX5_unqueue_7 : decode cX5_unqueue 7 = .ok (.putfield 107, 3) := by decide +kernel
theorem dX5_unqueue_10 : decode cX5_unqueue 10 = .ok (.iload_n 1, 1) := by decide +kernel
theorem dX5_unqueue_11 : decode cX5_unqueue 11 = .ok (.istore_n 2, 1) := by decide +kernel
theorem dX5_unqueue_12 : decode cX5_unqueue 12 = .ok (.iload_n 2, 1) := by decide +kernel
theorem dX5_unqueue_13 : decode cX5_unqueue 13 = .ok (.aload_n 0, 1) := by decide +kernel
theorem dX5_unqueue_14 : decode cX5_unqueue 14 = .ok (.getfield 107, 3) := by decide +kernel
theorem dX5_unqueue_17 : decode cX5_unqueue 17 = .ok (.if_icmp .ge 51, 3) := by decide +kernel
theorem dX5_unqueue_20 : decode cX5_unqueue 20 = .ok (.aload_n 0, 1) := by decide +kernel
theorem dX5_unqueue_21 : decode cX5_unqueue 21 = .ok (.getfield 42, 3) := by decide +kernel
theorem dX5_unqueue_24 : decode cX5_unqueue 24 = .ok (.iload_n 2, 1) := by decide +kernel
theorem dX5_unqueue_25 : decode cX5_unqueue 25 = .ok (.aload_n 0, 1) := by decide +kernel
theorem dX5_unqueue_26 : decode cX5_unqueue 26 = .ok (.getfield 42, 3) := by decide +kernel
theorem dX5_unqueue_29 : decode cX5_unqueue 29 = .ok (.iload_n 2, 1) := by decide +kernel
theorem dX5_unqueue_30 : decode cX5_unqueue 30 = .ok (.iconst 1, 1) := by decide +kernel
theorem dX5_unqueue_31 : decode cX5_unqueue 31 = .ok (.iadd, 1) := by decide +kernel
theorem dX5_unqueue_32 : decode cX5_unqueue 32 = .ok (.iaload, 1) := by decide +kernel
theorem dX5_unqueue_33 : decode cX5_unqueue 33 = .ok (.iastore, 1) := by decide +kernel
theorem dX5_unqueue_34 : decode cX5_unqueue 34 = .ok (.aload_n 0, 1) := by decide +kernel
theorem dX5_unqueue_35 : decode cX5_unqueue 35 = .ok (.getfield 45, 3) := by decide +kernel
theorem dX5_unqueue_38 : decode cX5_unqueue 38 = .ok (.iload_n 2, 1) := by decide +kernel
theorem dX5_unqueue_39 : decode cX5_unqueue 39 = .ok (.aload_n 0, 1) := by decide +kernel
theorem dX5_unqueue_40 : decode cX5_unqueue 40 = .ok (.getfield 45, 3) := by decide +kernel
theorem dX5_unqueue_43 : decode cX5_unqueue 43 = .ok (.iload_n 2, 1) := by decide +kernel
theorem dX5_unqueue_44 : decode cX5_unqueue 44 = .ok (.iconst 1, 1) := by decide +kernel
theorem dX5_unqueue_45 : decode cX5_unqueue 45 = .ok (.iadd, 1) := by decide +kernel
theorem dX5_unqueue_46 : decode cX5_unqueue 46 = .ok (.iaload, 1) := by decide +kernel
theorem dX5_unqueue_47 : decode cX5_unqueue 47 = .ok (.iastore, 1) := by decide +kernel
theorem dX5_unqueue_48 : decode cX5_unqueue 48 = .ok (.aload_n 0, 1) := by decide +kernel
theorem dX5_unqueue_49 : decode cX5_unqueue 49 = .ok (.getfield 48, 3) := by decide +kernel
theorem dX5_unqueue_52 : decode cX5_unqueue 52 = .ok (.iload_n 2, 1) := by decide +kernel
theorem dX5_unqueue_53 : decode cX5_unqueue 53 = .ok (.aload_n 0, 1) := by decide +kernel
theorem dX5_unqueue_54 : decode cX5_unqueue 54 = .ok (.getfield 48, 3) := by decide +kernel
theorem dX5_unqueue_57 : decode cX5_unqueue 57 = .ok (.iload_n 2, 1) := by decide +kernel
theorem dX5_unqueue_58 : decode cX5_unqueue 58 = .ok (.iconst 1, 1) := by decide +kernel
theorem dX5_unqueue_59 : decode cX5_unqueue 59 = .ok (.iadd, 1) := by decide +kernel
theorem dX5_unqueue_60 : decode cX5_unqueue 60 = .ok (.iaload, 1) := by decide +kernel
theorem dX5_unqueue_61 : decode cX5_unqueue 61 = .ok (.iastore, 1) := by decide +kernel
theorem dX5_unqueue_62 : decode cX5_unqueue 62 = .ok (.iinc 2 1, 3) := by decide +kernel
theorem dX5_unqueue_65 : decode cX5_unqueue 65 = .ok (.goto (-53), 3) := by decide +kernel
theorem dX5_unqueue_68 : decode cX5_unqueue 68 = .ok (.return_, 1) := by decide +kernel
theorem dX5_drain_0 : decode cX5_drain 0 = .ok (.aload_n 0, 1) := by decide +kernel
theorem dX5_drain_1 : decode cX5_drain 1 = .ok (.getfield 110, 3) := by decide +kernel
theorem dX5_drain_4 : decode cX5_drain 4 = .ok (.iconst 1, 1) := by decide +kernel
theorem dX5_drain_5 : decode cX5_drain 5 = .ok (.if_icmp .ne 7, 3) := by decide +kernel
theorem dX5_drain_8 : decode cX5_drain 8 = .ok (.iconst 1, 1) := by decide +kernel
theorem dX5_drain_9 : decode cX5_drain 9 = .ok (.goto 4, 3) := by decide +kernel
theorem dX5_drain_12 : decode cX5_drain 12 = .ok (.iconst 0, 1) := by decide +kernel
theorem dX5_drain_13 : decode cX5_drain 13 = .ok (.istore_n 1, 1) := by decide +kernel
theorem dX5_drain_14 : decode cX5_drain 14 = .ok (.iload_n 1, 1) := by decide +kernel
theorem dX5_drain_15 : decode cX5_drain 15 = .ok (.ifCond .eq 102, 3) := by decide +kernel
theorem dX5_drain_18 : decode cX5_drain 18 = .ok (.aload_n 0, 1) := by decide +kernel
theorem dX5_drain_19 : decode cX5_drain 19 = .ok (.getfield 107, 3) := by decide +kernel
theorem dX5_drain_22 : decode cX5_drain 22 = .ok (.ifCond .le 95, 3) := by decide +kernel
theorem dX5_drain_25 : decode cX5_drain 25 = .ok (.aload_n 0, 1) := by decide +kernel
theorem dX5_drain_26 : decode cX5_drain 26 = .ok (.getfield 42, 3) := by decide +kernel
theorem dX5_drain_29 : decode cX5_drain 29 = .ok (.iconst 0, 1) := by decide +kernel
theorem dX5_drain_30 : decode cX5_drain 30 = .ok (.iaload, 1) := by decide +kernel
theorem dX5_drain_31 : decode cX5_drain 31 = .ok (.istore_n 2, 1) := by decide +kernel
theorem dX5_drain_32 : decode cX5_drain 32 = .ok (.aload_n 0, 1) := by decide +kernel
theorem dX5_drain_33 : decode cX5_drain 33 = .ok (.getfield 45, 3) := by decide +kernel
theorem dX5_drain_36 : decode cX5_drain 36 = .ok (.iconst 0, 1) := by decide +kernel
theorem dX5_drain_37 : decode cX5_drain 37 = .ok (.iaload, 1) := by decide +kernel
theorem dX5_drain_38 : decode cX5_drain 38 = .ok (.istore_n 3, 1) := by decide +kernel
theorem dX5_drain_39 : decode cX5_drain 39 = .ok (.aload_n 0, 1) := by decide +kernel
theorem dX5_drain_40 : decode cX5_drain 40 = .ok (.getfield 48, 3) := by decide +kernel
theorem dX5_drain_43 : decode cX5_drain 43 = .ok (.iconst 0, 1) := by decide +kernel
theorem dX5_drain_44 : decode cX5_drain 44 = .ok (.iaload, 1) := by decide +kernel
theorem dX5_drain_45 : decode cX5_drain 45 = .ok (.istore 4, 2) := by decide +kernel
theorem dX5_drain_47 : decode cX5_drain 47 = .ok (.aload_n 0, 1) := by decide +kernel
theorem dX5_drain_48 : decode cX5_drain 48 = .ok (.iload_n 2, 1) := by decide +kernel
theorem dX5_drain_49 : decode cX5_drain 49 = .ok (.iload_n 3, 1) := by decide +kernel
theorem dX5_drain_50 : decode cX5_drain 50 = .ok (.iconst 4, 1) := by decide +kernel
theorem dX5_drain_51 : decode cX5_drain 51 = .ok (.idiv, 1) := by decide +kernel
theorem dX5_drain_52 : decode cX5_drain 52 = .ok (.invokevirtual 113, 3) := by decide +kernel
theorem dX5_drain_55 : decode cX5_drain 55 = .ok (.ifCond .eq 21, 3) := by decide +kernel
theorem dX5_drain_58 : decode cX5_drain 58 = .ok (.aload_n 0, 1) := by decide +kernel
theorem dX5_drain_59 : decode cX5_drain 59 = .ok (.dup, 1) := by decide +kernel
theorem dX5_drain_60 : decode cX5_drain 60 = .ok (.getfield 116, 3) := by decide +kernel
theorem dX5_drain_63 : decode cX5_drain 63 = .ok (.iconst 1, 1) := by decide +kernel
theorem dX5_drain_64 : decode cX5_drain 64 = .ok (.iadd, 1) := by decide +kernel
theorem dX5_drain_65 : decode cX5_drain 65 = .ok (.putfield 116, 3) := by decide +kernel
theorem dX5_drain_68 : decode cX5_drain 68 = .ok (.aload_n 0, 1) := by decide +kernel
theorem dX5_drain_69 : decode cX5_drain 69 = .ok (.iconst 0, 1) := by decide +kernel
theorem dX5_drain_70 : decode cX5_drain 70 = .ok (.invokevirtual 119, 3) := by decide +kernel
theorem dX5_drain_73 : decode cX5_drain 73 = .ok (.goto 41, 3) := by decide +kernel
theorem dX5_drain_76 : decode cX5_drain 76 = .ok (.aload_n 0, 1) := by decide +kernel
theorem dX5_drain_77 : decode cX5_drain 77 = .ok (.iload_n 2, 1) := by decide +kernel
theorem dX5_drain_78 : decode cX5_drain 78 = .ok (.iload_n 3, 1) := by decide +kernel
theorem dX5_drain_79 : decode cX5_drain 79 = .ok (.iconst 4, 1) := by decide +kernel
theorem dX5_drain_80 : decode cX5_drain 80 = .ok (.idiv, 1) := by decide +kernel
theorem dX5_drain_81 : decode cX5_drain 81 = .ok (.invokevirtual 99, 3) := by decide +kernel
theorem dX5_drain_84 : decode cX5_drain 84 = .ok (.ifCond .eq 15, 3) := by decide +kernel
theorem dX5_drain_87 : decode cX5_drain 87 = .ok (.aload_n 0, 1) := by decide +kernel
theorem dX5_drain_88 : decode cX5_drain 88 = .ok (.invokevirtual 92, 3) := by decide +kernel
theorem dX5_drain_91 : decode cX5_drain 91 = .ok (.ifCond .ne 8, 3) := by decide +kernel
theorem dX5_drain_94 : decode cX5_drain 94 = .ok (.iconst 0, 1) := by decide +kernel
theorem dX5_drain_95 : decode cX5_drain 95 = .ok (.istore_n 1, 1) := by decide +kernel
theorem dX5_drain_96 : decode cX5_drain 96 = .ok (.goto 18, 3) := by decide +kernel
theorem dX5_drain_99 : decode cX5_drain 99 = .ok (.aload_n 0, 1) := by decide +kernel
theorem dX5_drain_100 : decode cX5_drain 100 = .ok (.iload_n 2, 1) := by decide +kernel
theorem dX5_drain_101 : decode cX5_drain 101 = .ok (.iload_n 3, 1) := by decide +kernel
theorem dX5_drain_102 : decode cX5_drain 102 = .ok (.iload 4, 2) := by decide +kernel
theorem dX5_drain_104 : decode cX5_drain 104 = .ok (.invokevirtual 123, 3) := by decide +kernel
theorem dX5_drain_107 : decode cX5_drain 107 = .ok (.istore 5, 2) := by decide +kernel
theorem dX5_drain_109 : decode cX5_drain 109 = .ok (.aload_n 0, 1) := by decide +kernel
theorem dX5_drain_110 : decode cX5_drain 110 = .ok (.iconst 0, 1) := by decide +kernel
theorem dX5_drain_111 : decode cX5_drain 111 = .ok (.invokevirtual 119, 3) := by decide +kernel
theorem dX5_drain_114 : decode cX5_drain 114 = .ok (.goto (-100), 3) := by decide +kernel
theorem dX5_drain_117 : decode cX5_drain 117 = .ok (.aload_n 0, 1) := by decide +kernel
theorem dX5_drain_118 : decode cX5_drain 118 = .ok (.iload_n 1, 1) := by decide +kernel
theorem dX5_drain_119 : decode cX5_drain 119 = .ok (.ifCond .eq 7, 3) := by decide +kernel
theorem dX5_drain_122 : decode cX5_drain 122 = .ok (.iconst 0, 1) := by decide +kernel
theorem dX5_drain_123 : decode cX5_drain 123 = .ok (.goto 7, 3) := by decide +kernel
theorem dX5_drain_126 : decode cX5_drain 126 = .ok (.aload_n 0, 1) := by decide +kernel
theorem dX5_drain_127 : decode cX5_drain 127 = .ok (.getfield 110, 3) := by decide +kernel
theorem dX5_drain_130 : decode cX5_drain 130 = .ok (.putfield 110, 3) := by decide +kernel
theorem dX5_drain_133 : decode cX5_drain 133 = .ok (.return_, 1) := by decide +kernel
theorem dX5_write_0 : decode cX5_write 0 = .ok (.aload_n 0, 1) := by decide +kernel
theorem dX5_write_1 : decode cX5_write 1 = .ok (.aload_n 0, 1) := by decide +kernel
theorem dX5_write_2 : decode cX5_write 2 = .ok (.iload_n 1, 1) := by decide +kernel
theorem dX5_write_3 : decode cX5_write 3 = .ok (.invokevirtual 126, 3) := by decide +kernel
theorem dX5_write_6 : decode cX5_write 6 = .ok (.ifCond .eq 19, 3) := by decide +kernel
theorem dX5_write_9 : decode cX5_write 9 = .ok (.iload_n 2, 1) := by decide +kernel
theorem dX5_write_10 : decode cX5_write 10 = .ok (.ifCond .lt 15, 3) := by decide +kernel
theorem dX5_write_13 : decode cX5_write 13 = .ok (.iload_n 2, 1) := by decide +kernel
theorem dX5_write_14 : decode cX5_write 14 = .ok (.iconst 4, 1) := by decide +kernel
theorem dX5_write_15 : decode cX5_write 15 = .ok (.aload_n 0, 1) := by decide +kernel
theorem dX5_write_16 : decode cX5_write 16 = .ok (.getfield 13, 3) := by decide +kernel
theorem dX5_write_19 : decode cX5_write 19 = .ok (.iload_n 1, 1) := by decide +kernel
theorem dX5_write_20 : decode cX5_write 20 = .ok (.iaload, 1) := by decide +kernel
theorem dX5_write_21 : decode cX5_write 21 = .ok (.imul, 1) := by decide +kernel
theorem dX5_write_22 : decode cX5_write 22 = .ok (.if_icmp .lt 7, 3) := by decide +kernel
theorem dX5_write_25 : decode cX5_write 25 = .ok (.iconst 1, 1) := by decide +kernel
theorem dX5_write_26 : decode cX5_write 26 = .ok (.goto 4, 3) := by decide +kernel
theorem dX5_write_29 : decode cX5_write 29 = .ok (.iconst 0, 1) := by decide +kernel
theorem dX5_write_30 : decode cX5_write 30 = .ok (.putfield 51, 3) := by decide +kernel
theorem dX5_write_33 : decode cX5_write 33 = .ok (.aload_n 0, 1) := by decide +kernel
theorem dX5_write_34 : decode cX5_write 34 = .ok (.getfield 51, 3) := by decide +kernel
theorem dX5_write_37 : decode cX5_write 37 = .ok (.ifCond .le 5, 3) := by decide +kernel
theorem dX5_write_40 : decode cX5_write 40 = .ok (.iconst 0, 1) := by decide +kernel
theorem dX5_write_41 : decode cX5_write 41 = .ok (.ireturn, 1) := by decide +kernel
theorem dX5_write_42 : decode cX5_write 42 = .ok (.iload_n 2, 1) := by decide +kernel
theorem dX5_write_43 : decode cX5_write 43 = .ok (.iconst 4, 1) := by decide +kernel
theorem dX5_write_44 : decode cX5_write 44 = .ok (.idiv, 1) := by decide +kernel
theorem dX5_write_45 : decode cX5_write 45 = .ok (.istore 4, 2) := by decide +kernel
theorem dX5_write_47 : decode cX5_write 47 = .ok (.aload_n 0, 1) := by decide +kernel
theorem dX5_write_48 : decode cX5_write 48 = .ok (.getfield 110, 3) := by decide +kernel
theorem dX5_write_51 : decode cX5_write 51 = .ok (.iconst 1, 1) := by decide +kernel
theorem dX5_write_52 : decode cX5_write 52 = .ok (.if_icmp .ne 21, 3) := by decide +kernel
theorem dX5_write_55 : decode cX5_write 55 = .ok (.aload_n 0, 1) := by decide +kernel
theorem dX5_write_56 : decode cX5_write 56 = .ok (.iload_n 1, 1) := by decide +kernel
theorem dX5_write_57 : decode cX5_write 57 = .ok (.iload 4, 2) := by decide +kernel
theorem dX5_write_59 : decode cX5_write 59 = .ok (.invokevirtual 129, 3) := by decide +kernel
theorem dX5_write_62 : decode cX5_write 62 = .ok (.ifCond .eq 11, 3) := by decide +kernel
theorem dX5_write_65 : decode cX5_write 65 = .ok (.aload_n 0, 1) := by decide +kernel
theorem dX5_write_66 : decode cX5_write 66 = .ok (.iload_n 1, 1) := by decide +kernel
theorem dX5_write_67 : decode cX5_write 67 = .ok (.iload_n 2, 1) := by decide +kernel
theorem dX5_write_68 : decode cX5_write 68 = .ok (.iload_n 3, 1) := by decide +kernel
theorem dX5_write_69 : decode cX5_write 69 = .ok (.invokevirtual 132, 3) := by decide +kernel
theorem dX5_write_72 : decode cX5_write 72 = .ok (.ireturn, 1) := by decide +kernel
theorem dX5_write_73 : decode cX5_write 73 = .ok (.aload_n 0, 1) := by decide +kernel
theorem dX5_write_74 : decode cX5_write 74 = .ok (.iload_n 1, 1) := by decide +kernel
theorem dX5_write_75 : decode cX5_write 75 = .ok (.iload 4, 2) := by decide +kernel
theorem dX5_write_77 : decode cX5_write 77 = .ok (.invokevirtual 113, 3) := by decide +kernel
theorem dX5_write_80 : decode cX5_write 80 = .ok (.ifCond .eq 5, 3) := by decide +kernel
theorem dX5_write_83 : decode cX5_write 83 = .ok (.iconst (-1), 1) := by decide +kernel
theorem dX5_write_84 : decode cX5_write 84 = .ok (.ireturn, 1) := by decide +kernel
theorem dX5_write_85 : decode cX5_write 85 = .ok (.aload_n 0, 1) := by decide +kernel
theorem dX5_write_86 : decode cX5_write 86 = .ok (.iload_n 1, 1) := by decide +kernel
theorem dX5_write_87 : decode cX5_write 87 = .ok (.iload 4, 2) := by decide +kernel
theorem dX5_write_89 : decode cX5_write 89 = .ok (.invokevirtual 99, 3) := by decide +kernel
theorem dX5_write_92 : decode cX5_write 92 = .ok (.ifCond .ne 11, 3) := by decide +kernel
theorem dX5_write_95 : decode cX5_write 95 = .ok (.aload_n 0, 1) := by decide +kernel
theorem dX5_write_96 : decode cX5_write 96 = .ok (.iload_n 1, 1) := by decide +kernel
theorem dX5_write_97 : decode cX5_write 97 = .ok (.iload_n 2, 1) := by decide +kernel
theorem dX5_write_98 : decode cX5_write 98 = .ok (.iload_n 3, 1) := by decide +kernel
theorem dX5_write_99 : decode cX5_write 99 = .ok (.invokevirtual 123, 3) := by decide +kernel
theorem dX5_write_102 : decode cX5_write 102 = .ok (.ireturn, 1) := by decide +kernel
theorem dX5_write_103 : decode cX5_write 103 = .ok (.aload_n 0, 1) := by decide +kernel
theorem dX5_write_104 : decode cX5_write 104 = .ok (.invokevirtual 92, 3) := by decide +kernel
theorem dX5_write_107 : decode cX5_write 107 = .ok (.ifCond .le 7, 3) := by decide +kernel
theorem dX5_write_110 : decode cX5_write 110 = .ok (.iconst 1, 1) := by decide +kernel
theorem dX5_write_111 : decode cX5_write 111 = .ok (.goto 4, 3) := by decide +kernel
theorem dX5_write_114 : decode cX5_write 114 = .ok (.iconst 0, 1) := by decide +kernel
theorem dX5_write_115 : decode cX5_write 115 = .ok (.istore 5, 2) := by decide +kernel
theorem dX5_write_117 : decode cX5_write 117 = .ok (.aload_n 0, 1) := by decide +kernel
theorem dX5_write_118 : decode cX5_write 118 = .ok (.getfield 110, 3) := by decide +kernel
theorem dX5_write_121 : decode cX5_write 121 = .ok (.ifCond .ne 37, 3) := by decide +kernel
theorem dX5_write_124 : decode cX5_write 124 = .ok (.iload 5, 2) := by decide +kernel
theorem dX5_write_126 : decode cX5_write 126 = .ok (.ifCond .ne 32, 3) := by decide +kernel
theorem dX5_write_129 : decode cX5_write 129 = .ok (.aload_n 0, 1) := by decide +kernel
theorem dX5_write_130 : decode cX5_write 130 = .ok (.aload_n 0, 1) := by decide +kernel
theorem dX5_write_131 : decode cX5_write 131 = .ok (.getfield 135, 3) := by decide +kernel
theorem dX5_write_134 : decode cX5_write 134 = .ok (.ifCond .le 7, 3) := by decide +kernel
theorem dX5_write_137 : decode cX5_write 137 = .ok (.iconst 1, 1) := by decide +kernel
theorem dX5_write_138 : decode cX5_write 138 = .ok (.goto 4, 3) := by decide +kernel
theorem dX5_write_141 : decode cX5_write 141 = .ok (.iconst 2, 1) := by decide +kernel
theorem dX5_write_142 : decode cX5_write 142 = .ok (.putfield 110, 3) := by decide +kernel
theorem dX5_write_145 : decode cX5_write 145 = .ok (.aload_n 0, 1) := by decide +kernel
theorem dX5_write_146 : decode cX5_write 146 = .ok (.aload_n 0, 1) := by decide +kernel
theorem dX5_write_147 : decode cX5_write 147 = .ok (.getfield 135, 3) := by decide +kernel
theorem dX5_write_150 : decode cX5_write 150 = .ok (.putfield 138, 3) := by decide +kernel
theorem dX5_write_153 : decode cX5_write 153 = .ok (.aload_n 0, 1) := by decide +kernel
theorem dX5_write_154 : decode cX5_write 154 = .ok (.iconst 0, 1) := by decide +kernel
theorem dX5_write_155 : decode cX5_write 155 = .ok (.putfield 141, 3) := by decide +kernel
theorem dX5_write_158 : decode cX5_write 158 = .ok (.aload_n 0, 1) := by decide +kernel
theorem dX5_write_159 : decode cX5_write 159 = .ok (.getfield 110, 3) := by decide +kernel
theorem dX5_write_162 : decode cX5_write 162 = .ok (.iconst 1, 1) := by decide +kernel
theorem dX5_write_163 : decode cX5_write 163 = .ok (.if_icmp .ne 11, 3) := by decide +kernel
theorem dX5_write_166 : decode cX5_write 166 = .ok (.aload_n 0, 1) := by decide +kernel
theorem dX5_write_167 : decode cX5_write 167 = .ok (.iload_n 1, 1) := by decide +kernel
theorem dX5_write_168 : decode cX5_write 168 = .ok (.iload_n 2, 1) := by decide +kernel
theorem dX5_write_169 : decode cX5_write 169 = .ok (.iload_n 3, 1) := by decide +kernel
theorem dX5_write_170 : decode cX5_write 170 = .ok (.invokevirtual 132, 3) := by decide +kernel
theorem dX5_write_173 : decode cX5_write 173 = .ok (.ireturn, 1) := by decide +kernel
theorem dX5_write_174 : decode cX5_write 174 = .ok (.iload 5, 2) := by decide +kernel
theorem dX5_write_176 : decode cX5_write 176 = .ok (.ifCond .ne 5, 3) := by decide +kernel
theorem dX5_write_179 : decode cX5_write 179 = .ok (.iconst (-1), 1) := by decide +kernel
theorem dX5_write_180 : decode cX5_write 180 = .ok (.ireturn, 1) := by decide +kernel
theorem dX5_write_181 : decode cX5_write 181 = .ok (.aload_n 0, 1) := by decide +kernel
theorem dX5_write_182 : decode cX5_write 182 = .ok (.iconst 0, 1) := by decide +kernel
theorem dX5_write_183 : decode cX5_write 183 = .ok (.putfield 110, 3) := by decide +kernel
theorem dX5_write_186 : decode cX5_write 186 = .ok (.aload_n 0, 1) := by decide +kernel
theorem dX5_write_187 : decode cX5_write 187 = .ok (.iload_n 1, 1) := by decide +kernel
theorem dX5_write_188 : decode cX5_write 188 = .ok (.iload_n 2, 1) := by decide +kernel
theorem dX5_write_189 : decode cX5_write 189 = .ok (.iload_n 3, 1) := by decide +kernel
theorem dX5_write_190 : decode cX5_write 190 = .ok (.invokevirtual 123, 3) := by decide +kernel
theorem dX5_write_193 : decode cX5_write 193 = .ok (.ireturn, 1) := by decide +kernel
theorem dX5_read_0 : decode cX5_read 0 = .ok (.aload_n 0, 1) := by decide +kernel
theorem dX5_read_1 : decode cX5_read 1 = .ok (.aload_n 0, 1) := by decide +kernel
theorem dX5_read_2 : decode cX5_read 2 = .ok (.iload_n 1, 1) := by decide +kernel
theorem dX5_read_3 : decode cX5_read 3 = .ok (.invokevirtual 126, 3) := by decide +kernel
theorem dX5_read_6 : decode cX5_read 6 = .ok (.ifCond .eq 19, 3) := by decide +kernel
theorem dX5_read_9 : decode cX5_read 9 = .ok (.iload_n 2, 1) := by decide +kernel
theorem dX5_read_10 : decode cX5_read 10 = .ok (.ifCond .lt 15, 3) := by decide +kernel
theorem dX5_read_13 : decode cX5_read 13 = .ok (.iload_n 2, 1) := by decide +kernel
theorem dX5_read_14 : decode cX5_read 14 = .ok (.iconst 4, 1) := by decide +kernel
theorem dX5_read_15 : decode cX5_read 15 = .ok (.aload_n 0, 1) := by decide +kernel
theorem dX5_read_16 : decode cX5_read 16 = .ok (.getfield 13, 3) := by decide +kernel
theorem dX5_read_19 : decode cX5_read 19 = .ok (.iload_n 1, 1) := by decide +kernel
theorem dX5_read_20 : decode cX5_read 20 = .ok (.iaload, 1) := by decide +kernel
theorem dX5_read_21 : decode cX5_read 21 = .ok (.imul, 1) := by decide +kernel
theorem dX5_read_22 : decode cX5_read 22 = .ok (.if_icmp .lt 7, 3) := by decide +kernel
theorem dX5_read_25 : decode cX5_read 25 = .ok (.iconst 1, 1) := by decide +kernel
theorem dX5_read_26 : decode cX5_read 26 = .ok (.goto 4, 3) := by decide +kernel
theorem dX5_read_29 : decode cX5_read 29 = .ok (.iconst 0, 1) := by decide +kernel
theorem dX5_read_30 : decode cX5_read 30 = .ok (.putfield 51, 3) := by decide +kernel
theorem dX5_read_33 : decode cX5_read 33 = .ok (.aload_n 0, 1) := by decide +kernel
theorem dX5_read_34 : decode cX5_read 34 = .ok (.getfield 51, 3) := by decide +kernel
theorem dX5_read_37 : decode cX5_read 37 = .ok (.ifCond .ne 12, 3) := by decide +kernel
theorem dX5_read_40 : decode cX5_read 40 = .ok (.aload_n 0, 1) := by decide +kernel
theorem dX5_read_41 : decode cX5_read 41 = .ok (.iload_n 1, 1) := by decide +kernel
theorem dX5_read_42 : decode cX5_read 42 = .ok (.iload_n 2, 1) := by decide +kernel
theorem dX5_read_43 : decode cX5_read 43 = .ok (.invokevirtual 83, 3) := by decide +kernel
theorem dX5_read_46 : decode cX5_read 46 = .ok (.goto 4, 3) := by decide +kernel
theorem dX5_read_49 : decode cX5_read 49 = .ok (.iconst 0, 1) := by decide +kernel
theorem dX5_read_50 : decode cX5_read 50 = .ok (.ireturn, 1) := by decide +kernel
theorem dX5_make_0 : decode cX5_make 0 = .ok (.aload_n 0, 1) := by decide +kernel
theorem dX5_make_1 : decode cX5_make 1 = .ok (.iload_n 1, 1) := by decide +kernel
theorem dX5_make_2 : decode cX5_make 2 = .ok (.invokestatic 54, 3) := by decide +kernel
theorem dX5_make_5 : decode cX5_make 5 = .ok (.ifCond .ne 7, 3) := by decide +kernel
theorem dX5_make_8 : decode cX5_make 8 = .ok (.iconst 1, 1) := by decide +kernel
theorem dX5_make_9 : decode cX5_make 9 = .ok (.goto 28, 3) := by decide +kernel
theorem dX5_make_12 : decode cX5_make 12 = .ok (.iload_n 2, 1) := by decide +kernel
theorem dX5_make_13 : decode cX5_make 13 = .ok (.invokestatic 144, 3) := by decide +kernel
theorem dX5_make_16 : decode cX5_make 16 = .ok (.ifCond .ne 7, 3) := by decide +kernel
theorem dX5_make_19 : decode cX5_make 19 = .ok (.iconst 2, 1) := by decide +kernel
theorem dX5_make_20 : decode cX5_make 20 = .ok (.goto 17, 3) := by decide +kernel
theorem dX5_make_23 : decode cX5_make 23 = .ok (.aload_n 0, 1) := by decide +kernel
theorem dX5_make_24 : decode cX5_make 24 = .ok (.getfield 7, 3) := by decide +kernel
theorem dX5_make_27 : decode cX5_make 27 = .ok (.iload_n 1, 1) := by decide +kernel
theorem dX5_make_28 : decode cX5_make 28 = .ok (.baload, 1) := by decide +kernel
theorem dX5_make_29 : decode cX5_make 29 = .ok (.ifCond .eq 7, 3) := by decide +kernel
theorem dX5_make_32 : decode cX5_make 32 = .ok (.iconst 3, 1) := by decide +kernel
theorem dX5_make_33 : decode cX5_make 33 = .ok (.goto 4, 3) := by decide +kernel
theorem dX5_make_36 : decode cX5_make 36 = .ok (.iconst 0, 1) := by decide +kernel
theorem dX5_make_37 : decode cX5_make 37 = .ok (.putfield 51, 3) := by decide +kernel
theorem dX5_make_40 : decode cX5_make 40 = .ok (.aload_n 0, 1) := by decide +kernel
theorem dX5_make_41 : decode cX5_make 41 = .ok (.getfield 51, 3) := by decide +kernel
theorem dX5_make_44 : decode cX5_make 44 = .ok (.ifCond .le 5, 3) := by decide +kernel
theorem dX5_make_47 : decode cX5_make 47 = .ok (.iconst 0, 1) := by decide +kernel
theorem dX5_make_48 : decode cX5_make 48 = .ok (.ireturn, 1) := by decide +kernel
theorem dX5_make_49 : decode cX5_make 49 = .ok (.aload_n 0, 1) := by decide +kernel
theorem dX5_make_50 : decode cX5_make 50 = .ok (.getfield 7, 3) := by decide +kernel
theorem dX5_make_53 : decode cX5_make 53 = .ok (.iload_n 1, 1) := by decide +kernel
theorem dX5_make_54 : decode cX5_make 54 = .ok (.iconst 1, 1) := by decide +kernel
theorem dX5_make_55 : decode cX5_make 55 = .ok (.bastore, 1) := by decide +kernel
theorem dX5_make_56 : decode cX5_make 56 = .ok (.aload_n 0, 1) := by decide +kernel
theorem dX5_make_57 : decode cX5_make 57 = .ok (.getfield 13, 3) := by decide +kernel
theorem dX5_make_60 : decode cX5_make 60 = .ok (.iload_n 1, 1) := by decide +kernel
theorem dX5_make_61 : decode cX5_make 61 = .ok (.iload_n 2, 1) := by decide +kernel
theorem dX5_make_62 : decode cX5_make 62 = .ok (.iastore, 1) := by decide +kernel
theorem dX5_make_63 : decode cX5_make 63 = .ok (.aload_n 0, 1) := by decide +kernel
theorem dX5_make_64 : decode cX5_make 64 = .ok (.getfield 17, 3) := by decide +kernel
theorem dX5_make_67 : decode cX5_make 67 = .ok (.iload_n 1, 1) := by decide +kernel
theorem dX5_make_68 : decode cX5_make 68 = .ok (.iload_n 3, 1) := by decide +kernel
theorem dX5_make_69 : decode cX5_make 69 = .ok (.bastore, 1) := by decide +kernel
theorem dX5_make_70 : decode cX5_make 70 = .ok (.aload_n 0, 1) := by decide +kernel
theorem dX5_make_71 : decode cX5_make 71 = .ok (.getfield 20, 3) := by decide +kernel
theorem dX5_make_74 : decode cX5_make 74 = .ok (.iload_n 1, 1) := by decide +kernel
theorem dX5_make_75 : decode cX5_make 75 = .ok (.iconst (-1), 1) := by decide +kernel
theorem dX5_make_76 : decode cX5_make 76 = .ok (.iastore, 1) := by decide +kernel
theorem dX5_make_77 : decode cX5_make 77 = .ok (.aload_n 0, 1) := by decide +kernel
theorem dX5_make_78 : decode cX5_make 78 = .ok (.getfield 23, 3) := by decide +kernel
theorem dX5_make_81 : decode cX5_make 81 = .ok (.iload_n 1, 1) := by decide +kernel
theorem dX5_make_82 : decode cX5_make 82 = .ok (.iconst (-1), 1) := by decide +kernel
theorem dX5_make_83 : decode cX5_make 83 = .ok (.iastore, 1) := by decide +kernel
theorem dX5_make_84 : decode cX5_make 84 = .ok (.iconst 0, 1) := by decide +kernel
theorem dX5_make_85 : decode cX5_make 85 = .ok (.istore 4, 2) := by decide +kernel
theorem dX5_make_87 : decode cX5_make 87 = .ok (.iload 4, 2) := by decide +kernel
theorem dX5_make_89 : decode cX5_make 89 = .ok (.bipush 40, 2) := by decide +kernel
theorem dX5_make_91 : decode cX5_make 91 = .ok (.if_icmp .ge 22, 3) := by decide +kernel
theorem dX5_make_94 : decode cX5_make 94 = .ok (.aload_n 0, 1) := by decide +kernel
theorem dX5_make_95 : decode cX5_make 95 = .ok (.getfield 26, 3) := by decide +kernel
theorem dX5_make_98 : decode cX5_make 98 = .ok (.iconst 0, 1) := by decide +kernel
theorem dX5_make_99 : decode cX5_make 99 = .ok (.iload_n 1, 1) := by decide +kernel
theorem dX5_make_100 : decode cX5_make 100 = .ok (.iload 4, 2) := by decide +kernel
theorem dX5_make_102 : decode cX5_make 102 = .ok (.invokestatic 58, 3) := by decide +kernel
theorem dX5_make_105 : decode cX5_make 105 = .ok (.iconst (-1), 1) := by decide +kernel
theorem dX5_make_106 : decode cX5_make 106 = .ok (.iastore, 1) := by decide +kernel
theorem dX5_make_107 : decode cX5_make 107 = .ok (.iinc 4 1, 3) := by decide +kernel
theorem dX5_make_110 : decode cX5_make 110 = .ok (.goto (-23), 3) := by decide +kernel
theorem dX5_make_113 : decode cX5_make 113 = .ok (.aload_n 0, 1) := by decide +kernel
theorem dX5_make_114 : decode cX5_make 114 = .ok (.iconst 0, 1) := by decide +kernel
theorem dX5_make_115 : decode cX5_make 115 = .ok (.invokevirtual 147, 3) := by decide +kernel
theorem dX5_make_118 : decode cX5_make 118 = .ok (.ireturn, 1) := by decide +kernel
theorem dX5_snap_0 : decode cX5_snap 0 = .ok (.aload_n 0, 1) := by decide +kernel
theorem dX5_snap_1 : decode cX5_snap 1 = .ok (.iload_n 2, 1) := by decide +kernel
theorem dX5_snap_2 : decode cX5_snap 2 = .ok (.invokestatic 54, 3) := by decide +kernel
theorem dX5_snap_5 : decode cX5_snap 5 = .ok (.ifCond .eq 11, 3) := by decide +kernel
theorem dX5_snap_8 : decode cX5_snap 8 = .ok (.aload_n 0, 1) := by decide +kernel
theorem dX5_snap_9 : decode cX5_snap 9 = .ok (.iload_n 1, 1) := by decide +kernel
theorem dX5_snap_10 : decode cX5_snap 10 = .ok (.invokevirtual 126, 3) := by decide +kernel
theorem dX5_snap_13 : decode cX5_snap 13 = .ok (.ifCond .ne 7, 3) := by decide +kernel
theorem dX5_snap_16 : decode cX5_snap 16 = .ok (.iconst 1, 1) := by decide +kernel
theorem dX5_snap_17 : decode cX5_snap 17 = .ok (.goto 17, 3) := by decide +kernel
theorem dX5_snap_20 : decode cX5_snap 20 = .ok (.aload_n 0, 1) := by decide +kernel
theorem dX5_snap_21 : decode cX5_snap 21 = .ok (.getfield 7, 3) := by decide +kernel
theorem dX5_snap_24 : decode cX5_snap 24 = .ok (.iload_n 2, 1) := by decide +kernel
theorem dX5_snap_25 : decode cX5_snap 25 = .ok (.baload, 1) := by decide +kernel
theorem dX5_snap_26 : decode cX5_snap 26 = .ok (.ifCond .eq 7, 3) := by decide +kernel
theorem dX5_snap_29 : decode cX5_snap 29 = .ok (.iconst 2, 1) := by decide +kernel
theorem dX5_snap_30 : decode cX5_snap 30 = .ok (.goto 4, 3) := by decide +kernel
theorem dX5_snap_33 : decode cX5_snap 33 = .ok (.iconst 0, 1) := by decide +kernel
theorem dX5_snap_34 : decode cX5_snap 34 = .ok (.putfield 51, 3) := by decide +kernel
theorem dX5_snap_37 : decode cX5_snap 37 = .ok (.aload_n 0, 1) := by decide +kernel
theorem dX5_snap_38 : decode cX5_snap 38 = .ok (.getfield 51, 3) := by decide +kernel
theorem dX5_snap_41 : decode cX5_snap 41 = .ok (.ifCond .le 5, 3) := by decide +kernel
theorem dX5_snap_44 : decode cX5_snap 44 = .ok (.iconst 0, 1) := by decide +kernel
theorem dX5_snap_45 : decode cX5_snap 45 = .ok (.ireturn, 1) := by decide +kernel
theorem dX5_snap_46 : decode cX5_snap 46 = .ok (.aload_n 0, 1) := by decide +kernel
theorem dX5_snap_47 : decode cX5_snap 47 = .ok (.iconst 0, 1) := by decide +kernel
theorem dX5_snap_48 : decode cX5_snap 48 = .ok (.iload_n 1, 1) := by decide +kernel
theorem dX5_snap_49 : decode cX5_snap 49 = .ok (.iconst 0, 1) := by decide +kernel
theorem dX5_snap_50 : decode cX5_snap 50 = .ok (.iload_n 2, 1) := by decide +kernel
theorem dX5_snap_51 : decode cX5_snap 51 = .ok (.invokevirtual 69, 3) := by decide +kernel
theorem dX5_snap_54 : decode cX5_snap 54 = .ok (.aload_n 0, 1) := by decide +kernel
theorem dX5_snap_55 : decode cX5_snap 55 = .ok (.getfield 23, 3) := by decide +kernel
theorem dX5_snap_58 : decode cX5_snap 58 = .ok (.iload_n 2, 1) := by decide +kernel
theorem dX5_snap_59 : decode cX5_snap 59 = .ok (.iload_n 1, 1) := by decide +kernel
theorem dX5_snap_60 : decode cX5_snap 60 = .ok (.iastore, 1) := by decide +kernel
theorem dX5_snap_61 : decode cX5_snap 61 = .ok (.aload_n 0, 1) := by decide +kernel
theorem dX5_snap_62 : decode cX5_snap 62 = .ok (.iload_n 2, 1) := by decide +kernel
theorem dX5_snap_63 : decode cX5_snap 63 = .ok (.invokevirtual 76, 3) := by decide +kernel
theorem dX5_snap_66 : decode cX5_snap 66 = .ok (.ireturn, 1) := by decide +kernel
theorem dX5_drop_0 : decode cX5_drop 0 = .ok (.aload_n 0, 1) := by decide +kernel
theorem dX5_drop_1 : decode cX5_drop 1 = .ok (.aload_n 0, 1) := by decide +kernel
theorem dX5_drop_2 : decode cX5_drop 2 = .ok (.iload_n 1, 1) := by decide +kernel
theorem dX5_drop_3 : decode cX5_drop 3 = .ok (.invokevirtual 126, 3) := by decide +kernel
theorem dX5_drop_6 : decode cX5_drop 6 = .ok (.ifCond .ne 7, 3) := by decide +kernel
theorem dX5_drop_9 : decode cX5_drop 9 = .ok (.iconst 1, 1) := by decide +kernel
theorem dX5_drop_10 : decode cX5_drop 10 = .ok (.goto 4, 3) := by decide +kernel
theorem dX5_drop_13 : decode cX5_drop 13 = .ok (.iconst 0, 1) := by decide +kernel
theorem dX5_drop_14 : decode cX5_drop 14 = .ok (.putfield 51, 3) := by decide +kernel
theorem dX5_drop_17 : decode cX5_drop 17 = .ok (.aload_n 0, 1) := by decide +kernel
theorem dX5_drop_18 : decode cX5_drop 18 = .ok (.getfield 51, 3) := by decide +kernel
theorem dX5_drop_21 : decode cX5_drop 21 = .ok (.ifCond .le 5, 3) := by decide +kernel
theorem dX5_drop_24 : decode cX5_drop 24 = .ok (.iconst 0, 1) := by decide +kernel
theorem dX5_drop_25 : decode cX5_drop 25 = .ok (.ireturn, 1) := by decide +kernel
theorem dX5_drop_26 : decode cX5_drop 26 = .ok (.aload_n 0, 1) := by decide +kernel
theorem dX5_drop_27 : decode cX5_drop 27 = .ok (.iload_n 1, 1) := by decide +kernel
theorem dX5_drop_28 : decode cX5_drop 28 = .ok (.invokevirtual 76, 3) := by decide +kernel
theorem dX5_drop_31 : decode cX5_drop 31 = .ok (.istore_n 2, 1) := by decide +kernel
theorem dX5_drop_32 : decode cX5_drop 32 = .ok (.iconst 0, 1) := by decide +kernel
theorem dX5_drop_33 : decode cX5_drop 33 = .ok (.istore_n 3, 1) := by decide +kernel
theorem dX5_drop_34 : decode cX5_drop 34 = .ok (.iload_n 3, 1) := by decide +kernel
theorem dX5_drop_35 : decode cX5_drop 35 = .ok (.aload_n 0, 1) := by decide +kernel
theorem dX5_drop_36 : decode cX5_drop 36 = .ok (.getfield 107, 3) := by decide +kernel
theorem dX5_drop_39 : decode cX5_drop 39 = .ok (.if_icmp .ge 37, 3) := by decide +kernel
theorem dX5_drop_42 : decode cX5_drop 42 = .ok (.aload_n 0, 1) := by decide +kernel
theorem dX5_drop_43 : decode cX5_drop 43 = .ok (.getfield 42, 3) := by decide +kernel
theorem dX5_drop_46 : decode cX5_drop 46 = .ok (.iload_n 3, 1) := by decide +kernel
theorem dX5_drop_47 : decode cX5_drop 47 = .ok (.iaload, 1) := by decide +kernel
theorem dX5_drop_48 : decode cX5_drop 48 = .ok (.iload_n 1, 1) := by decide +kernel
theorem dX5_drop_49 : decode cX5_drop 49 = .ok (.if_icmp .ne 21, 3) := by decide +kernel
theorem dX5_drop_52 : decode cX5_drop 52 = .ok (.aload_n 0, 1) := by decide +kernel
theorem dX5_drop_53 : decode cX5_drop 53 = .ok (.dup, 1) := by decide +kernel
theorem dX5_drop_54 : decode cX5_drop 54 = .ok (.getfield 116, 3) := by decide +kernel
theorem dX5_drop_57 : decode cX5_drop 57 = .ok (.iconst 1, 1) := by decide +kernel
theorem dX5_drop_58 : decode cX5_drop 58 = .ok (.iadd, 1) := by decide +kernel
theorem dX5_drop_59 : decode cX5_drop 59 = .ok (.putfield 116, 3) := by decide +kernel
theorem dX5_drop_62 : decode cX5_drop 62 = .ok (.aload_n 0, 1) := by decide +kernel
theorem dX5_drop_63 : decode cX5_drop 63 = .ok (.iload_n 3, 1) := by decide +kernel
theorem dX5_drop_64 : decode cX5_drop 64 = .ok (.invokevirtual 119, 3) := by decide +kernel
theorem dX5_drop_67 : decode cX5_drop 67 = .ok (.goto (-33), 3) := by decide +kernel
theorem dX5_drop_70 : decode cX5_drop 70 = .ok (.iinc 3 1, 3) := by decide +kernel
theorem dX5_drop_73 : decode cX5_drop 73 = .ok (.goto (-39), 3) := by decide +kernel
theorem dX5_drop_76 : decode cX5_drop 76 = .ok (.aload_n 0, 1) := by decide +kernel
theorem dX5_drop_77 : decode cX5_drop 77 = .ok (.getfield 7, 3) := by decide +kernel
theorem dX5_drop_80 : decode cX5_drop 80 = .ok (.iload_n 1, 1) := by decide +kernel
theorem dX5_drop_81 : decode cX5_drop 81 = .ok (.iconst 0, 1) := by decide +kernel
theorem dX5_drop_82 : decode cX5_drop 82 = .ok (.bastore, 1) := by decide +kernel
theorem dX5_drop_83 : decode cX5_drop 83 = .ok (.aload_n 0, 1) := by decide +kernel
theorem dX5_drop_84 : decode cX5_drop 84 = .ok (.invokevirtual 150, 3) := by decide +kernel
theorem dX5_drop_87 : decode cX5_drop 87 = .ok (.iload_n 2, 1) := by decide +kernel
theorem dX5_drop_88 : decode cX5_drop 88 = .ok (.ireturn, 1) := by decide +kernel
theorem dX5_waitsIn_0 : decode cX5_waitsIn 0 = .ok (.iconst 0, 1) := by decide +kernel
theorem dX5_waitsIn_1 : decode cX5_waitsIn 1 = .ok (.istore 4, 2) := by decide +kernel
theorem dX5_waitsIn_3 : decode cX5_waitsIn 3 = .ok (.iload_n 2, 1) := by decide +kernel
theorem dX5_waitsIn_4 : decode cX5_waitsIn 4 = .ok (.istore 5, 2) := by decide +kernel
theorem dX5_waitsIn_6 : decode cX5_waitsIn 6 = .ok (.iload 5, 2) := by decide +kernel
theorem dX5_waitsIn_8 : decode cX5_waitsIn 8 = .ok (.iload_n 3, 1) := by decide +kernel
theorem dX5_waitsIn_9 : decode cX5_waitsIn 9 = .ok (.if_icmp .ge 31, 3) := by decide +kernel
theorem dX5_waitsIn_12 : decode cX5_waitsIn 12 = .ok (.iload 4, 2) := by decide +kernel
theorem dX5_waitsIn_14 : decode cX5_waitsIn 14 = .ok (.ifCond .ne 13, 3) := by decide +kernel
theorem dX5_waitsIn_17 : decode cX5_waitsIn 17 = .ok (.aload_n 0, 1) := by decide +kernel
theorem dX5_waitsIn_18 : decode cX5_waitsIn 18 = .ok (.iload_n 1, 1) := by decide +kernel
theorem dX5_waitsIn_19 : decode cX5_waitsIn 19 = .ok (.iload 5, 2) := by decide +kernel
theorem dX5_waitsIn_21 : decode cX5_waitsIn 21 = .ok (.invokevirtual 129, 3) := by decide +kernel
theorem dX5_waitsIn_24 : decode cX5_waitsIn 24 = .ok (.ifCond .eq 7, 3) := by decide +kernel
theorem dX5_waitsIn_27 : decode cX5_waitsIn 27 = .ok (.iconst 1, 1) := by decide +kernel
theorem dX5_waitsIn_28 : decode cX5_waitsIn 28 = .ok (.goto 4, 3) := by decide +kernel
theorem dX5_waitsIn_31 : decode cX5_waitsIn 31 = .ok (.iconst 0, 1) := by decide +kernel
theorem dX5_waitsIn_32 : decode cX5_waitsIn 32 = .ok (.istore 4, 2) := by decide +kernel
theorem dX5_waitsIn_34 : decode cX5_waitsIn 34 = .ok (.iinc 5 1, 3) := by decide +kernel
theorem dX5_waitsIn_37 : decode cX5_waitsIn 37 = .ok (.goto (-31), 3) := by decide +kernel
theorem dX5_waitsIn_40 : decode cX5_waitsIn 40 = .ok (.iload 4, 2) := by decide +kernel
theorem dX5_waitsIn_42 : decode cX5_waitsIn 42 = .ok (.ireturn, 1) := by decide +kernel
theorem dX5_unmap_0 : decode cX5_unmap 0 = .ok (.iconst 0, 1) := by decide +kernel
theorem dX5_unmap_1 : decode cX5_unmap 1 = .ok (.istore 4, 2) := by decide +kernel
theorem dX5_unmap_3 : decode cX5_unmap 3 = .ok (.iload_n 2, 1) := by decide +kernel
theorem dX5_unmap_4 : decode cX5_unmap 4 = .ok (.istore 5, 2) := by decide +kernel
theorem dX5_unmap_6 : decode cX5_unmap 6 = .ok (.iload 5, 2) := by decide +kernel
theorem dX5_unmap_8 : decode cX5_unmap 8 = .ok (.iload_n 3, 1) := by decide +kernel
theorem dX5_unmap_9 : decode cX5_unmap 9 = .ok (.if_icmp .ge 48, 3) := by decide +kernel
theorem dX5_unmap_12 : decode cX5_unmap 12 = .ok (.iload 4, 2) := by decide +kernel
theorem dX5_unmap_14 : decode cX5_unmap 14 = .ok (.aload_n 0, 1) := by decide +kernel
theorem dX5_unmap_15 : decode cX5_unmap 15 = .ok (.getfield 26, 3) := by decide +kernel
theorem dX5_unmap_18 : decode cX5_unmap 18 = .ok (.iconst 0, 1) := by decide +kernel
theorem dX5_unmap_19 : decode cX5_unmap 19 = .ok (.iload_n 1, 1) := by decide +kernel
theorem dX5_unmap_20 : decode cX5_unmap 20 = .ok (.iload 5, 2) := by decide +kernel
theorem dX5_unmap_22 : decode cX5_unmap 22 = .ok (.invokestatic 58, 3) := by decide +kernel
theorem dX5_unmap_25 : decode cX5_unmap 25 = .ok (.iaload, 1) := by decide +kernel
theorem dX5_unmap_26 : decode cX5_unmap 26 = .ok (.iconst (-1), 1) := by decide +kernel
theorem dX5_unmap_27 : decode cX5_unmap 27 = .ok (.if_icmp .eq 7, 3) := by decide +kernel
theorem dX5_unmap_30 : decode cX5_unmap 30 = .ok (.iconst 1, 1) := by decide +kernel
theorem dX5_unmap_31 : decode cX5_unmap 31 = .ok (.goto 4, 3) := by decide +kernel
theorem dX5_unmap_34 : decode cX5_unmap 34 = .ok (.iconst 0, 1) := by decide +kernel
theorem dX5_unmap_35 : decode cX5_unmap 35 = .ok (.iadd, 1) := by decide +kernel
theorem dX5_unmap_36 : decode cX5_unmap 36 = .ok (.istore 4, 2) := by decide +kernel
theorem dX5_unmap_38 : decode cX5_unmap 38 = .ok (.aload_n 0, 1) := by decide +kernel
theorem dX5_unmap_39 : decode cX5_unmap 39 = .ok (.getfield 26, 3) := by decide +kernel
theorem dX5_unmap_42 : decode cX5_unmap 42 = .ok (.iconst 0, 1) := by decide +kernel
theorem dX5_unmap_43 : decode cX5_unmap 43 = .ok (.iload_n 1, 1) := by decide +kernel
theorem dX5_unmap_44 : decode cX5_unmap 44 = .ok (.iload 5, 2) := by decide +kernel
theorem dX5_unmap_46 : decode cX5_unmap 46 = .ok (.invokestatic 58, 3) := by decide +kernel
theorem dX5_unmap_49 : decode cX5_unmap 49 = .ok (.iconst (-1), 1) := by decide +kernel
theorem dX5_unmap_50 : decode cX5_unmap 50 = .ok (.iastore, 1) := by decide +kernel
theorem dX5_unmap_51 : decode cX5_unmap 51 = .ok (.iinc 5 1, 3) := by decide +kernel
theorem dX5_unmap_54 : decode cX5_unmap 54 = .ok (.goto (-48), 3) := by decide +kernel
theorem dX5_unmap_57 : decode cX5_unmap 57 = .ok (.iload 4, 2) := by decide +kernel
theorem dX5_unmap_59 : decode cX5_unmap 59 = .ok (.ireturn, 1) := by decide +kernel
theorem dX5_resize_0 : decode cX5_resize 0 = .ok (.aload_n 0, 1) := by decide +kernel
theorem dX5_resize_1 : decode cX5_resize 1 = .ok (.aload_n 0, 1) := by decide +kernel
theorem dX5_resize_2 : decode cX5_resize 2 = .ok (.iload_n 1, 1) := by decide +kernel
theorem dX5_resize_3 : decode cX5_resize 3 = .ok (.invokevirtual 126, 3) := by decide +kernel
theorem dX5_resize_6 : decode cX5_resize 6 = .ok (.ifCond .ne 7, 3) := by decide +kernel
theorem dX5_resize_9 : decode cX5_resize 9 = .ok (.iconst 1, 1) := by decide +kernel
theorem dX5_resize_10 : decode cX5_resize 10 = .ok (.goto 34, 3) := by decide +kernel
theorem dX5_resize_13 : decode cX5_resize 13 = .ok (.iload_n 2, 1) := by decide +kernel
theorem dX5_resize_14 : decode cX5_resize 14 = .ok (.invokestatic 144, 3) := by decide +kernel
theorem dX5_resize_17 : decode cX5_resize 17 = .ok (.ifCond .ne 7, 3) := by decide +kernel
theorem dX5_resize_20 : decode cX5_resize 20 = .ok (.iconst 2, 1) := by decide +kernel
theorem dX5_resize_21 : decode cX5_resize 21 = .ok (.goto 23, 3) := by decide +kernel
theorem dX5_resize_24 : decode cX5_resize 24 = .ok (.aload_n 0, 1) := by decide +kernel
theorem dX5_resize_25 : decode cX5_resize 25 = .ok (.iload_n 1, 1) := by decide +kernel
theorem dX5_resize_26 : decode cX5_resize 26 = .ok (.iload_n 2, 1) := by decide +kernel
theorem dX5_resize_27 : decode cX5_resize 27 = .ok (.aload_n 0, 1) := by decide +kernel
theorem dX5_resize_28 : decode cX5_resize 28 = .ok (.getfield 13, 3) := by decide +kernel
theorem dX5_resize_31 : decode cX5_resize 31 = .ok (.iload_n 1, 1) := by decide +kernel
theorem dX5_resize_32 : decode cX5_resize 32 = .ok (.iaload, 1) := by decide +kernel
theorem dX5_resize_33 : decode cX5_resize 33 = .ok (.invokevirtual 153, 3) := by decide +kernel
theorem dX5_resize_36 : decode cX5_resize 36 = .ok (.ifCond .eq 7, 3) := by decide +kernel
theorem dX5_resize_39 : decode cX5_resize 39 = .ok (.iconst 3, 1) := by decide +kernel
theorem dX5_resize_40 : decode cX5_resize 40 = .ok (.goto 4, 3) := by decide +kernel
theorem dX5_resize_43 : decode cX5_resize 43 = .ok (.iconst 0, 1) := by decide +kernel
theorem dX5_resize_44 : decode cX5_resize 44 = .ok (.putfield 51, 3) := by decide +kernel
theorem dX5_resize_47 : decode cX5_resize 47 = .ok (.aload_n 0, 1) := by decide +kernel
theorem dX5_resize_48 : decode cX5_resize 48 = .ok (.getfield 51, 3) := by decide +kernel
theorem dX5_resize_51 : decode cX5_resize 51 = .ok (.ifCond .le 5, 3) := by decide +kernel
theorem dX5_resize_54 : decode cX5_resize 54 = .ok (.iconst 0, 1) := by decide +kernel
theorem dX5_resize_55 : decode cX5_resize 55 = .ok (.ireturn, 1) := by decide +kernel
theorem dX5_resize_56 : decode cX5_resize 56 = .ok (.aload_n 0, 1) := by decide +kernel
theorem dX5_resize_57 : decode cX5_resize 57 = .ok (.iload_n 1, 1) := by decide +kernel
theorem dX5_resize_58 : decode cX5_resize 58 = .ok (.iload_n 2, 1) := by decide +kernel
theorem dX5_resize_59 : decode cX5_resize 59 = .ok (.aload_n 0, 1) := by decide +kernel
theorem dX5_resize_60 : decode cX5_resize 60 = .ok (.getfield 13, 3) := by decide +kernel
theorem dX5_resize_63 : decode cX5_resize 63 = .ok (.iload_n 1, 1) := by decide +kernel
theorem dX5_resize_64 : decode cX5_resize 64 = .ok (.iaload, 1) := by decide +kernel
theorem dX5_resize_65 : decode cX5_resize 65 = .ok (.invokevirtual 157, 3) := by decide +kernel
theorem dX5_resize_68 : decode cX5_resize 68 = .ok (.istore_n 3, 1) := by decide +kernel
theorem dX5_resize_69 : decode cX5_resize 69 = .ok (.aload_n 0, 1) := by decide +kernel
theorem dX5_resize_70 : decode cX5_resize 70 = .ok (.getfield 13, 3) := by decide +kernel
theorem dX5_resize_73 : decode cX5_resize 73 = .ok (.iload_n 1, 1) := by decide +kernel
theorem dX5_resize_74 : decode cX5_resize 74 = .ok (.iload_n 2, 1) := by decide +kernel
theorem dX5_resize_75 : decode cX5_resize 75 = .ok (.iastore, 1) := by decide +kernel
theorem dX5_resize_76 : decode cX5_resize 76 = .ok (.aload_n 0, 1) := by decide +kernel
theorem dX5_resize_77 : decode cX5_resize 77 = .ok (.invokevirtual 150, 3) := by decide +kernel
theorem dX5_resize_80 : decode cX5_resize 80 = .ok (.iload_n 3, 1) := by decide +kernel
theorem dX5_resize_81 : decode cX5_resize 81 = .ok (.ireturn, 1) := by decide +kernel
theorem dX5_discard_0 : decode cX5_discard 0 = .ok (.aload_n 0, 1) := by decide +kernel
theorem dX5_discard_1 : decode cX5_discard 1 = .ok (.aload_n 0, 1) := by decide +kernel
theorem dX5_discard_2 : decode cX5_discard 2 = .ok (.iload_n 1, 1) := by decide +kernel
theorem dX5_discard_3 : decode cX5_discard 3 = .ok (.invokevirtual 126, 3) := by decide +kernel
theorem dX5_discard_6 : decode cX5_discard 6 = .ok (.ifCond .eq 33, 3) := by decide +kernel
theorem dX5_discard_9 : decode cX5_discard 9 = .ok (.iload_n 2, 1) := by decide +kernel
theorem dX5_discard_10 : decode cX5_discard 10 = .ok (.ifCond .lt 29, 3) := by decide +kernel
theorem dX5_discard_13 : decode cX5_discard 13 = .ok (.iload_n 3, 1) := by decide +kernel
theorem dX5_discard_14 : decode cX5_discard 14 = .ok (.ifCond .lt 25, 3) := by decide +kernel
theorem dX5_discard_17 : decode cX5_discard 17 = .ok (.iload_n 2, 1) := by decide +kernel
theorem dX5_discard_18 : decode cX5_discard 18 = .ok (.aload_n 0, 1) := by decide +kernel
theorem dX5_discard_19 : decode cX5_discard 19 = .ok (.getfield 13, 3) := by decide +kernel
theorem dX5_discard_22 : decode cX5_discard 22 = .ok (.iload_n 1, 1) := by decide +kernel
theorem dX5_discard_23 : decode cX5_discard 23 = .ok (.iaload, 1) := by decide +kernel
theorem dX5_discard_24 : decode cX5_discard 24 = .ok (.if_icmp .gt 15, 3) := by decide +kernel
theorem dX5_discard_27 : decode cX5_discard 27 = .ok (.iload_n 3, 1) := by decide +kernel
theorem dX5_discard_28 : decode cX5_discard 28 = .ok (.aload_n 0, 1) := by decide +kernel
theorem dX5_discard_29 : decode cX5_discard 29 = .ok (.getfield 13, 3) := by decide +kernel
theorem dX5_discard_32 : decode cX5_discard 32 = .ok (.iload_n 1, 1) := by decide +kernel
theorem dX5_discard_33 : decode cX5_discard 33 = .ok (.iaload, 1) := by decide +kernel
theorem dX5_discard_34 : decode cX5_discard 34 = .ok (.iload_n 2, 1) := by decide +kernel
theorem dX5_discard_35 : decode cX5_discard 35 = .ok (.isub, 1) := by decide +kernel
theorem dX5_discard_36 : decode cX5_discard 36 = .ok (.if_icmp .le 7, 3) := by decide +kernel
theorem dX5_discard_39 : decode cX5_discard 39 = .ok (.iconst 1, 1) := by decide +kernel
theorem dX5_discard_40 : decode cX5_discard 40 = .ok (.goto 20, 3) := by decide +kernel
theorem dX5_discard_43 : decode cX5_discard 43 = .ok (.aload_n 0, 1) := by decide +kernel
theorem dX5_discard_44 : decode cX5_discard 44 = .ok (.iload_n 1, 1) := by decide +kernel
theorem dX5_discard_45 : decode cX5_discard 45 = .ok (.iload_n 2, 1) := by decide +kernel
theorem dX5_discard_46 : decode cX5_discard 46 = .ok (.iload_n 2, 1) := by decide +kernel
theorem dX5_discard_47 : decode cX5_discard 47 = .ok (.iload_n 3, 1) := by decide +kernel
theorem dX5_discard_48 : decode cX5_discard 48 = .ok (.iadd, 1) := by decide +kernel
theorem dX5_discard_49 : decode cX5_discard 49 = .ok (.invokevirtual 153, 3) := by decide +kernel
theorem dX5_discard_52 : decode cX5_discard 52 = .ok (.ifCond .eq 7, 3) := by decide +kernel
theorem dX5_discard_55 : decode cX5_discard 55 = .ok (.iconst 2, 1) := by decide +kernel
theorem dX5_discard_56 : decode cX5_discard 56 = .ok (.goto 4, 3) := by decide +kernel
theorem dX5_discard_59 : decode cX5_discard 59 = .ok (.iconst 0, 1) := by decide +kernel
theorem dX5_discard_60 : decode cX5_discard 60 = .ok (.putfield 51, 3) := by decide +kernel
theorem dX5_discard_63 : decode cX5_discard 63 = .ok (.aload_n 0, 1) := by decide +kernel
theorem dX5_discard_64 : decode cX5_discard 64 = .ok (.getfield 51, 3) := by decide +kernel
theorem dX5_discard_67 : decode cX5_discard 67 = .ok (.ifCond .le 5, 3) := by decide +kernel
theorem dX5_discard_70 : decode cX5_discard 70 = .ok (.iconst 0, 1) := by decide +kernel
theorem dX5_discard_71 : decode cX5_discard 71 = .ok (.ireturn, 1) := by decide +kernel
theorem dX5_discard_72 : decode cX5_discard 72 = .ok (.aload_n 0, 1) := by decide +kernel
theorem dX5_discard_73 : decode cX5_discard 73 = .ok (.iload_n 1, 1) := by decide +kernel
theorem dX5_discard_74 : decode cX5_discard 74 = .ok (.iload_n 2, 1) := by decide +kernel
theorem dX5_discard_75 : decode cX5_discard 75 = .ok (.iload_n 2, 1) := by decide +kernel
theorem dX5_discard_76 : decode cX5_discard 76 = .ok (.iload_n 3, 1) := by decide +kernel
theorem dX5_discard_77 : decode cX5_discard 77 = .ok (.iadd, 1) := by decide +kernel
theorem dX5_discard_78 : decode cX5_discard 78 = .ok (.invokevirtual 157, 3) := by decide +kernel
theorem dX5_discard_81 : decode cX5_discard 81 = .ok (.istore 4, 2) := by decide +kernel
theorem dX5_discard_83 : decode cX5_discard 83 = .ok (.aload_n 0, 1) := by decide +kernel
theorem dX5_discard_84 : decode cX5_discard 84 = .ok (.invokevirtual 150, 3) := by decide +kernel
theorem dX5_discard_87 : decode cX5_discard 87 = .ok (.iload 4, 2) := by decide +kernel
theorem dX5_discard_89 : decode cX5_discard 89 = .ok (.ireturn, 1) := by decide +kernel
theorem dX5_grow_0 : decode cX5_grow 0 = .ok (.aload_n 0, 1) := by decide +kernel
theorem dX5_grow_1 : decode cX5_grow 1 = .ok (.iload_n 1, 1) := by decide +kernel
theorem dX5_grow_2 : decode cX5_grow 2 = .ok (.ifCond .ge 7, 3) := by decide +kernel
theorem dX5_grow_5 : decode cX5_grow 5 = .ok (.iconst 1, 1) := by decide +kernel
theorem dX5_grow_6 : decode cX5_grow 6 = .ok (.goto 4, 3) := by decide +kernel
theorem dX5_grow_9 : decode cX5_grow 9 = .ok (.iconst 0, 1) := by decide +kernel
theorem dX5_grow_10 : decode cX5_grow 10 = .ok (.putfield 51, 3) := by decide +kernel
theorem dX5_grow_13 : decode cX5_grow 13 = .ok (.aload_n 0, 1) := by decide +kernel
theorem dX5_grow_14 : decode cX5_grow 14 = .ok (.getfield 51, 3) := by decide +kernel
theorem dX5_grow_17 : decode cX5_grow 17 = .ok (.ifCond .le 5, 3) := by decide +kernel
theorem dX5_grow_20 : decode cX5_grow 20 = .ok (.iconst 0, 1) := by decide +kernel
theorem dX5_grow_21 : decode cX5_grow 21 = .ok (.ireturn, 1) := by decide +kernel
theorem dX5_grow_22 : decode cX5_grow 22 = .ok (.iload_n 1, 1) := by decide +kernel
theorem dX5_grow_23 : decode cX5_grow 23 = .ok (.bipush 96, 2) := by decide +kernel
theorem dX5_grow_25 : decode cX5_grow 25 = .ok (.aload_n 0, 1) := by decide +kernel
theorem dX5_grow_26 : decode cX5_grow 26 = .ok (.getfield 32, 3) := by decide +kernel
theorem dX5_grow_29 : decode cX5_grow 29 = .ok (.isub, 1) := by decide +kernel
theorem dX5_grow_30 : decode cX5_grow 30 = .ok (.if_icmp .le 5, 3) := by decide +kernel
theorem dX5_grow_33 : decode cX5_grow 33 = .ok (.iconst (-1), 1) := by decide +kernel
theorem dX5_grow_34 : decode cX5_grow 34 = .ok (.ireturn, 1) := by decide +kernel
theorem dX5_grow_35 : decode cX5_grow 35 = .ok (.aload_n 0, 1) := by decide +kernel
theorem dX5_grow_36 : decode cX5_grow 36 = .ok (.dup, 1) := by decide +kernel
theorem dX5_grow_37 : decode cX5_grow 37 = .ok (.getfield 32, 3) := by decide +kernel
theorem dX5_grow_40 : decode cX5_grow 40 = .ok (.iload_n 1, 1) := by decide +kernel
theorem dX5_grow_41 : decode cX5_grow 41 = .ok (.iadd, 1) := by decide +kernel
theorem dX5_grow_42 : decode cX5_grow 42 = .ok (.putfield 32, 3) := by decide +kernel
theorem dX5_grow_45 : decode cX5_grow 45 = .ok (.aload_n 0, 1) := by decide +kernel
theorem dX5_grow_46 : decode cX5_grow 46 = .ok (.invokevirtual 150, 3) := by decide +kernel
theorem dX5_grow_49 : decode cX5_grow 49 = .ok (.aload_n 0, 1) := by decide +kernel
theorem dX5_grow_50 : decode cX5_grow 50 = .ok (.getfield 32, 3) := by decide +kernel
theorem dX5_grow_53 : decode cX5_grow 53 = .ok (.ireturn, 1) := by decide +kernel
theorem dX5_shrink_0 : decode cX5_shrink 0 = .ok (.aload_n 0, 1) := by decide +kernel
theorem dX5_shrink_1 : decode cX5_shrink 1 = .ok (.iload_n 1, 1) := by decide +kernel
theorem dX5_shrink_2 : decode cX5_shrink 2 = .ok (.ifCond .ge 7, 3) := by decide +kernel
theorem dX5_shrink_5 : decode cX5_shrink 5 = .ok (.iconst 1, 1) := by decide +kernel
theorem dX5_shrink_6 : decode cX5_shrink 6 = .ok (.goto 4, 3) := by decide +kernel
theorem dX5_shrink_9 : decode cX5_shrink 9 = .ok (.iconst 0, 1) := by decide +kernel
theorem dX5_shrink_10 : decode cX5_shrink 10 = .ok (.putfield 51, 3) := by decide +kernel
theorem dX5_shrink_13 : decode cX5_shrink 13 = .ok (.aload_n 0, 1) := by decide +kernel
theorem dX5_shrink_14 : decode cX5_shrink 14 = .ok (.getfield 51, 3) := by decide +kernel
theorem dX5_shrink_17 : decode cX5_shrink 17 = .ok (.ifCond .le 5, 3) := by decide +kernel
theorem dX5_shrink_20 : decode cX5_shrink 20 = .ok (.iconst 0, 1) := by decide +kernel
theorem dX5_shrink_21 : decode cX5_shrink 21 = .ok (.ireturn, 1) := by decide +kernel
theorem dX5_shrink_22 : decode cX5_shrink 22 = .ok (.iload_n 1, 1) := by decide +kernel
theorem dX5_shrink_23 : decode cX5_shrink 23 = .ok (.aload_n 0, 1) := by decide +kernel
theorem dX5_shrink_24 : decode cX5_shrink 24 = .ok (.getfield 32, 3) := by decide +kernel
theorem dX5_shrink_27 : decode cX5_shrink 27 = .ok (.if_icmp .lt 5, 3) := by decide +kernel
theorem dX5_shrink_30 : decode cX5_shrink 30 = .ok (.iconst (-1), 1) := by decide +kernel
theorem dX5_shrink_31 : decode cX5_shrink 31 = .ok (.ireturn, 1) := by decide +kernel
theorem dX5_shrink_32 : decode cX5_shrink 32 = .ok (.aload_n 0, 1) := by decide +kernel
theorem dX5_shrink_33 : decode cX5_shrink 33 = .ok (.getfield 32, 3) := by decide +kernel
theorem dX5_shrink_36 : decode cX5_shrink 36 = .ok (.iload_n 1, 1) := by decide +kernel
theorem dX5_shrink_37 : decode cX5_shrink 37 = .ok (.isub, 1) := by decide +kernel
theorem dX5_shrink_38 : decode cX5_shrink 38 = .ok (.istore_n 2, 1) := by decide +kernel
theorem dX5_shrink_39 : decode cX5_shrink 39 = .ok (.iload_n 2, 1) := by decide +kernel
theorem dX5_shrink_40 : decode cX5_shrink 40 = .ok (.aload_n 0, 1) := by decide +kernel
theorem dX5_shrink_41 : decode cX5_shrink 41 = .ok (.getfield 32, 3) := by decide +kernel
theorem dX5_shrink_44 : decode cX5_shrink 44 = .ok (.if_icmp .ge 19, 3) := by decide +kernel
theorem dX5_shrink_47 : decode cX5_shrink 47 = .ok (.aload_n 0, 1) := by decide +kernel
theorem dX5_shrink_48 : decode cX5_shrink 48 = .ok (.iload_n 2, 1) := by decide +kernel
theorem dX5_shrink_49 : decode cX5_shrink 49 = .ok (.invokevirtual 66, 3) := by decide +kernel
theorem dX5_shrink_52 : decode cX5_shrink 52 = .ok (.ifCond .ne 5, 3) := by decide +kernel
theorem dX5_shrink_55 : decode cX5_shrink 55 = .ok (.iconst (-1), 1) := by decide +kernel
theorem dX5_shrink_56 : decode cX5_shrink 56 = .ok (.ireturn, 1) := by decide +kernel
theorem dX5_shrink_57 : decode cX5_shrink 57 = .ok (.iinc 2 1, 3) := by decide +kernel
theorem dX5_shrink_60 : decode cX5_shrink 60 = .ok (.goto (-21), 3) := by decide +kernel
theorem dX5_shrink_63 : decode cX5_shrink 63 = .ok (.aload_n 0, 1) := by decide +kernel
theorem dX5_shrink_64 : decode cX5_shrink 64 = .ok (.dup, 1) := by decide +kernel
theorem dX5_shrink_65 : decode cX5_shrink 65 = .ok (.getfield 32, 3) := by decide +kernel
theorem dX5_shrink_68 : decode cX5_shrink 68 = .ok (.iload_n 1, 1) := by decide +kernel
theorem dX5_shrink_69 : decode cX5_shrink 69 = .ok (.isub, 1) := by decide +kernel
theorem dX5_shrink_70 : decode cX5_shrink 70 = .ok (.putfield 32, 3) := by decide +kernel
theorem dX5_shrink_73 : decode cX5_shrink 73 = .ok (.aload_n 0, 1) := by decide +kernel
theorem dX5_shrink_74 : decode cX5_shrink 74 = .ok (.aload_n 0, 1) := by decide +kernel
theorem dX5_shrink_75 : decode cX5_shrink 75 = .ok (.getfield 80, 3) := by decide +kernel
theorem dX5_shrink_78 : decode cX5_shrink 78 = .ok (.aload_n 0, 1) := by decide +kernel
theorem dX5_shrink_79 : decode cX5_shrink 79 = .ok (.getfield 32, 3) := by decide +kernel
theorem dX5_shrink_82 : decode cX5_shrink 82 = .ok (.if_icmp .lt 7, 3) := by decide +kernel
theorem dX5_shrink_85 : decode cX5_shrink 85 = .ok (.iconst 0, 1) := by decide +kernel
theorem dX5_shrink_86 : decode cX5_shrink 86 = .ok (.goto 7, 3) := by decide +kernel
theorem dX5_shrink_89 : decode cX5_shrink 89 = .ok (.aload_n 0, 1) := by decide +kernel
theorem dX5_shrink_90 : decode cX5_shrink 90 = .ok (.getfield 80, 3) := by decide +kernel
theorem dX5_shrink_93 : decode cX5_shrink 93 = .ok (.putfield 80, 3) := by decide +kernel
theorem dX5_shrink_96 : decode cX5_shrink 96 = .ok (.aload_n 0, 1) := by decide +kernel
theorem dX5_shrink_97 : decode cX5_shrink 97 = .ok (.getfield 32, 3) := by decide +kernel
theorem dX5_shrink_100 : decode cX5_shrink 100 = .ok (.ireturn, 1) := by decide +kernel
theorem dX5_back_0 : decode cX5_back 0 = .ok (.aload_n 0, 1) := by decide +kernel
theorem dX5_back_1 : decode cX5_back 1 = .ok (.iload_n 1, 1) := by decide +kernel
theorem dX5_back_2 : decode cX5_back 2 = .ok (.ifCond .lt 10, 3) := by decide +kernel
theorem dX5_back_5 : decode cX5_back 5 = .ok (.iload_n 1, 1) := by decide +kernel
theorem dX5_back_6 : decode cX5_back 6 = .ok (.sipush 159, 3) := by decide +kernel
theorem dX5_back_9 : decode cX5_back 9 = .ok (.if_icmp .le 7, 3) := by decide +kernel
theorem dX5_back_12 : decode cX5_back 12 = .ok (.iconst 1, 1) := by decide +kernel
theorem dX5_back_13 : decode cX5_back 13 = .ok (.goto 4, 3) := by decide +kernel
theorem dX5_back_16 : decode cX5_back 16 = .ok (.iconst 0, 1) := by decide +kernel
theorem dX5_back_17 : decode cX5_back 17 = .ok (.putfield 51, 3) := by decide +kernel
theorem dX5_back_20 : decode cX5_back 20 = .ok (.iconst 0, 1) := by decide +kernel
theorem dX5_back_21 : decode cX5_back 21 = .ok (.istore_n 3, 1) := by decide +kernel
theorem dX5_back_22 : decode cX5_back 22 = .ok (.iload_n 3, 1) := by decide +kernel
theorem dX5_back_23 : decode cX5_back 23 = .ok (.bipush 48, 2) := by decide +kernel
theorem dX5_back_25 : decode cX5_back 25 = .ok (.if_icmp .ge 43, 3) := by decide +kernel
theorem dX5_back_28 : decode cX5_back 28 = .ok (.aload_n 0, 1) := by decide +kernel
theorem dX5_back_29 : decode cX5_back 29 = .ok (.getfield 51, 3) := by decide +kernel
theorem dX5_back_32 : decode cX5_back 32 = .ok (.ifCond .ne 36, 3) := by decide +kernel
theorem dX5_back_35 : decode cX5_back 35 = .ok (.aload_n 0, 1) := by decide +kernel
theorem dX5_back_36 : decode cX5_back 36 = .ok (.aload_n 0, 1) := by decide +kernel
theorem dX5_back_37 : decode cX5_back 37 = .ok (.getfield 7, 3) := by decide +kernel
theorem dX5_back_40 : decode cX5_back 40 = .ok (.iload_n 3, 1) := by decide +kernel
theorem dX5_back_41 : decode cX5_back 41 = .ok (.baload, 1) := by decide +kernel
theorem dX5_back_42 : decode cX5_back 42 = .ok (.ifCond .eq 16, 3) := by decide +kernel
theorem dX5_back_45 : decode cX5_back 45 = .ok (.aload_n 0, 1) := by decide +kernel
theorem dX5_back_46 : decode cX5_back 46 = .ok (.getfield 17, 3) := by decide +kernel
theorem dX5_back_49 : decode cX5_back 49 = .ok (.iload_n 3, 1) := by decide +kernel
theorem dX5_back_50 : decode cX5_back 50 = .ok (.baload, 1) := by decide +kernel
theorem dX5_back_51 : decode cX5_back 51 = .ok (.ifCond .eq 7, 3) := by decide +kernel
theorem dX5_back_54 : decode cX5_back 54 = .ok (.iconst 2, 1) := by decide +kernel
theorem dX5_back_55 : decode cX5_back 55 = .ok (.goto 4, 3) := by decide +kernel
theorem dX5_back_58 : decode cX5_back 58 = .ok (.iconst 0, 1) := by decide +kernel
theorem dX5_back_59 : decode cX5_back 59 = .ok (.putfield 51, 3) := by decide +kernel
theorem dX5_back_62 : decode cX5_back 62 = .ok (.iinc 3 1, 3) := by decide +kernel
theorem dX5_back_65 : decode cX5_back 65 = .ok (.goto (-43), 3) := by decide +kernel
theorem dX5_back_68 : decode cX5_back 68 = .ok (.aload_n 0, 1) := by decide +kernel
theorem dX5_back_69 : decode cX5_back 69 = .ok (.getfield 51, 3) := by decide +kernel
theorem dX5_back_72 : decode cX5_back 72 = .ok (.ifCond .le 5, 3) := by decide +kernel
theorem dX5_back_75 : decode cX5_back 75 = .ok (.iconst 0, 1) := by decide +kernel
theorem dX5_back_76 : decode cX5_back 76 = .ok (.ireturn, 1) := by decide +kernel
theorem dX5_back_77 : decode cX5_back 77 = .ok (.aload_n 0, 1) := by decide +kernel
theorem dX5_back_78 : decode cX5_back 78 = .ok (.getfield 39, 3) := by decide +kernel
theorem dX5_back_81 : decode cX5_back 81 = .ok (.iload_n 1, 1) := by decide +kernel
theorem dX5_back_82 : decode cX5_back 82 = .ok (.iaload, 1) := by decide +kernel
theorem dX5_back_83 : decode cX5_back 83 = .ok (.istore_n 3, 1) := by decide +kernel
theorem dX5_back_84 : decode cX5_back 84 = .ok (.aload_n 0, 1) := by decide +kernel
theorem dX5_back_85 : decode cX5_back 85 = .ok (.getfield 39, 3) := by decide +kernel
theorem dX5_back_88 : decode cX5_back 88 = .ok (.iload_n 1, 1) := by decide +kernel
theorem dX5_back_89 : decode cX5_back 89 = .ok (.iload_n 2, 1) := by decide +kernel
theorem dX5_back_90 : decode cX5_back 90 = .ok (.iastore, 1) := by decide +kernel
theorem dX5_back_91 : decode cX5_back 91 = .ok (.iload_n 3, 1) := by decide +kernel
theorem dX5_back_92 : decode cX5_back 92 = .ok (.ireturn, 1) := by decide +kernel
theorem dX5_quota_0 : decode cX5_quota 0 = .ok (.aload_n 0, 1) := by decide +kernel
theorem dX5_quota_1 : decode cX5_quota 1 = .ok (.aload_n 0, 1) := by decide +kernel
theorem dX5_quota_2 : decode cX5_quota 2 = .ok (.iload_n 1, 1) := by decide +kernel
theorem dX5_quota_3 : decode cX5_quota 3 = .ok (.invokevirtual 126, 3) := by decide +kernel
theorem dX5_quota_6 : decode cX5_quota 6 = .ok (.ifCond .ne 7, 3) := by decide +kernel
theorem dX5_quota_9 : decode cX5_quota 9 = .ok (.iconst 1, 1) := by decide +kernel
theorem dX5_quota_10 : decode cX5_quota 10 = .ok (.goto 19, 3) := by decide +kernel
theorem dX5_quota_13 : decode cX5_quota 13 = .ok (.iload_n 2, 1) := by decide +kernel
theorem dX5_quota_14 : decode cX5_quota 14 = .ok (.iconst (-1), 1) := by decide +kernel
theorem dX5_quota_15 : decode cX5_quota 15 = .ok (.if_icmp .lt 9, 3) := by decide +kernel
theorem dX5_quota_18 : decode cX5_quota 18 = .ok (.iload_n 2, 1) := by decide +kernel
theorem dX5_quota_19 : decode cX5_quota 19 = .ok (.bipush 40, 2) := by decide +kernel
theorem dX5_quota_21 : decode cX5_quota 21 = .ok (.if_icmp .le 7, 3) := by decide +kernel
theorem dX5_quota_24 : decode cX5_quota 24 = .ok (.iconst 2, 1) := by decide +kernel
theorem dX5_quota_25 : decode cX5_quota 25 = .ok (.goto 4, 3) := by decide +kernel
theorem dX5_quota_28 : decode cX5_quota 28 = .ok (.iconst 0, 1) := by decide +kernel
theorem dX5_quota_29 : decode cX5_quota 29 = .ok (.putfield 51, 3) := by decide +kernel
theorem dX5_quota_32 : decode cX5_quota 32 = .ok (.aload_n 0, 1) := by decide +kernel
theorem dX5_quota_33 : decode cX5_quota 33 = .ok (.getfield 51, 3) := by decide +kernel
theorem dX5_quota_36 : decode cX5_quota 36 = .ok (.ifCond .le 5, 3) := by decide +kernel
theorem dX5_quota_39 : decode cX5_quota 39 = .ok (.iconst 0, 1) := by decide +kernel
theorem dX5_quota_40 : decode cX5_quota 40 = .ok (.ireturn, 1) := by decide +kernel
theorem dX5_quota_41 : decode cX5_quota 41 = .ok (.aload_n 0, 1) := by decide +kernel
theorem dX5_quota_42 : decode cX5_quota 42 = .ok (.getfield 20, 3) := by decide +kernel
theorem dX5_quota_45 : decode cX5_quota 45 = .ok (.iload_n 1, 1) := by decide +kernel
theorem dX5_quota_46 : decode cX5_quota 46 = .ok (.iaload, 1) := by decide +kernel
theorem dX5_quota_47 : decode cX5_quota 47 = .ok (.istore_n 3, 1) := by decide +kernel
theorem dX5_quota_48 : decode cX5_quota 48 = .ok (.aload_n 0, 1) := by decide +kernel
theorem dX5_quota_49 : decode cX5_quota 49 = .ok (.getfield 20, 3) := by decide +kernel
theorem dX5_quota_52 : decode cX5_quota 52 = .ok (.iload_n 1, 1) := by decide +kernel
theorem dX5_quota_53 : decode cX5_quota 53 = .ok (.iload_n 2, 1) := by decide +kernel
theorem dX5_quota_54 : decode cX5_quota 54 = .ok (.iastore, 1) := by decide +kernel
theorem dX5_quota_55 : decode cX5_quota 55 = .ok (.aload_n 0, 1) := by decide +kernel
theorem dX5_quota_56 : decode cX5_quota 56 = .ok (.invokevirtual 150, 3) := by decide +kernel
theorem dX5_quota_59 : decode cX5_quota 59 = .ok (.iload_n 3, 1) := by decide +kernel
theorem dX5_quota_60 : decode cX5_quota 60 = .ok (.ireturn, 1) := by decide +kernel
theorem dX5_mark_0 : decode cX5_mark 0 = .ok (.aload_n 0, 1) := by decide +kernel
theorem dX5_mark_1 : decode cX5_mark 1 = .ok (.iconst 0, 1) := by decide +kernel
theorem dX5_mark_2 : decode cX5_mark 2 = .ok (.putfield 51, 3) := by decide +kernel
theorem dX5_mark_5 : decode cX5_mark 5 = .ok (.aload_n 0, 1) := by decide +kernel
theorem dX5_mark_6 : decode cX5_mark 6 = .ok (.getfield 29, 3) := by decide +kernel
theorem dX5_mark_9 : decode cX5_mark 9 = .ok (.iconst 0, 1) := by decide +kernel
theorem dX5_mark_10 : decode cX5_mark 10 = .ok (.iaload, 1) := by decide +kernel
theorem dX5_mark_11 : decode cX5_mark 11 = .ok (.iload_n 1, 1) := by decide +kernel
theorem dX5_mark_12 : decode cX5_mark 12 = .ok (.if_icmp .eq 5, 3) := by decide +kernel
theorem dX5_mark_15 : decode cX5_mark 15 = .ok (.iconst 0, 1) := by decide +kernel
theorem dX5_mark_16 : decode cX5_mark 16 = .ok (.ireturn, 1) := by decide +kernel
theorem dX5_mark_17 : decode cX5_mark 17 = .ok (.aload_n 0, 1) := by decide +kernel
theorem dX5_mark_18 : decode cX5_mark 18 = .ok (.getfield 29, 3) := by decide +kernel
theorem dX5_mark_21 : decode cX5_mark 21 = .ok (.iconst 0, 1) := by decide +kernel
theorem dX5_mark_22 : decode cX5_mark 22 = .ok (.iload_n 2, 1) := by decide +kernel
theorem dX5_mark_23 : decode cX5_mark 23 = .ok (.iastore, 1) := by decide +kernel
theorem dX5_mark_24 : decode cX5_mark 24 = .ok (.iconst 1, 1) := by decide +kernel
theorem dX5_mark_25 : decode cX5_mark 25 = .ok (.ireturn, 1) := by decide +kernel
theorem dX5_marked_0 : decode cX5_marked 0 = .ok (.aload_n 0, 1) := by decide +kernel
theorem dX5_marked_1 : decode cX5_marked 1 = .ok (.iload_n 1, 1) := by decide +kernel
theorem dX5_marked_2 : decode cX5_marked 2 = .ok (.ifCond .lt 8, 3) := by decide +kernel
theorem dX5_marked_5 : decode cX5_marked 5 = .ok (.iload_n 1, 1) := by decide +kernel
theorem dX5_marked_6 : decode cX5_marked 6 = .ok (.iconst 2, 1) := by decide +kernel
theorem dX5_marked_7 : decode cX5_marked 7 = .ok (.if_icmp .le 7, 3) := by decide +kernel
theorem dX5_marked_10 : decode cX5_marked 10 = .ok (.iconst 1, 1) := by decide +kernel
theorem dX5_marked_11 : decode cX5_marked 11 = .ok (.goto 4, 3) := by decide +kernel
theorem dX5_marked_14 : decode cX5_marked 14 = .ok (.iconst 0, 1) := by decide +kernel
theorem dX5_marked_15 : decode cX5_marked 15 = .ok (.putfield 51, 3) := by decide +kernel
theorem dX5_marked_18 : decode cX5_marked 18 = .ok (.aload_n 0, 1) := by decide +kernel
theorem dX5_marked_19 : decode cX5_marked 19 = .ok (.getfield 51, 3) := by decide +kernel
theorem dX5_marked_22 : decode cX5_marked 22 = .ok (.ifCond .ne 12, 3) := by decide +kernel
theorem dX5_marked_25 : decode cX5_marked 25 = .ok (.aload_n 0, 1) := by decide +kernel
theorem dX5_marked_26 : decode cX5_marked 26 = .ok (.getfield 29, 3) := by decide +kernel
theorem dX5_marked_29 : decode cX5_marked 29 = .ok (.iload_n 1, 1) := by decide +kernel
theorem dX5_marked_30 : decode cX5_marked 30 = .ok (.iaload, 1) := by decide +kernel
theorem dX5_marked_31 : decode cX5_marked 31 = .ok (.goto 4, 3) := by decide +kernel
theorem dX5_marked_34 : decode cX5_marked 34 = .ok (.iconst 0, 1) := by decide +kernel
theorem dX5_marked_35 : decode cX5_marked 35 = .ok (.ireturn, 1) := by decide +kernel
theorem dX5_commit_0 : decode cX5_commit 0 = .ok (.aload_n 0, 1) := by decide +kernel
theorem dX5_commit_1 : decode cX5_commit 1 = .ok (.iconst 0, 1) := by decide +kernel
theorem dX5_commit_2 : decode cX5_commit 2 = .ok (.putfield 51, 3) := by decide +kernel
theorem dX5_commit_5 : decode cX5_commit 5 = .ok (.aload_n 0, 1) := by decide +kernel
theorem dX5_commit_6 : decode cX5_commit 6 = .ok (.iconst 0, 1) := by decide +kernel
theorem dX5_commit_7 : decode cX5_commit 7 = .ok (.iconst 1, 1) := by decide +kernel
theorem dX5_commit_8 : decode cX5_commit 8 = .ok (.invokevirtual 160, 3) := by decide +kernel
theorem dX5_commit_11 : decode cX5_commit 11 = .ok (.aload_n 0, 1) := by decide +kernel
theorem dX5_commit_12 : decode cX5_commit 12 = .ok (.dup, 1) := by decide +kernel
theorem dX5_commit_13 : decode cX5_commit 13 = .ok (.getfield 163, 3) := by decide +kernel
theorem dX5_commit_16 : decode cX5_commit 16 = .ok (.iconst 1, 1) := by decide +kernel
theorem dX5_commit_17 : decode cX5_commit 17 = .ok (.iadd, 1) := by decide +kernel
theorem dX5_commit_18 : decode cX5_commit 18 = .ok (.putfield 163, 3) := by decide +kernel
theorem dX5_commit_21 : decode cX5_commit 21 = .ok (.aload_n 0, 1) := by decide +kernel
theorem dX5_commit_22 : decode cX5_commit 22 = .ok (.invokevirtual 150, 3) := by decide +kernel
theorem dX5_commit_25 : decode cX5_commit 25 = .ok (.aload_n 0, 1) := by decide +kernel
theorem dX5_commit_26 : decode cX5_commit 26 = .ok (.getfield 163, 3) := by decide +kernel
theorem dX5_commit_29 : decode cX5_commit 29 = .ok (.ireturn, 1) := by decide +kernel
theorem dX5_cut_0 : decode cX5_cut 0 = .ok (.aload_n 0, 1) := by decide +kernel
theorem dX5_cut_1 : decode cX5_cut 1 = .ok (.iload_n 1, 1) := by decide +kernel
theorem dX5_cut_2 : decode cX5_cut 2 = .ok (.ifCond .lt 8, 3) := by decide +kernel
theorem dX5_cut_5 : decode cX5_cut 5 = .ok (.iload_n 1, 1) := by decide +kernel
theorem dX5_cut_6 : decode cX5_cut 6 = .ok (.iconst 2, 1) := by decide +kernel
theorem dX5_cut_7 : decode cX5_cut 7 = .ok (.if_icmp .le 7, 3) := by decide +kernel
theorem dX5_cut_10 : decode cX5_cut 10 = .ok (.iconst 1, 1) := by decide +kernel
theorem dX5_cut_11 : decode cX5_cut 11 = .ok (.goto 4, 3) := by decide +kernel
theorem dX5_cut_14 : decode cX5_cut 14 = .ok (.iconst 0, 1) := by decide +kernel
theorem dX5_cut_15 : decode cX5_cut 15 = .ok (.putfield 51, 3) := by decide +kernel
theorem dX5_cut_18 : decode cX5_cut 18 = .ok (.aload_n 0, 1) := by decide +kernel
theorem dX5_cut_19 : decode cX5_cut 19 = .ok (.getfield 51, 3) := by decide +kernel
theorem dX5_cut_22 : decode cX5_cut 22 = .ok (.ifCond .le 5, 3) := by decide +kernel
theorem dX5_cut_25 : decode cX5_cut 25 = .ok (.iconst 0, 1) := by decide +kernel
theorem dX5_cut_26 : decode cX5_cut 26 = .ok (.ireturn, 1) := by decide +kernel
theorem dX5_cut_27 : decode cX5_cut 27 = .ok (.iload_n 1, 1) := by decide +kernel
theorem dX5_cut_28 : decode cX5_cut 28 = .ok (.iconst 2, 1) := by decide +kernel
theorem dX5_cut_29 : decode cX5_cut 29 = .ok (.if_icmp .ne 19, 3) := by decide +kernel
theorem dX5_cut_32 : decode cX5_cut 32 = .ok (.aload_n 0, 1) := by decide +kernel
theorem dX5_cut_33 : decode cX5_cut 33 = .ok (.iconst 0, 1) := by decide +kernel
theorem dX5_cut_34 : decode cX5_cut 34 = .ok (.iconst 1, 1) := by decide +kernel
theorem dX5_cut_35 : decode cX5_cut 35 = .ok (.invokevirtual 160, 3) := by decide +kernel
theorem dX5_cut_38 : decode cX5_cut 38 = .ok (.aload_n 0, 1) := by decide +kernel
theorem dX5_cut_39 : decode cX5_cut 39 = .ok (.dup, 1) := by decide +kernel
theorem dX5_cut_40 : decode cX5_cut 40 = .ok (.getfield 163, 3) := by decide +kernel
theorem dX5_cut_43 : decode cX5_cut 43 = .ok (.iconst 1, 1) := by decide +kernel
theorem dX5_cut_44 : decode cX5_cut 44 = .ok (.iadd, 1) := by decide +kernel
theorem dX5_cut_45 : decode cX5_cut 45 = .ok (.putfield 163, 3) := by decide +kernel
theorem dX5_cut_48 : decode cX5_cut 48 = .ok (.aload_n 0, 1) := by decide +kernel
theorem dX5_cut_49 : decode cX5_cut 49 = .ok (.iconst 1, 1) := by decide +kernel
theorem dX5_cut_50 : decode cX5_cut 50 = .ok (.iconst 0, 1) := by decide +kernel
theorem dX5_cut_51 : decode cX5_cut 51 = .ok (.invokevirtual 160, 3) := by decide +kernel
theorem dX5_cut_54 : decode cX5_cut 54 = .ok (.aload_n 0, 1) := by decide +kernel
theorem dX5_cut_55 : decode cX5_cut 55 = .ok (.dup, 1) := by decide +kernel
theorem dX5_cut_56 : decode cX5_cut 56 = .ok (.getfield 116, 3) := by decide +kernel
theorem dX5_cut_59 : decode cX5_cut 59 = .ok (.aload_n 0, 1) := by decide +kernel
theorem dX5_cut_60 : decode cX5_cut 60 = .ok (.getfield 107, 3) := by decide +kernel
theorem dX5_cut_63 : decode cX5_cut 63 = .ok (.iadd, 1) := by decide +kernel
theorem dX5_cut_64 : decode cX5_cut 64 = .ok (.putfield 116, 3) := by decide +kernel
theorem dX5_cut_67 : decode cX5_cut 67 = .ok (.aload_n 0, 1) := by decide +kernel
theorem dX5_cut_68 : decode cX5_cut 68 = .ok (.iconst 0, 1) := by decide +kernel
theorem dX5_cut_69 : decode cX5_cut 69 = .ok (.putfield 107, 3) := by decide +kernel
theorem dX5_cut_72 : decode cX5_cut 72 = .ok (.aload_n 0, 1) := by decide +kernel
theorem dX5_cut_73 : decode cX5_cut 73 = .ok (.iconst 0, 1) := by decide +kernel
theorem dX5_cut_74 : decode cX5_cut 74 = .ok (.putfield 110, 3) := by decide +kernel
theorem dX5_cut_77 : decode cX5_cut 77 = .ok (.aload_n 0, 1) := by decide +kernel
theorem dX5_cut_78 : decode cX5_cut 78 = .ok (.iconst 0, 1) := by decide +kernel
theorem dX5_cut_79 : decode cX5_cut 79 = .ok (.putfield 80, 3) := by decide +kernel
theorem dX5_cut_82 : decode cX5_cut 82 = .ok (.aload_n 0, 1) := by decide +kernel
theorem dX5_cut_83 : decode cX5_cut 83 = .ok (.iconst 0, 1) := by decide +kernel
theorem dX5_cut_84 : decode cX5_cut 84 = .ok (.invokevirtual 147, 3) := by decide +kernel
theorem dX5_cut_87 : decode cX5_cut 87 = .ok (.ireturn, 1) := by decide +kernel
theorem dX5_hold_0 : decode cX5_hold 0 = .ok (.aload_n 0, 1) := by decide +kernel
theorem dX5_hold_1 : decode cX5_hold 1 = .ok (.aload_n 0, 1) := by decide +kernel
theorem dX5_hold_2 : decode cX5_hold 2 = .ok (.getfield 166, 3) := by decide +kernel
theorem dX5_hold_5 : decode cX5_hold 5 = .ok (.ifCond .eq 7, 3) := by decide +kernel
theorem dX5_hold_8 : decode cX5_hold 8 = .ok (.iconst 1, 1) := by decide +kernel
theorem dX5_hold_9 : decode cX5_hold 9 = .ok (.goto 4, 3) := by decide +kernel
theorem dX5_hold_12 : decode cX5_hold 12 = .ok (.iconst 0, 1) := by decide +kernel
theorem dX5_hold_13 : decode cX5_hold 13 = .ok (.putfield 51, 3) := by decide +kernel
theorem dX5_hold_16 : decode cX5_hold 16 = .ok (.aload_n 0, 1) := by decide +kernel
theorem dX5_hold_17 : decode cX5_hold 17 = .ok (.getfield 51, 3) := by decide +kernel
theorem dX5_hold_20 : decode cX5_hold 20 = .ok (.ifCond .le 5, 3) := by decide +kernel
theorem dX5_hold_23 : decode cX5_hold 23 = .ok (.iconst 0, 1) := by decide +kernel
theorem dX5_hold_24 : decode cX5_hold 24 = .ok (.ireturn, 1) := by decide +kernel
theorem dX5_hold_25 : decode cX5_hold 25 = .ok (.aload_n 0, 1) := by decide +kernel
theorem dX5_hold_26 : decode cX5_hold 26 = .ok (.iconst 1, 1) := by decide +kernel
theorem dX5_hold_27 : decode cX5_hold 27 = .ok (.putfield 166, 3) := by decide +kernel
theorem dX5_hold_30 : decode cX5_hold 30 = .ok (.aload_n 0, 1) := by decide +kernel
theorem dX5_hold_31 : decode cX5_hold 31 = .ok (.iconst 1, 1) := by decide +kernel
theorem dX5_hold_32 : decode cX5_hold 32 = .ok (.iconst 2, 1) := by decide +kernel
theorem dX5_hold_33 : decode cX5_hold 33 = .ok (.invokevirtual 160, 3) := by decide +kernel
theorem dX5_hold_36 : decode cX5_hold 36 = .ok (.aload_n 0, 1) := by decide +kernel
theorem dX5_hold_37 : decode cX5_hold 37 = .ok (.iconst 2, 1) := by decide +kernel
theorem dX5_hold_38 : decode cX5_hold 38 = .ok (.invokevirtual 147, 3) := by decide +kernel
theorem dX5_hold_41 : decode cX5_hold 41 = .ok (.ireturn, 1) := by decide +kernel
theorem dX5_release_0 : decode cX5_release 0 = .ok (.aload_n 0, 1) := by decide +kernel
theorem dX5_release_1 : decode cX5_release 1 = .ok (.iconst 0, 1) := by decide +kernel
theorem dX5_release_2 : decode cX5_release 2 = .ok (.putfield 51, 3) := by decide +kernel
theorem dX5_release_5 : decode cX5_release 5 = .ok (.aload_n 0, 1) := by decide +kernel
theorem dX5_release_6 : decode cX5_release 6 = .ok (.getfield 166, 3) := by decide +kernel
theorem dX5_release_9 : decode cX5_release 9 = .ok (.istore_n 1, 1) := by decide +kernel
theorem dX5_release_10 : decode cX5_release 10 = .ok (.aload_n 0, 1) := by decide +kernel
theorem dX5_release_11 : decode cX5_release 11 = .ok (.iconst 0, 1) := by decide +kernel
theorem dX5_release_12 : decode cX5_release 12 = .ok (.putfield 166, 3) := by decide +kernel
theorem dX5_release_15 : decode cX5_release 15 = .ok (.aload_n 0, 1) := by decide +kernel
theorem dX5_release_16 : decode cX5_release 16 = .ok (.iconst 2, 1) := by decide +kernel
theorem dX5_release_17 : decode cX5_release 17 = .ok (.invokevirtual 170, 3) := by decide +kernel
theorem dX5_release_20 : decode cX5_release 20 = .ok (.aload_n 0, 1) := by decide +kernel
theorem dX5_release_21 : decode cX5_release 21 = .ok (.invokevirtual 150, 3) := by decide +kernel
theorem dX5_release_24 : decode cX5_release 24 = .ok (.iload_n 1, 1) := by decide +kernel
theorem dX5_release_25 : decode cX5_release 25 = .ok (.ireturn, 1) := by decide +kernel
theorem dX5_patience_0 : decode cX5_patience 0 = .ok (.aload_n 0, 1) := by decide +kernel
theorem dX5_patience_1 : decode cX5_patience 1 = .ok (.iload_n 1, 1) := by decide +kernel
theorem dX5_patience_2 : decode cX5_patience 2 = .ok (.ifCond .lt 10, 3) := by decide +kernel
theorem dX5_patience_5 : decode cX5_patience 5 = .ok (.iload_n 1, 1) := by decide +kernel
theorem dX5_patience_6 : decode cX5_patience 6 = .ok (.sipush 1000, 3) := by decide +kernel
theorem dX5_patience_9 : decode cX5_patience 9 = .ok (.if_icmp .le 7, 3) := by decide +kernel
theorem dX5_patience_12 : decode cX5_patience 12 = .ok (.iconst 1, 1) := by decide +kernel
theorem dX5_patience_13 : decode cX5_patience 13 = .ok (.goto 4, 3) := by decide +kernel
theorem dX5_patience_16 : decode cX5_patience 16 = .ok (.iconst 0, 1) := by decide +kernel
theorem dX5_patience_17 : decode cX5_patience 17 = .ok (.putfield 51, 3) := by decide +kernel
theorem dX5_patience_20 : decode cX5_patience 20 = .ok (.aload_n 0, 1) := by decide +kernel
theorem dX5_patience_21 : decode cX5_patience 21 = .ok (.getfield 51, 3) := by decide +kernel
theorem dX5_patience_24 : decode cX5_patience 24 = .ok (.ifCond .le 5, 3) := by decide +kernel
theorem dX5_patience_27 : decode cX5_patience 27 = .ok (.iconst 0, 1) := by decide +kernel
theorem dX5_patience_28 : decode cX5_patience 28 = .ok (.ireturn, 1) := by decide +kernel
theorem dX5_patience_29 : decode cX5_patience 29 = .ok (.aload_n 0, 1) := by decide +kernel
theorem dX5_patience_30 : decode cX5_patience 30 = .ok (.getfield 135, 3) := by decide +kernel
theorem dX5_patience_33 : decode cX5_patience 33 = .ok (.istore_n 2, 1) := by decide +kernel
theorem dX5_patience_34 : decode cX5_patience 34 = .ok (.aload_n 0, 1) := by decide +kernel
theorem dX5_patience_35 : decode cX5_patience 35 = .ok (.iload_n 1, 1) := by decide +kernel
theorem dX5_patience_36 : decode cX5_patience 36 = .ok (.putfield 135, 3) := by decide +kernel
theorem dX5_patience_39 : decode cX5_patience 39 = .ok (.iload_n 2, 1) := by decide +kernel
theorem dX5_patience_40 : decode cX5_patience 40 = .ok (.ireturn, 1) := by decide +kernel
theorem dX5_alarm_0 : decode cX5_alarm 0 = .ok (.aload_n 0, 1) := by decide +kernel
theorem dX5_alarm_1 : decode cX5_alarm 1 = .ok (.iload_n 1, 1) := by decide +kernel
theorem dX5_alarm_2 : decode cX5_alarm 2 = .ok (.ifCond .lt 9, 3) := by decide +kernel
theorem dX5_alarm_5 : decode cX5_alarm 5 = .ok (.iload_n 1, 1) := by decide +kernel
theorem dX5_alarm_6 : decode cX5_alarm 6 = .ok (.bipush 96, 2) := by decide +kernel
theorem dX5_alarm_8 : decode cX5_alarm 8 = .ok (.if_icmp .le 7, 3) := by decide +kernel
theorem dX5_alarm_11 : decode cX5_alarm 11 = .ok (.iconst 1, 1) := by decide +kernel
theorem dX5_alarm_12 : decode cX5_alarm 12 = .ok (.goto 4, 3) := by decide +kernel
theorem dX5_alarm_15 : decode cX5_alarm 15 = .ok (.iconst 0, 1) := by decide +kernel
theorem dX5_alarm_16 : decode cX5_alarm 16 = .ok (.putfield 51, 3) := by decide +kernel
theorem dX5_alarm_19 : decode cX5_alarm 19 = .ok (.aload_n 0, 1) := by decide +kernel
theorem dX5_alarm_20 : decode cX5_alarm 20 = .ok (.getfield 51, 3) := by decide +kernel
theorem dX5_alarm_23 : decode cX5_alarm 23 = .ok (.ifCond .le 5, 3) := by decide +kernel
theorem dX5_alarm_26 : decode cX5_alarm 26 = .ok (.iconst 0, 1) := by decide +kernel
theorem dX5_alarm_27 : decode cX5_alarm 27 = .ok (.ireturn, 1) := by decide +kernel
theorem dX5_alarm_28 : decode cX5_alarm 28 = .ok (.aload_n 0, 1) := by decide +kernel
theorem dX5_alarm_29 : decode cX5_alarm 29 = .ok (.getfield 96, 3) := by decide +kernel
theorem dX5_alarm_32 : decode cX5_alarm 32 = .ok (.istore_n 2, 1) := by decide +kernel
theorem dX5_alarm_33 : decode cX5_alarm 33 = .ok (.aload_n 0, 1) := by decide +kernel
theorem dX5_alarm_34 : decode cX5_alarm 34 = .ok (.iload_n 1, 1) := by decide +kernel
theorem dX5_alarm_35 : decode cX5_alarm 35 = .ok (.putfield 96, 3) := by decide +kernel
theorem dX5_alarm_38 : decode cX5_alarm 38 = .ok (.iload_n 2, 1) := by decide +kernel
theorem dX5_alarm_39 : decode cX5_alarm 39 = .ok (.ireturn, 1) := by decide +kernel
theorem dX5_tick_0 : decode cX5_tick 0 = .ok (.aload_n 0, 1) := by decide +kernel
theorem dX5_tick_1 : decode cX5_tick 1 = .ok (.iload_n 1, 1) := by decide +kernel
theorem dX5_tick_2 : decode cX5_tick 2 = .ok (.ifCond .lt 10, 3) := by decide +kernel
theorem dX5_tick_5 : decode cX5_tick 5 = .ok (.iload_n 1, 1) := by decide +kernel
theorem dX5_tick_6 : decode cX5_tick 6 = .ok (.sipush 10000, 3) := by decide +kernel
theorem dX5_tick_9 : decode cX5_tick 9 = .ok (.if_icmp .le 7, 3) := by decide +kernel
theorem dX5_tick_12 : decode cX5_tick 12 = .ok (.iconst 1, 1) := by decide +kernel
theorem dX5_tick_13 : decode cX5_tick 13 = .ok (.goto 4, 3) := by decide +kernel
theorem dX5_tick_16 : decode cX5_tick 16 = .ok (.iconst 0, 1) := by decide +kernel
theorem dX5_tick_17 : decode cX5_tick 17 = .ok (.putfield 51, 3) := by decide +kernel
theorem dX5_tick_20 : decode cX5_tick 20 = .ok (.aload_n 0, 1) := by decide +kernel
theorem dX5_tick_21 : decode cX5_tick 21 = .ok (.getfield 51, 3) := by decide +kernel
theorem dX5_tick_24 : decode cX5_tick 24 = .ok (.ifCond .le 5, 3) := by decide +kernel
theorem dX5_tick_27 : decode cX5_tick 27 = .ok (.iconst 0, 1) := by decide +kernel
theorem dX5_tick_28 : decode cX5_tick 28 = .ok (.ireturn, 1) := by decide +kernel
theorem dX5_tick_29 : decode cX5_tick 29 = .ok (.aload_n 0, 1) := by decide +kernel
theorem dX5_tick_30 : decode cX5_tick 30 = .ok (.dup, 1) := by decide +kernel
theorem dX5_tick_31 : decode cX5_tick 31 = .ok (.getfield 173, 3) := by decide +kernel
theorem dX5_tick_34 : decode cX5_tick 34 = .ok (.iload_n 1, 1) := by decide +kernel
theorem dX5_tick_35 : decode cX5_tick 35 = .ok (.iadd, 1) := by decide +kernel
theorem dX5_tick_36 : decode cX5_tick 36 = .ok (.putfield 173, 3) := by decide +kernel
theorem dX5_tick_39 : decode cX5_tick 39 = .ok (.aload_n 0, 1) := by decide +kernel
theorem dX5_tick_40 : decode cX5_tick 40 = .ok (.dup, 1) := by decide +kernel
theorem dX5_tick_41 : decode cX5_tick 41 = .ok (.getfield 141, 3) := by decide +kernel
theorem dX5_tick_44 : decode cX5_tick 44 = .ok (.aload_n 0, 1) := by decide +kernel
theorem dX5_tick_45 : decode cX5_tick 45 = .ok (.getfield 110, 3) := by decide +kernel
theorem dX5_tick_48 : decode cX5_tick 48 = .ok (.iconst 1, 1) := by decide +kernel
theorem dX5_tick_49 : decode cX5_tick 49 = .ok (.if_icmp .ne 7, 3) := by decide +kernel
theorem dX5_tick_52 : decode cX5_tick 52 = .ok (.iload_n 1, 1) := by decide +kernel
theorem dX5_tick_53 : decode cX5_tick 53 = .ok (.goto 4, 3) := by decide +kernel
theorem dX5_tick_56 : decode cX5_tick 56 = .ok (.iconst 0, 1) := by decide +kernel
theorem dX5_tick_57 : decode cX5_tick 57 = .ok (.iadd, 1) := by decide +kernel
theorem dX5_tick_58 : decode cX5_tick 58 = .ok (.putfield 141, 3) := by decide +kernel
theorem dX5_tick_61 : decode cX5_tick 61 = .ok (.aload_n 0, 1) := by decide +kernel
theorem dX5_tick_62 : decode cX5_tick 62 = .ok (.getfield 110, 3) := by decide +kernel
theorem dX5_tick_65 : decode cX5_tick 65 = .ok (.iconst 1, 1) := by decide +kernel
theorem dX5_tick_66 : decode cX5_tick 66 = .ok (.if_icmp .ne 14, 3) := by decide +kernel
theorem dX5_tick_69 : decode cX5_tick 69 = .ok (.aload_n 0, 1) := by decide +kernel
theorem dX5_tick_70 : decode cX5_tick 70 = .ok (.getfield 141, 3) := by decide +kernel
theorem dX5_tick_73 : decode cX5_tick 73 = .ok (.aload_n 0, 1) := by decide +kernel
theorem dX5_tick_74 : decode cX5_tick 74 = .ok (.getfield 138, 3) := by decide +kernel
theorem dX5_tick_77 : decode cX5_tick 77 = .ok (.if_icmp .ge 5, 3) := by decide +kernel
theorem dX5_tick_80 : decode cX5_tick 80 = .ok (.iconst 0, 1) := by decide +kernel
theorem dX5_tick_81 : decode cX5_tick 81 = .ok (.ireturn, 1) := by decide +kernel
theorem dX5_tick_82 : decode cX5_tick 82 = .ok (.aload_n 0, 1) := by decide +kernel
theorem dX5_tick_83 : decode cX5_tick 83 = .ok (.getfield 107, 3) := by decide +kernel
theorem dX5_tick_86 : decode cX5_tick 86 = .ok (.istore_n 2, 1) := by decide +kernel
theorem dX5_tick_87 : decode cX5_tick 87 = .ok (.aload_n 0, 1) := by decide +kernel
theorem dX5_tick_88 : decode cX5_tick 88 = .ok (.dup, 1) := by decide +kernel
theorem dX5_tick_89 : decode cX5_tick 89 = .ok (.getfield 116, 3) := by decide +kernel
theorem dX5_tick_92 : decode cX5_tick 92 = .ok (.iload_n 2, 1) := by decide +kernel
theorem dX5_tick_93 : decode cX5_tick 93 = .ok (.iadd, 1) := by decide +kernel
theorem dX5_tick_94 : decode cX5_tick 94 = .ok (.putfield 116, 3) := by decide +kernel
theorem dX5_tick_97 : decode cX5_tick 97 = .ok (.aload_n 0, 1) := by decide +kernel
theorem dX5_tick_98 : decode cX5_tick 98 = .ok (.iconst 0, 1) := by decide +kernel
theorem dX5_tick_99 : decode cX5_tick 99 = .ok (.putfield 107, 3) := by decide +kernel
theorem dX5_tick_102 : decode cX5_tick 102 = .ok (.aload_n 0, 1) := by decide +kernel
theorem dX5_tick_103 : decode cX5_tick 103 = .ok (.iconst 2, 1) := by decide +kernel
theorem dX5_tick_104 : decode cX5_tick 104 = .ok (.putfield 110, 3) := by decide +kernel
theorem dX5_tick_107 : decode cX5_tick 107 = .ok (.iload_n 2, 1) := by decide +kernel
theorem dX5_tick_108 : decode cX5_tick 108 = .ok (.ireturn, 1) := by decide +kernel
theorem dX5_map_0 : decode cX5_map 0 = .ok (.aload_n 0, 1) := by decide +kernel
theorem dX5_map_1 : decode cX5_map 1 = .ok (.iload_n 1, 1) := by decide +kernel
theorem dX5_map_2 : decode cX5_map 2 = .ok (.ifCond .lt 8, 3) := by decide +kernel
theorem dX5_map_5 : decode cX5_map 5 = .ok (.iload_n 1, 1) := by decide +kernel
theorem dX5_map_6 : decode cX5_map 6 = .ok (.iconst 2, 1) := by decide +kernel
theorem dX5_map_7 : decode cX5_map 7 = .ok (.if_icmp .le 7, 3) := by decide +kernel
theorem dX5_map_10 : decode cX5_map 10 = .ok (.iconst 1, 1) := by decide +kernel
theorem dX5_map_11 : decode cX5_map 11 = .ok (.goto 25, 3) := by decide +kernel
theorem dX5_map_14 : decode cX5_map 14 = .ok (.iload_n 2, 1) := by decide +kernel
theorem dX5_map_15 : decode cX5_map 15 = .ok (.invokestatic 54, 3) := by decide +kernel
theorem dX5_map_18 : decode cX5_map 18 = .ok (.ifCond .eq 13, 3) := by decide +kernel
theorem dX5_map_21 : decode cX5_map 21 = .ok (.iload_n 3, 1) := by decide +kernel
theorem dX5_map_22 : decode cX5_map 22 = .ok (.ifCond .lt 9, 3) := by decide +kernel
theorem dX5_map_25 : decode cX5_map 25 = .ok (.iload_n 3, 1) := by decide +kernel
theorem dX5_map_26 : decode cX5_map 26 = .ok (.bipush 40, 2) := by decide +kernel
theorem dX5_map_28 : decode cX5_map 28 = .ok (.if_icmp .lt 7, 3) := by decide +kernel
theorem dX5_map_31 : decode cX5_map 31 = .ok (.iconst 2, 1) := by decide +kernel
theorem dX5_map_32 : decode cX5_map 32 = .ok (.goto 4, 3) := by decide +kernel
theorem dX5_map_35 : decode cX5_map 35 = .ok (.iconst 0, 1) := by decide +kernel
theorem dX5_map_36 : decode cX5_map 36 = .ok (.putfield 51, 3) := by decide +kernel
theorem dX5_map_39 : decode cX5_map 39 = .ok (.aload_n 0, 1) := by decide +kernel
theorem dX5_map_40 : decode cX5_map 40 = .ok (.getfield 51, 3) := by decide +kernel
theorem dX5_map_43 : decode cX5_map 43 = .ok (.ifCond .le 7, 3) := by decide +kernel
theorem dX5_map_46 : decode cX5_map 46 = .ok (.iconst 0, 1) := by decide +kernel
theorem dX5_map_47 : decode cX5_map 47 = .ok (.goto 32, 3) := by decide +kernel
theorem dX5_map_50 : decode cX5_map 50 = .ok (.aload_n 0, 1) := by decide +kernel
theorem dX5_map_51 : decode cX5_map 51 = .ok (.getfield 7, 3) := by decide +kernel
theorem dX5_map_54 : decode cX5_map 54 = .ok (.bipush 16, 2) := by decide +kernel
theorem dX5_map_56 : decode cX5_map 56 = .ok (.iload_n 1, 1) := by decide +kernel
theorem dX5_map_57 : decode cX5_map 57 = .ok (.imul, 1) := by decide +kernel
theorem dX5_map_58 : decode cX5_map 58 = .ok (.iload_n 2, 1) := by decide +kernel
theorem dX5_map_59 : decode cX5_map 59 = .ok (.iadd, 1) := by decide +kernel
theorem dX5_map_60 : decode cX5_map 60 = .ok (.baload, 1) := by decide +kernel
theorem dX5_map_61 : decode cX5_map 61 = .ok (.ifCond .eq 17, 3) := by decide +kernel
theorem dX5_map_64 : decode cX5_map 64 = .ok (.aload_n 0, 1) := by decide +kernel
theorem dX5_map_65 : decode cX5_map 65 = .ok (.getfield 26, 3) := by decide +kernel
theorem dX5_map_68 : decode cX5_map 68 = .ok (.iload_n 1, 1) := by decide +kernel
theorem dX5_map_69 : decode cX5_map 69 = .ok (.iload_n 2, 1) := by decide +kernel
theorem dX5_map_70 : decode cX5_map 70 = .ok (.iload_n 3, 1) := by decide +kernel
theorem dX5_map_71 : decode cX5_map 71 = .ok (.invokestatic 58, 3) := by decide +kernel
theorem dX5_map_74 : decode cX5_map 74 = .ok (.iaload, 1) := by decide +kernel
theorem dX5_map_75 : decode cX5_map 75 = .ok (.goto 4, 3) := by decide +kernel
theorem dX5_map_78 : decode cX5_map 78 = .ok (.iconst (-1), 1) := by decide +kernel
theorem dX5_map_79 : decode cX5_map 79 = .ok (.ireturn, 1) := by decide +kernel
theorem dX5_volume_0 : decode cX5_volume 0 = .ok (.aload_n 0, 1) := by decide +kernel
theorem dX5_volume_1 : decode cX5_volume 1 = .ok (.aload_n 0, 1) := by decide +kernel
theorem dX5_volume_2 : decode cX5_volume 2 = .ok (.iload_n 1, 1) := by decide +kernel
theorem dX5_volume_3 : decode cX5_volume 3 = .ok (.invokevirtual 126, 3) := by decide +kernel
theorem dX5_volume_6 : decode cX5_volume 6 = .ok (.ifCond .eq 13, 3) := by decide +kernel
theorem dX5_volume_9 : decode cX5_volume 9 = .ok (.iload_n 2, 1) := by decide +kernel
theorem dX5_volume_10 : decode cX5_volume 10 = .ok (.ifCond .lt 9, 3) := by decide +kernel
theorem dX5_volume_13 : decode cX5_volume 13 = .ok (.iload_n 2, 1) := by decide +kernel
theorem dX5_volume_14 : decode cX5_volume 14 = .ok (.bipush 7, 2) := by decide +kernel
theorem dX5_volume_16 : decode cX5_volume 16 = .ok (.if_icmp .le 7, 3) := by decide +kernel
theorem dX5_volume_19 : decode cX5_volume 19 = .ok (.iconst 1, 1) := by decide +kernel
theorem dX5_volume_20 : decode cX5_volume 20 = .ok (.goto 4, 3) := by decide +kernel
theorem dX5_volume_23 : decode cX5_volume 23 = .ok (.iconst 0, 1) := by decide +kernel
theorem dX5_volume_24 : decode cX5_volume 24 = .ok (.putfield 51, 3) := by decide +kernel
theorem dX5_volume_27 : decode cX5_volume 27 = .ok (.aload_n 0, 1) := by decide +kernel
theorem dX5_volume_28 : decode cX5_volume 28 = .ok (.getfield 51, 3) := by decide +kernel
theorem dX5_volume_31 : decode cX5_volume 31 = .ok (.ifCond .le 5, 3) := by decide +kernel
theorem dX5_volume_34 : decode cX5_volume 34 = .ok (.iconst 0, 1) := by decide +kernel
theorem dX5_volume_35 : decode cX5_volume 35 = .ok (.ireturn, 1) := by decide +kernel
theorem dX5_volume_36 : decode cX5_volume 36 = .ok (.iconst (-1), 1) := by decide +kernel
theorem dX5_volume_37 : decode cX5_volume 37 = .ok (.istore_n 3, 1) := by decide +kernel
theorem dX5_volume_38 : decode cX5_volume 38 = .ok (.iconst 0, 1) := by decide +kernel
theorem dX5_volume_39 : decode cX5_volume 39 = .ok (.istore 4, 2) := by decide +kernel
theorem dX5_volume_41 : decode cX5_volume 41 = .ok (.iconst 0, 1) := by decide +kernel
theorem dX5_volume_42 : decode cX5_volume 42 = .ok (.istore 5, 2) := by decide +kernel
theorem dX5_volume_44 : decode cX5_volume 44 = .ok (.iconst 0, 1) := by decide +kernel
theorem dX5_volume_45 : decode cX5_volume 45 = .ok (.istore 6, 2) := by decide +kernel
theorem dX5_volume_47 : decode cX5_volume 47 = .ok (.iload 6, 2) := by decide +kernel
theorem dX5_volume_49 : decode cX5_volume 49 = .ok (.bipush 40, 2) := by decide +kernel
theorem dX5_volume_51 : decode cX5_volume 51 = .ok (.if_icmp .ge 61, 3) := by decide +kernel
theorem dX5_volume_54 : decode cX5_volume 54 = .ok (.aload_n 0, 1) := by decide +kernel
theorem dX5_volume_55 : decode cX5_volume 55 = .ok (.getfield 26, 3) := by decide +kernel
theorem dX5_volume_58 : decode cX5_volume 58 = .ok (.iconst 0, 1) := by decide +kernel
theorem dX5_volume_59 : decode cX5_volume 59 = .ok (.iload_n 1, 1) := by decide +kernel
theorem dX5_volume_60 : decode cX5_volume 60 = .ok (.iload 6, 2) := by decide +kernel
theorem dX5_volume_62 : decode cX5_volume 62 = .ok (.invokestatic 58, 3) := by decide +kernel
theorem dX5_volume_65 : decode cX5_volume 65 = .ok (.iaload, 1) := by decide +kernel
theorem dX5_volume_66 : decode cX5_volume 66 = .ok (.istore 7, 2) := by decide +kernel
theorem dX5_volume_68 : decode cX5_volume 68 = .ok (.iload 7, 2) := by decide +kernel
theorem dX5_volume_70 : decode cX5_volume 70 = .ok (.iconst (-1), 1) := by decide +kernel
theorem dX5_volume_71 : decode cX5_volume 71 = .ok (.if_icmp .eq 8, 3) := by decide +kernel
theorem dX5_volume_74 : decode cX5_volume 74 = .ok (.iload 6, 2) := by decide +kernel
theorem dX5_volume_76 : decode cX5_volume 76 = .ok (.goto 4, 3) := by decide +kernel
theorem dX5_volume_79 : decode cX5_volume 79 = .ok (.iload_n 3, 1) := by decide +kernel
theorem dX5_volume_80 : decode cX5_volume 80 = .ok (.istore_n 3, 1) := by decide +kernel
theorem dX5_volume_81 : decode cX5_volume 81 = .ok (.iload 4, 2) := by decide +kernel
theorem dX5_volume_83 : decode cX5_volume 83 = .ok (.iload 7, 2) := by decide +kernel
theorem dX5_volume_85 : decode cX5_volume 85 = .ok (.iconst (-1), 1) := by decide +kernel
theorem dX5_volume_86 : decode cX5_volume 86 = .ok (.if_icmp .eq 16, 3) := by decide +kernel
theorem dX5_volume_89 : decode cX5_volume 89 = .ok (.aload_n 0, 1) := by decide +kernel
theorem dX5_volume_90 : decode cX5_volume 90 = .ok (.iload 7, 2) := by decide +kernel
theorem dX5_volume_92 : decode cX5_volume 92 = .ok (.invokevirtual 73, 3) := by decide +kernel
theorem dX5_volume_95 : decode cX5_volume 95 = .ok (.ifCond .ne 7, 3) := by decide +kernel
theorem dX5_volume_98 : decode cX5_volume 98 = .ok (.iconst 1, 1) := by decide +kernel
theorem dX5_volume_99 : decode cX5_volume 99 = .ok (.goto 4, 3) := by decide +kernel
theorem dX5_volume_102 : decode cX5_volume 102 = .ok (.iconst 0, 1) := by decide +kernel
theorem dX5_volume_103 : decode cX5_volume 103 = .ok (.iadd, 1) := by decide +kernel
theorem dX5_volume_104 : decode cX5_volume 104 = .ok (.istore 4, 2) := by decide +kernel
theorem dX5_volume_106 : decode cX5_volume 106 = .ok (.iinc 6 1, 3) := by decide +kernel
theorem dX5_volume_109 : decode cX5_volume 109 = .ok (.goto (-62), 3) := by decide +kernel
theorem dX5_volume_112 : decode cX5_volume 112 = .ok (.iconst 0, 1) := by decide +kernel
theorem dX5_volume_113 : decode cX5_volume 113 = .ok (.istore 6, 2) := by decide +kernel
theorem dX5_volume_115 : decode cX5_volume 115 = .ok (.iload 6, 2) := by decide +kernel
theorem dX5_volume_117 : decode cX5_volume 117 = .ok (.aload_n 0, 1) := by decide +kernel
theorem dX5_volume_118 : decode cX5_volume 118 = .ok (.getfield 107, 3) := by decide +kernel
theorem dX5_volume_121 : decode cX5_volume 121 = .ok (.if_icmp .ge 30, 3) := by decide +kernel
theorem dX5_volume_124 : decode cX5_volume 124 = .ok (.iload 5, 2) := by decide +kernel
theorem dX5_volume_126 : decode cX5_volume 126 = .ok (.aload_n 0, 1) := by decide +kernel
theorem dX5_volume_127 : decode cX5_volume 127 = .ok (.getfield 42, 3) := by decide +kernel
theorem dX5_volume_130 : decode cX5_volume 130 = .ok (.iload 6, 2) := by decide +kernel
theorem dX5_volume_132 : decode cX5_volume 132 = .ok (.iaload, 1) := by decide +kernel
theorem dX5_volume_133 : decode cX5_volume 133 = .ok (.iload_n 1, 1) := by decide +kernel
theorem dX5_volume_134 : decode cX5_volume 134 = .ok (.if_icmp .ne 7, 3) := by decide +kernel
theorem dX5_volume_137 : decode cX5_volume 137 = .ok (.iconst 1, 1) := by decide +kernel
theorem dX5_volume_138 : decode cX5_volume 138 = .ok (.goto 4, 3) := by decide +kernel
theorem dX5_volume_141 : decode cX5_volume 141 = .ok (.iconst 0, 1) := by decide +kernel
theorem dX5_volume_142 : decode cX5_volume 142 = .ok (.iadd, 1) := by decide +kernel
theorem dX5_volume_143 : decode cX5_volume 143 = .ok (.istore 5, 2) := by decide +kernel
theorem dX5_volume_145 : decode cX5_volume 145 = .ok (.iinc 6 1, 3) := by decide +kernel
theorem dX5_volume_148 : decode cX5_volume 148 = .ok (.goto (-33), 3) := by decide +kernel
theorem dX5_volume_151 : decode cX5_volume 151 = .ok (.iload_n 2, 1) := by decide +kernel
theorem dX5_volume_152 : decode cX5_volume 152 = .ok (.ifCond .ne 12, 3) := by decide +kernel
theorem dX5_volume_155 : decode cX5_volume 155 = .ok (.aload_n 0, 1) := by decide +kernel
theorem dX5_volume_156 : decode cX5_volume 156 = .ok (.getfield 13, 3) := by decide +kernel
theorem dX5_volume_159 : decode cX5_volume 159 = .ok (.iload_n 1, 1) := by decide +kernel
theorem dX5_volume_160 : decode cX5_volume 160 = .ok (.iaload, 1) := by decide +kernel
theorem dX5_volume_161 : decode cX5_volume 161 = .ok (.goto 88, 3) := by decide +kernel
theorem dX5_volume_164 : decode cX5_volume 164 = .ok (.iload_n 2, 1) := by decide +kernel
theorem dX5_volume_165 : decode cX5_volume 165 = .ok (.iconst 1, 1) := by decide +kernel
theorem dX5_volume_166 : decode cX5_volume 166 = .ok (.if_icmp .ne 11, 3) := by decide +kernel
theorem dX5_volume_169 : decode cX5_volume 169 = .ok (.aload_n 0, 1) := by decide +kernel
theorem dX5_volume_170 : decode cX5_volume 170 = .ok (.iload_n 1, 1) := by decide +kernel
theorem dX5_volume_171 : decode cX5_volume 171 = .ok (.invokevirtual 76, 3) := by decide +kernel
theorem dX5_volume_174 : decode cX5_volume 174 = .ok (.goto 75, 3) := by decide +kernel
theorem dX5_volume_177 : decode cX5_volume 177 = .ok (.iload_n 2, 1) := by decide +kernel
theorem dX5_volume_178 : decode cX5_volume 178 = .ok (.iconst 2, 1) := by decide +kernel
theorem dX5_volume_179 : decode cX5_volume 179 = .ok (.if_icmp .ne 7, 3) := by decide +kernel
theorem dX5_volume_182 : decode cX5_volume 182 = .ok (.iload_n 3, 1) := by decide +kernel
theorem dX5_volume_183 : decode cX5_volume 183 = .ok (.goto 66, 3) := by decide +kernel
theorem dX5_volume_186 : decode cX5_volume 186 = .ok (.iload_n 2, 1) := by decide +kernel
theorem dX5_volume_187 : decode cX5_volume 187 = .ok (.iconst 3, 1) := by decide +kernel
theorem dX5_volume_188 : decode cX5_volume 188 = .ok (.if_icmp .ne 8, 3) := by decide +kernel
theorem dX5_volume_191 : decode cX5_volume 191 = .ok (.iload 4, 2) := by decide +kernel
theorem dX5_volume_193 : decode cX5_volume 193 = .ok (.goto 56, 3) := by decide +kernel
theorem dX5_volume_196 : decode cX5_volume 196 = .ok (.iload_n 2, 1) := by decide +kernel
theorem dX5_volume_197 : decode cX5_volume 197 = .ok (.iconst 4, 1) := by decide +kernel
theorem dX5_volume_198 : decode cX5_volume 198 = .ok (.if_icmp .ne 12, 3) := by decide +kernel
theorem dX5_volume_201 : decode cX5_volume 201 = .ok (.aload_n 0, 1) := by decide +kernel
theorem dX5_volume_202 : decode cX5_volume 202 = .ok (.getfield 23, 3) := by decide +kernel
theorem dX5_volume_205 : decode cX5_volume 205 = .ok (.iload_n 1, 1) := by decide +kernel
theorem dX5_volume_206 : decode cX5_volume 206 = .ok (.iaload, 1) := by decide +kernel
theorem dX5_volume_207 : decode cX5_volume 207 = .ok (.goto 42, 3) := by decide +kernel
theorem dX5_volume_210 : decode cX5_volume 210 = .ok (.iload_n 2, 1) := by decide +kernel
theorem dX5_volume_211 : decode cX5_volume 211 = .ok (.iconst 5, 1) := by decide +kernel
theorem dX5_volume_212 : decode cX5_volume 212 = .ok (.if_icmp .ne 8, 3) := by decide +kernel
theorem dX5_volume_215 : decode cX5_volume 215 = .ok (.iload 5, 2) := by decide +kernel
theorem dX5_volume_217 : decode cX5_volume 217 = .ok (.goto 32, 3) := by decide +kernel
theorem dX5_volume_220 : decode cX5_volume 220 = .ok (.iload_n 2, 1) := by decide +kernel
theorem dX5_volume_221 : decode cX5_volume 221 = .ok (.bipush 6, 2) := by decide +kernel
theorem dX5_volume_223 : decode cX5_volume 223 = .ok (.if_icmp .ne 20, 3) := by decide +kernel
theorem dX5_volume_226 : decode cX5_volume 226 = .ok (.aload_n 0, 1) := by decide +kernel
theorem dX5_volume_227 : decode cX5_volume 227 = .ok (.getfield 17, 3) := by decide +kernel
theorem dX5_volume_230 : decode cX5_volume 230 = .ok (.iload_n 1, 1) := by decide +kernel
theorem dX5_volume_231 : decode cX5_volume 231 = .ok (.baload, 1) := by decide +kernel
theorem dX5_volume_232 : decode cX5_volume 232 = .ok (.ifCond .eq 7, 3) := by decide +kernel
theorem dX5_volume_235 : decode cX5_volume 235 = .ok (.iconst 1, 1) := by decide +kernel
theorem dX5_volume_236 : decode cX5_volume 236 = .ok (.goto 13, 3) := by decide +kernel
theorem dX5_volume_239 : decode cX5_volume 239 = .ok (.iconst 0, 1) := by decide +kernel
theorem dX5_volume_240 : decode cX5_volume 240 = .ok (.goto 9, 3) := by decide +kernel
theorem dX5_volume_243 : decode cX5_volume 243 = .ok (.aload_n 0, 1) := by decide +kernel
theorem dX5_volume_244 : decode cX5_volume 244 = .ok (.getfield 20, 3) := by decide +kernel
theorem dX5_volume_247 : decode cX5_volume 247 = .ok (.iload_n 1, 1) := by decide +kernel
theorem dX5_volume_248 : decode cX5_volume 248 = .ok (.iaload, 1) := by decide +kernel
theorem dX5_volume_249 : decode cX5_volume 249 = .ok (.ireturn, 1) := by decide +kernel
theorem dX5_sortAt_0 : decode cX5_sortAt 0 = .ok (.aload_n 0, 1) := by decide +kernel
theorem dX5_sortAt_1 : decode cX5_sortAt 1 = .ok (.getfield 26, 3) := by decide +kernel
theorem dX5_sortAt_4 : decode cX5_sortAt 4 = .ok (.iconst 0, 1) := by decide +kernel
theorem dX5_sortAt_5 : decode cX5_sortAt 5 = .ok (.iload_n 1, 1) := by decide +kernel
theorem dX5_sortAt_6 : decode cX5_sortAt 6 = .ok (.iload_n 3, 1) := by decide +kernel
theorem dX5_sortAt_7 : decode cX5_sortAt 7 = .ok (.invokestatic 58, 3) := by decide +kernel
theorem dX5_sortAt_10 : decode cX5_sortAt 10 = .ok (.iaload, 1) := by decide +kernel
theorem dX5_sortAt_11 : decode cX5_sortAt 11 = .ok (.istore 4, 2) := by decide +kernel
theorem dX5_sortAt_13 : decode cX5_sortAt 13 = .ok (.aload_n 0, 1) := by decide +kernel
theorem dX5_sortAt_14 : decode cX5_sortAt 14 = .ok (.getfield 26, 3) := by decide +kernel
theorem dX5_sortAt_17 : decode cX5_sortAt 17 = .ok (.iconst 0, 1) := by decide +kernel
theorem dX5_sortAt_18 : decode cX5_sortAt 18 = .ok (.iload_n 2, 1) := by decide +kernel
theorem dX5_sortAt_19 : decode cX5_sortAt 19 = .ok (.iload_n 3, 1) := by decide +kernel
theorem dX5_sortAt_20 : decode cX5_sortAt 20 = .ok (.invokestatic 58, 3) := by decide +kernel
theorem dX5_sortAt_23 : decode cX5_sortAt 23 = .ok (.iaload, 1) := by decide +kernel
theorem dX5_sortAt_24 : decode cX5_sortAt 24 = .ok (.istore 5, 2) := by decide +kernel
theorem dX5_sortAt_26 : decode cX5_sortAt 26 = .ok (.iload 4, 2) := by decide +kernel
theorem dX5_sortAt_28 : decode cX5_sortAt 28 = .ok (.iconst (-1), 1) := by decide +kernel
theorem dX5_sortAt_29 : decode cX5_sortAt 29 = .ok (.if_icmp .ne 17, 3) := by decide +kernel
theorem dX5_sortAt_32 : decode cX5_sortAt 32 = .ok (.iload 5, 2) := by decide +kernel
theorem dX5_sortAt_34 : decode cX5_sortAt 34 = .ok (.iconst (-1), 1) := by decide +kernel
theorem dX5_sortAt_35 : decode cX5_sortAt 35 = .ok (.if_icmp .ne 7, 3) := by decide +kernel
theorem dX5_sortAt_38 : decode cX5_sortAt 38 = .ok (.iconst (-1), 1) := by decide +kernel
theorem dX5_sortAt_39 : decode cX5_sortAt 39 = .ok (.goto 29, 3) := by decide +kernel
theorem dX5_sortAt_42 : decode cX5_sortAt 42 = .ok (.iconst 3, 1) := by decide +kernel
theorem dX5_sortAt_43 : decode cX5_sortAt 43 = .ok (.goto 25, 3) := by decide +kernel
theorem dX5_sortAt_46 : decode cX5_sortAt 46 = .ok (.iload 5, 2) := by decide +kernel
theorem dX5_sortAt_48 : decode cX5_sortAt 48 = .ok (.iconst (-1), 1) := by decide +kernel
theorem dX5_sortAt_49 : decode cX5_sortAt 49 = .ok (.if_icmp .ne 7, 3) := by decide +kernel
theorem dX5_sortAt_52 : decode cX5_sortAt 52 = .ok (.iconst 2, 1) := by decide +kernel
theorem dX5_sortAt_53 : decode cX5_sortAt 53 = .ok (.goto 15, 3) := by decide +kernel
theorem dX5_sortAt_56 : decode cX5_sortAt 56 = .ok (.iload 4, 2) := by decide +kernel
theorem dX5_sortAt_58 : decode cX5_sortAt 58 = .ok (.iload 5, 2) := by decide +kernel
theorem dX5_sortAt_60 : decode cX5_sortAt 60 = .ok (.if_icmp .ne 7, 3) := by decide +kernel
theorem dX5_sortAt_63 : decode cX5_sortAt 63 = .ok (.iconst 0, 1) := by decide +kernel
theorem dX5_sortAt_64 : decode cX5_sortAt 64 = .ok (.goto 4, 3) := by decide +kernel
theorem dX5_sortAt_67 : decode cX5_sortAt 67 = .ok (.iconst 1, 1) := by decide +kernel
theorem dX5_sortAt_68 : decode cX5_sortAt 68 = .ok (.ireturn, 1) := by decide +kernel
theorem dX5_differ_0 : decode cX5_differ 0 = .ok (.aload_n 0, 1) := by decide +kernel
theorem dX5_differ_1 : decode cX5_differ 1 = .ok (.aload_n 0, 1) := by decide +kernel
theorem dX5_differ_2 : decode cX5_differ 2 = .ok (.iload_n 1, 1) := by decide +kernel
theorem dX5_differ_3 : decode cX5_differ 3 = .ok (.invokevirtual 126, 3) := by decide +kernel
theorem dX5_differ_6 : decode cX5_differ 6 = .ok (.ifCond .eq 20, 3) := by decide +kernel
theorem dX5_differ_9 : decode cX5_differ 9 = .ok (.aload_n 0, 1) := by decide +kernel
theorem dX5_differ_10 : decode cX5_differ 10 = .ok (.iload_n 2, 1) := by decide +kernel
theorem dX5_differ_11 : decode cX5_differ 11 = .ok (.invokevirtual 126, 3) := by decide +kernel
theorem dX5_differ_14 : decode cX5_differ 14 = .ok (.ifCond .eq 12, 3) := by decide +kernel
theorem dX5_differ_17 : decode cX5_differ 17 = .ok (.iload_n 3, 1) := by decide +kernel
theorem dX5_differ_18 : decode cX5_differ 18 = .ok (.ifCond .lt 8, 3) := by decide +kernel
theorem dX5_differ_21 : decode cX5_differ 21 = .ok (.iload_n 3, 1) := by decide +kernel
theorem dX5_differ_22 : decode cX5_differ 22 = .ok (.iconst 4, 1) := by decide +kernel
theorem dX5_differ_23 : decode cX5_differ 23 = .ok (.if_icmp .le 7, 3) := by decide +kernel
theorem dX5_differ_26 : decode cX5_differ 26 = .ok (.iconst 1, 1) := by decide +kernel
theorem dX5_differ_27 : decode cX5_differ 27 = .ok (.goto 4, 3) := by decide +kernel
theorem dX5_differ_30 : decode cX5_differ 30 = .ok (.iconst 0, 1) := by decide +kernel
theorem dX5_differ_31 : decode cX5_differ 31 = .ok (.putfield 51, 3) := by decide +kernel
theorem dX5_differ_34 : decode cX5_differ 34 = .ok (.iconst 0, 1) := by decide +kernel
theorem dX5_differ_35 : decode cX5_differ 35 = .ok (.istore 4, 2) := by decide +kernel
theorem dX5_differ_37 : decode cX5_differ 37 = .ok (.iconst 0, 1) := by decide +kernel
theorem dX5_differ_38 : decode cX5_differ 38 = .ok (.istore 5, 2) := by decide +kernel
theorem dX5_differ_40 : decode cX5_differ 40 = .ok (.iload 5, 2) := by decide +kernel
theorem dX5_differ_42 : decode cX5_differ 42 = .ok (.bipush 40, 2) := by decide +kernel
theorem dX5_differ_44 : decode cX5_differ 44 = .ok (.if_icmp .ge 93, 3) := by decide +kernel
theorem dX5_differ_47 : decode cX5_differ 47 = .ok (.aload_n 0, 1) := by decide +kernel
theorem dX5_differ_48 : decode cX5_differ 48 = .ok (.getfield 51, 3) := by decide +kernel
theorem dX5_differ_51 : decode cX5_differ 51 = .ok (.ifCond .ne 86, 3) := by decide +kernel
theorem dX5_differ_54 : decode cX5_differ 54 = .ok (.aload_n 0, 1) := by decide +kernel
theorem dX5_differ_55 : decode cX5_differ 55 = .ok (.iload_n 1, 1) := by decide +kernel
theorem dX5_differ_56 : decode cX5_differ 56 = .ok (.iload_n 2, 1) := by decide +kernel
theorem dX5_differ_57 : decode cX5_differ 57 = .ok (.iload 5, 2) := by decide +kernel
theorem dX5_differ_59 : decode cX5_differ 59 = .ok (.invokevirtual 176, 3) := by decide +kernel
theorem dX5_differ_62 : decode cX5_differ 62 = .ok (.istore 6, 2) := by decide +kernel
theorem dX5_differ_64 : decode cX5_differ 64 = .ok (.iload 6, 2) := by decide +kernel
theorem dX5_differ_66 : decode cX5_differ 66 = .ok (.iconst (-1), 1) := by decide +kernel
theorem dX5_differ_67 : decode cX5_differ 67 = .ok (.if_icmp .eq 27, 3) := by decide +kernel
theorem dX5_differ_70 : decode cX5_differ 70 = .ok (.iload 5, 2) := by decide +kernel
theorem dX5_differ_72 : decode cX5_differ 72 = .ok (.ifCond .eq 18, 3) := by decide +kernel
theorem dX5_differ_75 : decode cX5_differ 75 = .ok (.aload_n 0, 1) := by decide +kernel
theorem dX5_differ_76 : decode cX5_differ 76 = .ok (.iload_n 1, 1) := by decide +kernel
theorem dX5_differ_77 : decode cX5_differ 77 = .ok (.iload_n 2, 1) := by decide +kernel
theorem dX5_differ_78 : decode cX5_differ 78 = .ok (.iload 5, 2) := by decide +kernel
theorem dX5_differ_80 : decode cX5_differ 80 = .ok (.iconst 1, 1) := by decide +kernel
theorem dX5_differ_81 : decode cX5_differ 81 = .ok (.isub, 1) := by decide +kernel
theorem dX5_differ_82 : decode cX5_differ 82 = .ok (.invokevirtual 176, 3) := by decide +kernel
theorem dX5_differ_85 : decode cX5_differ 85 = .ok (.iload 6, 2) := by decide +kernel
theorem dX5_differ_87 : decode cX5_differ 87 = .ok (.if_icmp .eq 7, 3) := by decide +kernel
theorem dX5_differ_90 : decode cX5_differ 90 = .ok (.iconst 1, 1) := by decide +kernel
theorem dX5_differ_91 : decode cX5_differ 91 = .ok (.goto 4, 3) := by decide +kernel
theorem dX5_differ_94 : decode cX5_differ 94 = .ok (.iconst 0, 1) := by decide +kernel
theorem dX5_differ_95 : decode cX5_differ 95 = .ok (.istore 7, 2) := by decide +kernel
theorem dX5_differ_97 : decode cX5_differ 97 = .ok (.iload 4, 2) := by decide +kernel
theorem dX5_differ_99 : decode cX5_differ 99 = .ok (.iload_n 3, 1) := by decide +kernel
theorem dX5_differ_100 : decode cX5_differ 100 = .ok (.iconst 4, 1) := by decide +kernel
theorem dX5_differ_101 : decode cX5_differ 101 = .ok (.if_icmp .ne 16, 3) := by decide +kernel
theorem dX5_differ_104 : decode cX5_differ 104 = .ok (.iload 7, 2) := by decide +kernel
theorem dX5_differ_106 : decode cX5_differ 106 = .ok (.ifCond .eq 7, 3) := by decide +kernel
theorem dX5_differ_109 : decode cX5_differ 109 = .ok (.iconst 1, 1) := by decide +kernel
theorem dX5_differ_110 : decode cX5_differ 110 = .ok (.goto 18, 3) := by decide +kernel
theorem dX5_differ_113 : decode cX5_differ 113 = .ok (.iconst 0, 1) := by decide +kernel
theorem dX5_differ_114 : decode cX5_differ 114 = .ok (.goto 14, 3) := by decide +kernel
theorem dX5_differ_117 : decode cX5_differ 117 = .ok (.iload 6, 2) := by decide +kernel
theorem dX5_differ_119 : decode cX5_differ 119 = .ok (.iload_n 3, 1) := by decide +kernel
theorem dX5_differ_120 : decode cX5_differ 120 = .ok (.if_icmp .ne 7, 3) := by decide +kernel
theorem dX5_differ_123 : decode cX5_differ 123 = .ok (.iconst 1, 1) := by decide +kernel
theorem dX5_differ_124 : decode cX5_differ 124 = .ok (.goto 4, 3) := by decide +kernel
theorem dX5_differ_127 : decode cX5_differ 127 = .ok (.iconst 0, 1) := by decide +kernel
theorem dX5_differ_128 : decode cX5_differ 128 = .ok (.iadd, 1) := by decide +kernel
theorem dX5_differ_129 : decode cX5_differ 129 = .ok (.istore 4, 2) := by decide +kernel
theorem dX5_differ_131 : decode cX5_differ 131 = .ok (.iinc 5 1, 3) := by decide +kernel
theorem dX5_differ_134 : decode cX5_differ 134 = .ok (.goto (-94), 3) := by decide +kernel
theorem dX5_differ_137 : decode cX5_differ 137 = .ok (.iload 4, 2) := by decide +kernel
theorem dX5_differ_139 : decode cX5_differ 139 = .ok (.ireturn, 1) := by decide +kernel
theorem dX5_users_0 : decode cX5_users 0 = .ok (.aload_n 0, 1) := by decide +kernel
theorem dX5_users_1 : decode cX5_users 1 = .ok (.iload_n 1, 1) := by decide +kernel
theorem dX5_users_2 : decode cX5_users 2 = .ok (.ifCond .lt 11, 3) := by decide +kernel
theorem dX5_users_5 : decode cX5_users 5 = .ok (.iload_n 1, 1) := by decide +kernel
theorem dX5_users_6 : decode cX5_users 6 = .ok (.aload_n 0, 1) := by decide +kernel
theorem dX5_users_7 : decode cX5_users 7 = .ok (.getfield 32, 3) := by decide +kernel
theorem dX5_users_10 : decode cX5_users 10 = .ok (.if_icmp .lt 7, 3) := by decide +kernel
theorem dX5_users_13 : decode cX5_users 13 = .ok (.iconst 1, 1) := by decide +kernel
theorem dX5_users_14 : decode cX5_users 14 = .ok (.goto 4, 3) := by decide +kernel
theorem dX5_users_17 : decode cX5_users 17 = .ok (.iconst 0, 1) := by decide +kernel
theorem dX5_users_18 : decode cX5_users 18 = .ok (.putfield 51, 3) := by decide +kernel
theorem dX5_users_21 : decode cX5_users 21 = .ok (.aload_n 0, 1) := by decide +kernel
theorem dX5_users_22 : decode cX5_users 22 = .ok (.getfield 51, 3) := by decide +kernel
theorem dX5_users_25 : decode cX5_users 25 = .ok (.ifCond .ne 12, 3) := by decide +kernel
theorem dX5_users_28 : decode cX5_users 28 = .ok (.aload_n 0, 1) := by decide +kernel
theorem dX5_users_29 : decode cX5_users 29 = .ok (.iconst 0, 1) := by decide +kernel
theorem dX5_users_30 : decode cX5_users 30 = .ok (.iload_n 1, 1) := by decide +kernel
theorem dX5_users_31 : decode cX5_users 31 = .ok (.invokevirtual 62, 3) := by decide +kernel
theorem dX5_users_34 : decode cX5_users 34 = .ok (.goto 4, 3) := by decide +kernel
theorem dX5_users_37 : decode cX5_users 37 = .ok (.iconst 0, 1) := by decide +kernel
theorem dX5_users_38 : decode cX5_users 38 = .ok (.ireturn, 1) := by decide +kernel
theorem dX5_user_0 : decode cX5_user 0 = .ok (.aload_n 0, 1) := by decide +kernel
theorem dX5_user_1 : decode cX5_user 1 = .ok (.iload_n 1, 1) := by decide +kernel
theorem dX5_user_2 : decode cX5_user 2 = .ok (.ifCond .lt 11, 3) := by decide +kernel
theorem dX5_user_5 : decode cX5_user 5 = .ok (.iload_n 1, 1) := by decide +kernel
theorem dX5_user_6 : decode cX5_user 6 = .ok (.aload_n 0, 1) := by decide +kernel
theorem dX5_user_7 : decode cX5_user 7 = .ok (.getfield 32, 3) := by decide +kernel
theorem dX5_user_10 : decode cX5_user 10 = .ok (.if_icmp .lt 7, 3) := by decide +kernel
theorem dX5_user_13 : decode cX5_user 13 = .ok (.iconst 1, 1) := by decide +kernel
theorem dX5_user_14 : decode cX5_user 14 = .ok (.goto 4, 3) := by decide +kernel
theorem dX5_user_17 : decode cX5_user 17 = .ok (.iconst 0, 1) := by decide +kernel
theorem dX5_user_18 : decode cX5_user 18 = .ok (.putfield 51, 3) := by decide +kernel
theorem dX5_user_21 : decode cX5_user 21 = .ok (.iconst 0, 1) := by decide +kernel
theorem dX5_user_22 : decode cX5_user 22 = .ok (.istore_n 3, 1) := by decide +kernel
theorem dX5_user_23 : decode cX5_user 23 = .ok (.iconst 0, 1) := by decide +kernel
theorem dX5_user_24 : decode cX5_user 24 = .ok (.istore 4, 2) := by decide +kernel
theorem dX5_user_26 : decode cX5_user 26 = .ok (.iload 4, 2) := by decide +kernel
theorem dX5_user_28 : decode cX5_user 28 = .ok (.bipush 16, 2) := by decide +kernel
theorem dX5_user_30 : decode cX5_user 30 = .ok (.if_icmp .ge 76, 3) := by decide +kernel
theorem dX5_user_33 : decode cX5_user 33 = .ok (.iconst 0, 1) := by decide +kernel
theorem dX5_user_34 : decode cX5_user 34 = .ok (.istore 5, 2) := by decide +kernel
theorem dX5_user_36 : decode cX5_user 36 = .ok (.iload 5, 2) := by decide +kernel
theorem dX5_user_38 : decode cX5_user 38 = .ok (.bipush 40, 2) := by decide +kernel
theorem dX5_user_40 : decode cX5_user 40 = .ok (.if_icmp .ge 60, 3) := by decide +kernel
theorem dX5_user_43 : decode cX5_user 43 = .ok (.aload_n 0, 1) := by decide +kernel
theorem dX5_user_44 : decode cX5_user 44 = .ok (.getfield 51, 3) := by decide +kernel
theorem dX5_user_47 : decode cX5_user 47 = .ok (.ifCond .ne 53, 3) := by decide +kernel
theorem dX5_user_50 : decode cX5_user 50 = .ok (.aload_n 0, 1) := by decide +kernel
theorem dX5_user_51 : decode cX5_user 51 = .ok (.getfield 7, 3) := by decide +kernel
theorem dX5_user_54 : decode cX5_user 54 = .ok (.iload 4, 2) := by decide +kernel
theorem dX5_user_56 : decode cX5_user 56 = .ok (.baload, 1) := by decide +kernel
theorem dX5_user_57 : decode cX5_user 57 = .ok (.ifCond .eq 43, 3) := by decide +kernel
theorem dX5_user_60 : decode cX5_user 60 = .ok (.aload_n 0, 1) := by decide +kernel
theorem dX5_user_61 : decode cX5_user 61 = .ok (.getfield 26, 3) := by decide +kernel
theorem dX5_user_64 : decode cX5_user 64 = .ok (.iconst 0, 1) := by decide +kernel
theorem dX5_user_65 : decode cX5_user 65 = .ok (.iload 4, 2) := by decide +kernel
theorem dX5_user_67 : decode cX5_user 67 = .ok (.iload 5, 2) := by decide +kernel
theorem dX5_user_69 : decode cX5_user 69 = .ok (.invokestatic 58, 3) := by decide +kernel
theorem dX5_user_72 : decode cX5_user 72 = .ok (.iaload, 1) := by decide +kernel
theorem dX5_user_73 : decode cX5_user 73 = .ok (.iload_n 1, 1) := by decide +kernel
theorem dX5_user_74 : decode cX5_user 74 = .ok (.if_icmp .ne 20, 3) := by decide +kernel
theorem dX5_user_77 : decode cX5_user 77 = .ok (.iload_n 3, 1) := by decide +kernel
theorem dX5_user_78 : decode cX5_user 78 = .ok (.iload_n 2, 1) := by decide +kernel
theorem dX5_user_79 : decode cX5_user 79 = .ok (.if_icmp .ne 12, 3) := by decide +kernel
theorem dX5_user_82 : decode cX5_user 82 = .ok (.bipush 64, 2) := by decide +kernel
theorem dX5_user_84 : decode cX5_user 84 = .ok (.iload 4, 2) := by decide +kernel
theorem dX5_user_86 : decode cX5_user 86 = .ok (.imul, 1) := by decide +kernel
theorem dX5_user_87 : decode cX5_user 87 = .ok (.iload 5, 2) := by decide +kernel
theorem dX5_user_89 : decode cX5_user 89 = .ok (.iadd, 1) := by decide +kernel
theorem dX5_user_90 : decode cX5_user 90 = .ok (.ireturn, 1) := by decide +kernel
theorem dX5_user_91 : decode cX5_user 91 = .ok (.iinc 3 1, 3) := by decide +kernel
theorem dX5_user_94 : decode cX5_user 94 = .ok (.iinc 5 1, 3) := by decide +kernel
theorem dX5_user_97 : decode cX5_user 97 = .ok (.goto (-61), 3) := by decide +kernel
theorem dX5_user_100 : decode cX5_user 100 = .ok (.iinc 4 1, 3) := by decide +kernel
theorem dX5_user_103 : decode cX5_user 103 = .ok (.goto (-77), 3) := by decide +kernel
theorem dX5_user_106 : decode cX5_user 106 = .ok (.aload_n 0, 1) := by decide +kernel
theorem dX5_user_107 : decode cX5_user 107 = .ok (.getfield 51, 3) := by decide +kernel
theorem dX5_user_110 : decode cX5_user 110 = .ok (.ifCond .ne 7, 3) := by decide +kernel
theorem dX5_user_113 : decode cX5_user 113 = .ok (.iconst (-1), 1) := by decide +kernel
theorem dX5_user_114 : decode cX5_user 114 = .ok (.goto 4, 3) := by decide +kernel
theorem dX5_user_117 : decode cX5_user 117 = .ok (.iconst 0, 1) := by decide +kernel
theorem dX5_user_118 : decode cX5_user 118 = .ok (.ireturn, 1) := by decide +kernel
theorem dX5_told_0 : decode cX5_told 0 = .ok (.aload_n 0, 1) := by decide +kernel
theorem dX5_told_1 : decode cX5_told 1 = .ok (.iload_n 1, 1) := by decide +kernel
theorem dX5_told_2 : decode cX5_told 2 = .ok (.ifCond .lt 9, 3) := by decide +kernel
theorem dX5_told_5 : decode cX5_told 5 = .ok (.iload_n 1, 1) := by decide +kernel
theorem dX5_told_6 : decode cX5_told 6 = .ok (.bipush 13, 2) := by decide +kernel
theorem dX5_told_8 : decode cX5_told 8 = .ok (.if_icmp .le 7, 3) := by decide +kernel
theorem dX5_told_11 : decode cX5_told 11 = .ok (.iconst 1, 1) := by decide +kernel
theorem dX5_told_12 : decode cX5_told 12 = .ok (.goto 4, 3) := by decide +kernel
theorem dX5_told_15 : decode cX5_told 15 = .ok (.iconst 0, 1) := by decide +kernel
theorem dX5_told_16 : decode cX5_told 16 = .ok (.putfield 51, 3) := by decide +kernel
theorem dX5_told_19 : decode cX5_told 19 = .ok (.iload_n 1, 1) := by decide +kernel
theorem dX5_told_20 : decode cX5_told 20 = .ok (.tableswitch 170 0 13 #[72, 77, 82, 87, 92, 97, 102, 107, 112, 118, 124, 130, 143, 148], 72) := by decide +kernel
theorem dX5_told_92 : decode cX5_told 92 = .ok (.aload_n 0, 1) := by decide +kernel
theorem dX5_told_93 : decode cX5_told 93 = .ok (.getfield 32, 3) := by decide +kernel
theorem dX5_told_96 : decode cX5_told 96 = .ok (.ireturn, 1) := by decide +kernel
theorem dX5_told_97 : decode cX5_told 97 = .ok (.aload_n 0, 1) := by decide +kernel
theorem dX5_told_98 : decode cX5_told 98 = .ok (.invokevirtual 92, 3) := by decide +kernel
theorem dX5_told_101 : decode cX5_told 101 = .ok (.ireturn, 1) := by decide +kernel
theorem dX5_told_102 : decode cX5_told 102 = .ok (.aload_n 0, 1) := by decide +kernel
theorem dX5_told_103 : decode cX5_told 103 = .ok (.getfield 110, 3) := by decide +kernel
theorem dX5_told_106 : decode cX5_told 106 = .ok (.ireturn, 1) := by decide +kernel
theorem dX5_told_107 : decode cX5_told 107 = .ok (.aload_n 0, 1) := by decide +kernel
theorem dX5_told_108 : decode cX5_told 108 = .ok (.getfield 107, 3) := by decide +kernel
theorem dX5_told_111 : decode cX5_told 111 = .ok (.ireturn, 1) := by decide +kernel
theorem dX5_told_112 : decode cX5_told 112 = .ok (.aload_n 0, 1) := by decide +kernel
theorem dX5_told_113 : decode cX5_told 113 = .ok (.getfield 116, 3) := by decide +kernel
theorem dX5_told_116 : decode cX5_told 116 = .ok (.ireturn, 1) := by decide +kernel
theorem dX5_told_117 : decode cX5_told 117 = .ok (.aload_n 0, 1) := by decide +kernel
theorem dX5_told_118 : decode cX5_told 118 = .ok (.getfield 89, 3) := by decide +kernel
theorem dX5_told_121 : decode cX5_told 121 = .ok (.ireturn, 1) := by decide +kernel
theorem dX5_told_122 : decode cX5_told 122 = .ok (.aload_n 0, 1) := by decide +kernel
theorem dX5_told_123 : decode cX5_told 123 = .ok (.getfield 80, 3) := by decide +kernel
theorem dX5_told_126 : decode cX5_told 126 = .ok (.ireturn, 1) := by decide +kernel
theorem dX5_told_127 : decode cX5_told 127 = .ok (.aload_n 0, 1) := by decide +kernel
theorem dX5_told_128 : decode cX5_told 128 = .ok (.getfield 86, 3) := by decide +kernel
theorem dX5_told_131 : decode cX5_told 131 = .ok (.ireturn, 1) := by decide +kernel
theorem dX5_told_132 : decode cX5_told 132 = .ok (.aload_n 0, 1) := by decide +kernel
theorem dX5_told_133 : decode cX5_told 133 = .ok (.iconst 0, 1) := by decide +kernel
theorem dX5_told_134 : decode cX5_told 134 = .ok (.invokevirtual 147, 3) := by decide +kernel
theorem dX5_told_137 : decode cX5_told 137 = .ok (.ireturn, 1) := by decide +kernel
theorem dX5_told_138 : decode cX5_told 138 = .ok (.aload_n 0, 1) := by decide +kernel
theorem dX5_told_139 : decode cX5_told 139 = .ok (.iconst 1, 1) := by decide +kernel
theorem dX5_told_140 : decode cX5_told 140 = .ok (.invokevirtual 147, 3) := by decide +kernel
theorem dX5_told_143 : decode cX5_told 143 = .ok (.ireturn, 1) := by decide +kernel
theorem dX5_told_144 : decode cX5_told 144 = .ok (.aload_n 0, 1) := by decide +kernel
theorem dX5_told_145 : decode cX5_told 145 = .ok (.iconst 2, 1) := by decide +kernel
theorem dX5_told_146 : decode cX5_told 146 = .ok (.invokevirtual 147, 3) := by decide +kernel
theorem dX5_told_149 : decode cX5_told 149 = .ok (.ireturn, 1) := by decide +kernel
theorem dX5_told_150 : decode cX5_told 150 = .ok (.aload_n 0, 1) := by decide +kernel
theorem dX5_told_151 : decode cX5_told 151 = .ok (.getfield 166, 3) := by decide +kernel
theorem dX5_told_154 : decode cX5_told 154 = .ok (.ifCond .eq 7, 3) := by decide +kernel
theorem dX5_told_157 : decode cX5_told 157 = .ok (.iconst 1, 1) := by decide +kernel
theorem dX5_told_158 : decode cX5_told 158 = .ok (.goto 4, 3) := by decide +kernel
theorem dX5_told_161 : decode cX5_told 161 = .ok (.iconst 0, 1) := by decide +kernel
theorem dX5_told_162 : decode cX5_told 162 = .ok (.ireturn, 1) := by decide +kernel
theorem dX5_told_163 : decode cX5_told 163 = .ok (.aload_n 0, 1) := by decide +kernel
theorem dX5_told_164 : decode cX5_told 164 = .ok (.getfield 173, 3) := by decide +kernel
theorem dX5_told_167 : decode cX5_told 167 = .ok (.ireturn, 1) := by decide +kernel
theorem dX5_told_168 : decode cX5_told 168 = .ok (.aload_n 0, 1) := by decide +kernel
theorem dX5_told_169 : decode cX5_told 169 = .ok (.getfield 110, 3) := by decide +kernel
theorem dX5_told_172 : decode cX5_told 172 = .ok (.iconst 1, 1) := by decide +kernel
theorem dX5_told_173 : decode cX5_told 173 = .ok (.if_icmp .ne 15, 3) := by decide +kernel
theorem dX5_told_176 : decode cX5_told 176 = .ok (.aload_n 0, 1) := by decide +kernel
theorem dX5_told_177 : decode cX5_told 177 = .ok (.getfield 138, 3) := by decide +kernel
theorem dX5_told_180 : decode cX5_told 180 = .ok (.aload_n 0, 1) := by decide +kernel
theorem dX5_told_181 : decode cX5_told 181 = .ok (.getfield 141, 3) := by decide +kernel
theorem dX5_told_184 : decode cX5_told 184 = .ok (.isub, 1) := by decide +kernel
theorem dX5_told_185 : decode cX5_told 185 = .ok (.goto 4, 3) := by decide +kernel
theorem dX5_told_188 : decode cX5_told 188 = .ok (.iconst 0, 1) := by decide +kernel
theorem dX5_told_189 : decode cX5_told 189 = .ok (.ireturn, 1) := by decide +kernel
theorem dX5_told_190 : decode cX5_told 190 = .ok (.iconst 0, 1) := by decide +kernel
theorem dX5_told_191 : decode cX5_told 191 = .ok (.ireturn, 1) := by decide +kernel
theorem dJ7_fill_53178_0 : decode cJ7_fill_53178 0 = .ok (.iconst 0, 1) := by decide +kernel
theorem dJ7_fill_53178_1 : decode cJ7_fill_53178 1 = .ok (.istore_n 2, 1) := by decide +kernel
theorem dJ7_fill_53178_2 : decode cJ7_fill_53178 2 = .ok (.aload_n 0, 1) := by decide +kernel
theorem dJ7_fill_53178_3 : decode cJ7_fill_53178 3 = .ok (.arraylength, 1) := by decide +kernel
theorem dJ7_fill_53178_4 : decode cJ7_fill_53178 4 = .ok (.istore_n 3, 1) := by decide +kernel
theorem dJ7_fill_53178_5 : decode cJ7_fill_53178 5 = .ok (.iload_n 2, 1) := by decide +kernel
theorem dJ7_fill_53178_6 : decode cJ7_fill_53178 6 = .ok (.iload_n 3, 1) := by decide +kernel
theorem dJ7_fill_53178_7 : decode cJ7_fill_53178 7 = .ok (.if_icmp .ge 13, 3) := by decide +kernel
theorem dJ7_fill_53178_10 : decode cJ7_fill_53178 10 = .ok (.aload_n 0, 1) := by decide +kernel
theorem dJ7_fill_53178_11 : decode cJ7_fill_53178 11 = .ok (.iload_n 2, 1) := by decide +kernel
theorem dJ7_fill_53178_12 : decode cJ7_fill_53178 12 = .ok (.iload_n 1, 1) := by decide +kernel
theorem dJ7_fill_53178_13 : decode cJ7_fill_53178 13 = .ok (.iastore, 1) := by decide +kernel
theorem dJ7_fill_53178_14 : decode cJ7_fill_53178 14 = .ok (.iinc 2 1, 3) := by decide +kernel
theorem dJ7_fill_53178_17 : decode cJ7_fill_53178 17 = .ok (.goto (-12), 3) := by decide +kernel
theorem dJ7_fill_53178_20 : decode cJ7_fill_53178 20 = .ok (.return_, 1) := by decide +kernel
abbrev vwCl : List vw_C := [(RX0, TX0, 9), (RX1, TX1, 4), (RX2, TX2, 4), (RX3, TX3, 7), (RX4, TX4, 13), (RX5, TX5, 27)]
end
section
/-! words of the tables that a callee may be given -/
def tb : List Cond := lw_tbl.filter goodWord
theorem tbm {w : Cond} (i : Nat) (h : lw_tbl[i]? = some w) (g : goodWord w = true) : w ∈ tb := List.mem_filter.mpr ⟨List.mem_of_getElem? h, g⟩
theorem tb_in {w : Cond} (h : w ∈ tb) : w ∈ lw_tbl := (List.mem_filter.mp h).1
theorem tb_good {w : Cond} (h : w ∈ tb) : (w.onTables && w.keeps) = true ∨ ∃ ty, w = .arrayClass ty := good_of_word (List.mem_filter.mp h).2
theorem tb_goodIn {ws : List Cond} (h : ∀ w ∈ ws, w ∈ tb) : GoodIn tb ws := fun w hw => ⟨h w hw, tb_good (h w hw)⟩
/-! the world by places: cell k lies at n0 + k; 0 ThinExtents, 1 .. 35, 36 .. 70, 71 .. 105 the states, 106 the pool, 107 its words, 108 the queue, 109 .. 111 its rows, 112 the backing, 113 the model, 114 .. 125 its rows, 126 the law's out -/
abbrev KH : Type := Nat → Nat → Int32
abbrev ST : Type := KH × KH × Int64
abbrev DD : Type := va_G × (ClassId × ClassId × ClassId × ClassId)
def up (κ : KH) (k i : Nat) (x : Int32) : KH := fun k' i' => if k' = k ∧ i' = i then x else κ k' i'
theorem up_cell {κ : KH} {k i j : Nat} {x : Int32} (h : j ≠ k) : up κ k i x j = κ j := funext fun i' => if_neg (fun q => h q.1)
theorem up_self {κ : KH} {k i : Nat} {x : Int32} : up κ k i x k i = x := if_pos ⟨rfl, rfl⟩
theorem up_ix {κ : KH} {k i j i' : Nat} {x : Int32} (h : i' ≠ i) : up κ k i x j i' = κ j i' := if_neg (fun q => h q.2)
theorem up_upd {κ : KH} {k i : Nat} {x : Int32} : up κ k i x k = upd (κ k) i x := funext fun i' => by
  by_cases h : i' = i
  · subst h; exact up_self.trans (if_pos rfl).symm
  · exact (up_ix h).trans (if_neg h).symm
def mlen (j : Nat) : Nat := if j = 119 then 1920 else if j = 120 then 3 else if j = 121 then 384 else if j = 122 then 160 else if j < 119 then 48 else 8
def encR (D : DD) (n0 j : Nat) (r mr : Nat → Int32) (o : Int64) : va_E :=
  if j = 0 then .inr (4, [.ref (n0 + 1), .ref (n0 + 36), .ref (n0 + 71), .ref (n0 + 106), .ref (n0 + 108), .ref (n0 + 112), .int (r 6), .int (r 7), .int (r 8), .int (r 9), .int (r 10), .int (r 11), .int (r 12)])
  else if j < 106 then
    (if (j - 1) % 35 = 0 then .inr (2, [.int (r 0), .int (r 1), .ref (n0 + (j + 1)), .ref (n0 + (j + 34))])
    else if (j - 1) % 35 = 1 then .inl (D.2.2.2.1, 16, .inr (.inr (.inr (.inr (fun v => some (n0 + (j + 1 + 2 * v)))))))
    else if (j - 1) % 35 = 34 then .inl (D.2.1, 96, .inl r)
    else if (j - 1) % 35 % 2 = 0 then .inr (3, [.int (r 0), .int (r 1), .int (r 2), .int (r 3), .int (r 4), .int (r 5), .ref (n0 + (j + 1))])
    else .inl (D.2.1, 40, .inl r))
  else if j = 106 then .inr (0, [.int (r 0), .int (r 1), .int (r 2), .int (r 3), .int (r 4), .ref (n0 + 1), .ref (n0 + 36), .ref (n0 + 71), .ref (n0 + 107)])
  else if j = 107 then .inl (D.2.1, 384, .inl r)
  else if j = 108 then .inr (1, [.int (r 0), .ref (n0 + 109), .ref (n0 + 110), .ref (n0 + 111)])
  else if j < 112 then .inl (D.2.1, 8, .inl r)
  else if j = 112 then .inl (D.2.1, 160, .inl r)
  else if j = 113 then .inr (5, [.int (mr 0), .ref (n0 + 114), .ref (n0 + 115), .ref (n0 + 116), .ref (n0 + 117), .ref (n0 + 118), .ref (n0 + 119), .ref (n0 + 120), .int (mr 8), .int (mr 9), .ref (n0 + 121), .ref (n0 + 122), .int (mr 12), .int (mr 13), .int (mr 14), .int (mr 15), .int (mr 16), .int (mr 17), .int (mr 18), .int (mr 19), .int (mr 20), .int (mr 21), .int (mr 22), .int (mr 23), .ref (n0 + 123), .ref (n0 + 124), .ref (n0 + 125)])
  else if j = 126 then .inl (D.2.2.2.2, 1, .inr (.inl (vp_updL (fun _ => 0) 0 o)))
  else if j = 114 ∨ j = 116 then .inl (D.2.2.1, 48, .inl mr)
  else .inl (D.2.1, mlen j, .inl mr)
def enc (D : DD) (n0 : Nat) (σ : ST) (j : Nat) : va_E := encR D n0 j (σ.1 j) (σ.2.1 (j - 113)) σ.2.2
def wl (D : DD) (n0 N : Nat) (σ : ST) : va_W := (List.range N).map (fun k => (n0 + k, enc D n0 σ k))
def tyl (D : DD) : List (ClassId × FieldType) := [(D.2.1, .int), (D.2.2.1, .boolean), (D.2.2.2.1, .object "ThinExtents$Volume"), (D.2.2.2.2, .long)]
theorem wl_len {D : DD} {n0 N : Nat} {σ : ST} : (wl D n0 N σ).length = N := by simp [wl]
theorem wl_get {D : DD} {n0 N k : Nat} {σ : ST} (h : k < N) : (wl D n0 N σ)[k]? = some (n0 + k, enc D n0 σ k) := by
  simp [wl, List.getElem?_map, List.getElem?_range h]
theorem wl_at {D : DD} {n0 N k : Nat} {σ : ST} {q : Nat × va_E} (h : (wl D n0 N σ)[k]? = some q) : k < N ∧ q = (n0 + k, enc D n0 σ k) := by
  have hk : k < N := by have := (List.getElem?_eq_some_iff.mp h).1; rwa [wl_len] at this
  exact ⟨hk, Option.some.inj (h.symm.trans (wl_get hk))⟩
theorem wl_D {D : DD} {n0 N : Nat} {σ : ST} : va_D (fun q => n0 ≤ q) (wl D n0 N σ) := by
  refine ⟨fun i j p q hp hq h => ?_, fun k q hq => ?_⟩
  · obtain ⟨-, rfl⟩ := wl_at hp; obtain ⟨-, rfl⟩ := wl_at hq; dsimp only at h; omega
  · obtain ⟨-, rfl⟩ := wl_at hq; exact Nat.le_add_right _ _
theorem wl_set {D : DD} {n0 N k : Nat} {σ σ' : ST} {x : va_E} (he : enc D n0 σ' k = x) (hne : ∀ j, j ≠ k → enc D n0 σ' j = enc D n0 σ j) : (wl D n0 N σ).set k (n0 + k, x) = wl D n0 N σ' := by
  apply List.ext_getElem?
  intro i
  rw [List.getElem?_set, wl_len]
  by_cases h : k = i
  · subst h
    rw [if_pos rfl]
    by_cases hk : k < N
    · rw [if_pos hk, wl_get hk, he]
    · rw [if_neg hk]; exact (List.getElem?_eq_none (by rw [wl_len]; omega)).symm
  · rw [if_neg h]
    by_cases hi : i < N
    · rw [wl_get hi, wl_get hi, hne i (fun q => h q.symm)]
    · rw [List.getElem?_eq_none (by rw [wl_len]; omega), List.getElem?_eq_none (by rw [wl_len]; omega)]
theorem wl_congr {D : DD} {n0 N : Nat} {σ σ' : ST} (h : ∀ j, j < N → enc D n0 σ' j = enc D n0 σ j) : wl D n0 N σ = wl D n0 N σ' := by
  apply List.ext_getElem?
  intro i
  by_cases hi : i < N
  · rw [wl_get hi, wl_get hi, h i hi]
  · rw [List.getElem?_eq_none (by rw [wl_len]; omega), List.getElem?_eq_none (by rw [wl_len]; omega)]
theorem wl_push {D : DD} {n0 N : Nat} {σ : ST} : wl D n0 (N + 1) σ = wl D n0 N σ ++ [(n0 + N, enc D n0 σ N)] := by
  simp [wl, List.range_succ]
theorem enc_up {D : DD} {n0 k i j : Nat} {κ μ : KH} {o : Int64} {x : Int32} (h : j ≠ k) : enc D n0 (up κ k i x, μ, o) j = enc D n0 (κ, μ, o) j := by
  show encR D n0 j (up κ k i x j) _ _ = encR D n0 j (κ j) _ _
  rw [up_cell h]
theorem encR_cls {D : DD} {n0 j : Nat} {r mr mr' : Nat → Int32} {o o' : Int64} (h : j < 113) : encR D n0 j r mr o = encR D n0 j r mr' o' := by
  unfold encR
  by_cases h0 : j = 0
  · rw [if_pos h0, if_pos h0]
  rw [if_neg h0, if_neg h0]
  by_cases h1 : j < 106
  · rw [if_pos h1, if_pos h1]
  rw [if_neg h1, if_neg h1]
  by_cases h2 : j = 106
  · rw [if_pos h2, if_pos h2]
  rw [if_neg h2, if_neg h2]
  by_cases h3 : j = 107
  · rw [if_pos h3, if_pos h3]
  rw [if_neg h3, if_neg h3]
  by_cases h4 : j = 108
  · rw [if_pos h4, if_pos h4]
  rw [if_neg h4, if_neg h4]
  by_cases h5 : j < 112
  · rw [if_pos h5, if_pos h5]
  rw [if_neg h5, if_neg h5, if_pos (by omega), if_pos (by omega)]
theorem enc_um {D : DD} {n0 k i j : Nat} {κ μ : KH} {o : Int64} {x : Int32} (h : j ≠ k + 113) : enc D n0 (κ, up μ k i x, o) j = enc D n0 (κ, μ, o) j := by
  unfold enc
  by_cases hj : j < 113
  · exact encR_cls hj
  · show encR D n0 j (κ j) (up μ k i x (j - 113)) o = _
    rw [up_cell (by omega)]
theorem enc_uo {D : DD} {n0 j : Nat} {κ μ : KH} {o o' : Int64} (h : j ≠ 126) : enc D n0 (κ, μ, o') j = enc D n0 (κ, μ, o) j := by
  unfold enc
  by_cases hj : j < 113
  · exact encR_cls hj
  · show encR D n0 j (κ j) _ o' = encR D n0 j (κ j) _ o
    unfold encR
    rw [if_neg (show ¬ j = 0 by omega), if_neg (show ¬ j = 0 by omega), if_neg (show ¬ j < 106 by omega), if_neg (show ¬ j < 106 by omega), if_neg (show ¬ j = 106 by omega), if_neg (show ¬ j = 106 by omega), if_neg (show ¬ j = 107 by omega), if_neg (show ¬ j = 107 by omega), if_neg (show ¬ j = 108 by omega), if_neg (show ¬ j = 108 by omega), if_neg (show ¬ j < 112 by omega), if_neg (show ¬ j < 112 by omega), if_neg (show ¬ j = 112 by omega), if_neg (show ¬ j = 112 by omega)]
    by_cases h7 : j = 113
    · rw [if_pos h7, if_pos h7]
    rw [if_neg h7, if_neg h7, if_neg h, if_neg h]


def isS (b : Nat) : Prop := b = 1 ∨ b = 36 ∨ b = 71
def isV (k : Nat) : Prop := 1 ≤ k ∧ k < 106 ∧ 2 ≤ (k - 1) % 35 ∧ (k - 1) % 35 < 34 ∧ (k - 1) % 35 % 2 = 0
theorem isV_of {b v : Nat} (hb : isS b) (hv : v < 16) : isV (b + 2 + 2 * v) := by
  have h : (b + 2 + 2 * v - 1) % 35 = 2 * v + 2 := by
    rcases hb with rfl | rfl | rfl
    · rw [show 1 + 2 + 2 * v - 1 = 2 * v + 2 by omega]; omega
    · rw [show 36 + 2 + 2 * v - 1 = 2 * v + 2 + 35 by omega]; omega
    · rw [show 71 + 2 + 2 * v - 1 = 2 * v + 2 + 70 by omega]; omega
  refine ⟨?_, ?_, ?_, ?_, ?_⟩
  · rcases hb with rfl | rfl | rfl <;> omega
  · rcases hb with rfl | rfl | rfl <;> omega
  · omega
  · omega
  · omega
section ENC
variable {D : DD} {n0 : Nat} {κ μ : KH} {o : Int64}
theorem enc_0 : enc D n0 (κ, μ, o) 0 = .inr (4, [.ref (n0 + 1), .ref (n0 + 36), .ref (n0 + 71), .ref (n0 + 106), .ref (n0 + 108), .ref (n0 + 112), .int (κ 0 6), .int (κ 0 7), .int (κ 0 8), .int (κ 0 9), .int (κ 0 10), .int (κ 0 11), .int (κ 0 12)]) := rfl
theorem enc_S {b : Nat} (hb : isS b) : enc D n0 (κ, μ, o) b = .inr (2, [.int (κ b 0), .int (κ b 1), .ref (n0 + (b + 1)), .ref (n0 + (b + 34))]) := by
  rcases hb with rfl | rfl | rfl <;> rfl
theorem enc_SV {b : Nat} (hb : isS b) : enc D n0 (κ, μ, o) (b + 1) = .inl (D.2.2.2.1, 16, .inr (.inr (.inr (.inr (fun v => some (n0 + (b + 2 + 2 * v))))))) := by
  rcases hb with rfl | rfl | rfl <;> rfl
theorem enc_SU {b : Nat} (hb : isS b) : enc D n0 (κ, μ, o) (b + 34) = .inl (D.2.1, 96, .inl (κ (b + 34))) := by
  rcases hb with rfl | rfl | rfl <;> rfl
theorem enc_V {k : Nat} (hk : isV k) : enc D n0 (κ, μ, o) k = .inr (3, [.int (κ k 0), .int (κ k 1), .int (κ k 2), .int (κ k 3), .int (κ k 4), .int (κ k 5), .ref (n0 + (k + 1))]) := by
  obtain ⟨h1, h2, h3, h4, h5⟩ := hk
  unfold enc encR
  rw [if_neg (by omega), if_pos h2, if_neg (by omega), if_neg (by omega), if_neg (by omega), if_pos h5]
theorem enc_E {k : Nat} (hk : isV k) : enc D n0 (κ, μ, o) (k + 1) = .inl (D.2.1, 40, .inl (κ (k + 1))) := by
  obtain ⟨h1, h2, h3, h4, h5⟩ := hk
  obtain ⟨q, rfl⟩ : ∃ q, k = q + 1 := ⟨k - 1, by omega⟩
  rw [Nat.add_sub_cancel] at h3 h4 h5
  have h6 : (q + 1) % 35 = q % 35 + 1 := by omega
  unfold enc encR
  rw [if_neg (by omega), if_pos (by omega), if_neg (by rw [Nat.add_sub_cancel]; omega), if_neg (by rw [Nat.add_sub_cancel]; omega), if_neg (by rw [Nat.add_sub_cancel]; omega), if_neg (by rw [Nat.add_sub_cancel]; omega)]
theorem enc_P : enc D n0 (κ, μ, o) 106 = .inr (0, [.int (κ 106 0), .int (κ 106 1), .int (κ 106 2), .int (κ 106 3), .int (κ 106 4), .ref (n0 + 1), .ref (n0 + 36), .ref (n0 + 71), .ref (n0 + 107)]) := rfl
theorem enc_Q : enc D n0 (κ, μ, o) 108 = .inr (1, [.int (κ 108 0), .ref (n0 + 109), .ref (n0 + 110), .ref (n0 + 111)]) := rfl
theorem enc_M : enc D n0 (κ, μ, o) 113 = .inr (5, [.int (μ 0 0), .ref (n0 + 114), .ref (n0 + 115), .ref (n0 + 116), .ref (n0 + 117), .ref (n0 + 118), .ref (n0 + 119), .ref (n0 + 120), .int (μ 0 8), .int (μ 0 9), .ref (n0 + 121), .ref (n0 + 122), .int (μ 0 12), .int (μ 0 13), .int (μ 0 14), .int (μ 0 15), .int (μ 0 16), .int (μ 0 17), .int (μ 0 18), .int (μ 0 19), .int (μ 0 20), .int (μ 0 21), .int (μ 0 22), .int (μ 0 23), .ref (n0 + 123), .ref (n0 + 124), .ref (n0 + 125)]) := rfl
theorem enc_126 : enc D n0 (κ, μ, o) 126 = .inl (D.2.2.2.2, 1, .inr (.inl (vp_updL (fun _ => 0) 0 o))) := rfl

theorem enc_107 : enc D n0 (κ, μ, o) 107 = .inl (D.2.1, 384, .inl (κ 107)) := rfl
theorem enc_109 : enc D n0 (κ, μ, o) 109 = .inl (D.2.1, 8, .inl (κ 109)) := rfl
theorem enc_110 : enc D n0 (κ, μ, o) 110 = .inl (D.2.1, 8, .inl (κ 110)) := rfl
theorem enc_111 : enc D n0 (κ, μ, o) 111 = .inl (D.2.1, 8, .inl (κ 111)) := rfl
theorem enc_112 : enc D n0 (κ, μ, o) 112 = .inl (D.2.1, 160, .inl (κ 112)) := rfl
theorem enc_114 : enc D n0 (κ, μ, o) 114 = .inl (D.2.2.1, 48, .inl (μ 1)) := rfl
theorem enc_115 : enc D n0 (κ, μ, o) 115 = .inl (D.2.1, 48, .inl (μ 2)) := rfl
theorem enc_116 : enc D n0 (κ, μ, o) 116 = .inl (D.2.2.1, 48, .inl (μ 3)) := rfl
theorem enc_117 : enc D n0 (κ, μ, o) 117 = .inl (D.2.1, 48, .inl (μ 4)) := rfl
theorem enc_118 : enc D n0 (κ, μ, o) 118 = .inl (D.2.1, 48, .inl (μ 5)) := rfl
theorem enc_119 : enc D n0 (κ, μ, o) 119 = .inl (D.2.1, 1920, .inl (μ 6)) := rfl
theorem enc_120 : enc D n0 (κ, μ, o) 120 = .inl (D.2.1, 3, .inl (μ 7)) := rfl
theorem enc_121 : enc D n0 (κ, μ, o) 121 = .inl (D.2.1, 384, .inl (μ 8)) := rfl
theorem enc_122 : enc D n0 (κ, μ, o) 122 = .inl (D.2.1, 160, .inl (μ 9)) := rfl
theorem enc_123 : enc D n0 (κ, μ, o) 123 = .inl (D.2.1, 8, .inl (μ 10)) := rfl
theorem enc_124 : enc D n0 (κ, μ, o) 124 = .inl (D.2.1, 8, .inl (μ 11)) := rfl
theorem enc_125 : enc D n0 (κ, μ, o) 125 = .inl (D.2.1, 8, .inl (μ 12)) := rfl
end ENC

/-! locals by places -/
def lh (lsA : Array Slot) (nL : Nat) (ls : List (Option Value)) : Prop := lsA.size = nL ∧ lv_wf lsA ∧ ∀ (i : Nat) (v : Value), ls[i]? = some (some v) → lsA[i]? = some (.val v) ∧ v.category = 1
def lhl (ls : List (Option Value)) : List (Nat × Value) := (List.range ls.length).filterMap (fun i => match ls[i]? with | some (some v) => some (i, v) | _ => none)
theorem lhl_mem {ls : List (Option Value)} {i : Nat} {v : Value} (h : ls[i]? = some (some v)) : (i, v) ∈ lhl ls := by
  refine List.mem_filterMap.mpr ⟨i, List.mem_range.mpr (List.getElem?_eq_some_iff.mp h).1, ?_⟩
  simp [h]
theorem lhl_of {ls : List (Option Value)} {q : Nat × Value} (h : q ∈ lhl ls) : ls[q.1]? = some (some q.2) := by
  obtain ⟨i, -, hi⟩ := List.mem_filterMap.mp h
  split at hi
  · cases hi; assumption
  · cases hi
theorem lh.has {lsA : Array Slot} {nL : Nat} {ls : List (Option Value)} (h : lh lsA nL ls) : lv_has lsA nL (lhl ls) := ⟨h.1, h.2.1, fun q hq => (h.2.2 q.1 q.2 (lhl_of hq)).1⟩
theorem lh.set {lsA lsA' : Array Slot} {nL i : Nat} {ls : List (Option Value)} {x : Value} (h : lh lsA nL ls) (hx : x.category = 1) (h' : lv_has lsA' nL ((i, x) :: (lhl ls).filter (fun q => !(q.1 == i) && !(q.1 + 1 == i && q.2.category == 2)))) : lh lsA' nL (ls.set i (some x)) := by
  refine ⟨h'.1, h'.2.1, fun j v hj => ?_⟩
  rw [List.getElem?_set] at hj
  by_cases hij : i = j
  · subst hij
    rw [if_pos rfl] at hj
    split at hj
    · cases hj
      exact ⟨h'.2.2 (i, x) List.mem_cons_self, hx⟩
    · cases hj
  · rw [if_neg hij] at hj
    obtain ⟨h1, h2⟩ := h.2.2 j v hj
    refine ⟨h'.2.2 (j, v) (List.mem_cons_of_mem _ (List.mem_filter.mpr ⟨lhl_mem hj, ?_⟩)), h2⟩
    have hji : ¬ j = i := fun q => hij q.symm
    simp [h2, hji]
def lle : List (Option Value) → List (Option Value) → Prop
  | [], _ => True
  | none :: a, _ :: b => lle a b
  | some x :: a, y :: b => y = some x ∧ lle a b
  | none :: a, [] => lle a []
  | some _ :: _, [] => False
theorem lle_at : ∀ (a b : List (Option Value)), lle a b → ∀ (i : Nat) (v : Value), a[i]? = some (some v) → b[i]? = some (some v)
  | [], _, _, i, v, h => by simp at h
  | none :: a, y :: b, hl, 0, v, h => by simp at h
  | none :: a, y :: b, hl, i + 1, v, h => by simpa using lle_at a b hl i v (by simpa using h)
  | none :: a, [], hl, 0, v, h => by simp at h
  | none :: a, [], hl, i + 1, v, h => by simpa using lle_at a [] hl i v (by simpa using h)
  | some x :: a, y :: b, hl, 0, v, h => by simp at h; subst h; simp [hl.1]
  | some x :: a, y :: b, hl, i + 1, v, h => by simpa using lle_at a b hl.2 i v (by simpa using h)
  | some _ :: _, [], hl, _, _, _ => hl.elim
theorem lh.fewer {lsA : Array Slot} {nL : Nat} {ls ls' : List (Option Value)} (h : lh lsA nL ls) (hl : lle ls' ls) : lh lsA nL ls' := ⟨h.1, h.2.1, fun i v hi => h.2.2 i v (lle_at _ _ hl i v hi)⟩
/-! the judgement: from these cells, at this place, with these locals and this stack -/
def Cx (p : Program) (l : Launch) (s : State) (m : MethodId) (args : Array Value) (meth : Method) (c : Code) (D : DD) (n0 : Nat) (own : String) (cc : ByteArray) (nL : Nat) : Prop :=
  p.tables.exec = Jvm.exec ∧ c.code = cc ∧ c.maxLocals = nL ∧ s.vm.findClass own = some m.cls ∧ (∀ w ∈ tb, w.before args s = true) ∧ va_K D.1 vwCl (tyl D) s ∧ n0 ≤ s.heap.size ∧ meth.locks = false

def ZZ (p : Program) (l : Launch) (e : Env) (R : Room) (s : State) (m : MethodId) (args : Array Value) (below : List Frame) (meth : Method) (c : Code) (D : DD) (n0 N nL cells slots : Nat) (Q : State → Prop) (σ : ST) (pc : Nat) (ls : List (Option Value)) (st : List Value) : Prop :=
  ∀ (H : Heap) (locs : List Loc) (lsA : Array Slot), va_P D.1 vwCl (wl D n0 N σ) H → va_S (fun q => n0 ≤ q) s.heap H locs → lh lsA nL ls → W p l e R s m args below meth c H locs cells slots Q (F0 m pc lsA st)
section ROWS
variable {p : Program} {l : Launch} {e : Env} {R : Room} {s : State} {m : MethodId} {args : Array Value} {below : List Frame} {meth : Method} {c : Code} {D : DD} {n0 N nL cells slots : Nat} {Q : State → Prop} {own : String} {cc : ByteArray} {σ σ1 : ST} {pc : Nat} {ls : List (Option Value)} {st : List Value}
theorem z_iconst (C : Cx p l s m args meth c D n0 own cc nL) {n : Int} {v : Int32} (hv : Int32.ofInt n = v) (hd : decode cc pc = .ok (.iconst n, 1)) (kk : ZZ p l e R s m args below meth c D n0 N nL cells slots Q σ (pc + 1) ls (.int v :: st)) : ZZ p l e R s m args below meth c D n0 N nL cells slots Q σ pc ls (st) := fun H locs lsA hP hS hl => lv_iconst C.1 C.2.1 hd hv (kk H locs lsA hP hS hl)
theorem z_bipush (C : Cx p l s m args meth c D n0 own cc nL) {n : Int} {v : Int32} (hv : (Int8.ofInt n).toInt32 = v) (hd : decode cc pc = .ok (.bipush n, 2)) (kk : ZZ p l e R s m args below meth c D n0 N nL cells slots Q σ (pc + 2) ls (.int v :: st)) : ZZ p l e R s m args below meth c D n0 N nL cells slots Q σ pc ls (st) := fun H locs lsA hP hS hl => lv_bipush C.1 C.2.1 hd hv (kk H locs lsA hP hS hl)
theorem z_sipush (C : Cx p l s m args meth c D n0 own cc nL) {n : Int} {v : Int32} (hv : (Int16.ofInt n).toInt32 = v) (hd : decode cc pc = .ok (.sipush n, 3)) (kk : ZZ p l e R s m args below meth c D n0 N nL cells slots Q σ (pc + 3) ls (.int v :: st)) : ZZ p l e R s m args below meth c D n0 N nL cells slots Q σ pc ls (st) := fun H locs lsA hP hS hl => lv_sipush C.1 C.2.1 hd hv (kk H locs lsA hP hS hl)
theorem z_null (C : Cx p l s m args meth c D n0 own cc nL)  (hd : decode cc pc = .ok (.aconst_null, 1)) (kk : ZZ p l e R s m args below meth c D n0 N nL cells slots Q σ (pc + 1) ls (.null :: st)) : ZZ p l e R s m args below meth c D n0 N nL cells slots Q σ pc ls (st) := fun H locs lsA hP hS hl => lv_null C.1 C.2.1 hd (kk H locs lsA hP hS hl)
theorem z_iload_n (C : Cx p l s m args meth c D n0 own cc nL) {i : Fin 4} {x : Int32} (hi : ls[(i : Nat)]? = some (some (.int x))) (hd : decode cc pc = .ok (.iload_n i, 1)) (kk : ZZ p l e R s m args below meth c D n0 N nL cells slots Q σ (pc + 1) ls (.int x :: st)) : ZZ p l e R s m args below meth c D n0 N nL cells slots Q σ pc ls (st) := fun H locs lsA hP hS hl => lv_iload_n C.1 C.2.1 hd rfl (hl.2.2 _ _ hi).1 (kk H locs lsA hP hS hl)
theorem z_iload (C : Cx p l s m args meth c D n0 own cc nL) {i : Nat} {x : Int32} (hi : ls[i]? = some (some (.int x))) (hd : decode cc pc = .ok (.iload i, 2)) (kk : ZZ p l e R s m args below meth c D n0 N nL cells slots Q σ (pc + 2) ls (.int x :: st)) : ZZ p l e R s m args below meth c D n0 N nL cells slots Q σ pc ls (st) := fun H locs lsA hP hS hl => lv_iload C.1 C.2.1 hd (hl.2.2 _ _ hi).1 (kk H locs lsA hP hS hl)
theorem z_aload_n (C : Cx p l s m args meth c D n0 own cc nL) {i : Fin 4} {x : Nat} (hi : ls[(i : Nat)]? = some (some (.ref x))) (hd : decode cc pc = .ok (.aload_n i, 1)) (kk : ZZ p l e R s m args below meth c D n0 N nL cells slots Q σ (pc + 1) ls (.ref x :: st)) : ZZ p l e R s m args below meth c D n0 N nL cells slots Q σ pc ls (st) := fun H locs lsA hP hS hl => lv_aload_n C.1 C.2.1 hd rfl (hl.2.2 _ _ hi).1 (kk H locs lsA hP hS hl)
theorem z_aload (C : Cx p l s m args meth c D n0 own cc nL) {i : Nat} {x : Nat} (hi : ls[i]? = some (some (.ref x))) (hd : decode cc pc = .ok (.aload i, 2)) (kk : ZZ p l e R s m args below meth c D n0 N nL cells slots Q σ (pc + 2) ls (.ref x :: st)) : ZZ p l e R s m args below meth c D n0 N nL cells slots Q σ pc ls (st) := fun H locs lsA hP hS hl => lv_aload C.1 C.2.1 hd (hl.2.2 _ _ hi).1 (kk H locs lsA hP hS hl)
theorem z_aload_nN (C : Cx p l s m args meth c D n0 own cc nL) {i : Fin 4} (hi : ls[(i : Nat)]? = some (some .null)) (hd : decode cc pc = .ok (.aload_n i, 1)) (kk : ZZ p l e R s m args below meth c D n0 N nL cells slots Q σ (pc + 1) ls (.null :: st)) : ZZ p l e R s m args below meth c D n0 N nL cells slots Q σ pc ls (st) := fun H locs lsA hP hS hl => lv_aload_nN C.1 C.2.1 hd rfl (hl.2.2 _ _ hi).1 (kk H locs lsA hP hS hl)
theorem z_iadd (C : Cx p l s m args meth c D n0 own cc nL) {x y v : Int32} (hv : x + y = v) (hd : decode cc pc = .ok (.iadd, 1)) (kk : ZZ p l e R s m args below meth c D n0 N nL cells slots Q σ (pc + 1) ls (.int v :: st)) : ZZ p l e R s m args below meth c D n0 N nL cells slots Q σ pc ls (.int y :: .int x :: st) := fun H locs lsA hP hS hl => lv_iadd C.1 C.2.1 hd (hv ▸ (kk H locs lsA hP hS hl))
theorem z_isub (C : Cx p l s m args meth c D n0 own cc nL) {x y v : Int32} (hv : x - y = v) (hd : decode cc pc = .ok (.isub, 1)) (kk : ZZ p l e R s m args below meth c D n0 N nL cells slots Q σ (pc + 1) ls (.int v :: st)) : ZZ p l e R s m args below meth c D n0 N nL cells slots Q σ pc ls (.int y :: .int x :: st) := fun H locs lsA hP hS hl => lv_isub C.1 C.2.1 hd (hv ▸ (kk H locs lsA hP hS hl))
theorem z_imul (C : Cx p l s m args meth c D n0 own cc nL) {x y v : Int32} (hv : x * y = v) (hd : decode cc pc = .ok (.imul, 1)) (kk : ZZ p l e R s m args below meth c D n0 N nL cells slots Q σ (pc + 1) ls (.int v :: st)) : ZZ p l e R s m args below meth c D n0 N nL cells slots Q σ pc ls (.int y :: .int x :: st) := fun H locs lsA hP hS hl => lv_imul C.1 C.2.1 hd (hv ▸ (kk H locs lsA hP hS hl))
theorem z_iand (C : Cx p l s m args meth c D n0 own cc nL) {x y v : Int32} (hv : x &&& y = v) (hd : decode cc pc = .ok (.iand, 1)) (kk : ZZ p l e R s m args below meth c D n0 N nL cells slots Q σ (pc + 1) ls (.int v :: st)) : ZZ p l e R s m args below meth c D n0 N nL cells slots Q σ pc ls (.int y :: .int x :: st) := fun H locs lsA hP hS hl => lv_iand C.1 C.2.1 hd (hv ▸ (kk H locs lsA hP hS hl))
theorem z_idiv (C : Cx p l s m args meth c D n0 own cc nL) {x y v : Int32} (hne : ¬ y = 0) (hv : x / y = v) (hd : decode cc pc = .ok (.idiv, 1)) (kk : ZZ p l e R s m args below meth c D n0 N nL cells slots Q σ (pc + 1) ls (.int v :: st)) : ZZ p l e R s m args below meth c D n0 N nL cells slots Q σ pc ls (.int y :: .int x :: st) := fun H locs lsA hP hS hl => lv_idiv C.1 C.2.1 hd hne (hv ▸ (kk H locs lsA hP hS hl))
theorem z_irem (C : Cx p l s m args meth c D n0 own cc nL) {x y v : Int32} (hne : ¬ y = 0) (hv : x - x / y * y = v) (hd : decode cc pc = .ok (.irem, 1)) (kk : ZZ p l e R s m args below meth c D n0 N nL cells slots Q σ (pc + 1) ls (.int v :: st)) : ZZ p l e R s m args below meth c D n0 N nL cells slots Q σ pc ls (.int y :: .int x :: st) := fun H locs lsA hP hS hl => lv_irem C.1 C.2.1 hd hne (hv ▸ (kk H locs lsA hP hS hl))
theorem z_i2l (C : Cx p l s m args meth c D n0 own cc nL) {x : Int32} (hd : decode cc pc = .ok (.i2l, 1)) (kk : ZZ p l e R s m args below meth c D n0 N nL cells slots Q σ (pc + 1) ls (.long x.toInt64 :: st)) : ZZ p l e R s m args below meth c D n0 N nL cells slots Q σ pc ls (.int x :: st) := fun H locs lsA hP hS hl => lv_i2l C.1 C.2.1 hd rfl (kk H locs lsA hP hS hl)
theorem z_dup (C : Cx p l s m args meth c D n0 own cc nL) {va : Value} (hva : va.category = 1) (hd : decode cc pc = .ok (.dup, 1)) (kk : ZZ p l e R s m args below meth c D n0 N nL cells slots Q σ (pc + 1) ls (va :: va :: st)) : ZZ p l e R s m args below meth c D n0 N nL cells slots Q σ pc ls (va :: st) := fun H locs lsA hP hS hl => lv_dup C.1 C.2.1 hd hva (kk H locs lsA hP hS hl)
theorem z_dup2 (C : Cx p l s m args meth c D n0 own cc nL) {va vb : Value} (hva : va.category = 1) (hvb : vb.category = 1) (hd : decode cc pc = .ok (.dup2, 1)) (kk : ZZ p l e R s m args below meth c D n0 N nL cells slots Q σ (pc + 1) ls (va :: vb :: va :: vb :: st)) : ZZ p l e R s m args below meth c D n0 N nL cells slots Q σ pc ls (va :: vb :: st) := fun H locs lsA hP hS hl => lv_dup2_11 C.1 C.2.1 hd hva hvb (kk H locs lsA hP hS hl)
theorem z_pop (C : Cx p l s m args meth c D n0 own cc nL) {va : Value} (hva : va.category = 1) (hd : decode cc pc = .ok (.pop, 1)) (kk : ZZ p l e R s m args below meth c D n0 N nL cells slots Q σ (pc + 1) ls (st)) : ZZ p l e R s m args below meth c D n0 N nL cells slots Q σ pc ls (va :: st) := fun H locs lsA hP hS hl => lv_pop C.1 C.2.1 hd hva (kk H locs lsA hP hS hl)
theorem z_istore_n (C : Cx p l s m args meth c D n0 own cc nL) {i : Fin 4} {x : Int32} {ls' : List (Option Value)} (hn : (i : Nat) < nL) (hl' : ls.set i (some (.int x)) = ls') (hd : decode cc pc = .ok (.istore_n i, 1)) (kk : ZZ p l e R s m args below meth c D n0 N nL cells slots Q σ (pc + 1) ls' (st)) : ZZ p l e R s m args below meth c D n0 N nL cells slots Q σ pc ls (.int x :: st) := fun H locs lsA hP hS hl => lv_istore_n C.1 C.2.1 hd rfl hl.has hn rfl (fun lsB hB => kk H locs lsB hP hS (hl' ▸ hl.set rfl hB))
theorem z_istore (C : Cx p l s m args meth c D n0 own cc nL) {i : Nat} {x : Int32} {ls' : List (Option Value)} (hn : (i : Nat) < nL) (hl' : ls.set i (some (.int x)) = ls') (hd : decode cc pc = .ok (.istore i, 2)) (kk : ZZ p l e R s m args below meth c D n0 N nL cells slots Q σ (pc + 2) ls' (st)) : ZZ p l e R s m args below meth c D n0 N nL cells slots Q σ pc ls (.int x :: st) := fun H locs lsA hP hS hl => lv_istore C.1 C.2.1 hd hl.has hn rfl (fun lsB hB => kk H locs lsB hP hS (hl' ▸ hl.set rfl hB))
theorem z_astore_n (C : Cx p l s m args meth c D n0 own cc nL) {i : Fin 4} {x : Nat} {ls' : List (Option Value)} (hn : (i : Nat) < nL) (hl' : ls.set i (some (.ref x)) = ls') (hd : decode cc pc = .ok (.astore_n i, 1)) (kk : ZZ p l e R s m args below meth c D n0 N nL cells slots Q σ (pc + 1) ls' (st)) : ZZ p l e R s m args below meth c D n0 N nL cells slots Q σ pc ls (.ref x :: st) := fun H locs lsA hP hS hl => lv_astore_n C.1 C.2.1 hd rfl hl.has hn rfl (fun lsB hB => kk H locs lsB hP hS (hl' ▸ hl.set rfl hB))
theorem z_astore (C : Cx p l s m args meth c D n0 own cc nL) {i : Nat} {x : Nat} {ls' : List (Option Value)} (hn : (i : Nat) < nL) (hl' : ls.set i (some (.ref x)) = ls') (hd : decode cc pc = .ok (.astore i, 2)) (kk : ZZ p l e R s m args below meth c D n0 N nL cells slots Q σ (pc + 2) ls' (st)) : ZZ p l e R s m args below meth c D n0 N nL cells slots Q σ pc ls (.ref x :: st) := fun H locs lsA hP hS hl => lv_astore C.1 C.2.1 hd hl.has hn rfl (fun lsB hB => kk H locs lsB hP hS (hl' ▸ hl.set rfl hB))
theorem z_astore_nN (C : Cx p l s m args meth c D n0 own cc nL) {i : Fin 4} {ls' : List (Option Value)} (hn : (i : Nat) < nL) (hl' : ls.set i (some (.null)) = ls') (hd : decode cc pc = .ok (.astore_n i, 1)) (kk : ZZ p l e R s m args below meth c D n0 N nL cells slots Q σ (pc + 1) ls' (st)) : ZZ p l e R s m args below meth c D n0 N nL cells slots Q σ pc ls (.null :: st) := fun H locs lsA hP hS hl => lv_astore_nN C.1 C.2.1 hd rfl hl.has hn rfl (fun lsB hB => kk H locs lsB hP hS (hl' ▸ hl.set rfl hB))
theorem z_iinc (C : Cx p l s m args meth c D n0 own cc nL) {i : Nat} {n : Int} {x v : Int32} {ls' : List (Option Value)} (hi : ls[i]? = some (some (.int x))) (hv : x + Int32.ofInt n = v) (hn : i < nL) (hl' : ls.set i (some (.int v)) = ls') (hd : decode cc pc = .ok (.iinc i n, 3)) (kk : ZZ p l e R s m args below meth c D n0 N nL cells slots Q σ (pc + 3) ls' st) : ZZ p l e R s m args below meth c D n0 N nL cells slots Q σ pc ls st := by
  intro H locs lsA hP hS hl
  obtain ⟨k, hk⟩ := List.getElem?_of_mem (lhl_mem hi)
  exact lv_iinc C.1 C.2.1 hd hl.has hk hv hn rfl (fun lsB hB => kk H locs lsB hP hS (hl' ▸ hl.set rfl hB))
theorem z_goto (C : Cx p l s m args meth c D n0 own cc nL) {off : Int} {tgt : Nat} (hd : decode cc pc = .ok (.goto off, 3)) (ht : (pc : Int) + off = (tgt : Int)) (kk : ZZ p l e R s m args below meth c D n0 N nL cells slots Q σ tgt ls st) : ZZ p l e R s m args below meth c D n0 N nL cells slots Q σ pc ls st := fun H locs lsA hP hS hl => lv_goto C.1 C.2.1 hd ht (kk H locs lsA hP hS hl)
theorem z_if_eq (C : Cx p l s m args meth c D n0 own cc nL) {x : Int32} {off : Int} {tgt : Nat} (hd : decode cc pc = .ok (.ifCond .eq off, 3)) (ht : (pc : Int) + off = (tgt : Int)) (kt : x = 0 → ZZ p l e R s m args below meth c D n0 N nL cells slots Q σ tgt ls st) (kf : ¬ x = 0 → ZZ p l e R s m args below meth c D n0 N nL cells slots Q σ (pc + 3) ls st) : ZZ p l e R s m args below meth c D n0 N nL cells slots Q σ pc ls (.int x :: st) := fun H locs lsA hP hS hl => lv_if_eq C.1 C.2.1 hd ht (fun q => kt q H locs lsA hP hS hl) (fun q => kf q H locs lsA hP hS hl)
theorem z_if_ne (C : Cx p l s m args meth c D n0 own cc nL) {x : Int32} {off : Int} {tgt : Nat} (hd : decode cc pc = .ok (.ifCond .ne off, 3)) (ht : (pc : Int) + off = (tgt : Int)) (kt : x ≠ 0 → ZZ p l e R s m args below meth c D n0 N nL cells slots Q σ tgt ls st) (kf : x = 0 → ZZ p l e R s m args below meth c D n0 N nL cells slots Q σ (pc + 3) ls st) : ZZ p l e R s m args below meth c D n0 N nL cells slots Q σ pc ls (.int x :: st) := fun H locs lsA hP hS hl => lv_if_ne C.1 C.2.1 hd ht (fun q => kt q H locs lsA hP hS hl) (fun q => kf q H locs lsA hP hS hl)
theorem z_if_lt (C : Cx p l s m args meth c D n0 own cc nL) {x : Int32} {off : Int} {tgt : Nat} (hd : decode cc pc = .ok (.ifCond .lt off, 3)) (ht : (pc : Int) + off = (tgt : Int)) (kt : x < 0 → ZZ p l e R s m args below meth c D n0 N nL cells slots Q σ tgt ls st) (kf : ¬ x < 0 → ZZ p l e R s m args below meth c D n0 N nL cells slots Q σ (pc + 3) ls st) : ZZ p l e R s m args below meth c D n0 N nL cells slots Q σ pc ls (.int x :: st) := fun H locs lsA hP hS hl => lv_if_lt C.1 C.2.1 hd ht (fun q => kt q H locs lsA hP hS hl) (fun q => kf q H locs lsA hP hS hl)
theorem z_if_ge (C : Cx p l s m args meth c D n0 own cc nL) {x : Int32} {off : Int} {tgt : Nat} (hd : decode cc pc = .ok (.ifCond .ge off, 3)) (ht : (pc : Int) + off = (tgt : Int)) (kt : 0 ≤ x → ZZ p l e R s m args below meth c D n0 N nL cells slots Q σ tgt ls st) (kf : ¬ 0 ≤ x → ZZ p l e R s m args below meth c D n0 N nL cells slots Q σ (pc + 3) ls st) : ZZ p l e R s m args below meth c D n0 N nL cells slots Q σ pc ls (.int x :: st) := fun H locs lsA hP hS hl => lv_if_ge C.1 C.2.1 hd ht (fun q => kt q H locs lsA hP hS hl) (fun q => kf q H locs lsA hP hS hl)
theorem z_if_gt (C : Cx p l s m args meth c D n0 own cc nL) {x : Int32} {off : Int} {tgt : Nat} (hd : decode cc pc = .ok (.ifCond .gt off, 3)) (ht : (pc : Int) + off = (tgt : Int)) (kt : 0 < x → ZZ p l e R s m args below meth c D n0 N nL cells slots Q σ tgt ls st) (kf : ¬ 0 < x → ZZ p l e R s m args below meth c D n0 N nL cells slots Q σ (pc + 3) ls st) : ZZ p l e R s m args below meth c D n0 N nL cells slots Q σ pc ls (.int x :: st) := fun H locs lsA hP hS hl => lv_if_gt C.1 C.2.1 hd ht (fun q => kt q H locs lsA hP hS hl) (fun q => kf q H locs lsA hP hS hl)
theorem z_if_le (C : Cx p l s m args meth c D n0 own cc nL) {x : Int32} {off : Int} {tgt : Nat} (hd : decode cc pc = .ok (.ifCond .le off, 3)) (ht : (pc : Int) + off = (tgt : Int)) (kt : x ≤ 0 → ZZ p l e R s m args below meth c D n0 N nL cells slots Q σ tgt ls st) (kf : ¬ x ≤ 0 → ZZ p l e R s m args below meth c D n0 N nL cells slots Q σ (pc + 3) ls st) : ZZ p l e R s m args below meth c D n0 N nL cells slots Q σ pc ls (.int x :: st) := fun H locs lsA hP hS hl => lv_if_le C.1 C.2.1 hd ht (fun q => kt q H locs lsA hP hS hl) (fun q => kf q H locs lsA hP hS hl)
theorem z_icmp_eq (C : Cx p l s m args meth c D n0 own cc nL) {x y : Int32} {off : Int} {tgt : Nat} (hd : decode cc pc = .ok (.if_icmp .eq off, 3)) (ht : (pc : Int) + off = (tgt : Int)) (kt : x = y → ZZ p l e R s m args below meth c D n0 N nL cells slots Q σ tgt ls st) (kf : ¬ x = y → ZZ p l e R s m args below meth c D n0 N nL cells slots Q σ (pc + 3) ls st) : ZZ p l e R s m args below meth c D n0 N nL cells slots Q σ pc ls (.int y :: .int x :: st) := fun H locs lsA hP hS hl => lv_icmp_eq C.1 C.2.1 hd ht (fun q => kt q H locs lsA hP hS hl) (fun q => kf q H locs lsA hP hS hl)
theorem z_icmp_ne (C : Cx p l s m args meth c D n0 own cc nL) {x y : Int32} {off : Int} {tgt : Nat} (hd : decode cc pc = .ok (.if_icmp .ne off, 3)) (ht : (pc : Int) + off = (tgt : Int)) (kt : x ≠ y → ZZ p l e R s m args below meth c D n0 N nL cells slots Q σ tgt ls st) (kf : x = y → ZZ p l e R s m args below meth c D n0 N nL cells slots Q σ (pc + 3) ls st) : ZZ p l e R s m args below meth c D n0 N nL cells slots Q σ pc ls (.int y :: .int x :: st) := fun H locs lsA hP hS hl => lv_icmp_ne C.1 C.2.1 hd ht (fun q => kt q H locs lsA hP hS hl) (fun q => kf q H locs lsA hP hS hl)
theorem z_icmp_lt (C : Cx p l s m args meth c D n0 own cc nL) {x y : Int32} {off : Int} {tgt : Nat} (hd : decode cc pc = .ok (.if_icmp .lt off, 3)) (ht : (pc : Int) + off = (tgt : Int)) (kt : x < y → ZZ p l e R s m args below meth c D n0 N nL cells slots Q σ tgt ls st) (kf : ¬ x < y → ZZ p l e R s m args below meth c D n0 N nL cells slots Q σ (pc + 3) ls st) : ZZ p l e R s m args below meth c D n0 N nL cells slots Q σ pc ls (.int y :: .int x :: st) := fun H locs lsA hP hS hl => lv_icmp_lt C.1 C.2.1 hd ht (fun q => kt q H locs lsA hP hS hl) (fun q => kf q H locs lsA hP hS hl)
theorem z_icmp_ge (C : Cx p l s m args meth c D n0 own cc nL) {x y : Int32} {off : Int} {tgt : Nat} (hd : decode cc pc = .ok (.if_icmp .ge off, 3)) (ht : (pc : Int) + off = (tgt : Int)) (kt : y ≤ x → ZZ p l e R s m args below meth c D n0 N nL cells slots Q σ tgt ls st) (kf : ¬ y ≤ x → ZZ p l e R s m args below meth c D n0 N nL cells slots Q σ (pc + 3) ls st) : ZZ p l e R s m args below meth c D n0 N nL cells slots Q σ pc ls (.int y :: .int x :: st) := fun H locs lsA hP hS hl => lv_icmp_ge C.1 C.2.1 hd ht (fun q => kt q H locs lsA hP hS hl) (fun q => kf q H locs lsA hP hS hl)
theorem z_icmp_gt (C : Cx p l s m args meth c D n0 own cc nL) {x y : Int32} {off : Int} {tgt : Nat} (hd : decode cc pc = .ok (.if_icmp .gt off, 3)) (ht : (pc : Int) + off = (tgt : Int)) (kt : y < x → ZZ p l e R s m args below meth c D n0 N nL cells slots Q σ tgt ls st) (kf : ¬ y < x → ZZ p l e R s m args below meth c D n0 N nL cells slots Q σ (pc + 3) ls st) : ZZ p l e R s m args below meth c D n0 N nL cells slots Q σ pc ls (.int y :: .int x :: st) := fun H locs lsA hP hS hl => lv_icmp_gt C.1 C.2.1 hd ht (fun q => kt q H locs lsA hP hS hl) (fun q => kf q H locs lsA hP hS hl)
theorem z_icmp_le (C : Cx p l s m args meth c D n0 own cc nL) {x y : Int32} {off : Int} {tgt : Nat} (hd : decode cc pc = .ok (.if_icmp .le off, 3)) (ht : (pc : Int) + off = (tgt : Int)) (kt : x ≤ y → ZZ p l e R s m args below meth c D n0 N nL cells slots Q σ tgt ls st) (kf : ¬ x ≤ y → ZZ p l e R s m args below meth c D n0 N nL cells slots Q σ (pc + 3) ls st) : ZZ p l e R s m args below meth c D n0 N nL cells slots Q σ pc ls (.int y :: .int x :: st) := fun H locs lsA hP hS hl => lv_icmp_le C.1 C.2.1 hd ht (fun q => kt q H locs lsA hP hS hl) (fun q => kf q H locs lsA hP hS hl)
theorem z_ifnonnull (C : Cx p l s m args meth c D n0 own cc nL) {x : Nat} {off : Int} {tgt : Nat} (hd : decode cc pc = .ok (.ifnonnull off, 3)) (ht : (pc : Int) + off = (tgt : Int)) (kk : ZZ p l e R s m args below meth c D n0 N nL cells slots Q σ tgt ls st) : ZZ p l e R s m args below meth c D n0 N nL cells slots Q σ pc ls (.ref x :: st) := fun H locs lsA hP hS hl => lv_ifnonnull C.1 C.2.1 hd ht (kk H locs lsA hP hS hl)
theorem z_ifnonnullN (C : Cx p l s m args meth c D n0 own cc nL) {off : Int} (hd : decode cc pc = .ok (.ifnonnull off, 3)) (kk : ZZ p l e R s m args below meth c D n0 N nL cells slots Q σ (pc + 3) ls st) : ZZ p l e R s m args below meth c D n0 N nL cells slots Q σ pc ls (.null :: st) := fun H locs lsA hP hS hl => lv_ifnonnullN C.1 C.2.1 hd (kk H locs lsA hP hS hl)
theorem z_ifnull (C : Cx p l s m args meth c D n0 own cc nL) {x : Nat} {off : Int} (hd : decode cc pc = .ok (.ifnull off, 3)) (kk : ZZ p l e R s m args below meth c D n0 N nL cells slots Q σ (pc + 3) ls st) : ZZ p l e R s m args below meth c D n0 N nL cells slots Q σ pc ls (.ref x :: st) := fun H locs lsA hP hS hl => lv_ifnull C.1 C.2.1 hd (kk H locs lsA hP hS hl)
theorem z_ifnullN (C : Cx p l s m args meth c D n0 own cc nL) {off : Int} {tgt : Nat} (hd : decode cc pc = .ok (.ifnull off, 3)) (ht : (pc : Int) + off = (tgt : Int)) (kk : ZZ p l e R s m args below meth c D n0 N nL cells slots Q σ tgt ls st) : ZZ p l e R s m args below meth c D n0 N nL cells slots Q σ pc ls (.null :: st) := fun H locs lsA hP hS hl => lv_ifnullN C.1 C.2.1 hd ht (kk H locs lsA hP hS hl)
theorem z_fewer {ls' : List (Option Value)} (hl' : lle ls' ls) (kk : ZZ p l e R s m args below meth c D n0 N nL cells slots Q σ pc ls' st) : ZZ p l e R s m args below meth c D n0 N nL cells slots Q σ pc ls st := fun H locs lsA hP hS hl => kk H locs lsA hP hS (hl.fewer hl')
theorem z_widen {k n : Nat} (h1 : cells ≤ k) (h2 : slots ≤ n) (kk : ZZ p l e R s m args below meth c D n0 N nL k n Q σ pc ls st) : ZZ p l e R s m args below meth c D n0 N nL cells slots Q σ pc ls st := fun H locs lsA hP hS hl => W.widen h1 h2 (kk H locs lsA hP hS hl)
theorem z_tableOut (C : Cx p l s m args meth c D n0 own cc nL) {dflt lo hi : Int} {offs : Array Int} {len : Nat} {x : Int32} {tgt : Nat} (hd : decode cc pc = .ok (.tableswitch dflt lo hi offs, len)) (h : x.toInt < lo ∨ hi < x.toInt) (ht : (pc : Int) + dflt = (tgt : Int)) (kk : ZZ p l e R s m args below meth c D n0 N nL cells slots Q σ tgt ls st) : ZZ p l e R s m args below meth c D n0 N nL cells slots Q σ pc ls (.int x :: st) := fun H locs lsA hP hS hl => lv_tableOut C.1 C.2.1 hd h ht (kk H locs lsA hP hS hl)
theorem z_tableIn (C : Cx p l s m args meth c D n0 own cc nL) {dflt lo hi : Int} {offs : Array Int} {len : Nat} {x : Int32} {off : Int} {tgt : Nat} (hd : decode cc pc = .ok (.tableswitch dflt lo hi offs, len)) (h1 : ¬ x.toInt < lo) (h2 : ¬ hi < x.toInt) (ho : offs[(x.toInt - lo).toNat]? = some off) (ht : (pc : Int) + off = (tgt : Int)) (kk : ZZ p l e R s m args below meth c D n0 N nL cells slots Q σ tgt ls st) : ZZ p l e R s m args below meth c D n0 N nL cells slots Q σ pc ls (.int x :: st) := fun H locs lsA hP hS hl => lv_tableIn C.1 C.2.1 hd h1 h2 ho ht (kk H locs lsA hP hS hl)
theorem z_getf (C : Cx p l s m args meth c D n0 own cc nL) {k ci idx : Nat} {ref Cn : String} {T : u_T} {NF : Nat} {fs : List Value} {v : Value} (f : Nat) (he : enc D n0 σ k = .inr (ci, fs)) (hk : k < N) (hc : vwCl[ci]? = some (Cn, T, NF)) (hin : ∀ w ∈ u_ws Cn T NF, w ∈ tb) (hf : f < NF) (hlink : Cond.fieldLink own idx ref (T f).2.1 (T f).2.2.1 ∈ tb) (href : (T f).1 = ref) (hv : fs[f]? = some v) (hd : decode cc pc = .ok (.getfield idx, 3)) (kk : ZZ p l e R s m args below meth c D n0 N nL cells slots Q σ (pc + 3) ls (v :: st)) : ZZ p l e R s m args below meth c D n0 N nL cells slots Q σ pc ls (.ref (n0 + k) :: st) := fun H locs lsA hP hS hl => va_get C.1 C.2.1 C.2.2.2.2.1 hin C.2.2.2.1 C.2.2.2.2.2.1 hP k (fs := fs) (by rw [wl_get hk, he]) hc f hf (C.2.2.2.2.1 _ hlink) (fun x h => by rw [← href]; exact h) hv hd (kk H locs lsA hP hS hl)
theorem z_putf (C : Cx p l s m args meth c D n0 own cc nL) {k ci idx : Nat} {ref Cn : String} {T : u_T} {NF : Nat} {fs : List Value} {v : Value} {ty : FieldType} (f : Nat) (ty0 : Nat → FieldType) (he : enc D n0 σ k = .inr (ci, fs)) (he' : enc D n0 σ1 k = .inr (ci, fs.set f v)) (hne : ∀ j, j ≠ k → enc D n0 σ1 j = enc D n0 σ j) (hk : k < N) (hc : vwCl[ci]? = some (Cn, T, NF)) (hin : ∀ w ∈ u_ws Cn T NF, w ∈ tb) (hty : ∀ k, k < NF → parseFieldDescriptor (T k).2.2.1 = some (ty0 k)) (hnm : ∀ a, a < NF → ∀ b, b < NF → a ≠ b → (T a).2.1 ≠ (T b).2.1) (hf : f < NF) (hlink : Cond.fieldLink own idx ref (T f).2.1 (T f).2.2.1 ∈ tb) (href : (T f).1 = ref) (hfin : (T f).2.2.2 = false) (hdesc : parseFieldDescriptor (T f).2.2.1 = some ty) (hn : narrow ty v = v) (hfit : fits ty v = true) (hlen : f < fs.length) (hd : decode cc pc = .ok (.putfield idx, 3)) (kk : ZZ p l e R s m args below meth c D n0 N nL cells slots Q σ1 (pc + 3) ls st) : ZZ p l e R s m args below meth c D n0 N nL cells slots Q σ pc ls (v :: .ref (n0 + k) :: st) := fun H locs lsA hP hS hl => va_put C.1 C.2.1 C.2.2.2.2.1 hin ty0 hty hnm C.2.2.2.1 C.2.2.2.2.2.1 hP wl_D hS k (fs := fs) (by rw [wl_get hk, he]) hc f hf (C.2.2.2.2.1 _ hlink) (fun x h => by rw [← href]; exact h) hfin hdesc hn hfit hlen hd (fun H1 locs1 hP1 hD1 hS1 => kk H1 locs1 lsA (by rw [← wl_set he' hne]; exact hP1) hS1 hl)
theorem z_iald (C : Cx p l s m args meth c D n0 own cc nL) {k n : Nat} {f : Nat → Int32} {i : Int32} (j : Nat) (he : enc D n0 σ k = .inl (D.2.1, n, .inl f)) (hk : k < N) (hij : i = nI j) (hj : j < n) (hn : n < 2 ^ 31) (hd : decode cc pc = .ok (.iaload, 1)) (kk : ZZ p l e R s m args below meth c D n0 N nL cells slots Q σ (pc + 1) ls (.int (f j) :: st)) : ZZ p l e R s m args below meth c D n0 N nL cells slots Q σ pc ls (.int i :: .ref (n0 + k) :: st) := fun H locs lsA hP hS hl => by
  subst hij
  refine va_iald C.1 C.2.1 C.2.2.2.2.2.1 hP k 0 (by rw [wl_get hk, he]) rfl (vp_in_nI hj hn) hd ?_
  rw [nI_clamp (Nat.lt_trans hj hn)]
  exact kk H locs lsA hP hS hl
theorem z_bald (C : Cx p l s m args meth c D n0 own cc nL) {k n : Nat} {f : Nat → Int32} {i : Int32} (j : Nat) (he : enc D n0 σ k = .inl (D.2.2.1, n, .inl f)) (hk : k < N) (hij : i = nI j) (hj : j < n) (hn : n < 2 ^ 31) (hd : decode cc pc = .ok (.baload, 1)) (kk : ZZ p l e R s m args below meth c D n0 N nL cells slots Q σ (pc + 1) ls (.int (f j) :: st)) : ZZ p l e R s m args below meth c D n0 N nL cells slots Q σ pc ls (.int i :: .ref (n0 + k) :: st) := fun H locs lsA hP hS hl => by
  subst hij
  refine va_zald C.1 C.2.1 C.2.2.2.2.2.1 hP k 1 (by rw [wl_get hk, he]) rfl (vp_in_nI hj hn) hd ?_
  rw [nI_clamp (Nat.lt_trans hj hn)]
  exact kk H locs lsA hP hS hl
theorem z_iast (C : Cx p l s m args meth c D n0 own cc nL) {k n : Nat} {f : Nat → Int32} {i x : Int32} (j : Nat) (he : enc D n0 σ k = .inl (D.2.1, n, .inl f)) (he' : enc D n0 σ1 k = .inl (D.2.1, n, .inl (upd f j x))) (hne : ∀ j, j ≠ k → enc D n0 σ1 j = enc D n0 σ j) (hk : k < N) (hij : i = nI j) (hj : j < n) (hn : n < 2 ^ 31) (hd : decode cc pc = .ok (.iastore, 1)) (kk : ZZ p l e R s m args below meth c D n0 N nL cells slots Q σ1 (pc + 1) ls st) : ZZ p l e R s m args below meth c D n0 N nL cells slots Q σ pc ls (.int x :: .int i :: .ref (n0 + k) :: st) := fun H locs lsA hP hS hl => by
  subst hij
  refine va_iast C.1 C.2.1 C.2.2.2.2.2.1 hP wl_D hS k 0 (by rw [wl_get hk, he]) rfl (vp_in_nI hj hn) hd ?_
  rw [nI_clamp (Nat.lt_trans hj hn)]
  exact fun H1 locs1 hP1 hD1 hS1 => kk H1 locs1 lsA (by rw [← wl_set he' hne]; exact hP1) hS1 hl
theorem z_bast (C : Cx p l s m args meth c D n0 own cc nL) {k n : Nat} {f : Nat → Int32} {i x : Int32} (j : Nat) (he : enc D n0 σ k = .inl (D.2.2.1, n, .inl f)) (he' : enc D n0 σ1 k = .inl (D.2.2.1, n, .inl (upd f j x))) (hne : ∀ j, j ≠ k → enc D n0 σ1 j = enc D n0 σ j) (hx : x = 0 ∨ x = 1) (hk : k < N) (hij : i = nI j) (hj : j < n) (hn : n < 2 ^ 31) (hd : decode cc pc = .ok (.bastore, 1)) (kk : ZZ p l e R s m args below meth c D n0 N nL cells slots Q σ1 (pc + 1) ls st) : ZZ p l e R s m args below meth c D n0 N nL cells slots Q σ pc ls (.int x :: .int i :: .ref (n0 + k) :: st) := fun H locs lsA hP hS hl => by
  subst hij
  have hx2 : vp_nar .boolean x = x := by rcases hx with rfl | rfl <;> decide +kernel
  refine va_zast C.1 C.2.1 C.2.2.2.2.2.1 hP wl_D hS k 1 (by rw [wl_get hk, he]) rfl (vp_in_nI hj hn) hd ?_
  rw [nI_clamp (Nat.lt_trans hj hn), hx2]
  exact fun H1 locs1 hP1 hD1 hS1 => kk H1 locs1 lsA (by rw [← wl_set he' hne]; exact hP1) hS1 hl
theorem z_lald (C : Cx p l s m args meth c D n0 own cc nL) {κ μ : KH} {o : Int64} (hN : 126 < N) (hd : decode cc pc = .ok (.laload, 1)) (kk : ZZ p l e R s m args below meth c D n0 N nL cells slots Q (κ, μ, o) (pc + 1) ls (.long o :: st)) : ZZ p l e R s m args below meth c D n0 N nL cells slots Q (κ, μ, o) pc ls (.int 0 :: .ref (n0 + 126) :: st) := fun H locs lsA hP hS hl => va_lald C.1 C.2.1 C.2.2.2.2.2.1 hP 126 3 (f := vp_updL (fun _ => 0) 0 o) (n := 1) (by rw [wl_get hN, enc_126]) rfl (by rw [← nI_0]; exact vp_in_nI (by decide) (by decide)) hd (kk H locs lsA hP hS hl)
theorem z_last (C : Cx p l s m args meth c D n0 own cc nL) {κ μ : KH} {o x : Int64} (hN : 126 < N) (hd : decode cc pc = .ok (.lastore, 1)) (kk : ZZ p l e R s m args below meth c D n0 N nL cells slots Q (κ, μ, x) (pc + 1) ls st) : ZZ p l e R s m args below meth c D n0 N nL cells slots Q (κ, μ, o) pc ls (.long x :: .int 0 :: .ref (n0 + 126) :: st) := fun H locs lsA hP hS hl => by
  refine va_last C.1 C.2.1 C.2.2.2.2.2.1 hP wl_D hS 126 3 (f := vp_updL (fun _ => 0) 0 o) (n := 1) (by rw [wl_get hN, enc_126]) rfl (by rw [← nI_0]; exact vp_in_nI (by decide) (by decide)) hd ?_
  refine fun H1 locs1 hP1 hD1 hS1 => kk H1 locs1 lsA ?_ hS1 hl
  rw [← wl_set (σ := (κ, μ, o)) (σ' := (κ, μ, x)) (k := 126) (x := .inl (D.2.2.2.2, 1, .inr (.inl (vp_updL (vp_updL (fun _ => 0) 0 o) 0 x)))) ?_ (fun j hj => enc_uo hj)]
  · exact hP1
  · rw [enc_126]
    have h3 : vp_updL (vp_updL (fun _ => 0) 0 o) 0 x = vp_updL (fun _ => 0) 0 x := by
      funext j
      unfold vp_updL
      by_cases hj : j = 0
      · rw [if_pos hj, if_pos hj]
      · rw [if_neg hj, if_neg hj, if_neg hj]
    rw [h3]
theorem z_alen (C : Cx p l s m args meth c D n0 own cc nL) {k : Nat} {cA : ClassId} {x : vp_A} {ty : FieldType} {v : Int32} (t0 : Nat) (he : enc D n0 σ k = .inl (cA, x)) (ht : (tyl D)[t0]? = some (cA, ty)) (hk : k < N) (hv : Int32.ofNat x.1 = v) (hd : decode cc pc = .ok (.arraylength, 1)) (kk : ZZ p l e R s m args below meth c D n0 N nL cells slots Q σ (pc + 1) ls (.int v :: st)) : ZZ p l e R s m args below meth c D n0 N nL cells slots Q σ pc ls (.ref (n0 + k) :: st) := fun H locs lsA hP hS hl => va_alen C.1 C.2.1 C.2.2.2.2.2.1 hP k t0 (by rw [wl_get hk, he]) ht hv hd (kk H locs lsA hP hS hl)
theorem z_aldV (C : Cx p l s m args meth c D n0 own cc nL) {b : Nat} {i : Int32} {κ μ : KH} {o : Int64} (j : Nat) (hb : isS b) (hk : b + 1 < N) (hij : i = nI j) (hj : j < 16) (hd : decode cc pc = .ok (.aaload, 1)) (kk : ZZ p l e R s m args below meth c D n0 N nL cells slots Q (κ, μ, o) (pc + 1) ls (.ref (n0 + (b + 2 + 2 * j)) :: st)) : ZZ p l e R s m args below meth c D n0 N nL cells slots Q (κ, μ, o) pc ls (.int i :: .ref (n0 + (b + 1)) :: st) := fun H locs lsA hP hS hl => by
  subst hij
  refine va_aldq C.1 C.2.1 C.2.2.2.2.2.1 hP (b + 1) 2 (by rw [wl_get hk, enc_SV hb]) rfl (vp_in_nI hj (by decide)) hd ?_
  rw [nI_clamp (by omega)]
  exact kk H locs lsA hP hS hl
end ROWS
end
section
def strs : List (Nat × String) := [(274, "no such number of a volume"), (281, "no such size"), (58, "there is this volume"), (279, "no such volume"), (285, "a write waits for one of these places"), (283, "no such word"), (150, "not all these places"), (287, "below 0"), (164, "no such word of the backing"), (170, "a volume is backed"), (174, "no such quota"), (291, "no such state"), (190, "no such cut"), (203, "one is held"), (208, "no such patience"), (213, "no such alarm"), (218, "not so many seconds"), (229, "no such volume or place"), (244, "no such what"), (289, "no such extent")]
def cIO : String := "java/lang/IndexOutOfBoundsException"
def cIA : String := "java/lang/IllegalArgumentException"
def cIS : String := "java/lang/IllegalStateException"
def excs : List String := [cIO, cIA, cIS]
def dcls : List Cond := [Cond.declares (Bundle.initS "java/lang/RuntimeException"), Cond.declares (Bundle.initS "java/lang/Exception"), Cond.declares (Bundle.initS Bundle.tN)]
def nocs : List (String × String) := [(cIA, cIS), (cIA, cIO), (cIS, cIA), (cIS, cIO), (cIO, cIA), (cIO, cIS)]
/-- what every method may take as given of the machine's tables and statics -/
def KX (D : DD) (n0 : Nat) (U : State) (H : Heap) : Prop :=
  va_K D.1 vwCl (tyl D) U ∧ (∀ q ∈ strs, ∃ sa, vk_R RX4 q.1 q.2 sa U) ∧ (∀ E ∈ excs, va_Nw (.castable E E) U) ∧ (∀ w ∈ dcls, va_Nw w U) ∧ (∀ q ∈ nocs, va_Nc q.1 q.2 U) ∧
  vx_Zq Bundle.tN "UNASSIGNED_STACK" Bundle.steD (fun q => n0 ≤ q) U H ∧ vx_Zq Bundle.tN "SUPPRESSED_SENTINEL" Bundle.listD (fun q => n0 ≤ q) U H
theorem KX.warm {D : DD} {n0 : Nat} {s U : State} {H0 H : Heap} (h : KX D n0 s H0) (hW : s.WarmedH U.vm) (hq : ∀ a : Nat, a < H0.size → ¬ n0 ≤ a → H[a]? = H0[a]?) : KX D n0 U H := by
  obtain ⟨h1, h2, h3, h3d, h4, h5, h6⟩ := h
  refine ⟨va_K.moved hW.alike h1, fun q hq => ?_, fun E hE => (h3 E hE).warmC hW, fun w hw => ?_, fun q hq => (h4 q hq).moved hW.alike, (h5.moved hW.alike).kept hq, (h6.moved hW.alike).kept hq⟩
  · obtain ⟨sa, hs⟩ := h2 q hq
    exact ⟨sa, hs.warm hW⟩
  · have h9 := h3d w hw
    simp only [dcls, List.mem_cons, List.not_mem_nil, or_false] at hw
    rcases hw with rfl | rfl | rfl <;> exact h9.warmD hW
theorem KX.same {D : DD} {n0 : Nat} {s U : State} {H : Heap} (h : KX D n0 s H) (hv : U.vm = s.vm) : KX D n0 U H :=
  h.warm (by rw [hv]; exact State.WarmedH.refl s) (fun _ _ _ => rfl)
def PcW (D : DD) (n0 N : Nat) (σ : ST) (U : State) : Prop := va_P D.1 vwCl (wl D n0 N σ) U.heap ∧ KX D n0 U U.heap ∧ n0 ≤ U.heap.size
theorem PcW.blind {D : DD} {n0 N : Nat} {σ : ST} {av : List Value} : FrameBlind (va_Pc av (PcW D n0 N σ)) := fun a U g mk q => ⟨q.1, q.2.1, q.2.2.1.same rfl, q.2.2.2⟩
theorem PcW.mk {D : DD} {n0 N : Nat} {σ : ST} {s U : State} {H : Heap} {locs : List Loc} (K : KX D n0 s s.heap) (hn : n0 ≤ s.heap.size) (hP : va_P D.1 vwCl (wl D n0 N σ) H) (hS : va_S (fun q => n0 ≤ q) s.heap H locs) (hU : U.heap = H) (hW : s.WarmedH U.vm) : PcW D n0 N σ U := by
  refine ⟨by rw [hU]; exact hP, by rw [hU]; exact K.warm hW hS.2.1, by rw [hU]; exact Nat.le_trans hn hS.1⟩
def QcM (D : DD) (n0 N : Nat) (r : Option Value) (σ' : ST) : Array Value → State → Outcome → State → Prop := fun _ st oc t => (oc = .returned r ∧ va_P D.1 vwCl (wl D n0 N σ') t.heap) ∧ va_F (fun q => n0 ≤ q) st t
def rmk (f w : Nat) : Room := { frames := f, cells := 0, slots := 0, locals := w }
def rmx (f w : Nat) : Room := { frames := f, cells := 1, slots := 6, locals := w }
/-- a method that returns r and leaves the world σ' -/
def HM (l : Launch) (D : DD) (n0 : Nat) (y : MethodName) (cc : ByteArray) (maxL : Nat) (ret : Option FieldType) (f w : Nat) (av : List Value) (σ : ST) (r : Option Value) (σ' : ST) : Prop :=
  Met l y (Cond.code y cc maxL ret :: tb) (rmk f w) (va_Pc av (PcW D n0 127 σ)) (QcM D n0 127 r σ') 0 0 (fun q => n0 ≤ q)
def XcT (D : DD) (n0 : Nat) (E : String) (σ : ST) : String → State → State → Prop := fun E' st t => E' = E ∧ va_P D.1 vwCl (wl D n0 127 σ) t.heap ∧ va_F (fun q => n0 ≤ q) st t
/-- a method that throws an E and leaves the world as it is -/
def HT (l : Launch) (D : DD) (n0 : Nat) (y : MethodName) (cc : ByteArray) (maxL : Nat) (ret : Option FieldType) (f w : Nat) (av : List Value) (σ : ST) (E : String) : Prop :=
  vx_Met l y (Cond.code y cc maxL ret :: tb) (rmx f w) (va_Pc av (PcW D n0 127 σ)) (fun _ _ _ _ => False) (XcT D n0 E σ) 1 6 (fun q => n0 ≤ q)
theorem lv_args_mem : ∀ (av : List Value) (k i : Nat) (v : Value), (∀ x ∈ av, x.category = 1) → av[i]? = some v → (k + i, v) ∈ lv_args k av
  | [], _, _, _, _, h => by simp at h
  | x :: av, k, 0, v, hc, h => by
    simp at h
    subst h
    simp [lv_args]
  | x :: av, k, i + 1, v, hc, h => by
    have h1 : x.category = 1 := hc x List.mem_cons_self
    have h2 := lv_args_mem av (k + 1) i v (fun y hy => hc y (List.mem_cons_of_mem _ hy)) (by simpa using h)
    rw [lv_args, if_neg (by omega)]
    refine List.mem_cons_of_mem _ ?_
    rw [show k + (i + 1) = k + 1 + i by omega]
    exact h2
theorem lg_sl_len : ∀ (av : List Value), (∀ x ∈ av, x.category = 1) → (lg_sl av).length = av.length
  | [], _ => rfl
  | x :: av, hc => by
    have h1 : x.category = 1 := hc x List.mem_cons_self
    have h2 := lg_sl_len av (fun y hy => hc y (List.mem_cons_of_mem _ hy))
    simp only [lg_sl, List.flatMap_cons, List.length_append, List.length_cons] at h2 ⊢
    rw [h2]
    simp [h1]
    omega
def ent (av : List Value) (n : Nat) : List (Option Value) := av.map some ++ List.replicate (n - av.length) none
theorem ent_lh {av : List Value} {n : Nat} (hc : ∀ x ∈ av, x.category = 1) (hn : av.length ≤ n) : lh ((lg_sl av ++ List.replicate (n - (lg_sl av).length) Slot.unset).toArray) n (ent av n) := by
  obtain ⟨h1, h2, h3⟩ := lv_entry av (n := n) (by rw [lg_sl_len av hc]; exact hn)
  refine ⟨h1, h2, fun i v hi => ?_⟩
  have hi2 : av[i]? = some v := by
    unfold ent at hi
    by_cases h : i < av.length
    · rw [List.getElem?_append_left (by simpa using h), List.getElem?_map] at hi
      cases h4 : av[i]? with
      | none => simp [h4] at hi
      | some u => simp [h4] at hi; rw [hi]
    · rw [List.getElem?_append_right (by simpa using Nat.not_lt.mp h)] at hi
      have h5 := List.eq_of_mem_replicate (List.mem_of_getElem? hi)
      cases h5
  have h4 := h3 (i, v) (by simpa using lv_args_mem av 0 i v hc hi2)
  exact ⟨h4, hc v (List.mem_of_getElem? hi2)⟩
section BODY
variable {l : Launch} {D : DD} {n0 : Nat} {y : MethodName} {cc : ByteArray} {maxL : Nat} {ret : Option FieldType} {f w : Nat} {av : List Value} {σ σ' : ST} {r : Option Value}
theorem HM.of (hy : plainName y.cls = true) (hc : ∀ x ∈ av, x.category = 1) (hn : av.length ≤ maxL)
    (hr : (r = none ∧ ret = none) ∨ (∃ v ty, r = some (.int v) ∧ ret = some ty ∧ narrow ty (.int v) = .int v) ∨ (∃ v n, r = some v ∧ ret = some (.object n) ∧ (v = .null ∨ ∃ a, v = .ref a)))
    (body : ∀ (p : Program) (e : Env) (s : State) (m : MethodId) (args : Array Value) (below : List Frame) (meth : Method) (c : Code) (Q : State → Prop), Cx p l s m args meth c D n0 y.cls cc maxL → KX D n0 s s.heap →
      (∀ (pc : Nat) (ls : List (Option Value)), decode cc pc = .ok (match (r : Option Value) with | none => .return_ | some (.int _) => .ireturn | _ => .areturn, 1) → ZZ p l e (rmk f w) s m args below meth c D n0 127 maxL 0 0 Q σ' pc ls r.toList) →
      ZZ p l e (rmk f w) s m args below meth c D n0 127 maxL 0 0 Q σ 0 (ent av maxL) []) : HM l D n0 y cc maxL ret f w av σ r σ' := by
  refine Met.ofW (cc := cc) (maxL := maxL) (ret := ret) hy rfl ?_
  intro p e s m args below meth c s₁ B hml hv
  obtain ⟨rfl, hP, hK, hn0⟩ := hv
  have hts := atoms_spec (ws := Cond.code y cc maxL ret :: tb) B.pre
  have hC : Cx p l s m av.toArray meth c D n0 y.cls cc maxL := ⟨B.exec, B.bytes, hml, findClass_of_methodNamed B.named, fun w hw => hts w (List.mem_cons_of_mem _ hw), hK.1, hn0, B.notSynchronized⟩
  rw [lg_entry_eq]
  refine body p e s m _ below meth c _ hC hK ?_ s.heap [] _ hP va_S.rf (ent_lh hc hn)
  intro pc ls hd H locs lsA hP2 hS hl
  rcases hr with ⟨rfl, hr⟩ | ⟨v, ty, rfl, hr, hnn⟩ | ⟨v, nn, rfl, hr, hvv⟩
  · exact W.vret hC.1 hC.2.1 (B.returns.trans hr) (fun t ht hW => ⟨⟨rfl, by rw [ht]; exact hP2⟩, hS.F ht⟩) hS.2.2 hd hC.2.2.2.2.2.2.2
  · exact W.zret hC.1 hC.2.1 (B.returns.trans hr) hnn (fun t ht hW => ⟨⟨rfl, by rw [ht]; exact hP2⟩, hS.F ht⟩) hS.2.2 hd hC.2.2.2.2.2.2.2
  · have hd2 : decode cc pc = .ok (.areturn, 1) := by
      rcases hvv with rfl | ⟨a, rfl⟩ <;> exact hd
    exact W.aret hC.1 hC.2.1 (B.returns.trans hr) (Or.inl ⟨nn, rfl⟩) hvv (fun t ht hW => ⟨⟨rfl, by rw [ht]; exact hP2⟩, hS.F ht⟩) hS.2.2 hd2 hC.2.2.2.2.2.2.2
theorem HT.of {E : String} (hy : plainName y.cls = true) (hc : ∀ x ∈ av, x.category = 1) (hn : av.length ≤ maxL)
    (body : ∀ (p : Program) (e : Env) (s : State) (m : MethodId) (args : Array Value) (below : List Frame) (meth : Method) (c : Code), Cx p l s m args meth c D n0 y.cls cc maxL → KX D n0 s s.heap → (∀ x ∈ c.exceptionTable.toList, False) →
      ZZ p l e (rmx f w) s m args below meth c D n0 127 maxL 0 0 (vx_MQ below (fun _ _ _ _ => False) (XcT D n0 E σ) args s 1 6 (fun q => n0 ≤ q)) σ 0 (ent av maxL) []) : HT l D n0 y cc maxL ret f w av σ E := by
  refine vx_ofW (cc := cc) (maxL := maxL) (ret := ret) hy rfl ?_
  intro p e s m args below meth c s₁ B hml hxt hv
  obtain ⟨rfl, hP, hK, hn0⟩ := hv
  have hts := atoms_spec (ws := Cond.code y cc maxL ret :: tb) B.pre
  have hC : Cx p l s m av.toArray meth c D n0 y.cls cc maxL := ⟨B.exec, B.bytes, hml, findClass_of_methodNamed B.named, fun w hw => hts w (List.mem_cons_of_mem _ hw), hK.1, hn0, B.notSynchronized⟩
  rw [lg_entry_eq]
  exact body p e s m _ below meth c hC hK hxt s.heap [] _ hP va_S.rf (ent_lh hc hn)
end BODY
section CALLS

variable {p : Program} {l : Launch} {e : Env} {R : Room} {s : State} {m : MethodId} {args : Array Value} {below : List Frame} {meth : Method} {c : Code} {D : DD} {n0 N nL cells slots : Nat} {Q : State → Prop} {own : String} {cc : ByteArray} {σ σ1 : ST} {pc : Nat} {ls : List (Option Value)} {st : List Value}
variable {y : MethodName} {bytes : ByteArray} {maxL f w idx n : Nat} {ret : Option FieldType} {As : List Value} {r : Option Value} {E : String}
/-- a call's continuation, out of what the kit says of its run -/
theorem z_run (C : Cx p l s m args meth c D n0 own cc nL) {st0 rest : List Value} {a : Array Value} {H : Heap} {locs : List Loc} {lsA : Array Slot} (hS : va_S (fun q => n0 ≤ q) s.heap H locs) (hl : lh lsA nL ls)
    (hr : va_Run p l e R s m args below meth c H locs cells slots 0 0 (F0 m pc lsA st0) rest (QcM D n0 N r σ1 a) (fun q => n0 ≤ q))
    (kk : ZZ p l e R s m args below meth c D n0 N nL cells slots Q σ1 (pc + 3) ls (r.toList ++ rest)) : W p l e R s m args below meth c H locs cells slots Q (F0 m pc lsA st0) := by
  intro T hT X
  obtain ⟨v, st₀, t, T', L, h0, X', hL, e1, e2, ⟨⟨hv, hp⟩, hz, hk⟩, st⟩ := hr T hT X
  have hv2 : v = r := by injection hv
  subst hv2
  rw [h0] at hz hk
  obtain ⟨t2, a1, b1⟩ := kk T'.heap (locs ++ L) lsA (by rw [e1]; exact hp)
    ⟨Nat.le_trans hS.1 (by rw [e1]; exact hz), fun q h1 h2 => by rw [e1, hk q (Nat.lt_of_lt_of_le h1 hS.1) h2]; exact hS.2.1 q h1 h2, fun q hq => by
      rcases List.mem_append.mp hq with h | h
      · exact hS.2.2 q h
      · exact hL q h⟩ hl T' rfl X'
  exact ⟨t2, st t2 a1, b1⟩
def okV (own C : String) (idx : Nat) (y : MethodName) (bytes : ByteArray) (maxL : Nat) (ret : Option FieldType) (n : Nat) : Prop :=
  Cond.methodLink own idx y ∈ tb ∧ Cond.instanceMethod y ∈ tb ∧ Cond.selects C y y ∈ tb ∧ Cond.initialized C ∈ tb ∧ Cond.code y bytes maxL ret ∈ tb ∧ (y.cls = C ∧ y.cls ≠ "java/lang/invoke/MethodHandle" ∧ y.cls ≠ "java/lang/invoke/VarHandle" ∧ (parseMethodDescriptor y.desc).map (fun d => d.parameters.length) = some n)
def okS (own : String) (idx : Nat) (y : MethodName) (bytes : ByteArray) (maxL : Nat) (ret : Option FieldType) (n : Nat) : Prop :=
  Cond.methodLink own idx y ∈ tb ∧ Cond.static y ∈ tb ∧ Cond.initialized y.cls ∈ tb ∧ Cond.code y bytes maxL ret ∈ tb ∧ (y.cls ≠ "java/lang/invoke/MethodHandle" ∧ y.cls ≠ "java/lang/invoke/VarHandle" ∧ (parseMethodDescriptor y.desc).map (fun d => d.parameters.length) = some n)
theorem okV.cw {own C : String} {rm : Room} {mc ms : Nat} (h : okV own C idx y bytes maxL ret n) (hts : ∀ w ∈ tb, w.before args s = true) (hrc : rm.cells = mc) (hrs : rm.slots = ms) (hR : rm.frames + 1 ≤ R.frames ∧ 8 + (maxL + 11) + rm.locals ≤ R.locals) : CallW R s args own C idx y bytes maxL ret (Cond.code y bytes maxL ret :: tb) rm mc ms n := by
  obtain ⟨h1, h2, h3, h4, h5, h6⟩ := h
  refine cwV n hts (tb_goodIn fun w hw => ?_) rfl hrc hrs h6 hR
  unfold wsV at hw
  rcases List.mem_append.mp hw with h | h
  · simp only [List.mem_cons, List.not_mem_nil, or_false] at h
    rcases h with rfl | rfl | rfl | rfl <;> assumption
  · rcases List.mem_cons.mp h with rfl | h
    · exact h5
    · exact h
theorem okS.cw {own : String} {rm : Room} {mc ms : Nat} (h : okS own idx y bytes maxL ret n) (hts : ∀ w ∈ tb, w.before args s = true) (hrc : rm.cells = mc) (hrs : rm.slots = ms) (hR : rm.frames + 1 ≤ R.frames ∧ 8 + (maxL + 11) + rm.locals ≤ R.locals) : CallB R s args own idx y bytes maxL ret (Cond.code y bytes maxL ret :: tb) rm mc ms n ∧ (Cond.static y).before args s = true := by
  obtain ⟨h1, h2, h4, h5, h6⟩ := h
  refine ⟨callB_of n hts (tb_goodIn fun w hw => ?_) rfl hrc hrs (hts _ h4) (hts _ h1) h6 hR, hts _ h2⟩
  rcases List.mem_cons.mp hw with rfl | h
  · exact h5
  · exact h
/-- a virtual call (or of a private method) of an object of the world -/
theorem z_callV (C : Cx p l s m args meth c D n0 own cc nL) (K : KX D n0 s s.heap) {C0 : String} {k ci NF : Nat} {T : u_T} {fs : List Value} (ok : okV own C0 idx y bytes maxL ret n) (hM : HM l D n0 y bytes maxL ret f w (.ref (n0 + k) :: As) σ r σ1) (he : enc D n0 σ k = .inr (ci, fs)) (hk : k < 127) (hc : vwCl[ci]? = some (C0, T, NF)) (hn : As.length = n) (hR : f + 1 ≤ R.frames ∧ 8 + (maxL + 11) + w ≤ R.locals) (hfit : cells ≤ R.cells ∧ slots ≤ R.slots) (hW : (st.map fun v => v.category).sum ≤ 8) (hd : decode cc pc = .ok (.invokevirtual idx, 3)) {sk st1 : List Value} (hsk : sk = As.reverse ++ .ref (n0 + k) :: st) (hs1 : r.toList ++ st = st1)
    (kk : ZZ p l e R s m args below meth c D n0 127 nL cells slots Q σ1 (pc + 3) ls st1) : ZZ p l e R s m args below meth c D n0 127 nL cells slots Q σ pc ls sk := by
  subst hsk
  subst hs1
  intro H locs lsA hP hS hl
  refine z_run C hS hl (va_runV (As := As) (rest := st) ⟨C.1, C.2.1, C.2.2.1, C.2.2.2.1, C.2.2.2.2.1⟩ hM (ok.cw C.2.2.2.2.1 rfl rfl hR) ⟨PcW.blind, ?_, ?_⟩ rfl hn hl.1 rfl (lv_room hW) hd ⟨hfit.1, hfit.2⟩) kk
  · exact va_recv C.2.2.2.2.2.1 hP hc (q0 := k) (by rw [wl_get hk, he])
  · exact fun U hU hW => ⟨rfl, PcW.mk K C.2.2.2.2.2.2.1 hP hS hU hW⟩
theorem z_callS (C : Cx p l s m args meth c D n0 own cc nL) (K : KX D n0 s s.heap) (ok : okS own idx y bytes maxL ret n) (hM : HM l D n0 y bytes maxL ret f w As σ r σ1) (hn : As.length = n) (hR : f + 1 ≤ R.frames ∧ 8 + (maxL + 11) + w ≤ R.locals) (hfit : cells ≤ R.cells ∧ slots ≤ R.slots) (hW : (st.map fun v => v.category).sum ≤ 8) (hd : decode cc pc = .ok (.invokestatic idx, 3)) {sk st1 : List Value} (hsk : sk = As.reverse ++ st) (hs1 : r.toList ++ st = st1)
    (kk : ZZ p l e R s m args below meth c D n0 127 nL cells slots Q σ1 (pc + 3) ls st1) : ZZ p l e R s m args below meth c D n0 127 nL cells slots Q σ pc ls sk := by
  subst hsk
  subst hs1
  intro H locs lsA hP hS hl
  exact z_run C hS hl (va_runS (As := As) (rest := st) ⟨C.1, C.2.1, C.2.2.1, C.2.2.2.1, C.2.2.2.2.1⟩ hM (ok.cw C.2.2.2.2.1 rfl rfl hR) ⟨PcW.blind, fun U hU hW => ⟨rfl, PcW.mk K C.2.2.2.2.2.2.1 hP hS hU hW⟩⟩ rfl hn hl.1 rfl (lv_room hW) hd ⟨hfit.1, hfit.2⟩) kk
/-- a call that throws: what goes on over the frame -/
theorem z_callVT (C : Cx p l s m args meth c D n0 own cc nL) (K : KX D n0 s s.heap) {C0 : String} {k ci NF : Nat} {T : u_T} {fs : List Value} (ok : okV own C0 idx y bytes maxL ret n) (hM : HT l D n0 y bytes maxL ret f w (.ref (n0 + k) :: As) σ E) (he : enc D n0 σ k = .inr (ci, fs)) (hk : k < 127) (hc : vwCl[ci]? = some (C0, T, NF)) (hn : As.length = n) (hR : f + 1 ≤ R.frames ∧ 8 + (maxL + 11) + w ≤ R.locals) (hfit : cells + 1 ≤ R.cells ∧ slots + 6 ≤ R.slots) (hW : (st.map fun v => v.category).sum ≤ 8) (hd : decode cc pc = .ok (.invokevirtual idx, 3)) {sk : List Value} (hsk : sk = As.reverse ++ .ref (n0 + k) :: st)
    (kx : ∀ (H : Heap) (locs : List Loc) (lsA : Array Slot) (q9 : Addr) (ce : Cell), va_P D.1 vwCl (wl D n0 127 σ) H → va_S (fun q => n0 ≤ q) s.heap H locs → lh lsA nL ls → H[q9]? = some ce → ce.vm = .none → s.vm.findClass E = some ce.cls → vx_W p l e R s m args below meth c H locs (cells + 1) (slots + 6) Q (F0 m pc lsA st) q9) : ZZ p l e R s m args below meth c D n0 127 nL cells slots Q σ pc ls sk := by
  subst hsk
  intro H locs lsA hP hS hl T hT X
  rcases vx_runV (As := As) (rest := st) ⟨C.1, C.2.1, C.2.2.1, C.2.2.2.1, C.2.2.2.2.1⟩ hM (ok.cw C.2.2.2.2.1 rfl rfl hR) ⟨PcW.blind, va_recv C.2.2.2.2.2.1 hP hc (q0 := k) (by rw [wl_get hk, he]), fun U hU hW => ⟨rfl, PcW.mk K C.2.2.2.2.2.2.1 hP hS hU hW⟩⟩ rfl hn hl.1 rfl (lv_room hW) hd ⟨hfit.1, hfit.2⟩ T hT X with ⟨v, st₀, t, T', L, h0, X', hL, e1, e2, hF, st⟩ | ⟨q, st₀, t, T', L, E', ce, h0, X', hL, e1, e2, ⟨rfl, hp, hF⟩, hce, hcv, hcl, st⟩
  · exact hF.elim
  · obtain ⟨k1, k2, k3⟩ := vx_keep h0 e1 hS (fun q _ h => h) (fun q h => h) hL hF
    obtain ⟨t2, a1, b1⟩ := kx T'.heap (locs ++ L) lsA q ce (by rw [e1]; exact hp) k3 hl (by rw [e1]; exact hce) hcv hcl T' rfl X'
    exact ⟨t2, st.trans a1, b1⟩
/-- .. and it goes on to the caller -/
theorem z_out {σ0 : ST} {a0 : Array Value} (hxt : ∀ x ∈ c.exceptionTable.toList, False) (hlocks : meth.locks = false) {H : Heap} {locs : List Loc} {lsA : Array Slot} {q9 : Addr} {ce : Cell} (hP : va_P D.1 vwCl (wl D n0 127 σ) H) (hS : va_S (fun q => n0 ≤ q) s.heap H locs) (h1 : H[q9]? = some ce) (h2 : ce.vm = .none) (h3 : s.vm.findClass E = some ce.cls) :
    vx_W p l e R s m args below meth c H locs (0 + 1) (0 + 6) (vx_MQ below (fun _ _ _ _ => False) (XcT D n0 E σ) args s 1 6 (fun q => n0 ≤ q)) (F0 m pc lsA st) q9 := by
  exact vx_out (E := E) (fun x hx => (hxt x hx).elim) hlocks h1 h2 h3 (fun t ht hW => ⟨rfl, by rw [ht]; exact hP, hS.F ht⟩) hS.2.2 (Nat.le_refl _) (Nat.le_refl _)
/-- throw new E("text") -/
theorem z_throwS (C : Cx p l s m args meth c D n0 own cc nL) (K : KX D n0 s s.heap) (hfl : l.stackTraces = false) (hxt : ∀ x ∈ c.exceptionTable.toList, False) {σ0 : ST} {ik is ic : Nat} {text : String} (hE : E ∈ excs) (hfit : Bundle.fit E = true) (hk : Cond.classLink RX4 ik E ∈ tb) (hini : Cond.initialized E ∈ tb) (hown : own = RX4) (hstr : (is, text) ∈ strs) (hat1 : ∀ w ∈ (vx_atS RX4 ic E ["java/lang/RuntimeException", "java/lang/Exception"]).filter goodWord, w ∈ tb) (hat2 : ∀ w ∈ (vx_atS RX4 ic E ["java/lang/RuntimeException", "java/lang/Exception"]).filter (fun w => !goodWord w), w ∈ Cond.castable E E :: dcls)
    (hgood : ∀ w ∈ Cond.classLink RX4 ik E :: Cond.initialized E :: vx_atS RX4 ic E ["java/lang/RuntimeException", "java/lang/Exception"], vx_ot w = true)
    (d0 : decode cc pc = .ok (.new ik, 3)) (d3 : decode cc (pc + 3) = .ok (.dup, 1)) (d4 : decode cc (pc + 4) = .ok (.ldc is, 2)) (d6 : decode cc (pc + 6) = .ok (.invokespecial ic, 3)) (d9 : decode cc (pc + 9) = .ok (.athrow, 1)) (hR : 5 < R.frames ∧ 82 ≤ R.locals ∧ 1 ≤ R.cells ∧ 6 ≤ R.slots) :
    ZZ p l e R s m args below meth c D n0 127 nL 0 0 (vx_MQ below (fun _ _ _ _ => False) (XcT D n0 E σ) args s 1 6 (fun q => n0 ≤ q)) σ pc ls [] := by
  subst hown
  intro H locs lsA hP hS hl
  obtain ⟨sa, hsa⟩ := K.2.1 _ hstr
  refine vx_throwS C.1 C.2.1 hfl (names := ["java/lang/RuntimeException", "java/lang/Exception"]) C.2.2.2.1 hfit (by decide +kernel) (C.2.2.2.2.1 _ hk) (C.2.2.2.2.1 _ hini) hsa (vx_hat (fun w hw => C.2.2.2.2.1 _ (hat1 w hw)) hat2 (fun w hw => ?_)) hgood K.2.2.2.2.2.1 K.2.2.2.2.2.2 hS (hl.1.trans C.2.2.1.symm) d0 d3 d4 d6 d9 (fun x hx => (hxt x hx).elim) hR.1 hR.2.1 (by simpa using hR.2.2.1) (by simpa using hR.2.2.2) C.2.2.2.2.2.2.2 (fun t hW hz hq => ?_) hS.2.2 (Nat.le_refl _) (Nat.le_refl _)
  · rcases List.mem_cons.mp hw with rfl | hw
    · exact va_any rfl (K.2.2.1 E hE)
    · have h9 := K.2.2.2.1 w hw
      simp only [dcls, List.mem_cons, List.not_mem_nil, or_false] at hw
      rcases hw with rfl | rfl | rfl <;> exact va_any rfl h9
  · refine ⟨rfl, hP.kept (fun k q hk => hq q.1 (hP k q hk).lt), Nat.le_trans hS.1 hz, fun q h1 h2 => ?_⟩
    rw [hq q (Nat.lt_of_lt_of_le h1 hS.1)]
    exact hS.2.1 q h1 h2
/-- the same by a wide ldc -/
theorem z_throwW (C : Cx p l s m args meth c D n0 own cc nL) (K : KX D n0 s s.heap) (hfl : l.stackTraces = false) (hxt : ∀ x ∈ c.exceptionTable.toList, False) {σ0 : ST} {ik is ic : Nat} {text : String} (hE : E ∈ excs) (hfit : Bundle.fit E = true) (hk : Cond.classLink RX4 ik E ∈ tb) (hini : Cond.initialized E ∈ tb) (hown : own = RX4) (hstr : (is, text) ∈ strs) (hat1 : ∀ w ∈ (vx_atS RX4 ic E ["java/lang/RuntimeException", "java/lang/Exception"]).filter goodWord, w ∈ tb) (hat2 : ∀ w ∈ (vx_atS RX4 ic E ["java/lang/RuntimeException", "java/lang/Exception"]).filter (fun w => !goodWord w), w ∈ Cond.castable E E :: dcls)
    (hgood : ∀ w ∈ Cond.classLink RX4 ik E :: Cond.initialized E :: vx_atS RX4 ic E ["java/lang/RuntimeException", "java/lang/Exception"], vx_ot w = true)
    (d0 : decode cc pc = .ok (.new ik, 3)) (d3 : decode cc (pc + 3) = .ok (.dup, 1)) (d4 : decode cc (pc + 4) = .ok (.ldc_w is, 3)) (d6 : decode cc (pc + 7) = .ok (.invokespecial ic, 3)) (d9 : decode cc (pc + 10) = .ok (.athrow, 1)) (hR : 5 < R.frames ∧ 82 ≤ R.locals ∧ 1 ≤ R.cells ∧ 6 ≤ R.slots) :
    ZZ p l e R s m args below meth c D n0 127 nL 0 0 (vx_MQ below (fun _ _ _ _ => False) (XcT D n0 E σ) args s 1 6 (fun q => n0 ≤ q)) σ pc ls [] := by
  subst hown
  intro H locs lsA hP hS hl
  obtain ⟨sa, hsa⟩ := K.2.1 _ hstr
  refine vx_throwSW C.1 C.2.1 hfl (names := ["java/lang/RuntimeException", "java/lang/Exception"]) C.2.2.2.1 hfit (by decide +kernel) (C.2.2.2.2.1 _ hk) (C.2.2.2.2.1 _ hini) hsa (vx_hat (fun w hw => C.2.2.2.2.1 _ (hat1 w hw)) hat2 (fun w hw => ?_)) hgood K.2.2.2.2.2.1 K.2.2.2.2.2.2 hS (hl.1.trans C.2.2.1.symm) d0 d3 d4 d6 d9 (fun x hx => (hxt x hx).elim) hR.1 hR.2.1 (by simpa using hR.2.2.1) (by simpa using hR.2.2.2) C.2.2.2.2.2.2.2 (fun t hW hz hq => ?_) hS.2.2 (Nat.le_refl _) (Nat.le_refl _)
  · rcases List.mem_cons.mp hw with rfl | hw
    · exact va_any rfl (K.2.2.1 E hE)
    · have h9 := K.2.2.2.1 w hw
      simp only [dcls, List.mem_cons, List.not_mem_nil, or_false] at hw
      rcases hw with rfl | rfl | rfl <;> exact va_any rfl h9
  · refine ⟨rfl, hP.kept (fun k q hk => hq q.1 (hP k q hk).lt), Nat.le_trans hS.1 hz, fun q h1 h2 => ?_⟩
    rw [hq q (Nat.lt_of_lt_of_le h1 hS.1)]
    exact hS.2.1 q h1 h2
/-- ends -/
theorem z_endI {v x : Int32} (h : ZZ p l e R s m args below meth c D n0 N nL cells slots Q σ1 pc ls (some (Value.int x)).toList) (hv : v = x) (hσ : σ = σ1) : ZZ p l e R s m args below meth c D n0 N nL cells slots Q σ pc ls [.int v] := by subst hv; subst hσ; exact h
theorem z_endA {v x : Value} (h : ZZ p l e R s m args below meth c D n0 N nL cells slots Q σ1 pc ls (some x).toList) (hv : v = x) (hσ : σ = σ1) : ZZ p l e R s m args below meth c D n0 N nL cells slots Q σ pc ls [v] := by subst hv; subst hσ; exact h
theorem z_endV (h : ZZ p l e R s m args below meth c D n0 N nL cells slots Q σ1 pc ls (none : Option Value).toList) (hσ : σ = σ1) : ZZ p l e R s m args below meth c D n0 N nL cells slots Q σ pc ls [] := by subst hσ; exact h
/-- the same place, seen with fewer locals and by equal names -/
theorem z_cast {ls' : List (Option Value)} {st' : List Value} (h : ZZ p l e R s m args below meth c D n0 N nL cells slots Q σ1 pc ls' st') (hσ : σ = σ1) (hl : lle ls' ls) (hst : st = st') : ZZ p l e R s m args below meth c D n0 N nL cells slots Q σ pc ls st := by subst hst; subst hσ; exact z_fewer hl h
theorem so_int {x y : Int32} (h : x = y) : (some (Value.int x) : Option Value) = some (Value.int y) := by rw [h]
end CALLS
theorem cv_lt {a b : Nat} (ha : a < 2 ^ 31) (hb : b < 2 ^ 31) (h : nI a < nI b) : a < b := (nI_ltI ha hb).mp h
theorem cv_nlt {a b : Nat} (ha : a < 2 ^ 31) (hb : b < 2 ^ 31) (h : ¬ nI a < nI b) : b ≤ a := Nat.not_lt.mp fun q => h ((nI_ltI ha hb).mpr q)
theorem cv_le {a b : Nat} (ha : a < 2 ^ 31) (hb : b < 2 ^ 31) (h : nI a ≤ nI b) : a ≤ b := (nI_leI ha hb).mp h
theorem cv_nle {a b : Nat} (ha : a < 2 ^ 31) (hb : b < 2 ^ 31) (h : ¬ nI a ≤ nI b) : b < a := Nat.not_le.mp fun q => h ((nI_leI ha hb).mpr q)
theorem cv_eq {a b : Nat} (ha : a < 2 ^ 31) (hb : b < 2 ^ 31) (h : nI a = nI b) : a = b := (nI_eq ha hb).mp h
theorem cv_ne {a b : Nat} (h : ¬ nI a = nI b) : a ≠ b := fun q => h (by rw [q])
theorem cv_rem {a d : Nat} (ha : a < 2 ^ 31) (h0 : 0 < d) (hd : d < 2 ^ 31) : nI a - nI a / nI d * nI d = nI (a % d) := pk_rem ha h0 hd
theorem cv_div {a d : Nat} (ha : a < 2 ^ 31) (h0 : 0 < d) (hd : d < 2 ^ 31) : nI a / nI d = nI (a / d) := pk_div ha h0 hd
theorem cv_add (a b : Nat) : nI a + nI b = nI (a + b) := nI_add a b
theorem cv_mul (a b : Nat) : nI a * nI b = nI (a * b) := pk_mul a b
theorem cv_sub {a b : Nat} (h : b ≤ a) : nI a - nI b = nI (a - b) := pk_sub h
theorem cv_inc (a k : Nat) : nI a + Int32.ofInt (k : Int) = nI (a + k) := by
  have h : Int32.ofInt (k : Int) = nI k := rfl
  rw [h, nI_add]
/-- a loop that counts up -/
theorem z_for {P : Nat → Prop} (n : Nat) (hend : P n) (hstep : ∀ i, i < n → P (i + 1) → P i) : ∀ i, i ≤ n → P i := by
  have h : ∀ d i, i + d = n → P i := by
    intro d
    induction d with
    | zero => intro i hi; rw [Nat.add_zero] at hi; rw [hi]; exact hend
    | succ d ih => intro i hi; exact hstep i (by omega) (ih (i + 1) (by omega))
  intro i hi
  exact h (n - i) i (by omega)
end
section
theorem wd_0 : Cond.selects "ThinExtents" yX4_writeHead yX4_writeHead ∈ tb := tbm 0 (by decide +kernel) rfl
theorem wd_1 : Cond.selects "ThinExtents" yX4_serveQueue yX4_serveQueue ∈ tb := tbm 1 (by decide +kernel) rfl
theorem wd_2 : Cond.selects "ThinExtents" yX4_serveFirst yX4_serveFirst ∈ tb := tbm 2 (by decide +kernel) rfl
theorem wd_3 : Cond.selects "ThinExtents" yX4_isOver yX4_isOver ∈ tb := tbm 3 (by decide +kernel) rfl
theorem wd_4 : Cond.selects "ThinExtents" yX4_needsExtent yX4_needsExtent ∈ tb := tbm 4 (by decide +kernel) rfl
theorem wd_5 : Cond.selects "ThinExtents" yX4_perform yX4_perform ∈ tb := tbm 5 (by decide +kernel) rfl
theorem wd_6 : Cond.selects "ThinExtents" yX4_wordOf yX4_wordOf ∈ tb := tbm 6 (by decide +kernel) rfl
theorem wd_7 : Cond.selects "ThinExtents$Queue" yX1_put yX1_put ∈ tb := tbm 7 (by decide +kernel) rfl
theorem wd_8 : Cond.selects "ThinExtents" yX4_numbered yX4_numbered ∈ tb := tbm 8 (by decide +kernel) rfl
theorem wd_10 : Cond.selects "ThinExtents" yX4_requireSize yX4_requireSize ∈ tb := tbm 10 (by decide +kernel) rfl
theorem wd_11 : Cond.selects "ThinExtents" yX4_existing yX4_existing ∈ tb := tbm 11 (by decide +kernel) rfl
theorem wd_12 : Cond.selects "ThinExtents" yX4_requireNoneWaits yX4_requireNoneWaits ∈ tb := tbm 12 (by decide +kernel) rfl
theorem wd_13 : Cond.selects "ThinExtents" yX4_requireWord yX4_requireWord ∈ tb := tbm 13 (by decide +kernel) rfl
theorem wd_14 : Cond.selects "ThinExtents" yX4_enqueue yX4_enqueue ∈ tb := tbm 14 (by decide +kernel) rfl
theorem wd_15 : Cond.selects "ThinExtents" yX4_writeNeeding yX4_writeNeeding ∈ tb := tbm 15 (by decide +kernel) rfl
theorem wd_16 : Cond.selects "ThinExtents" yX4_requireNotNegative yX4_requireNotNegative ∈ tb := tbm 16 (by decide +kernel) rfl
theorem wd_17 : Cond.selects "ThinExtents" yX4_stateOf yX4_stateOf ∈ tb := tbm 17 (by decide +kernel) rfl
theorem wd_18 : Cond.selects "ThinExtents" yX4_countShared yX4_countShared ∈ tb := tbm 18 (by decide +kernel) rfl
theorem wd_19 : Cond.selects "ThinExtents" yX4_countRuns yX4_countRuns ∈ tb := tbm 19 (by decide +kernel) rfl
theorem wd_20 : Cond.selects "ThinExtents" yX4_sortOf yX4_sortOf ∈ tb := tbm 20 (by decide +kernel) rfl
theorem wd_21 : Cond.selects "ThinExtents" yX4_countSort yX4_countSort ∈ tb := tbm 21 (by decide +kernel) rfl
theorem wd_22 : Cond.selects "ThinExtents" yX4_requireExtent yX4_requireExtent ∈ tb := tbm 22 (by decide +kernel) rfl
theorem wd_23 : Cond.selects "ThinExtentsModel" yX5_isVolume yX5_isVolume ∈ tb := tbm 23 (by decide +kernel) rfl
theorem wd_24 : Cond.selects "ThinExtentsModel" yX5_waits yX5_waits ∈ tb := tbm 24 (by decide +kernel) rfl
theorem wd_25 : Cond.selects "ThinExtentsModel" yX5_enqueue yX5_enqueue ∈ tb := tbm 25 (by decide +kernel) rfl
theorem wd_26 : Cond.selects "ThinExtentsModel" yX5_isOver yX5_isOver ∈ tb := tbm 26 (by decide +kernel) rfl
theorem wd_27 : Cond.selects "ThinExtentsModel" yX5_mapped yX5_mapped ∈ tb := tbm 27 (by decide +kernel) rfl
theorem wd_28 : Cond.selects "ThinExtentsModel" yX5_needs yX5_needs ∈ tb := tbm 28 (by decide +kernel) rfl
theorem wd_29 : Cond.selects "ThinExtentsModel" yX5_isSole yX5_isSole ∈ tb := tbm 29 (by decide +kernel) rfl
theorem wd_30 : Cond.selects "ThinExtentsModel" yX5_usersOf yX5_usersOf ∈ tb := tbm 30 (by decide +kernel) rfl
theorem wd_31 : Cond.selects "ThinExtentsModel" yX5_perform yX5_perform ∈ tb := tbm 31 (by decide +kernel) rfl
theorem wd_32 : Cond.selects "ThinExtentsModel" yX5_take yX5_take ∈ tb := tbm 32 (by decide +kernel) rfl
theorem wd_33 : Cond.selects "ThinExtentsModel" yX5_isFree yX5_isFree ∈ tb := tbm 33 (by decide +kernel) rfl
theorem wd_34 : Cond.selects "ThinExtentsModel" yX5_wordOf yX5_wordOf ∈ tb := tbm 34 (by decide +kernel) rfl
theorem wd_35 : Cond.selects "ThinExtentsModel" yX5_freeMany yX5_freeMany ∈ tb := tbm 35 (by decide +kernel) rfl
theorem wd_36 : Cond.selects "ThinExtentsModel" yX5_volumes yX5_volumes ∈ tb := tbm 36 (by decide +kernel) rfl
theorem wd_37 : Cond.selects "ThinExtentsModel" yX5_copyVolume yX5_copyVolume ∈ tb := tbm 37 (by decide +kernel) rfl
theorem wd_38 : Cond.selects "ThinExtentsModel" yX5_unqueue yX5_unqueue ∈ tb := tbm 38 (by decide +kernel) rfl
theorem wd_39 : Cond.selects "ThinExtentsModel" yX5_drain yX5_drain ∈ tb := tbm 39 (by decide +kernel) rfl
theorem wd_40 : Cond.selects "ThinExtentsModel" yX5_waitsIn yX5_waitsIn ∈ tb := tbm 40 (by decide +kernel) rfl
theorem wd_41 : Cond.selects "ThinExtentsModel" yX5_unmap yX5_unmap ∈ tb := tbm 41 (by decide +kernel) rfl
theorem wd_42 : Cond.selects "ThinExtentsModel" yX5_copy yX5_copy ∈ tb := tbm 42 (by decide +kernel) rfl
theorem wd_43 : Cond.selects "ThinExtentsModel" yX5_clearState yX5_clearState ∈ tb := tbm 43 (by decide +kernel) rfl
theorem wd_44 : Cond.selects "ThinExtentsModel" yX5_sortAt yX5_sortAt ∈ tb := tbm 44 (by decide +kernel) rfl
theorem wd_46 : Cond.initialized "ThinExtents" ∈ tb := tbm 46 (by decide +kernel) rfl
theorem wd_47 : Cond.initialized "ThinExtents$State" ∈ tb := tbm 47 (by decide +kernel) rfl
theorem wd_48 : Cond.initialized "ThinExtents$Volume" ∈ tb := tbm 48 (by decide +kernel) rfl
theorem wd_49 : Cond.initialized "java/util/Arrays" ∈ tb := tbm 49 (by decide +kernel) rfl
theorem wd_50 : Cond.initialized "ThinExtents$Pool" ∈ tb := tbm 50 (by decide +kernel) rfl
theorem wd_51 : Cond.initialized "ThinExtents$Queue" ∈ tb := tbm 51 (by decide +kernel) rfl
theorem wd_52 : Cond.initialized "ThinExtentsModel" ∈ tb := tbm 52 (by decide +kernel) rfl
theorem wd_56 : Cond.initialized "java/lang/IndexOutOfBoundsException" ∈ tb := tbm 56 (by decide +kernel) rfl
theorem wd_57 : Cond.initialized "java/lang/IllegalArgumentException" ∈ tb := tbm 57 (by decide +kernel) rfl
theorem wd_58 : Cond.initialized "java/lang/IllegalStateException" ∈ tb := tbm 58 (by decide +kernel) rfl
theorem wd_81 : Cond.methodLink "ThinExtents$Volume" 15 yJ7_fill_53178 ∈ tb := tbm 81 (by decide +kernel) rfl
theorem wd_82 : Cond.static yJ7_fill_53178 ∈ tb := tbm 82 (by decide +kernel) rfl
theorem wd_83 : Cond.code yJ7_fill_53178 prog_16_method_103_code 4 (Option.none : Option Jvm.ClassFile.FieldType) ∈ tb := tbm 83 (by decide +kernel) rfl
theorem wd_84 : Cond.fieldLink "ThinExtents" 50 "ThinExtents$Volume" "there" "Z" ∈ tb := tbm 84 (by decide +kernel) rfl
theorem wd_85 : Cond.fieldLink "ThinExtents$State" 26 "ThinExtents$Volume" "there" "Z" ∈ tb := tbm 85 (by decide +kernel) rfl
theorem wd_86 : Cond.fieldLink "ThinExtents$Volume" 28 "ThinExtents$Volume" "there" "Z" ∈ tb := tbm 86 (by decide +kernel) rfl
theorem wd_87 : Cond.fieldLink "ThinExtents" 77 "ThinExtents$Volume" "backed" "Z" ∈ tb := tbm 87 (by decide +kernel) rfl
theorem wd_88 : Cond.fieldLink "ThinExtents$State" 34 "ThinExtents$Volume" "backed" "Z" ∈ tb := tbm 88 (by decide +kernel) rfl
theorem wd_89 : Cond.fieldLink "ThinExtents$Volume" 32 "ThinExtents$Volume" "backed" "Z" ∈ tb := tbm 89 (by decide +kernel) rfl
theorem wd_90 : Cond.fieldLink "ThinExtents" 74 "ThinExtents$Volume" "size" "I" ∈ tb := tbm 90 (by decide +kernel) rfl
theorem wd_91 : Cond.fieldLink "ThinExtents$State" 30 "ThinExtents$Volume" "size" "I" ∈ tb := tbm 91 (by decide +kernel) rfl
theorem wd_92 : Cond.fieldLink "ThinExtents$Volume" 35 "ThinExtents$Volume" "size" "I" ∈ tb := tbm 92 (by decide +kernel) rfl
theorem wd_93 : Cond.fieldLink "ThinExtents$Volume" 21 "ThinExtents$Volume" "limit" "I" ∈ tb := tbm 93 (by decide +kernel) rfl
theorem wd_94 : Cond.fieldLink "ThinExtents" 80 "ThinExtents$Volume" "limit" "I" ∈ tb := tbm 94 (by decide +kernel) rfl
theorem wd_95 : Cond.fieldLink "ThinExtents$State" 37 "ThinExtents$Volume" "limit" "I" ∈ tb := tbm 95 (by decide +kernel) rfl
theorem wd_96 : Cond.fieldLink "ThinExtents$Volume" 25 "ThinExtents$Volume" "origin" "I" ∈ tb := tbm 96 (by decide +kernel) rfl
theorem wd_97 : Cond.fieldLink "ThinExtents$State" 40 "ThinExtents$Volume" "origin" "I" ∈ tb := tbm 97 (by decide +kernel) rfl
theorem wd_98 : Cond.fieldLink "ThinExtents" 238 "ThinExtents$Volume" "origin" "I" ∈ tb := tbm 98 (by decide +kernel) rfl
theorem wd_99 : Cond.fieldLink "ThinExtents" 91 "ThinExtents$Volume" "mapped" "I" ∈ tb := tbm 99 (by decide +kernel) rfl
theorem wd_100 : Cond.fieldLink "ThinExtents$Volume" 38 "ThinExtents$Volume" "mapped" "I" ∈ tb := tbm 100 (by decide +kernel) rfl
theorem wd_101 : Cond.fieldLink "ThinExtents$State" 53 "ThinExtents$Volume" "mapped" "I" ∈ tb := tbm 101 (by decide +kernel) rfl
theorem wd_102 : Cond.fieldLink "ThinExtents$Volume" 9 "ThinExtents$Volume" "extents" "[I" ∈ tb := tbm 102 (by decide +kernel) rfl
theorem wd_119 : Cond.fieldLink "ThinExtents$State" 63 "ThinExtents$State" "sign" "I" ∈ tb := tbm 119 (by decide +kernel) rfl
theorem wd_120 : Cond.fieldLink "ThinExtents" 177 "ThinExtents$State" "sign" "I" ∈ tb := tbm 120 (by decide +kernel) rfl
theorem wd_121 : Cond.fieldLink "ThinExtents" 67 "ThinExtents$State" "count" "I" ∈ tb := tbm 121 (by decide +kernel) rfl
theorem wd_122 : Cond.fieldLink "ThinExtents$State" 43 "ThinExtents$State" "count" "I" ∈ tb := tbm 122 (by decide +kernel) rfl
theorem wd_123 : Cond.fieldLink "ThinExtents$State" 11 "ThinExtents$State" "volumes" "[LThinExtents$Volume;" ∈ tb := tbm 123 (by decide +kernel) rfl
theorem wd_124 : Cond.fieldLink "ThinExtents$State" 18 "ThinExtents$State" "uses" "[I" ∈ tb := tbm 124 (by decide +kernel) rfl
theorem wd_140 : Cond.fieldLink "ThinExtents$Pool" 25 "ThinExtents$Pool" "size" "I" ∈ tb := tbm 140 (by decide +kernel) rfl
theorem wd_141 : Cond.fieldLink "ThinExtents" 156 "ThinExtents$Pool" "size" "I" ∈ tb := tbm 141 (by decide +kernel) rfl
theorem wd_142 : Cond.fieldLink "ThinExtents$Pool" 39 "ThinExtents$Pool" "cursor" "I" ∈ tb := tbm 142 (by decide +kernel) rfl
theorem wd_143 : Cond.fieldLink "ThinExtents" 161 "ThinExtents$Pool" "cursor" "I" ∈ tb := tbm 143 (by decide +kernel) rfl
theorem wd_144 : Cond.fieldLink "ThinExtents" 215 "ThinExtents$Pool" "alarmAt" "I" ∈ tb := tbm 144 (by decide +kernel) rfl
theorem wd_145 : Cond.fieldLink "ThinExtents" 268 "ThinExtents$Pool" "alarms" "I" ∈ tb := tbm 145 (by decide +kernel) rfl
theorem wd_146 : Cond.fieldLink "ThinExtents$Pool" 42 "ThinExtents$Pool" "taken" "I" ∈ tb := tbm 146 (by decide +kernel) rfl
theorem wd_147 : Cond.fieldLink "ThinExtents" 271 "ThinExtents$Pool" "taken" "I" ∈ tb := tbm 147 (by decide +kernel) rfl
theorem wd_148 : Cond.fieldLink "ThinExtents$Pool" 9 "ThinExtents$Pool" "live" "LThinExtents$State;" ∈ tb := tbm 148 (by decide +kernel) rfl
theorem wd_149 : Cond.fieldLink "ThinExtents$Pool" 15 "ThinExtents$Pool" "committed" "LThinExtents$State;" ∈ tb := tbm 149 (by decide +kernel) rfl
theorem wd_150 : Cond.fieldLink "ThinExtents$Pool" 18 "ThinExtents$Pool" "held" "LThinExtents$State;" ∈ tb := tbm 150 (by decide +kernel) rfl
theorem wd_151 : Cond.fieldLink "ThinExtents$Pool" 21 "ThinExtents$Pool" "words" "[I" ∈ tb := tbm 151 (by decide +kernel) rfl
theorem wd_177 : Cond.fieldLink "ThinExtents$Queue" 21 "ThinExtents$Queue" "count" "I" ∈ tb := tbm 177 (by decide +kernel) rfl
theorem wd_178 : Cond.fieldLink "ThinExtents" 267 "ThinExtents$Queue" "count" "I" ∈ tb := tbm 178 (by decide +kernel) rfl
theorem wd_179 : Cond.fieldLink "ThinExtents$Queue" 9 "ThinExtents$Queue" "volumes" "[I" ∈ tb := tbm 179 (by decide +kernel) rfl
theorem wd_180 : Cond.fieldLink "ThinExtents$Queue" 15 "ThinExtents$Queue" "words" "[I" ∈ tb := tbm 180 (by decide +kernel) rfl
theorem wd_181 : Cond.fieldLink "ThinExtents$Queue" 18 "ThinExtents$Queue" "values" "[I" ∈ tb := tbm 181 (by decide +kernel) rfl
theorem wd_191 : Cond.fieldLink "ThinExtents" 10 "ThinExtents" "live" "LThinExtents$State;" ∈ tb := tbm 191 (by decide +kernel) rfl
theorem wd_192 : Cond.fieldLink "ThinExtents" 16 "ThinExtents" "committed" "LThinExtents$State;" ∈ tb := tbm 192 (by decide +kernel) rfl
theorem wd_193 : Cond.fieldLink "ThinExtents" 19 "ThinExtents" "held" "LThinExtents$State;" ∈ tb := tbm 193 (by decide +kernel) rfl
theorem wd_194 : Cond.fieldLink "ThinExtents" 27 "ThinExtents" "pool" "LThinExtents$Pool;" ∈ tb := tbm 194 (by decide +kernel) rfl
theorem wd_195 : Cond.fieldLink "ThinExtents" 34 "ThinExtents" "queue" "LThinExtents$Queue;" ∈ tb := tbm 195 (by decide +kernel) rfl
theorem wd_196 : Cond.fieldLink "ThinExtents" 38 "ThinExtents" "backing" "[I" ∈ tb := tbm 196 (by decide +kernel) rfl
theorem wd_197 : Cond.fieldLink "ThinExtents" 200 "ThinExtents" "holding" "Z" ∈ tb := tbm 197 (by decide +kernel) rfl
theorem wd_198 : Cond.fieldLink "ThinExtents" 119 "ThinExtents" "mode" "I" ∈ tb := tbm 198 (by decide +kernel) rfl
theorem wd_199 : Cond.fieldLink "ThinExtents" 210 "ThinExtents" "patienceSet" "I" ∈ tb := tbm 199 (by decide +kernel) rfl
theorem wd_200 : Cond.fieldLink "ThinExtents" 223 "ThinExtents" "failsAt" "I" ∈ tb := tbm 200 (by decide +kernel) rfl
theorem wd_201 : Cond.fieldLink "ThinExtents" 220 "ThinExtents" "now" "I" ∈ tb := tbm 201 (by decide +kernel) rfl
theorem wd_202 : Cond.fieldLink "ThinExtents" 94 "ThinExtents" "failed" "I" ∈ tb := tbm 202 (by decide +kernel) rfl
theorem wd_203 : Cond.fieldLink "ThinExtents" 187 "ThinExtents" "commits" "I" ∈ tb := tbm 203 (by decide +kernel) rfl
theorem wd_231 : Cond.methodLink "ThinExtentsLaw" 135 yX4_mark ∈ tb := tbm 231 (by decide +kernel) rfl
theorem wd_232 : Cond.instanceMethod yX4_mark ∈ tb := tbm 232 (by decide +kernel) rfl
theorem wd_233 : Cond.selects "ThinExtents" yX4_mark yX4_mark ∈ tb := tbm 233 (by decide +kernel) rfl
theorem wd_234 : Cond.code yX4_mark prog_1_method_13_code 3 (Option.some Jvm.ClassFile.FieldType.boolean) ∈ tb := tbm 234 (by decide +kernel) rfl
theorem wd_235 : Cond.methodLink "ThinExtentsLaw" 143 yX4_commit ∈ tb := tbm 235 (by decide +kernel) rfl
theorem wd_236 : Cond.instanceMethod yX4_commit ∈ tb := tbm 236 (by decide +kernel) rfl
theorem wd_237 : Cond.selects "ThinExtents" yX4_commit yX4_commit ∈ tb := tbm 237 (by decide +kernel) rfl
theorem wd_238 : Cond.code yX4_commit prog_1_method_15_code 1 (Option.some Jvm.ClassFile.FieldType.int) ∈ tb := tbm 238 (by decide +kernel) rfl
theorem wd_239 : Cond.methodLink "ThinExtents" 184 yX4_writeHead ∈ tb := tbm 239 (by decide +kernel) rfl
theorem wd_241 : Cond.instanceMethod yX4_writeHead ∈ tb := tbm 241 (by decide +kernel) rfl
theorem wd_242 : Cond.code yX4_writeHead prog_1_method_42_code 1 (Option.none : Option Jvm.ClassFile.FieldType) ∈ tb := tbm 242 (by decide +kernel) rfl
theorem wd_243 : Cond.methodLink "ThinExtents" 192 yX2_copy ∈ tb := tbm 243 (by decide +kernel) rfl
theorem wd_244 : Cond.instanceMethod yX2_copy ∈ tb := tbm 244 (by decide +kernel) rfl
theorem wd_245 : Cond.selects "ThinExtents$State" yX2_copy yX2_copy ∈ tb := tbm 245 (by decide +kernel) rfl
theorem wd_246 : Cond.code yX2_copy prog_4_method_11_code 3 (Option.none : Option Jvm.ClassFile.FieldType) ∈ tb := tbm 246 (by decide +kernel) rfl
theorem wd_247 : Cond.methodLink "ThinExtents$State" 66 yX3_copy ∈ tb := tbm 247 (by decide +kernel) rfl
theorem wd_248 : Cond.instanceMethod yX3_copy ∈ tb := tbm 248 (by decide +kernel) rfl
theorem wd_249 : Cond.selects "ThinExtents$Volume" yX3_copy yX3_copy ∈ tb := tbm 249 (by decide +kernel) rfl
theorem wd_250 : Cond.code yX3_copy prog_5_method_5_code 2 (Option.none : Option Jvm.ClassFile.FieldType) ∈ tb := tbm 250 (by decide +kernel) rfl
theorem wd_255 : Cond.methodLink "ThinExtents" 108 yX4_serveQueue ∈ tb := tbm 255 (by decide +kernel) rfl
theorem wd_257 : Cond.instanceMethod yX4_serveQueue ∈ tb := tbm 257 (by decide +kernel) rfl
theorem wd_258 : Cond.code yX4_serveQueue prog_1_method_43_code 2 (Option.none : Option Jvm.ClassFile.FieldType) ∈ tb := tbm 258 (by decide +kernel) rfl
theorem wd_259 : Cond.methodLink "ThinExtents" 308 yX4_serveFirst ∈ tb := tbm 259 (by decide +kernel) rfl
theorem wd_261 : Cond.instanceMethod yX4_serveFirst ∈ tb := tbm 261 (by decide +kernel) rfl
theorem wd_262 : Cond.code yX4_serveFirst prog_1_method_44_code 3 (Option.some Jvm.ClassFile.FieldType.boolean) ∈ tb := tbm 262 (by decide +kernel) rfl
theorem wd_263 : Cond.methodLink "ThinExtents" 314 yX1_volumeAt ∈ tb := tbm 263 (by decide +kernel) rfl
theorem wd_264 : Cond.instanceMethod yX1_volumeAt ∈ tb := tbm 264 (by decide +kernel) rfl
theorem wd_265 : Cond.selects "ThinExtents$Queue" yX1_volumeAt yX1_volumeAt ∈ tb := tbm 265 (by decide +kernel) rfl
theorem wd_266 : Cond.code yX1_volumeAt prog_3_method_4_code 2 (Option.some Jvm.ClassFile.FieldType.int) ∈ tb := tbm 266 (by decide +kernel) rfl
theorem wd_267 : Cond.methodLink "ThinExtents" 276 yX2_find ∈ tb := tbm 267 (by decide +kernel) rfl
theorem wd_268 : Cond.instanceMethod yX2_find ∈ tb := tbm 268 (by decide +kernel) rfl
theorem wd_269 : Cond.selects "ThinExtents$State" yX2_find yX2_find ∈ tb := tbm 269 (by decide +kernel) rfl
theorem wd_270 : Cond.code yX2_find prog_4_method_3_code 3 (Option.some (Jvm.ClassFile.FieldType.object "ThinExtents$Volume")) ∈ tb := tbm 270 (by decide +kernel) rfl
theorem wd_271 : Cond.methodLink "ThinExtents$State" 22 yX2_slot ∈ tb := tbm 271 (by decide +kernel) rfl
theorem wd_272 : Cond.instanceMethod yX2_slot ∈ tb := tbm 272 (by decide +kernel) rfl
theorem wd_273 : Cond.selects "ThinExtents$State" yX2_slot yX2_slot ∈ tb := tbm 273 (by decide +kernel) rfl
theorem wd_274 : Cond.code yX2_slot prog_4_method_2_code 2 (Option.some (Jvm.ClassFile.FieldType.object "ThinExtents$Volume")) ∈ tb := tbm 274 (by decide +kernel) rfl
theorem wd_275 : Cond.methodLink "ThinExtents" 317 yX1_wordAt ∈ tb := tbm 275 (by decide +kernel) rfl
theorem wd_276 : Cond.instanceMethod yX1_wordAt ∈ tb := tbm 276 (by decide +kernel) rfl
theorem wd_277 : Cond.selects "ThinExtents$Queue" yX1_wordAt yX1_wordAt ∈ tb := tbm 277 (by decide +kernel) rfl
theorem wd_278 : Cond.code yX1_wordAt prog_3_method_5_code 2 (Option.some Jvm.ClassFile.FieldType.int) ∈ tb := tbm 278 (by decide +kernel) rfl
theorem wd_279 : Cond.methodLink "ThinExtents" 137 yX4_isOver ∈ tb := tbm 279 (by decide +kernel) rfl
theorem wd_281 : Cond.instanceMethod yX4_isOver ∈ tb := tbm 281 (by decide +kernel) rfl
theorem wd_282 : Cond.code yX4_isOver prog_1_method_37_code 3 (Option.some Jvm.ClassFile.FieldType.boolean) ∈ tb := tbm 282 (by decide +kernel) rfl
theorem wd_283 : Cond.methodLink "ThinExtents" 83 yX3_extentOf ∈ tb := tbm 283 (by decide +kernel) rfl
theorem wd_284 : Cond.instanceMethod yX3_extentOf ∈ tb := tbm 284 (by decide +kernel) rfl
theorem wd_285 : Cond.selects "ThinExtents$Volume" yX3_extentOf yX3_extentOf ∈ tb := tbm 285 (by decide +kernel) rfl
theorem wd_286 : Cond.code yX3_extentOf prog_5_method_2_code 2 (Option.some Jvm.ClassFile.FieldType.int) ∈ tb := tbm 286 (by decide +kernel) rfl
theorem wd_287 : Cond.methodLink "ThinExtents" 130 yX4_needsExtent ∈ tb := tbm 287 (by decide +kernel) rfl
theorem wd_289 : Cond.instanceMethod yX4_needsExtent ∈ tb := tbm 289 (by decide +kernel) rfl
theorem wd_290 : Cond.code yX4_needsExtent prog_1_method_36_code 3 (Option.some Jvm.ClassFile.FieldType.boolean) ∈ tb := tbm 290 (by decide +kernel) rfl
theorem wd_291 : Cond.methodLink "ThinExtents" 293 yX0_isSole ∈ tb := tbm 291 (by decide +kernel) rfl
theorem wd_292 : Cond.instanceMethod yX0_isSole ∈ tb := tbm 292 (by decide +kernel) rfl
theorem wd_293 : Cond.selects "ThinExtents$Pool" yX0_isSole yX0_isSole ∈ tb := tbm 293 (by decide +kernel) rfl
theorem wd_294 : Cond.code yX0_isSole prog_2_method_3_code 2 (Option.some Jvm.ClassFile.FieldType.boolean) ∈ tb := tbm 294 (by decide +kernel) rfl
theorem wd_295 : Cond.methodLink "ThinExtents$Pool" 29 yX2_usesOf ∈ tb := tbm 295 (by decide +kernel) rfl
theorem wd_296 : Cond.instanceMethod yX2_usesOf ∈ tb := tbm 296 (by decide +kernel) rfl
theorem wd_297 : Cond.selects "ThinExtents$State" yX2_usesOf yX2_usesOf ∈ tb := tbm 297 (by decide +kernel) rfl
theorem wd_298 : Cond.code yX2_usesOf prog_4_method_6_code 2 (Option.some Jvm.ClassFile.FieldType.int) ∈ tb := tbm 298 (by decide +kernel) rfl
theorem wd_299 : Cond.methodLink "ThinExtents" 264 yX0_countFree ∈ tb := tbm 299 (by decide +kernel) rfl
theorem wd_300 : Cond.instanceMethod yX0_countFree ∈ tb := tbm 300 (by decide +kernel) rfl
theorem wd_301 : Cond.selects "ThinExtents$Pool" yX0_countFree yX0_countFree ∈ tb := tbm 301 (by decide +kernel) rfl
theorem wd_302 : Cond.code yX0_countFree prog_2_method_5_code 3 (Option.some Jvm.ClassFile.FieldType.int) ∈ tb := tbm 302 (by decide +kernel) rfl
theorem wd_303 : Cond.methodLink "ThinExtents$Pool" 35 yX0_isFree ∈ tb := tbm 303 (by decide +kernel) rfl
theorem wd_304 : Cond.instanceMethod yX0_isFree ∈ tb := tbm 304 (by decide +kernel) rfl
theorem wd_305 : Cond.selects "ThinExtents$Pool" yX0_isFree yX0_isFree ∈ tb := tbm 305 (by decide +kernel) rfl
theorem wd_306 : Cond.code yX0_isFree prog_2_method_2_code 2 (Option.some Jvm.ClassFile.FieldType.boolean) ∈ tb := tbm 306 (by decide +kernel) rfl
theorem wd_307 : Cond.methodLink "ThinExtents" 319 yX1_valueAt ∈ tb := tbm 307 (by decide +kernel) rfl
theorem wd_308 : Cond.instanceMethod yX1_valueAt ∈ tb := tbm 308 (by decide +kernel) rfl
theorem wd_309 : Cond.selects "ThinExtents$Queue" yX1_valueAt yX1_valueAt ∈ tb := tbm 309 (by decide +kernel) rfl
theorem wd_310 : Cond.code yX1_valueAt prog_3_method_6_code 2 (Option.some Jvm.ClassFile.FieldType.int) ∈ tb := tbm 310 (by decide +kernel) rfl
theorem wd_311 : Cond.methodLink "ThinExtents" 134 yX4_perform ∈ tb := tbm 311 (by decide +kernel) rfl
theorem wd_313 : Cond.instanceMethod yX4_perform ∈ tb := tbm 313 (by decide +kernel) rfl
theorem wd_314 : Cond.code yX4_perform prog_1_method_40_code 8 (Option.some Jvm.ClassFile.FieldType.int) ∈ tb := tbm 314 (by decide +kernel) rfl
theorem wd_315 : Cond.methodLink "ThinExtents" 299 yX0_setWord ∈ tb := tbm 315 (by decide +kernel) rfl
theorem wd_316 : Cond.instanceMethod yX0_setWord ∈ tb := tbm 316 (by decide +kernel) rfl
theorem wd_317 : Cond.selects "ThinExtents$Pool" yX0_setWord yX0_setWord ∈ tb := tbm 317 (by decide +kernel) rfl
theorem wd_318 : Cond.code yX0_setWord prog_2_method_8_code 5 (Option.none : Option Jvm.ClassFile.FieldType) ∈ tb := tbm 318 (by decide +kernel) rfl
theorem wd_319 : Cond.methodLink "ThinExtents" 302 yX0_take ∈ tb := tbm 319 (by decide +kernel) rfl
theorem wd_320 : Cond.instanceMethod yX0_take ∈ tb := tbm 320 (by decide +kernel) rfl
theorem wd_321 : Cond.selects "ThinExtents$Pool" yX0_take yX0_take ∈ tb := tbm 321 (by decide +kernel) rfl
theorem wd_322 : Cond.code yX0_take prog_2_method_6_code 4 (Option.some Jvm.ClassFile.FieldType.int) ∈ tb := tbm 322 (by decide +kernel) rfl
theorem wd_323 : Cond.methodLink "ThinExtents" 144 yX4_wordOf ∈ tb := tbm 323 (by decide +kernel) rfl
theorem wd_325 : Cond.instanceMethod yX4_wordOf ∈ tb := tbm 325 (by decide +kernel) rfl
theorem wd_326 : Cond.code yX4_wordOf prog_1_method_41_code 4 (Option.some Jvm.ClassFile.FieldType.int) ∈ tb := tbm 326 (by decide +kernel) rfl
theorem wd_327 : Cond.methodLink "ThinExtents" 305 yX0_wordAt ∈ tb := tbm 327 (by decide +kernel) rfl
theorem wd_328 : Cond.instanceMethod yX0_wordAt ∈ tb := tbm 328 (by decide +kernel) rfl
theorem wd_329 : Cond.selects "ThinExtents$Pool" yX0_wordAt yX0_wordAt ∈ tb := tbm 329 (by decide +kernel) rfl
theorem wd_330 : Cond.code yX0_wordAt prog_2_method_7_code 4 (Option.some Jvm.ClassFile.FieldType.int) ∈ tb := tbm 330 (by decide +kernel) rfl
theorem wd_331 : Cond.methodLink "ThinExtents" 87 yX2_setExtent ∈ tb := tbm 331 (by decide +kernel) rfl
theorem wd_332 : Cond.instanceMethod yX2_setExtent ∈ tb := tbm 332 (by decide +kernel) rfl
theorem wd_333 : Cond.selects "ThinExtents$State" yX2_setExtent yX2_setExtent ∈ tb := tbm 333 (by decide +kernel) rfl
theorem wd_334 : Cond.code yX2_setExtent prog_4_method_7_code 5 (Option.none : Option Jvm.ClassFile.FieldType) ∈ tb := tbm 334 (by decide +kernel) rfl
theorem wd_335 : Cond.methodLink "ThinExtents$State" 49 yX3_extentOf ∈ tb := tbm 335 (by decide +kernel) rfl
theorem wd_336 : Cond.methodLink "ThinExtents$State" 56 yX3_setExtent ∈ tb := tbm 336 (by decide +kernel) rfl
theorem wd_337 : Cond.instanceMethod yX3_setExtent ∈ tb := tbm 337 (by decide +kernel) rfl
theorem wd_338 : Cond.selects "ThinExtents$Volume" yX3_setExtent yX3_setExtent ∈ tb := tbm 338 (by decide +kernel) rfl
theorem wd_339 : Cond.code yX3_setExtent prog_5_method_3_code 3 (Option.none : Option Jvm.ClassFile.FieldType) ∈ tb := tbm 339 (by decide +kernel) rfl
theorem wd_340 : Cond.methodLink "ThinExtents" 311 yX1_removeFirst ∈ tb := tbm 340 (by decide +kernel) rfl
theorem wd_341 : Cond.instanceMethod yX1_removeFirst ∈ tb := tbm 341 (by decide +kernel) rfl
theorem wd_342 : Cond.selects "ThinExtents$Queue" yX1_removeFirst yX1_removeFirst ∈ tb := tbm 342 (by decide +kernel) rfl
theorem wd_343 : Cond.code yX1_removeFirst prog_3_method_9_code 2 (Option.none : Option Jvm.ClassFile.FieldType) ∈ tb := tbm 343 (by decide +kernel) rfl
theorem wd_344 : Cond.methodLink "ThinExtents$Queue" 33 yX1_volumeAt ∈ tb := tbm 344 (by decide +kernel) rfl
theorem wd_345 : Cond.methodLink "ThinExtents$Queue" 29 yX1_wordAt ∈ tb := tbm 345 (by decide +kernel) rfl
theorem wd_346 : Cond.methodLink "ThinExtents$Queue" 36 yX1_valueAt ∈ tb := tbm 346 (by decide +kernel) rfl
theorem wd_347 : Cond.methodLink "ThinExtents$Queue" 25 yX1_put ∈ tb := tbm 347 (by decide +kernel) rfl
theorem wd_349 : Cond.instanceMethod yX1_put ∈ tb := tbm 349 (by decide +kernel) rfl
theorem wd_350 : Cond.code yX1_put prog_3_method_3_code 5 (Option.none : Option Jvm.ClassFile.FieldType) ∈ tb := tbm 350 (by decide +kernel) rfl
theorem wd_351 : Cond.methodLink "ThinExtentsLaw" 154 yX4_release ∈ tb := tbm 351 (by decide +kernel) rfl
theorem wd_352 : Cond.instanceMethod yX4_release ∈ tb := tbm 352 (by decide +kernel) rfl
theorem wd_353 : Cond.selects "ThinExtents" yX4_release yX4_release ∈ tb := tbm 353 (by decide +kernel) rfl
theorem wd_354 : Cond.code yX4_release prog_1_method_18_code 2 (Option.some Jvm.ClassFile.FieldType.boolean) ∈ tb := tbm 354 (by decide +kernel) rfl
theorem wd_355 : Cond.methodLink "ThinExtents" 205 yX2_clear ∈ tb := tbm 355 (by decide +kernel) rfl
theorem wd_356 : Cond.instanceMethod yX2_clear ∈ tb := tbm 356 (by decide +kernel) rfl
theorem wd_357 : Cond.selects "ThinExtents$State" yX2_clear yX2_clear ∈ tb := tbm 357 (by decide +kernel) rfl
theorem wd_358 : Cond.code yX2_clear prog_4_method_12_code 5 (Option.none : Option Jvm.ClassFile.FieldType) ∈ tb := tbm 358 (by decide +kernel) rfl
theorem wd_359 : Cond.methodLink "ThinExtents$State" 46 yX3_clear ∈ tb := tbm 359 (by decide +kernel) rfl
theorem wd_360 : Cond.instanceMethod yX3_clear ∈ tb := tbm 360 (by decide +kernel) rfl
theorem wd_361 : Cond.selects "ThinExtents$Volume" yX3_clear yX3_clear ∈ tb := tbm 361 (by decide +kernel) rfl
theorem wd_362 : Cond.code yX3_clear prog_5_method_6_code 1 (Option.none : Option Jvm.ClassFile.FieldType) ∈ tb := tbm 362 (by decide +kernel) rfl
theorem wd_363 : Cond.methodLink "ThinExtents$State" 76 yJ7_fill_53178 ∈ tb := tbm 363 (by decide +kernel) rfl
theorem wd_370 : Cond.methodLink "ThinExtentsLaw" 7 yX4_make ∈ tb := tbm 370 (by decide +kernel) rfl
theorem wd_371 : Cond.instanceMethod yX4_make ∈ tb := tbm 371 (by decide +kernel) rfl
theorem wd_372 : Cond.selects "ThinExtents" yX4_make yX4_make ∈ tb := tbm 372 (by decide +kernel) rfl
theorem wd_373 : Cond.code yX4_make prog_1_method_2_code 5 (Option.some Jvm.ClassFile.FieldType.int) ∈ tb := tbm 373 (by decide +kernel) rfl
theorem wd_374 : Cond.methodLink "ThinExtents" 42 yX4_numbered ∈ tb := tbm 374 (by decide +kernel) rfl
theorem wd_376 : Cond.instanceMethod yX4_numbered ∈ tb := tbm 376 (by decide +kernel) rfl
theorem wd_377 : Cond.code yX4_numbered prog_1_method_28_code 3 (Option.some (Jvm.ClassFile.FieldType.object "ThinExtents$Volume")) ∈ tb := tbm 377 (by decide +kernel) rfl
theorem wd_378 : Cond.methodLink "ThinExtents" 226 yX2_slot ∈ tb := tbm 378 (by decide +kernel) rfl
theorem wd_379 : Cond.classLink "ThinExtents" 148 "java/lang/IndexOutOfBoundsException" ∈ tb := tbm 379 (by decide +kernel) rfl
theorem wd_447 : Cond.methodLink "ThinExtents" 46 yX4_requireSize ∈ tb := tbm 447 (by decide +kernel) rfl
theorem wd_449 : Cond.instanceMethod yX4_requireSize ∈ tb := tbm 449 (by decide +kernel) rfl
theorem wd_450 : Cond.code yX4_requireSize prog_1_method_30_code 2 (Option.none : Option Jvm.ClassFile.FieldType) ∈ tb := tbm 450 (by decide +kernel) rfl
theorem wd_451 : Cond.classLink "ThinExtents" 172 "java/lang/IllegalArgumentException" ∈ tb := tbm 451 (by decide +kernel) rfl
theorem wd_467 : Cond.classLink "ThinExtents" 56 "java/lang/IllegalStateException" ∈ tb := tbm 467 (by decide +kernel) rfl
theorem wd_483 : Cond.methodLink "ThinExtents" 63 yX2_add ∈ tb := tbm 483 (by decide +kernel) rfl
theorem wd_484 : Cond.instanceMethod yX2_add ∈ tb := tbm 484 (by decide +kernel) rfl
theorem wd_485 : Cond.selects "ThinExtents$State" yX2_add yX2_add ∈ tb := tbm 485 (by decide +kernel) rfl
theorem wd_486 : Cond.code yX2_add prog_4_method_4_code 6 (Option.none : Option Jvm.ClassFile.FieldType) ∈ tb := tbm 486 (by decide +kernel) rfl
theorem wd_490 : Cond.methodLink "ThinExtentsLaw" 19 yX4_snap ∈ tb := tbm 490 (by decide +kernel) rfl
theorem wd_491 : Cond.instanceMethod yX4_snap ∈ tb := tbm 491 (by decide +kernel) rfl
theorem wd_492 : Cond.selects "ThinExtents" yX4_snap yX4_snap ∈ tb := tbm 492 (by decide +kernel) rfl
theorem wd_493 : Cond.code yX4_snap prog_1_method_3_code 6 (Option.some Jvm.ClassFile.FieldType.int) ∈ tb := tbm 493 (by decide +kernel) rfl
theorem wd_494 : Cond.methodLink "ThinExtents" 71 yX4_existing ∈ tb := tbm 494 (by decide +kernel) rfl
theorem wd_496 : Cond.instanceMethod yX4_existing ∈ tb := tbm 496 (by decide +kernel) rfl
theorem wd_497 : Cond.code yX4_existing prog_1_method_29_code 3 (Option.some (Jvm.ClassFile.FieldType.object "ThinExtents$Volume")) ∈ tb := tbm 497 (by decide +kernel) rfl
theorem wd_502 : Cond.methodLink "ThinExtentsLaw" 23 yX4_drop ∈ tb := tbm 502 (by decide +kernel) rfl
theorem wd_503 : Cond.instanceMethod yX4_drop ∈ tb := tbm 503 (by decide +kernel) rfl
theorem wd_504 : Cond.selects "ThinExtents" yX4_drop yX4_drop ∈ tb := tbm 504 (by decide +kernel) rfl
theorem wd_505 : Cond.code yX4_drop prog_1_method_4_code 4 (Option.some Jvm.ClassFile.FieldType.int) ∈ tb := tbm 505 (by decide +kernel) rfl
theorem wd_506 : Cond.methodLink "ThinExtents" 97 yX1_removeAllOf ∈ tb := tbm 506 (by decide +kernel) rfl
theorem wd_507 : Cond.instanceMethod yX1_removeAllOf ∈ tb := tbm 507 (by decide +kernel) rfl
theorem wd_508 : Cond.selects "ThinExtents$Queue" yX1_removeAllOf yX1_removeAllOf ∈ tb := tbm 508 (by decide +kernel) rfl
theorem wd_509 : Cond.code yX1_removeAllOf prog_3_method_10_code 4 (Option.some Jvm.ClassFile.FieldType.int) ∈ tb := tbm 509 (by decide +kernel) rfl
theorem wd_510 : Cond.methodLink "ThinExtents" 100 yX2_unmap ∈ tb := tbm 510 (by decide +kernel) rfl
theorem wd_511 : Cond.instanceMethod yX2_unmap ∈ tb := tbm 511 (by decide +kernel) rfl
theorem wd_512 : Cond.selects "ThinExtents$State" yX2_unmap yX2_unmap ∈ tb := tbm 512 (by decide +kernel) rfl
theorem wd_513 : Cond.code yX2_unmap prog_4_method_8_code 6 (Option.some Jvm.ClassFile.FieldType.int) ∈ tb := tbm 513 (by decide +kernel) rfl
theorem wd_514 : Cond.methodLink "ThinExtents$State" 60 yX2_setExtent ∈ tb := tbm 514 (by decide +kernel) rfl
theorem wd_515 : Cond.methodLink "ThinExtents" 104 yX2_remove ∈ tb := tbm 515 (by decide +kernel) rfl
theorem wd_516 : Cond.instanceMethod yX2_remove ∈ tb := tbm 516 (by decide +kernel) rfl
theorem wd_517 : Cond.selects "ThinExtents$State" yX2_remove yX2_remove ∈ tb := tbm 517 (by decide +kernel) rfl
theorem wd_518 : Cond.code yX2_remove prog_4_method_5_code 2 (Option.none : Option Jvm.ClassFile.FieldType) ∈ tb := tbm 518 (by decide +kernel) rfl
theorem wd_522 : Cond.methodLink "ThinExtentsLaw" 27 yX4_resize ∈ tb := tbm 522 (by decide +kernel) rfl
theorem wd_523 : Cond.instanceMethod yX4_resize ∈ tb := tbm 523 (by decide +kernel) rfl
theorem wd_524 : Cond.selects "ThinExtents" yX4_resize yX4_resize ∈ tb := tbm 524 (by decide +kernel) rfl
theorem wd_525 : Cond.code yX4_resize prog_1_method_5_code 5 (Option.some Jvm.ClassFile.FieldType.int) ∈ tb := tbm 525 (by decide +kernel) rfl
theorem wd_526 : Cond.methodLink "ThinExtents" 111 yX4_requireNoneWaits ∈ tb := tbm 526 (by decide +kernel) rfl
theorem wd_528 : Cond.instanceMethod yX4_requireNoneWaits ∈ tb := tbm 528 (by decide +kernel) rfl
theorem wd_529 : Cond.code yX4_requireNoneWaits prog_1_method_32_code 4 (Option.none : Option Jvm.ClassFile.FieldType) ∈ tb := tbm 529 (by decide +kernel) rfl
theorem wd_530 : Cond.methodLink "ThinExtents" 122 yX1_waitsIn ∈ tb := tbm 530 (by decide +kernel) rfl
theorem wd_531 : Cond.instanceMethod yX1_waitsIn ∈ tb := tbm 531 (by decide +kernel) rfl
theorem wd_532 : Cond.selects "ThinExtents$Queue" yX1_waitsIn yX1_waitsIn ∈ tb := tbm 532 (by decide +kernel) rfl
theorem wd_533 : Cond.code yX1_waitsIn prog_3_method_7_code 6 (Option.some Jvm.ClassFile.FieldType.boolean) ∈ tb := tbm 533 (by decide +kernel) rfl
theorem wd_538 : Cond.methodLink "ThinExtentsLaw" 30 yX4_write ∈ tb := tbm 538 (by decide +kernel) rfl
theorem wd_539 : Cond.instanceMethod yX4_write ∈ tb := tbm 539 (by decide +kernel) rfl
theorem wd_540 : Cond.selects "ThinExtents" yX4_write yX4_write ∈ tb := tbm 540 (by decide +kernel) rfl
theorem wd_541 : Cond.code yX4_write prog_1_method_6_code 6 (Option.some Jvm.ClassFile.FieldType.int) ∈ tb := tbm 541 (by decide +kernel) rfl
theorem wd_542 : Cond.methodLink "ThinExtents" 115 yX4_requireWord ∈ tb := tbm 542 (by decide +kernel) rfl
theorem wd_544 : Cond.instanceMethod yX4_requireWord ∈ tb := tbm 544 (by decide +kernel) rfl
theorem wd_545 : Cond.code yX4_requireWord prog_1_method_31_code 3 (Option.none : Option Jvm.ClassFile.FieldType) ∈ tb := tbm 545 (by decide +kernel) rfl
theorem wd_547 : Cond.methodLink "ThinExtents" 126 yX4_enqueue ∈ tb := tbm 547 (by decide +kernel) rfl
theorem wd_549 : Cond.instanceMethod yX4_enqueue ∈ tb := tbm 549 (by decide +kernel) rfl
theorem wd_550 : Cond.code yX4_enqueue prog_1_method_39_code 4 (Option.some Jvm.ClassFile.FieldType.int) ∈ tb := tbm 550 (by decide +kernel) rfl
theorem wd_551 : Cond.methodLink "ThinExtents" 297 yX1_add ∈ tb := tbm 551 (by decide +kernel) rfl
theorem wd_552 : Cond.instanceMethod yX1_add ∈ tb := tbm 552 (by decide +kernel) rfl
theorem wd_553 : Cond.selects "ThinExtents$Queue" yX1_add yX1_add ∈ tb := tbm 553 (by decide +kernel) rfl
theorem wd_554 : Cond.code yX1_add prog_3_method_2_code 4 (Option.some Jvm.ClassFile.FieldType.boolean) ∈ tb := tbm 554 (by decide +kernel) rfl
theorem wd_555 : Cond.methodLink "ThinExtents" 140 yX4_writeNeeding ∈ tb := tbm 555 (by decide +kernel) rfl
theorem wd_557 : Cond.instanceMethod yX4_writeNeeding ∈ tb := tbm 557 (by decide +kernel) rfl
theorem wd_558 : Cond.code yX4_writeNeeding prog_1_method_38_code 5 (Option.some Jvm.ClassFile.FieldType.int) ∈ tb := tbm 558 (by decide +kernel) rfl
theorem wd_562 : Cond.methodLink "ThinExtentsLaw" 34 yX4_read ∈ tb := tbm 562 (by decide +kernel) rfl
theorem wd_563 : Cond.instanceMethod yX4_read ∈ tb := tbm 563 (by decide +kernel) rfl
theorem wd_564 : Cond.selects "ThinExtents" yX4_read yX4_read ∈ tb := tbm 564 (by decide +kernel) rfl
theorem wd_565 : Cond.code yX4_read prog_1_method_7_code 4 (Option.some Jvm.ClassFile.FieldType.int) ∈ tb := tbm 565 (by decide +kernel) rfl
theorem wd_569 : Cond.methodLink "ThinExtentsLaw" 37 yX4_discard ∈ tb := tbm 569 (by decide +kernel) rfl
theorem wd_570 : Cond.instanceMethod yX4_discard ∈ tb := tbm 570 (by decide +kernel) rfl
theorem wd_571 : Cond.selects "ThinExtents" yX4_discard yX4_discard ∈ tb := tbm 571 (by decide +kernel) rfl
theorem wd_572 : Cond.code yX4_discard prog_1_method_8_code 6 (Option.some Jvm.ClassFile.FieldType.int) ∈ tb := tbm 572 (by decide +kernel) rfl
theorem wd_577 : Cond.methodLink "ThinExtentsLaw" 40 yX4_grow ∈ tb := tbm 577 (by decide +kernel) rfl
theorem wd_578 : Cond.instanceMethod yX4_grow ∈ tb := tbm 578 (by decide +kernel) rfl
theorem wd_579 : Cond.selects "ThinExtents" yX4_grow yX4_grow ∈ tb := tbm 579 (by decide +kernel) rfl
theorem wd_580 : Cond.code yX4_grow prog_1_method_9_code 2 (Option.some Jvm.ClassFile.FieldType.int) ∈ tb := tbm 580 (by decide +kernel) rfl
theorem wd_581 : Cond.methodLink "ThinExtents" 153 yX4_requireNotNegative ∈ tb := tbm 581 (by decide +kernel) rfl
theorem wd_583 : Cond.instanceMethod yX4_requireNotNegative ∈ tb := tbm 583 (by decide +kernel) rfl
theorem wd_584 : Cond.code yX4_requireNotNegative prog_1_method_33_code 2 (Option.none : Option Jvm.ClassFile.FieldType) ∈ tb := tbm 584 (by decide +kernel) rfl
theorem wd_589 : Cond.methodLink "ThinExtentsLaw" 43 yX4_shrink ∈ tb := tbm 589 (by decide +kernel) rfl
theorem wd_590 : Cond.instanceMethod yX4_shrink ∈ tb := tbm 590 (by decide +kernel) rfl
theorem wd_591 : Cond.selects "ThinExtents" yX4_shrink yX4_shrink ∈ tb := tbm 591 (by decide +kernel) rfl
theorem wd_592 : Cond.code yX4_shrink prog_1_method_10_code 2 (Option.some Jvm.ClassFile.FieldType.int) ∈ tb := tbm 592 (by decide +kernel) rfl
theorem wd_593 : Cond.methodLink "ThinExtents" 157 yX0_areFree ∈ tb := tbm 593 (by decide +kernel) rfl
theorem wd_594 : Cond.instanceMethod yX0_areFree ∈ tb := tbm 594 (by decide +kernel) rfl
theorem wd_595 : Cond.selects "ThinExtents$Pool" yX0_areFree yX0_areFree ∈ tb := tbm 595 (by decide +kernel) rfl
theorem wd_596 : Cond.code yX0_areFree prog_2_method_4_code 4 (Option.some Jvm.ClassFile.FieldType.boolean) ∈ tb := tbm 596 (by decide +kernel) rfl
theorem wd_600 : Cond.methodLink "ThinExtentsLaw" 46 yX4_back ∈ tb := tbm 600 (by decide +kernel) rfl
theorem wd_601 : Cond.instanceMethod yX4_back ∈ tb := tbm 601 (by decide +kernel) rfl
theorem wd_602 : Cond.selects "ThinExtents" yX4_back yX4_back ∈ tb := tbm 602 (by decide +kernel) rfl
theorem wd_603 : Cond.code yX4_back prog_1_method_11_code 4 (Option.some Jvm.ClassFile.FieldType.int) ∈ tb := tbm 603 (by decide +kernel) rfl
theorem wd_605 : Cond.methodLink "ThinExtents" 166 yX2_hasBacked ∈ tb := tbm 605 (by decide +kernel) rfl
theorem wd_606 : Cond.instanceMethod yX2_hasBacked ∈ tb := tbm 606 (by decide +kernel) rfl
theorem wd_607 : Cond.selects "ThinExtents$State" yX2_hasBacked yX2_hasBacked ∈ tb := tbm 607 (by decide +kernel) rfl
theorem wd_608 : Cond.code yX2_hasBacked prog_4_method_10_code 5 (Option.some Jvm.ClassFile.FieldType.boolean) ∈ tb := tbm 608 (by decide +kernel) rfl
theorem wd_613 : Cond.methodLink "ThinExtentsLaw" 49 yX4_quota ∈ tb := tbm 613 (by decide +kernel) rfl
theorem wd_614 : Cond.instanceMethod yX4_quota ∈ tb := tbm 614 (by decide +kernel) rfl
theorem wd_615 : Cond.selects "ThinExtents" yX4_quota yX4_quota ∈ tb := tbm 615 (by decide +kernel) rfl
theorem wd_616 : Cond.code yX4_quota prog_1_method_12_code 5 (Option.some Jvm.ClassFile.FieldType.int) ∈ tb := tbm 616 (by decide +kernel) rfl
theorem wd_621 : Cond.methodLink "ThinExtentsLaw" 52 yX4_marked ∈ tb := tbm 621 (by decide +kernel) rfl
theorem wd_622 : Cond.instanceMethod yX4_marked ∈ tb := tbm 622 (by decide +kernel) rfl
theorem wd_623 : Cond.selects "ThinExtents" yX4_marked yX4_marked ∈ tb := tbm 623 (by decide +kernel) rfl
theorem wd_624 : Cond.code yX4_marked prog_1_method_14_code 2 (Option.some Jvm.ClassFile.FieldType.int) ∈ tb := tbm 624 (by decide +kernel) rfl
theorem wd_625 : Cond.methodLink "ThinExtents" 180 yX4_stateOf ∈ tb := tbm 625 (by decide +kernel) rfl
theorem wd_627 : Cond.instanceMethod yX4_stateOf ∈ tb := tbm 627 (by decide +kernel) rfl
theorem wd_628 : Cond.code yX4_stateOf prog_1_method_35_code 2 (Option.some (Jvm.ClassFile.FieldType.object "ThinExtents$State")) ∈ tb := tbm 628 (by decide +kernel) rfl
theorem wd_633 : Cond.methodLink "ThinExtentsLaw" 55 yX4_cut ∈ tb := tbm 633 (by decide +kernel) rfl
theorem wd_634 : Cond.instanceMethod yX4_cut ∈ tb := tbm 634 (by decide +kernel) rfl
theorem wd_635 : Cond.selects "ThinExtents" yX4_cut yX4_cut ∈ tb := tbm 635 (by decide +kernel) rfl
theorem wd_636 : Cond.code yX4_cut prog_1_method_16_code 2 (Option.some Jvm.ClassFile.FieldType.int) ∈ tb := tbm 636 (by decide +kernel) rfl
theorem wd_638 : Cond.methodLink "ThinExtents" 196 yX1_removeAll ∈ tb := tbm 638 (by decide +kernel) rfl
theorem wd_639 : Cond.instanceMethod yX1_removeAll ∈ tb := tbm 639 (by decide +kernel) rfl
theorem wd_640 : Cond.selects "ThinExtents$Queue" yX1_removeAll yX1_removeAll ∈ tb := tbm 640 (by decide +kernel) rfl
theorem wd_641 : Cond.code yX1_removeAll prog_3_method_11_code 2 (Option.some Jvm.ClassFile.FieldType.int) ∈ tb := tbm 641 (by decide +kernel) rfl
theorem wd_645 : Cond.methodLink "ThinExtentsLaw" 58 yX4_hold ∈ tb := tbm 645 (by decide +kernel) rfl
theorem wd_646 : Cond.instanceMethod yX4_hold ∈ tb := tbm 646 (by decide +kernel) rfl
theorem wd_647 : Cond.selects "ThinExtents" yX4_hold yX4_hold ∈ tb := tbm 647 (by decide +kernel) rfl
theorem wd_648 : Cond.code yX4_hold prog_1_method_17_code 1 (Option.some Jvm.ClassFile.FieldType.int) ∈ tb := tbm 648 (by decide +kernel) rfl
theorem wd_653 : Cond.methodLink "ThinExtentsLaw" 62 yX4_patience ∈ tb := tbm 653 (by decide +kernel) rfl
theorem wd_654 : Cond.instanceMethod yX4_patience ∈ tb := tbm 654 (by decide +kernel) rfl
theorem wd_655 : Cond.selects "ThinExtents" yX4_patience yX4_patience ∈ tb := tbm 655 (by decide +kernel) rfl
theorem wd_656 : Cond.code yX4_patience prog_1_method_19_code 3 (Option.some Jvm.ClassFile.FieldType.int) ∈ tb := tbm 656 (by decide +kernel) rfl
theorem wd_661 : Cond.methodLink "ThinExtentsLaw" 65 yX4_alarm ∈ tb := tbm 661 (by decide +kernel) rfl
theorem wd_662 : Cond.instanceMethod yX4_alarm ∈ tb := tbm 662 (by decide +kernel) rfl
theorem wd_663 : Cond.selects "ThinExtents" yX4_alarm yX4_alarm ∈ tb := tbm 663 (by decide +kernel) rfl
theorem wd_664 : Cond.code yX4_alarm prog_1_method_20_code 3 (Option.some Jvm.ClassFile.FieldType.int) ∈ tb := tbm 664 (by decide +kernel) rfl
theorem wd_669 : Cond.methodLink "ThinExtentsLaw" 68 yX4_tick ∈ tb := tbm 669 (by decide +kernel) rfl
theorem wd_670 : Cond.instanceMethod yX4_tick ∈ tb := tbm 670 (by decide +kernel) rfl
theorem wd_671 : Cond.selects "ThinExtents" yX4_tick yX4_tick ∈ tb := tbm 671 (by decide +kernel) rfl
theorem wd_672 : Cond.code yX4_tick prog_1_method_21_code 3 (Option.some Jvm.ClassFile.FieldType.int) ∈ tb := tbm 672 (by decide +kernel) rfl
theorem wd_677 : Cond.methodLink "ThinExtentsLaw" 71 yX4_map ∈ tb := tbm 677 (by decide +kernel) rfl
theorem wd_678 : Cond.instanceMethod yX4_map ∈ tb := tbm 678 (by decide +kernel) rfl
theorem wd_679 : Cond.selects "ThinExtents" yX4_map yX4_map ∈ tb := tbm 679 (by decide +kernel) rfl
theorem wd_680 : Cond.code yX4_map prog_1_method_22_code 6 (Option.some Jvm.ClassFile.FieldType.int) ∈ tb := tbm 680 (by decide +kernel) rfl
theorem wd_685 : Cond.methodLink "ThinExtentsLaw" 74 yX4_volume ∈ tb := tbm 685 (by decide +kernel) rfl
theorem wd_686 : Cond.instanceMethod yX4_volume ∈ tb := tbm 686 (by decide +kernel) rfl
theorem wd_687 : Cond.selects "ThinExtents" yX4_volume yX4_volume ∈ tb := tbm 687 (by decide +kernel) rfl
theorem wd_688 : Cond.code yX4_volume prog_1_method_23_code 4 (Option.some Jvm.ClassFile.FieldType.int) ∈ tb := tbm 688 (by decide +kernel) rfl
theorem wd_689 : Cond.methodLink "ThinExtents" 231 yX3_lastMapped ∈ tb := tbm 689 (by decide +kernel) rfl
theorem wd_690 : Cond.instanceMethod yX3_lastMapped ∈ tb := tbm 690 (by decide +kernel) rfl
theorem wd_691 : Cond.selects "ThinExtents$Volume" yX3_lastMapped yX3_lastMapped ∈ tb := tbm 691 (by decide +kernel) rfl
theorem wd_692 : Cond.code yX3_lastMapped prog_5_method_4_code 2 (Option.some Jvm.ClassFile.FieldType.int) ∈ tb := tbm 692 (by decide +kernel) rfl
theorem wd_693 : Cond.methodLink "ThinExtents" 234 yX4_countShared ∈ tb := tbm 693 (by decide +kernel) rfl
theorem wd_695 : Cond.instanceMethod yX4_countShared ∈ tb := tbm 695 (by decide +kernel) rfl
theorem wd_696 : Cond.code yX4_countShared prog_1_method_45_code 5 (Option.some Jvm.ClassFile.FieldType.int) ∈ tb := tbm 696 (by decide +kernel) rfl
theorem wd_697 : Cond.methodLink "ThinExtents" 241 yX1_countOf ∈ tb := tbm 697 (by decide +kernel) rfl
theorem wd_698 : Cond.instanceMethod yX1_countOf ∈ tb := tbm 698 (by decide +kernel) rfl
theorem wd_699 : Cond.selects "ThinExtents$Queue" yX1_countOf yX1_countOf ∈ tb := tbm 699 (by decide +kernel) rfl
theorem wd_700 : Cond.code yX1_countOf prog_3_method_8_code 4 (Option.some Jvm.ClassFile.FieldType.int) ∈ tb := tbm 700 (by decide +kernel) rfl
theorem wd_705 : Cond.methodLink "ThinExtentsLaw" 77 yX4_differ ∈ tb := tbm 705 (by decide +kernel) rfl
theorem wd_706 : Cond.instanceMethod yX4_differ ∈ tb := tbm 706 (by decide +kernel) rfl
theorem wd_707 : Cond.selects "ThinExtents" yX4_differ yX4_differ ∈ tb := tbm 707 (by decide +kernel) rfl
theorem wd_708 : Cond.code yX4_differ prog_1_method_24_code 6 (Option.some Jvm.ClassFile.FieldType.int) ∈ tb := tbm 708 (by decide +kernel) rfl
theorem wd_709 : Cond.methodLink "ThinExtents" 246 yX4_countRuns ∈ tb := tbm 709 (by decide +kernel) rfl
theorem wd_711 : Cond.instanceMethod yX4_countRuns ∈ tb := tbm 711 (by decide +kernel) rfl
theorem wd_712 : Cond.code yX4_countRuns prog_1_method_48_code 7 (Option.some Jvm.ClassFile.FieldType.int) ∈ tb := tbm 712 (by decide +kernel) rfl
theorem wd_713 : Cond.methodLink "ThinExtents" 322 yX4_sortOf ∈ tb := tbm 713 (by decide +kernel) rfl
theorem wd_715 : Cond.instanceMethod yX4_sortOf ∈ tb := tbm 715 (by decide +kernel) rfl
theorem wd_716 : Cond.code yX4_sortOf prog_1_method_46_code 6 (Option.some Jvm.ClassFile.FieldType.int) ∈ tb := tbm 716 (by decide +kernel) rfl
theorem wd_717 : Cond.methodLink "ThinExtents" 250 yX4_countSort ∈ tb := tbm 717 (by decide +kernel) rfl
theorem wd_719 : Cond.instanceMethod yX4_countSort ∈ tb := tbm 719 (by decide +kernel) rfl
theorem wd_720 : Cond.code yX4_countSort prog_1_method_47_code 6 (Option.some Jvm.ClassFile.FieldType.int) ∈ tb := tbm 720 (by decide +kernel) rfl
theorem wd_724 : Cond.methodLink "ThinExtentsLaw" 80 yX4_users ∈ tb := tbm 724 (by decide +kernel) rfl
theorem wd_725 : Cond.instanceMethod yX4_users ∈ tb := tbm 725 (by decide +kernel) rfl
theorem wd_726 : Cond.selects "ThinExtents" yX4_users yX4_users ∈ tb := tbm 726 (by decide +kernel) rfl
theorem wd_727 : Cond.code yX4_users prog_1_method_25_code 2 (Option.some Jvm.ClassFile.FieldType.int) ∈ tb := tbm 727 (by decide +kernel) rfl
theorem wd_728 : Cond.methodLink "ThinExtents" 254 yX4_requireExtent ∈ tb := tbm 728 (by decide +kernel) rfl
theorem wd_730 : Cond.instanceMethod yX4_requireExtent ∈ tb := tbm 730 (by decide +kernel) rfl
theorem wd_731 : Cond.code yX4_requireExtent prog_1_method_34_code 2 (Option.none : Option Jvm.ClassFile.FieldType) ∈ tb := tbm 731 (by decide +kernel) rfl
theorem wd_733 : Cond.methodLink "ThinExtents" 257 yX2_usesOf ∈ tb := tbm 733 (by decide +kernel) rfl
theorem wd_737 : Cond.methodLink "ThinExtentsLaw" 83 yX4_user ∈ tb := tbm 737 (by decide +kernel) rfl
theorem wd_738 : Cond.instanceMethod yX4_user ∈ tb := tbm 738 (by decide +kernel) rfl
theorem wd_739 : Cond.selects "ThinExtents" yX4_user yX4_user ∈ tb := tbm 739 (by decide +kernel) rfl
theorem wd_740 : Cond.code yX4_user prog_1_method_26_code 3 (Option.some Jvm.ClassFile.FieldType.int) ∈ tb := tbm 740 (by decide +kernel) rfl
theorem wd_741 : Cond.methodLink "ThinExtents" 260 yX2_userOf ∈ tb := tbm 741 (by decide +kernel) rfl
theorem wd_742 : Cond.instanceMethod yX2_userOf ∈ tb := tbm 742 (by decide +kernel) rfl
theorem wd_743 : Cond.selects "ThinExtents$State" yX2_userOf yX2_userOf ∈ tb := tbm 743 (by decide +kernel) rfl
theorem wd_744 : Cond.code yX2_userOf prog_4_method_9_code 6 (Option.some Jvm.ClassFile.FieldType.int) ∈ tb := tbm 744 (by decide +kernel) rfl
theorem wd_748 : Cond.methodLink "ThinExtentsLaw" 86 yX4_told ∈ tb := tbm 748 (by decide +kernel) rfl
theorem wd_749 : Cond.instanceMethod yX4_told ∈ tb := tbm 749 (by decide +kernel) rfl
theorem wd_750 : Cond.selects "ThinExtents" yX4_told yX4_told ∈ tb := tbm 750 (by decide +kernel) rfl
theorem wd_751 : Cond.code yX4_told prog_1_method_27_code 2 (Option.some Jvm.ClassFile.FieldType.int) ∈ tb := tbm 751 (by decide +kernel) rfl
theorem wd_758 : Cond.fieldLink "ThinExtentsModel" 51 "ThinExtentsModel" "thrown" "I" ∈ tb := tbm 758 (by decide +kernel) rfl
theorem wd_759 : Cond.fieldLink "ThinExtentsModel" 7 "ThinExtentsModel" "there" "[Z" ∈ tb := tbm 759 (by decide +kernel) rfl
theorem wd_760 : Cond.fieldLink "ThinExtentsModel" 13 "ThinExtentsModel" "size" "[I" ∈ tb := tbm 760 (by decide +kernel) rfl
theorem wd_761 : Cond.fieldLink "ThinExtentsModel" 17 "ThinExtentsModel" "backed" "[Z" ∈ tb := tbm 761 (by decide +kernel) rfl
theorem wd_762 : Cond.fieldLink "ThinExtentsModel" 20 "ThinExtentsModel" "quota" "[I" ∈ tb := tbm 762 (by decide +kernel) rfl
theorem wd_763 : Cond.fieldLink "ThinExtentsModel" 23 "ThinExtentsModel" "origin" "[I" ∈ tb := tbm 763 (by decide +kernel) rfl
theorem wd_764 : Cond.fieldLink "ThinExtentsModel" 26 "ThinExtentsModel" "map" "[I" ∈ tb := tbm 764 (by decide +kernel) rfl
theorem wd_765 : Cond.fieldLink "ThinExtentsModel" 29 "ThinExtentsModel" "mark" "[I" ∈ tb := tbm 765 (by decide +kernel) rfl
theorem wd_766 : Cond.fieldLink "ThinExtentsModel" 166 "ThinExtentsModel" "held" "Z" ∈ tb := tbm 766 (by decide +kernel) rfl
theorem wd_767 : Cond.fieldLink "ThinExtentsModel" 32 "ThinExtentsModel" "extents" "I" ∈ tb := tbm 767 (by decide +kernel) rfl
theorem wd_768 : Cond.fieldLink "ThinExtentsModel" 36 "ThinExtentsModel" "words" "[I" ∈ tb := tbm 768 (by decide +kernel) rfl
theorem wd_769 : Cond.fieldLink "ThinExtentsModel" 39 "ThinExtentsModel" "backing" "[I" ∈ tb := tbm 769 (by decide +kernel) rfl
theorem wd_770 : Cond.fieldLink "ThinExtentsModel" 80 "ThinExtentsModel" "cursor" "I" ∈ tb := tbm 770 (by decide +kernel) rfl
theorem wd_771 : Cond.fieldLink "ThinExtentsModel" 96 "ThinExtentsModel" "alarm" "I" ∈ tb := tbm 771 (by decide +kernel) rfl
theorem wd_772 : Cond.fieldLink "ThinExtentsModel" 89 "ThinExtentsModel" "alarms" "I" ∈ tb := tbm 772 (by decide +kernel) rfl
theorem wd_773 : Cond.fieldLink "ThinExtentsModel" 86 "ThinExtentsModel" "taken" "I" ∈ tb := tbm 773 (by decide +kernel) rfl
theorem wd_774 : Cond.fieldLink "ThinExtentsModel" 110 "ThinExtentsModel" "mode" "I" ∈ tb := tbm 774 (by decide +kernel) rfl
theorem wd_775 : Cond.fieldLink "ThinExtentsModel" 135 "ThinExtentsModel" "patience" "I" ∈ tb := tbm 775 (by decide +kernel) rfl
theorem wd_776 : Cond.fieldLink "ThinExtentsModel" 138 "ThinExtentsModel" "limit" "I" ∈ tb := tbm 776 (by decide +kernel) rfl
theorem wd_777 : Cond.fieldLink "ThinExtentsModel" 141 "ThinExtentsModel" "waited" "I" ∈ tb := tbm 777 (by decide +kernel) rfl
theorem wd_778 : Cond.fieldLink "ThinExtentsModel" 173 "ThinExtentsModel" "time" "I" ∈ tb := tbm 778 (by decide +kernel) rfl
theorem wd_779 : Cond.fieldLink "ThinExtentsModel" 116 "ThinExtentsModel" "failed" "I" ∈ tb := tbm 779 (by decide +kernel) rfl
theorem wd_780 : Cond.fieldLink "ThinExtentsModel" 163 "ThinExtentsModel" "commits" "I" ∈ tb := tbm 780 (by decide +kernel) rfl
theorem wd_781 : Cond.fieldLink "ThinExtentsModel" 107 "ThinExtentsModel" "queued" "I" ∈ tb := tbm 781 (by decide +kernel) rfl
theorem wd_782 : Cond.fieldLink "ThinExtentsModel" 42 "ThinExtentsModel" "queueVolume" "[I" ∈ tb := tbm 782 (by decide +kernel) rfl
theorem wd_783 : Cond.fieldLink "ThinExtentsModel" 45 "ThinExtentsModel" "queueWord" "[I" ∈ tb := tbm 783 (by decide +kernel) rfl
theorem wd_784 : Cond.fieldLink "ThinExtentsModel" 48 "ThinExtentsModel" "queueValue" "[I" ∈ tb := tbm 784 (by decide +kernel) rfl
theorem wd_841 : Cond.methodLink "ThinExtentsLaw" 99 yX5_thrown ∈ tb := tbm 841 (by decide +kernel) rfl
theorem wd_842 : Cond.instanceMethod yX5_thrown ∈ tb := tbm 842 (by decide +kernel) rfl
theorem wd_843 : Cond.selects "ThinExtentsModel" yX5_thrown yX5_thrown ∈ tb := tbm 843 (by decide +kernel) rfl
theorem wd_844 : Cond.code yX5_thrown prog_7_method_2_code 1 (Option.some Jvm.ClassFile.FieldType.int) ∈ tb := tbm 844 (by decide +kernel) rfl
theorem wd_845 : Cond.methodLink "ThinExtentsLaw" 116 yX5_write ∈ tb := tbm 845 (by decide +kernel) rfl
theorem wd_846 : Cond.instanceMethod yX5_write ∈ tb := tbm 846 (by decide +kernel) rfl
theorem wd_847 : Cond.selects "ThinExtentsModel" yX5_write yX5_write ∈ tb := tbm 847 (by decide +kernel) rfl
theorem wd_848 : Cond.code yX5_write prog_7_method_25_code 6 (Option.some Jvm.ClassFile.FieldType.int) ∈ tb := tbm 848 (by decide +kernel) rfl
theorem wd_849 : Cond.methodLink "ThinExtentsModel" 126 yX5_isVolume ∈ tb := tbm 849 (by decide +kernel) rfl
theorem wd_851 : Cond.instanceMethod yX5_isVolume ∈ tb := tbm 851 (by decide +kernel) rfl
theorem wd_852 : Cond.code yX5_isVolume prog_7_method_4_code 2 (Option.some Jvm.ClassFile.FieldType.boolean) ∈ tb := tbm 852 (by decide +kernel) rfl
theorem wd_853 : Cond.methodLink "ThinExtentsModel" 54 yX5_isNumber ∈ tb := tbm 853 (by decide +kernel) rfl
theorem wd_854 : Cond.static yX5_isNumber ∈ tb := tbm 854 (by decide +kernel) rfl
theorem wd_855 : Cond.code yX5_isNumber prog_7_method_3_code 1 (Option.some Jvm.ClassFile.FieldType.boolean) ∈ tb := tbm 855 (by decide +kernel) rfl
theorem wd_856 : Cond.methodLink "ThinExtentsModel" 129 yX5_waits ∈ tb := tbm 856 (by decide +kernel) rfl
theorem wd_858 : Cond.instanceMethod yX5_waits ∈ tb := tbm 858 (by decide +kernel) rfl
theorem wd_859 : Cond.code yX5_waits prog_7_method_21_code 5 (Option.some Jvm.ClassFile.FieldType.boolean) ∈ tb := tbm 859 (by decide +kernel) rfl
theorem wd_860 : Cond.methodLink "ThinExtentsModel" 132 yX5_enqueue ∈ tb := tbm 860 (by decide +kernel) rfl
theorem wd_862 : Cond.instanceMethod yX5_enqueue ∈ tb := tbm 862 (by decide +kernel) rfl
theorem wd_863 : Cond.code yX5_enqueue prog_7_method_22_code 4 (Option.some Jvm.ClassFile.FieldType.int) ∈ tb := tbm 863 (by decide +kernel) rfl
theorem wd_864 : Cond.methodLink "ThinExtentsModel" 113 yX5_isOver ∈ tb := tbm 864 (by decide +kernel) rfl
theorem wd_866 : Cond.instanceMethod yX5_isOver ∈ tb := tbm 866 (by decide +kernel) rfl
theorem wd_867 : Cond.code yX5_isOver prog_7_method_17_code 3 (Option.some Jvm.ClassFile.FieldType.boolean) ∈ tb := tbm 867 (by decide +kernel) rfl
theorem wd_868 : Cond.methodLink "ThinExtentsModel" 58 yX5_at ∈ tb := tbm 868 (by decide +kernel) rfl
theorem wd_869 : Cond.static yX5_at ∈ tb := tbm 869 (by decide +kernel) rfl
theorem wd_870 : Cond.code yX5_at prog_7_method_6_code 3 (Option.some Jvm.ClassFile.FieldType.int) ∈ tb := tbm 870 (by decide +kernel) rfl
theorem wd_871 : Cond.methodLink "ThinExtentsModel" 76 yX5_mapped ∈ tb := tbm 871 (by decide +kernel) rfl
theorem wd_873 : Cond.instanceMethod yX5_mapped ∈ tb := tbm 873 (by decide +kernel) rfl
theorem wd_874 : Cond.code yX5_mapped prog_7_method_11_code 4 (Option.some Jvm.ClassFile.FieldType.int) ∈ tb := tbm 874 (by decide +kernel) rfl
theorem wd_875 : Cond.methodLink "ThinExtentsModel" 99 yX5_needs ∈ tb := tbm 875 (by decide +kernel) rfl
theorem wd_877 : Cond.instanceMethod yX5_needs ∈ tb := tbm 877 (by decide +kernel) rfl
theorem wd_878 : Cond.code yX5_needs prog_7_method_16_code 4 (Option.some Jvm.ClassFile.FieldType.boolean) ∈ tb := tbm 878 (by decide +kernel) rfl
theorem wd_879 : Cond.methodLink "ThinExtentsModel" 73 yX5_isSole ∈ tb := tbm 879 (by decide +kernel) rfl
theorem wd_881 : Cond.instanceMethod yX5_isSole ∈ tb := tbm 881 (by decide +kernel) rfl
theorem wd_882 : Cond.code yX5_isSole prog_7_method_9_code 2 (Option.some Jvm.ClassFile.FieldType.boolean) ∈ tb := tbm 882 (by decide +kernel) rfl
theorem wd_883 : Cond.methodLink "ThinExtentsModel" 62 yX5_usersOf ∈ tb := tbm 883 (by decide +kernel) rfl
theorem wd_885 : Cond.instanceMethod yX5_usersOf ∈ tb := tbm 885 (by decide +kernel) rfl
theorem wd_886 : Cond.code yX5_usersOf prog_7_method_7_code 6 (Option.some Jvm.ClassFile.FieldType.int) ∈ tb := tbm 886 (by decide +kernel) rfl
theorem wd_887 : Cond.methodLink "ThinExtentsModel" 123 yX5_perform ∈ tb := tbm 887 (by decide +kernel) rfl
theorem wd_889 : Cond.instanceMethod yX5_perform ∈ tb := tbm 889 (by decide +kernel) rfl
theorem wd_890 : Cond.code yX5_perform prog_7_method_20_code 7 (Option.some Jvm.ClassFile.FieldType.int) ∈ tb := tbm 890 (by decide +kernel) rfl
theorem wd_891 : Cond.methodLink "ThinExtentsModel" 103 yX5_take ∈ tb := tbm 891 (by decide +kernel) rfl
theorem wd_893 : Cond.instanceMethod yX5_take ∈ tb := tbm 893 (by decide +kernel) rfl
theorem wd_894 : Cond.code yX5_take prog_7_method_19_code 5 (Option.none : Option Jvm.ClassFile.FieldType) ∈ tb := tbm 894 (by decide +kernel) rfl
theorem wd_895 : Cond.methodLink "ThinExtentsModel" 66 yX5_isFree ∈ tb := tbm 895 (by decide +kernel) rfl
theorem wd_897 : Cond.instanceMethod yX5_isFree ∈ tb := tbm 897 (by decide +kernel) rfl
theorem wd_898 : Cond.code yX5_isFree prog_7_method_8_code 2 (Option.some Jvm.ClassFile.FieldType.boolean) ∈ tb := tbm 898 (by decide +kernel) rfl
theorem wd_899 : Cond.methodLink "ThinExtentsModel" 83 yX5_wordOf ∈ tb := tbm 899 (by decide +kernel) rfl
theorem wd_901 : Cond.instanceMethod yX5_wordOf ∈ tb := tbm 901 (by decide +kernel) rfl
theorem wd_902 : Cond.code yX5_wordOf prog_7_method_18_code 4 (Option.some Jvm.ClassFile.FieldType.int) ∈ tb := tbm 902 (by decide +kernel) rfl
theorem wd_903 : Cond.methodLink "ThinExtentsModel" 92 yX5_freeMany ∈ tb := tbm 903 (by decide +kernel) rfl
theorem wd_905 : Cond.instanceMethod yX5_freeMany ∈ tb := tbm 905 (by decide +kernel) rfl
theorem wd_906 : Cond.code yX5_freeMany prog_7_method_10_code 3 (Option.some Jvm.ClassFile.FieldType.int) ∈ tb := tbm 906 (by decide +kernel) rfl
theorem wd_907 : Cond.methodLink "ThinExtentsLaw" 119 yX5_read ∈ tb := tbm 907 (by decide +kernel) rfl
theorem wd_908 : Cond.instanceMethod yX5_read ∈ tb := tbm 908 (by decide +kernel) rfl
theorem wd_909 : Cond.selects "ThinExtentsModel" yX5_read yX5_read ∈ tb := tbm 909 (by decide +kernel) rfl
theorem wd_910 : Cond.code yX5_read prog_7_method_26_code 3 (Option.some Jvm.ClassFile.FieldType.int) ∈ tb := tbm 910 (by decide +kernel) rfl
theorem wd_911 : Cond.methodLink "ThinExtentsLaw" 98 yX5_make ∈ tb := tbm 911 (by decide +kernel) rfl
theorem wd_912 : Cond.instanceMethod yX5_make ∈ tb := tbm 912 (by decide +kernel) rfl
theorem wd_913 : Cond.selects "ThinExtentsModel" yX5_make yX5_make ∈ tb := tbm 913 (by decide +kernel) rfl
theorem wd_914 : Cond.code yX5_make prog_7_method_27_code 5 (Option.some Jvm.ClassFile.FieldType.int) ∈ tb := tbm 914 (by decide +kernel) rfl
theorem wd_915 : Cond.methodLink "ThinExtentsModel" 144 yX5_isSize ∈ tb := tbm 915 (by decide +kernel) rfl
theorem wd_916 : Cond.static yX5_isSize ∈ tb := tbm 916 (by decide +kernel) rfl
theorem wd_917 : Cond.code yX5_isSize prog_7_method_5_code 1 (Option.some Jvm.ClassFile.FieldType.boolean) ∈ tb := tbm 917 (by decide +kernel) rfl
theorem wd_918 : Cond.methodLink "ThinExtentsModel" 147 yX5_volumes ∈ tb := tbm 918 (by decide +kernel) rfl
theorem wd_920 : Cond.instanceMethod yX5_volumes ∈ tb := tbm 920 (by decide +kernel) rfl
theorem wd_921 : Cond.code yX5_volumes prog_7_method_12_code 4 (Option.some Jvm.ClassFile.FieldType.int) ∈ tb := tbm 921 (by decide +kernel) rfl
theorem wd_922 : Cond.methodLink "ThinExtentsLaw" 105 yX5_snap ∈ tb := tbm 922 (by decide +kernel) rfl
theorem wd_923 : Cond.instanceMethod yX5_snap ∈ tb := tbm 923 (by decide +kernel) rfl
theorem wd_924 : Cond.selects "ThinExtentsModel" yX5_snap yX5_snap ∈ tb := tbm 924 (by decide +kernel) rfl
theorem wd_925 : Cond.code yX5_snap prog_7_method_28_code 3 (Option.some Jvm.ClassFile.FieldType.int) ∈ tb := tbm 925 (by decide +kernel) rfl
theorem wd_926 : Cond.methodLink "ThinExtentsModel" 69 yX5_copyVolume ∈ tb := tbm 926 (by decide +kernel) rfl
theorem wd_928 : Cond.instanceMethod yX5_copyVolume ∈ tb := tbm 928 (by decide +kernel) rfl
theorem wd_929 : Cond.code yX5_copyVolume prog_7_method_15_code 8 (Option.none : Option Jvm.ClassFile.FieldType) ∈ tb := tbm 929 (by decide +kernel) rfl
theorem wd_930 : Cond.methodLink "ThinExtentsLaw" 109 yX5_drop ∈ tb := tbm 930 (by decide +kernel) rfl
theorem wd_931 : Cond.instanceMethod yX5_drop ∈ tb := tbm 931 (by decide +kernel) rfl
theorem wd_932 : Cond.selects "ThinExtentsModel" yX5_drop yX5_drop ∈ tb := tbm 932 (by decide +kernel) rfl
theorem wd_933 : Cond.code yX5_drop prog_7_method_29_code 4 (Option.some Jvm.ClassFile.FieldType.int) ∈ tb := tbm 933 (by decide +kernel) rfl
theorem wd_934 : Cond.methodLink "ThinExtentsModel" 119 yX5_unqueue ∈ tb := tbm 934 (by decide +kernel) rfl
theorem wd_936 : Cond.instanceMethod yX5_unqueue ∈ tb := tbm 936 (by decide +kernel) rfl
theorem wd_937 : Cond.code yX5_unqueue prog_7_method_23_code 3 (Option.none : Option Jvm.ClassFile.FieldType) ∈ tb := tbm 937 (by decide +kernel) rfl
theorem wd_938 : Cond.methodLink "ThinExtentsModel" 150 yX5_drain ∈ tb := tbm 938 (by decide +kernel) rfl
theorem wd_940 : Cond.instanceMethod yX5_drain ∈ tb := tbm 940 (by decide +kernel) rfl
theorem wd_941 : Cond.code yX5_drain prog_7_method_24_code 6 (Option.none : Option Jvm.ClassFile.FieldType) ∈ tb := tbm 941 (by decide +kernel) rfl
theorem wd_942 : Cond.methodLink "ThinExtentsLaw" 112 yX5_resize ∈ tb := tbm 942 (by decide +kernel) rfl
theorem wd_943 : Cond.instanceMethod yX5_resize ∈ tb := tbm 943 (by decide +kernel) rfl
theorem wd_944 : Cond.selects "ThinExtentsModel" yX5_resize yX5_resize ∈ tb := tbm 944 (by decide +kernel) rfl
theorem wd_945 : Cond.code yX5_resize prog_7_method_32_code 4 (Option.some Jvm.ClassFile.FieldType.int) ∈ tb := tbm 945 (by decide +kernel) rfl
theorem wd_946 : Cond.methodLink "ThinExtentsModel" 153 yX5_waitsIn ∈ tb := tbm 946 (by decide +kernel) rfl
theorem wd_948 : Cond.instanceMethod yX5_waitsIn ∈ tb := tbm 948 (by decide +kernel) rfl
theorem wd_949 : Cond.code yX5_waitsIn prog_7_method_30_code 6 (Option.some Jvm.ClassFile.FieldType.boolean) ∈ tb := tbm 949 (by decide +kernel) rfl
theorem wd_950 : Cond.methodLink "ThinExtentsModel" 157 yX5_unmap ∈ tb := tbm 950 (by decide +kernel) rfl
theorem wd_952 : Cond.instanceMethod yX5_unmap ∈ tb := tbm 952 (by decide +kernel) rfl
theorem wd_953 : Cond.code yX5_unmap prog_7_method_31_code 6 (Option.some Jvm.ClassFile.FieldType.int) ∈ tb := tbm 953 (by decide +kernel) rfl
theorem wd_954 : Cond.methodLink "ThinExtentsLaw" 122 yX5_discard ∈ tb := tbm 954 (by decide +kernel) rfl
theorem wd_955 : Cond.instanceMethod yX5_discard ∈ tb := tbm 955 (by decide +kernel) rfl
theorem wd_956 : Cond.selects "ThinExtentsModel" yX5_discard yX5_discard ∈ tb := tbm 956 (by decide +kernel) rfl
theorem wd_957 : Cond.code yX5_discard prog_7_method_33_code 5 (Option.some Jvm.ClassFile.FieldType.int) ∈ tb := tbm 957 (by decide +kernel) rfl
theorem wd_958 : Cond.methodLink "ThinExtentsLaw" 125 yX5_grow ∈ tb := tbm 958 (by decide +kernel) rfl
theorem wd_959 : Cond.instanceMethod yX5_grow ∈ tb := tbm 959 (by decide +kernel) rfl
theorem wd_960 : Cond.selects "ThinExtentsModel" yX5_grow yX5_grow ∈ tb := tbm 960 (by decide +kernel) rfl
theorem wd_961 : Cond.code yX5_grow prog_7_method_34_code 2 (Option.some Jvm.ClassFile.FieldType.int) ∈ tb := tbm 961 (by decide +kernel) rfl
theorem wd_962 : Cond.methodLink "ThinExtentsLaw" 128 yX5_shrink ∈ tb := tbm 962 (by decide +kernel) rfl
theorem wd_963 : Cond.instanceMethod yX5_shrink ∈ tb := tbm 963 (by decide +kernel) rfl
theorem wd_964 : Cond.selects "ThinExtentsModel" yX5_shrink yX5_shrink ∈ tb := tbm 964 (by decide +kernel) rfl
theorem wd_965 : Cond.code yX5_shrink prog_7_method_35_code 3 (Option.some Jvm.ClassFile.FieldType.int) ∈ tb := tbm 965 (by decide +kernel) rfl
theorem wd_966 : Cond.methodLink "ThinExtentsLaw" 131 yX5_back ∈ tb := tbm 966 (by decide +kernel) rfl
theorem wd_967 : Cond.instanceMethod yX5_back ∈ tb := tbm 967 (by decide +kernel) rfl
theorem wd_968 : Cond.selects "ThinExtentsModel" yX5_back yX5_back ∈ tb := tbm 968 (by decide +kernel) rfl
theorem wd_969 : Cond.code yX5_back prog_7_method_36_code 4 (Option.some Jvm.ClassFile.FieldType.int) ∈ tb := tbm 969 (by decide +kernel) rfl
theorem wd_970 : Cond.methodLink "ThinExtentsLaw" 134 yX5_quota ∈ tb := tbm 970 (by decide +kernel) rfl
theorem wd_971 : Cond.instanceMethod yX5_quota ∈ tb := tbm 971 (by decide +kernel) rfl
theorem wd_972 : Cond.selects "ThinExtentsModel" yX5_quota yX5_quota ∈ tb := tbm 972 (by decide +kernel) rfl
theorem wd_973 : Cond.code yX5_quota prog_7_method_37_code 4 (Option.some Jvm.ClassFile.FieldType.int) ∈ tb := tbm 973 (by decide +kernel) rfl
theorem wd_974 : Cond.methodLink "ThinExtentsLaw" 139 yX5_mark ∈ tb := tbm 974 (by decide +kernel) rfl
theorem wd_975 : Cond.instanceMethod yX5_mark ∈ tb := tbm 975 (by decide +kernel) rfl
theorem wd_976 : Cond.selects "ThinExtentsModel" yX5_mark yX5_mark ∈ tb := tbm 976 (by decide +kernel) rfl
theorem wd_977 : Cond.code yX5_mark prog_7_method_38_code 3 (Option.some Jvm.ClassFile.FieldType.boolean) ∈ tb := tbm 977 (by decide +kernel) rfl
theorem wd_978 : Cond.methodLink "ThinExtentsLaw" 142 yX5_marked ∈ tb := tbm 978 (by decide +kernel) rfl
theorem wd_979 : Cond.instanceMethod yX5_marked ∈ tb := tbm 979 (by decide +kernel) rfl
theorem wd_980 : Cond.selects "ThinExtentsModel" yX5_marked yX5_marked ∈ tb := tbm 980 (by decide +kernel) rfl
theorem wd_981 : Cond.code yX5_marked prog_7_method_39_code 2 (Option.some Jvm.ClassFile.FieldType.int) ∈ tb := tbm 981 (by decide +kernel) rfl
theorem wd_982 : Cond.methodLink "ThinExtentsLaw" 146 yX5_commit ∈ tb := tbm 982 (by decide +kernel) rfl
theorem wd_983 : Cond.instanceMethod yX5_commit ∈ tb := tbm 983 (by decide +kernel) rfl
theorem wd_984 : Cond.selects "ThinExtentsModel" yX5_commit yX5_commit ∈ tb := tbm 984 (by decide +kernel) rfl
theorem wd_985 : Cond.code yX5_commit prog_7_method_40_code 1 (Option.some Jvm.ClassFile.FieldType.int) ∈ tb := tbm 985 (by decide +kernel) rfl
theorem wd_986 : Cond.methodLink "ThinExtentsModel" 160 yX5_copy ∈ tb := tbm 986 (by decide +kernel) rfl
theorem wd_988 : Cond.instanceMethod yX5_copy ∈ tb := tbm 988 (by decide +kernel) rfl
theorem wd_989 : Cond.code yX5_copy prog_7_method_14_code 4 (Option.none : Option Jvm.ClassFile.FieldType) ∈ tb := tbm 989 (by decide +kernel) rfl
theorem wd_990 : Cond.methodLink "ThinExtentsLaw" 149 yX5_cut ∈ tb := tbm 990 (by decide +kernel) rfl
theorem wd_991 : Cond.instanceMethod yX5_cut ∈ tb := tbm 991 (by decide +kernel) rfl
theorem wd_992 : Cond.selects "ThinExtentsModel" yX5_cut yX5_cut ∈ tb := tbm 992 (by decide +kernel) rfl
theorem wd_993 : Cond.code yX5_cut prog_7_method_41_code 2 (Option.some Jvm.ClassFile.FieldType.int) ∈ tb := tbm 993 (by decide +kernel) rfl
theorem wd_994 : Cond.methodLink "ThinExtentsLaw" 153 yX5_hold ∈ tb := tbm 994 (by decide +kernel) rfl
theorem wd_995 : Cond.instanceMethod yX5_hold ∈ tb := tbm 995 (by decide +kernel) rfl
theorem wd_996 : Cond.selects "ThinExtentsModel" yX5_hold yX5_hold ∈ tb := tbm 996 (by decide +kernel) rfl
theorem wd_997 : Cond.code yX5_hold prog_7_method_42_code 1 (Option.some Jvm.ClassFile.FieldType.int) ∈ tb := tbm 997 (by decide +kernel) rfl
theorem wd_998 : Cond.methodLink "ThinExtentsLaw" 158 yX5_release ∈ tb := tbm 998 (by decide +kernel) rfl
theorem wd_999 : Cond.instanceMethod yX5_release ∈ tb := tbm 999 (by decide +kernel) rfl
theorem wd_1000 : Cond.selects "ThinExtentsModel" yX5_release yX5_release ∈ tb := tbm 1000 (by decide +kernel) rfl
theorem wd_1001 : Cond.code yX5_release prog_7_method_43_code 2 (Option.some Jvm.ClassFile.FieldType.boolean) ∈ tb := tbm 1001 (by decide +kernel) rfl
theorem wd_1002 : Cond.methodLink "ThinExtentsModel" 170 yX5_clearState ∈ tb := tbm 1002 (by decide +kernel) rfl
theorem wd_1004 : Cond.instanceMethod yX5_clearState ∈ tb := tbm 1004 (by decide +kernel) rfl
theorem wd_1005 : Cond.code yX5_clearState prog_7_method_13_code 3 (Option.none : Option Jvm.ClassFile.FieldType) ∈ tb := tbm 1005 (by decide +kernel) rfl
theorem wd_1006 : Cond.methodLink "ThinExtentsLaw" 161 yX5_patience ∈ tb := tbm 1006 (by decide +kernel) rfl
theorem wd_1007 : Cond.instanceMethod yX5_patience ∈ tb := tbm 1007 (by decide +kernel) rfl
theorem wd_1008 : Cond.selects "ThinExtentsModel" yX5_patience yX5_patience ∈ tb := tbm 1008 (by decide +kernel) rfl
theorem wd_1009 : Cond.code yX5_patience prog_7_method_44_code 3 (Option.some Jvm.ClassFile.FieldType.int) ∈ tb := tbm 1009 (by decide +kernel) rfl
theorem wd_1010 : Cond.methodLink "ThinExtentsLaw" 164 yX5_alarm ∈ tb := tbm 1010 (by decide +kernel) rfl
theorem wd_1011 : Cond.instanceMethod yX5_alarm ∈ tb := tbm 1011 (by decide +kernel) rfl
theorem wd_1012 : Cond.selects "ThinExtentsModel" yX5_alarm yX5_alarm ∈ tb := tbm 1012 (by decide +kernel) rfl
theorem wd_1013 : Cond.code yX5_alarm prog_7_method_45_code 3 (Option.some Jvm.ClassFile.FieldType.int) ∈ tb := tbm 1013 (by decide +kernel) rfl
theorem wd_1014 : Cond.methodLink "ThinExtentsLaw" 167 yX5_tick ∈ tb := tbm 1014 (by decide +kernel) rfl
theorem wd_1015 : Cond.instanceMethod yX5_tick ∈ tb := tbm 1015 (by decide +kernel) rfl
theorem wd_1016 : Cond.selects "ThinExtentsModel" yX5_tick yX5_tick ∈ tb := tbm 1016 (by decide +kernel) rfl
theorem wd_1017 : Cond.code yX5_tick prog_7_method_46_code 3 (Option.some Jvm.ClassFile.FieldType.int) ∈ tb := tbm 1017 (by decide +kernel) rfl
theorem wd_1018 : Cond.methodLink "ThinExtentsLaw" 170 yX5_map ∈ tb := tbm 1018 (by decide +kernel) rfl
theorem wd_1019 : Cond.instanceMethod yX5_map ∈ tb := tbm 1019 (by decide +kernel) rfl
theorem wd_1020 : Cond.selects "ThinExtentsModel" yX5_map yX5_map ∈ tb := tbm 1020 (by decide +kernel) rfl
theorem wd_1021 : Cond.code yX5_map prog_7_method_47_code 4 (Option.some Jvm.ClassFile.FieldType.int) ∈ tb := tbm 1021 (by decide +kernel) rfl
theorem wd_1022 : Cond.methodLink "ThinExtentsLaw" 173 yX5_volume ∈ tb := tbm 1022 (by decide +kernel) rfl
theorem wd_1023 : Cond.instanceMethod yX5_volume ∈ tb := tbm 1023 (by decide +kernel) rfl
theorem wd_1024 : Cond.selects "ThinExtentsModel" yX5_volume yX5_volume ∈ tb := tbm 1024 (by decide +kernel) rfl
theorem wd_1025 : Cond.code yX5_volume prog_7_method_48_code 8 (Option.some Jvm.ClassFile.FieldType.int) ∈ tb := tbm 1025 (by decide +kernel) rfl
theorem wd_1026 : Cond.methodLink "ThinExtentsLaw" 176 yX5_differ ∈ tb := tbm 1026 (by decide +kernel) rfl
theorem wd_1027 : Cond.instanceMethod yX5_differ ∈ tb := tbm 1027 (by decide +kernel) rfl
theorem wd_1028 : Cond.selects "ThinExtentsModel" yX5_differ yX5_differ ∈ tb := tbm 1028 (by decide +kernel) rfl
theorem wd_1029 : Cond.code yX5_differ prog_7_method_50_code 8 (Option.some Jvm.ClassFile.FieldType.int) ∈ tb := tbm 1029 (by decide +kernel) rfl
theorem wd_1030 : Cond.methodLink "ThinExtentsModel" 176 yX5_sortAt ∈ tb := tbm 1030 (by decide +kernel) rfl
theorem wd_1032 : Cond.instanceMethod yX5_sortAt ∈ tb := tbm 1032 (by decide +kernel) rfl
theorem wd_1033 : Cond.code yX5_sortAt prog_7_method_49_code 6 (Option.some Jvm.ClassFile.FieldType.int) ∈ tb := tbm 1033 (by decide +kernel) rfl
theorem wd_1034 : Cond.methodLink "ThinExtentsLaw" 179 yX5_users ∈ tb := tbm 1034 (by decide +kernel) rfl
theorem wd_1035 : Cond.instanceMethod yX5_users ∈ tb := tbm 1035 (by decide +kernel) rfl
theorem wd_1036 : Cond.selects "ThinExtentsModel" yX5_users yX5_users ∈ tb := tbm 1036 (by decide +kernel) rfl
theorem wd_1037 : Cond.code yX5_users prog_7_method_51_code 2 (Option.some Jvm.ClassFile.FieldType.int) ∈ tb := tbm 1037 (by decide +kernel) rfl
theorem wd_1038 : Cond.methodLink "ThinExtentsLaw" 182 yX5_user ∈ tb := tbm 1038 (by decide +kernel) rfl
theorem wd_1039 : Cond.instanceMethod yX5_user ∈ tb := tbm 1039 (by decide +kernel) rfl
theorem wd_1040 : Cond.selects "ThinExtentsModel" yX5_user yX5_user ∈ tb := tbm 1040 (by decide +kernel) rfl
theorem wd_1041 : Cond.code yX5_user prog_7_method_52_code 6 (Option.some Jvm.ClassFile.FieldType.int) ∈ tb := tbm 1041 (by decide +kernel) rfl
theorem wd_1042 : Cond.methodLink "ThinExtentsLaw" 185 yX5_told ∈ tb := tbm 1042 (by decide +kernel) rfl
theorem wd_1043 : Cond.instanceMethod yX5_told ∈ tb := tbm 1043 (by decide +kernel) rfl
theorem wd_1044 : Cond.selects "ThinExtentsModel" yX5_told yX5_told ∈ tb := tbm 1044 (by decide +kernel) rfl
theorem wd_1045 : Cond.code yX5_told prog_7_method_53_code 2 (Option.some Jvm.ClassFile.FieldType.int) ∈ tb := tbm 1045 (by decide +kernel) rfl
theorem in_X0 : ∀ w ∈ u_ws RX0 TX0 9, w ∈ tb := by decide +kernel
theorem in_X1 : ∀ w ∈ u_ws RX1 TX1 4, w ∈ tb := by decide +kernel
theorem in_X2 : ∀ w ∈ u_ws RX2 TX2 4, w ∈ tb := by decide +kernel
theorem in_X3 : ∀ w ∈ u_ws RX3 TX3 7, w ∈ tb := by decide +kernel
theorem in_X4 : ∀ w ∈ u_ws RX4 TX4 13, w ∈ tb := by decide +kernel
theorem in_X5 : ∀ w ∈ u_ws RX5 TX5 27, w ∈ tb := by decide +kernel
section FR
variable {p : Program} {l : Launch} {e : Env} {R : Room} {s : State} {m : MethodId} {args : Array Value} {below : List Frame} {meth : Method} {c : Code} {D : DD} {n0 nL cells slots : Nat} {Q : State → Prop} {own : String} {cc : ByteArray} {κ μ : KH} {o : Int64} {pc : Nat} {ls : List (Option Value)} {st : List Value}
theorem gf_X4_50 (C : Cx p l s m args meth c D n0 RX4 cc nL) {k : Nat} (hk : isV k) {v : Int32} (hv : κ k 0 = v) (hd : decode cc pc = .ok (.getfield 50, 3)) (kk : ZZ p l e R s m args below meth c D n0 127 nL cells slots Q (κ, μ, o) (pc + 3) ls (.int v :: st)) : ZZ p l e R s m args below meth c D n0 127 nL cells slots Q (κ, μ, o) pc ls (.ref (n0 + k) :: st) := by subst hv; exact z_getf C 0 (enc_V hk) (by have := hk.2.1; omega) rfl in_X3 (by decide) wd_84 rfl rfl hd kk
theorem pf_X4_50 (C : Cx p l s m args meth c D n0 RX4 cc nL) {k : Nat} (hk : isV k) {x : Int32} (hx : x = 0 ∨ x = 1) (hd : decode cc pc = .ok (.putfield 50, 3)) (kk : ZZ p l e R s m args below meth c D n0 127 nL cells slots Q (up κ k 0 x, μ, o) (pc + 3) ls st) : ZZ p l e R s m args below meth c D n0 127 nL cells slots Q (κ, μ, o) pc ls (.int x :: .ref (n0 + k) :: st) := z_putf (σ1 := (up κ k 0 x, μ, o)) C 0 tyX3 (enc_V hk) (by rw [enc_V hk]; simp [up]) (fun j hj => enc_up hj) (by have := hk.2.1; omega) rfl in_X3 tyX3_ok nmX3 (by decide) wd_84 rfl rfl (ty := .boolean) (by decide +kernel) (by rcases hx with rfl | rfl <;> decide +kernel) (by rcases hx with rfl | rfl <;> decide +kernel) (Nat.le_of_ble_eq_true rfl) hd kk
theorem gf_X2_26 (C : Cx p l s m args meth c D n0 RX2 cc nL) {k : Nat} (hk : isV k) {v : Int32} (hv : κ k 0 = v) (hd : decode cc pc = .ok (.getfield 26, 3)) (kk : ZZ p l e R s m args below meth c D n0 127 nL cells slots Q (κ, μ, o) (pc + 3) ls (.int v :: st)) : ZZ p l e R s m args below meth c D n0 127 nL cells slots Q (κ, μ, o) pc ls (.ref (n0 + k) :: st) := by subst hv; exact z_getf C 0 (enc_V hk) (by have := hk.2.1; omega) rfl in_X3 (by decide) wd_85 rfl rfl hd kk
theorem pf_X2_26 (C : Cx p l s m args meth c D n0 RX2 cc nL) {k : Nat} (hk : isV k) {x : Int32} (hx : x = 0 ∨ x = 1) (hd : decode cc pc = .ok (.putfield 26, 3)) (kk : ZZ p l e R s m args below meth c D n0 127 nL cells slots Q (up κ k 0 x, μ, o) (pc + 3) ls st) : ZZ p l e R s m args below meth c D n0 127 nL cells slots Q (κ, μ, o) pc ls (.int x :: .ref (n0 + k) :: st) := z_putf (σ1 := (up κ k 0 x, μ, o)) C 0 tyX3 (enc_V hk) (by rw [enc_V hk]; simp [up]) (fun j hj => enc_up hj) (by have := hk.2.1; omega) rfl in_X3 tyX3_ok nmX3 (by decide) wd_85 rfl rfl (ty := .boolean) (by decide +kernel) (by rcases hx with rfl | rfl <;> decide +kernel) (by rcases hx with rfl | rfl <;> decide +kernel) (Nat.le_of_ble_eq_true rfl) hd kk
theorem gf_X3_28 (C : Cx p l s m args meth c D n0 RX3 cc nL) {k : Nat} (hk : isV k) {v : Int32} (hv : κ k 0 = v) (hd : decode cc pc = .ok (.getfield 28, 3)) (kk : ZZ p l e R s m args below meth c D n0 127 nL cells slots Q (κ, μ, o) (pc + 3) ls (.int v :: st)) : ZZ p l e R s m args below meth c D n0 127 nL cells slots Q (κ, μ, o) pc ls (.ref (n0 + k) :: st) := by subst hv; exact z_getf C 0 (enc_V hk) (by have := hk.2.1; omega) rfl in_X3 (by decide) wd_86 rfl rfl hd kk
theorem pf_X3_28 (C : Cx p l s m args meth c D n0 RX3 cc nL) {k : Nat} (hk : isV k) {x : Int32} (hx : x = 0 ∨ x = 1) (hd : decode cc pc = .ok (.putfield 28, 3)) (kk : ZZ p l e R s m args below meth c D n0 127 nL cells slots Q (up κ k 0 x, μ, o) (pc + 3) ls st) : ZZ p l e R s m args below meth c D n0 127 nL cells slots Q (κ, μ, o) pc ls (.int x :: .ref (n0 + k) :: st) := z_putf (σ1 := (up κ k 0 x, μ, o)) C 0 tyX3 (enc_V hk) (by rw [enc_V hk]; simp [up]) (fun j hj => enc_up hj) (by have := hk.2.1; omega) rfl in_X3 tyX3_ok nmX3 (by decide) wd_86 rfl rfl (ty := .boolean) (by decide +kernel) (by rcases hx with rfl | rfl <;> decide +kernel) (by rcases hx with rfl | rfl <;> decide +kernel) (Nat.le_of_ble_eq_true rfl) hd kk
theorem gf_X4_77 (C : Cx p l s m args meth c D n0 RX4 cc nL) {k : Nat} (hk : isV k) {v : Int32} (hv : κ k 1 = v) (hd : decode cc pc = .ok (.getfield 77, 3)) (kk : ZZ p l e R s m args below meth c D n0 127 nL cells slots Q (κ, μ, o) (pc + 3) ls (.int v :: st)) : ZZ p l e R s m args below meth c D n0 127 nL cells slots Q (κ, μ, o) pc ls (.ref (n0 + k) :: st) := by subst hv; exact z_getf C 1 (enc_V hk) (by have := hk.2.1; omega) rfl in_X3 (by decide) wd_87 rfl rfl hd kk
theorem pf_X4_77 (C : Cx p l s m args meth c D n0 RX4 cc nL) {k : Nat} (hk : isV k) {x : Int32} (hx : x = 0 ∨ x = 1) (hd : decode cc pc = .ok (.putfield 77, 3)) (kk : ZZ p l e R s m args below meth c D n0 127 nL cells slots Q (up κ k 1 x, μ, o) (pc + 3) ls st) : ZZ p l e R s m args below meth c D n0 127 nL cells slots Q (κ, μ, o) pc ls (.int x :: .ref (n0 + k) :: st) := z_putf (σ1 := (up κ k 1 x, μ, o)) C 1 tyX3 (enc_V hk) (by rw [enc_V hk]; simp [up]) (fun j hj => enc_up hj) (by have := hk.2.1; omega) rfl in_X3 tyX3_ok nmX3 (by decide) wd_87 rfl rfl (ty := .boolean) (by decide +kernel) (by rcases hx with rfl | rfl <;> decide +kernel) (by rcases hx with rfl | rfl <;> decide +kernel) (Nat.le_of_ble_eq_true rfl) hd kk
theorem gf_X2_34 (C : Cx p l s m args meth c D n0 RX2 cc nL) {k : Nat} (hk : isV k) {v : Int32} (hv : κ k 1 = v) (hd : decode cc pc = .ok (.getfield 34, 3)) (kk : ZZ p l e R s m args below meth c D n0 127 nL cells slots Q (κ, μ, o) (pc + 3) ls (.int v :: st)) : ZZ p l e R s m args below meth c D n0 127 nL cells slots Q (κ, μ, o) pc ls (.ref (n0 + k) :: st) := by subst hv; exact z_getf C 1 (enc_V hk) (by have := hk.2.1; omega) rfl in_X3 (by decide) wd_88 rfl rfl hd kk
theorem pf_X2_34 (C : Cx p l s m args meth c D n0 RX2 cc nL) {k : Nat} (hk : isV k) {x : Int32} (hx : x = 0 ∨ x = 1) (hd : decode cc pc = .ok (.putfield 34, 3)) (kk : ZZ p l e R s m args below meth c D n0 127 nL cells slots Q (up κ k 1 x, μ, o) (pc + 3) ls st) : ZZ p l e R s m args below meth c D n0 127 nL cells slots Q (κ, μ, o) pc ls (.int x :: .ref (n0 + k) :: st) := z_putf (σ1 := (up κ k 1 x, μ, o)) C 1 tyX3 (enc_V hk) (by rw [enc_V hk]; simp [up]) (fun j hj => enc_up hj) (by have := hk.2.1; omega) rfl in_X3 tyX3_ok nmX3 (by decide) wd_88 rfl rfl (ty := .boolean) (by decide +kernel) (by rcases hx with rfl | rfl <;> decide +kernel) (by rcases hx with rfl | rfl <;> decide +kernel) (Nat.le_of_ble_eq_true rfl) hd kk
theorem gf_X3_32 (C : Cx p l s m args meth c D n0 RX3 cc nL) {k : Nat} (hk : isV k) {v : Int32} (hv : κ k 1 = v) (hd : decode cc pc = .ok (.getfield 32, 3)) (kk : ZZ p l e R s m args below meth c D n0 127 nL cells slots Q (κ, μ, o) (pc + 3) ls (.int v :: st)) : ZZ p l e R s m args below meth c D n0 127 nL cells slots Q (κ, μ, o) pc ls (.ref (n0 + k) :: st) := by subst hv; exact z_getf C 1 (enc_V hk) (by have := hk.2.1; omega) rfl in_X3 (by decide) wd_89 rfl rfl hd kk
theorem pf_X3_32 (C : Cx p l s m args meth c D n0 RX3 cc nL) {k : Nat} (hk : isV k) {x : Int32} (hx : x = 0 ∨ x = 1) (hd : decode cc pc = .ok (.putfield 32, 3)) (kk : ZZ p l e R s m args below meth c D n0 127 nL cells slots Q (up κ k 1 x, μ, o) (pc + 3) ls st) : ZZ p l e R s m args below meth c D n0 127 nL cells slots Q (κ, μ, o) pc ls (.int x :: .ref (n0 + k) :: st) := z_putf (σ1 := (up κ k 1 x, μ, o)) C 1 tyX3 (enc_V hk) (by rw [enc_V hk]; simp [up]) (fun j hj => enc_up hj) (by have := hk.2.1; omega) rfl in_X3 tyX3_ok nmX3 (by decide) wd_89 rfl rfl (ty := .boolean) (by decide +kernel) (by rcases hx with rfl | rfl <;> decide +kernel) (by rcases hx with rfl | rfl <;> decide +kernel) (Nat.le_of_ble_eq_true rfl) hd kk
theorem gf_X4_74 (C : Cx p l s m args meth c D n0 RX4 cc nL) {k : Nat} (hk : isV k) {v : Int32} (hv : κ k 2 = v) (hd : decode cc pc = .ok (.getfield 74, 3)) (kk : ZZ p l e R s m args below meth c D n0 127 nL cells slots Q (κ, μ, o) (pc + 3) ls (.int v :: st)) : ZZ p l e R s m args below meth c D n0 127 nL cells slots Q (κ, μ, o) pc ls (.ref (n0 + k) :: st) := by subst hv; exact z_getf C 2 (enc_V hk) (by have := hk.2.1; omega) rfl in_X3 (by decide) wd_90 rfl rfl hd kk
theorem pf_X4_74 (C : Cx p l s m args meth c D n0 RX4 cc nL) {k : Nat} (hk : isV k) {x : Int32} (hd : decode cc pc = .ok (.putfield 74, 3)) (kk : ZZ p l e R s m args below meth c D n0 127 nL cells slots Q (up κ k 2 x, μ, o) (pc + 3) ls st) : ZZ p l e R s m args below meth c D n0 127 nL cells slots Q (κ, μ, o) pc ls (.int x :: .ref (n0 + k) :: st) := z_putf (σ1 := (up κ k 2 x, μ, o)) C 2 tyX3 (enc_V hk) (by rw [enc_V hk]; simp [up]) (fun j hj => enc_up hj) (by have := hk.2.1; omega) rfl in_X3 tyX3_ok nmX3 (by decide) wd_90 rfl rfl (ty := .int) (by decide +kernel) rfl rfl (Nat.le_of_ble_eq_true rfl) hd kk
theorem gf_X2_30 (C : Cx p l s m args meth c D n0 RX2 cc nL) {k : Nat} (hk : isV k) {v : Int32} (hv : κ k 2 = v) (hd : decode cc pc = .ok (.getfield 30, 3)) (kk : ZZ p l e R s m args below meth c D n0 127 nL cells slots Q (κ, μ, o) (pc + 3) ls (.int v :: st)) : ZZ p l e R s m args below meth c D n0 127 nL cells slots Q (κ, μ, o) pc ls (.ref (n0 + k) :: st) := by subst hv; exact z_getf C 2 (enc_V hk) (by have := hk.2.1; omega) rfl in_X3 (by decide) wd_91 rfl rfl hd kk
theorem pf_X2_30 (C : Cx p l s m args meth c D n0 RX2 cc nL) {k : Nat} (hk : isV k) {x : Int32} (hd : decode cc pc = .ok (.putfield 30, 3)) (kk : ZZ p l e R s m args below meth c D n0 127 nL cells slots Q (up κ k 2 x, μ, o) (pc + 3) ls st) : ZZ p l e R s m args below meth c D n0 127 nL cells slots Q (κ, μ, o) pc ls (.int x :: .ref (n0 + k) :: st) := z_putf (σ1 := (up κ k 2 x, μ, o)) C 2 tyX3 (enc_V hk) (by rw [enc_V hk]; simp [up]) (fun j hj => enc_up hj) (by have := hk.2.1; omega) rfl in_X3 tyX3_ok nmX3 (by decide) wd_91 rfl rfl (ty := .int) (by decide +kernel) rfl rfl (Nat.le_of_ble_eq_true rfl) hd kk
theorem gf_X3_35 (C : Cx p l s m args meth c D n0 RX3 cc nL) {k : Nat} (hk : isV k) {v : Int32} (hv : κ k 2 = v) (hd : decode cc pc = .ok (.getfield 35, 3)) (kk : ZZ p l e R s m args below meth c D n0 127 nL cells slots Q (κ, μ, o) (pc + 3) ls (.int v :: st)) : ZZ p l e R s m args below meth c D n0 127 nL cells slots Q (κ, μ, o) pc ls (.ref (n0 + k) :: st) := by subst hv; exact z_getf C 2 (enc_V hk) (by have := hk.2.1; omega) rfl in_X3 (by decide) wd_92 rfl rfl hd kk
theorem pf_X3_35 (C : Cx p l s m args meth c D n0 RX3 cc nL) {k : Nat} (hk : isV k) {x : Int32} (hd : decode cc pc = .ok (.putfield 35, 3)) (kk : ZZ p l e R s m args below meth c D n0 127 nL cells slots Q (up κ k 2 x, μ, o) (pc + 3) ls st) : ZZ p l e R s m args below meth c D n0 127 nL cells slots Q (κ, μ, o) pc ls (.int x :: .ref (n0 + k) :: st) := z_putf (σ1 := (up κ k 2 x, μ, o)) C 2 tyX3 (enc_V hk) (by rw [enc_V hk]; simp [up]) (fun j hj => enc_up hj) (by have := hk.2.1; omega) rfl in_X3 tyX3_ok nmX3 (by decide) wd_92 rfl rfl (ty := .int) (by decide +kernel) rfl rfl (Nat.le_of_ble_eq_true rfl) hd kk
theorem gf_X3_21 (C : Cx p l s m args meth c D n0 RX3 cc nL) {k : Nat} (hk : isV k) {v : Int32} (hv : κ k 3 = v) (hd : decode cc pc = .ok (.getfield 21, 3)) (kk : ZZ p l e R s m args below meth c D n0 127 nL cells slots Q (κ, μ, o) (pc + 3) ls (.int v :: st)) : ZZ p l e R s m args below meth c D n0 127 nL cells slots Q (κ, μ, o) pc ls (.ref (n0 + k) :: st) := by subst hv; exact z_getf C 3 (enc_V hk) (by have := hk.2.1; omega) rfl in_X3 (by decide) wd_93 rfl rfl hd kk
theorem pf_X3_21 (C : Cx p l s m args meth c D n0 RX3 cc nL) {k : Nat} (hk : isV k) {x : Int32} (hd : decode cc pc = .ok (.putfield 21, 3)) (kk : ZZ p l e R s m args below meth c D n0 127 nL cells slots Q (up κ k 3 x, μ, o) (pc + 3) ls st) : ZZ p l e R s m args below meth c D n0 127 nL cells slots Q (κ, μ, o) pc ls (.int x :: .ref (n0 + k) :: st) := z_putf (σ1 := (up κ k 3 x, μ, o)) C 3 tyX3 (enc_V hk) (by rw [enc_V hk]; simp [up]) (fun j hj => enc_up hj) (by have := hk.2.1; omega) rfl in_X3 tyX3_ok nmX3 (by decide) wd_93 rfl rfl (ty := .int) (by decide +kernel) rfl rfl (Nat.le_of_ble_eq_true rfl) hd kk
theorem gf_X4_80 (C : Cx p l s m args meth c D n0 RX4 cc nL) {k : Nat} (hk : isV k) {v : Int32} (hv : κ k 3 = v) (hd : decode cc pc = .ok (.getfield 80, 3)) (kk : ZZ p l e R s m args below meth c D n0 127 nL cells slots Q (κ, μ, o) (pc + 3) ls (.int v :: st)) : ZZ p l e R s m args below meth c D n0 127 nL cells slots Q (κ, μ, o) pc ls (.ref (n0 + k) :: st) := by subst hv; exact z_getf C 3 (enc_V hk) (by have := hk.2.1; omega) rfl in_X3 (by decide) wd_94 rfl rfl hd kk
theorem pf_X4_80 (C : Cx p l s m args meth c D n0 RX4 cc nL) {k : Nat} (hk : isV k) {x : Int32} (hd : decode cc pc = .ok (.putfield 80, 3)) (kk : ZZ p l e R s m args below meth c D n0 127 nL cells slots Q (up κ k 3 x, μ, o) (pc + 3) ls st) : ZZ p l e R s m args below meth c D n0 127 nL cells slots Q (κ, μ, o) pc ls (.int x :: .ref (n0 + k) :: st) := z_putf (σ1 := (up κ k 3 x, μ, o)) C 3 tyX3 (enc_V hk) (by rw [enc_V hk]; simp [up]) (fun j hj => enc_up hj) (by have := hk.2.1; omega) rfl in_X3 tyX3_ok nmX3 (by decide) wd_94 rfl rfl (ty := .int) (by decide +kernel) rfl rfl (Nat.le_of_ble_eq_true rfl) hd kk
theorem gf_X2_37 (C : Cx p l s m args meth c D n0 RX2 cc nL) {k : Nat} (hk : isV k) {v : Int32} (hv : κ k 3 = v) (hd : decode cc pc = .ok (.getfield 37, 3)) (kk : ZZ p l e R s m args below meth c D n0 127 nL cells slots Q (κ, μ, o) (pc + 3) ls (.int v :: st)) : ZZ p l e R s m args below meth c D n0 127 nL cells slots Q (κ, μ, o) pc ls (.ref (n0 + k) :: st) := by subst hv; exact z_getf C 3 (enc_V hk) (by have := hk.2.1; omega) rfl in_X3 (by decide) wd_95 rfl rfl hd kk
theorem pf_X2_37 (C : Cx p l s m args meth c D n0 RX2 cc nL) {k : Nat} (hk : isV k) {x : Int32} (hd : decode cc pc = .ok (.putfield 37, 3)) (kk : ZZ p l e R s m args below meth c D n0 127 nL cells slots Q (up κ k 3 x, μ, o) (pc + 3) ls st) : ZZ p l e R s m args below meth c D n0 127 nL cells slots Q (κ, μ, o) pc ls (.int x :: .ref (n0 + k) :: st) := z_putf (σ1 := (up κ k 3 x, μ, o)) C 3 tyX3 (enc_V hk) (by rw [enc_V hk]; simp [up]) (fun j hj => enc_up hj) (by have := hk.2.1; omega) rfl in_X3 tyX3_ok nmX3 (by decide) wd_95 rfl rfl (ty := .int) (by decide +kernel) rfl rfl (Nat.le_of_ble_eq_true rfl) hd kk
theorem gf_X3_25 (C : Cx p l s m args meth c D n0 RX3 cc nL) {k : Nat} (hk : isV k) {v : Int32} (hv : κ k 4 = v) (hd : decode cc pc = .ok (.getfield 25, 3)) (kk : ZZ p l e R s m args below meth c D n0 127 nL cells slots Q (κ, μ, o) (pc + 3) ls (.int v :: st)) : ZZ p l e R s m args below meth c D n0 127 nL cells slots Q (κ, μ, o) pc ls (.ref (n0 + k) :: st) := by subst hv; exact z_getf C 4 (enc_V hk) (by have := hk.2.1; omega) rfl in_X3 (by decide) wd_96 rfl rfl hd kk
theorem pf_X3_25 (C : Cx p l s m args meth c D n0 RX3 cc nL) {k : Nat} (hk : isV k) {x : Int32} (hd : decode cc pc = .ok (.putfield 25, 3)) (kk : ZZ p l e R s m args below meth c D n0 127 nL cells slots Q (up κ k 4 x, μ, o) (pc + 3) ls st) : ZZ p l e R s m args below meth c D n0 127 nL cells slots Q (κ, μ, o) pc ls (.int x :: .ref (n0 + k) :: st) := z_putf (σ1 := (up κ k 4 x, μ, o)) C 4 tyX3 (enc_V hk) (by rw [enc_V hk]; simp [up]) (fun j hj => enc_up hj) (by have := hk.2.1; omega) rfl in_X3 tyX3_ok nmX3 (by decide) wd_96 rfl rfl (ty := .int) (by decide +kernel) rfl rfl (Nat.le_of_ble_eq_true rfl) hd kk
theorem gf_X2_40 (C : Cx p l s m args meth c D n0 RX2 cc nL) {k : Nat} (hk : isV k) {v : Int32} (hv : κ k 4 = v) (hd : decode cc pc = .ok (.getfield 40, 3)) (kk : ZZ p l e R s m args below meth c D n0 127 nL cells slots Q (κ, μ, o) (pc + 3) ls (.int v :: st)) : ZZ p l e R s m args below meth c D n0 127 nL cells slots Q (κ, μ, o) pc ls (.ref (n0 + k) :: st) := by subst hv; exact z_getf C 4 (enc_V hk) (by have := hk.2.1; omega) rfl in_X3 (by decide) wd_97 rfl rfl hd kk
theorem pf_X2_40 (C : Cx p l s m args meth c D n0 RX2 cc nL) {k : Nat} (hk : isV k) {x : Int32} (hd : decode cc pc = .ok (.putfield 40, 3)) (kk : ZZ p l e R s m args below meth c D n0 127 nL cells slots Q (up κ k 4 x, μ, o) (pc + 3) ls st) : ZZ p l e R s m args below meth c D n0 127 nL cells slots Q (κ, μ, o) pc ls (.int x :: .ref (n0 + k) :: st) := z_putf (σ1 := (up κ k 4 x, μ, o)) C 4 tyX3 (enc_V hk) (by rw [enc_V hk]; simp [up]) (fun j hj => enc_up hj) (by have := hk.2.1; omega) rfl in_X3 tyX3_ok nmX3 (by decide) wd_97 rfl rfl (ty := .int) (by decide +kernel) rfl rfl (Nat.le_of_ble_eq_true rfl) hd kk
theorem gf_X4_238 (C : Cx p l s m args meth c D n0 RX4 cc nL) {k : Nat} (hk : isV k) {v : Int32} (hv : κ k 4 = v) (hd : decode cc pc = .ok (.getfield 238, 3)) (kk : ZZ p l e R s m args below meth c D n0 127 nL cells slots Q (κ, μ, o) (pc + 3) ls (.int v :: st)) : ZZ p l e R s m args below meth c D n0 127 nL cells slots Q (κ, μ, o) pc ls (.ref (n0 + k) :: st) := by subst hv; exact z_getf C 4 (enc_V hk) (by have := hk.2.1; omega) rfl in_X3 (by decide) wd_98 rfl rfl hd kk
theorem pf_X4_238 (C : Cx p l s m args meth c D n0 RX4 cc nL) {k : Nat} (hk : isV k) {x : Int32} (hd : decode cc pc = .ok (.putfield 238, 3)) (kk : ZZ p l e R s m args below meth c D n0 127 nL cells slots Q (up κ k 4 x, μ, o) (pc + 3) ls st) : ZZ p l e R s m args below meth c D n0 127 nL cells slots Q (κ, μ, o) pc ls (.int x :: .ref (n0 + k) :: st) := z_putf (σ1 := (up κ k 4 x, μ, o)) C 4 tyX3 (enc_V hk) (by rw [enc_V hk]; simp [up]) (fun j hj => enc_up hj) (by have := hk.2.1; omega) rfl in_X3 tyX3_ok nmX3 (by decide) wd_98 rfl rfl (ty := .int) (by decide +kernel) rfl rfl (Nat.le_of_ble_eq_true rfl) hd kk
theorem gf_X4_91 (C : Cx p l s m args meth c D n0 RX4 cc nL) {k : Nat} (hk : isV k) {v : Int32} (hv : κ k 5 = v) (hd : decode cc pc = .ok (.getfield 91, 3)) (kk : ZZ p l e R s m args below meth c D n0 127 nL cells slots Q (κ, μ, o) (pc + 3) ls (.int v :: st)) : ZZ p l e R s m args below meth c D n0 127 nL cells slots Q (κ, μ, o) pc ls (.ref (n0 + k) :: st) := by subst hv; exact z_getf C 5 (enc_V hk) (by have := hk.2.1; omega) rfl in_X3 (by decide) wd_99 rfl rfl hd kk
theorem pf_X4_91 (C : Cx p l s m args meth c D n0 RX4 cc nL) {k : Nat} (hk : isV k) {x : Int32} (hd : decode cc pc = .ok (.putfield 91, 3)) (kk : ZZ p l e R s m args below meth c D n0 127 nL cells slots Q (up κ k 5 x, μ, o) (pc + 3) ls st) : ZZ p l e R s m args below meth c D n0 127 nL cells slots Q (κ, μ, o) pc ls (.int x :: .ref (n0 + k) :: st) := z_putf (σ1 := (up κ k 5 x, μ, o)) C 5 tyX3 (enc_V hk) (by rw [enc_V hk]; simp [up]) (fun j hj => enc_up hj) (by have := hk.2.1; omega) rfl in_X3 tyX3_ok nmX3 (by decide) wd_99 rfl rfl (ty := .int) (by decide +kernel) rfl rfl (Nat.le_of_ble_eq_true rfl) hd kk
theorem gf_X3_38 (C : Cx p l s m args meth c D n0 RX3 cc nL) {k : Nat} (hk : isV k) {v : Int32} (hv : κ k 5 = v) (hd : decode cc pc = .ok (.getfield 38, 3)) (kk : ZZ p l e R s m args below meth c D n0 127 nL cells slots Q (κ, μ, o) (pc + 3) ls (.int v :: st)) : ZZ p l e R s m args below meth c D n0 127 nL cells slots Q (κ, μ, o) pc ls (.ref (n0 + k) :: st) := by subst hv; exact z_getf C 5 (enc_V hk) (by have := hk.2.1; omega) rfl in_X3 (by decide) wd_100 rfl rfl hd kk
theorem pf_X3_38 (C : Cx p l s m args meth c D n0 RX3 cc nL) {k : Nat} (hk : isV k) {x : Int32} (hd : decode cc pc = .ok (.putfield 38, 3)) (kk : ZZ p l e R s m args below meth c D n0 127 nL cells slots Q (up κ k 5 x, μ, o) (pc + 3) ls st) : ZZ p l e R s m args below meth c D n0 127 nL cells slots Q (κ, μ, o) pc ls (.int x :: .ref (n0 + k) :: st) := z_putf (σ1 := (up κ k 5 x, μ, o)) C 5 tyX3 (enc_V hk) (by rw [enc_V hk]; simp [up]) (fun j hj => enc_up hj) (by have := hk.2.1; omega) rfl in_X3 tyX3_ok nmX3 (by decide) wd_100 rfl rfl (ty := .int) (by decide +kernel) rfl rfl (Nat.le_of_ble_eq_true rfl) hd kk
theorem gf_X2_53 (C : Cx p l s m args meth c D n0 RX2 cc nL) {k : Nat} (hk : isV k) {v : Int32} (hv : κ k 5 = v) (hd : decode cc pc = .ok (.getfield 53, 3)) (kk : ZZ p l e R s m args below meth c D n0 127 nL cells slots Q (κ, μ, o) (pc + 3) ls (.int v :: st)) : ZZ p l e R s m args below meth c D n0 127 nL cells slots Q (κ, μ, o) pc ls (.ref (n0 + k) :: st) := by subst hv; exact z_getf C 5 (enc_V hk) (by have := hk.2.1; omega) rfl in_X3 (by decide) wd_101 rfl rfl hd kk
theorem pf_X2_53 (C : Cx p l s m args meth c D n0 RX2 cc nL) {k : Nat} (hk : isV k) {x : Int32} (hd : decode cc pc = .ok (.putfield 53, 3)) (kk : ZZ p l e R s m args below meth c D n0 127 nL cells slots Q (up κ k 5 x, μ, o) (pc + 3) ls st) : ZZ p l e R s m args below meth c D n0 127 nL cells slots Q (κ, μ, o) pc ls (.int x :: .ref (n0 + k) :: st) := z_putf (σ1 := (up κ k 5 x, μ, o)) C 5 tyX3 (enc_V hk) (by rw [enc_V hk]; simp [up]) (fun j hj => enc_up hj) (by have := hk.2.1; omega) rfl in_X3 tyX3_ok nmX3 (by decide) wd_101 rfl rfl (ty := .int) (by decide +kernel) rfl rfl (Nat.le_of_ble_eq_true rfl) hd kk
theorem gf_X3_9 (C : Cx p l s m args meth c D n0 RX3 cc nL) {k : Nat} (hk : isV k) (hd : decode cc pc = .ok (.getfield 9, 3)) (kk : ZZ p l e R s m args below meth c D n0 127 nL cells slots Q (κ, μ, o) (pc + 3) ls (.ref (n0 + (k + 1)) :: st)) : ZZ p l e R s m args below meth c D n0 127 nL cells slots Q (κ, μ, o) pc ls (.ref (n0 + k) :: st) := z_getf C 6 (enc_V hk) (by have := hk.2.1; omega) rfl in_X3 (by decide) wd_102 rfl rfl hd kk
theorem gf_X2_63 (C : Cx p l s m args meth c D n0 RX2 cc nL) {b : Nat} (hb : isS b) {v : Int32} (hv : κ b 0 = v) (hd : decode cc pc = .ok (.getfield 63, 3)) (kk : ZZ p l e R s m args below meth c D n0 127 nL cells slots Q (κ, μ, o) (pc + 3) ls (.int v :: st)) : ZZ p l e R s m args below meth c D n0 127 nL cells slots Q (κ, μ, o) pc ls (.ref (n0 + b) :: st) := by subst hv; exact z_getf C 0 (enc_S hb) (by rcases hb with rfl | rfl | rfl <;> decide) rfl in_X2 (by decide) wd_119 rfl rfl hd kk
theorem pf_X2_63 (C : Cx p l s m args meth c D n0 RX2 cc nL) {b : Nat} (hb : isS b) {x : Int32} (hd : decode cc pc = .ok (.putfield 63, 3)) (kk : ZZ p l e R s m args below meth c D n0 127 nL cells slots Q (up κ b 0 x, μ, o) (pc + 3) ls st) : ZZ p l e R s m args below meth c D n0 127 nL cells slots Q (κ, μ, o) pc ls (.int x :: .ref (n0 + b) :: st) := z_putf (σ1 := (up κ b 0 x, μ, o)) C 0 tyX2 (enc_S hb) (by rw [enc_S hb]; simp [up]) (fun j hj => enc_up hj) (by rcases hb with rfl | rfl | rfl <;> decide) rfl in_X2 tyX2_ok nmX2 (by decide) wd_119 rfl rfl (ty := .int) (by decide +kernel) rfl rfl (Nat.le_of_ble_eq_true rfl) hd kk
theorem gf_X4_177 (C : Cx p l s m args meth c D n0 RX4 cc nL) {b : Nat} (hb : isS b) {v : Int32} (hv : κ b 0 = v) (hd : decode cc pc = .ok (.getfield 177, 3)) (kk : ZZ p l e R s m args below meth c D n0 127 nL cells slots Q (κ, μ, o) (pc + 3) ls (.int v :: st)) : ZZ p l e R s m args below meth c D n0 127 nL cells slots Q (κ, μ, o) pc ls (.ref (n0 + b) :: st) := by subst hv; exact z_getf C 0 (enc_S hb) (by rcases hb with rfl | rfl | rfl <;> decide) rfl in_X2 (by decide) wd_120 rfl rfl hd kk
theorem pf_X4_177 (C : Cx p l s m args meth c D n0 RX4 cc nL) {b : Nat} (hb : isS b) {x : Int32} (hd : decode cc pc = .ok (.putfield 177, 3)) (kk : ZZ p l e R s m args below meth c D n0 127 nL cells slots Q (up κ b 0 x, μ, o) (pc + 3) ls st) : ZZ p l e R s m args below meth c D n0 127 nL cells slots Q (κ, μ, o) pc ls (.int x :: .ref (n0 + b) :: st) := z_putf (σ1 := (up κ b 0 x, μ, o)) C 0 tyX2 (enc_S hb) (by rw [enc_S hb]; simp [up]) (fun j hj => enc_up hj) (by rcases hb with rfl | rfl | rfl <;> decide) rfl in_X2 tyX2_ok nmX2 (by decide) wd_120 rfl rfl (ty := .int) (by decide +kernel) rfl rfl (Nat.le_of_ble_eq_true rfl) hd kk
theorem gf_X4_67 (C : Cx p l s m args meth c D n0 RX4 cc nL) {b : Nat} (hb : isS b) {v : Int32} (hv : κ b 1 = v) (hd : decode cc pc = .ok (.getfield 67, 3)) (kk : ZZ p l e R s m args below meth c D n0 127 nL cells slots Q (κ, μ, o) (pc + 3) ls (.int v :: st)) : ZZ p l e R s m args below meth c D n0 127 nL cells slots Q (κ, μ, o) pc ls (.ref (n0 + b) :: st) := by subst hv; exact z_getf C 1 (enc_S hb) (by rcases hb with rfl | rfl | rfl <;> decide) rfl in_X2 (by decide) wd_121 rfl rfl hd kk
theorem pf_X4_67 (C : Cx p l s m args meth c D n0 RX4 cc nL) {b : Nat} (hb : isS b) {x : Int32} (hd : decode cc pc = .ok (.putfield 67, 3)) (kk : ZZ p l e R s m args below meth c D n0 127 nL cells slots Q (up κ b 1 x, μ, o) (pc + 3) ls st) : ZZ p l e R s m args below meth c D n0 127 nL cells slots Q (κ, μ, o) pc ls (.int x :: .ref (n0 + b) :: st) := z_putf (σ1 := (up κ b 1 x, μ, o)) C 1 tyX2 (enc_S hb) (by rw [enc_S hb]; simp [up]) (fun j hj => enc_up hj) (by rcases hb with rfl | rfl | rfl <;> decide) rfl in_X2 tyX2_ok nmX2 (by decide) wd_121 rfl rfl (ty := .int) (by decide +kernel) rfl rfl (Nat.le_of_ble_eq_true rfl) hd kk
theorem gf_X2_43 (C : Cx p l s m args meth c D n0 RX2 cc nL) {b : Nat} (hb : isS b) {v : Int32} (hv : κ b 1 = v) (hd : decode cc pc = .ok (.getfield 43, 3)) (kk : ZZ p l e R s m args below meth c D n0 127 nL cells slots Q (κ, μ, o) (pc + 3) ls (.int v :: st)) : ZZ p l e R s m args below meth c D n0 127 nL cells slots Q (κ, μ, o) pc ls (.ref (n0 + b) :: st) := by subst hv; exact z_getf C 1 (enc_S hb) (by rcases hb with rfl | rfl | rfl <;> decide) rfl in_X2 (by decide) wd_122 rfl rfl hd kk
theorem pf_X2_43 (C : Cx p l s m args meth c D n0 RX2 cc nL) {b : Nat} (hb : isS b) {x : Int32} (hd : decode cc pc = .ok (.putfield 43, 3)) (kk : ZZ p l e R s m args below meth c D n0 127 nL cells slots Q (up κ b 1 x, μ, o) (pc + 3) ls st) : ZZ p l e R s m args below meth c D n0 127 nL cells slots Q (κ, μ, o) pc ls (.int x :: .ref (n0 + b) :: st) := z_putf (σ1 := (up κ b 1 x, μ, o)) C 1 tyX2 (enc_S hb) (by rw [enc_S hb]; simp [up]) (fun j hj => enc_up hj) (by rcases hb with rfl | rfl | rfl <;> decide) rfl in_X2 tyX2_ok nmX2 (by decide) wd_122 rfl rfl (ty := .int) (by decide +kernel) rfl rfl (Nat.le_of_ble_eq_true rfl) hd kk
theorem gf_X2_11 (C : Cx p l s m args meth c D n0 RX2 cc nL) {b : Nat} (hb : isS b) (hd : decode cc pc = .ok (.getfield 11, 3)) (kk : ZZ p l e R s m args below meth c D n0 127 nL cells slots Q (κ, μ, o) (pc + 3) ls (.ref (n0 + (b + 1)) :: st)) : ZZ p l e R s m args below meth c D n0 127 nL cells slots Q (κ, μ, o) pc ls (.ref (n0 + b) :: st) := z_getf C 2 (enc_S hb) (by rcases hb with rfl | rfl | rfl <;> decide) rfl in_X2 (by decide) wd_123 rfl rfl hd kk
theorem gf_X2_18 (C : Cx p l s m args meth c D n0 RX2 cc nL) {b : Nat} (hb : isS b) (hd : decode cc pc = .ok (.getfield 18, 3)) (kk : ZZ p l e R s m args below meth c D n0 127 nL cells slots Q (κ, μ, o) (pc + 3) ls (.ref (n0 + (b + 34)) :: st)) : ZZ p l e R s m args below meth c D n0 127 nL cells slots Q (κ, μ, o) pc ls (.ref (n0 + b) :: st) := z_getf C 3 (enc_S hb) (by rcases hb with rfl | rfl | rfl <;> decide) rfl in_X2 (by decide) wd_124 rfl rfl hd kk
theorem gf_X0_25 (C : Cx p l s m args meth c D n0 RX0 cc nL)  {v : Int32} (hv : κ 106 0 = v) (hd : decode cc pc = .ok (.getfield 25, 3)) (kk : ZZ p l e R s m args below meth c D n0 127 nL cells slots Q (κ, μ, o) (pc + 3) ls (.int v :: st)) : ZZ p l e R s m args below meth c D n0 127 nL cells slots Q (κ, μ, o) pc ls (.ref (n0 + 106) :: st) := by subst hv; exact z_getf C 0 enc_P (by decide) rfl in_X0 (by decide) wd_140 rfl rfl hd kk
theorem pf_X0_25 (C : Cx p l s m args meth c D n0 RX0 cc nL)  {x : Int32} (hd : decode cc pc = .ok (.putfield 25, 3)) (kk : ZZ p l e R s m args below meth c D n0 127 nL cells slots Q (up κ 106 0 x, μ, o) (pc + 3) ls st) : ZZ p l e R s m args below meth c D n0 127 nL cells slots Q (κ, μ, o) pc ls (.int x :: .ref (n0 + 106) :: st) := z_putf (σ1 := (up κ 106 0 x, μ, o)) C 0 tyX0 enc_P rfl (fun j hj => enc_up hj) (by decide) rfl in_X0 tyX0_ok nmX0 (by decide) wd_140 rfl rfl (ty := .int) (by decide +kernel) rfl rfl (Nat.le_of_ble_eq_true rfl) hd kk
theorem gf_X4_156 (C : Cx p l s m args meth c D n0 RX4 cc nL)  {v : Int32} (hv : κ 106 0 = v) (hd : decode cc pc = .ok (.getfield 156, 3)) (kk : ZZ p l e R s m args below meth c D n0 127 nL cells slots Q (κ, μ, o) (pc + 3) ls (.int v :: st)) : ZZ p l e R s m args below meth c D n0 127 nL cells slots Q (κ, μ, o) pc ls (.ref (n0 + 106) :: st) := by subst hv; exact z_getf C 0 enc_P (by decide) rfl in_X0 (by decide) wd_141 rfl rfl hd kk
theorem pf_X4_156 (C : Cx p l s m args meth c D n0 RX4 cc nL)  {x : Int32} (hd : decode cc pc = .ok (.putfield 156, 3)) (kk : ZZ p l e R s m args below meth c D n0 127 nL cells slots Q (up κ 106 0 x, μ, o) (pc + 3) ls st) : ZZ p l e R s m args below meth c D n0 127 nL cells slots Q (κ, μ, o) pc ls (.int x :: .ref (n0 + 106) :: st) := z_putf (σ1 := (up κ 106 0 x, μ, o)) C 0 tyX0 enc_P rfl (fun j hj => enc_up hj) (by decide) rfl in_X0 tyX0_ok nmX0 (by decide) wd_141 rfl rfl (ty := .int) (by decide +kernel) rfl rfl (Nat.le_of_ble_eq_true rfl) hd kk
theorem gf_X0_39 (C : Cx p l s m args meth c D n0 RX0 cc nL)  {v : Int32} (hv : κ 106 1 = v) (hd : decode cc pc = .ok (.getfield 39, 3)) (kk : ZZ p l e R s m args below meth c D n0 127 nL cells slots Q (κ, μ, o) (pc + 3) ls (.int v :: st)) : ZZ p l e R s m args below meth c D n0 127 nL cells slots Q (κ, μ, o) pc ls (.ref (n0 + 106) :: st) := by subst hv; exact z_getf C 1 enc_P (by decide) rfl in_X0 (by decide) wd_142 rfl rfl hd kk
theorem pf_X0_39 (C : Cx p l s m args meth c D n0 RX0 cc nL)  {x : Int32} (hd : decode cc pc = .ok (.putfield 39, 3)) (kk : ZZ p l e R s m args below meth c D n0 127 nL cells slots Q (up κ 106 1 x, μ, o) (pc + 3) ls st) : ZZ p l e R s m args below meth c D n0 127 nL cells slots Q (κ, μ, o) pc ls (.int x :: .ref (n0 + 106) :: st) := z_putf (σ1 := (up κ 106 1 x, μ, o)) C 1 tyX0 enc_P rfl (fun j hj => enc_up hj) (by decide) rfl in_X0 tyX0_ok nmX0 (by decide) wd_142 rfl rfl (ty := .int) (by decide +kernel) rfl rfl (Nat.le_of_ble_eq_true rfl) hd kk
theorem gf_X4_161 (C : Cx p l s m args meth c D n0 RX4 cc nL)  {v : Int32} (hv : κ 106 1 = v) (hd : decode cc pc = .ok (.getfield 161, 3)) (kk : ZZ p l e R s m args below meth c D n0 127 nL cells slots Q (κ, μ, o) (pc + 3) ls (.int v :: st)) : ZZ p l e R s m args below meth c D n0 127 nL cells slots Q (κ, μ, o) pc ls (.ref (n0 + 106) :: st) := by subst hv; exact z_getf C 1 enc_P (by decide) rfl in_X0 (by decide) wd_143 rfl rfl hd kk
theorem pf_X4_161 (C : Cx p l s m args meth c D n0 RX4 cc nL)  {x : Int32} (hd : decode cc pc = .ok (.putfield 161, 3)) (kk : ZZ p l e R s m args below meth c D n0 127 nL cells slots Q (up κ 106 1 x, μ, o) (pc + 3) ls st) : ZZ p l e R s m args below meth c D n0 127 nL cells slots Q (κ, μ, o) pc ls (.int x :: .ref (n0 + 106) :: st) := z_putf (σ1 := (up κ 106 1 x, μ, o)) C 1 tyX0 enc_P rfl (fun j hj => enc_up hj) (by decide) rfl in_X0 tyX0_ok nmX0 (by decide) wd_143 rfl rfl (ty := .int) (by decide +kernel) rfl rfl (Nat.le_of_ble_eq_true rfl) hd kk
theorem gf_X4_215 (C : Cx p l s m args meth c D n0 RX4 cc nL)  {v : Int32} (hv : κ 106 2 = v) (hd : decode cc pc = .ok (.getfield 215, 3)) (kk : ZZ p l e R s m args below meth c D n0 127 nL cells slots Q (κ, μ, o) (pc + 3) ls (.int v :: st)) : ZZ p l e R s m args below meth c D n0 127 nL cells slots Q (κ, μ, o) pc ls (.ref (n0 + 106) :: st) := by subst hv; exact z_getf C 2 enc_P (by decide) rfl in_X0 (by decide) wd_144 rfl rfl hd kk
theorem pf_X4_215 (C : Cx p l s m args meth c D n0 RX4 cc nL)  {x : Int32} (hd : decode cc pc = .ok (.putfield 215, 3)) (kk : ZZ p l e R s m args below meth c D n0 127 nL cells slots Q (up κ 106 2 x, μ, o) (pc + 3) ls st) : ZZ p l e R s m args below meth c D n0 127 nL cells slots Q (κ, μ, o) pc ls (.int x :: .ref (n0 + 106) :: st) := z_putf (σ1 := (up κ 106 2 x, μ, o)) C 2 tyX0 enc_P rfl (fun j hj => enc_up hj) (by decide) rfl in_X0 tyX0_ok nmX0 (by decide) wd_144 rfl rfl (ty := .int) (by decide +kernel) rfl rfl (Nat.le_of_ble_eq_true rfl) hd kk
theorem gf_X4_268 (C : Cx p l s m args meth c D n0 RX4 cc nL)  {v : Int32} (hv : κ 106 3 = v) (hd : decode cc pc = .ok (.getfield 268, 3)) (kk : ZZ p l e R s m args below meth c D n0 127 nL cells slots Q (κ, μ, o) (pc + 3) ls (.int v :: st)) : ZZ p l e R s m args below meth c D n0 127 nL cells slots Q (κ, μ, o) pc ls (.ref (n0 + 106) :: st) := by subst hv; exact z_getf C 3 enc_P (by decide) rfl in_X0 (by decide) wd_145 rfl rfl hd kk
theorem pf_X4_268 (C : Cx p l s m args meth c D n0 RX4 cc nL)  {x : Int32} (hd : decode cc pc = .ok (.putfield 268, 3)) (kk : ZZ p l e R s m args below meth c D n0 127 nL cells slots Q (up κ 106 3 x, μ, o) (pc + 3) ls st) : ZZ p l e R s m args below meth c D n0 127 nL cells slots Q (κ, μ, o) pc ls (.int x :: .ref (n0 + 106) :: st) := z_putf (σ1 := (up κ 106 3 x, μ, o)) C 3 tyX0 enc_P rfl (fun j hj => enc_up hj) (by decide) rfl in_X0 tyX0_ok nmX0 (by decide) wd_145 rfl rfl (ty := .int) (by decide +kernel) rfl rfl (Nat.le_of_ble_eq_true rfl) hd kk
theorem gf_X0_42 (C : Cx p l s m args meth c D n0 RX0 cc nL)  {v : Int32} (hv : κ 106 4 = v) (hd : decode cc pc = .ok (.getfield 42, 3)) (kk : ZZ p l e R s m args below meth c D n0 127 nL cells slots Q (κ, μ, o) (pc + 3) ls (.int v :: st)) : ZZ p l e R s m args below meth c D n0 127 nL cells slots Q (κ, μ, o) pc ls (.ref (n0 + 106) :: st) := by subst hv; exact z_getf C 4 enc_P (by decide) rfl in_X0 (by decide) wd_146 rfl rfl hd kk
theorem pf_X0_42 (C : Cx p l s m args meth c D n0 RX0 cc nL)  {x : Int32} (hd : decode cc pc = .ok (.putfield 42, 3)) (kk : ZZ p l e R s m args below meth c D n0 127 nL cells slots Q (up κ 106 4 x, μ, o) (pc + 3) ls st) : ZZ p l e R s m args below meth c D n0 127 nL cells slots Q (κ, μ, o) pc ls (.int x :: .ref (n0 + 106) :: st) := z_putf (σ1 := (up κ 106 4 x, μ, o)) C 4 tyX0 enc_P rfl (fun j hj => enc_up hj) (by decide) rfl in_X0 tyX0_ok nmX0 (by decide) wd_146 rfl rfl (ty := .int) (by decide +kernel) rfl rfl (Nat.le_of_ble_eq_true rfl) hd kk
theorem gf_X4_271 (C : Cx p l s m args meth c D n0 RX4 cc nL)  {v : Int32} (hv : κ 106 4 = v) (hd : decode cc pc = .ok (.getfield 271, 3)) (kk : ZZ p l e R s m args below meth c D n0 127 nL cells slots Q (κ, μ, o) (pc + 3) ls (.int v :: st)) : ZZ p l e R s m args below meth c D n0 127 nL cells slots Q (κ, μ, o) pc ls (.ref (n0 + 106) :: st) := by subst hv; exact z_getf C 4 enc_P (by decide) rfl in_X0 (by decide) wd_147 rfl rfl hd kk
theorem pf_X4_271 (C : Cx p l s m args meth c D n0 RX4 cc nL)  {x : Int32} (hd : decode cc pc = .ok (.putfield 271, 3)) (kk : ZZ p l e R s m args below meth c D n0 127 nL cells slots Q (up κ 106 4 x, μ, o) (pc + 3) ls st) : ZZ p l e R s m args below meth c D n0 127 nL cells slots Q (κ, μ, o) pc ls (.int x :: .ref (n0 + 106) :: st) := z_putf (σ1 := (up κ 106 4 x, μ, o)) C 4 tyX0 enc_P rfl (fun j hj => enc_up hj) (by decide) rfl in_X0 tyX0_ok nmX0 (by decide) wd_147 rfl rfl (ty := .int) (by decide +kernel) rfl rfl (Nat.le_of_ble_eq_true rfl) hd kk
theorem gf_X0_9 (C : Cx p l s m args meth c D n0 RX0 cc nL)  (hd : decode cc pc = .ok (.getfield 9, 3)) (kk : ZZ p l e R s m args below meth c D n0 127 nL cells slots Q (κ, μ, o) (pc + 3) ls (.ref (n0 + 1) :: st)) : ZZ p l e R s m args below meth c D n0 127 nL cells slots Q (κ, μ, o) pc ls (.ref (n0 + 106) :: st) := z_getf C 5 enc_P (by decide) rfl in_X0 (by decide) wd_148 rfl rfl hd kk
theorem gf_X0_15 (C : Cx p l s m args meth c D n0 RX0 cc nL)  (hd : decode cc pc = .ok (.getfield 15, 3)) (kk : ZZ p l e R s m args below meth c D n0 127 nL cells slots Q (κ, μ, o) (pc + 3) ls (.ref (n0 + 36) :: st)) : ZZ p l e R s m args below meth c D n0 127 nL cells slots Q (κ, μ, o) pc ls (.ref (n0 + 106) :: st) := z_getf C 6 enc_P (by decide) rfl in_X0 (by decide) wd_149 rfl rfl hd kk
theorem gf_X0_18 (C : Cx p l s m args meth c D n0 RX0 cc nL)  (hd : decode cc pc = .ok (.getfield 18, 3)) (kk : ZZ p l e R s m args below meth c D n0 127 nL cells slots Q (κ, μ, o) (pc + 3) ls (.ref (n0 + 71) :: st)) : ZZ p l e R s m args below meth c D n0 127 nL cells slots Q (κ, μ, o) pc ls (.ref (n0 + 106) :: st) := z_getf C 7 enc_P (by decide) rfl in_X0 (by decide) wd_150 rfl rfl hd kk
theorem gf_X0_21 (C : Cx p l s m args meth c D n0 RX0 cc nL)  (hd : decode cc pc = .ok (.getfield 21, 3)) (kk : ZZ p l e R s m args below meth c D n0 127 nL cells slots Q (κ, μ, o) (pc + 3) ls (.ref (n0 + 107) :: st)) : ZZ p l e R s m args below meth c D n0 127 nL cells slots Q (κ, μ, o) pc ls (.ref (n0 + 106) :: st) := z_getf C 8 enc_P (by decide) rfl in_X0 (by decide) wd_151 rfl rfl hd kk
theorem gf_X1_21 (C : Cx p l s m args meth c D n0 RX1 cc nL)  {v : Int32} (hv : κ 108 0 = v) (hd : decode cc pc = .ok (.getfield 21, 3)) (kk : ZZ p l e R s m args below meth c D n0 127 nL cells slots Q (κ, μ, o) (pc + 3) ls (.int v :: st)) : ZZ p l e R s m args below meth c D n0 127 nL cells slots Q (κ, μ, o) pc ls (.ref (n0 + 108) :: st) := by subst hv; exact z_getf C 0 enc_Q (by decide) rfl in_X1 (by decide) wd_177 rfl rfl hd kk
theorem pf_X1_21 (C : Cx p l s m args meth c D n0 RX1 cc nL)  {x : Int32} (hd : decode cc pc = .ok (.putfield 21, 3)) (kk : ZZ p l e R s m args below meth c D n0 127 nL cells slots Q (up κ 108 0 x, μ, o) (pc + 3) ls st) : ZZ p l e R s m args below meth c D n0 127 nL cells slots Q (κ, μ, o) pc ls (.int x :: .ref (n0 + 108) :: st) := z_putf (σ1 := (up κ 108 0 x, μ, o)) C 0 tyX1 enc_Q rfl (fun j hj => enc_up hj) (by decide) rfl in_X1 tyX1_ok nmX1 (by decide) wd_177 rfl rfl (ty := .int) (by decide +kernel) rfl rfl (Nat.le_of_ble_eq_true rfl) hd kk
theorem gf_X4_267 (C : Cx p l s m args meth c D n0 RX4 cc nL)  {v : Int32} (hv : κ 108 0 = v) (hd : decode cc pc = .ok (.getfield 267, 3)) (kk : ZZ p l e R s m args below meth c D n0 127 nL cells slots Q (κ, μ, o) (pc + 3) ls (.int v :: st)) : ZZ p l e R s m args below meth c D n0 127 nL cells slots Q (κ, μ, o) pc ls (.ref (n0 + 108) :: st) := by subst hv; exact z_getf C 0 enc_Q (by decide) rfl in_X1 (by decide) wd_178 rfl rfl hd kk
theorem pf_X4_267 (C : Cx p l s m args meth c D n0 RX4 cc nL)  {x : Int32} (hd : decode cc pc = .ok (.putfield 267, 3)) (kk : ZZ p l e R s m args below meth c D n0 127 nL cells slots Q (up κ 108 0 x, μ, o) (pc + 3) ls st) : ZZ p l e R s m args below meth c D n0 127 nL cells slots Q (κ, μ, o) pc ls (.int x :: .ref (n0 + 108) :: st) := z_putf (σ1 := (up κ 108 0 x, μ, o)) C 0 tyX1 enc_Q rfl (fun j hj => enc_up hj) (by decide) rfl in_X1 tyX1_ok nmX1 (by decide) wd_178 rfl rfl (ty := .int) (by decide +kernel) rfl rfl (Nat.le_of_ble_eq_true rfl) hd kk
theorem gf_X1_9 (C : Cx p l s m args meth c D n0 RX1 cc nL)  (hd : decode cc pc = .ok (.getfield 9, 3)) (kk : ZZ p l e R s m args below meth c D n0 127 nL cells slots Q (κ, μ, o) (pc + 3) ls (.ref (n0 + 109) :: st)) : ZZ p l e R s m args below meth c D n0 127 nL cells slots Q (κ, μ, o) pc ls (.ref (n0 + 108) :: st) := z_getf C 1 enc_Q (by decide) rfl in_X1 (by decide) wd_179 rfl rfl hd kk
theorem gf_X1_15 (C : Cx p l s m args meth c D n0 RX1 cc nL)  (hd : decode cc pc = .ok (.getfield 15, 3)) (kk : ZZ p l e R s m args below meth c D n0 127 nL cells slots Q (κ, μ, o) (pc + 3) ls (.ref (n0 + 110) :: st)) : ZZ p l e R s m args below meth c D n0 127 nL cells slots Q (κ, μ, o) pc ls (.ref (n0 + 108) :: st) := z_getf C 2 enc_Q (by decide) rfl in_X1 (by decide) wd_180 rfl rfl hd kk
theorem gf_X1_18 (C : Cx p l s m args meth c D n0 RX1 cc nL)  (hd : decode cc pc = .ok (.getfield 18, 3)) (kk : ZZ p l e R s m args below meth c D n0 127 nL cells slots Q (κ, μ, o) (pc + 3) ls (.ref (n0 + 111) :: st)) : ZZ p l e R s m args below meth c D n0 127 nL cells slots Q (κ, μ, o) pc ls (.ref (n0 + 108) :: st) := z_getf C 3 enc_Q (by decide) rfl in_X1 (by decide) wd_181 rfl rfl hd kk
theorem gf_X4_10 (C : Cx p l s m args meth c D n0 RX4 cc nL)  (hd : decode cc pc = .ok (.getfield 10, 3)) (kk : ZZ p l e R s m args below meth c D n0 127 nL cells slots Q (κ, μ, o) (pc + 3) ls (.ref (n0 + 1) :: st)) : ZZ p l e R s m args below meth c D n0 127 nL cells slots Q (κ, μ, o) pc ls (.ref (n0 + 0) :: st) := z_getf C 0 enc_0 (by decide) rfl in_X4 (by decide) wd_191 rfl rfl hd kk
theorem gf_X4_16 (C : Cx p l s m args meth c D n0 RX4 cc nL)  (hd : decode cc pc = .ok (.getfield 16, 3)) (kk : ZZ p l e R s m args below meth c D n0 127 nL cells slots Q (κ, μ, o) (pc + 3) ls (.ref (n0 + 36) :: st)) : ZZ p l e R s m args below meth c D n0 127 nL cells slots Q (κ, μ, o) pc ls (.ref (n0 + 0) :: st) := z_getf C 1 enc_0 (by decide) rfl in_X4 (by decide) wd_192 rfl rfl hd kk
theorem gf_X4_19 (C : Cx p l s m args meth c D n0 RX4 cc nL)  (hd : decode cc pc = .ok (.getfield 19, 3)) (kk : ZZ p l e R s m args below meth c D n0 127 nL cells slots Q (κ, μ, o) (pc + 3) ls (.ref (n0 + 71) :: st)) : ZZ p l e R s m args below meth c D n0 127 nL cells slots Q (κ, μ, o) pc ls (.ref (n0 + 0) :: st) := z_getf C 2 enc_0 (by decide) rfl in_X4 (by decide) wd_193 rfl rfl hd kk
theorem gf_X4_27 (C : Cx p l s m args meth c D n0 RX4 cc nL)  (hd : decode cc pc = .ok (.getfield 27, 3)) (kk : ZZ p l e R s m args below meth c D n0 127 nL cells slots Q (κ, μ, o) (pc + 3) ls (.ref (n0 + 106) :: st)) : ZZ p l e R s m args below meth c D n0 127 nL cells slots Q (κ, μ, o) pc ls (.ref (n0 + 0) :: st) := z_getf C 3 enc_0 (by decide) rfl in_X4 (by decide) wd_194 rfl rfl hd kk
theorem gf_X4_34 (C : Cx p l s m args meth c D n0 RX4 cc nL)  (hd : decode cc pc = .ok (.getfield 34, 3)) (kk : ZZ p l e R s m args below meth c D n0 127 nL cells slots Q (κ, μ, o) (pc + 3) ls (.ref (n0 + 108) :: st)) : ZZ p l e R s m args below meth c D n0 127 nL cells slots Q (κ, μ, o) pc ls (.ref (n0 + 0) :: st) := z_getf C 4 enc_0 (by decide) rfl in_X4 (by decide) wd_195 rfl rfl hd kk
theorem gf_X4_38 (C : Cx p l s m args meth c D n0 RX4 cc nL)  (hd : decode cc pc = .ok (.getfield 38, 3)) (kk : ZZ p l e R s m args below meth c D n0 127 nL cells slots Q (κ, μ, o) (pc + 3) ls (.ref (n0 + 112) :: st)) : ZZ p l e R s m args below meth c D n0 127 nL cells slots Q (κ, μ, o) pc ls (.ref (n0 + 0) :: st) := z_getf C 5 enc_0 (by decide) rfl in_X4 (by decide) wd_196 rfl rfl hd kk
theorem gf_X4_200 (C : Cx p l s m args meth c D n0 RX4 cc nL)  {v : Int32} (hv : κ 0 6 = v) (hd : decode cc pc = .ok (.getfield 200, 3)) (kk : ZZ p l e R s m args below meth c D n0 127 nL cells slots Q (κ, μ, o) (pc + 3) ls (.int v :: st)) : ZZ p l e R s m args below meth c D n0 127 nL cells slots Q (κ, μ, o) pc ls (.ref (n0 + 0) :: st) := by subst hv; exact z_getf C 6 enc_0 (by decide) rfl in_X4 (by decide) wd_197 rfl rfl hd kk
theorem pf_X4_200 (C : Cx p l s m args meth c D n0 RX4 cc nL)  {x : Int32} (hx : x = 0 ∨ x = 1) (hd : decode cc pc = .ok (.putfield 200, 3)) (kk : ZZ p l e R s m args below meth c D n0 127 nL cells slots Q (up κ 0 6 x, μ, o) (pc + 3) ls st) : ZZ p l e R s m args below meth c D n0 127 nL cells slots Q (κ, μ, o) pc ls (.int x :: .ref (n0 + 0) :: st) := z_putf (σ1 := (up κ 0 6 x, μ, o)) C 6 tyX4 enc_0 rfl (fun j hj => enc_up hj) (by decide) rfl in_X4 tyX4_ok nmX4 (by decide) wd_197 rfl rfl (ty := .boolean) (by decide +kernel) (by rcases hx with rfl | rfl <;> decide +kernel) (by rcases hx with rfl | rfl <;> decide +kernel) (Nat.le_of_ble_eq_true rfl) hd kk
theorem gf_X4_119 (C : Cx p l s m args meth c D n0 RX4 cc nL)  {v : Int32} (hv : κ 0 7 = v) (hd : decode cc pc = .ok (.getfield 119, 3)) (kk : ZZ p l e R s m args below meth c D n0 127 nL cells slots Q (κ, μ, o) (pc + 3) ls (.int v :: st)) : ZZ p l e R s m args below meth c D n0 127 nL cells slots Q (κ, μ, o) pc ls (.ref (n0 + 0) :: st) := by subst hv; exact z_getf C 7 enc_0 (by decide) rfl in_X4 (by decide) wd_198 rfl rfl hd kk
theorem pf_X4_119 (C : Cx p l s m args meth c D n0 RX4 cc nL)  {x : Int32} (hd : decode cc pc = .ok (.putfield 119, 3)) (kk : ZZ p l e R s m args below meth c D n0 127 nL cells slots Q (up κ 0 7 x, μ, o) (pc + 3) ls st) : ZZ p l e R s m args below meth c D n0 127 nL cells slots Q (κ, μ, o) pc ls (.int x :: .ref (n0 + 0) :: st) := z_putf (σ1 := (up κ 0 7 x, μ, o)) C 7 tyX4 enc_0 rfl (fun j hj => enc_up hj) (by decide) rfl in_X4 tyX4_ok nmX4 (by decide) wd_198 rfl rfl (ty := .int) (by decide +kernel) rfl rfl (Nat.le_of_ble_eq_true rfl) hd kk
theorem gf_X4_210 (C : Cx p l s m args meth c D n0 RX4 cc nL)  {v : Int32} (hv : κ 0 8 = v) (hd : decode cc pc = .ok (.getfield 210, 3)) (kk : ZZ p l e R s m args below meth c D n0 127 nL cells slots Q (κ, μ, o) (pc + 3) ls (.int v :: st)) : ZZ p l e R s m args below meth c D n0 127 nL cells slots Q (κ, μ, o) pc ls (.ref (n0 + 0) :: st) := by subst hv; exact z_getf C 8 enc_0 (by decide) rfl in_X4 (by decide) wd_199 rfl rfl hd kk
theorem pf_X4_210 (C : Cx p l s m args meth c D n0 RX4 cc nL)  {x : Int32} (hd : decode cc pc = .ok (.putfield 210, 3)) (kk : ZZ p l e R s m args below meth c D n0 127 nL cells slots Q (up κ 0 8 x, μ, o) (pc + 3) ls st) : ZZ p l e R s m args below meth c D n0 127 nL cells slots Q (κ, μ, o) pc ls (.int x :: .ref (n0 + 0) :: st) := z_putf (σ1 := (up κ 0 8 x, μ, o)) C 8 tyX4 enc_0 rfl (fun j hj => enc_up hj) (by decide) rfl in_X4 tyX4_ok nmX4 (by decide) wd_199 rfl rfl (ty := .int) (by decide +kernel) rfl rfl (Nat.le_of_ble_eq_true rfl) hd kk
theorem gf_X4_223 (C : Cx p l s m args meth c D n0 RX4 cc nL)  {v : Int32} (hv : κ 0 9 = v) (hd : decode cc pc = .ok (.getfield 223, 3)) (kk : ZZ p l e R s m args below meth c D n0 127 nL cells slots Q (κ, μ, o) (pc + 3) ls (.int v :: st)) : ZZ p l e R s m args below meth c D n0 127 nL cells slots Q (κ, μ, o) pc ls (.ref (n0 + 0) :: st) := by subst hv; exact z_getf C 9 enc_0 (by decide) rfl in_X4 (by decide) wd_200 rfl rfl hd kk
theorem pf_X4_223 (C : Cx p l s m args meth c D n0 RX4 cc nL)  {x : Int32} (hd : decode cc pc = .ok (.putfield 223, 3)) (kk : ZZ p l e R s m args below meth c D n0 127 nL cells slots Q (up κ 0 9 x, μ, o) (pc + 3) ls st) : ZZ p l e R s m args below meth c D n0 127 nL cells slots Q (κ, μ, o) pc ls (.int x :: .ref (n0 + 0) :: st) := z_putf (σ1 := (up κ 0 9 x, μ, o)) C 9 tyX4 enc_0 rfl (fun j hj => enc_up hj) (by decide) rfl in_X4 tyX4_ok nmX4 (by decide) wd_200 rfl rfl (ty := .int) (by decide +kernel) rfl rfl (Nat.le_of_ble_eq_true rfl) hd kk
theorem gf_X4_220 (C : Cx p l s m args meth c D n0 RX4 cc nL)  {v : Int32} (hv : κ 0 10 = v) (hd : decode cc pc = .ok (.getfield 220, 3)) (kk : ZZ p l e R s m args below meth c D n0 127 nL cells slots Q (κ, μ, o) (pc + 3) ls (.int v :: st)) : ZZ p l e R s m args below meth c D n0 127 nL cells slots Q (κ, μ, o) pc ls (.ref (n0 + 0) :: st) := by subst hv; exact z_getf C 10 enc_0 (by decide) rfl in_X4 (by decide) wd_201 rfl rfl hd kk
theorem pf_X4_220 (C : Cx p l s m args meth c D n0 RX4 cc nL)  {x : Int32} (hd : decode cc pc = .ok (.putfield 220, 3)) (kk : ZZ p l e R s m args below meth c D n0 127 nL cells slots Q (up κ 0 10 x, μ, o) (pc + 3) ls st) : ZZ p l e R s m args below meth c D n0 127 nL cells slots Q (κ, μ, o) pc ls (.int x :: .ref (n0 + 0) :: st) := z_putf (σ1 := (up κ 0 10 x, μ, o)) C 10 tyX4 enc_0 rfl (fun j hj => enc_up hj) (by decide) rfl in_X4 tyX4_ok nmX4 (by decide) wd_201 rfl rfl (ty := .int) (by decide +kernel) rfl rfl (Nat.le_of_ble_eq_true rfl) hd kk
theorem gf_X4_94 (C : Cx p l s m args meth c D n0 RX4 cc nL)  {v : Int32} (hv : κ 0 11 = v) (hd : decode cc pc = .ok (.getfield 94, 3)) (kk : ZZ p l e R s m args below meth c D n0 127 nL cells slots Q (κ, μ, o) (pc + 3) ls (.int v :: st)) : ZZ p l e R s m args below meth c D n0 127 nL cells slots Q (κ, μ, o) pc ls (.ref (n0 + 0) :: st) := by subst hv; exact z_getf C 11 enc_0 (by decide) rfl in_X4 (by decide) wd_202 rfl rfl hd kk
theorem pf_X4_94 (C : Cx p l s m args meth c D n0 RX4 cc nL)  {x : Int32} (hd : decode cc pc = .ok (.putfield 94, 3)) (kk : ZZ p l e R s m args below meth c D n0 127 nL cells slots Q (up κ 0 11 x, μ, o) (pc + 3) ls st) : ZZ p l e R s m args below meth c D n0 127 nL cells slots Q (κ, μ, o) pc ls (.int x :: .ref (n0 + 0) :: st) := z_putf (σ1 := (up κ 0 11 x, μ, o)) C 11 tyX4 enc_0 rfl (fun j hj => enc_up hj) (by decide) rfl in_X4 tyX4_ok nmX4 (by decide) wd_202 rfl rfl (ty := .int) (by decide +kernel) rfl rfl (Nat.le_of_ble_eq_true rfl) hd kk
theorem gf_X4_187 (C : Cx p l s m args meth c D n0 RX4 cc nL)  {v : Int32} (hv : κ 0 12 = v) (hd : decode cc pc = .ok (.getfield 187, 3)) (kk : ZZ p l e R s m args below meth c D n0 127 nL cells slots Q (κ, μ, o) (pc + 3) ls (.int v :: st)) : ZZ p l e R s m args below meth c D n0 127 nL cells slots Q (κ, μ, o) pc ls (.ref (n0 + 0) :: st) := by subst hv; exact z_getf C 12 enc_0 (by decide) rfl in_X4 (by decide) wd_203 rfl rfl hd kk
theorem pf_X4_187 (C : Cx p l s m args meth c D n0 RX4 cc nL)  {x : Int32} (hd : decode cc pc = .ok (.putfield 187, 3)) (kk : ZZ p l e R s m args below meth c D n0 127 nL cells slots Q (up κ 0 12 x, μ, o) (pc + 3) ls st) : ZZ p l e R s m args below meth c D n0 127 nL cells slots Q (κ, μ, o) pc ls (.int x :: .ref (n0 + 0) :: st) := z_putf (σ1 := (up κ 0 12 x, μ, o)) C 12 tyX4 enc_0 rfl (fun j hj => enc_up hj) (by decide) rfl in_X4 tyX4_ok nmX4 (by decide) wd_203 rfl rfl (ty := .int) (by decide +kernel) rfl rfl (Nat.le_of_ble_eq_true rfl) hd kk
theorem gf_X5_51 (C : Cx p l s m args meth c D n0 RX5 cc nL)  {v : Int32} (hv : μ 0 0 = v) (hd : decode cc pc = .ok (.getfield 51, 3)) (kk : ZZ p l e R s m args below meth c D n0 127 nL cells slots Q (κ, μ, o) (pc + 3) ls (.int v :: st)) : ZZ p l e R s m args below meth c D n0 127 nL cells slots Q (κ, μ, o) pc ls (.ref (n0 + 113) :: st) := by subst hv; exact z_getf C 0 enc_M (by decide) rfl in_X5 (by decide) wd_758 rfl rfl hd kk
theorem pf_X5_51 (C : Cx p l s m args meth c D n0 RX5 cc nL)  {x : Int32} (hd : decode cc pc = .ok (.putfield 51, 3)) (kk : ZZ p l e R s m args below meth c D n0 127 nL cells slots Q (κ, up μ 0 0 x, o) (pc + 3) ls st) : ZZ p l e R s m args below meth c D n0 127 nL cells slots Q (κ, μ, o) pc ls (.int x :: .ref (n0 + 113) :: st) := z_putf (σ1 := (κ, up μ 0 0 x, o)) C 0 tyX5 enc_M rfl (fun j hj => enc_um (by omega)) (by decide) rfl in_X5 tyX5_ok nmX5 (by decide) wd_758 rfl rfl (ty := .int) (by decide +kernel) rfl rfl (Nat.le_of_ble_eq_true rfl) hd kk
theorem gf_X5_7 (C : Cx p l s m args meth c D n0 RX5 cc nL)  (hd : decode cc pc = .ok (.getfield 7, 3)) (kk : ZZ p l e R s m args below meth c D n0 127 nL cells slots Q (κ, μ, o) (pc + 3) ls (.ref (n0 + 114) :: st)) : ZZ p l e R s m args below meth c D n0 127 nL cells slots Q (κ, μ, o) pc ls (.ref (n0 + 113) :: st) := z_getf C 1 enc_M (by decide) rfl in_X5 (by decide) wd_759 rfl rfl hd kk
theorem gf_X5_13 (C : Cx p l s m args meth c D n0 RX5 cc nL)  (hd : decode cc pc = .ok (.getfield 13, 3)) (kk : ZZ p l e R s m args below meth c D n0 127 nL cells slots Q (κ, μ, o) (pc + 3) ls (.ref (n0 + 115) :: st)) : ZZ p l e R s m args below meth c D n0 127 nL cells slots Q (κ, μ, o) pc ls (.ref (n0 + 113) :: st) := z_getf C 2 enc_M (by decide) rfl in_X5 (by decide) wd_760 rfl rfl hd kk
theorem gf_X5_17 (C : Cx p l s m args meth c D n0 RX5 cc nL)  (hd : decode cc pc = .ok (.getfield 17, 3)) (kk : ZZ p l e R s m args below meth c D n0 127 nL cells slots Q (κ, μ, o) (pc + 3) ls (.ref (n0 + 116) :: st)) : ZZ p l e R s m args below meth c D n0 127 nL cells slots Q (κ, μ, o) pc ls (.ref (n0 + 113) :: st) := z_getf C 3 enc_M (by decide) rfl in_X5 (by decide) wd_761 rfl rfl hd kk
theorem gf_X5_20 (C : Cx p l s m args meth c D n0 RX5 cc nL)  (hd : decode cc pc = .ok (.getfield 20, 3)) (kk : ZZ p l e R s m args below meth c D n0 127 nL cells slots Q (κ, μ, o) (pc + 3) ls (.ref (n0 + 117) :: st)) : ZZ p l e R s m args below meth c D n0 127 nL cells slots Q (κ, μ, o) pc ls (.ref (n0 + 113) :: st) := z_getf C 4 enc_M (by decide) rfl in_X5 (by decide) wd_762 rfl rfl hd kk
theorem gf_X5_23 (C : Cx p l s m args meth c D n0 RX5 cc nL)  (hd : decode cc pc = .ok (.getfield 23, 3)) (kk : ZZ p l e R s m args below meth c D n0 127 nL cells slots Q (κ, μ, o) (pc + 3) ls (.ref (n0 + 118) :: st)) : ZZ p l e R s m args below meth c D n0 127 nL cells slots Q (κ, μ, o) pc ls (.ref (n0 + 113) :: st) := z_getf C 5 enc_M (by decide) rfl in_X5 (by decide) wd_763 rfl rfl hd kk
theorem gf_X5_26 (C : Cx p l s m args meth c D n0 RX5 cc nL)  (hd : decode cc pc = .ok (.getfield 26, 3)) (kk : ZZ p l e R s m args below meth c D n0 127 nL cells slots Q (κ, μ, o) (pc + 3) ls (.ref (n0 + 119) :: st)) : ZZ p l e R s m args below meth c D n0 127 nL cells slots Q (κ, μ, o) pc ls (.ref (n0 + 113) :: st) := z_getf C 6 enc_M (by decide) rfl in_X5 (by decide) wd_764 rfl rfl hd kk
theorem gf_X5_29 (C : Cx p l s m args meth c D n0 RX5 cc nL)  (hd : decode cc pc = .ok (.getfield 29, 3)) (kk : ZZ p l e R s m args below meth c D n0 127 nL cells slots Q (κ, μ, o) (pc + 3) ls (.ref (n0 + 120) :: st)) : ZZ p l e R s m args below meth c D n0 127 nL cells slots Q (κ, μ, o) pc ls (.ref (n0 + 113) :: st) := z_getf C 7 enc_M (by decide) rfl in_X5 (by decide) wd_765 rfl rfl hd kk
theorem gf_X5_166 (C : Cx p l s m args meth c D n0 RX5 cc nL)  {v : Int32} (hv : μ 0 8 = v) (hd : decode cc pc = .ok (.getfield 166, 3)) (kk : ZZ p l e R s m args below meth c D n0 127 nL cells slots Q (κ, μ, o) (pc + 3) ls (.int v :: st)) : ZZ p l e R s m args below meth c D n0 127 nL cells slots Q (κ, μ, o) pc ls (.ref (n0 + 113) :: st) := by subst hv; exact z_getf C 8 enc_M (by decide) rfl in_X5 (by decide) wd_766 rfl rfl hd kk
theorem pf_X5_166 (C : Cx p l s m args meth c D n0 RX5 cc nL)  {x : Int32} (hx : x = 0 ∨ x = 1) (hd : decode cc pc = .ok (.putfield 166, 3)) (kk : ZZ p l e R s m args below meth c D n0 127 nL cells slots Q (κ, up μ 0 8 x, o) (pc + 3) ls st) : ZZ p l e R s m args below meth c D n0 127 nL cells slots Q (κ, μ, o) pc ls (.int x :: .ref (n0 + 113) :: st) := z_putf (σ1 := (κ, up μ 0 8 x, o)) C 8 tyX5 enc_M rfl (fun j hj => enc_um (by omega)) (by decide) rfl in_X5 tyX5_ok nmX5 (by decide) wd_766 rfl rfl (ty := .boolean) (by decide +kernel) (by rcases hx with rfl | rfl <;> decide +kernel) (by rcases hx with rfl | rfl <;> decide +kernel) (Nat.le_of_ble_eq_true rfl) hd kk
theorem gf_X5_32 (C : Cx p l s m args meth c D n0 RX5 cc nL)  {v : Int32} (hv : μ 0 9 = v) (hd : decode cc pc = .ok (.getfield 32, 3)) (kk : ZZ p l e R s m args below meth c D n0 127 nL cells slots Q (κ, μ, o) (pc + 3) ls (.int v :: st)) : ZZ p l e R s m args below meth c D n0 127 nL cells slots Q (κ, μ, o) pc ls (.ref (n0 + 113) :: st) := by subst hv; exact z_getf C 9 enc_M (by decide) rfl in_X5 (by decide) wd_767 rfl rfl hd kk
theorem pf_X5_32 (C : Cx p l s m args meth c D n0 RX5 cc nL)  {x : Int32} (hd : decode cc pc = .ok (.putfield 32, 3)) (kk : ZZ p l e R s m args below meth c D n0 127 nL cells slots Q (κ, up μ 0 9 x, o) (pc + 3) ls st) : ZZ p l e R s m args below meth c D n0 127 nL cells slots Q (κ, μ, o) pc ls (.int x :: .ref (n0 + 113) :: st) := z_putf (σ1 := (κ, up μ 0 9 x, o)) C 9 tyX5 enc_M rfl (fun j hj => enc_um (by omega)) (by decide) rfl in_X5 tyX5_ok nmX5 (by decide) wd_767 rfl rfl (ty := .int) (by decide +kernel) rfl rfl (Nat.le_of_ble_eq_true rfl) hd kk
theorem gf_X5_36 (C : Cx p l s m args meth c D n0 RX5 cc nL)  (hd : decode cc pc = .ok (.getfield 36, 3)) (kk : ZZ p l e R s m args below meth c D n0 127 nL cells slots Q (κ, μ, o) (pc + 3) ls (.ref (n0 + 121) :: st)) : ZZ p l e R s m args below meth c D n0 127 nL cells slots Q (κ, μ, o) pc ls (.ref (n0 + 113) :: st) := z_getf C 10 enc_M (by decide) rfl in_X5 (by decide) wd_768 rfl rfl hd kk
theorem gf_X5_39 (C : Cx p l s m args meth c D n0 RX5 cc nL)  (hd : decode cc pc = .ok (.getfield 39, 3)) (kk : ZZ p l e R s m args below meth c D n0 127 nL cells slots Q (κ, μ, o) (pc + 3) ls (.ref (n0 + 122) :: st)) : ZZ p l e R s m args below meth c D n0 127 nL cells slots Q (κ, μ, o) pc ls (.ref (n0 + 113) :: st) := z_getf C 11 enc_M (by decide) rfl in_X5 (by decide) wd_769 rfl rfl hd kk
theorem gf_X5_80 (C : Cx p l s m args meth c D n0 RX5 cc nL)  {v : Int32} (hv : μ 0 12 = v) (hd : decode cc pc = .ok (.getfield 80, 3)) (kk : ZZ p l e R s m args below meth c D n0 127 nL cells slots Q (κ, μ, o) (pc + 3) ls (.int v :: st)) : ZZ p l e R s m args below meth c D n0 127 nL cells slots Q (κ, μ, o) pc ls (.ref (n0 + 113) :: st) := by subst hv; exact z_getf C 12 enc_M (by decide) rfl in_X5 (by decide) wd_770 rfl rfl hd kk
theorem pf_X5_80 (C : Cx p l s m args meth c D n0 RX5 cc nL)  {x : Int32} (hd : decode cc pc = .ok (.putfield 80, 3)) (kk : ZZ p l e R s m args below meth c D n0 127 nL cells slots Q (κ, up μ 0 12 x, o) (pc + 3) ls st) : ZZ p l e R s m args below meth c D n0 127 nL cells slots Q (κ, μ, o) pc ls (.int x :: .ref (n0 + 113) :: st) := z_putf (σ1 := (κ, up μ 0 12 x, o)) C 12 tyX5 enc_M rfl (fun j hj => enc_um (by omega)) (by decide) rfl in_X5 tyX5_ok nmX5 (by decide) wd_770 rfl rfl (ty := .int) (by decide +kernel) rfl rfl (Nat.le_of_ble_eq_true rfl) hd kk
theorem gf_X5_96 (C : Cx p l s m args meth c D n0 RX5 cc nL)  {v : Int32} (hv : μ 0 13 = v) (hd : decode cc pc = .ok (.getfield 96, 3)) (kk : ZZ p l e R s m args below meth c D n0 127 nL cells slots Q (κ, μ, o) (pc + 3) ls (.int v :: st)) : ZZ p l e R s m args below meth c D n0 127 nL cells slots Q (κ, μ, o) pc ls (.ref (n0 + 113) :: st) := by subst hv; exact z_getf C 13 enc_M (by decide) rfl in_X5 (by decide) wd_771 rfl rfl hd kk
theorem pf_X5_96 (C : Cx p l s m args meth c D n0 RX5 cc nL)  {x : Int32} (hd : decode cc pc = .ok (.putfield 96, 3)) (kk : ZZ p l e R s m args below meth c D n0 127 nL cells slots Q (κ, up μ 0 13 x, o) (pc + 3) ls st) : ZZ p l e R s m args below meth c D n0 127 nL cells slots Q (κ, μ, o) pc ls (.int x :: .ref (n0 + 113) :: st) := z_putf (σ1 := (κ, up μ 0 13 x, o)) C 13 tyX5 enc_M rfl (fun j hj => enc_um (by omega)) (by decide) rfl in_X5 tyX5_ok nmX5 (by decide) wd_771 rfl rfl (ty := .int) (by decide +kernel) rfl rfl (Nat.le_of_ble_eq_true rfl) hd kk
theorem gf_X5_89 (C : Cx p l s m args meth c D n0 RX5 cc nL)  {v : Int32} (hv : μ 0 14 = v) (hd : decode cc pc = .ok (.getfield 89, 3)) (kk : ZZ p l e R s m args below meth c D n0 127 nL cells slots Q (κ, μ, o) (pc + 3) ls (.int v :: st)) : ZZ p l e R s m args below meth c D n0 127 nL cells slots Q (κ, μ, o) pc ls (.ref (n0 + 113) :: st) := by subst hv; exact z_getf C 14 enc_M (by decide) rfl in_X5 (by decide) wd_772 rfl rfl hd kk
theorem pf_X5_89 (C : Cx p l s m args meth c D n0 RX5 cc nL)  {x : Int32} (hd : decode cc pc = .ok (.putfield 89, 3)) (kk : ZZ p l e R s m args below meth c D n0 127 nL cells slots Q (κ, up μ 0 14 x, o) (pc + 3) ls st) : ZZ p l e R s m args below meth c D n0 127 nL cells slots Q (κ, μ, o) pc ls (.int x :: .ref (n0 + 113) :: st) := z_putf (σ1 := (κ, up μ 0 14 x, o)) C 14 tyX5 enc_M rfl (fun j hj => enc_um (by omega)) (by decide) rfl in_X5 tyX5_ok nmX5 (by decide) wd_772 rfl rfl (ty := .int) (by decide +kernel) rfl rfl (Nat.le_of_ble_eq_true rfl) hd kk
theorem gf_X5_86 (C : Cx p l s m args meth c D n0 RX5 cc nL)  {v : Int32} (hv : μ 0 15 = v) (hd : decode cc pc = .ok (.getfield 86, 3)) (kk : ZZ p l e R s m args below meth c D n0 127 nL cells slots Q (κ, μ, o) (pc + 3) ls (.int v :: st)) : ZZ p l e R s m args below meth c D n0 127 nL cells slots Q (κ, μ, o) pc ls (.ref (n0 + 113) :: st) := by subst hv; exact z_getf C 15 enc_M (by decide) rfl in_X5 (by decide) wd_773 rfl rfl hd kk
theorem pf_X5_86 (C : Cx p l s m args meth c D n0 RX5 cc nL)  {x : Int32} (hd : decode cc pc = .ok (.putfield 86, 3)) (kk : ZZ p l e R s m args below meth c D n0 127 nL cells slots Q (κ, up μ 0 15 x, o) (pc + 3) ls st) : ZZ p l e R s m args below meth c D n0 127 nL cells slots Q (κ, μ, o) pc ls (.int x :: .ref (n0 + 113) :: st) := z_putf (σ1 := (κ, up μ 0 15 x, o)) C 15 tyX5 enc_M rfl (fun j hj => enc_um (by omega)) (by decide) rfl in_X5 tyX5_ok nmX5 (by decide) wd_773 rfl rfl (ty := .int) (by decide +kernel) rfl rfl (Nat.le_of_ble_eq_true rfl) hd kk
theorem gf_X5_110 (C : Cx p l s m args meth c D n0 RX5 cc nL)  {v : Int32} (hv : μ 0 16 = v) (hd : decode cc pc = .ok (.getfield 110, 3)) (kk : ZZ p l e R s m args below meth c D n0 127 nL cells slots Q (κ, μ, o) (pc + 3) ls (.int v :: st)) : ZZ p l e R s m args below meth c D n0 127 nL cells slots Q (κ, μ, o) pc ls (.ref (n0 + 113) :: st) := by subst hv; exact z_getf C 16 enc_M (by decide) rfl in_X5 (by decide) wd_774 rfl rfl hd kk
theorem pf_X5_110 (C : Cx p l s m args meth c D n0 RX5 cc nL)  {x : Int32} (hd : decode cc pc = .ok (.putfield 110, 3)) (kk : ZZ p l e R s m args below meth c D n0 127 nL cells slots Q (κ, up μ 0 16 x, o) (pc + 3) ls st) : ZZ p l e R s m args below meth c D n0 127 nL cells slots Q (κ, μ, o) pc ls (.int x :: .ref (n0 + 113) :: st) := z_putf (σ1 := (κ, up μ 0 16 x, o)) C 16 tyX5 enc_M rfl (fun j hj => enc_um (by omega)) (by decide) rfl in_X5 tyX5_ok nmX5 (by decide) wd_774 rfl rfl (ty := .int) (by decide +kernel) rfl rfl (Nat.le_of_ble_eq_true rfl) hd kk
theorem gf_X5_135 (C : Cx p l s m args meth c D n0 RX5 cc nL)  {v : Int32} (hv : μ 0 17 = v) (hd : decode cc pc = .ok (.getfield 135, 3)) (kk : ZZ p l e R s m args below meth c D n0 127 nL cells slots Q (κ, μ, o) (pc + 3) ls (.int v :: st)) : ZZ p l e R s m args below meth c D n0 127 nL cells slots Q (κ, μ, o) pc ls (.ref (n0 + 113) :: st) := by subst hv; exact z_getf C 17 enc_M (by decide) rfl in_X5 (by decide) wd_775 rfl rfl hd kk
theorem pf_X5_135 (C : Cx p l s m args meth c D n0 RX5 cc nL)  {x : Int32} (hd : decode cc pc = .ok (.putfield 135, 3)) (kk : ZZ p l e R s m args below meth c D n0 127 nL cells slots Q (κ, up μ 0 17 x, o) (pc + 3) ls st) : ZZ p l e R s m args below meth c D n0 127 nL cells slots Q (κ, μ, o) pc ls (.int x :: .ref (n0 + 113) :: st) := z_putf (σ1 := (κ, up μ 0 17 x, o)) C 17 tyX5 enc_M rfl (fun j hj => enc_um (by omega)) (by decide) rfl in_X5 tyX5_ok nmX5 (by decide) wd_775 rfl rfl (ty := .int) (by decide +kernel) rfl rfl (Nat.le_of_ble_eq_true rfl) hd kk
theorem gf_X5_138 (C : Cx p l s m args meth c D n0 RX5 cc nL)  {v : Int32} (hv : μ 0 18 = v) (hd : decode cc pc = .ok (.getfield 138, 3)) (kk : ZZ p l e R s m args below meth c D n0 127 nL cells slots Q (κ, μ, o) (pc + 3) ls (.int v :: st)) : ZZ p l e R s m args below meth c D n0 127 nL cells slots Q (κ, μ, o) pc ls (.ref (n0 + 113) :: st) := by subst hv; exact z_getf C 18 enc_M (by decide) rfl in_X5 (by decide) wd_776 rfl rfl hd kk
theorem pf_X5_138 (C : Cx p l s m args meth c D n0 RX5 cc nL)  {x : Int32} (hd : decode cc pc = .ok (.putfield 138, 3)) (kk : ZZ p l e R s m args below meth c D n0 127 nL cells slots Q (κ, up μ 0 18 x, o) (pc + 3) ls st) : ZZ p l e R s m args below meth c D n0 127 nL cells slots Q (κ, μ, o) pc ls (.int x :: .ref (n0 + 113) :: st) := z_putf (σ1 := (κ, up μ 0 18 x, o)) C 18 tyX5 enc_M rfl (fun j hj => enc_um (by omega)) (by decide) rfl in_X5 tyX5_ok nmX5 (by decide) wd_776 rfl rfl (ty := .int) (by decide +kernel) rfl rfl (Nat.le_of_ble_eq_true rfl) hd kk
theorem gf_X5_141 (C : Cx p l s m args meth c D n0 RX5 cc nL)  {v : Int32} (hv : μ 0 19 = v) (hd : decode cc pc = .ok (.getfield 141, 3)) (kk : ZZ p l e R s m args below meth c D n0 127 nL cells slots Q (κ, μ, o) (pc + 3) ls (.int v :: st)) : ZZ p l e R s m args below meth c D n0 127 nL cells slots Q (κ, μ, o) pc ls (.ref (n0 + 113) :: st) := by subst hv; exact z_getf C 19 enc_M (by decide) rfl in_X5 (by decide) wd_777 rfl rfl hd kk
theorem pf_X5_141 (C : Cx p l s m args meth c D n0 RX5 cc nL)  {x : Int32} (hd : decode cc pc = .ok (.putfield 141, 3)) (kk : ZZ p l e R s m args below meth c D n0 127 nL cells slots Q (κ, up μ 0 19 x, o) (pc + 3) ls st) : ZZ p l e R s m args below meth c D n0 127 nL cells slots Q (κ, μ, o) pc ls (.int x :: .ref (n0 + 113) :: st) := z_putf (σ1 := (κ, up μ 0 19 x, o)) C 19 tyX5 enc_M rfl (fun j hj => enc_um (by omega)) (by decide) rfl in_X5 tyX5_ok nmX5 (by decide) wd_777 rfl rfl (ty := .int) (by decide +kernel) rfl rfl (Nat.le_of_ble_eq_true rfl) hd kk
theorem gf_X5_173 (C : Cx p l s m args meth c D n0 RX5 cc nL)  {v : Int32} (hv : μ 0 20 = v) (hd : decode cc pc = .ok (.getfield 173, 3)) (kk : ZZ p l e R s m args below meth c D n0 127 nL cells slots Q (κ, μ, o) (pc + 3) ls (.int v :: st)) : ZZ p l e R s m args below meth c D n0 127 nL cells slots Q (κ, μ, o) pc ls (.ref (n0 + 113) :: st) := by subst hv; exact z_getf C 20 enc_M (by decide) rfl in_X5 (by decide) wd_778 rfl rfl hd kk
theorem pf_X5_173 (C : Cx p l s m args meth c D n0 RX5 cc nL)  {x : Int32} (hd : decode cc pc = .ok (.putfield 173, 3)) (kk : ZZ p l e R s m args below meth c D n0 127 nL cells slots Q (κ, up μ 0 20 x, o) (pc + 3) ls st) : ZZ p l e R s m args below meth c D n0 127 nL cells slots Q (κ, μ, o) pc ls (.int x :: .ref (n0 + 113) :: st) := z_putf (σ1 := (κ, up μ 0 20 x, o)) C 20 tyX5 enc_M rfl (fun j hj => enc_um (by omega)) (by decide) rfl in_X5 tyX5_ok nmX5 (by decide) wd_778 rfl rfl (ty := .int) (by decide +kernel) rfl rfl (Nat.le_of_ble_eq_true rfl) hd kk
theorem gf_X5_116 (C : Cx p l s m args meth c D n0 RX5 cc nL)  {v : Int32} (hv : μ 0 21 = v) (hd : decode cc pc = .ok (.getfield 116, 3)) (kk : ZZ p l e R s m args below meth c D n0 127 nL cells slots Q (κ, μ, o) (pc + 3) ls (.int v :: st)) : ZZ p l e R s m args below meth c D n0 127 nL cells slots Q (κ, μ, o) pc ls (.ref (n0 + 113) :: st) := by subst hv; exact z_getf C 21 enc_M (by decide) rfl in_X5 (by decide) wd_779 rfl rfl hd kk
theorem pf_X5_116 (C : Cx p l s m args meth c D n0 RX5 cc nL)  {x : Int32} (hd : decode cc pc = .ok (.putfield 116, 3)) (kk : ZZ p l e R s m args below meth c D n0 127 nL cells slots Q (κ, up μ 0 21 x, o) (pc + 3) ls st) : ZZ p l e R s m args below meth c D n0 127 nL cells slots Q (κ, μ, o) pc ls (.int x :: .ref (n0 + 113) :: st) := z_putf (σ1 := (κ, up μ 0 21 x, o)) C 21 tyX5 enc_M rfl (fun j hj => enc_um (by omega)) (by decide) rfl in_X5 tyX5_ok nmX5 (by decide) wd_779 rfl rfl (ty := .int) (by decide +kernel) rfl rfl (Nat.le_of_ble_eq_true rfl) hd kk
theorem gf_X5_163 (C : Cx p l s m args meth c D n0 RX5 cc nL)  {v : Int32} (hv : μ 0 22 = v) (hd : decode cc pc = .ok (.getfield 163, 3)) (kk : ZZ p l e R s m args below meth c D n0 127 nL cells slots Q (κ, μ, o) (pc + 3) ls (.int v :: st)) : ZZ p l e R s m args below meth c D n0 127 nL cells slots Q (κ, μ, o) pc ls (.ref (n0 + 113) :: st) := by subst hv; exact z_getf C 22 enc_M (by decide) rfl in_X5 (by decide) wd_780 rfl rfl hd kk
theorem pf_X5_163 (C : Cx p l s m args meth c D n0 RX5 cc nL)  {x : Int32} (hd : decode cc pc = .ok (.putfield 163, 3)) (kk : ZZ p l e R s m args below meth c D n0 127 nL cells slots Q (κ, up μ 0 22 x, o) (pc + 3) ls st) : ZZ p l e R s m args below meth c D n0 127 nL cells slots Q (κ, μ, o) pc ls (.int x :: .ref (n0 + 113) :: st) := z_putf (σ1 := (κ, up μ 0 22 x, o)) C 22 tyX5 enc_M rfl (fun j hj => enc_um (by omega)) (by decide) rfl in_X5 tyX5_ok nmX5 (by decide) wd_780 rfl rfl (ty := .int) (by decide +kernel) rfl rfl (Nat.le_of_ble_eq_true rfl) hd kk
theorem gf_X5_107 (C : Cx p l s m args meth c D n0 RX5 cc nL)  {v : Int32} (hv : μ 0 23 = v) (hd : decode cc pc = .ok (.getfield 107, 3)) (kk : ZZ p l e R s m args below meth c D n0 127 nL cells slots Q (κ, μ, o) (pc + 3) ls (.int v :: st)) : ZZ p l e R s m args below meth c D n0 127 nL cells slots Q (κ, μ, o) pc ls (.ref (n0 + 113) :: st) := by subst hv; exact z_getf C 23 enc_M (by decide) rfl in_X5 (by decide) wd_781 rfl rfl hd kk
theorem pf_X5_107 (C : Cx p l s m args meth c D n0 RX5 cc nL)  {x : Int32} (hd : decode cc pc = .ok (.putfield 107, 3)) (kk : ZZ p l e R s m args below meth c D n0 127 nL cells slots Q (κ, up μ 0 23 x, o) (pc + 3) ls st) : ZZ p l e R s m args below meth c D n0 127 nL cells slots Q (κ, μ, o) pc ls (.int x :: .ref (n0 + 113) :: st) := z_putf (σ1 := (κ, up μ 0 23 x, o)) C 23 tyX5 enc_M rfl (fun j hj => enc_um (by omega)) (by decide) rfl in_X5 tyX5_ok nmX5 (by decide) wd_781 rfl rfl (ty := .int) (by decide +kernel) rfl rfl (Nat.le_of_ble_eq_true rfl) hd kk
theorem gf_X5_42 (C : Cx p l s m args meth c D n0 RX5 cc nL)  (hd : decode cc pc = .ok (.getfield 42, 3)) (kk : ZZ p l e R s m args below meth c D n0 127 nL cells slots Q (κ, μ, o) (pc + 3) ls (.ref (n0 + 123) :: st)) : ZZ p l e R s m args below meth c D n0 127 nL cells slots Q (κ, μ, o) pc ls (.ref (n0 + 113) :: st) := z_getf C 24 enc_M (by decide) rfl in_X5 (by decide) wd_782 rfl rfl hd kk
theorem gf_X5_45 (C : Cx p l s m args meth c D n0 RX5 cc nL)  (hd : decode cc pc = .ok (.getfield 45, 3)) (kk : ZZ p l e R s m args below meth c D n0 127 nL cells slots Q (κ, μ, o) (pc + 3) ls (.ref (n0 + 124) :: st)) : ZZ p l e R s m args below meth c D n0 127 nL cells slots Q (κ, μ, o) pc ls (.ref (n0 + 113) :: st) := z_getf C 25 enc_M (by decide) rfl in_X5 (by decide) wd_783 rfl rfl hd kk
theorem gf_X5_48 (C : Cx p l s m args meth c D n0 RX5 cc nL)  (hd : decode cc pc = .ok (.getfield 48, 3)) (kk : ZZ p l e R s m args below meth c D n0 127 nL cells slots Q (κ, μ, o) (pc + 3) ls (.ref (n0 + 125) :: st)) : ZZ p l e R s m args below meth c D n0 127 nL cells slots Q (κ, μ, o) pc ls (.ref (n0 + 113) :: st) := z_getf C 26 enc_M (by decide) rfl in_X5 (by decide) wd_784 rfl rfl hd kk
theorem al_107 (C : Cx p l s m args meth c D n0 own cc nL) {i v : Int32} (j : Nat) (hij : i = nI j) (hj : j < 384) (hv : κ 107 j = v) (hd : decode cc pc = .ok (.iaload, 1)) (kk : ZZ p l e R s m args below meth c D n0 127 nL cells slots Q (κ, μ, o) (pc + 1) ls (.int v :: st)) : ZZ p l e R s m args below meth c D n0 127 nL cells slots Q (κ, μ, o) pc ls (.int i :: .ref (n0 + 107) :: st) := by subst hv; exact z_iald C j enc_107 (by decide) hij hj (by decide) hd kk
theorem as_107 (C : Cx p l s m args meth c D n0 own cc nL) {i x : Int32} (j : Nat) (hij : i = nI j) (hj : j < 384) (hd : decode cc pc = .ok (.iastore, 1)) (kk : ZZ p l e R s m args below meth c D n0 127 nL cells slots Q (up κ 107 j x, μ, o) (pc + 1) ls st) : ZZ p l e R s m args below meth c D n0 127 nL cells slots Q (κ, μ, o) pc ls (.int x :: .int i :: .ref (n0 + 107) :: st) := z_iast (σ1 := (up κ 107 j x, μ, o)) C j enc_107 (by rw [enc_107, up_upd]) (fun j hj => enc_up hj) (by decide) hij hj (by decide) hd kk
theorem an_107 (C : Cx p l s m args meth c D n0 own cc nL) (hd : decode cc pc = .ok (.arraylength, 1)) (kk : ZZ p l e R s m args below meth c D n0 127 nL cells slots Q (κ, μ, o) (pc + 1) ls (.int 384 :: st)) : ZZ p l e R s m args below meth c D n0 127 nL cells slots Q (κ, μ, o) pc ls (.ref (n0 + 107) :: st) := z_alen C 0 enc_107 rfl (by decide) rfl hd kk
theorem al_109 (C : Cx p l s m args meth c D n0 own cc nL) {i v : Int32} (j : Nat) (hij : i = nI j) (hj : j < 8) (hv : κ 109 j = v) (hd : decode cc pc = .ok (.iaload, 1)) (kk : ZZ p l e R s m args below meth c D n0 127 nL cells slots Q (κ, μ, o) (pc + 1) ls (.int v :: st)) : ZZ p l e R s m args below meth c D n0 127 nL cells slots Q (κ, μ, o) pc ls (.int i :: .ref (n0 + 109) :: st) := by subst hv; exact z_iald C j enc_109 (by decide) hij hj (by decide) hd kk
theorem as_109 (C : Cx p l s m args meth c D n0 own cc nL) {i x : Int32} (j : Nat) (hij : i = nI j) (hj : j < 8) (hd : decode cc pc = .ok (.iastore, 1)) (kk : ZZ p l e R s m args below meth c D n0 127 nL cells slots Q (up κ 109 j x, μ, o) (pc + 1) ls st) : ZZ p l e R s m args below meth c D n0 127 nL cells slots Q (κ, μ, o) pc ls (.int x :: .int i :: .ref (n0 + 109) :: st) := z_iast (σ1 := (up κ 109 j x, μ, o)) C j enc_109 (by rw [enc_109, up_upd]) (fun j hj => enc_up hj) (by decide) hij hj (by decide) hd kk
theorem an_109 (C : Cx p l s m args meth c D n0 own cc nL) (hd : decode cc pc = .ok (.arraylength, 1)) (kk : ZZ p l e R s m args below meth c D n0 127 nL cells slots Q (κ, μ, o) (pc + 1) ls (.int 8 :: st)) : ZZ p l e R s m args below meth c D n0 127 nL cells slots Q (κ, μ, o) pc ls (.ref (n0 + 109) :: st) := z_alen C 0 enc_109 rfl (by decide) rfl hd kk
theorem al_110 (C : Cx p l s m args meth c D n0 own cc nL) {i v : Int32} (j : Nat) (hij : i = nI j) (hj : j < 8) (hv : κ 110 j = v) (hd : decode cc pc = .ok (.iaload, 1)) (kk : ZZ p l e R s m args below meth c D n0 127 nL cells slots Q (κ, μ, o) (pc + 1) ls (.int v :: st)) : ZZ p l e R s m args below meth c D n0 127 nL cells slots Q (κ, μ, o) pc ls (.int i :: .ref (n0 + 110) :: st) := by subst hv; exact z_iald C j enc_110 (by decide) hij hj (by decide) hd kk
theorem as_110 (C : Cx p l s m args meth c D n0 own cc nL) {i x : Int32} (j : Nat) (hij : i = nI j) (hj : j < 8) (hd : decode cc pc = .ok (.iastore, 1)) (kk : ZZ p l e R s m args below meth c D n0 127 nL cells slots Q (up κ 110 j x, μ, o) (pc + 1) ls st) : ZZ p l e R s m args below meth c D n0 127 nL cells slots Q (κ, μ, o) pc ls (.int x :: .int i :: .ref (n0 + 110) :: st) := z_iast (σ1 := (up κ 110 j x, μ, o)) C j enc_110 (by rw [enc_110, up_upd]) (fun j hj => enc_up hj) (by decide) hij hj (by decide) hd kk
theorem an_110 (C : Cx p l s m args meth c D n0 own cc nL) (hd : decode cc pc = .ok (.arraylength, 1)) (kk : ZZ p l e R s m args below meth c D n0 127 nL cells slots Q (κ, μ, o) (pc + 1) ls (.int 8 :: st)) : ZZ p l e R s m args below meth c D n0 127 nL cells slots Q (κ, μ, o) pc ls (.ref (n0 + 110) :: st) := z_alen C 0 enc_110 rfl (by decide) rfl hd kk
theorem al_111 (C : Cx p l s m args meth c D n0 own cc nL) {i v : Int32} (j : Nat) (hij : i = nI j) (hj : j < 8) (hv : κ 111 j = v) (hd : decode cc pc = .ok (.iaload, 1)) (kk : ZZ p l e R s m args below meth c D n0 127 nL cells slots Q (κ, μ, o) (pc + 1) ls (.int v :: st)) : ZZ p l e R s m args below meth c D n0 127 nL cells slots Q (κ, μ, o) pc ls (.int i :: .ref (n0 + 111) :: st) := by subst hv; exact z_iald C j enc_111 (by decide) hij hj (by decide) hd kk
theorem as_111 (C : Cx p l s m args meth c D n0 own cc nL) {i x : Int32} (j : Nat) (hij : i = nI j) (hj : j < 8) (hd : decode cc pc = .ok (.iastore, 1)) (kk : ZZ p l e R s m args below meth c D n0 127 nL cells slots Q (up κ 111 j x, μ, o) (pc + 1) ls st) : ZZ p l e R s m args below meth c D n0 127 nL cells slots Q (κ, μ, o) pc ls (.int x :: .int i :: .ref (n0 + 111) :: st) := z_iast (σ1 := (up κ 111 j x, μ, o)) C j enc_111 (by rw [enc_111, up_upd]) (fun j hj => enc_up hj) (by decide) hij hj (by decide) hd kk
theorem an_111 (C : Cx p l s m args meth c D n0 own cc nL) (hd : decode cc pc = .ok (.arraylength, 1)) (kk : ZZ p l e R s m args below meth c D n0 127 nL cells slots Q (κ, μ, o) (pc + 1) ls (.int 8 :: st)) : ZZ p l e R s m args below meth c D n0 127 nL cells slots Q (κ, μ, o) pc ls (.ref (n0 + 111) :: st) := z_alen C 0 enc_111 rfl (by decide) rfl hd kk
theorem al_112 (C : Cx p l s m args meth c D n0 own cc nL) {i v : Int32} (j : Nat) (hij : i = nI j) (hj : j < 160) (hv : κ 112 j = v) (hd : decode cc pc = .ok (.iaload, 1)) (kk : ZZ p l e R s m args below meth c D n0 127 nL cells slots Q (κ, μ, o) (pc + 1) ls (.int v :: st)) : ZZ p l e R s m args below meth c D n0 127 nL cells slots Q (κ, μ, o) pc ls (.int i :: .ref (n0 + 112) :: st) := by subst hv; exact z_iald C j enc_112 (by decide) hij hj (by decide) hd kk
theorem as_112 (C : Cx p l s m args meth c D n0 own cc nL) {i x : Int32} (j : Nat) (hij : i = nI j) (hj : j < 160) (hd : decode cc pc = .ok (.iastore, 1)) (kk : ZZ p l e R s m args below meth c D n0 127 nL cells slots Q (up κ 112 j x, μ, o) (pc + 1) ls st) : ZZ p l e R s m args below meth c D n0 127 nL cells slots Q (κ, μ, o) pc ls (.int x :: .int i :: .ref (n0 + 112) :: st) := z_iast (σ1 := (up κ 112 j x, μ, o)) C j enc_112 (by rw [enc_112, up_upd]) (fun j hj => enc_up hj) (by decide) hij hj (by decide) hd kk
theorem an_112 (C : Cx p l s m args meth c D n0 own cc nL) (hd : decode cc pc = .ok (.arraylength, 1)) (kk : ZZ p l e R s m args below meth c D n0 127 nL cells slots Q (κ, μ, o) (pc + 1) ls (.int 160 :: st)) : ZZ p l e R s m args below meth c D n0 127 nL cells slots Q (κ, μ, o) pc ls (.ref (n0 + 112) :: st) := z_alen C 0 enc_112 rfl (by decide) rfl hd kk
theorem al_U (C : Cx p l s m args meth c D n0 own cc nL) {b : Nat} (hb : isS b) {i v : Int32} (j : Nat) (hij : i = nI j) (hj : j < 96) (hv : κ (b + 34) j = v) (hd : decode cc pc = .ok (.iaload, 1)) (kk : ZZ p l e R s m args below meth c D n0 127 nL cells slots Q (κ, μ, o) (pc + 1) ls (.int v :: st)) : ZZ p l e R s m args below meth c D n0 127 nL cells slots Q (κ, μ, o) pc ls (.int i :: .ref (n0 + (b + 34)) :: st) := by subst hv; exact z_iald C j (enc_SU hb) (by rcases hb with rfl | rfl | rfl <;> decide) hij hj (by decide) hd kk
theorem as_U (C : Cx p l s m args meth c D n0 own cc nL) {b : Nat} (hb : isS b) {i x : Int32} (j : Nat) (hij : i = nI j) (hj : j < 96) (hd : decode cc pc = .ok (.iastore, 1)) (kk : ZZ p l e R s m args below meth c D n0 127 nL cells slots Q (up κ (b + 34) j x, μ, o) (pc + 1) ls st) : ZZ p l e R s m args below meth c D n0 127 nL cells slots Q (κ, μ, o) pc ls (.int x :: .int i :: .ref (n0 + (b + 34)) :: st) := z_iast (σ1 := (up κ (b + 34) j x, μ, o)) C j (enc_SU hb) (by rw [enc_SU hb, up_upd]) (fun j hj => enc_up hj) (by rcases hb with rfl | rfl | rfl <;> decide) hij hj (by decide) hd kk
theorem an_U (C : Cx p l s m args meth c D n0 own cc nL) {b : Nat} (hb : isS b) (hd : decode cc pc = .ok (.arraylength, 1)) (kk : ZZ p l e R s m args below meth c D n0 127 nL cells slots Q (κ, μ, o) (pc + 1) ls (.int 96 :: st)) : ZZ p l e R s m args below meth c D n0 127 nL cells slots Q (κ, μ, o) pc ls (.ref (n0 + (b + 34)) :: st) := z_alen C 0 (enc_SU hb) rfl (by rcases hb with rfl | rfl | rfl <;> decide) rfl hd kk
theorem al_E (C : Cx p l s m args meth c D n0 own cc nL) {k : Nat} (hk : isV k) {i v : Int32} (j : Nat) (hij : i = nI j) (hj : j < 40) (hv : κ (k + 1) j = v) (hd : decode cc pc = .ok (.iaload, 1)) (kk : ZZ p l e R s m args below meth c D n0 127 nL cells slots Q (κ, μ, o) (pc + 1) ls (.int v :: st)) : ZZ p l e R s m args below meth c D n0 127 nL cells slots Q (κ, μ, o) pc ls (.int i :: .ref (n0 + (k + 1)) :: st) := by subst hv; exact z_iald C j (enc_E hk) (by have := hk.2.1; omega) hij hj (by decide) hd kk
theorem as_E (C : Cx p l s m args meth c D n0 own cc nL) {k : Nat} (hk : isV k) {i x : Int32} (j : Nat) (hij : i = nI j) (hj : j < 40) (hd : decode cc pc = .ok (.iastore, 1)) (kk : ZZ p l e R s m args below meth c D n0 127 nL cells slots Q (up κ (k + 1) j x, μ, o) (pc + 1) ls st) : ZZ p l e R s m args below meth c D n0 127 nL cells slots Q (κ, μ, o) pc ls (.int x :: .int i :: .ref (n0 + (k + 1)) :: st) := z_iast (σ1 := (up κ (k + 1) j x, μ, o)) C j (enc_E hk) (by rw [enc_E hk, up_upd]) (fun j hj => enc_up hj) (by have := hk.2.1; omega) hij hj (by decide) hd kk
theorem an_E (C : Cx p l s m args meth c D n0 own cc nL) {k : Nat} (hk : isV k) (hd : decode cc pc = .ok (.arraylength, 1)) (kk : ZZ p l e R s m args below meth c D n0 127 nL cells slots Q (κ, μ, o) (pc + 1) ls (.int 40 :: st)) : ZZ p l e R s m args below meth c D n0 127 nL cells slots Q (κ, μ, o) pc ls (.ref (n0 + (k + 1)) :: st) := z_alen C 0 (enc_E hk) rfl (by have := hk.2.1; omega) rfl hd kk
theorem an_SV (C : Cx p l s m args meth c D n0 own cc nL) {b : Nat} (hb : isS b) (hd : decode cc pc = .ok (.arraylength, 1)) (kk : ZZ p l e R s m args below meth c D n0 127 nL cells slots Q (κ, μ, o) (pc + 1) ls (.int 16 :: st)) : ZZ p l e R s m args below meth c D n0 127 nL cells slots Q (κ, μ, o) pc ls (.ref (n0 + (b + 1)) :: st) := z_alen C 2 (enc_SV hb) rfl (by rcases hb with rfl | rfl | rfl <;> decide) rfl hd kk
theorem al_114 (C : Cx p l s m args meth c D n0 own cc nL) {i v : Int32} (j : Nat) (hij : i = nI j) (hj : j < 48) (hv : μ 1 j = v) (hd : decode cc pc = .ok (.baload, 1)) (kk : ZZ p l e R s m args below meth c D n0 127 nL cells slots Q (κ, μ, o) (pc + 1) ls (.int v :: st)) : ZZ p l e R s m args below meth c D n0 127 nL cells slots Q (κ, μ, o) pc ls (.int i :: .ref (n0 + 114) :: st) := by subst hv; exact z_bald C j enc_114 (by decide) hij hj (by decide) hd kk
theorem as_114 (C : Cx p l s m args meth c D n0 own cc nL) {i x : Int32} (j : Nat) (hx : x = 0 ∨ x = 1) (hij : i = nI j) (hj : j < 48) (hd : decode cc pc = .ok (.bastore, 1)) (kk : ZZ p l e R s m args below meth c D n0 127 nL cells slots Q (κ, up μ 1 j x, o) (pc + 1) ls st) : ZZ p l e R s m args below meth c D n0 127 nL cells slots Q (κ, μ, o) pc ls (.int x :: .int i :: .ref (n0 + 114) :: st) := z_bast (σ1 := (κ, up μ 1 j x, o)) C j enc_114 (by rw [enc_114, up_upd]) (fun j hj => enc_um (by omega)) hx (by decide) hij hj (by decide) hd kk
theorem al_115 (C : Cx p l s m args meth c D n0 own cc nL) {i v : Int32} (j : Nat) (hij : i = nI j) (hj : j < 48) (hv : μ 2 j = v) (hd : decode cc pc = .ok (.iaload, 1)) (kk : ZZ p l e R s m args below meth c D n0 127 nL cells slots Q (κ, μ, o) (pc + 1) ls (.int v :: st)) : ZZ p l e R s m args below meth c D n0 127 nL cells slots Q (κ, μ, o) pc ls (.int i :: .ref (n0 + 115) :: st) := by subst hv; exact z_iald C j enc_115 (by decide) hij hj (by decide) hd kk
theorem as_115 (C : Cx p l s m args meth c D n0 own cc nL) {i x : Int32} (j : Nat) (hij : i = nI j) (hj : j < 48) (hd : decode cc pc = .ok (.iastore, 1)) (kk : ZZ p l e R s m args below meth c D n0 127 nL cells slots Q (κ, up μ 2 j x, o) (pc + 1) ls st) : ZZ p l e R s m args below meth c D n0 127 nL cells slots Q (κ, μ, o) pc ls (.int x :: .int i :: .ref (n0 + 115) :: st) := z_iast (σ1 := (κ, up μ 2 j x, o)) C j enc_115 (by rw [enc_115, up_upd]) (fun j hj => enc_um (by omega)) (by decide) hij hj (by decide) hd kk
theorem al_116 (C : Cx p l s m args meth c D n0 own cc nL) {i v : Int32} (j : Nat) (hij : i = nI j) (hj : j < 48) (hv : μ 3 j = v) (hd : decode cc pc = .ok (.baload, 1)) (kk : ZZ p l e R s m args below meth c D n0 127 nL cells slots Q (κ, μ, o) (pc + 1) ls (.int v :: st)) : ZZ p l e R s m args below meth c D n0 127 nL cells slots Q (κ, μ, o) pc ls (.int i :: .ref (n0 + 116) :: st) := by subst hv; exact z_bald C j enc_116 (by decide) hij hj (by decide) hd kk
theorem as_116 (C : Cx p l s m args meth c D n0 own cc nL) {i x : Int32} (j : Nat) (hx : x = 0 ∨ x = 1) (hij : i = nI j) (hj : j < 48) (hd : decode cc pc = .ok (.bastore, 1)) (kk : ZZ p l e R s m args below meth c D n0 127 nL cells slots Q (κ, up μ 3 j x, o) (pc + 1) ls st) : ZZ p l e R s m args below meth c D n0 127 nL cells slots Q (κ, μ, o) pc ls (.int x :: .int i :: .ref (n0 + 116) :: st) := z_bast (σ1 := (κ, up μ 3 j x, o)) C j enc_116 (by rw [enc_116, up_upd]) (fun j hj => enc_um (by omega)) hx (by decide) hij hj (by decide) hd kk
theorem al_117 (C : Cx p l s m args meth c D n0 own cc nL) {i v : Int32} (j : Nat) (hij : i = nI j) (hj : j < 48) (hv : μ 4 j = v) (hd : decode cc pc = .ok (.iaload, 1)) (kk : ZZ p l e R s m args below meth c D n0 127 nL cells slots Q (κ, μ, o) (pc + 1) ls (.int v :: st)) : ZZ p l e R s m args below meth c D n0 127 nL cells slots Q (κ, μ, o) pc ls (.int i :: .ref (n0 + 117) :: st) := by subst hv; exact z_iald C j enc_117 (by decide) hij hj (by decide) hd kk
theorem as_117 (C : Cx p l s m args meth c D n0 own cc nL) {i x : Int32} (j : Nat) (hij : i = nI j) (hj : j < 48) (hd : decode cc pc = .ok (.iastore, 1)) (kk : ZZ p l e R s m args below meth c D n0 127 nL cells slots Q (κ, up μ 4 j x, o) (pc + 1) ls st) : ZZ p l e R s m args below meth c D n0 127 nL cells slots Q (κ, μ, o) pc ls (.int x :: .int i :: .ref (n0 + 117) :: st) := z_iast (σ1 := (κ, up μ 4 j x, o)) C j enc_117 (by rw [enc_117, up_upd]) (fun j hj => enc_um (by omega)) (by decide) hij hj (by decide) hd kk
theorem al_118 (C : Cx p l s m args meth c D n0 own cc nL) {i v : Int32} (j : Nat) (hij : i = nI j) (hj : j < 48) (hv : μ 5 j = v) (hd : decode cc pc = .ok (.iaload, 1)) (kk : ZZ p l e R s m args below meth c D n0 127 nL cells slots Q (κ, μ, o) (pc + 1) ls (.int v :: st)) : ZZ p l e R s m args below meth c D n0 127 nL cells slots Q (κ, μ, o) pc ls (.int i :: .ref (n0 + 118) :: st) := by subst hv; exact z_iald C j enc_118 (by decide) hij hj (by decide) hd kk
theorem as_118 (C : Cx p l s m args meth c D n0 own cc nL) {i x : Int32} (j : Nat) (hij : i = nI j) (hj : j < 48) (hd : decode cc pc = .ok (.iastore, 1)) (kk : ZZ p l e R s m args below meth c D n0 127 nL cells slots Q (κ, up μ 5 j x, o) (pc + 1) ls st) : ZZ p l e R s m args below meth c D n0 127 nL cells slots Q (κ, μ, o) pc ls (.int x :: .int i :: .ref (n0 + 118) :: st) := z_iast (σ1 := (κ, up μ 5 j x, o)) C j enc_118 (by rw [enc_118, up_upd]) (fun j hj => enc_um (by omega)) (by decide) hij hj (by decide) hd kk
theorem al_119 (C : Cx p l s m args meth c D n0 own cc nL) {i v : Int32} (j : Nat) (hij : i = nI j) (hj : j < 1920) (hv : μ 6 j = v) (hd : decode cc pc = .ok (.iaload, 1)) (kk : ZZ p l e R s m args below meth c D n0 127 nL cells slots Q (κ, μ, o) (pc + 1) ls (.int v :: st)) : ZZ p l e R s m args below meth c D n0 127 nL cells slots Q (κ, μ, o) pc ls (.int i :: .ref (n0 + 119) :: st) := by subst hv; exact z_iald C j enc_119 (by decide) hij hj (by decide) hd kk
theorem as_119 (C : Cx p l s m args meth c D n0 own cc nL) {i x : Int32} (j : Nat) (hij : i = nI j) (hj : j < 1920) (hd : decode cc pc = .ok (.iastore, 1)) (kk : ZZ p l e R s m args below meth c D n0 127 nL cells slots Q (κ, up μ 6 j x, o) (pc + 1) ls st) : ZZ p l e R s m args below meth c D n0 127 nL cells slots Q (κ, μ, o) pc ls (.int x :: .int i :: .ref (n0 + 119) :: st) := z_iast (σ1 := (κ, up μ 6 j x, o)) C j enc_119 (by rw [enc_119, up_upd]) (fun j hj => enc_um (by omega)) (by decide) hij hj (by decide) hd kk
theorem al_120 (C : Cx p l s m args meth c D n0 own cc nL) {i v : Int32} (j : Nat) (hij : i = nI j) (hj : j < 3) (hv : μ 7 j = v) (hd : decode cc pc = .ok (.iaload, 1)) (kk : ZZ p l e R s m args below meth c D n0 127 nL cells slots Q (κ, μ, o) (pc + 1) ls (.int v :: st)) : ZZ p l e R s m args below meth c D n0 127 nL cells slots Q (κ, μ, o) pc ls (.int i :: .ref (n0 + 120) :: st) := by subst hv; exact z_iald C j enc_120 (by decide) hij hj (by decide) hd kk
theorem as_120 (C : Cx p l s m args meth c D n0 own cc nL) {i x : Int32} (j : Nat) (hij : i = nI j) (hj : j < 3) (hd : decode cc pc = .ok (.iastore, 1)) (kk : ZZ p l e R s m args below meth c D n0 127 nL cells slots Q (κ, up μ 7 j x, o) (pc + 1) ls st) : ZZ p l e R s m args below meth c D n0 127 nL cells slots Q (κ, μ, o) pc ls (.int x :: .int i :: .ref (n0 + 120) :: st) := z_iast (σ1 := (κ, up μ 7 j x, o)) C j enc_120 (by rw [enc_120, up_upd]) (fun j hj => enc_um (by omega)) (by decide) hij hj (by decide) hd kk
theorem al_121 (C : Cx p l s m args meth c D n0 own cc nL) {i v : Int32} (j : Nat) (hij : i = nI j) (hj : j < 384) (hv : μ 8 j = v) (hd : decode cc pc = .ok (.iaload, 1)) (kk : ZZ p l e R s m args below meth c D n0 127 nL cells slots Q (κ, μ, o) (pc + 1) ls (.int v :: st)) : ZZ p l e R s m args below meth c D n0 127 nL cells slots Q (κ, μ, o) pc ls (.int i :: .ref (n0 + 121) :: st) := by subst hv; exact z_iald C j enc_121 (by decide) hij hj (by decide) hd kk
theorem as_121 (C : Cx p l s m args meth c D n0 own cc nL) {i x : Int32} (j : Nat) (hij : i = nI j) (hj : j < 384) (hd : decode cc pc = .ok (.iastore, 1)) (kk : ZZ p l e R s m args below meth c D n0 127 nL cells slots Q (κ, up μ 8 j x, o) (pc + 1) ls st) : ZZ p l e R s m args below meth c D n0 127 nL cells slots Q (κ, μ, o) pc ls (.int x :: .int i :: .ref (n0 + 121) :: st) := z_iast (σ1 := (κ, up μ 8 j x, o)) C j enc_121 (by rw [enc_121, up_upd]) (fun j hj => enc_um (by omega)) (by decide) hij hj (by decide) hd kk
theorem al_122 (C : Cx p l s m args meth c D n0 own cc nL) {i v : Int32} (j : Nat) (hij : i = nI j) (hj : j < 160) (hv : μ 9 j = v) (hd : decode cc pc = .ok (.iaload, 1)) (kk : ZZ p l e R s m args below meth c D n0 127 nL cells slots Q (κ, μ, o) (pc + 1) ls (.int v :: st)) : ZZ p l e R s m args below meth c D n0 127 nL cells slots Q (κ, μ, o) pc ls (.int i :: .ref (n0 + 122) :: st) := by subst hv; exact z_iald C j enc_122 (by decide) hij hj (by decide) hd kk
theorem as_122 (C : Cx p l s m args meth c D n0 own cc nL) {i x : Int32} (j : Nat) (hij : i = nI j) (hj : j < 160) (hd : decode cc pc = .ok (.iastore, 1)) (kk : ZZ p l e R s m args below meth c D n0 127 nL cells slots Q (κ, up μ 9 j x, o) (pc + 1) ls st) : ZZ p l e R s m args below meth c D n0 127 nL cells slots Q (κ, μ, o) pc ls (.int x :: .int i :: .ref (n0 + 122) :: st) := z_iast (σ1 := (κ, up μ 9 j x, o)) C j enc_122 (by rw [enc_122, up_upd]) (fun j hj => enc_um (by omega)) (by decide) hij hj (by decide) hd kk
theorem al_123 (C : Cx p l s m args meth c D n0 own cc nL) {i v : Int32} (j : Nat) (hij : i = nI j) (hj : j < 8) (hv : μ 10 j = v) (hd : decode cc pc = .ok (.iaload, 1)) (kk : ZZ p l e R s m args below meth c D n0 127 nL cells slots Q (κ, μ, o) (pc + 1) ls (.int v :: st)) : ZZ p l e R s m args below meth c D n0 127 nL cells slots Q (κ, μ, o) pc ls (.int i :: .ref (n0 + 123) :: st) := by subst hv; exact z_iald C j enc_123 (by decide) hij hj (by decide) hd kk
theorem as_123 (C : Cx p l s m args meth c D n0 own cc nL) {i x : Int32} (j : Nat) (hij : i = nI j) (hj : j < 8) (hd : decode cc pc = .ok (.iastore, 1)) (kk : ZZ p l e R s m args below meth c D n0 127 nL cells slots Q (κ, up μ 10 j x, o) (pc + 1) ls st) : ZZ p l e R s m args below meth c D n0 127 nL cells slots Q (κ, μ, o) pc ls (.int x :: .int i :: .ref (n0 + 123) :: st) := z_iast (σ1 := (κ, up μ 10 j x, o)) C j enc_123 (by rw [enc_123, up_upd]) (fun j hj => enc_um (by omega)) (by decide) hij hj (by decide) hd kk
theorem al_124 (C : Cx p l s m args meth c D n0 own cc nL) {i v : Int32} (j : Nat) (hij : i = nI j) (hj : j < 8) (hv : μ 11 j = v) (hd : decode cc pc = .ok (.iaload, 1)) (kk : ZZ p l e R s m args below meth c D n0 127 nL cells slots Q (κ, μ, o) (pc + 1) ls (.int v :: st)) : ZZ p l e R s m args below meth c D n0 127 nL cells slots Q (κ, μ, o) pc ls (.int i :: .ref (n0 + 124) :: st) := by subst hv; exact z_iald C j enc_124 (by decide) hij hj (by decide) hd kk
theorem as_124 (C : Cx p l s m args meth c D n0 own cc nL) {i x : Int32} (j : Nat) (hij : i = nI j) (hj : j < 8) (hd : decode cc pc = .ok (.iastore, 1)) (kk : ZZ p l e R s m args below meth c D n0 127 nL cells slots Q (κ, up μ 11 j x, o) (pc + 1) ls st) : ZZ p l e R s m args below meth c D n0 127 nL cells slots Q (κ, μ, o) pc ls (.int x :: .int i :: .ref (n0 + 124) :: st) := z_iast (σ1 := (κ, up μ 11 j x, o)) C j enc_124 (by rw [enc_124, up_upd]) (fun j hj => enc_um (by omega)) (by decide) hij hj (by decide) hd kk
theorem al_125 (C : Cx p l s m args meth c D n0 own cc nL) {i v : Int32} (j : Nat) (hij : i = nI j) (hj : j < 8) (hv : μ 12 j = v) (hd : decode cc pc = .ok (.iaload, 1)) (kk : ZZ p l e R s m args below meth c D n0 127 nL cells slots Q (κ, μ, o) (pc + 1) ls (.int v :: st)) : ZZ p l e R s m args below meth c D n0 127 nL cells slots Q (κ, μ, o) pc ls (.int i :: .ref (n0 + 125) :: st) := by subst hv; exact z_iald C j enc_125 (by decide) hij hj (by decide) hd kk
theorem as_125 (C : Cx p l s m args meth c D n0 own cc nL) {i x : Int32} (j : Nat) (hij : i = nI j) (hj : j < 8) (hd : decode cc pc = .ok (.iastore, 1)) (kk : ZZ p l e R s m args below meth c D n0 127 nL cells slots Q (κ, up μ 12 j x, o) (pc + 1) ls st) : ZZ p l e R s m args below meth c D n0 127 nL cells slots Q (κ, μ, o) pc ls (.int x :: .int i :: .ref (n0 + 125) :: st) := z_iast (σ1 := (κ, up μ 12 j x, o)) C j enc_125 (by rw [enc_125, up_upd]) (fun j hj => enc_um (by omega)) (by decide) hij hj (by decide) hd kk
end FR
theorem ok_X3_15 : okS RX3 15 yJ7_fill_53178 cJ7_fill_53178 4 none 2 := ⟨wd_81, wd_82, wd_49, wd_83, by decide +kernel⟩
theorem ok_L_135 : okV RL RX4 135 yX4_mark cX4_mark 3 (some .boolean) 2 := ⟨wd_231, wd_232, wd_233, wd_46, wd_234, by decide +kernel⟩
theorem ok_L_143 : okV RL RX4 143 yX4_commit cX4_commit 1 (some .int) 0 := ⟨wd_235, wd_236, wd_237, wd_46, wd_238, by decide +kernel⟩
theorem ok_X4_184 : okV RX4 RX4 184 yX4_writeHead cX4_writeHead 1 none 0 := ⟨wd_239, wd_241, wd_0, wd_46, wd_242, by decide +kernel⟩
theorem ok_X4_192 : okV RX4 RX2 192 yX2_copy cX2_copy 3 none 1 := ⟨wd_243, wd_244, wd_245, wd_47, wd_246, by decide +kernel⟩
theorem ok_X2_66 : okV RX2 RX3 66 yX3_copy cX3_copy 2 none 1 := ⟨wd_247, wd_248, wd_249, wd_48, wd_250, by decide +kernel⟩
theorem ok_X4_108 : okV RX4 RX4 108 yX4_serveQueue cX4_serveQueue 2 none 0 := ⟨wd_255, wd_257, wd_1, wd_46, wd_258, by decide +kernel⟩
theorem ok_X4_308 : okV RX4 RX4 308 yX4_serveFirst cX4_serveFirst 3 (some .boolean) 0 := ⟨wd_259, wd_261, wd_2, wd_46, wd_262, by decide +kernel⟩
theorem ok_X4_314 : okV RX4 RX1 314 yX1_volumeAt cX1_volumeAt 2 (some .int) 1 := ⟨wd_263, wd_264, wd_265, wd_51, wd_266, by decide +kernel⟩
theorem ok_X4_276 : okV RX4 RX2 276 yX2_find cX2_find 3 (some (.object "ThinExtents$Volume")) 1 := ⟨wd_267, wd_268, wd_269, wd_47, wd_270, by decide +kernel⟩
theorem ok_X2_22 : okV RX2 RX2 22 yX2_slot cX2_slot 2 (some (.object "ThinExtents$Volume")) 1 := ⟨wd_271, wd_272, wd_273, wd_47, wd_274, by decide +kernel⟩
theorem ok_X4_317 : okV RX4 RX1 317 yX1_wordAt cX1_wordAt 2 (some .int) 1 := ⟨wd_275, wd_276, wd_277, wd_51, wd_278, by decide +kernel⟩
theorem ok_X4_137 : okV RX4 RX4 137 yX4_isOver cX4_isOver 3 (some .boolean) 2 := ⟨wd_279, wd_281, wd_3, wd_46, wd_282, by decide +kernel⟩
theorem ok_X4_83 : okV RX4 RX3 83 yX3_extentOf cX3_extentOf 2 (some .int) 1 := ⟨wd_283, wd_284, wd_285, wd_48, wd_286, by decide +kernel⟩
theorem ok_X4_130 : okV RX4 RX4 130 yX4_needsExtent cX4_needsExtent 3 (some .boolean) 2 := ⟨wd_287, wd_289, wd_4, wd_46, wd_290, by decide +kernel⟩
theorem ok_X4_293 : okV RX4 RX0 293 yX0_isSole cX0_isSole 2 (some .boolean) 1 := ⟨wd_291, wd_292, wd_293, wd_50, wd_294, by decide +kernel⟩
theorem ok_X0_29 : okV RX0 RX2 29 yX2_usesOf cX2_usesOf 2 (some .int) 1 := ⟨wd_295, wd_296, wd_297, wd_47, wd_298, by decide +kernel⟩
theorem ok_X4_264 : okV RX4 RX0 264 yX0_countFree cX0_countFree 3 (some .int) 0 := ⟨wd_299, wd_300, wd_301, wd_50, wd_302, by decide +kernel⟩
theorem ok_X0_35 : okV RX0 RX0 35 yX0_isFree cX0_isFree 2 (some .boolean) 1 := ⟨wd_303, wd_304, wd_305, wd_50, wd_306, by decide +kernel⟩
theorem ok_X4_319 : okV RX4 RX1 319 yX1_valueAt cX1_valueAt 2 (some .int) 1 := ⟨wd_307, wd_308, wd_309, wd_51, wd_310, by decide +kernel⟩
theorem ok_X4_134 : okV RX4 RX4 134 yX4_perform cX4_perform 8 (some .int) 3 := ⟨wd_311, wd_313, wd_5, wd_46, wd_314, by decide +kernel⟩
theorem ok_X4_299 : okV RX4 RX0 299 yX0_setWord cX0_setWord 5 none 3 := ⟨wd_315, wd_316, wd_317, wd_50, wd_318, by decide +kernel⟩
theorem ok_X4_302 : okV RX4 RX0 302 yX0_take cX0_take 4 (some .int) 0 := ⟨wd_319, wd_320, wd_321, wd_50, wd_322, by decide +kernel⟩
theorem ok_X4_144 : okV RX4 RX4 144 yX4_wordOf cX4_wordOf 4 (some .int) 2 := ⟨wd_323, wd_325, wd_6, wd_46, wd_326, by decide +kernel⟩
theorem ok_X4_305 : okV RX4 RX0 305 yX0_wordAt cX0_wordAt 4 (some .int) 2 := ⟨wd_327, wd_328, wd_329, wd_50, wd_330, by decide +kernel⟩
theorem ok_X4_87 : okV RX4 RX2 87 yX2_setExtent cX2_setExtent 5 none 3 := ⟨wd_331, wd_332, wd_333, wd_47, wd_334, by decide +kernel⟩
theorem ok_X2_49 : okV RX2 RX3 49 yX3_extentOf cX3_extentOf 2 (some .int) 1 := ⟨wd_335, wd_284, wd_285, wd_48, wd_286, by decide +kernel⟩
theorem ok_X2_56 : okV RX2 RX3 56 yX3_setExtent cX3_setExtent 3 none 2 := ⟨wd_336, wd_337, wd_338, wd_48, wd_339, by decide +kernel⟩
theorem ok_X4_311 : okV RX4 RX1 311 yX1_removeFirst cX1_removeFirst 2 none 0 := ⟨wd_340, wd_341, wd_342, wd_51, wd_343, by decide +kernel⟩
theorem ok_X1_33 : okV RX1 RX1 33 yX1_volumeAt cX1_volumeAt 2 (some .int) 1 := ⟨wd_344, wd_264, wd_265, wd_51, wd_266, by decide +kernel⟩
theorem ok_X1_29 : okV RX1 RX1 29 yX1_wordAt cX1_wordAt 2 (some .int) 1 := ⟨wd_345, wd_276, wd_277, wd_51, wd_278, by decide +kernel⟩
theorem ok_X1_36 : okV RX1 RX1 36 yX1_valueAt cX1_valueAt 2 (some .int) 1 := ⟨wd_346, wd_308, wd_309, wd_51, wd_310, by decide +kernel⟩
theorem ok_X1_25 : okV RX1 RX1 25 yX1_put cX1_put 5 none 4 := ⟨wd_347, wd_349, wd_7, wd_51, wd_350, by decide +kernel⟩
theorem ok_L_154 : okV RL RX4 154 yX4_release cX4_release 2 (some .boolean) 0 := ⟨wd_351, wd_352, wd_353, wd_46, wd_354, by decide +kernel⟩
theorem ok_X4_205 : okV RX4 RX2 205 yX2_clear cX2_clear 5 none 0 := ⟨wd_355, wd_356, wd_357, wd_47, wd_358, by decide +kernel⟩
theorem ok_X2_46 : okV RX2 RX3 46 yX3_clear cX3_clear 1 none 0 := ⟨wd_359, wd_360, wd_361, wd_48, wd_362, by decide +kernel⟩
theorem ok_X2_76 : okS RX2 76 yJ7_fill_53178 cJ7_fill_53178 4 none 2 := ⟨wd_363, wd_82, wd_49, wd_83, by decide +kernel⟩
theorem ok_L_7 : okV RL RX4 7 yX4_make cX4_make 5 (some .int) 3 := ⟨wd_370, wd_371, wd_372, wd_46, wd_373, by decide +kernel⟩
theorem ok_X4_42 : okV RX4 RX4 42 yX4_numbered cX4_numbered 3 (some (.object "ThinExtents$Volume")) 1 := ⟨wd_374, wd_376, wd_8, wd_46, wd_377, by decide +kernel⟩
theorem ok_X4_226 : okV RX4 RX2 226 yX2_slot cX2_slot 2 (some (.object "ThinExtents$Volume")) 1 := ⟨wd_378, wd_272, wd_273, wd_47, wd_274, by decide +kernel⟩
theorem ok_X4_46 : okV RX4 RX4 46 yX4_requireSize cX4_requireSize 2 none 1 := ⟨wd_447, wd_449, wd_10, wd_46, wd_450, by decide +kernel⟩
theorem ok_X4_63 : okV RX4 RX2 63 yX2_add cX2_add 6 none 5 := ⟨wd_483, wd_484, wd_485, wd_47, wd_486, by decide +kernel⟩
theorem ok_L_19 : okV RL RX4 19 yX4_snap cX4_snap 6 (some .int) 2 := ⟨wd_490, wd_491, wd_492, wd_46, wd_493, by decide +kernel⟩
theorem ok_X4_71 : okV RX4 RX4 71 yX4_existing cX4_existing 3 (some (.object "ThinExtents$Volume")) 1 := ⟨wd_494, wd_496, wd_11, wd_46, wd_497, by decide +kernel⟩
theorem ok_L_23 : okV RL RX4 23 yX4_drop cX4_drop 4 (some .int) 1 := ⟨wd_502, wd_503, wd_504, wd_46, wd_505, by decide +kernel⟩
theorem ok_X4_97 : okV RX4 RX1 97 yX1_removeAllOf cX1_removeAllOf 4 (some .int) 1 := ⟨wd_506, wd_507, wd_508, wd_51, wd_509, by decide +kernel⟩
theorem ok_X4_100 : okV RX4 RX2 100 yX2_unmap cX2_unmap 6 (some .int) 3 := ⟨wd_510, wd_511, wd_512, wd_47, wd_513, by decide +kernel⟩
theorem ok_X2_60 : okV RX2 RX2 60 yX2_setExtent cX2_setExtent 5 none 3 := ⟨wd_514, wd_332, wd_333, wd_47, wd_334, by decide +kernel⟩
theorem ok_X4_104 : okV RX4 RX2 104 yX2_remove cX2_remove 2 none 1 := ⟨wd_515, wd_516, wd_517, wd_47, wd_518, by decide +kernel⟩
theorem ok_L_27 : okV RL RX4 27 yX4_resize cX4_resize 5 (some .int) 2 := ⟨wd_522, wd_523, wd_524, wd_46, wd_525, by decide +kernel⟩
theorem ok_X4_111 : okV RX4 RX4 111 yX4_requireNoneWaits cX4_requireNoneWaits 4 none 3 := ⟨wd_526, wd_528, wd_12, wd_46, wd_529, by decide +kernel⟩
theorem ok_X4_122 : okV RX4 RX1 122 yX1_waitsIn cX1_waitsIn 6 (some .boolean) 3 := ⟨wd_530, wd_531, wd_532, wd_51, wd_533, by decide +kernel⟩
theorem ok_L_30 : okV RL RX4 30 yX4_write cX4_write 6 (some .int) 3 := ⟨wd_538, wd_539, wd_540, wd_46, wd_541, by decide +kernel⟩
theorem ok_X4_115 : okV RX4 RX4 115 yX4_requireWord cX4_requireWord 3 none 2 := ⟨wd_542, wd_544, wd_13, wd_46, wd_545, by decide +kernel⟩
theorem ok_X4_126 : okV RX4 RX4 126 yX4_enqueue cX4_enqueue 4 (some .int) 3 := ⟨wd_547, wd_549, wd_14, wd_46, wd_550, by decide +kernel⟩
theorem ok_X4_297 : okV RX4 RX1 297 yX1_add cX1_add 4 (some .boolean) 3 := ⟨wd_551, wd_552, wd_553, wd_51, wd_554, by decide +kernel⟩
theorem ok_X4_140 : okV RX4 RX4 140 yX4_writeNeeding cX4_writeNeeding 5 (some .int) 4 := ⟨wd_555, wd_557, wd_15, wd_46, wd_558, by decide +kernel⟩
theorem ok_L_34 : okV RL RX4 34 yX4_read cX4_read 4 (some .int) 2 := ⟨wd_562, wd_563, wd_564, wd_46, wd_565, by decide +kernel⟩
theorem ok_L_37 : okV RL RX4 37 yX4_discard cX4_discard 6 (some .int) 3 := ⟨wd_569, wd_570, wd_571, wd_46, wd_572, by decide +kernel⟩
theorem ok_L_40 : okV RL RX4 40 yX4_grow cX4_grow 2 (some .int) 1 := ⟨wd_577, wd_578, wd_579, wd_46, wd_580, by decide +kernel⟩
theorem ok_X4_153 : okV RX4 RX4 153 yX4_requireNotNegative cX4_requireNotNegative 2 none 1 := ⟨wd_581, wd_583, wd_16, wd_46, wd_584, by decide +kernel⟩
theorem ok_L_43 : okV RL RX4 43 yX4_shrink cX4_shrink 2 (some .int) 1 := ⟨wd_589, wd_590, wd_591, wd_46, wd_592, by decide +kernel⟩
theorem ok_X4_157 : okV RX4 RX0 157 yX0_areFree cX0_areFree 4 (some .boolean) 2 := ⟨wd_593, wd_594, wd_595, wd_50, wd_596, by decide +kernel⟩
theorem ok_L_46 : okV RL RX4 46 yX4_back cX4_back 4 (some .int) 2 := ⟨wd_600, wd_601, wd_602, wd_46, wd_603, by decide +kernel⟩
theorem ok_X4_166 : okV RX4 RX2 166 yX2_hasBacked cX2_hasBacked 5 (some .boolean) 0 := ⟨wd_605, wd_606, wd_607, wd_47, wd_608, by decide +kernel⟩
theorem ok_L_49 : okV RL RX4 49 yX4_quota cX4_quota 5 (some .int) 2 := ⟨wd_613, wd_614, wd_615, wd_46, wd_616, by decide +kernel⟩
theorem ok_L_52 : okV RL RX4 52 yX4_marked cX4_marked 2 (some .int) 1 := ⟨wd_621, wd_622, wd_623, wd_46, wd_624, by decide +kernel⟩
theorem ok_X4_180 : okV RX4 RX4 180 yX4_stateOf cX4_stateOf 2 (some (.object "ThinExtents$State")) 1 := ⟨wd_625, wd_627, wd_17, wd_46, wd_628, by decide +kernel⟩
theorem ok_L_55 : okV RL RX4 55 yX4_cut cX4_cut 2 (some .int) 1 := ⟨wd_633, wd_634, wd_635, wd_46, wd_636, by decide +kernel⟩
theorem ok_X4_196 : okV RX4 RX1 196 yX1_removeAll cX1_removeAll 2 (some .int) 0 := ⟨wd_638, wd_639, wd_640, wd_51, wd_641, by decide +kernel⟩
theorem ok_L_58 : okV RL RX4 58 yX4_hold cX4_hold 1 (some .int) 0 := ⟨wd_645, wd_646, wd_647, wd_46, wd_648, by decide +kernel⟩
theorem ok_L_62 : okV RL RX4 62 yX4_patience cX4_patience 3 (some .int) 1 := ⟨wd_653, wd_654, wd_655, wd_46, wd_656, by decide +kernel⟩
theorem ok_L_65 : okV RL RX4 65 yX4_alarm cX4_alarm 3 (some .int) 1 := ⟨wd_661, wd_662, wd_663, wd_46, wd_664, by decide +kernel⟩
theorem ok_L_68 : okV RL RX4 68 yX4_tick cX4_tick 3 (some .int) 1 := ⟨wd_669, wd_670, wd_671, wd_46, wd_672, by decide +kernel⟩
theorem ok_L_71 : okV RL RX4 71 yX4_map cX4_map 6 (some .int) 3 := ⟨wd_677, wd_678, wd_679, wd_46, wd_680, by decide +kernel⟩
theorem ok_L_74 : okV RL RX4 74 yX4_volume cX4_volume 4 (some .int) 2 := ⟨wd_685, wd_686, wd_687, wd_46, wd_688, by decide +kernel⟩
theorem ok_X4_231 : okV RX4 RX3 231 yX3_lastMapped cX3_lastMapped 2 (some .int) 0 := ⟨wd_689, wd_690, wd_691, wd_48, wd_692, by decide +kernel⟩
theorem ok_X4_234 : okV RX4 RX4 234 yX4_countShared cX4_countShared 5 (some .int) 1 := ⟨wd_693, wd_695, wd_18, wd_46, wd_696, by decide +kernel⟩
theorem ok_X4_241 : okV RX4 RX1 241 yX1_countOf cX1_countOf 4 (some .int) 1 := ⟨wd_697, wd_698, wd_699, wd_51, wd_700, by decide +kernel⟩
theorem ok_L_77 : okV RL RX4 77 yX4_differ cX4_differ 6 (some .int) 3 := ⟨wd_705, wd_706, wd_707, wd_46, wd_708, by decide +kernel⟩
theorem ok_X4_246 : okV RX4 RX4 246 yX4_countRuns cX4_countRuns 7 (some .int) 2 := ⟨wd_709, wd_711, wd_19, wd_46, wd_712, by decide +kernel⟩
theorem ok_X4_322 : okV RX4 RX4 322 yX4_sortOf cX4_sortOf 6 (some .int) 3 := ⟨wd_713, wd_715, wd_20, wd_46, wd_716, by decide +kernel⟩
theorem ok_X4_250 : okV RX4 RX4 250 yX4_countSort cX4_countSort 6 (some .int) 3 := ⟨wd_717, wd_719, wd_21, wd_46, wd_720, by decide +kernel⟩
theorem ok_L_80 : okV RL RX4 80 yX4_users cX4_users 2 (some .int) 1 := ⟨wd_724, wd_725, wd_726, wd_46, wd_727, by decide +kernel⟩
theorem ok_X4_254 : okV RX4 RX4 254 yX4_requireExtent cX4_requireExtent 2 none 1 := ⟨wd_728, wd_730, wd_22, wd_46, wd_731, by decide +kernel⟩
theorem ok_X4_257 : okV RX4 RX2 257 yX2_usesOf cX2_usesOf 2 (some .int) 1 := ⟨wd_733, wd_296, wd_297, wd_47, wd_298, by decide +kernel⟩
theorem ok_L_83 : okV RL RX4 83 yX4_user cX4_user 3 (some .int) 2 := ⟨wd_737, wd_738, wd_739, wd_46, wd_740, by decide +kernel⟩
theorem ok_X4_260 : okV RX4 RX2 260 yX2_userOf cX2_userOf 6 (some .int) 2 := ⟨wd_741, wd_742, wd_743, wd_47, wd_744, by decide +kernel⟩
theorem ok_L_86 : okV RL RX4 86 yX4_told cX4_told 2 (some .int) 1 := ⟨wd_748, wd_749, wd_750, wd_46, wd_751, by decide +kernel⟩
theorem ok_L_99 : okV RL RX5 99 yX5_thrown cX5_thrown 1 (some .int) 0 := ⟨wd_841, wd_842, wd_843, wd_52, wd_844, by decide +kernel⟩
theorem ok_L_116 : okV RL RX5 116 yX5_write cX5_write 6 (some .int) 3 := ⟨wd_845, wd_846, wd_847, wd_52, wd_848, by decide +kernel⟩
theorem ok_X5_126 : okV RX5 RX5 126 yX5_isVolume cX5_isVolume 2 (some .boolean) 1 := ⟨wd_849, wd_851, wd_23, wd_52, wd_852, by decide +kernel⟩
theorem ok_X5_54 : okS RX5 54 yX5_isNumber cX5_isNumber 1 (some .boolean) 1 := ⟨wd_853, wd_854, wd_52, wd_855, by decide +kernel⟩
theorem ok_X5_129 : okV RX5 RX5 129 yX5_waits cX5_waits 5 (some .boolean) 2 := ⟨wd_856, wd_858, wd_24, wd_52, wd_859, by decide +kernel⟩
theorem ok_X5_132 : okV RX5 RX5 132 yX5_enqueue cX5_enqueue 4 (some .int) 3 := ⟨wd_860, wd_862, wd_25, wd_52, wd_863, by decide +kernel⟩
theorem ok_X5_113 : okV RX5 RX5 113 yX5_isOver cX5_isOver 3 (some .boolean) 2 := ⟨wd_864, wd_866, wd_26, wd_52, wd_867, by decide +kernel⟩
theorem ok_X5_58 : okS RX5 58 yX5_at cX5_at 3 (some .int) 3 := ⟨wd_868, wd_869, wd_52, wd_870, by decide +kernel⟩
theorem ok_X5_76 : okV RX5 RX5 76 yX5_mapped cX5_mapped 4 (some .int) 1 := ⟨wd_871, wd_873, wd_27, wd_52, wd_874, by decide +kernel⟩
theorem ok_X5_99 : okV RX5 RX5 99 yX5_needs cX5_needs 4 (some .boolean) 2 := ⟨wd_875, wd_877, wd_28, wd_52, wd_878, by decide +kernel⟩
theorem ok_X5_73 : okV RX5 RX5 73 yX5_isSole cX5_isSole 2 (some .boolean) 1 := ⟨wd_879, wd_881, wd_29, wd_52, wd_882, by decide +kernel⟩
theorem ok_X5_62 : okV RX5 RX5 62 yX5_usersOf cX5_usersOf 6 (some .int) 2 := ⟨wd_883, wd_885, wd_30, wd_52, wd_886, by decide +kernel⟩
theorem ok_X5_123 : okV RX5 RX5 123 yX5_perform cX5_perform 7 (some .int) 3 := ⟨wd_887, wd_889, wd_31, wd_52, wd_890, by decide +kernel⟩
theorem ok_X5_103 : okV RX5 RX5 103 yX5_take cX5_take 5 none 2 := ⟨wd_891, wd_893, wd_32, wd_52, wd_894, by decide +kernel⟩
theorem ok_X5_66 : okV RX5 RX5 66 yX5_isFree cX5_isFree 2 (some .boolean) 1 := ⟨wd_895, wd_897, wd_33, wd_52, wd_898, by decide +kernel⟩
theorem ok_X5_83 : okV RX5 RX5 83 yX5_wordOf cX5_wordOf 4 (some .int) 2 := ⟨wd_899, wd_901, wd_34, wd_52, wd_902, by decide +kernel⟩
theorem ok_X5_92 : okV RX5 RX5 92 yX5_freeMany cX5_freeMany 3 (some .int) 0 := ⟨wd_903, wd_905, wd_35, wd_52, wd_906, by decide +kernel⟩
theorem ok_L_119 : okV RL RX5 119 yX5_read cX5_read 3 (some .int) 2 := ⟨wd_907, wd_908, wd_909, wd_52, wd_910, by decide +kernel⟩
theorem ok_L_98 : okV RL RX5 98 yX5_make cX5_make 5 (some .int) 3 := ⟨wd_911, wd_912, wd_913, wd_52, wd_914, by decide +kernel⟩
theorem ok_X5_144 : okS RX5 144 yX5_isSize cX5_isSize 1 (some .boolean) 1 := ⟨wd_915, wd_916, wd_52, wd_917, by decide +kernel⟩
theorem ok_X5_147 : okV RX5 RX5 147 yX5_volumes cX5_volumes 4 (some .int) 1 := ⟨wd_918, wd_920, wd_36, wd_52, wd_921, by decide +kernel⟩
theorem ok_L_105 : okV RL RX5 105 yX5_snap cX5_snap 3 (some .int) 2 := ⟨wd_922, wd_923, wd_924, wd_52, wd_925, by decide +kernel⟩
theorem ok_X5_69 : okV RX5 RX5 69 yX5_copyVolume cX5_copyVolume 8 none 4 := ⟨wd_926, wd_928, wd_37, wd_52, wd_929, by decide +kernel⟩
theorem ok_L_109 : okV RL RX5 109 yX5_drop cX5_drop 4 (some .int) 1 := ⟨wd_930, wd_931, wd_932, wd_52, wd_933, by decide +kernel⟩
theorem ok_X5_119 : okV RX5 RX5 119 yX5_unqueue cX5_unqueue 3 none 1 := ⟨wd_934, wd_936, wd_38, wd_52, wd_937, by decide +kernel⟩
theorem ok_X5_150 : okV RX5 RX5 150 yX5_drain cX5_drain 6 none 0 := ⟨wd_938, wd_940, wd_39, wd_52, wd_941, by decide +kernel⟩
theorem ok_L_112 : okV RL RX5 112 yX5_resize cX5_resize 4 (some .int) 2 := ⟨wd_942, wd_943, wd_944, wd_52, wd_945, by decide +kernel⟩
theorem ok_X5_153 : okV RX5 RX5 153 yX5_waitsIn cX5_waitsIn 6 (some .boolean) 3 := ⟨wd_946, wd_948, wd_40, wd_52, wd_949, by decide +kernel⟩
theorem ok_X5_157 : okV RX5 RX5 157 yX5_unmap cX5_unmap 6 (some .int) 3 := ⟨wd_950, wd_952, wd_41, wd_52, wd_953, by decide +kernel⟩
theorem ok_L_122 : okV RL RX5 122 yX5_discard cX5_discard 5 (some .int) 3 := ⟨wd_954, wd_955, wd_956, wd_52, wd_957, by decide +kernel⟩
theorem ok_L_125 : okV RL RX5 125 yX5_grow cX5_grow 2 (some .int) 1 := ⟨wd_958, wd_959, wd_960, wd_52, wd_961, by decide +kernel⟩
theorem ok_L_128 : okV RL RX5 128 yX5_shrink cX5_shrink 3 (some .int) 1 := ⟨wd_962, wd_963, wd_964, wd_52, wd_965, by decide +kernel⟩
theorem ok_L_131 : okV RL RX5 131 yX5_back cX5_back 4 (some .int) 2 := ⟨wd_966, wd_967, wd_968, wd_52, wd_969, by decide +kernel⟩
theorem ok_L_134 : okV RL RX5 134 yX5_quota cX5_quota 4 (some .int) 2 := ⟨wd_970, wd_971, wd_972, wd_52, wd_973, by decide +kernel⟩
theorem ok_L_139 : okV RL RX5 139 yX5_mark cX5_mark 3 (some .boolean) 2 := ⟨wd_974, wd_975, wd_976, wd_52, wd_977, by decide +kernel⟩
theorem ok_L_142 : okV RL RX5 142 yX5_marked cX5_marked 2 (some .int) 1 := ⟨wd_978, wd_979, wd_980, wd_52, wd_981, by decide +kernel⟩
theorem ok_L_146 : okV RL RX5 146 yX5_commit cX5_commit 1 (some .int) 0 := ⟨wd_982, wd_983, wd_984, wd_52, wd_985, by decide +kernel⟩
theorem ok_X5_160 : okV RX5 RX5 160 yX5_copy cX5_copy 4 none 2 := ⟨wd_986, wd_988, wd_42, wd_52, wd_989, by decide +kernel⟩
theorem ok_L_149 : okV RL RX5 149 yX5_cut cX5_cut 2 (some .int) 1 := ⟨wd_990, wd_991, wd_992, wd_52, wd_993, by decide +kernel⟩
theorem ok_L_153 : okV RL RX5 153 yX5_hold cX5_hold 1 (some .int) 0 := ⟨wd_994, wd_995, wd_996, wd_52, wd_997, by decide +kernel⟩
theorem ok_L_158 : okV RL RX5 158 yX5_release cX5_release 2 (some .boolean) 0 := ⟨wd_998, wd_999, wd_1000, wd_52, wd_1001, by decide +kernel⟩
theorem ok_X5_170 : okV RX5 RX5 170 yX5_clearState cX5_clearState 3 none 1 := ⟨wd_1002, wd_1004, wd_43, wd_52, wd_1005, by decide +kernel⟩
theorem ok_L_161 : okV RL RX5 161 yX5_patience cX5_patience 3 (some .int) 1 := ⟨wd_1006, wd_1007, wd_1008, wd_52, wd_1009, by decide +kernel⟩
theorem ok_L_164 : okV RL RX5 164 yX5_alarm cX5_alarm 3 (some .int) 1 := ⟨wd_1010, wd_1011, wd_1012, wd_52, wd_1013, by decide +kernel⟩
theorem ok_L_167 : okV RL RX5 167 yX5_tick cX5_tick 3 (some .int) 1 := ⟨wd_1014, wd_1015, wd_1016, wd_52, wd_1017, by decide +kernel⟩
theorem ok_L_170 : okV RL RX5 170 yX5_map cX5_map 4 (some .int) 3 := ⟨wd_1018, wd_1019, wd_1020, wd_52, wd_1021, by decide +kernel⟩
theorem ok_L_173 : okV RL RX5 173 yX5_volume cX5_volume 8 (some .int) 2 := ⟨wd_1022, wd_1023, wd_1024, wd_52, wd_1025, by decide +kernel⟩
theorem ok_L_176 : okV RL RX5 176 yX5_differ cX5_differ 8 (some .int) 3 := ⟨wd_1026, wd_1027, wd_1028, wd_52, wd_1029, by decide +kernel⟩
theorem ok_X5_176 : okV RX5 RX5 176 yX5_sortAt cX5_sortAt 6 (some .int) 3 := ⟨wd_1030, wd_1032, wd_44, wd_52, wd_1033, by decide +kernel⟩
theorem ok_L_179 : okV RL RX5 179 yX5_users cX5_users 2 (some .int) 1 := ⟨wd_1034, wd_1035, wd_1036, wd_52, wd_1037, by decide +kernel⟩
theorem ok_L_182 : okV RL RX5 182 yX5_user cX5_user 6 (some .int) 2 := ⟨wd_1038, wd_1039, wd_1040, wd_52, wd_1041, by decide +kernel⟩
theorem ok_L_185 : okV RL RX5 185 yX5_told cX5_told 2 (some .int) 1 := ⟨wd_1042, wd_1043, wd_1044, wd_52, wd_1045, by decide +kernel⟩
theorem th1_cIO : ∀ w ∈ (vx_atS RX4 152 cIO ["java/lang/RuntimeException", "java/lang/Exception"]).filter goodWord, w ∈ tb := by decide +kernel
theorem th2_cIO : ∀ w ∈ (vx_atS RX4 152 cIO ["java/lang/RuntimeException", "java/lang/Exception"]).filter (fun w => !goodWord w), w ∈ Cond.castable cIO cIO :: dcls := by decide +kernel
theorem th3_cIO : ∀ w ∈ Cond.classLink RX4 148 cIO :: Cond.initialized cIO :: vx_atS RX4 152 cIO ["java/lang/RuntimeException", "java/lang/Exception"], vx_ot w = true := by decide +kernel
theorem th4_cIO : Cond.classLink RX4 148 cIO ∈ tb := wd_379
theorem th5_cIO : Cond.initialized cIO ∈ tb := wd_56
theorem th1_cIA : ∀ w ∈ (vx_atS RX4 176 cIA ["java/lang/RuntimeException", "java/lang/Exception"]).filter goodWord, w ∈ tb := by decide +kernel
theorem th2_cIA : ∀ w ∈ (vx_atS RX4 176 cIA ["java/lang/RuntimeException", "java/lang/Exception"]).filter (fun w => !goodWord w), w ∈ Cond.castable cIA cIA :: dcls := by decide +kernel
theorem th3_cIA : ∀ w ∈ Cond.classLink RX4 172 cIA :: Cond.initialized cIA :: vx_atS RX4 176 cIA ["java/lang/RuntimeException", "java/lang/Exception"], vx_ot w = true := by decide +kernel
theorem th4_cIA : Cond.classLink RX4 172 cIA ∈ tb := wd_451
theorem th5_cIA : Cond.initialized cIA ∈ tb := wd_57
theorem th1_cIS : ∀ w ∈ (vx_atS RX4 60 cIS ["java/lang/RuntimeException", "java/lang/Exception"]).filter goodWord, w ∈ tb := by decide +kernel
theorem th2_cIS : ∀ w ∈ (vx_atS RX4 60 cIS ["java/lang/RuntimeException", "java/lang/Exception"]).filter (fun w => !goodWord w), w ∈ Cond.castable cIS cIS :: dcls := by decide +kernel
theorem th3_cIS : ∀ w ∈ Cond.classLink RX4 56 cIS :: Cond.initialized cIS :: vx_atS RX4 60 cIS ["java/lang/RuntimeException", "java/lang/Exception"], vx_ot w = true := by decide +kernel
theorem th4_cIS : Cond.classLink RX4 56 cIS ∈ tb := wd_467
theorem th5_cIS : Cond.initialized cIS ∈ tb := wd_58
end
section
/-! what the model's methods answer, in words of its cells μ: μ 0 its own numbers, μ 1 there, 2 size, 3 backed, 4 quota, 5 origin, 6 map, 7 mark, 8 words, 9 backing, 10 .. 12 the queue -/
def b2i (b : Bool) : Int32 := cond b 1 0
theorem b2i_01 (b : Bool) : b2i b = 0 ∨ b2i b = 1 := by
  cases b
  · exact Or.inl rfl
  · exact Or.inr rfl
theorem b2i_nar (b : Bool) : narrow .boolean (.int (b2i b)) = .int (b2i b) := by cases b <;> decide +kernel
theorem cv_b0 {b : Bool} (h : b2i b = 0) : b = false := by
  cases b
  · rfl
  · exact absurd h (by decide +kernel)
theorem cv_b1 {b : Bool} (h : ¬ b2i b = 0) : b = true := by
  cases b
  · exact absurd rfl h
  · rfl
theorem b2i_1 {b : Bool} (h : b = true) : (1 : Int32) = b2i b := by rw [h]; rfl
theorem b2i_0 {b : Bool} (h : b = false) : (0 : Int32) = b2i b := by rw [h]; rfl
theorem isS_lt {b : Nat} (h : isS b) : b < 127 := by rcases h with rfl | rfl | rfl <;> decide
theorem isV_lt {k : Nat} (h : isV k) : k < 127 := by have := h.2.1; omega
theorem nI_m1 {n : Nat} (h : n < 2 ^ 31) : ¬ nI n = -1 := fun q => nI_pos h (by rw [q]; decide +kernel)
def sumTo (f : Nat → Nat) : Nat → Nat
  | 0 => 0
  | n + 1 => sumTo f n + f n
theorem sumTo_le {f : Nat → Nat} {b : Nat} (h : ∀ i, f i ≤ b) : ∀ n, sumTo f n ≤ b * n
  | 0 => Nat.zero_le _
  | n + 1 => by
    have h1 := sumTo_le h n
    have h2 := h n
    rw [sumTo, Nat.mul_add]
    omega
theorem sumTo_congr {f g : Nat → Nat} : ∀ n, (∀ i, i < n → f i = g i) → sumTo f n = sumTo g n
  | 0, _ => rfl
  | n + 1, h => by rw [sumTo, sumTo, sumTo_congr n (fun i hi => h i (by omega)), h n (by omega)]
def iterK (f : Nat → KH → KH) : Nat → KH → KH
  | 0, μ => μ
  | n + 1, μ => f n (iterK f n μ)
def vNum (v : Int32) : Bool := !decide (v < 0) && !decide (16 ≤ v)
def vSiz (s : Int32) : Bool := !decide (s < 1) && !decide (40 < s)
def mG (μ : KH) (s v : Nat) (e : Int32) (p : Nat) : Nat := if μ 6 (40 * (16 * s + v) + p) = e then 1 else 0
def mF (μ : KH) (s : Nat) (e : Int32) (v : Nat) : Nat := if μ 1 (16 * s + v) = 0 then 0 else sumTo (mG μ s v e) 40
/-- how many places of a state are mapped to an extent -/
def mUse (μ : KH) (s : Nat) (e : Int32) : Nat := sumTo (mF μ s e) 16
theorem mG_le (μ : KH) (s v : Nat) (e : Int32) (p : Nat) : mG μ s v e p ≤ 1 := by unfold mG; split <;> omega
theorem mF_le (μ : KH) (s : Nat) (e : Int32) (v : Nat) : mF μ s e v ≤ 40 := by
  unfold mF
  split
  · omega
  · exact Nat.le_trans (sumTo_le (mG_le μ s v e) 40) (by omega)
theorem mUse_le (μ : KH) (s : Nat) (e : Int32) : mUse μ s e ≤ 640 := Nat.le_trans (sumTo_le (mF_le μ s e) 16) (by omega)
def mFree (μ : KH) (e : Int32) : Bool := decide (mUse μ 0 e + mUse μ 1 e + mUse μ 2 e = 0)
def mSole (μ : KH) (e : Int32) : Bool := decide (mUse μ 0 e = 1) && decide (mUse μ 1 e + mUse μ 2 e = 0)
def mFr1 (μ : KH) (e : Nat) : Nat := if mFree μ (nI e) = true then 1 else 0
def mFM (μ : KH) (n : Nat) : Nat := sumTo (mFr1 μ) n
theorem mFr1_le (μ : KH) (e : Nat) : mFr1 μ e ≤ 1 := by unfold mFr1; split <;> omega
theorem mFM_le (μ : KH) (n : Nat) : mFM μ n ≤ n := Nat.le_trans (sumTo_le (mFr1_le μ) n) (by omega)
def mMp1 (μ : KH) (v p : Nat) : Nat := if μ 6 (40 * v + p) = -1 then 0 else 1
def mMap (μ : KH) (v : Nat) : Nat := sumTo (mMp1 μ v) 40
theorem mMp1_le (μ : KH) (v p : Nat) : mMp1 μ v p ≤ 1 := by unfold mMp1; split <;> omega
theorem mMap_le (μ : KH) (v : Nat) : mMap μ v ≤ 40 := Nat.le_trans (sumTo_le (mMp1_le μ v) 40) (by omega)
def mTh1 (μ : KH) (s v : Nat) : Nat := if μ 1 (16 * s + v) = 0 then 0 else 1
def mVol (μ : KH) (s : Nat) : Nat := sumTo (mTh1 μ s) 16
def mNeed (μ : KH) (v p : Nat) : Bool := decide (μ 6 (40 * v + p) = -1) || !mSole μ (μ 6 (40 * v + p))
def mOver (μ : KH) (v p : Nat) : Bool := decide (μ 6 (40 * v + p) = -1) && !decide (μ 4 v = -1) && !decide (nI (mMap μ v) < μ 4 v)
def mWord (μ : KH) (v w : Nat) : Int32 := if μ 6 (40 * v + w / 4) = -1 then (if μ 3 v = 0 then 0 else μ 9 w) else μ 8 (4 * (μ 6 (40 * v + w / 4)).toNatClampNeg + w % 4)
/-- an entry of the map: none, or an extent's number -/
def isX (x : Int32) : Prop := x = -1 ∨ ∃ k : Nat, k < 96 ∧ x = nI k
def is01 (x : Int32) : Prop := x = 0 ∨ x = 1
def mClr (s : Nat) (i : Nat) (μ : KH) : KH := up μ 1 (16 * s + i) 0
def mCpM (a b p : Nat) (μ : KH) : KH := up μ 6 (40 * b + p) (μ 6 (40 * a + p))
def mCpV (μ : KH) (a b : Nat) : KH := iterK (mCpM a b) 40 (up (up (up (up μ 1 b (μ 1 a)) 2 b (μ 2 a)) 3 b (μ 3 a)) 4 b (μ 4 a))
def mCp1 (s t v : Nat) (μ : KH) : KH := up (mCpV μ (16 * s + v) (16 * t + v)) 5 (16 * t + v) (mCpV μ (16 * s + v) (16 * t + v) 5 (16 * s + v))
def mCp (μ : KH) (s t : Nat) : KH := up (iterK (mCp1 s t) 16 μ) 7 t (iterK (mCp1 s t) 16 μ 7 s)
theorem vNum_nI {v : Nat} (h : v < 16) : vNum (nI v) = true := by
  have h1 : ¬ nI v < 0 := nI_pos (by omega)
  have h2 : ¬ (16 : Int32) ≤ nI v := nI_ge (b := 16) (a := v) h (by omega)
  simp [vNum, h1, h2]
set_option maxHeartbeats 4000000 in
set_option maxRecDepth 100000 in
theorem c_X5_isNumber (l : Launch) (D : DD) (n0 : Nat) (κ μ : KH) (o : Int64) (v : Int32) : HM l D n0 yX5_isNumber cX5_isNumber 1 (some .boolean) 0 0 [.int v] (κ, μ, o) (some (.int (b2i (vNum v)))) (κ, μ, o) := by
  refine HM.of (by decide) (by simp [Value.category]) (by simp) (Or.inr (Or.inl ⟨_, .boolean, rfl, rfl, (b2i_nar _)⟩)) ?_
  intro pp ee ss mm aa bb me cd Q C K hret
  show ZZ pp l ee (rmk 0 0) ss mm aa bb me cd D n0 127 1 0 0 Q _ 0 [some (.int v)] []
  refine z_iload_n C rfl dX5_isNumber_0 ?_
  refine z_if_lt (tgt := 14) C dX5_isNumber_1 (by decide) (fun h_1 => ?_) (fun h_1 => ?_)
  · skip
    refine z_iconst (v := 0) C (by decide +kernel) dX5_isNumber_14 ?_
    exact z_endI (hret _ _ dX5_isNumber_15) (b2i_0 (by simp [vNum, h_1])) rfl
  · skip
    refine z_iload_n C rfl dX5_isNumber_4 ?_
    refine z_bipush (v := 16) C (by decide +kernel) dX5_isNumber_5 ?_
    refine z_icmp_ge (tgt := 14) C dX5_isNumber_7 (by decide) (fun h_7 => ?_) (fun h_7 => ?_)
    · skip
      refine z_iconst (v := 0) C (by decide +kernel) dX5_isNumber_14 ?_
      exact z_endI (hret _ _ dX5_isNumber_15) (b2i_0 (by simp [vNum, h_7])) rfl
    · skip
      refine z_iconst (v := 1) C (by decide +kernel) dX5_isNumber_10 ?_
      refine z_goto (tgt := 15) C dX5_isNumber_11 (by decide) ?_
      exact z_endI (hret _ _ dX5_isNumber_15) (b2i_1 (by simp [vNum, h_1, h_7])) rfl
set_option maxHeartbeats 4000000 in
set_option maxRecDepth 100000 in
theorem c_X5_isSize (l : Launch) (D : DD) (n0 : Nat) (κ μ : KH) (o : Int64) (v : Int32) : HM l D n0 yX5_isSize cX5_isSize 1 (some .boolean) 0 0 [.int v] (κ, μ, o) (some (.int (b2i (vSiz v)))) (κ, μ, o) := by
  refine HM.of (by decide) (by simp [Value.category]) (by simp) (Or.inr (Or.inl ⟨_, .boolean, rfl, rfl, (b2i_nar _)⟩)) ?_
  intro pp ee ss mm aa bb me cd Q C K hret
  show ZZ pp l ee (rmk 0 0) ss mm aa bb me cd D n0 127 1 0 0 Q _ 0 [some (.int v)] []
  refine z_iload_n C rfl dX5_isSize_0 ?_
  refine z_iconst (v := 1) C (by decide +kernel) dX5_isSize_1 ?_
  refine z_icmp_lt (tgt := 15) C dX5_isSize_2 (by decide) (fun h_2 => ?_) (fun h_2 => ?_)
  · skip
    refine z_iconst (v := 0) C (by decide +kernel) dX5_isSize_15 ?_
    exact z_endI (hret _ _ dX5_isSize_16) (b2i_0 (by simp [vSiz, h_2])) rfl
  · skip
    refine z_iload_n C rfl dX5_isSize_5 ?_
    refine z_bipush (v := 40) C (by decide +kernel) dX5_isSize_6 ?_
    refine z_icmp_gt (tgt := 15) C dX5_isSize_8 (by decide) (fun h_8 => ?_) (fun h_8 => ?_)
    · skip
      refine z_iconst (v := 0) C (by decide +kernel) dX5_isSize_15 ?_
      exact z_endI (hret _ _ dX5_isSize_16) (b2i_0 (by simp [vSiz, h_8])) rfl
    · skip
      refine z_iconst (v := 1) C (by decide +kernel) dX5_isSize_11 ?_
      refine z_goto (tgt := 16) C dX5_isSize_12 (by decide) ?_
      exact z_endI (hret _ _ dX5_isSize_16) (b2i_1 (by simp [vSiz, h_2, h_8])) rfl
set_option maxHeartbeats 4000000 in
set_option maxRecDepth 100000 in
theorem c_X5_isVolume_n (l : Launch) (D : DD) (n0 : Nat) (κ μ : KH) (o : Int64) (v : Int32) (hv : vNum v = false) : HM l D n0 yX5_isVolume cX5_isVolume 2 (some .boolean) 1 20 [.ref (n0 + 113), .int v] (κ, μ, o) (some (.int 0)) (κ, μ, o) := by
  refine HM.of (by decide) (by simp [Value.category]) (by simp) (Or.inr (Or.inl ⟨_, .boolean, rfl, rfl, (by decide +kernel)⟩)) ?_
  intro pp ee ss mm aa bb me cd Q C K hret
  show ZZ pp l ee (rmk 1 20) ss mm aa bb me cd D n0 127 2 0 0 Q _ 0 [some (.ref (n0 + 113)), some (.int v)] []
  refine z_iload_n C rfl dX5_isVolume_0 ?_
  refine z_callS (As := [.int v]) (r := (some (.int (b2i (vNum v))))) (σ1 := (κ, μ, o)) (st := []) (st1 := [.int (b2i (vNum v))]) C K ok_X5_54 (c_X5_isNumber l D n0 κ μ o v) rfl ⟨by decide, by decide⟩ ⟨Nat.zero_le _, Nat.zero_le _⟩ (by simp [Value.category]) dX5_isVolume_1 rfl rfl ?_
  refine z_if_eq (tgt := 20) C dX5_isVolume_4 (by decide) (fun h_4 => ?_) (fun h_4 => ?_)
  · have g_4 := cv_b0 h_4
    refine z_iconst (v := 0) C (by decide +kernel) dX5_isVolume_20 ?_
    exact z_endI (hret _ _ dX5_isVolume_21) rfl rfl
  · have g_4 := cv_b1 h_4
    exact absurd g_4 (by rw [hv]; decide)
set_option maxHeartbeats 4000000 in
set_option maxRecDepth 100000 in
theorem c_X5_isVolume (l : Launch) (D : DD) (n0 : Nat) (κ μ : KH) (o : Int64) (v : Nat) (hv : v < 16) : HM l D n0 yX5_isVolume cX5_isVolume 2 (some .boolean) 1 20 [.ref (n0 + 113), .int (nI v)] (κ, μ, o) (some (.int (b2i (!decide (μ 1 v = 0))))) (κ, μ, o) := by
  refine HM.of (by decide) (by simp [Value.category]) (by simp) (Or.inr (Or.inl ⟨_, .boolean, rfl, rfl, (b2i_nar _)⟩)) ?_
  intro pp ee ss mm aa bb me cd Q C K hret
  show ZZ pp l ee (rmk 1 20) ss mm aa bb me cd D n0 127 2 0 0 Q _ 0 [some (.ref (n0 + 113)), some (.int (nI v))] []
  have hvn : vNum (nI v) = true := vNum_nI hv
  refine z_iload_n C rfl dX5_isVolume_0 ?_
  refine z_callS (As := [.int (nI v)]) (r := (some (.int (b2i (vNum (nI v)))))) (σ1 := (κ, μ, o)) (st := []) (st1 := [.int (b2i (vNum (nI v)))]) C K ok_X5_54 (c_X5_isNumber l D n0 κ μ o (nI v)) rfl ⟨by decide, by decide⟩ ⟨Nat.zero_le _, Nat.zero_le _⟩ (by simp [Value.category]) dX5_isVolume_1 rfl rfl ?_
  refine z_if_eq (tgt := 20) C dX5_isVolume_4 (by decide) (fun h_4 => ?_) (fun h_4 => ?_)
  · have g_4 := cv_b0 h_4
    exact absurd hvn (by rw [g_4]; decide)
  · have g_4 := cv_b1 h_4
    refine z_aload_n C rfl dX5_isVolume_7 ?_
    refine gf_X5_7 C dX5_isVolume_8 ?_
    refine z_iload_n C rfl dX5_isVolume_11 ?_
    refine al_114 (v := μ 1 v) C (v) rfl (by omega) rfl dX5_isVolume_12 ?_
    refine z_if_eq (tgt := 20) C dX5_isVolume_13 (by decide) (fun h_13 => ?_) (fun h_13 => ?_)
    · skip
      refine z_iconst (v := 0) C (by decide +kernel) dX5_isVolume_20 ?_
      exact z_endI (hret _ _ dX5_isVolume_21) (b2i_0 (by simp [h_13])) rfl
    · skip
      refine z_iconst (v := 1) C (by decide +kernel) dX5_isVolume_16 ?_
      refine z_goto (tgt := 21) C dX5_isVolume_17 (by decide) ?_
      exact z_endI (hret _ _ dX5_isVolume_21) (b2i_1 (by simp [h_13])) rfl
set_option maxHeartbeats 4000000 in
set_option maxRecDepth 100000 in
theorem c_X5_at (l : Launch) (D : DD) (n0 : Nat) (κ μ : KH) (o : Int64) (a b c : Nat) : HM l D n0 yX5_at cX5_at 3 (some .int) 0 0 [.int (nI a), .int (nI b), .int (nI c)] (κ, μ, o) (some (.int (nI (40 * (16 * a + b) + c)))) (κ, μ, o) := by
  refine HM.of (by decide) (by simp [Value.category]) (by simp) (Or.inr (Or.inl ⟨_, .int, rfl, rfl, rfl⟩)) ?_
  intro pp ee ss mm aa bb me cd Q C K hret
  show ZZ pp l ee (rmk 0 0) ss mm aa bb me cd D n0 127 3 0 0 Q _ 0 [some (.int (nI a)), some (.int (nI b)), some (.int (nI c))] []
  refine z_bipush (v := 40) C (by decide +kernel) dX5_at_0 ?_
  refine z_bipush (v := 16) C (by decide +kernel) dX5_at_2 ?_
  refine z_iload_n C rfl dX5_at_4 ?_
  refine z_imul (v := nI (16 * a)) C (cv_mul 16 a) dX5_at_5 ?_
  refine z_iload_n C rfl dX5_at_6 ?_
  refine z_iadd (v := nI (16 * a + b)) C (cv_add (16 * a) b) dX5_at_7 ?_
  refine z_imul (v := nI (40 * (16 * a + b))) C (cv_mul 40 (16 * a + b)) dX5_at_8 ?_
  refine z_iload_n C rfl dX5_at_9 ?_
  refine z_iadd (v := nI (40 * (16 * a + b) + c)) C (cv_add (40 * (16 * a + b)) c) dX5_at_10 ?_
  exact z_endI (hret _ _ dX5_at_11) rfl rfl
set_option maxHeartbeats 4000000 in
set_option maxRecDepth 100000 in
theorem c_X5_at0 (l : Launch) (D : DD) (n0 : Nat) (κ μ : KH) (o : Int64) (b c : Nat) : HM l D n0 yX5_at cX5_at 3 (some .int) 0 0 [.int 0, .int (nI b), .int (nI c)] (κ, μ, o) (some (.int (nI (40 * b + c)))) (κ, μ, o) := by
  refine HM.of (by decide) (by simp [Value.category]) (by simp) (Or.inr (Or.inl ⟨_, .int, rfl, rfl, rfl⟩)) ?_
  intro pp ee ss mm aa bb me cd Q C K hret
  show ZZ pp l ee (rmk 0 0) ss mm aa bb me cd D n0 127 3 0 0 Q _ 0 [some (.int 0), some (.int (nI b)), some (.int (nI c))] []
  refine z_bipush (v := 40) C (by decide +kernel) dX5_at_0 ?_
  refine z_bipush (v := 16) C (by decide +kernel) dX5_at_2 ?_
  refine z_iload_n C rfl dX5_at_4 ?_
  refine z_imul (v := 0) C (by decide +kernel) dX5_at_5 ?_
  refine z_iload_n C rfl dX5_at_6 ?_
  refine z_iadd (v := nI (0 + b)) C (cv_add 0 b) dX5_at_7 ?_
  refine z_imul (v := nI (40 * (0 + b))) C (cv_mul 40 (0 + b)) dX5_at_8 ?_
  refine z_iload_n C rfl dX5_at_9 ?_
  refine z_iadd (v := nI (40 * (0 + b) + c)) C (cv_add (40 * (0 + b)) c) dX5_at_10 ?_
  exact z_endI (hret _ _ dX5_at_11) (by rw [Nat.zero_add]) rfl
set_option maxHeartbeats 4000000 in
set_option maxRecDepth 100000 in
theorem c_X5_usersOf (l : Launch) (D : DD) (n0 : Nat) (κ μ : KH) (o : Int64) (s : Nat) (e : Int32) (hs : s < 3) : HM l D n0 yX5_usersOf cX5_usersOf 6 (some .int) 1 22 [.ref (n0 + 113), .int (nI s), .int e] (κ, μ, o) (some (.int (nI (mUse μ s e)))) (κ, μ, o) := by
  refine HM.of (by decide) (by simp [Value.category]) (by simp) (Or.inr (Or.inl ⟨_, .int, rfl, rfl, rfl⟩)) ?_
  intro pp ee ss mm aa bb me cd Q C K hret
  show ZZ pp l ee (rmk 1 22) ss mm aa bb me cd D n0 127 6 0 0 Q _ 0 [some (.ref (n0 + 113)), some (.int (nI s)), some (.int e), none, none, none] []
  refine z_iconst (v := 0) C (by decide +kernel) dX5_usersOf_0 ?_
  refine z_istore_n (ls' := [some (.ref (n0 + 113)), some (.int (nI s)), some (.int e), some (.int 0), none, none]) C (by decide) rfl dX5_usersOf_1 ?_
  refine z_iconst (v := 0) C (by decide +kernel) dX5_usersOf_2 ?_
  refine z_istore (ls' := [some (.ref (n0 + 113)), some (.int (nI s)), some (.int e), some (.int 0), some (.int 0), none]) C (by decide) rfl dX5_usersOf_3 ?_
  refine z_cast (σ1 := (κ, μ, o)) (ls' := [some (.ref (n0 + 113)), some (.int (nI s)), some (.int e), some (.int (nI (sumTo (mF μ s e) 0))), some (.int (nI 0)), none]) (st' := []) (z_for (P := fun i => ZZ pp l ee (rmk 1 22) ss mm aa bb me cd D n0 127 6 0 0 Q (κ, μ, o) 5 [some (.ref (n0 + 113)), some (.int (nI s)), some (.int e), some (.int (nI (sumTo (mF μ s e) i))), some (.int (nI i)), none] []) (16) ?_ ?_ 0 (Nat.zero_le _)) rfl ⟨rfl, rfl, rfl, rfl, rfl, trivial⟩ rfl
  · skip
    refine z_iload C rfl dX5_usersOf_5 ?_
    refine z_bipush (v := 16) C (by decide +kernel) dX5_usersOf_7 ?_
    refine z_icmp_ge (tgt := 74) C dX5_usersOf_9 (by decide) (fun h_9 => ?_) (fun h_9 => ?_)
    · have g_9 := cv_le (a := 16) (b := 16) (by omega) (by omega) h_9
      refine z_iload_n C rfl dX5_usersOf_74 ?_
      exact z_endI (hret _ _ dX5_usersOf_75) rfl rfl
    · have g_9 := cv_nle (a := 16) (b := 16) (by omega) (by omega) h_9
      exact absurd g_9 (by omega)
  · intro i hi_5 ih_5
    refine z_iload C rfl dX5_usersOf_5 ?_
    refine z_bipush (v := 16) C (by decide +kernel) dX5_usersOf_7 ?_
    refine z_icmp_ge (tgt := 74) C dX5_usersOf_9 (by decide) (fun h_9 => ?_) (fun h_9 => ?_)
    · have g_9 := cv_le (a := 16) (b := i) (by omega) (by omega) h_9
      exact absurd hi_5 (by omega)
    · have g_9 := cv_nle (a := 16) (b := i) (by omega) (by omega) h_9
      by_cases hth : μ 1 (16 * s + i) = 0
      · skip
        refine z_iconst (v := 0) C (by decide +kernel) dX5_usersOf_12 ?_
        refine z_istore (ls' := [some (.ref (n0 + 113)), some (.int (nI s)), some (.int e), some (.int (nI (sumTo (mF μ s e) i))), some (.int (nI i)), some (.int 0)]) C (by decide) rfl dX5_usersOf_13 ?_
        refine z_iload C rfl dX5_usersOf_15 ?_
        refine z_bipush (v := 40) C (by decide +kernel) dX5_usersOf_17 ?_
        refine z_icmp_ge (tgt := 68) C dX5_usersOf_19 (by decide) (fun h_19 => ?_) (fun h_19 => ?_)
        · exact absurd h_19 (by decide +kernel)
        · skip
          refine z_aload_n C rfl dX5_usersOf_22 ?_
          refine gf_X5_7 C dX5_usersOf_23 ?_
          refine z_bipush (v := 16) C (by decide +kernel) dX5_usersOf_26 ?_
          refine z_iload_n C rfl dX5_usersOf_28 ?_
          refine z_imul (v := nI (16 * s)) C (cv_mul 16 s) dX5_usersOf_29 ?_
          refine z_iload C rfl dX5_usersOf_30 ?_
          refine z_iadd (v := nI (16 * s + i)) C (cv_add (16 * s) i) dX5_usersOf_32 ?_
          refine al_114 (v := μ 1 (16 * s + i)) C (16 * s + i) rfl (by omega) rfl dX5_usersOf_33 ?_
          refine z_if_eq (tgt := 68) C dX5_usersOf_34 (by decide) (fun h_34 => ?_) (fun h_34 => ?_)
          · skip
            refine z_iinc (v := nI (i + 1)) (ls' := [some (.ref (n0 + 113)), some (.int (nI s)), some (.int e), some (.int (nI (sumTo (mF μ s e) i))), some (.int (nI (i + 1))), some (.int 0)]) C rfl (cv_inc i 1) (by decide) rfl dX5_usersOf_68 ?_
            refine z_goto (tgt := 5) C dX5_usersOf_71 (by decide) ?_
            exact z_cast (σ1 := (κ, μ, o)) (ls' := [some (.ref (n0 + 113)), some (.int (nI s)), some (.int e), some (.int (nI (sumTo (mF μ s e) (i + 1)))), some (.int (nI (i + 1))), none]) (st' := []) (ih_5) rfl ⟨rfl, rfl, rfl, (so_int (by simp [sumTo, mF, hth, Nat.add_assoc])), rfl, trivial⟩ rfl
          · exact absurd hth h_34
      · skip
        refine z_iconst (v := 0) C (by decide +kernel) dX5_usersOf_12 ?_
        refine z_istore (ls' := [some (.ref (n0 + 113)), some (.int (nI s)), some (.int e), some (.int (nI (sumTo (mF μ s e) i))), some (.int (nI i)), some (.int 0)]) C (by decide) rfl dX5_usersOf_13 ?_
        refine z_cast (σ1 := (κ, μ, o)) (ls' := [some (.ref (n0 + 113)), some (.int (nI s)), some (.int e), some (.int (nI (sumTo (mF μ s e) i + sumTo (mG μ s i e) 0))), some (.int (nI i)), some (.int (nI 0))]) (st' := []) (z_for (P := fun j => ZZ pp l ee (rmk 1 22) ss mm aa bb me cd D n0 127 6 0 0 Q (κ, μ, o) 15 [some (.ref (n0 + 113)), some (.int (nI s)), some (.int e), some (.int (nI (sumTo (mF μ s e) i + sumTo (mG μ s i e) j))), some (.int (nI i)), some (.int (nI j))] []) (40) ?_ ?_ 0 (Nat.zero_le _)) rfl ⟨rfl, rfl, rfl, (so_int (by simp [sumTo])), rfl, rfl, trivial⟩ rfl
        · skip
          refine z_iload C rfl dX5_usersOf_15 ?_
          refine z_bipush (v := 40) C (by decide +kernel) dX5_usersOf_17 ?_
          refine z_icmp_ge (tgt := 68) C dX5_usersOf_19 (by decide) (fun h_19 => ?_) (fun h_19 => ?_)
          · have g_19 := cv_le (a := 40) (b := 40) (by omega) (by omega) h_19
            refine z_iinc (v := nI (i + 1)) (ls' := [some (.ref (n0 + 113)), some (.int (nI s)), some (.int e), some (.int (nI (sumTo (mF μ s e) i + sumTo (mG μ s i e) 40))), some (.int (nI (i + 1))), some (.int (nI 40))]) C rfl (cv_inc i 1) (by decide) rfl dX5_usersOf_68 ?_
            refine z_goto (tgt := 5) C dX5_usersOf_71 (by decide) ?_
            exact z_cast (σ1 := (κ, μ, o)) (ls' := [some (.ref (n0 + 113)), some (.int (nI s)), some (.int e), some (.int (nI (sumTo (mF μ s e) (i + 1)))), some (.int (nI (i + 1))), none]) (st' := []) (ih_5) rfl ⟨rfl, rfl, rfl, (so_int (by simp [sumTo, mF, hth])), rfl, trivial⟩ rfl
          · have g_19 := cv_nle (a := 40) (b := 40) (by omega) (by omega) h_19
            exact absurd g_19 (by omega)
        · intro j hi_15 ih_15
          refine z_iload C rfl dX5_usersOf_15 ?_
          refine z_bipush (v := 40) C (by decide +kernel) dX5_usersOf_17 ?_
          refine z_icmp_ge (tgt := 68) C dX5_usersOf_19 (by decide) (fun h_19 => ?_) (fun h_19 => ?_)
          · have g_19 := cv_le (a := 40) (b := j) (by omega) (by omega) h_19
            exact absurd hi_15 (by omega)
          · have g_19 := cv_nle (a := 40) (b := j) (by omega) (by omega) h_19
            refine z_aload_n C rfl dX5_usersOf_22 ?_
            refine gf_X5_7 C dX5_usersOf_23 ?_
            refine z_bipush (v := 16) C (by decide +kernel) dX5_usersOf_26 ?_
            refine z_iload_n C rfl dX5_usersOf_28 ?_
            refine z_imul (v := nI (16 * s)) C (cv_mul 16 s) dX5_usersOf_29 ?_
            refine z_iload C rfl dX5_usersOf_30 ?_
            refine z_iadd (v := nI (16 * s + i)) C (cv_add (16 * s) i) dX5_usersOf_32 ?_
            refine al_114 (v := μ 1 (16 * s + i)) C (16 * s + i) rfl (by omega) rfl dX5_usersOf_33 ?_
            refine z_if_eq (tgt := 68) C dX5_usersOf_34 (by decide) (fun h_34 => ?_) (fun h_34 => ?_)
            · exact absurd h_34 hth
            · skip
              refine z_iload_n C rfl dX5_usersOf_37 ?_
              refine z_aload_n C rfl dX5_usersOf_38 ?_
              refine gf_X5_26 C dX5_usersOf_39 ?_
              refine z_iload_n C rfl dX5_usersOf_42 ?_
              refine z_iload C rfl dX5_usersOf_43 ?_
              refine z_iload C rfl dX5_usersOf_45 ?_
              refine z_callS (As := [.int (nI s), .int (nI i), .int (nI j)]) (r := (some (.int (nI (40 * (16 * s + i) + j))))) (σ1 := (κ, μ, o)) (st := [.ref (n0 + 119), .int (nI (sumTo (mF μ s e) i + sumTo (mG μ s i e) j))]) (st1 := [.int (nI (40 * (16 * s + i) + j)), .ref (n0 + 119), .int (nI (sumTo (mF μ s e) i + sumTo (mG μ s i e) j))]) C K ok_X5_58 (c_X5_at l D n0 κ μ o s i j) rfl ⟨by decide, by decide⟩ ⟨Nat.zero_le _, Nat.zero_le _⟩ (by simp [Value.category]) dX5_usersOf_47 rfl rfl ?_
              refine al_119 (v := μ 6 (40 * (16 * s + i) + j)) C (40 * (16 * s + i) + j) rfl (by omega) rfl dX5_usersOf_50 ?_
              refine z_iload_n C rfl dX5_usersOf_51 ?_
              refine z_icmp_ne (tgt := 59) C dX5_usersOf_52 (by decide) (fun h_52 => ?_) (fun h_52 => ?_)
              · skip
                refine z_iconst (v := 0) C (by decide +kernel) dX5_usersOf_59 ?_
                refine z_iadd (v := nI (sumTo (mF μ s e) i + sumTo (mG μ s i e) j + 0)) C (cv_add (sumTo (mF μ s e) i + sumTo (mG μ s i e) j) 0) dX5_usersOf_60 ?_
                refine z_istore_n (ls' := [some (.ref (n0 + 113)), some (.int (nI s)), some (.int e), some (.int (nI (sumTo (mF μ s e) i + sumTo (mG μ s i e) j + 0))), some (.int (nI i)), some (.int (nI j))]) C (by decide) rfl dX5_usersOf_61 ?_
                refine z_iinc (v := nI (j + 1)) (ls' := [some (.ref (n0 + 113)), some (.int (nI s)), some (.int e), some (.int (nI (sumTo (mF μ s e) i + sumTo (mG μ s i e) j + 0))), some (.int (nI i)), some (.int (nI (j + 1)))]) C rfl (cv_inc j 1) (by decide) rfl dX5_usersOf_62 ?_
                refine z_goto (tgt := 15) C dX5_usersOf_65 (by decide) ?_
                exact z_cast (σ1 := (κ, μ, o)) (ls' := [some (.ref (n0 + 113)), some (.int (nI s)), some (.int e), some (.int (nI (sumTo (mF μ s e) i + sumTo (mG μ s i e) (j + 1)))), some (.int (nI i)), some (.int (nI (j + 1)))]) (st' := []) (ih_15) rfl ⟨rfl, rfl, rfl, (so_int (by simp [sumTo, mG, h_52, Nat.add_assoc])), rfl, rfl, trivial⟩ rfl
              · skip
                refine z_iconst (v := 1) C (by decide +kernel) dX5_usersOf_55 ?_
                refine z_goto (tgt := 60) C dX5_usersOf_56 (by decide) ?_
                refine z_iadd (v := nI (sumTo (mF μ s e) i + sumTo (mG μ s i e) j + 1)) C (cv_add (sumTo (mF μ s e) i + sumTo (mG μ s i e) j) 1) dX5_usersOf_60 ?_
                refine z_istore_n (ls' := [some (.ref (n0 + 113)), some (.int (nI s)), some (.int e), some (.int (nI (sumTo (mF μ s e) i + sumTo (mG μ s i e) j + 1))), some (.int (nI i)), some (.int (nI j))]) C (by decide) rfl dX5_usersOf_61 ?_
                refine z_iinc (v := nI (j + 1)) (ls' := [some (.ref (n0 + 113)), some (.int (nI s)), some (.int e), some (.int (nI (sumTo (mF μ s e) i + sumTo (mG μ s i e) j + 1))), some (.int (nI i)), some (.int (nI (j + 1)))]) C rfl (cv_inc j 1) (by decide) rfl dX5_usersOf_62 ?_
                refine z_goto (tgt := 15) C dX5_usersOf_65 (by decide) ?_
                exact z_cast (σ1 := (κ, μ, o)) (ls' := [some (.ref (n0 + 113)), some (.int (nI s)), some (.int e), some (.int (nI (sumTo (mF μ s e) i + sumTo (mG μ s i e) (j + 1)))), some (.int (nI i)), some (.int (nI (j + 1)))]) (st' := []) (ih_15) rfl ⟨rfl, rfl, rfl, (so_int (by simp [sumTo, mG, h_52, Nat.add_assoc])), rfl, rfl, trivial⟩ rfl
set_option maxHeartbeats 4000000 in
set_option maxRecDepth 100000 in
theorem c_X5_isFree (l : Launch) (D : DD) (n0 : Nat) (κ μ : KH) (o : Int64) (e : Int32) : HM l D n0 yX5_isFree cX5_isFree 2 (some .boolean) 2 47 [.ref (n0 + 113), .int e] (κ, μ, o) (some (.int (b2i (mFree μ e)))) (κ, μ, o) := by
  refine HM.of (by decide) (by simp [Value.category]) (by simp) (Or.inr (Or.inl ⟨_, .boolean, rfl, rfl, (b2i_nar _)⟩)) ?_
  intro pp ee ss mm aa bb me cd Q C K hret
  show ZZ pp l ee (rmk 2 47) ss mm aa bb me cd D n0 127 2 0 0 Q _ 0 [some (.ref (n0 + 113)), some (.int e)] []
  have hu0 := mUse_le μ 0 e
  have hu1 := mUse_le μ 1 e
  have hu2 := mUse_le μ 2 e
  refine z_aload_n C rfl dX5_isFree_0 ?_
  refine z_iconst (v := 0) C (by decide +kernel) dX5_isFree_1 ?_
  refine z_iload_n C rfl dX5_isFree_2 ?_
  refine z_callV (As := [.int 0, .int e]) (r := (some (.int (nI (mUse μ 0 e))))) (σ1 := (κ, μ, o)) (st := []) (st1 := [.int (nI (mUse μ 0 e))]) C K ok_X5_62 (c_X5_usersOf l D n0 κ μ o 0 e (by omega)) enc_M (by decide) rfl rfl ⟨by decide, by decide⟩ ⟨Nat.zero_le _, Nat.zero_le _⟩ (by simp [Value.category]) dX5_isFree_3 rfl rfl ?_
  refine z_aload_n C rfl dX5_isFree_6 ?_
  refine z_iconst (v := 1) C (by decide +kernel) dX5_isFree_7 ?_
  refine z_iload_n C rfl dX5_isFree_8 ?_
  refine z_callV (As := [.int 1, .int e]) (r := (some (.int (nI (mUse μ 1 e))))) (σ1 := (κ, μ, o)) (st := [.int (nI (mUse μ 0 e))]) (st1 := [.int (nI (mUse μ 1 e)), .int (nI (mUse μ 0 e))]) C K ok_X5_62 (c_X5_usersOf l D n0 κ μ o 1 e (by omega)) enc_M (by decide) rfl rfl ⟨by decide, by decide⟩ ⟨Nat.zero_le _, Nat.zero_le _⟩ (by simp [Value.category]) dX5_isFree_9 rfl rfl ?_
  refine z_iadd (v := nI (mUse μ 0 e + (mUse μ 1 e))) C (cv_add (mUse μ 0 e) (mUse μ 1 e)) dX5_isFree_12 ?_
  refine z_aload_n C rfl dX5_isFree_13 ?_
  refine z_iconst (v := 2) C (by decide +kernel) dX5_isFree_14 ?_
  refine z_iload_n C rfl dX5_isFree_15 ?_
  refine z_callV (As := [.int 2, .int e]) (r := (some (.int (nI (mUse μ 2 e))))) (σ1 := (κ, μ, o)) (st := [.int (nI (mUse μ 0 e + (mUse μ 1 e)))]) (st1 := [.int (nI (mUse μ 2 e)), .int (nI (mUse μ 0 e + (mUse μ 1 e)))]) C K ok_X5_62 (c_X5_usersOf l D n0 κ μ o 2 e (by omega)) enc_M (by decide) rfl rfl ⟨by decide, by decide⟩ ⟨Nat.zero_le _, Nat.zero_le _⟩ (by simp [Value.category]) dX5_isFree_16 rfl rfl ?_
  refine z_iadd (v := nI (mUse μ 0 e + (mUse μ 1 e) + (mUse μ 2 e))) C (cv_add (mUse μ 0 e + (mUse μ 1 e)) (mUse μ 2 e)) dX5_isFree_19 ?_
  refine z_if_ne (tgt := 27) C dX5_isFree_20 (by decide) (fun h_20 => ?_) (fun h_20 => ?_)
  · have g_20 := cv_ne (a := mUse μ 0 e + (mUse μ 1 e) + (mUse μ 2 e)) (b := 0) h_20
    refine z_iconst (v := 0) C (by decide +kernel) dX5_isFree_27 ?_
    exact z_endI (hret _ _ dX5_isFree_28) (b2i_0 (decide_eq_false (by omega))) rfl
  · have g_20 := cv_eq (a := mUse μ 0 e + (mUse μ 1 e) + (mUse μ 2 e)) (b := 0) (by omega) (by omega) h_20
    refine z_iconst (v := 1) C (by decide +kernel) dX5_isFree_23 ?_
    refine z_goto (tgt := 28) C dX5_isFree_24 (by decide) ?_
    exact z_endI (hret _ _ dX5_isFree_28) (b2i_1 (decide_eq_true (by omega))) rfl
set_option maxHeartbeats 4000000 in
set_option maxRecDepth 100000 in
theorem c_X5_isSole (l : Launch) (D : DD) (n0 : Nat) (κ μ : KH) (o : Int64) (e : Int32) : HM l D n0 yX5_isSole cX5_isSole 2 (some .boolean) 2 47 [.ref (n0 + 113), .int e] (κ, μ, o) (some (.int (b2i (mSole μ e)))) (κ, μ, o) := by
  refine HM.of (by decide) (by simp [Value.category]) (by simp) (Or.inr (Or.inl ⟨_, .boolean, rfl, rfl, (b2i_nar _)⟩)) ?_
  intro pp ee ss mm aa bb me cd Q C K hret
  show ZZ pp l ee (rmk 2 47) ss mm aa bb me cd D n0 127 2 0 0 Q _ 0 [some (.ref (n0 + 113)), some (.int e)] []
  have hu0 := mUse_le μ 0 e
  have hu1 := mUse_le μ 1 e
  have hu2 := mUse_le μ 2 e
  refine z_aload_n C rfl dX5_isSole_0 ?_
  refine z_iconst (v := 0) C (by decide +kernel) dX5_isSole_1 ?_
  refine z_iload_n C rfl dX5_isSole_2 ?_
  refine z_callV (As := [.int 0, .int e]) (r := (some (.int (nI (mUse μ 0 e))))) (σ1 := (κ, μ, o)) (st := []) (st1 := [.int (nI (mUse μ 0 e))]) C K ok_X5_62 (c_X5_usersOf l D n0 κ μ o 0 e (by omega)) enc_M (by decide) rfl rfl ⟨by decide, by decide⟩ ⟨Nat.zero_le _, Nat.zero_le _⟩ (by simp [Value.category]) dX5_isSole_3 rfl rfl ?_
  refine z_iconst (v := 1) C (by decide +kernel) dX5_isSole_6 ?_
  refine z_icmp_ne (tgt := 30) C dX5_isSole_7 (by decide) (fun h_7 => ?_) (fun h_7 => ?_)
  · have g_7 := cv_ne (a := mUse μ 0 e) (b := 1) h_7
    refine z_iconst (v := 0) C (by decide +kernel) dX5_isSole_30 ?_
    exact z_endI (hret _ _ dX5_isSole_31) (b2i_0 (by simp only [mSole, Bool.and_eq_false_iff, decide_eq_false_iff_not]; omega)) rfl
  · have g_7 := cv_eq (a := mUse μ 0 e) (b := 1) (by omega) (by omega) h_7
    refine z_aload_n C rfl dX5_isSole_10 ?_
    refine z_iconst (v := 1) C (by decide +kernel) dX5_isSole_11 ?_
    refine z_iload_n C rfl dX5_isSole_12 ?_
    refine z_callV (As := [.int 1, .int e]) (r := (some (.int (nI (mUse μ 1 e))))) (σ1 := (κ, μ, o)) (st := []) (st1 := [.int (nI (mUse μ 1 e))]) C K ok_X5_62 (c_X5_usersOf l D n0 κ μ o 1 e (by omega)) enc_M (by decide) rfl rfl ⟨by decide, by decide⟩ ⟨Nat.zero_le _, Nat.zero_le _⟩ (by simp [Value.category]) dX5_isSole_13 rfl rfl ?_
    refine z_aload_n C rfl dX5_isSole_16 ?_
    refine z_iconst (v := 2) C (by decide +kernel) dX5_isSole_17 ?_
    refine z_iload_n C rfl dX5_isSole_18 ?_
    refine z_callV (As := [.int 2, .int e]) (r := (some (.int (nI (mUse μ 2 e))))) (σ1 := (κ, μ, o)) (st := [.int (nI (mUse μ 1 e))]) (st1 := [.int (nI (mUse μ 2 e)), .int (nI (mUse μ 1 e))]) C K ok_X5_62 (c_X5_usersOf l D n0 κ μ o 2 e (by omega)) enc_M (by decide) rfl rfl ⟨by decide, by decide⟩ ⟨Nat.zero_le _, Nat.zero_le _⟩ (by simp [Value.category]) dX5_isSole_19 rfl rfl ?_
    refine z_iadd (v := nI (mUse μ 1 e + (mUse μ 2 e))) C (cv_add (mUse μ 1 e) (mUse μ 2 e)) dX5_isSole_22 ?_
    refine z_if_ne (tgt := 30) C dX5_isSole_23 (by decide) (fun h_23 => ?_) (fun h_23 => ?_)
    · have g_23 := cv_ne (a := mUse μ 1 e + (mUse μ 2 e)) (b := 0) h_23
      refine z_iconst (v := 0) C (by decide +kernel) dX5_isSole_30 ?_
      exact z_endI (hret _ _ dX5_isSole_31) (b2i_0 (by simp only [mSole, Bool.and_eq_false_iff, decide_eq_false_iff_not]; omega)) rfl
    · have g_23 := cv_eq (a := mUse μ 1 e + (mUse μ 2 e)) (b := 0) (by omega) (by omega) h_23
      refine z_iconst (v := 1) C (by decide +kernel) dX5_isSole_26 ?_
      refine z_goto (tgt := 31) C dX5_isSole_27 (by decide) ?_
      exact z_endI (hret _ _ dX5_isSole_31) (b2i_1 (by simp only [mSole, Bool.and_eq_true, decide_eq_true_eq]; omega)) rfl
set_option maxHeartbeats 4000000 in
set_option maxRecDepth 100000 in
theorem c_X5_freeMany (l : Launch) (D : DD) (n0 : Nat) (κ μ : KH) (o : Int64) (n : Nat) (hE : μ 0 9 = nI n) (hn : n ≤ 96) : HM l D n0 yX5_freeMany cX5_freeMany 3 (some .int) 3 68 [.ref (n0 + 113)] (κ, μ, o) (some (.int (nI (mFM μ n)))) (κ, μ, o) := by
  refine HM.of (by decide) (by simp [Value.category]) (by simp) (Or.inr (Or.inl ⟨_, .int, rfl, rfl, rfl⟩)) ?_
  intro pp ee ss mm aa bb me cd Q C K hret
  show ZZ pp l ee (rmk 3 68) ss mm aa bb me cd D n0 127 3 0 0 Q _ 0 [some (.ref (n0 + 113)), none, none] []
  refine z_iconst (v := 0) C (by decide +kernel) dX5_freeMany_0 ?_
  refine z_istore_n (ls' := [some (.ref (n0 + 113)), some (.int 0), none]) C (by decide) rfl dX5_freeMany_1 ?_
  refine z_iconst (v := 0) C (by decide +kernel) dX5_freeMany_2 ?_
  refine z_istore_n (ls' := [some (.ref (n0 + 113)), some (.int 0), some (.int 0)]) C (by decide) rfl dX5_freeMany_3 ?_
  refine z_cast (σ1 := (κ, μ, o)) (ls' := [some (.ref (n0 + 113)), some (.int (nI (sumTo (mFr1 μ) 0))), some (.int (nI 0))]) (st' := []) (z_for (P := fun i => ZZ pp l ee (rmk 3 68) ss mm aa bb me cd D n0 127 3 0 0 Q (κ, μ, o) 4 [some (.ref (n0 + 113)), some (.int (nI (sumTo (mFr1 μ) i))), some (.int (nI i))] []) (n) ?_ ?_ 0 (Nat.zero_le _)) rfl ⟨rfl, rfl, rfl, trivial⟩ rfl
  · skip
    refine z_iload_n C rfl dX5_freeMany_4 ?_
    refine z_aload_n C rfl dX5_freeMany_5 ?_
    refine gf_X5_32 (v := nI n) C hE dX5_freeMany_6 ?_
    refine z_icmp_ge (tgt := 34) C dX5_freeMany_9 (by decide) (fun h_9 => ?_) (fun h_9 => ?_)
    · have g_9 := cv_le (a := n) (b := n) (by omega) (by omega) h_9
      refine z_iload_n C rfl dX5_freeMany_34 ?_
      exact z_endI (hret _ _ dX5_freeMany_35) rfl rfl
    · have g_9 := cv_nle (a := n) (b := n) (by omega) (by omega) h_9
      exact absurd g_9 (by omega)
  · intro i hi_4 ih_4
    refine z_iload_n C rfl dX5_freeMany_4 ?_
    refine z_aload_n C rfl dX5_freeMany_5 ?_
    refine gf_X5_32 (v := nI n) C hE dX5_freeMany_6 ?_
    refine z_icmp_ge (tgt := 34) C dX5_freeMany_9 (by decide) (fun h_9 => ?_) (fun h_9 => ?_)
    · have g_9 := cv_le (a := n) (b := i) (by omega) (by omega) h_9
      exact absurd hi_4 (by omega)
    · have g_9 := cv_nle (a := n) (b := i) (by omega) (by omega) h_9
      refine z_iload_n C rfl dX5_freeMany_12 ?_
      refine z_aload_n C rfl dX5_freeMany_13 ?_
      refine z_iload_n C rfl dX5_freeMany_14 ?_
      refine z_callV (As := [.int (nI i)]) (r := (some (.int (b2i (mFree μ (nI i)))))) (σ1 := (κ, μ, o)) (st := [.int (nI (sumTo (mFr1 μ) i))]) (st1 := [.int (b2i (mFree μ (nI i))), .int (nI (sumTo (mFr1 μ) i))]) C K ok_X5_66 (c_X5_isFree l D n0 κ μ o (nI i)) enc_M (by decide) rfl rfl ⟨by decide, by decide⟩ ⟨Nat.zero_le _, Nat.zero_le _⟩ (by simp [Value.category]) dX5_freeMany_15 rfl rfl ?_
      refine z_if_eq (tgt := 25) C dX5_freeMany_18 (by decide) (fun h_18 => ?_) (fun h_18 => ?_)
      · have g_18 := cv_b0 h_18
        refine z_iconst (v := 0) C (by decide +kernel) dX5_freeMany_25 ?_
        refine z_iadd (v := nI (sumTo (mFr1 μ) i + 0)) C (cv_add (sumTo (mFr1 μ) i) 0) dX5_freeMany_26 ?_
        refine z_istore_n (ls' := [some (.ref (n0 + 113)), some (.int (nI (sumTo (mFr1 μ) i + 0))), some (.int (nI i))]) C (by decide) rfl dX5_freeMany_27 ?_
        refine z_iinc (v := nI (i + 1)) (ls' := [some (.ref (n0 + 113)), some (.int (nI (sumTo (mFr1 μ) i + 0))), some (.int (nI (i + 1)))]) C rfl (cv_inc i 1) (by decide) rfl dX5_freeMany_28 ?_
        refine z_goto (tgt := 4) C dX5_freeMany_31 (by decide) ?_
        exact z_cast (σ1 := (κ, μ, o)) (ls' := [some (.ref (n0 + 113)), some (.int (nI (sumTo (mFr1 μ) (i + 1)))), some (.int (nI (i + 1)))]) (st' := []) (ih_4) rfl ⟨rfl, (so_int (by simp [sumTo, mFr1, g_18])), rfl, trivial⟩ rfl
      · have g_18 := cv_b1 h_18
        refine z_iconst (v := 1) C (by decide +kernel) dX5_freeMany_21 ?_
        refine z_goto (tgt := 26) C dX5_freeMany_22 (by decide) ?_
        refine z_iadd (v := nI (sumTo (mFr1 μ) i + 1)) C (cv_add (sumTo (mFr1 μ) i) 1) dX5_freeMany_26 ?_
        refine z_istore_n (ls' := [some (.ref (n0 + 113)), some (.int (nI (sumTo (mFr1 μ) i + 1))), some (.int (nI i))]) C (by decide) rfl dX5_freeMany_27 ?_
        refine z_iinc (v := nI (i + 1)) (ls' := [some (.ref (n0 + 113)), some (.int (nI (sumTo (mFr1 μ) i + 1))), some (.int (nI (i + 1)))]) C rfl (cv_inc i 1) (by decide) rfl dX5_freeMany_28 ?_
        refine z_goto (tgt := 4) C dX5_freeMany_31 (by decide) ?_
        exact z_cast (σ1 := (κ, μ, o)) (ls' := [some (.ref (n0 + 113)), some (.int (nI (sumTo (mFr1 μ) (i + 1)))), some (.int (nI (i + 1)))]) (st' := []) (ih_4) rfl ⟨rfl, (so_int (by simp [sumTo, mFr1, g_18])), rfl, trivial⟩ rfl
set_option maxHeartbeats 4000000 in
set_option maxRecDepth 100000 in
theorem c_X5_mapped (l : Launch) (D : DD) (n0 : Nat) (κ μ : KH) (o : Int64) (v : Nat) (hv : v < 16) : HM l D n0 yX5_mapped cX5_mapped 4 (some .int) 1 22 [.ref (n0 + 113), .int (nI v)] (κ, μ, o) (some (.int (nI (mMap μ v)))) (κ, μ, o) := by
  refine HM.of (by decide) (by simp [Value.category]) (by simp) (Or.inr (Or.inl ⟨_, .int, rfl, rfl, rfl⟩)) ?_
  intro pp ee ss mm aa bb me cd Q C K hret
  show ZZ pp l ee (rmk 1 22) ss mm aa bb me cd D n0 127 4 0 0 Q _ 0 [some (.ref (n0 + 113)), some (.int (nI v)), none, none] []
  refine z_iconst (v := 0) C (by decide +kernel) dX5_mapped_0 ?_
  refine z_istore_n (ls' := [some (.ref (n0 + 113)), some (.int (nI v)), some (.int 0), none]) C (by decide) rfl dX5_mapped_1 ?_
  refine z_iconst (v := 0) C (by decide +kernel) dX5_mapped_2 ?_
  refine z_istore_n (ls' := [some (.ref (n0 + 113)), some (.int (nI v)), some (.int 0), some (.int 0)]) C (by decide) rfl dX5_mapped_3 ?_
  refine z_cast (σ1 := (κ, μ, o)) (ls' := [some (.ref (n0 + 113)), some (.int (nI v)), some (.int (nI (sumTo (mMp1 μ v) 0))), some (.int (nI 0))]) (st' := []) (z_for (P := fun i => ZZ pp l ee (rmk 1 22) ss mm aa bb me cd D n0 127 4 0 0 Q (κ, μ, o) 4 [some (.ref (n0 + 113)), some (.int (nI v)), some (.int (nI (sumTo (mMp1 μ v) i))), some (.int (nI i))] []) (40) ?_ ?_ 0 (Nat.zero_le _)) rfl ⟨rfl, rfl, rfl, rfl, trivial⟩ rfl
  · skip
    refine z_iload_n C rfl dX5_mapped_4 ?_
    refine z_bipush (v := 40) C (by decide +kernel) dX5_mapped_5 ?_
    refine z_icmp_ge (tgt := 39) C dX5_mapped_7 (by decide) (fun h_7 => ?_) (fun h_7 => ?_)
    · have g_7 := cv_le (a := 40) (b := 40) (by omega) (by omega) h_7
      refine z_iload_n C rfl dX5_mapped_39 ?_
      exact z_endI (hret _ _ dX5_mapped_40) rfl rfl
    · have g_7 := cv_nle (a := 40) (b := 40) (by omega) (by omega) h_7
      exact absurd g_7 (by omega)
  · intro i hi_4 ih_4
    refine z_iload_n C rfl dX5_mapped_4 ?_
    refine z_bipush (v := 40) C (by decide +kernel) dX5_mapped_5 ?_
    refine z_icmp_ge (tgt := 39) C dX5_mapped_7 (by decide) (fun h_7 => ?_) (fun h_7 => ?_)
    · have g_7 := cv_le (a := 40) (b := i) (by omega) (by omega) h_7
      exact absurd hi_4 (by omega)
    · have g_7 := cv_nle (a := 40) (b := i) (by omega) (by omega) h_7
      refine z_iload_n C rfl dX5_mapped_10 ?_
      refine z_aload_n C rfl dX5_mapped_11 ?_
      refine gf_X5_26 C dX5_mapped_12 ?_
      refine z_iconst (v := 0) C (by decide +kernel) dX5_mapped_15 ?_
      refine z_iload_n C rfl dX5_mapped_16 ?_
      refine z_iload_n C rfl dX5_mapped_17 ?_
      refine z_callS (As := [.int 0, .int (nI v), .int (nI i)]) (r := (some (.int (nI (40 * v + i))))) (σ1 := (κ, μ, o)) (st := [.ref (n0 + 119), .int (nI (sumTo (mMp1 μ v) i))]) (st1 := [.int (nI (40 * v + i)), .ref (n0 + 119), .int (nI (sumTo (mMp1 μ v) i))]) C K ok_X5_58 (c_X5_at0 l D n0 κ μ o v i) rfl ⟨by decide, by decide⟩ ⟨Nat.zero_le _, Nat.zero_le _⟩ (by simp [Value.category]) dX5_mapped_18 rfl rfl ?_
      refine al_119 (v := μ 6 (40 * v + i)) C (40 * v + i) rfl (by omega) rfl dX5_mapped_21 ?_
      refine z_iconst (v := (-1)) C (by decide +kernel) dX5_mapped_22 ?_
      refine z_icmp_eq (tgt := 30) C dX5_mapped_23 (by decide) (fun h_23 => ?_) (fun h_23 => ?_)
      · skip
        refine z_iconst (v := 0) C (by decide +kernel) dX5_mapped_30 ?_
        refine z_iadd (v := nI (sumTo (mMp1 μ v) i + 0)) C (cv_add (sumTo (mMp1 μ v) i) 0) dX5_mapped_31 ?_
        refine z_istore_n (ls' := [some (.ref (n0 + 113)), some (.int (nI v)), some (.int (nI (sumTo (mMp1 μ v) i + 0))), some (.int (nI i))]) C (by decide) rfl dX5_mapped_32 ?_
        refine z_iinc (v := nI (i + 1)) (ls' := [some (.ref (n0 + 113)), some (.int (nI v)), some (.int (nI (sumTo (mMp1 μ v) i + 0))), some (.int (nI (i + 1)))]) C rfl (cv_inc i 1) (by decide) rfl dX5_mapped_33 ?_
        refine z_goto (tgt := 4) C dX5_mapped_36 (by decide) ?_
        exact z_cast (σ1 := (κ, μ, o)) (ls' := [some (.ref (n0 + 113)), some (.int (nI v)), some (.int (nI (sumTo (mMp1 μ v) (i + 1)))), some (.int (nI (i + 1)))]) (st' := []) (ih_4) rfl ⟨rfl, rfl, (so_int (by simp [sumTo, mMp1, h_23])), rfl, trivial⟩ rfl
      · skip
        refine z_iconst (v := 1) C (by decide +kernel) dX5_mapped_26 ?_
        refine z_goto (tgt := 31) C dX5_mapped_27 (by decide) ?_
        refine z_iadd (v := nI (sumTo (mMp1 μ v) i + 1)) C (cv_add (sumTo (mMp1 μ v) i) 1) dX5_mapped_31 ?_
        refine z_istore_n (ls' := [some (.ref (n0 + 113)), some (.int (nI v)), some (.int (nI (sumTo (mMp1 μ v) i + 1))), some (.int (nI i))]) C (by decide) rfl dX5_mapped_32 ?_
        refine z_iinc (v := nI (i + 1)) (ls' := [some (.ref (n0 + 113)), some (.int (nI v)), some (.int (nI (sumTo (mMp1 μ v) i + 1))), some (.int (nI (i + 1)))]) C rfl (cv_inc i 1) (by decide) rfl dX5_mapped_33 ?_
        refine z_goto (tgt := 4) C dX5_mapped_36 (by decide) ?_
        exact z_cast (σ1 := (κ, μ, o)) (ls' := [some (.ref (n0 + 113)), some (.int (nI v)), some (.int (nI (sumTo (mMp1 μ v) (i + 1)))), some (.int (nI (i + 1)))]) (st' := []) (ih_4) rfl ⟨rfl, rfl, (so_int (by simp [sumTo, mMp1, h_23])), rfl, trivial⟩ rfl
set_option maxHeartbeats 4000000 in
set_option maxRecDepth 100000 in
theorem c_X5_volumes (l : Launch) (D : DD) (n0 : Nat) (κ μ : KH) (o : Int64) (s : Nat) (hs : s < 3) : HM l D n0 yX5_volumes cX5_volumes 4 (some .int) 0 0 [.ref (n0 + 113), .int (nI s)] (κ, μ, o) (some (.int (nI (mVol μ s)))) (κ, μ, o) := by
  refine HM.of (by decide) (by simp [Value.category]) (by simp) (Or.inr (Or.inl ⟨_, .int, rfl, rfl, rfl⟩)) ?_
  intro pp ee ss mm aa bb me cd Q C K hret
  show ZZ pp l ee (rmk 0 0) ss mm aa bb me cd D n0 127 4 0 0 Q _ 0 [some (.ref (n0 + 113)), some (.int (nI s)), none, none] []
  refine z_iconst (v := 0) C (by decide +kernel) dX5_volumes_0 ?_
  refine z_istore_n (ls' := [some (.ref (n0 + 113)), some (.int (nI s)), some (.int 0), none]) C (by decide) rfl dX5_volumes_1 ?_
  refine z_iconst (v := 0) C (by decide +kernel) dX5_volumes_2 ?_
  refine z_istore_n (ls' := [some (.ref (n0 + 113)), some (.int (nI s)), some (.int 0), some (.int 0)]) C (by decide) rfl dX5_volumes_3 ?_
  refine z_cast (σ1 := (κ, μ, o)) (ls' := [some (.ref (n0 + 113)), some (.int (nI s)), some (.int (nI (sumTo (mTh1 μ s) 0))), some (.int (nI 0))]) (st' := []) (z_for (P := fun i => ZZ pp l ee (rmk 0 0) ss mm aa bb me cd D n0 127 4 0 0 Q (κ, μ, o) 4 [some (.ref (n0 + 113)), some (.int (nI s)), some (.int (nI (sumTo (mTh1 μ s) i))), some (.int (nI i))] []) (16) ?_ ?_ 0 (Nat.zero_le _)) rfl ⟨rfl, rfl, rfl, rfl, trivial⟩ rfl
  · skip
    refine z_iload_n C rfl dX5_volumes_4 ?_
    refine z_bipush (v := 16) C (by decide +kernel) dX5_volumes_5 ?_
    refine z_icmp_ge (tgt := 38) C dX5_volumes_7 (by decide) (fun h_7 => ?_) (fun h_7 => ?_)
    · have g_7 := cv_le (a := 16) (b := 16) (by omega) (by omega) h_7
      refine z_iload_n C rfl dX5_volumes_38 ?_
      exact z_endI (hret _ _ dX5_volumes_39) rfl rfl
    · have g_7 := cv_nle (a := 16) (b := 16) (by omega) (by omega) h_7
      exact absurd g_7 (by omega)
  · intro i hi_4 ih_4
    refine z_iload_n C rfl dX5_volumes_4 ?_
    refine z_bipush (v := 16) C (by decide +kernel) dX5_volumes_5 ?_
    refine z_icmp_ge (tgt := 38) C dX5_volumes_7 (by decide) (fun h_7 => ?_) (fun h_7 => ?_)
    · have g_7 := cv_le (a := 16) (b := i) (by omega) (by omega) h_7
      exact absurd hi_4 (by omega)
    · have g_7 := cv_nle (a := 16) (b := i) (by omega) (by omega) h_7
      refine z_iload_n C rfl dX5_volumes_10 ?_
      refine z_aload_n C rfl dX5_volumes_11 ?_
      refine gf_X5_7 C dX5_volumes_12 ?_
      refine z_bipush (v := 16) C (by decide +kernel) dX5_volumes_15 ?_
      refine z_iload_n C rfl dX5_volumes_17 ?_
      refine z_imul (v := nI (16 * s)) C (cv_mul 16 s) dX5_volumes_18 ?_
      refine z_iload_n C rfl dX5_volumes_19 ?_
      refine z_iadd (v := nI (16 * s + i)) C (cv_add (16 * s) i) dX5_volumes_20 ?_
      refine al_114 (v := μ 1 (16 * s + i)) C (16 * s + i) rfl (by omega) rfl dX5_volumes_21 ?_
      refine z_if_eq (tgt := 29) C dX5_volumes_22 (by decide) (fun h_22 => ?_) (fun h_22 => ?_)
      · skip
        refine z_iconst (v := 0) C (by decide +kernel) dX5_volumes_29 ?_
        refine z_iadd (v := nI (sumTo (mTh1 μ s) i + 0)) C (cv_add (sumTo (mTh1 μ s) i) 0) dX5_volumes_30 ?_
        refine z_istore_n (ls' := [some (.ref (n0 + 113)), some (.int (nI s)), some (.int (nI (sumTo (mTh1 μ s) i + 0))), some (.int (nI i))]) C (by decide) rfl dX5_volumes_31 ?_
        refine z_iinc (v := nI (i + 1)) (ls' := [some (.ref (n0 + 113)), some (.int (nI s)), some (.int (nI (sumTo (mTh1 μ s) i + 0))), some (.int (nI (i + 1)))]) C rfl (cv_inc i 1) (by decide) rfl dX5_volumes_32 ?_
        refine z_goto (tgt := 4) C dX5_volumes_35 (by decide) ?_
        exact z_cast (σ1 := (κ, μ, o)) (ls' := [some (.ref (n0 + 113)), some (.int (nI s)), some (.int (nI (sumTo (mTh1 μ s) (i + 1)))), some (.int (nI (i + 1)))]) (st' := []) (ih_4) rfl ⟨rfl, rfl, (so_int (by simp [sumTo, mTh1, h_22])), rfl, trivial⟩ rfl
      · skip
        refine z_iconst (v := 1) C (by decide +kernel) dX5_volumes_25 ?_
        refine z_goto (tgt := 30) C dX5_volumes_26 (by decide) ?_
        refine z_iadd (v := nI (sumTo (mTh1 μ s) i + 1)) C (cv_add (sumTo (mTh1 μ s) i) 1) dX5_volumes_30 ?_
        refine z_istore_n (ls' := [some (.ref (n0 + 113)), some (.int (nI s)), some (.int (nI (sumTo (mTh1 μ s) i + 1))), some (.int (nI i))]) C (by decide) rfl dX5_volumes_31 ?_
        refine z_iinc (v := nI (i + 1)) (ls' := [some (.ref (n0 + 113)), some (.int (nI s)), some (.int (nI (sumTo (mTh1 μ s) i + 1))), some (.int (nI (i + 1)))]) C rfl (cv_inc i 1) (by decide) rfl dX5_volumes_32 ?_
        refine z_goto (tgt := 4) C dX5_volumes_35 (by decide) ?_
        exact z_cast (σ1 := (κ, μ, o)) (ls' := [some (.ref (n0 + 113)), some (.int (nI s)), some (.int (nI (sumTo (mTh1 μ s) (i + 1)))), some (.int (nI (i + 1)))]) (st' := []) (ih_4) rfl ⟨rfl, rfl, (so_int (by simp [sumTo, mTh1, h_22])), rfl, trivial⟩ rfl
set_option maxHeartbeats 4000000 in
set_option maxRecDepth 100000 in
theorem c_X5_clearState (l : Launch) (D : DD) (n0 : Nat) (κ μ : KH) (o : Int64) (s : Nat) (hs : s < 3) : HM l D n0 yX5_clearState cX5_clearState 3 none 0 0 [.ref (n0 + 113), .int (nI s)] (κ, μ, o) none (κ, up (iterK (mClr s) 16 μ) 7 s 0, o) := by
  refine HM.of (by decide) (by simp [Value.category]) (by simp) (Or.inl ⟨rfl, rfl⟩) ?_
  intro pp ee ss mm aa bb me cd Q C K hret
  show ZZ pp l ee (rmk 0 0) ss mm aa bb me cd D n0 127 3 0 0 Q _ 0 [some (.ref (n0 + 113)), some (.int (nI s)), none] []
  refine z_bipush (v := 16) C (by decide +kernel) dX5_clearState_0 ?_
  refine z_iload_n C rfl dX5_clearState_2 ?_
  refine z_imul (v := nI (16 * s)) C (cv_mul 16 s) dX5_clearState_3 ?_
  refine z_istore_n (ls' := [some (.ref (n0 + 113)), some (.int (nI s)), some (.int (nI (16 * s)))]) C (by decide) rfl dX5_clearState_4 ?_
  refine z_cast (σ1 := (κ, iterK (mClr s) 0 μ, o)) (ls' := [some (.ref (n0 + 113)), some (.int (nI s)), some (.int (nI (16 * s + 0)))]) (st' := []) (z_for (P := fun i => ZZ pp l ee (rmk 0 0) ss mm aa bb me cd D n0 127 3 0 0 Q (κ, iterK (mClr s) i μ, o) 5 [some (.ref (n0 + 113)), some (.int (nI s)), some (.int (nI (16 * s + i)))] []) (16) ?_ ?_ 0 (Nat.zero_le _)) rfl ⟨rfl, rfl, (so_int rfl), trivial⟩ rfl
  · skip
    refine z_iload_n C rfl dX5_clearState_5 ?_
    refine z_bipush (v := 16) C (by decide +kernel) dX5_clearState_6 ?_
    refine z_iload_n C rfl dX5_clearState_8 ?_
    refine z_imul (v := nI (16 * s)) C (cv_mul 16 s) dX5_clearState_9 ?_
    refine z_bipush (v := 16) C (by decide +kernel) dX5_clearState_10 ?_
    refine z_iadd (v := nI (16 * s + 16)) C (cv_add (16 * s) 16) dX5_clearState_12 ?_
    refine z_icmp_ge (tgt := 29) C dX5_clearState_13 (by decide) (fun h_13 => ?_) (fun h_13 => ?_)
    · have g_13 := cv_le (a := 16 * s + 16) (b := 16 * s + 16) (by omega) (by omega) h_13
      refine z_aload_n C rfl dX5_clearState_29 ?_
      refine gf_X5_29 C dX5_clearState_30 ?_
      refine z_iload_n C rfl dX5_clearState_33 ?_
      refine z_iconst (v := 0) C (by decide +kernel) dX5_clearState_34 ?_
      refine as_120 (x := 0) C (s) rfl (by omega) dX5_clearState_35 ?_
      exact z_endV (hret _ _ dX5_clearState_36) rfl
    · have g_13 := cv_nle (a := 16 * s + 16) (b := 16 * s + 16) (by omega) (by omega) h_13
      exact absurd g_13 (by omega)
  · intro i hi_5 ih_5
    refine z_iload_n C rfl dX5_clearState_5 ?_
    refine z_bipush (v := 16) C (by decide +kernel) dX5_clearState_6 ?_
    refine z_iload_n C rfl dX5_clearState_8 ?_
    refine z_imul (v := nI (16 * s)) C (cv_mul 16 s) dX5_clearState_9 ?_
    refine z_bipush (v := 16) C (by decide +kernel) dX5_clearState_10 ?_
    refine z_iadd (v := nI (16 * s + 16)) C (cv_add (16 * s) 16) dX5_clearState_12 ?_
    refine z_icmp_ge (tgt := 29) C dX5_clearState_13 (by decide) (fun h_13 => ?_) (fun h_13 => ?_)
    · have g_13 := cv_le (a := 16 * s + 16) (b := 16 * s + i) (by omega) (by omega) h_13
      exact absurd hi_5 (by omega)
    · have g_13 := cv_nle (a := 16 * s + 16) (b := 16 * s + i) (by omega) (by omega) h_13
      refine z_aload_n C rfl dX5_clearState_16 ?_
      refine gf_X5_7 C dX5_clearState_17 ?_
      refine z_iload_n C rfl dX5_clearState_20 ?_
      refine z_iconst (v := 0) C (by decide +kernel) dX5_clearState_21 ?_
      refine as_114 (x := 0) C (16 * s + i) (Or.inl rfl) rfl (by omega) dX5_clearState_22 ?_
      refine z_iinc (v := nI (16 * s + i + 1)) (ls' := [some (.ref (n0 + 113)), some (.int (nI s)), some (.int (nI (16 * s + i + 1)))]) C rfl (cv_inc (16 * s + i) 1) (by decide) rfl dX5_clearState_23 ?_
      refine z_goto (tgt := 5) C dX5_clearState_26 (by decide) ?_
      exact z_cast (σ1 := (κ, iterK (mClr s) (i + 1) μ, o)) (ls' := [some (.ref (n0 + 113)), some (.int (nI s)), some (.int (nI (16 * s + (i + 1))))]) (st' := []) (ih_5) rfl ⟨rfl, rfl, (so_int rfl), trivial⟩ rfl
set_option maxHeartbeats 4000000 in
set_option maxRecDepth 100000 in
theorem c_X5_copyVolume (l : Launch) (D : DD) (n0 : Nat) (κ μ : KH) (o : Int64) (s v t x : Nat) (hs : s < 3) (hv : v < 16) (ht : t < 3) (hx : x < 16) (h1 : is01 (μ 1 (16 * s + v))) (h3 : is01 (μ 3 (16 * s + v))) : HM l D n0 yX5_copyVolume cX5_copyVolume 8 none 0 0 [.ref (n0 + 113), .int (nI s), .int (nI v), .int (nI t), .int (nI x)] (κ, μ, o) none (κ, mCpV μ (16 * s + v) (16 * t + x), o) := by
  refine HM.of (by decide) (by simp [Value.category]) (by simp) (Or.inl ⟨rfl, rfl⟩) ?_
  intro pp ee ss mm aa bb me cd Q C K hret
  show ZZ pp l ee (rmk 0 0) ss mm aa bb me cd D n0 127 8 0 0 Q _ 0 [some (.ref (n0 + 113)), some (.int (nI s)), some (.int (nI v)), some (.int (nI t)), some (.int (nI x)), none, none, none] []
  refine z_bipush (v := 16) C (by decide +kernel) dX5_copyVolume_0 ?_
  refine z_iload_n C rfl dX5_copyVolume_2 ?_
  refine z_imul (v := nI (16 * s)) C (cv_mul 16 s) dX5_copyVolume_3 ?_
  refine z_iload_n C rfl dX5_copyVolume_4 ?_
  refine z_iadd (v := nI (16 * s + v)) C (cv_add (16 * s) v) dX5_copyVolume_5 ?_
  refine z_istore (ls' := [some (.ref (n0 + 113)), some (.int (nI s)), some (.int (nI v)), some (.int (nI t)), some (.int (nI x)), some (.int (nI (16 * s + v))), none, none]) C (by decide) rfl dX5_copyVolume_6 ?_
  refine z_bipush (v := 16) C (by decide +kernel) dX5_copyVolume_8 ?_
  refine z_iload_n C rfl dX5_copyVolume_10 ?_
  refine z_imul (v := nI (16 * t)) C (cv_mul 16 t) dX5_copyVolume_11 ?_
  refine z_iload C rfl dX5_copyVolume_12 ?_
  refine z_iadd (v := nI (16 * t + x)) C (cv_add (16 * t) x) dX5_copyVolume_14 ?_
  refine z_istore (ls' := [some (.ref (n0 + 113)), some (.int (nI s)), some (.int (nI v)), some (.int (nI t)), some (.int (nI x)), some (.int (nI (16 * s + v))), some (.int (nI (16 * t + x))), none]) C (by decide) rfl dX5_copyVolume_15 ?_
  refine z_aload_n C rfl dX5_copyVolume_17 ?_
  refine gf_X5_7 C dX5_copyVolume_18 ?_
  refine z_iload C rfl dX5_copyVolume_21 ?_
  refine z_aload_n C rfl dX5_copyVolume_23 ?_
  refine gf_X5_7 C dX5_copyVolume_24 ?_
  refine z_iload C rfl dX5_copyVolume_27 ?_
  refine al_114 (v := μ 1 (16 * s + v)) C (16 * s + v) rfl (by omega) rfl dX5_copyVolume_29 ?_
  refine as_114 (x := μ 1 (16 * s + v)) C (16 * t + x) h1 rfl (by omega) dX5_copyVolume_30 ?_
  refine z_aload_n C rfl dX5_copyVolume_31 ?_
  refine gf_X5_13 C dX5_copyVolume_32 ?_
  refine z_iload C rfl dX5_copyVolume_35 ?_
  refine z_aload_n C rfl dX5_copyVolume_37 ?_
  refine gf_X5_13 C dX5_copyVolume_38 ?_
  refine z_iload C rfl dX5_copyVolume_41 ?_
  refine al_115 (v := μ 2 (16 * s + v)) C (16 * s + v) rfl (by omega) (show _ = μ 2 (16 * s + v) by simp [up]) dX5_copyVolume_43 ?_
  refine as_115 (x := μ 2 (16 * s + v)) C (16 * t + x) rfl (by omega) dX5_copyVolume_44 ?_
  refine z_aload_n C rfl dX5_copyVolume_45 ?_
  refine gf_X5_17 C dX5_copyVolume_46 ?_
  refine z_iload C rfl dX5_copyVolume_49 ?_
  refine z_aload_n C rfl dX5_copyVolume_51 ?_
  refine gf_X5_17 C dX5_copyVolume_52 ?_
  refine z_iload C rfl dX5_copyVolume_55 ?_
  refine al_116 (v := μ 3 (16 * s + v)) C (16 * s + v) rfl (by omega) (show _ = μ 3 (16 * s + v) by simp [up]) dX5_copyVolume_57 ?_
  refine as_116 (x := μ 3 (16 * s + v)) C (16 * t + x) h3 rfl (by omega) dX5_copyVolume_58 ?_
  refine z_aload_n C rfl dX5_copyVolume_59 ?_
  refine gf_X5_20 C dX5_copyVolume_60 ?_
  refine z_iload C rfl dX5_copyVolume_63 ?_
  refine z_aload_n C rfl dX5_copyVolume_65 ?_
  refine gf_X5_20 C dX5_copyVolume_66 ?_
  refine z_iload C rfl dX5_copyVolume_69 ?_
  refine al_117 (v := μ 4 (16 * s + v)) C (16 * s + v) rfl (by omega) (show _ = μ 4 (16 * s + v) by simp [up]) dX5_copyVolume_71 ?_
  refine as_117 (x := μ 4 (16 * s + v)) C (16 * t + x) rfl (by omega) dX5_copyVolume_72 ?_
  refine z_iconst (v := 0) C (by decide +kernel) dX5_copyVolume_73 ?_
  refine z_istore (ls' := [some (.ref (n0 + 113)), some (.int (nI s)), some (.int (nI v)), some (.int (nI t)), some (.int (nI x)), some (.int (nI (16 * s + v))), some (.int (nI (16 * t + x))), some (.int 0)]) C (by decide) rfl dX5_copyVolume_74 ?_
  refine z_cast (σ1 := (κ, iterK (mCpM (16 * s + v) (16 * t + x)) 0 (up (up (up (up μ 1 (16 * t + x) (μ 1 (16 * s + v))) 2 (16 * t + x) (μ 2 (16 * s + v))) 3 (16 * t + x) (μ 3 (16 * s + v))) 4 (16 * t + x) (μ 4 (16 * s + v))), o)) (ls' := [some (.ref (n0 + 113)), none, none, none, none, some (.int (nI (16 * s + v))), some (.int (nI (16 * t + x))), some (.int (nI 0))]) (st' := []) (z_for (P := fun i => ZZ pp l ee (rmk 0 0) ss mm aa bb me cd D n0 127 8 0 0 Q (κ, iterK (mCpM (16 * s + v) (16 * t + x)) i (up (up (up (up μ 1 (16 * t + x) (μ 1 (16 * s + v))) 2 (16 * t + x) (μ 2 (16 * s + v))) 3 (16 * t + x) (μ 3 (16 * s + v))) 4 (16 * t + x) (μ 4 (16 * s + v))), o) 76 [some (.ref (n0 + 113)), none, none, none, none, some (.int (nI (16 * s + v))), some (.int (nI (16 * t + x))), some (.int (nI i))] []) (40) ?_ ?_ 0 (Nat.zero_le _)) rfl ⟨rfl, rfl, rfl, rfl, trivial⟩ rfl
  · skip
    refine z_iload C rfl dX5_copyVolume_76 ?_
    refine z_bipush (v := 40) C (by decide +kernel) dX5_copyVolume_78 ?_
    refine z_icmp_ge (tgt := 115) C dX5_copyVolume_80 (by decide) (fun h_80 => ?_) (fun h_80 => ?_)
    · have g_80 := cv_le (a := 40) (b := 40) (by omega) (by omega) h_80
      exact z_endV (hret _ _ dX5_copyVolume_115) rfl
    · have g_80 := cv_nle (a := 40) (b := 40) (by omega) (by omega) h_80
      exact absurd g_80 (by omega)
  · intro i hi_76 ih_76
    refine z_iload C rfl dX5_copyVolume_76 ?_
    refine z_bipush (v := 40) C (by decide +kernel) dX5_copyVolume_78 ?_
    refine z_icmp_ge (tgt := 115) C dX5_copyVolume_80 (by decide) (fun h_80 => ?_) (fun h_80 => ?_)
    · have g_80 := cv_le (a := 40) (b := i) (by omega) (by omega) h_80
      exact absurd hi_76 (by omega)
    · have g_80 := cv_nle (a := 40) (b := i) (by omega) (by omega) h_80
      refine z_aload_n C rfl dX5_copyVolume_83 ?_
      refine gf_X5_26 C dX5_copyVolume_84 ?_
      refine z_bipush (v := 40) C (by decide +kernel) dX5_copyVolume_87 ?_
      refine z_iload C rfl dX5_copyVolume_89 ?_
      refine z_imul (v := nI (40 * (16 * t + x))) C (cv_mul 40 (16 * t + x)) dX5_copyVolume_91 ?_
      refine z_iload C rfl dX5_copyVolume_92 ?_
      refine z_iadd (v := nI (40 * (16 * t + x) + i)) C (cv_add (40 * (16 * t + x)) i) dX5_copyVolume_94 ?_
      refine z_aload_n C rfl dX5_copyVolume_95 ?_
      refine gf_X5_26 C dX5_copyVolume_96 ?_
      refine z_bipush (v := 40) C (by decide +kernel) dX5_copyVolume_99 ?_
      refine z_iload C rfl dX5_copyVolume_101 ?_
      refine z_imul (v := nI (40 * (16 * s + v))) C (cv_mul 40 (16 * s + v)) dX5_copyVolume_103 ?_
      refine z_iload C rfl dX5_copyVolume_104 ?_
      refine z_iadd (v := nI (40 * (16 * s + v) + i)) C (cv_add (40 * (16 * s + v)) i) dX5_copyVolume_106 ?_
      refine al_119 (v := iterK (mCpM (16 * s + v) (16 * t + x)) i (up (up (up (up μ 1 (16 * t + x) (μ 1 (16 * s + v))) 2 (16 * t + x) (μ 2 (16 * s + v))) 3 (16 * t + x) (μ 3 (16 * s + v))) 4 (16 * t + x) (μ 4 (16 * s + v))) 6 (40 * (16 * s + v) + i)) C (40 * (16 * s + v) + i) rfl (by omega) rfl dX5_copyVolume_107 ?_
      refine as_119 (x := iterK (mCpM (16 * s + v) (16 * t + x)) i (up (up (up (up μ 1 (16 * t + x) (μ 1 (16 * s + v))) 2 (16 * t + x) (μ 2 (16 * s + v))) 3 (16 * t + x) (μ 3 (16 * s + v))) 4 (16 * t + x) (μ 4 (16 * s + v))) 6 (40 * (16 * s + v) + i)) C (40 * (16 * t + x) + i) rfl (by omega) dX5_copyVolume_108 ?_
      refine z_iinc (v := nI (i + 1)) (ls' := [some (.ref (n0 + 113)), none, none, none, none, some (.int (nI (16 * s + v))), some (.int (nI (16 * t + x))), some (.int (nI (i + 1)))]) C rfl (cv_inc i 1) (by decide) rfl dX5_copyVolume_109 ?_
      refine z_goto (tgt := 76) C dX5_copyVolume_112 (by decide) ?_
      exact z_cast (σ1 := (κ, iterK (mCpM (16 * s + v) (16 * t + x)) (i + 1) (up (up (up (up μ 1 (16 * t + x) (μ 1 (16 * s + v))) 2 (16 * t + x) (μ 2 (16 * s + v))) 3 (16 * t + x) (μ 3 (16 * s + v))) 4 (16 * t + x) (μ 4 (16 * s + v))), o)) (ls' := [some (.ref (n0 + 113)), none, none, none, none, some (.int (nI (16 * s + v))), some (.int (nI (16 * t + x))), some (.int (nI (i + 1)))]) (st' := []) (ih_76) rfl ⟨rfl, rfl, rfl, rfl, trivial⟩ rfl
set_option maxHeartbeats 4000000 in
set_option maxRecDepth 100000 in
theorem c_X5_needs (l : Launch) (D : DD) (n0 : Nat) (κ μ : KH) (o : Int64) (v q : Nat) (hv : v < 16) (hq : q < 40) : HM l D n0 yX5_needs cX5_needs 4 (some .boolean) 3 68 [.ref (n0 + 113), .int (nI v), .int (nI q)] (κ, μ, o) (some (.int (b2i (mNeed μ v q)))) (κ, μ, o) := by
  refine HM.of (by decide) (by simp [Value.category]) (by simp) (Or.inr (Or.inl ⟨_, .boolean, rfl, rfl, (b2i_nar _)⟩)) ?_
  intro pp ee ss mm aa bb me cd Q C K hret
  show ZZ pp l ee (rmk 3 68) ss mm aa bb me cd D n0 127 4 0 0 Q _ 0 [some (.ref (n0 + 113)), some (.int (nI v)), some (.int (nI q)), none] []
  refine z_aload_n C rfl dX5_needs_0 ?_
  refine gf_X5_26 C dX5_needs_1 ?_
  refine z_iconst (v := 0) C (by decide +kernel) dX5_needs_4 ?_
  refine z_iload_n C rfl dX5_needs_5 ?_
  refine z_iload_n C rfl dX5_needs_6 ?_
  refine z_callS (As := [.int 0, .int (nI v), .int (nI q)]) (r := (some (.int (nI (40 * v + q))))) (σ1 := (κ, μ, o)) (st := [.ref (n0 + 119)]) (st1 := [.int (nI (40 * v + q)), .ref (n0 + 119)]) C K ok_X5_58 (c_X5_at0 l D n0 κ μ o v q) rfl ⟨by decide, by decide⟩ ⟨Nat.zero_le _, Nat.zero_le _⟩ (by simp [Value.category]) dX5_needs_7 rfl rfl ?_
  refine al_119 (v := μ 6 (40 * v + q)) C (40 * v + q) rfl (by omega) rfl dX5_needs_10 ?_
  refine z_istore_n (ls' := [some (.ref (n0 + 113)), some (.int (nI v)), some (.int (nI q)), some (.int (μ 6 (40 * v + q)))]) C (by decide) rfl dX5_needs_11 ?_
  refine z_iload_n C rfl dX5_needs_12 ?_
  refine z_iconst (v := (-1)) C (by decide +kernel) dX5_needs_13 ?_
  refine z_icmp_eq (tgt := 25) C dX5_needs_14 (by decide) (fun h_14 => ?_) (fun h_14 => ?_)
  · skip
    refine z_iconst (v := 1) C (by decide +kernel) dX5_needs_25 ?_
    refine z_goto (tgt := 30) C dX5_needs_26 (by decide) ?_
    exact z_endI (hret _ _ dX5_needs_30) (b2i_1 (by simp [mNeed, h_14])) rfl
  · skip
    refine z_aload_n C rfl dX5_needs_17 ?_
    refine z_iload_n C rfl dX5_needs_18 ?_
    refine z_callV (As := [.int (μ 6 (40 * v + q))]) (r := (some (.int (b2i (mSole μ (μ 6 (40 * v + q))))))) (σ1 := (κ, μ, o)) (st := []) (st1 := [.int (b2i (mSole μ (μ 6 (40 * v + q))))]) C K ok_X5_73 (c_X5_isSole l D n0 κ μ o (μ 6 (40 * v + q))) enc_M (by decide) rfl rfl ⟨by decide, by decide⟩ ⟨Nat.zero_le _, Nat.zero_le _⟩ (by simp [Value.category]) dX5_needs_19 rfl rfl ?_
    refine z_if_ne (tgt := 29) C dX5_needs_22 (by decide) (fun h_22 => ?_) (fun h_22 => ?_)
    · have g_22 := cv_b1 h_22
      refine z_iconst (v := 0) C (by decide +kernel) dX5_needs_29 ?_
      exact z_endI (hret _ _ dX5_needs_30) (b2i_0 (by simp [mNeed, h_14, g_22])) rfl
    · have g_22 := cv_b0 h_22
      refine z_iconst (v := 1) C (by decide +kernel) dX5_needs_25 ?_
      refine z_goto (tgt := 30) C dX5_needs_26 (by decide) ?_
      exact z_endI (hret _ _ dX5_needs_30) (b2i_1 (by simp [mNeed, g_22])) rfl
set_option maxHeartbeats 4000000 in
set_option maxRecDepth 100000 in
theorem c_X5_isOver (l : Launch) (D : DD) (n0 : Nat) (κ μ : KH) (o : Int64) (v q : Nat) (hv : v < 16) (hq : q < 40) : HM l D n0 yX5_isOver cX5_isOver 3 (some .boolean) 2 45 [.ref (n0 + 113), .int (nI v), .int (nI q)] (κ, μ, o) (some (.int (b2i (mOver μ v q)))) (κ, μ, o) := by
  refine HM.of (by decide) (by simp [Value.category]) (by simp) (Or.inr (Or.inl ⟨_, .boolean, rfl, rfl, (b2i_nar _)⟩)) ?_
  intro pp ee ss mm aa bb me cd Q C K hret
  show ZZ pp l ee (rmk 2 45) ss mm aa bb me cd D n0 127 3 0 0 Q _ 0 [some (.ref (n0 + 113)), some (.int (nI v)), some (.int (nI q))] []
  refine z_aload_n C rfl dX5_isOver_0 ?_
  refine gf_X5_26 C dX5_isOver_1 ?_
  refine z_iconst (v := 0) C (by decide +kernel) dX5_isOver_4 ?_
  refine z_iload_n C rfl dX5_isOver_5 ?_
  refine z_iload_n C rfl dX5_isOver_6 ?_
  refine z_callS (As := [.int 0, .int (nI v), .int (nI q)]) (r := (some (.int (nI (40 * v + q))))) (σ1 := (κ, μ, o)) (st := [.ref (n0 + 119)]) (st1 := [.int (nI (40 * v + q)), .ref (n0 + 119)]) C K ok_X5_58 (c_X5_at0 l D n0 κ μ o v q) rfl ⟨by decide, by decide⟩ ⟨Nat.zero_le _, Nat.zero_le _⟩ (by simp [Value.category]) dX5_isOver_7 rfl rfl ?_
  refine al_119 (v := μ 6 (40 * v + q)) C (40 * v + q) rfl (by omega) rfl dX5_isOver_10 ?_
  refine z_iconst (v := (-1)) C (by decide +kernel) dX5_isOver_11 ?_
  refine z_icmp_ne (tgt := 43) C dX5_isOver_12 (by decide) (fun h_12 => ?_) (fun h_12 => ?_)
  · skip
    refine z_iconst (v := 0) C (by decide +kernel) dX5_isOver_43 ?_
    exact z_endI (hret _ _ dX5_isOver_44) (b2i_0 (by simp [mOver, h_12])) rfl
  · skip
    refine z_aload_n C rfl dX5_isOver_15 ?_
    refine gf_X5_20 C dX5_isOver_16 ?_
    refine z_iload_n C rfl dX5_isOver_19 ?_
    refine al_117 (v := μ 4 v) C (v) rfl (by omega) rfl dX5_isOver_20 ?_
    refine z_iconst (v := (-1)) C (by decide +kernel) dX5_isOver_21 ?_
    refine z_icmp_eq (tgt := 43) C dX5_isOver_22 (by decide) (fun h_22 => ?_) (fun h_22 => ?_)
    · skip
      refine z_iconst (v := 0) C (by decide +kernel) dX5_isOver_43 ?_
      exact z_endI (hret _ _ dX5_isOver_44) (b2i_0 (by simp [mOver, h_22])) rfl
    · skip
      refine z_aload_n C rfl dX5_isOver_25 ?_
      refine z_iload_n C rfl dX5_isOver_26 ?_
      refine z_callV (As := [.int (nI v)]) (r := (some (.int (nI (mMap μ v))))) (σ1 := (κ, μ, o)) (st := []) (st1 := [.int (nI (mMap μ v))]) C K ok_X5_76 (c_X5_mapped l D n0 κ μ o v (by omega)) enc_M (by decide) rfl rfl ⟨by decide, by decide⟩ ⟨Nat.zero_le _, Nat.zero_le _⟩ (by simp [Value.category]) dX5_isOver_27 rfl rfl ?_
      refine z_aload_n C rfl dX5_isOver_30 ?_
      refine gf_X5_20 C dX5_isOver_31 ?_
      refine z_iload_n C rfl dX5_isOver_34 ?_
      refine al_117 (v := μ 4 v) C (v) rfl (by omega) rfl dX5_isOver_35 ?_
      refine z_icmp_lt (tgt := 43) C dX5_isOver_36 (by decide) (fun h_36 => ?_) (fun h_36 => ?_)
      · skip
        refine z_iconst (v := 0) C (by decide +kernel) dX5_isOver_43 ?_
        exact z_endI (hret _ _ dX5_isOver_44) (b2i_0 (by simp [mOver, h_36])) rfl
      · skip
        refine z_iconst (v := 1) C (by decide +kernel) dX5_isOver_39 ?_
        refine z_goto (tgt := 44) C dX5_isOver_40 (by decide) ?_
        exact z_endI (hret _ _ dX5_isOver_44) (b2i_1 (by simp [mOver, h_12, h_22, h_36])) rfl
set_option maxHeartbeats 4000000 in
set_option maxRecDepth 100000 in
theorem c_X5_wordOf (l : Launch) (D : DD) (n0 : Nat) (κ μ : KH) (o : Int64) (v w : Nat) (hv : v < 16) (hw : w < 160) (hX : isX (μ 6 (40 * v + w / 4))) : HM l D n0 yX5_wordOf cX5_wordOf 4 (some .int) 1 22 [.ref (n0 + 113), .int (nI v), .int (nI w)] (κ, μ, o) (some (.int (mWord μ v w))) (κ, μ, o) := by
  refine HM.of (by decide) (by simp [Value.category]) (by simp) (Or.inr (Or.inl ⟨_, .int, rfl, rfl, rfl⟩)) ?_
  intro pp ee ss mm aa bb me cd Q C K hret
  show ZZ pp l ee (rmk 1 22) ss mm aa bb me cd D n0 127 4 0 0 Q _ 0 [some (.ref (n0 + 113)), some (.int (nI v)), some (.int (nI w)), none] []
  refine z_aload_n C rfl dX5_wordOf_0 ?_
  refine gf_X5_26 C dX5_wordOf_1 ?_
  refine z_iconst (v := 0) C (by decide +kernel) dX5_wordOf_4 ?_
  refine z_iload_n C rfl dX5_wordOf_5 ?_
  refine z_iload_n C rfl dX5_wordOf_6 ?_
  refine z_iconst (v := 4) C (by decide +kernel) dX5_wordOf_7 ?_
  refine z_idiv (v := nI (w / 4)) C (by decide +kernel) (cv_div (by omega) (by decide) (by decide)) dX5_wordOf_8 ?_
  refine z_callS (As := [.int 0, .int (nI v), .int (nI (w / 4))]) (r := (some (.int (nI (40 * v + (w / 4)))))) (σ1 := (κ, μ, o)) (st := [.ref (n0 + 119)]) (st1 := [.int (nI (40 * v + (w / 4))), .ref (n0 + 119)]) C K ok_X5_58 (c_X5_at0 l D n0 κ μ o v (w / 4)) rfl ⟨by decide, by decide⟩ ⟨Nat.zero_le _, Nat.zero_le _⟩ (by simp [Value.category]) dX5_wordOf_9 rfl rfl ?_
  rcases hX with hm | ⟨k, hk, hm⟩
  · skip
    refine al_119 (v := (-1)) C (40 * v + (w / 4)) rfl (by omega) hm dX5_wordOf_12 ?_
    refine z_istore_n (ls' := [some (.ref (n0 + 113)), some (.int (nI v)), some (.int (nI w)), some (.int ((-1)))]) C (by decide) rfl dX5_wordOf_13 ?_
    refine z_iload_n C rfl dX5_wordOf_14 ?_
    refine z_iconst (v := (-1)) C (by decide +kernel) dX5_wordOf_15 ?_
    refine z_icmp_eq (tgt := 34) C dX5_wordOf_16 (by decide) (fun h_16 => ?_) (fun h_16 => ?_)
    · skip
      refine z_aload_n C rfl dX5_wordOf_34 ?_
      refine gf_X5_17 C dX5_wordOf_35 ?_
      refine z_iload_n C rfl dX5_wordOf_38 ?_
      refine al_116 (v := μ 3 v) C (v) rfl (by omega) rfl dX5_wordOf_39 ?_
      refine z_if_eq (tgt := 52) C dX5_wordOf_40 (by decide) (fun h_40 => ?_) (fun h_40 => ?_)
      · skip
        refine z_iconst (v := 0) C (by decide +kernel) dX5_wordOf_52 ?_
        exact z_endI (hret _ _ dX5_wordOf_53) (by simp [mWord, hm, h_40]) rfl
      · skip
        refine z_aload_n C rfl dX5_wordOf_43 ?_
        refine gf_X5_39 C dX5_wordOf_44 ?_
        refine z_iload_n C rfl dX5_wordOf_47 ?_
        refine al_122 (v := μ 9 w) C (w) rfl (by omega) rfl dX5_wordOf_48 ?_
        refine z_goto (tgt := 53) C dX5_wordOf_49 (by decide) ?_
        exact z_endI (hret _ _ dX5_wordOf_53) (by simp [mWord, hm, h_40]) rfl
    · exact absurd h_16 (by decide +kernel)
  · skip
    refine al_119 (v := nI k) C (40 * v + (w / 4)) rfl (by omega) hm dX5_wordOf_12 ?_
    refine z_istore_n (ls' := [some (.ref (n0 + 113)), some (.int (nI v)), some (.int (nI w)), some (.int (nI k))]) C (by decide) rfl dX5_wordOf_13 ?_
    refine z_iload_n C rfl dX5_wordOf_14 ?_
    refine z_iconst (v := (-1)) C (by decide +kernel) dX5_wordOf_15 ?_
    refine z_icmp_eq (tgt := 34) C dX5_wordOf_16 (by decide) (fun h_16 => ?_) (fun h_16 => ?_)
    · exact absurd h_16 (nI_m1 (by omega))
    · skip
      refine z_aload_n C rfl dX5_wordOf_19 ?_
      refine gf_X5_36 C dX5_wordOf_20 ?_
      refine z_iconst (v := 4) C (by decide +kernel) dX5_wordOf_23 ?_
      refine z_iload_n C rfl dX5_wordOf_24 ?_
      refine z_imul (v := nI (4 * k)) C (cv_mul 4 k) dX5_wordOf_25 ?_
      refine z_iload_n C rfl dX5_wordOf_26 ?_
      refine z_iconst (v := 4) C (by decide +kernel) dX5_wordOf_27 ?_
      refine z_irem (v := nI (w % 4)) C (by decide +kernel) (cv_rem (by omega) (by decide) (by decide)) dX5_wordOf_28 ?_
      refine z_iadd (v := nI (4 * k + (w % 4))) C (cv_add (4 * k) (w % 4)) dX5_wordOf_29 ?_
      refine al_121 (v := μ 8 (4 * k + (w % 4))) C (4 * k + (w % 4)) rfl (by omega) rfl dX5_wordOf_30 ?_
      refine z_goto (tgt := 53) C dX5_wordOf_31 (by decide) ?_
      exact z_endI (hret _ _ dX5_wordOf_53) (by simp [mWord, hm, nI_m1 (show k < 2 ^ 31 by omega), nI_clamp (show k < 2 ^ 31 by omega)]) rfl
end
section
/-! the queue -/
def tn (x : Int32) : Nat := x.toNatClampNeg
theorem tn_nI {n : Nat} (h : n < 2 ^ 31) : tn (nI n) = n := nI_clamp h
def isN (x : Int32) (b : Nat) : Prop := x = nI (tn x) ∧ tn x < b
theorem isN_nI {n b : Nat} (h : n < b) (hb : b < 2 ^ 31) : isN (nI n) b := by
  unfold isN
  rw [tn_nI (by omega)]
  exact ⟨rfl, h⟩
def nE (μ : KH) : Nat := tn (μ 0 9)
def nQ (μ : KH) : Nat := tn (μ 0 23)
def anyTo (f : Nat → Bool) : Nat → Bool
  | 0 => false
  | n + 1 => anyTo f n || f n
def mW1 (μ : KH) (v p : Nat) (k : Nat) : Bool := decide (μ 10 k = nI v) && decide (μ 11 k / 4 = nI p)
def mWait (μ : KH) (n v p : Nat) : Bool := anyTo (mW1 μ v p) n
def mWIn (μ : KH) (n v a k : Nat) : Bool := anyTo (fun j => mWait μ n v (a + j)) k
def mEnq (μ : KH) (n : Nat) (v w x : Int32) : KH := up (up (up (up μ 10 n v) 11 n w) 12 n x) 0 23 (nI (n + 1))
def mSh (k j : Nat) (m : KH) : KH := up (up (up m 10 (k + j) (m 10 (k + j + 1))) 11 (k + j) (m 11 (k + j + 1))) 12 (k + j) (m 12 (k + j + 1))
theorem mSh_0 (k : Nat) (m : KH) (i : Nat) : ∀ j, iterK (mSh k) j m 0 i = m 0 i
  | 0 => rfl
  | j + 1 => by
    show mSh k j (iterK (mSh k) j m) 0 i = _
    rw [← mSh_0 k m i j]
    simp [mSh, up]
/-- the k-th of n + 1 goes -/
def mUnq (μ : KH) (n k : Nat) : KH := iterK (mSh k) (n - k) (up μ 0 23 (nI n))
/-! taking, and a write that is done -/
def nx (n e : Nat) : Nat := if e + 1 = n then 0 else e + 1
def fndE (μ : KH) (n : Nat) : Nat → Nat → Nat
  | 0, e => e
  | k + 1, e => if mFree μ (nI e) = true then e else fndE μ n k (nx n e)
def mTkE (μ : KH) : Nat := fndE μ (nE μ) (nE μ) (tn (μ 0 12))
def mCw1 (v p e w : Nat) (m : KH) : KH := up m 8 (4 * e + w) (mWord m v (4 * p + w))
def mCw (μ : KH) (v p e : Nat) : KH := iterK (mCw1 v p e) 4 μ
theorem mCw_6 (μ : KH) (v p e : Nat) {c : Nat} (hc : c ≠ 8) (i : Nat) : ∀ j, iterK (mCw1 v p e) j μ c i = μ c i
  | 0 => rfl
  | j + 1 => by
    show mCw1 v p e j (iterK (mCw1 v p e) j μ) c i = _
    rw [← mCw_6 μ v p e hc i j]
    simp [mCw1, up, hc]
def mTk3 (μ : KH) (v p e n : Nat) : KH := up (up (up (mCw μ v p e) 6 (40 * v + p) (nI e)) 0 12 (nI (nx n e))) 0 15 (μ 0 15 + 1)
def mTake (μ : KH) (v p : Nat) : KH := up (mTk3 μ v p (mTkE μ) (nE μ)) 0 14 (μ 0 14 + (if nI (mFM (mTk3 μ v p (mTkE μ) (nE μ)) (nE μ)) = μ 0 13 then 1 else 0))
def mPf1 (μ : KH) (v p : Nat) : KH := if mNeed μ v p = true then mTake μ v p else μ
def mPerf (μ : KH) (v w : Nat) (x : Int32) : KH := up (mPf1 μ v (w / 4)) 8 (4 * tn (mPf1 μ v (w / 4) 6 (40 * v + w / 4)) + w % 4) x
def mPerR (μ : KH) (v w : Nat) : Int32 := if mNeed μ v (w / 4) = false then 0 else if μ 6 (40 * v + w / 4) = -1 then 1 else 2
/-- what taking goes by -/
def mJ (μ : KH) : Prop := isN (μ 0 9) 97 ∧ 1 ≤ nE μ ∧ isN (μ 0 12) (nE μ) ∧ ∀ j, isX (μ 6 j)
theorem mFM_0 {μ : KH} : ∀ n, mFM μ n ≠ 0 → ∃ e, e < n ∧ mFree μ (nI e) = true
  | 0, h => absurd rfl h
  | n + 1, h => by
    by_cases h1 : mFree μ (nI n) = true
    · exact ⟨n, by omega, h1⟩
    · obtain ⟨e, he, hf⟩ := mFM_0 n (fun q => h (by show sumTo (mFr1 μ) (n + 1) = 0; rw [sumTo, show sumTo (mFr1 μ) n = 0 from q, mFr1, if_neg h1]))
      exact ⟨e, by omega, hf⟩
theorem fndE_lt {μ : KH} {n : Nat} (hn : 0 < n) : ∀ k e, e < n → fndE μ n k e < n
  | 0, e, h => h
  | k + 1, e, h => by
    rw [fndE]
    split
    · exact h
    · refine fndE_lt hn k _ ?_
      unfold nx
      split <;> omega
/-- within n steps around it comes to each -/
theorem fndE_free {μ : KH} {n : Nat} (e0 : Nat) (h0 : e0 < n) (hf : mFree μ (nI e0) = true) : ∀ k e, e < n → (e ≤ e0 ∧ e0 < e + k ∨ e0 < e ∧ e0 + n < e + k) → mFree μ (nI (fndE μ n k e)) = true
  | 0, e, h, hk => by omega
  | k + 1, e, h, hk => by
    rw [fndE]
    split
    · assumption
    · rename_i hne
      have hee : e ≠ e0 := fun q => hne (by rw [q]; exact hf)
      refine fndE_free e0 h0 hf k _ ?_ ?_
      · unfold nx; split <;> omega
      · unfold nx; split <;> omega
theorem mTkE_ok {μ : KH} (hJ : mJ μ) (hf : mFM μ (nE μ) ≠ 0) : mTkE μ < nE μ ∧ mFree μ (nI (mTkE μ)) = true := by
  obtain ⟨e0, h0, h1⟩ := mFM_0 _ hf
  have hc := hJ.2.2.1.2
  exact ⟨fndE_lt (by omega) _ _ hc, fndE_free e0 h0 h1 _ _ hc (by omega)⟩
/-- a write waits: done as long as they can be -/
def mDr : Nat → KH → KH
  | 0, x => up x 0 16 0
  | q + 1, x =>
    if mOver x (tn (x 10 0)) (tn (x 11 0) / 4) = true then mDr q (mUnq (up x 0 21 (x 0 21 + 1)) q 0)
    else if mNeed x (tn (x 10 0)) (tn (x 11 0) / 4) = true ∧ mFM x (nE x) = 0 then up x 0 16 (x 0 16)
    else mDr q (mUnq (mPerf x (tn (x 10 0)) (tn (x 11 0)) (x 12 0)) q 0)
def mDrain (μ : KH) : KH := if μ 0 16 = 1 then mDr (nQ μ) μ else up μ 0 16 (μ 0 16)
/-- the queue's entries are words of places -/
def mQok (μ : KH) : Prop := ∀ k, k < nQ μ → isN (μ 10 k) 16 ∧ isN (μ 11 k) 160
/-- the places a .. b of a volume of LIVE are not mapped any more -/
def mUm1 (v a j : Nat) (m : KH) : KH := up m 6 (40 * v + (a + j)) (-1)
def mUnm (μ : KH) (v a b : Nat) : KH := iterK (mUm1 v a) (b - a) μ
def mUmC (μ : KH) (v a b : Nat) : Nat := sumTo (fun j => mMp1 μ v (a + j)) (b - a)
theorem mUm_ix (v a : Nat) (μ : KH) (c i : Nat) (h : c ≠ 6 ∨ ∀ j, i ≠ 40 * v + (a + j) ∨ False) : True := trivial
theorem mUm_at (v a : Nat) (μ : KH) : ∀ (k j : Nat), k ≤ j → iterK (mUm1 v a) k μ 6 (40 * v + (a + j)) = μ 6 (40 * v + (a + j))
  | 0, _, _ => rfl
  | k + 1, j, h => by
    show mUm1 v a k (iterK (mUm1 v a) k μ) 6 (40 * v + (a + j)) = _
    rw [← mUm_at v a μ k j (by omega)]
    unfold mUm1
    exact up_ix (by omega)
theorem mTake_at (μ : KH) (v p : Nat) : mTake μ v p 6 (40 * v + p) = nI (mTkE μ) := by
  simp [mTake, mTk3, up]
theorem mPf1_at {μ : KH} {v p : Nat} (hJ : mJ μ) (hf : mNeed μ v p = true → mFM μ (nE μ) ≠ 0) : ∃ k : Nat, k < 96 ∧ mPf1 μ v p 6 (40 * v + p) = nI k := by
  unfold mPf1
  split
  · rename_i h
    have h1 := mTkE_ok hJ (hf h)
    have h2 : nE μ < 97 := hJ.1.2
    exact ⟨mTkE μ, by omega, mTake_at μ v p⟩
  · rename_i h
    rcases hJ.2.2.2 (40 * v + p) with h1 | ⟨k, hk, h1⟩
    · exact absurd (by simp [mNeed, h1]) h
    · exact ⟨k, hk, h1⟩
theorem mTake_y {μ X : KH} {v p : Nat} (hX : mTk3 μ v p (mTkE μ) (nE μ) = X) (h : nI (mFM X (nE μ)) = μ 0 13) : up X 0 14 (μ 0 14 + 1) = mTake μ v p := by
  subst hX; unfold mTake; rw [if_pos h]
theorem mTake_n {μ X : KH} {v p : Nat} (hX : mTk3 μ v p (mTkE μ) (nE μ) = X) (h : ¬ nI (mFM X (nE μ)) = μ 0 13) : up X 0 14 (μ 0 14 + 0) = mTake μ v p := by
  subst hX; unfold mTake; rw [if_neg h]
theorem st_m {κ μ μ' : KH} {o : Int64} (h : μ = μ') : ((κ, μ, o) : ST) = (κ, μ', o) := by rw [h]
theorem st_k {κ κ' μ : KH} {o : Int64} (h : κ = κ') : ((κ, μ, o) : ST) = (κ', μ, o) := by rw [h]
set_option maxHeartbeats 4000000 in
set_option maxRecDepth 100000 in
theorem c_X5_take (l : Launch) (D : DD) (n0 : Nat) (κ μ : KH) (o : Int64) (v q : Nat) (hv : v < 16) (hq : q < 40) (hJ : mJ μ) (hf : mFM μ (nE μ) ≠ 0) : HM l D n0 yX5_take cX5_take 5 none 4 90 [.ref (n0 + 113), .int (nI v), .int (nI q)] (κ, μ, o) none (κ, mTake μ v q, o) := by
  refine HM.of (by decide) (by simp [Value.category]) (by simp) (Or.inl ⟨rfl, rfl⟩) ?_
  intro pp ee ss mm aa bb me cd Q C K hret
  show ZZ pp l ee (rmk 4 90) ss mm aa bb me cd D n0 127 5 0 0 Q _ 0 [some (.ref (n0 + 113)), some (.int (nI v)), some (.int (nI q)), none, none] []
  obtain ⟨hJ1, hJ2, hJ3, hJ4⟩ := id hJ
  have hn : nE μ < 97 := hJ1.2
  have hcu : tn (μ 0 12) < nE μ := hJ3.2
  obtain ⟨hk, hfr⟩ := mTkE_ok hJ hf
  have hkv : mTkE μ < 96 := by omega
  refine z_aload_n C rfl dX5_take_0 ?_
  refine gf_X5_80 (v := nI (tn (μ 0 12))) C hJ3.1 dX5_take_1 ?_
  refine z_aload_n C rfl dX5_take_4 ?_
  refine gf_X5_32 (v := nI (nE μ)) C hJ1.1 dX5_take_5 ?_
  refine z_icmp_ge (tgt := 18) C dX5_take_8 (by decide) (fun h_8 => ?_) (fun h_8 => ?_)
  · have g_8 := cv_le (a := nE μ) (b := tn (μ 0 12)) (by omega) (by omega) h_8
    exact absurd g_8 (by omega)
  · have g_8 := cv_nle (a := nE μ) (b := tn (μ 0 12)) (by omega) (by omega) h_8
    refine z_aload_n C rfl dX5_take_11 ?_
    refine gf_X5_80 (v := nI (tn (μ 0 12))) C hJ3.1 dX5_take_12 ?_
    refine z_goto (tgt := 19) C dX5_take_15 (by decide) ?_
    refine z_istore_n (ls' := [some (.ref (n0 + 113)), some (.int (nI v)), some (.int (nI q)), some (.int (nI (tn (μ 0 12)))), none]) C (by decide) rfl dX5_take_19 ?_
    have hx_49 : ZZ pp l ee (rmk 4 90) ss mm aa bb me cd D n0 127 5 0 0 Q (κ, μ, o) 49 [some (.ref (n0 + 113)), some (.int (nI v)), some (.int (nI q)), some (.int (nI (mTkE μ))), none] [] := by
      refine z_iconst (v := 0) C (by decide +kernel) dX5_take_49 ?_
      refine z_istore (ls' := [some (.ref (n0 + 113)), some (.int (nI v)), some (.int (nI q)), some (.int (nI (mTkE μ))), some (.int 0)]) C (by decide) rfl dX5_take_50 ?_
      refine z_cast (σ1 := (κ, iterK (mCw1 v q (mTkE μ)) 0 μ, o)) (ls' := [some (.ref (n0 + 113)), some (.int (nI v)), some (.int (nI q)), some (.int (nI (mTkE μ))), some (.int (nI 0))]) (st' := []) (z_for (P := fun i => ZZ pp l ee (rmk 4 90) ss mm aa bb me cd D n0 127 5 0 0 Q (κ, iterK (mCw1 v q (mTkE μ)) i μ, o) 52 [some (.ref (n0 + 113)), some (.int (nI v)), some (.int (nI q)), some (.int (nI (mTkE μ))), some (.int (nI i))] []) (4) ?_ ?_ 0 (Nat.zero_le _)) rfl ⟨rfl, rfl, rfl, rfl, rfl, trivial⟩ rfl
      · skip
        refine z_iload C rfl dX5_take_52 ?_
        refine z_iconst (v := 4) C (by decide +kernel) dX5_take_54 ?_
        refine z_icmp_ge (tgt := 86) C dX5_take_55 (by decide) (fun h_55 => ?_) (fun h_55 => ?_)
        · have g_55 := cv_le (a := 4) (b := 4) (by omega) (by omega) h_55
          refine z_aload_n C rfl dX5_take_86 ?_
          refine gf_X5_26 C dX5_take_87 ?_
          refine z_iconst (v := 0) C (by decide +kernel) dX5_take_90 ?_
          refine z_iload_n C rfl dX5_take_91 ?_
          refine z_iload_n C rfl dX5_take_92 ?_
          refine z_callS (As := [.int 0, .int (nI v), .int (nI q)]) (r := (some (.int (nI (40 * v + q))))) (σ1 := (κ, iterK (mCw1 v q (mTkE μ)) 4 μ, o)) (st := [.ref (n0 + 119)]) (st1 := [.int (nI (40 * v + q)), .ref (n0 + 119)]) C K ok_X5_58 (c_X5_at0 l D n0 κ (iterK (mCw1 v q (mTkE μ)) 4 μ) o v q) rfl ⟨by decide, by decide⟩ ⟨Nat.zero_le _, Nat.zero_le _⟩ (by simp [Value.category]) dX5_take_93 rfl rfl ?_
          refine z_iload_n C rfl dX5_take_96 ?_
          refine as_119 (x := nI (mTkE μ)) C (40 * v + q) rfl (by omega) dX5_take_97 ?_
          refine z_aload_n C rfl dX5_take_98 ?_
          refine z_iload_n C rfl dX5_take_99 ?_
          refine z_iconst (v := 1) C (by decide +kernel) dX5_take_100 ?_
          refine z_iadd (v := nI (mTkE μ + 1)) C (cv_add (mTkE μ) 1) dX5_take_101 ?_
          refine z_aload_n C rfl dX5_take_102 ?_
          refine gf_X5_32 (v := nI (nE μ)) C ((show _ = iterK (mCw1 v q (mTkE μ)) 4 μ 0 9 by simp [up]).trans ((mCw_6 μ v q (mTkE μ) (by decide) 9 4).trans hJ1.1)) dX5_take_103 ?_
          refine z_icmp_ne (tgt := 113) C dX5_take_106 (by decide) (fun h_106 => ?_) (fun h_106 => ?_)
          · have g_106 := cv_ne (a := mTkE μ + 1) (b := nE μ) h_106
            refine z_iload_n C rfl dX5_take_113 ?_
            refine z_iconst (v := 1) C (by decide +kernel) dX5_take_114 ?_
            refine z_iadd (v := nI (mTkE μ + 1)) C (cv_add (mTkE μ) 1) dX5_take_115 ?_
            refine pf_X5_80 (x := nI (mTkE μ + 1)) C dX5_take_116 ?_
            refine z_aload_n C rfl dX5_take_119 ?_
            refine z_dup C rfl dX5_take_120 ?_
            refine gf_X5_86 (v := μ 0 15) C ((show _ = iterK (mCw1 v q (mTkE μ)) 4 μ 0 15 by simp [up]).trans (mCw_6 μ v q (mTkE μ) (by decide) 15 4)) dX5_take_121 ?_
            refine z_iconst (v := 1) C (by decide +kernel) dX5_take_124 ?_
            refine z_iadd (v := (μ 0 15) + 1) C rfl dX5_take_125 ?_
            refine pf_X5_86 (x := (μ 0 15) + 1) C dX5_take_126 ?_
            refine z_aload_n C rfl dX5_take_129 ?_
            refine z_dup C rfl dX5_take_130 ?_
            refine gf_X5_89 (v := μ 0 14) C ((show _ = iterK (mCw1 v q (mTkE μ)) 4 μ 0 14 by simp [up]).trans (mCw_6 μ v q (mTkE μ) (by decide) 14 4)) dX5_take_131 ?_
            refine z_aload_n C rfl dX5_take_134 ?_
            have hE9 : up (up (up (iterK (mCw1 v q (mTkE μ)) 4 μ) 6 (40 * v + q) (nI (mTkE μ))) 0 12 (nI (mTkE μ + 1))) 0 15 ((μ 0 15) + 1) 0 9 = nI (nE μ) := (show _ = iterK (mCw1 v q (mTkE μ)) 4 μ 0 9 by simp [up]).trans ((mCw_6 μ v q (mTkE μ) (by decide) 9 4).trans hJ1.1)
            have hfm := mFM_le (up (up (up (iterK (mCw1 v q (mTkE μ)) 4 μ) 6 (40 * v + q) (nI (mTkE μ))) 0 12 (nI (mTkE μ + 1))) 0 15 ((μ 0 15) + 1)) (nE μ)
            refine z_callV (As := []) (r := (some (.int (nI (mFM (up (up (up (iterK (mCw1 v q (mTkE μ)) 4 μ) 6 (40 * v + q) (nI (mTkE μ))) 0 12 (nI (mTkE μ + 1))) 0 15 ((μ 0 15) + 1)) (nE μ)))))) (σ1 := (κ, up (up (up (iterK (mCw1 v q (mTkE μ)) 4 μ) 6 (40 * v + q) (nI (mTkE μ))) 0 12 (nI (mTkE μ + 1))) 0 15 ((μ 0 15) + 1), o)) (st := [.int (μ 0 14), .ref (n0 + 113)]) (st1 := [.int (nI (mFM (up (up (up (iterK (mCw1 v q (mTkE μ)) 4 μ) 6 (40 * v + q) (nI (mTkE μ))) 0 12 (nI (mTkE μ + 1))) 0 15 ((μ 0 15) + 1)) (nE μ))), .int (μ 0 14), .ref (n0 + 113)]) C K ok_X5_92 (c_X5_freeMany l D n0 κ (up (up (up (iterK (mCw1 v q (mTkE μ)) 4 μ) 6 (40 * v + q) (nI (mTkE μ))) 0 12 (nI (mTkE μ + 1))) 0 15 ((μ 0 15) + 1)) o (nE μ) hE9 (by omega)) enc_M (by decide) rfl rfl ⟨by decide, by decide⟩ ⟨Nat.zero_le _, Nat.zero_le _⟩ (by simp [Value.category]) dX5_take_135 rfl rfl ?_
            refine z_aload_n C rfl dX5_take_138 ?_
            refine gf_X5_96 (v := μ 0 13) C ((show _ = iterK (mCw1 v q (mTkE μ)) 4 μ 0 13 by simp [up]).trans (mCw_6 μ v q (mTkE μ) (by decide) 13 4)) dX5_take_139 ?_
            refine z_icmp_ne (tgt := 149) C dX5_take_142 (by decide) (fun h_142 => ?_) (fun h_142 => ?_)
            · skip
              refine z_iconst (v := 0) C (by decide +kernel) dX5_take_149 ?_
              refine z_iadd (v := (μ 0 14) + 0) C rfl dX5_take_150 ?_
              refine pf_X5_89 (x := (μ 0 14) + 0) C dX5_take_151 ?_
              exact z_endV (hret _ _ dX5_take_154) (st_m (mTake_n (by simp [mTk3, mCw, nx, g_106, nI_0]) h_142))
            · skip
              refine z_iconst (v := 1) C (by decide +kernel) dX5_take_145 ?_
              refine z_goto (tgt := 150) C dX5_take_146 (by decide) ?_
              refine z_iadd (v := (μ 0 14) + 1) C rfl dX5_take_150 ?_
              refine pf_X5_89 (x := (μ 0 14) + 1) C dX5_take_151 ?_
              exact z_endV (hret _ _ dX5_take_154) (st_m (mTake_y (by simp [mTk3, mCw, nx, g_106, nI_0]) h_142))
          · have g_106 := cv_eq (a := mTkE μ + 1) (b := nE μ) (by omega) (by omega) h_106
            refine z_iconst (v := 0) C (by decide +kernel) dX5_take_109 ?_
            refine z_goto (tgt := 116) C dX5_take_110 (by decide) ?_
            refine pf_X5_80 (x := 0) C dX5_take_116 ?_
            refine z_aload_n C rfl dX5_take_119 ?_
            refine z_dup C rfl dX5_take_120 ?_
            refine gf_X5_86 (v := μ 0 15) C ((show _ = iterK (mCw1 v q (mTkE μ)) 4 μ 0 15 by simp [up]).trans (mCw_6 μ v q (mTkE μ) (by decide) 15 4)) dX5_take_121 ?_
            refine z_iconst (v := 1) C (by decide +kernel) dX5_take_124 ?_
            refine z_iadd (v := (μ 0 15) + 1) C rfl dX5_take_125 ?_
            refine pf_X5_86 (x := (μ 0 15) + 1) C dX5_take_126 ?_
            refine z_aload_n C rfl dX5_take_129 ?_
            refine z_dup C rfl dX5_take_130 ?_
            refine gf_X5_89 (v := μ 0 14) C ((show _ = iterK (mCw1 v q (mTkE μ)) 4 μ 0 14 by simp [up]).trans (mCw_6 μ v q (mTkE μ) (by decide) 14 4)) dX5_take_131 ?_
            refine z_aload_n C rfl dX5_take_134 ?_
            have hE9 : up (up (up (iterK (mCw1 v q (mTkE μ)) 4 μ) 6 (40 * v + q) (nI (mTkE μ))) 0 12 0) 0 15 ((μ 0 15) + 1) 0 9 = nI (nE μ) := (show _ = iterK (mCw1 v q (mTkE μ)) 4 μ 0 9 by simp [up]).trans ((mCw_6 μ v q (mTkE μ) (by decide) 9 4).trans hJ1.1)
            have hfm := mFM_le (up (up (up (iterK (mCw1 v q (mTkE μ)) 4 μ) 6 (40 * v + q) (nI (mTkE μ))) 0 12 0) 0 15 ((μ 0 15) + 1)) (nE μ)
            refine z_callV (As := []) (r := (some (.int (nI (mFM (up (up (up (iterK (mCw1 v q (mTkE μ)) 4 μ) 6 (40 * v + q) (nI (mTkE μ))) 0 12 0) 0 15 ((μ 0 15) + 1)) (nE μ)))))) (σ1 := (κ, up (up (up (iterK (mCw1 v q (mTkE μ)) 4 μ) 6 (40 * v + q) (nI (mTkE μ))) 0 12 0) 0 15 ((μ 0 15) + 1), o)) (st := [.int (μ 0 14), .ref (n0 + 113)]) (st1 := [.int (nI (mFM (up (up (up (iterK (mCw1 v q (mTkE μ)) 4 μ) 6 (40 * v + q) (nI (mTkE μ))) 0 12 0) 0 15 ((μ 0 15) + 1)) (nE μ))), .int (μ 0 14), .ref (n0 + 113)]) C K ok_X5_92 (c_X5_freeMany l D n0 κ (up (up (up (iterK (mCw1 v q (mTkE μ)) 4 μ) 6 (40 * v + q) (nI (mTkE μ))) 0 12 0) 0 15 ((μ 0 15) + 1)) o (nE μ) hE9 (by omega)) enc_M (by decide) rfl rfl ⟨by decide, by decide⟩ ⟨Nat.zero_le _, Nat.zero_le _⟩ (by simp [Value.category]) dX5_take_135 rfl rfl ?_
            refine z_aload_n C rfl dX5_take_138 ?_
            refine gf_X5_96 (v := μ 0 13) C ((show _ = iterK (mCw1 v q (mTkE μ)) 4 μ 0 13 by simp [up]).trans (mCw_6 μ v q (mTkE μ) (by decide) 13 4)) dX5_take_139 ?_
            refine z_icmp_ne (tgt := 149) C dX5_take_142 (by decide) (fun h_142 => ?_) (fun h_142 => ?_)
            · skip
              refine z_iconst (v := 0) C (by decide +kernel) dX5_take_149 ?_
              refine z_iadd (v := (μ 0 14) + 0) C rfl dX5_take_150 ?_
              refine pf_X5_89 (x := (μ 0 14) + 0) C dX5_take_151 ?_
              exact z_endV (hret _ _ dX5_take_154) (st_m (mTake_n (by simp [mTk3, mCw, nx, g_106, nI_0]) h_142))
            · skip
              refine z_iconst (v := 1) C (by decide +kernel) dX5_take_145 ?_
              refine z_goto (tgt := 150) C dX5_take_146 (by decide) ?_
              refine z_iadd (v := (μ 0 14) + 1) C rfl dX5_take_150 ?_
              refine pf_X5_89 (x := (μ 0 14) + 1) C dX5_take_151 ?_
              exact z_endV (hret _ _ dX5_take_154) (st_m (mTake_y (by simp [mTk3, mCw, nx, g_106, nI_0]) h_142))
        · have g_55 := cv_nle (a := 4) (b := 4) (by omega) (by omega) h_55
          exact absurd g_55 (by omega)
      · intro i hi_52 ih_52
        refine z_iload C rfl dX5_take_52 ?_
        refine z_iconst (v := 4) C (by decide +kernel) dX5_take_54 ?_
        refine z_icmp_ge (tgt := 86) C dX5_take_55 (by decide) (fun h_55 => ?_) (fun h_55 => ?_)
        · have g_55 := cv_le (a := 4) (b := i) (by omega) (by omega) h_55
          exact absurd hi_52 (by omega)
        · have g_55 := cv_nle (a := 4) (b := i) (by omega) (by omega) h_55
          refine z_aload_n C rfl dX5_take_58 ?_
          refine gf_X5_36 C dX5_take_59 ?_
          refine z_iconst (v := 4) C (by decide +kernel) dX5_take_62 ?_
          refine z_iload_n C rfl dX5_take_63 ?_
          refine z_imul (v := nI (4 * (mTkE μ))) C (cv_mul 4 (mTkE μ)) dX5_take_64 ?_
          refine z_iload C rfl dX5_take_65 ?_
          refine z_iadd (v := nI (4 * (mTkE μ) + i)) C (cv_add (4 * (mTkE μ)) i) dX5_take_67 ?_
          refine z_aload_n C rfl dX5_take_68 ?_
          refine z_iload_n C rfl dX5_take_69 ?_
          refine z_iconst (v := 4) C (by decide +kernel) dX5_take_70 ?_
          refine z_iload_n C rfl dX5_take_71 ?_
          refine z_imul (v := nI (4 * q)) C (cv_mul 4 q) dX5_take_72 ?_
          refine z_iload C rfl dX5_take_73 ?_
          refine z_iadd (v := nI (4 * q + i)) C (cv_add (4 * q) i) dX5_take_75 ?_
          refine z_callV (As := [.int (nI v), .int (nI (4 * q + i))]) (r := (some (.int (mWord (iterK (mCw1 v q (mTkE μ)) i μ) v (4 * q + i))))) (σ1 := (κ, iterK (mCw1 v q (mTkE μ)) i μ, o)) (st := [.int (nI (4 * (mTkE μ) + i)), .ref (n0 + 121)]) (st1 := [.int (mWord (iterK (mCw1 v q (mTkE μ)) i μ) v (4 * q + i)), .int (nI (4 * (mTkE μ) + i)), .ref (n0 + 121)]) C K ok_X5_83 (c_X5_wordOf l D n0 κ (iterK (mCw1 v q (mTkE μ)) i μ) o v (4 * q + i) hv (by omega) (by rw [mCw_6 μ v q (mTkE μ) (by decide)]; exact hJ4 _)) enc_M (by decide) rfl rfl ⟨by decide, by decide⟩ ⟨Nat.zero_le _, Nat.zero_le _⟩ (by simp [Value.category]) dX5_take_76 rfl rfl ?_
          refine as_121 (x := mWord (iterK (mCw1 v q (mTkE μ)) i μ) v (4 * q + i)) C (4 * (mTkE μ) + i) rfl (by omega) dX5_take_79 ?_
          refine z_iinc (v := nI (i + 1)) (ls' := [some (.ref (n0 + 113)), some (.int (nI v)), some (.int (nI q)), some (.int (nI (mTkE μ))), some (.int (nI (i + 1)))]) C rfl (cv_inc i 1) (by decide) rfl dX5_take_80 ?_
          refine z_goto (tgt := 52) C dX5_take_83 (by decide) ?_
          exact z_cast (σ1 := (κ, iterK (mCw1 v q (mTkE μ)) (i + 1) μ, o)) (ls' := [some (.ref (n0 + 113)), some (.int (nI v)), some (.int (nI q)), some (.int (nI (mTkE μ))), some (.int (nI (i + 1)))]) (st' := []) (ih_52) rfl ⟨rfl, rfl, rfl, rfl, rfl, trivial⟩ rfl
    have hl_20 : ∀ (k : Nat) (e : Nat), e < nE μ → mFree μ (nI (fndE μ (nE μ) k e)) = true → fndE μ (nE μ) k e = mTkE μ → ZZ pp l ee (rmk 4 90) ss mm aa bb me cd D n0 127 5 0 0 Q (κ, μ, o) 20 [some (.ref (n0 + 113)), some (.int (nI v)), some (.int (nI q)), some (.int (nI e)), none] [] := by
      intro k
      induction k with
      | zero =>
        intro e he hf2 hX
        refine z_aload_n C rfl dX5_take_20 ?_
        refine z_iload_n C rfl dX5_take_21 ?_
        refine z_callV (As := [.int (nI e)]) (r := (some (.int (b2i (mFree μ (nI e)))))) (σ1 := (κ, μ, o)) (st := []) (st1 := [.int (b2i (mFree μ (nI e)))]) C K ok_X5_66 (c_X5_isFree l D n0 κ μ o (nI e)) enc_M (by decide) rfl rfl ⟨by decide, by decide⟩ ⟨Nat.zero_le _, Nat.zero_le _⟩ (by simp [Value.category]) dX5_take_22 rfl rfl ?_
        refine z_if_ne (tgt := 49) C dX5_take_25 (by decide) (fun h_25 => ?_) (fun h_25 => ?_)
        · have g_25 := cv_b1 h_25
          exact z_cast hx_49 rfl ⟨rfl, rfl, rfl, (so_int (by rw [← hX]; rfl)), trivial⟩ rfl
        · have g_25 := cv_b0 h_25
          exact absurd hf2 (by simp [fndE, g_25])
      | succ k ih =>
        intro e he hf2 hX
        refine z_aload_n C rfl dX5_take_20 ?_
        refine z_iload_n C rfl dX5_take_21 ?_
        refine z_callV (As := [.int (nI e)]) (r := (some (.int (b2i (mFree μ (nI e)))))) (σ1 := (κ, μ, o)) (st := []) (st1 := [.int (b2i (mFree μ (nI e)))]) C K ok_X5_66 (c_X5_isFree l D n0 κ μ o (nI e)) enc_M (by decide) rfl rfl ⟨by decide, by decide⟩ ⟨Nat.zero_le _, Nat.zero_le _⟩ (by simp [Value.category]) dX5_take_22 rfl rfl ?_
        refine z_if_ne (tgt := 49) C dX5_take_25 (by decide) (fun h_25 => ?_) (fun h_25 => ?_)
        · have g_25 := cv_b1 h_25
          exact z_cast hx_49 rfl ⟨rfl, rfl, rfl, (so_int (by rw [← hX]; simp [fndE, g_25])), trivial⟩ rfl
        · have g_25 := cv_b0 h_25
          refine z_iload_n C rfl dX5_take_28 ?_
          refine z_iconst (v := 1) C (by decide +kernel) dX5_take_29 ?_
          refine z_iadd (v := nI (e + 1)) C (cv_add e 1) dX5_take_30 ?_
          refine z_aload_n C rfl dX5_take_31 ?_
          refine gf_X5_32 (v := nI (nE μ)) C hJ1.1 dX5_take_32 ?_
          refine z_icmp_ne (tgt := 42) C dX5_take_35 (by decide) (fun h_35 => ?_) (fun h_35 => ?_)
          · have g_35 := cv_ne (a := e + 1) (b := nE μ) h_35
            refine z_iload_n C rfl dX5_take_42 ?_
            refine z_iconst (v := 1) C (by decide +kernel) dX5_take_43 ?_
            refine z_iadd (v := nI (e + 1)) C (cv_add e 1) dX5_take_44 ?_
            refine z_istore_n (ls' := [some (.ref (n0 + 113)), some (.int (nI v)), some (.int (nI q)), some (.int (nI (e + 1))), none]) C (by decide) rfl dX5_take_45 ?_
            refine z_goto (tgt := 20) C dX5_take_46 (by decide) ?_
            exact z_cast (ih (nx (nE μ) e) (by unfold nx; split <;> omega) (by simpa [fndE, g_25] using hf2) (by simpa [fndE, g_25] using hX)) rfl ⟨rfl, rfl, rfl, (so_int (by simp [nx, g_35, nI_0])), trivial⟩ rfl
          · have g_35 := cv_eq (a := e + 1) (b := nE μ) (by omega) (by omega) h_35
            refine z_iconst (v := 0) C (by decide +kernel) dX5_take_38 ?_
            refine z_goto (tgt := 45) C dX5_take_39 (by decide) ?_
            refine z_istore_n (ls' := [some (.ref (n0 + 113)), some (.int (nI v)), some (.int (nI q)), some (.int 0), none]) C (by decide) rfl dX5_take_45 ?_
            refine z_goto (tgt := 20) C dX5_take_46 (by decide) ?_
            exact z_cast (ih (nx (nE μ) e) (by unfold nx; split <;> omega) (by simpa [fndE, g_25] using hf2) (by simpa [fndE, g_25] using hX)) rfl ⟨rfl, rfl, rfl, (so_int (by simp [nx, g_35, nI_0])), trivial⟩ rfl
    exact z_cast (hl_20 (nE μ) (tn (μ 0 12)) hcu hfr rfl) rfl ⟨rfl, rfl, rfl, rfl, trivial⟩ rfl
set_option maxHeartbeats 4000000 in
set_option maxRecDepth 100000 in
theorem c_X5_waits (l : Launch) (D : DD) (n0 : Nat) (κ μ : KH) (o : Int64) (n v q : Nat) (hQ : μ 0 23 = nI n) (hn : n ≤ 8) : HM l D n0 yX5_waits cX5_waits 5 (some .boolean) 0 0 [.ref (n0 + 113), .int (nI v), .int (nI q)] (κ, μ, o) (some (.int (b2i (mWait μ n v q)))) (κ, μ, o) := by
  refine HM.of (by decide) (by simp [Value.category]) (by simp) (Or.inr (Or.inl ⟨_, .boolean, rfl, rfl, (b2i_nar _)⟩)) ?_
  intro pp ee ss mm aa bb me cd Q C K hret
  show ZZ pp l ee (rmk 0 0) ss mm aa bb me cd D n0 127 5 0 0 Q _ 0 [some (.ref (n0 + 113)), some (.int (nI v)), some (.int (nI q)), none, none] []
  refine z_iconst (v := 0) C (by decide +kernel) dX5_waits_0 ?_
  refine z_istore_n (ls' := [some (.ref (n0 + 113)), some (.int (nI v)), some (.int (nI q)), some (.int 0), none]) C (by decide) rfl dX5_waits_1 ?_
  refine z_iconst (v := 0) C (by decide +kernel) dX5_waits_2 ?_
  refine z_istore (ls' := [some (.ref (n0 + 113)), some (.int (nI v)), some (.int (nI q)), some (.int 0), some (.int 0)]) C (by decide) rfl dX5_waits_3 ?_
  refine z_cast (σ1 := (κ, μ, o)) (ls' := [some (.ref (n0 + 113)), some (.int (nI v)), some (.int (nI q)), some (.int (b2i (anyTo (mW1 μ v q) 0))), some (.int (nI 0))]) (st' := []) (z_for (P := fun i => ZZ pp l ee (rmk 0 0) ss mm aa bb me cd D n0 127 5 0 0 Q (κ, μ, o) 5 [some (.ref (n0 + 113)), some (.int (nI v)), some (.int (nI q)), some (.int (b2i (anyTo (mW1 μ v q) i))), some (.int (nI i))] []) (n) ?_ ?_ 0 (Nat.zero_le _)) rfl ⟨rfl, rfl, rfl, (so_int rfl), rfl, trivial⟩ rfl
  · skip
    refine z_iload C rfl dX5_waits_5 ?_
    refine z_aload_n C rfl dX5_waits_7 ?_
    refine gf_X5_107 (v := nI n) C hQ dX5_waits_8 ?_
    refine z_icmp_ge (tgt := 54) C dX5_waits_11 (by decide) (fun h_11 => ?_) (fun h_11 => ?_)
    · have g_11 := cv_le (a := n) (b := n) (by omega) (by omega) h_11
      refine z_iload_n C rfl dX5_waits_54 ?_
      exact z_endI (hret _ _ dX5_waits_55) rfl rfl
    · have g_11 := cv_nle (a := n) (b := n) (by omega) (by omega) h_11
      exact absurd g_11 (by omega)
  · intro i hi_5 ih_5
    refine z_iload C rfl dX5_waits_5 ?_
    refine z_aload_n C rfl dX5_waits_7 ?_
    refine gf_X5_107 (v := nI n) C hQ dX5_waits_8 ?_
    refine z_icmp_ge (tgt := 54) C dX5_waits_11 (by decide) (fun h_11 => ?_) (fun h_11 => ?_)
    · have g_11 := cv_le (a := n) (b := i) (by omega) (by omega) h_11
      exact absurd hi_5 (by omega)
    · have g_11 := cv_nle (a := n) (b := i) (by omega) (by omega) h_11
      refine z_iload_n C rfl dX5_waits_14 ?_
      refine z_if_ne (tgt := 42) C dX5_waits_15 (by decide) (fun h_15 => ?_) (fun h_15 => ?_)
      · have g_15 := cv_b1 h_15
        refine z_iconst (v := 1) C (by decide +kernel) dX5_waits_42 ?_
        refine z_goto (tgt := 47) C dX5_waits_43 (by decide) ?_
        refine z_istore_n (ls' := [some (.ref (n0 + 113)), some (.int (nI v)), some (.int (nI q)), some (.int 1), some (.int (nI i))]) C (by decide) rfl dX5_waits_47 ?_
        refine z_iinc (v := nI (i + 1)) (ls' := [some (.ref (n0 + 113)), some (.int (nI v)), some (.int (nI q)), some (.int 1), some (.int (nI (i + 1)))]) C rfl (cv_inc i 1) (by decide) rfl dX5_waits_48 ?_
        refine z_goto (tgt := 5) C dX5_waits_51 (by decide) ?_
        exact z_cast (σ1 := (κ, μ, o)) (ls' := [some (.ref (n0 + 113)), some (.int (nI v)), some (.int (nI q)), some (.int (b2i (anyTo (mW1 μ v q) (i + 1)))), some (.int (nI (i + 1)))]) (st' := []) (ih_5) rfl ⟨rfl, rfl, rfl, (so_int (b2i_1 (by simp [anyTo, g_15]))), rfl, trivial⟩ rfl
      · have g_15 := cv_b0 h_15
        refine z_aload_n C rfl dX5_waits_18 ?_
        refine gf_X5_42 C dX5_waits_19 ?_
        refine z_iload C rfl dX5_waits_22 ?_
        refine al_123 (v := μ 10 i) C (i) rfl (by omega) rfl dX5_waits_24 ?_
        refine z_iload_n C rfl dX5_waits_25 ?_
        refine z_icmp_ne (tgt := 46) C dX5_waits_26 (by decide) (fun h_26 => ?_) (fun h_26 => ?_)
        · skip
          refine z_iconst (v := 0) C (by decide +kernel) dX5_waits_46 ?_
          refine z_istore_n (ls' := [some (.ref (n0 + 113)), some (.int (nI v)), some (.int (nI q)), some (.int 0), some (.int (nI i))]) C (by decide) rfl dX5_waits_47 ?_
          refine z_iinc (v := nI (i + 1)) (ls' := [some (.ref (n0 + 113)), some (.int (nI v)), some (.int (nI q)), some (.int 0), some (.int (nI (i + 1)))]) C rfl (cv_inc i 1) (by decide) rfl dX5_waits_48 ?_
          refine z_goto (tgt := 5) C dX5_waits_51 (by decide) ?_
          exact z_cast (σ1 := (κ, μ, o)) (ls' := [some (.ref (n0 + 113)), some (.int (nI v)), some (.int (nI q)), some (.int (b2i (anyTo (mW1 μ v q) (i + 1)))), some (.int (nI (i + 1)))]) (st' := []) (ih_5) rfl ⟨rfl, rfl, rfl, (so_int (b2i_0 (by simp [anyTo, g_15, mW1, h_26]))), rfl, trivial⟩ rfl
        · skip
          refine z_aload_n C rfl dX5_waits_29 ?_
          refine gf_X5_45 C dX5_waits_30 ?_
          refine z_iload C rfl dX5_waits_33 ?_
          refine al_124 (v := μ 11 i) C (i) rfl (by omega) rfl dX5_waits_35 ?_
          refine z_iconst (v := 4) C (by decide +kernel) dX5_waits_36 ?_
          refine z_idiv (v := (μ 11 i) / 4) C (by decide +kernel) rfl dX5_waits_37 ?_
          refine z_iload_n C rfl dX5_waits_38 ?_
          refine z_icmp_ne (tgt := 46) C dX5_waits_39 (by decide) (fun h_39 => ?_) (fun h_39 => ?_)
          · skip
            refine z_iconst (v := 0) C (by decide +kernel) dX5_waits_46 ?_
            refine z_istore_n (ls' := [some (.ref (n0 + 113)), some (.int (nI v)), some (.int (nI q)), some (.int 0), some (.int (nI i))]) C (by decide) rfl dX5_waits_47 ?_
            refine z_iinc (v := nI (i + 1)) (ls' := [some (.ref (n0 + 113)), some (.int (nI v)), some (.int (nI q)), some (.int 0), some (.int (nI (i + 1)))]) C rfl (cv_inc i 1) (by decide) rfl dX5_waits_48 ?_
            refine z_goto (tgt := 5) C dX5_waits_51 (by decide) ?_
            exact z_cast (σ1 := (κ, μ, o)) (ls' := [some (.ref (n0 + 113)), some (.int (nI v)), some (.int (nI q)), some (.int (b2i (anyTo (mW1 μ v q) (i + 1)))), some (.int (nI (i + 1)))]) (st' := []) (ih_5) rfl ⟨rfl, rfl, rfl, (so_int (b2i_0 (by simp [anyTo, g_15, mW1, h_39]))), rfl, trivial⟩ rfl
          · skip
            refine z_iconst (v := 1) C (by decide +kernel) dX5_waits_42 ?_
            refine z_goto (tgt := 47) C dX5_waits_43 (by decide) ?_
            refine z_istore_n (ls' := [some (.ref (n0 + 113)), some (.int (nI v)), some (.int (nI q)), some (.int 1), some (.int (nI i))]) C (by decide) rfl dX5_waits_47 ?_
            refine z_iinc (v := nI (i + 1)) (ls' := [some (.ref (n0 + 113)), some (.int (nI v)), some (.int (nI q)), some (.int 1), some (.int (nI (i + 1)))]) C rfl (cv_inc i 1) (by decide) rfl dX5_waits_48 ?_
            refine z_goto (tgt := 5) C dX5_waits_51 (by decide) ?_
            exact z_cast (σ1 := (κ, μ, o)) (ls' := [some (.ref (n0 + 113)), some (.int (nI v)), some (.int (nI q)), some (.int (b2i (anyTo (mW1 μ v q) (i + 1)))), some (.int (nI (i + 1)))]) (st' := []) (ih_5) rfl ⟨rfl, rfl, rfl, (so_int (b2i_1 (by simp [anyTo, g_15, mW1, h_26, h_39]))), rfl, trivial⟩ rfl
set_option maxHeartbeats 4000000 in
set_option maxRecDepth 100000 in
theorem c_X5_enqueue_n (l : Launch) (D : DD) (n0 : Nat) (κ μ : KH) (o : Int64) (v w x : Int32) (hQ : μ 0 23 = nI 8) : HM l D n0 yX5_enqueue cX5_enqueue 4 (some .int) 0 0 [.ref (n0 + 113), .int v, .int w, .int x] (κ, μ, o) (some (.int ((-1)))) (κ, μ, o) := by
  refine HM.of (by decide) (by simp [Value.category]) (by simp) (Or.inr (Or.inl ⟨_, .int, rfl, rfl, rfl⟩)) ?_
  intro pp ee ss mm aa bb me cd Q C K hret
  show ZZ pp l ee (rmk 0 0) ss mm aa bb me cd D n0 127 4 0 0 Q _ 0 [some (.ref (n0 + 113)), some (.int v), some (.int w), some (.int x)] []
  refine z_aload_n C rfl dX5_enqueue_0 ?_
  refine gf_X5_107 (v := 8) C hQ dX5_enqueue_1 ?_
  refine z_bipush (v := 8) C (by decide +kernel) dX5_enqueue_4 ?_
  refine z_icmp_ne (tgt := 11) C dX5_enqueue_6 (by decide) (fun h_6 => ?_) (fun h_6 => ?_)
  · exact absurd h_6 (by decide +kernel)
  · skip
    refine z_iconst (v := (-1)) C (by decide +kernel) dX5_enqueue_9 ?_
    exact z_endI (hret _ _ dX5_enqueue_10) rfl rfl
set_option maxHeartbeats 4000000 in
set_option maxRecDepth 100000 in
theorem c_X5_enqueue (l : Launch) (D : DD) (n0 : Nat) (κ μ : KH) (o : Int64) (n : Nat) (v w x : Int32) (hQ : μ 0 23 = nI n) (hn : n < 8) : HM l D n0 yX5_enqueue cX5_enqueue 4 (some .int) 0 0 [.ref (n0 + 113), .int v, .int w, .int x] (κ, μ, o) (some (.int 3)) (κ, mEnq μ n v w x, o) := by
  refine HM.of (by decide) (by simp [Value.category]) (by simp) (Or.inr (Or.inl ⟨_, .int, rfl, rfl, rfl⟩)) ?_
  intro pp ee ss mm aa bb me cd Q C K hret
  show ZZ pp l ee (rmk 0 0) ss mm aa bb me cd D n0 127 4 0 0 Q _ 0 [some (.ref (n0 + 113)), some (.int v), some (.int w), some (.int x)] []
  refine z_aload_n C rfl dX5_enqueue_0 ?_
  refine gf_X5_107 (v := nI n) C hQ dX5_enqueue_1 ?_
  refine z_bipush (v := 8) C (by decide +kernel) dX5_enqueue_4 ?_
  refine z_icmp_ne (tgt := 11) C dX5_enqueue_6 (by decide) (fun h_6 => ?_) (fun h_6 => ?_)
  · have g_6 := cv_ne (a := n) (b := 8) h_6
    refine z_aload_n C rfl dX5_enqueue_11 ?_
    refine gf_X5_42 C dX5_enqueue_12 ?_
    refine z_aload_n C rfl dX5_enqueue_15 ?_
    refine gf_X5_107 (v := nI n) C hQ dX5_enqueue_16 ?_
    refine z_iload_n C rfl dX5_enqueue_19 ?_
    refine as_123 (x := v) C (n) rfl (by omega) dX5_enqueue_20 ?_
    refine z_aload_n C rfl dX5_enqueue_21 ?_
    refine gf_X5_45 C dX5_enqueue_22 ?_
    refine z_aload_n C rfl dX5_enqueue_25 ?_
    refine gf_X5_107 (v := nI n) C ((show _ = μ 0 23 by simp [up]).trans hQ) dX5_enqueue_26 ?_
    refine z_iload_n C rfl dX5_enqueue_29 ?_
    refine as_124 (x := w) C (n) rfl (by omega) dX5_enqueue_30 ?_
    refine z_aload_n C rfl dX5_enqueue_31 ?_
    refine gf_X5_48 C dX5_enqueue_32 ?_
    refine z_aload_n C rfl dX5_enqueue_35 ?_
    refine gf_X5_107 (v := nI n) C ((show _ = μ 0 23 by simp [up]).trans hQ) dX5_enqueue_36 ?_
    refine z_iload_n C rfl dX5_enqueue_39 ?_
    refine as_125 (x := x) C (n) rfl (by omega) dX5_enqueue_40 ?_
    refine z_aload_n C rfl dX5_enqueue_41 ?_
    refine z_dup C rfl dX5_enqueue_42 ?_
    refine gf_X5_107 (v := nI n) C ((show _ = μ 0 23 by simp [up]).trans hQ) dX5_enqueue_43 ?_
    refine z_iconst (v := 1) C (by decide +kernel) dX5_enqueue_46 ?_
    refine z_iadd (v := nI (n + 1)) C (cv_add n 1) dX5_enqueue_47 ?_
    refine pf_X5_107 (x := nI (n + 1)) C dX5_enqueue_48 ?_
    refine z_iconst (v := 3) C (by decide +kernel) dX5_enqueue_51 ?_
    exact z_endI (hret _ _ dX5_enqueue_52) rfl rfl
  · have g_6 := cv_eq (a := n) (b := 8) (by omega) (by omega) h_6
    exact absurd g_6 (by omega)
set_option maxHeartbeats 4000000 in
set_option maxRecDepth 100000 in
theorem c_X5_unqueue (l : Launch) (D : DD) (n0 : Nat) (κ μ : KH) (o : Int64) (n k : Nat) (hQ : μ 0 23 = nI (n + 1)) (hn : n < 8) (hk : k ≤ n) : HM l D n0 yX5_unqueue cX5_unqueue 3 none 0 0 [.ref (n0 + 113), .int (nI k)] (κ, μ, o) none (κ, mUnq μ n k, o) := by
  refine HM.of (by decide) (by simp [Value.category]) (by simp) (Or.inl ⟨rfl, rfl⟩) ?_
  intro pp ee ss mm aa bb me cd Q C K hret
  show ZZ pp l ee (rmk 0 0) ss mm aa bb me cd D n0 127 3 0 0 Q _ 0 [some (.ref (n0 + 113)), some (.int (nI k)), none] []
  refine z_aload_n C rfl dX5_unqueue_0 ?_
  refine z_dup C rfl dX5_unqueue_1 ?_
  refine gf_X5_107 (v := nI (n + 1)) C hQ dX5_unqueue_2 ?_
  refine z_iconst (v := 1) C (by decide +kernel) dX5_unqueue_5 ?_
  refine z_isub (v := nI n) C (nI_pred n) dX5_unqueue_6 ?_
  refine pf_X5_107 (x := nI n) C dX5_unqueue_7 ?_
  refine z_iload_n C rfl dX5_unqueue_10 ?_
  refine z_istore_n (ls' := [some (.ref (n0 + 113)), some (.int (nI k)), some (.int (nI k))]) C (by decide) rfl dX5_unqueue_11 ?_
  refine z_cast (σ1 := (κ, iterK (mSh k) 0 (up μ 0 23 (nI n)), o)) (ls' := [some (.ref (n0 + 113)), some (.int (nI k)), some (.int (nI (k + 0)))]) (st' := []) (z_for (P := fun j => ZZ pp l ee (rmk 0 0) ss mm aa bb me cd D n0 127 3 0 0 Q (κ, iterK (mSh k) j (up μ 0 23 (nI n)), o) 12 [some (.ref (n0 + 113)), some (.int (nI k)), some (.int (nI (k + j)))] []) (n - k) ?_ ?_ 0 (Nat.zero_le _)) rfl ⟨rfl, rfl, (so_int rfl), trivial⟩ rfl
  · skip
    refine z_iload_n C rfl dX5_unqueue_12 ?_
    refine z_aload_n C rfl dX5_unqueue_13 ?_
    refine gf_X5_107 (v := nI n) C ((mSh_0 k _ 23 _).trans up_self) dX5_unqueue_14 ?_
    refine z_icmp_ge (tgt := 68) C dX5_unqueue_17 (by decide) (fun h_17 => ?_) (fun h_17 => ?_)
    · have g_17 := cv_le (a := n) (b := k + (n - k)) (by omega) (by omega) h_17
      exact z_endV (hret _ _ dX5_unqueue_68) rfl
    · have g_17 := cv_nle (a := n) (b := k + (n - k)) (by omega) (by omega) h_17
      exact absurd g_17 (by omega)
  · intro j hi_12 ih_12
    refine z_iload_n C rfl dX5_unqueue_12 ?_
    refine z_aload_n C rfl dX5_unqueue_13 ?_
    refine gf_X5_107 (v := nI n) C ((mSh_0 k _ 23 _).trans up_self) dX5_unqueue_14 ?_
    refine z_icmp_ge (tgt := 68) C dX5_unqueue_17 (by decide) (fun h_17 => ?_) (fun h_17 => ?_)
    · have g_17 := cv_le (a := n) (b := k + j) (by omega) (by omega) h_17
      exact absurd hi_12 (by omega)
    · have g_17 := cv_nle (a := n) (b := k + j) (by omega) (by omega) h_17
      refine z_aload_n C rfl dX5_unqueue_20 ?_
      refine gf_X5_42 C dX5_unqueue_21 ?_
      refine z_iload_n C rfl dX5_unqueue_24 ?_
      refine z_aload_n C rfl dX5_unqueue_25 ?_
      refine gf_X5_42 C dX5_unqueue_26 ?_
      refine z_iload_n C rfl dX5_unqueue_29 ?_
      refine z_iconst (v := 1) C (by decide +kernel) dX5_unqueue_30 ?_
      refine z_iadd (v := nI (k + j + 1)) C (cv_add (k + j) 1) dX5_unqueue_31 ?_
      refine al_123 (v := iterK (mSh k) j (up μ 0 23 (nI n)) 10 (k + j + 1)) C (k + j + 1) rfl (by omega) rfl dX5_unqueue_32 ?_
      refine as_123 (x := iterK (mSh k) j (up μ 0 23 (nI n)) 10 (k + j + 1)) C (k + j) rfl (by omega) dX5_unqueue_33 ?_
      refine z_aload_n C rfl dX5_unqueue_34 ?_
      refine gf_X5_45 C dX5_unqueue_35 ?_
      refine z_iload_n C rfl dX5_unqueue_38 ?_
      refine z_aload_n C rfl dX5_unqueue_39 ?_
      refine gf_X5_45 C dX5_unqueue_40 ?_
      refine z_iload_n C rfl dX5_unqueue_43 ?_
      refine z_iconst (v := 1) C (by decide +kernel) dX5_unqueue_44 ?_
      refine z_iadd (v := nI (k + j + 1)) C (cv_add (k + j) 1) dX5_unqueue_45 ?_
      refine al_124 (v := iterK (mSh k) j (up μ 0 23 (nI n)) 11 (k + j + 1)) C (k + j + 1) rfl (by omega) (show _ = iterK (mSh k) j (up μ 0 23 (nI n)) 11 (k + j + 1) by simp [up]) dX5_unqueue_46 ?_
      refine as_124 (x := iterK (mSh k) j (up μ 0 23 (nI n)) 11 (k + j + 1)) C (k + j) rfl (by omega) dX5_unqueue_47 ?_
      refine z_aload_n C rfl dX5_unqueue_48 ?_
      refine gf_X5_48 C dX5_unqueue_49 ?_
      refine z_iload_n C rfl dX5_unqueue_52 ?_
      refine z_aload_n C rfl dX5_unqueue_53 ?_
      refine gf_X5_48 C dX5_unqueue_54 ?_
      refine z_iload_n C rfl dX5_unqueue_57 ?_
      refine z_iconst (v := 1) C (by decide +kernel) dX5_unqueue_58 ?_
      refine z_iadd (v := nI (k + j + 1)) C (cv_add (k + j) 1) dX5_unqueue_59 ?_
      refine al_125 (v := iterK (mSh k) j (up μ 0 23 (nI n)) 12 (k + j + 1)) C (k + j + 1) rfl (by omega) (show _ = iterK (mSh k) j (up μ 0 23 (nI n)) 12 (k + j + 1) by simp [up]) dX5_unqueue_60 ?_
      refine as_125 (x := iterK (mSh k) j (up μ 0 23 (nI n)) 12 (k + j + 1)) C (k + j) rfl (by omega) dX5_unqueue_61 ?_
      refine z_iinc (v := nI (k + j + 1)) (ls' := [some (.ref (n0 + 113)), some (.int (nI k)), some (.int (nI (k + j + 1)))]) C rfl (cv_inc (k + j) 1) (by decide) rfl dX5_unqueue_62 ?_
      refine z_goto (tgt := 12) C dX5_unqueue_65 (by decide) ?_
      exact z_cast (σ1 := (κ, iterK (mSh k) (j + 1) (up μ 0 23 (nI n)), o)) (ls' := [some (.ref (n0 + 113)), some (.int (nI k)), some (.int (nI (k + (j + 1))))]) (st' := []) (ih_12) rfl ⟨rfl, rfl, (so_int rfl), trivial⟩ rfl
set_option maxHeartbeats 4000000 in
set_option maxRecDepth 100000 in
theorem c_X5_waitsIn (l : Launch) (D : DD) (n0 : Nat) (κ μ : KH) (o : Int64) (n v a b : Nat) (hQ : μ 0 23 = nI n) (hn : n ≤ 8) (ha : a ≤ b) (hb : b ≤ 40) : HM l D n0 yX5_waitsIn cX5_waitsIn 6 (some .boolean) 1 24 [.ref (n0 + 113), .int (nI v), .int (nI a), .int (nI b)] (κ, μ, o) (some (.int (b2i (mWIn μ n v a (b - a))))) (κ, μ, o) := by
  refine HM.of (by decide) (by simp [Value.category]) (by simp) (Or.inr (Or.inl ⟨_, .boolean, rfl, rfl, (b2i_nar _)⟩)) ?_
  intro pp ee ss mm aa bb me cd Q C K hret
  show ZZ pp l ee (rmk 1 24) ss mm aa bb me cd D n0 127 6 0 0 Q _ 0 [some (.ref (n0 + 113)), some (.int (nI v)), some (.int (nI a)), some (.int (nI b)), none, none] []
  refine z_iconst (v := 0) C (by decide +kernel) dX5_waitsIn_0 ?_
  refine z_istore (ls' := [some (.ref (n0 + 113)), some (.int (nI v)), some (.int (nI a)), some (.int (nI b)), some (.int 0), none]) C (by decide) rfl dX5_waitsIn_1 ?_
  refine z_iload_n C rfl dX5_waitsIn_3 ?_
  refine z_istore (ls' := [some (.ref (n0 + 113)), some (.int (nI v)), some (.int (nI a)), some (.int (nI b)), some (.int 0), some (.int (nI a))]) C (by decide) rfl dX5_waitsIn_4 ?_
  refine z_cast (σ1 := (κ, μ, o)) (ls' := [some (.ref (n0 + 113)), some (.int (nI v)), some (.int (nI a)), some (.int (nI b)), some (.int (b2i (anyTo (fun j => mWait μ n v (a + j)) 0))), some (.int (nI (a + 0)))]) (st' := []) (z_for (P := fun i => ZZ pp l ee (rmk 1 24) ss mm aa bb me cd D n0 127 6 0 0 Q (κ, μ, o) 6 [some (.ref (n0 + 113)), some (.int (nI v)), some (.int (nI a)), some (.int (nI b)), some (.int (b2i (anyTo (fun j => mWait μ n v (a + j)) i))), some (.int (nI (a + i)))] []) (b - a) ?_ ?_ 0 (Nat.zero_le _)) rfl ⟨rfl, rfl, rfl, rfl, (so_int rfl), (so_int rfl), trivial⟩ rfl
  · skip
    refine z_iload C rfl dX5_waitsIn_6 ?_
    refine z_iload_n C rfl dX5_waitsIn_8 ?_
    refine z_icmp_ge (tgt := 40) C dX5_waitsIn_9 (by decide) (fun h_9 => ?_) (fun h_9 => ?_)
    · have g_9 := cv_le (a := b) (b := a + (b - a)) (by omega) (by omega) h_9
      refine z_iload C rfl dX5_waitsIn_40 ?_
      exact z_endI (hret _ _ dX5_waitsIn_42) rfl rfl
    · have g_9 := cv_nle (a := b) (b := a + (b - a)) (by omega) (by omega) h_9
      exact absurd g_9 (by omega)
  · intro i hi_6 ih_6
    refine z_iload C rfl dX5_waitsIn_6 ?_
    refine z_iload_n C rfl dX5_waitsIn_8 ?_
    refine z_icmp_ge (tgt := 40) C dX5_waitsIn_9 (by decide) (fun h_9 => ?_) (fun h_9 => ?_)
    · have g_9 := cv_le (a := b) (b := a + i) (by omega) (by omega) h_9
      exact absurd hi_6 (by omega)
    · have g_9 := cv_nle (a := b) (b := a + i) (by omega) (by omega) h_9
      refine z_iload C rfl dX5_waitsIn_12 ?_
      refine z_if_ne (tgt := 27) C dX5_waitsIn_14 (by decide) (fun h_14 => ?_) (fun h_14 => ?_)
      · have g_14 := cv_b1 h_14
        refine z_iconst (v := 1) C (by decide +kernel) dX5_waitsIn_27 ?_
        refine z_goto (tgt := 32) C dX5_waitsIn_28 (by decide) ?_
        refine z_istore (ls' := [some (.ref (n0 + 113)), some (.int (nI v)), some (.int (nI a)), some (.int (nI b)), some (.int 1), some (.int (nI (a + i)))]) C (by decide) rfl dX5_waitsIn_32 ?_
        refine z_iinc (v := nI (a + i + 1)) (ls' := [some (.ref (n0 + 113)), some (.int (nI v)), some (.int (nI a)), some (.int (nI b)), some (.int 1), some (.int (nI (a + i + 1)))]) C rfl (cv_inc (a + i) 1) (by decide) rfl dX5_waitsIn_34 ?_
        refine z_goto (tgt := 6) C dX5_waitsIn_37 (by decide) ?_
        exact z_cast (σ1 := (κ, μ, o)) (ls' := [some (.ref (n0 + 113)), some (.int (nI v)), some (.int (nI a)), some (.int (nI b)), some (.int (b2i (anyTo (fun j => mWait μ n v (a + j)) (i + 1)))), some (.int (nI (a + (i + 1))))]) (st' := []) (ih_6) rfl ⟨rfl, rfl, rfl, rfl, (so_int (b2i_1 (by simp [anyTo, g_14]))), (so_int rfl), trivial⟩ rfl
      · have g_14 := cv_b0 h_14
        refine z_aload_n C rfl dX5_waitsIn_17 ?_
        refine z_iload_n C rfl dX5_waitsIn_18 ?_
        refine z_iload C rfl dX5_waitsIn_19 ?_
        refine z_callV (As := [.int (nI v), .int (nI (a + i))]) (r := (some (.int (b2i (mWait μ n v (a + i)))))) (σ1 := (κ, μ, o)) (st := []) (st1 := [.int (b2i (mWait μ n v (a + i)))]) C K ok_X5_129 (c_X5_waits l D n0 κ μ o n v (a + i) hQ hn) enc_M (by decide) rfl rfl ⟨by decide, by decide⟩ ⟨Nat.zero_le _, Nat.zero_le _⟩ (by simp [Value.category]) dX5_waitsIn_21 rfl rfl ?_
        refine z_if_eq (tgt := 31) C dX5_waitsIn_24 (by decide) (fun h_24 => ?_) (fun h_24 => ?_)
        · have g_24 := cv_b0 h_24
          refine z_iconst (v := 0) C (by decide +kernel) dX5_waitsIn_31 ?_
          refine z_istore (ls' := [some (.ref (n0 + 113)), some (.int (nI v)), some (.int (nI a)), some (.int (nI b)), some (.int 0), some (.int (nI (a + i)))]) C (by decide) rfl dX5_waitsIn_32 ?_
          refine z_iinc (v := nI (a + i + 1)) (ls' := [some (.ref (n0 + 113)), some (.int (nI v)), some (.int (nI a)), some (.int (nI b)), some (.int 0), some (.int (nI (a + i + 1)))]) C rfl (cv_inc (a + i) 1) (by decide) rfl dX5_waitsIn_34 ?_
          refine z_goto (tgt := 6) C dX5_waitsIn_37 (by decide) ?_
          exact z_cast (σ1 := (κ, μ, o)) (ls' := [some (.ref (n0 + 113)), some (.int (nI v)), some (.int (nI a)), some (.int (nI b)), some (.int (b2i (anyTo (fun j => mWait μ n v (a + j)) (i + 1)))), some (.int (nI (a + (i + 1))))]) (st' := []) (ih_6) rfl ⟨rfl, rfl, rfl, rfl, (so_int (b2i_0 (by simp [anyTo, g_14, g_24]))), (so_int rfl), trivial⟩ rfl
        · have g_24 := cv_b1 h_24
          refine z_iconst (v := 1) C (by decide +kernel) dX5_waitsIn_27 ?_
          refine z_goto (tgt := 32) C dX5_waitsIn_28 (by decide) ?_
          refine z_istore (ls' := [some (.ref (n0 + 113)), some (.int (nI v)), some (.int (nI a)), some (.int (nI b)), some (.int 1), some (.int (nI (a + i)))]) C (by decide) rfl dX5_waitsIn_32 ?_
          refine z_iinc (v := nI (a + i + 1)) (ls' := [some (.ref (n0 + 113)), some (.int (nI v)), some (.int (nI a)), some (.int (nI b)), some (.int 1), some (.int (nI (a + i + 1)))]) C rfl (cv_inc (a + i) 1) (by decide) rfl dX5_waitsIn_34 ?_
          refine z_goto (tgt := 6) C dX5_waitsIn_37 (by decide) ?_
          exact z_cast (σ1 := (κ, μ, o)) (ls' := [some (.ref (n0 + 113)), some (.int (nI v)), some (.int (nI a)), some (.int (nI b)), some (.int (b2i (anyTo (fun j => mWait μ n v (a + j)) (i + 1)))), some (.int (nI (a + (i + 1))))]) (st' := []) (ih_6) rfl ⟨rfl, rfl, rfl, rfl, (so_int (b2i_1 (by simp [anyTo, g_24]))), (so_int rfl), trivial⟩ rfl
set_option maxHeartbeats 4000000 in
set_option maxRecDepth 100000 in
theorem c_X5_unmap (l : Launch) (D : DD) (n0 : Nat) (κ μ : KH) (o : Int64) (v a b : Nat) (hv : v < 16) (ha : a ≤ b) (hb : b ≤ 40) : HM l D n0 yX5_unmap cX5_unmap 6 (some .int) 1 22 [.ref (n0 + 113), .int (nI v), .int (nI a), .int (nI b)] (κ, μ, o) (some (.int (nI (mUmC μ v a b)))) (κ, mUnm μ v a b, o) := by
  refine HM.of (by decide) (by simp [Value.category]) (by simp) (Or.inr (Or.inl ⟨_, .int, rfl, rfl, rfl⟩)) ?_
  intro pp ee ss mm aa bb me cd Q C K hret
  show ZZ pp l ee (rmk 1 22) ss mm aa bb me cd D n0 127 6 0 0 Q _ 0 [some (.ref (n0 + 113)), some (.int (nI v)), some (.int (nI a)), some (.int (nI b)), none, none] []
  refine z_iconst (v := 0) C (by decide +kernel) dX5_unmap_0 ?_
  refine z_istore (ls' := [some (.ref (n0 + 113)), some (.int (nI v)), some (.int (nI a)), some (.int (nI b)), some (.int 0), none]) C (by decide) rfl dX5_unmap_1 ?_
  refine z_iload_n C rfl dX5_unmap_3 ?_
  refine z_istore (ls' := [some (.ref (n0 + 113)), some (.int (nI v)), some (.int (nI a)), some (.int (nI b)), some (.int 0), some (.int (nI a))]) C (by decide) rfl dX5_unmap_4 ?_
  refine z_cast (σ1 := (κ, iterK (mUm1 v a) 0 μ, o)) (ls' := [some (.ref (n0 + 113)), some (.int (nI v)), some (.int (nI a)), some (.int (nI b)), some (.int (nI (sumTo (fun j => mMp1 μ v (a + j)) 0))), some (.int (nI (a + 0)))]) (st' := []) (z_for (P := fun i => ZZ pp l ee (rmk 1 22) ss mm aa bb me cd D n0 127 6 0 0 Q (κ, iterK (mUm1 v a) i μ, o) 6 [some (.ref (n0 + 113)), some (.int (nI v)), some (.int (nI a)), some (.int (nI b)), some (.int (nI (sumTo (fun j => mMp1 μ v (a + j)) i))), some (.int (nI (a + i)))] []) (b - a) ?_ ?_ 0 (Nat.zero_le _)) rfl ⟨rfl, rfl, rfl, rfl, (so_int rfl), (so_int rfl), trivial⟩ rfl
  · skip
    refine z_iload C rfl dX5_unmap_6 ?_
    refine z_iload_n C rfl dX5_unmap_8 ?_
    refine z_icmp_ge (tgt := 57) C dX5_unmap_9 (by decide) (fun h_9 => ?_) (fun h_9 => ?_)
    · have g_9 := cv_le (a := b) (b := a + (b - a)) (by omega) (by omega) h_9
      refine z_iload C rfl dX5_unmap_57 ?_
      exact z_endI (hret _ _ dX5_unmap_59) rfl rfl
    · have g_9 := cv_nle (a := b) (b := a + (b - a)) (by omega) (by omega) h_9
      exact absurd g_9 (by omega)
  · intro i hi_6 ih_6
    refine z_iload C rfl dX5_unmap_6 ?_
    refine z_iload_n C rfl dX5_unmap_8 ?_
    refine z_icmp_ge (tgt := 57) C dX5_unmap_9 (by decide) (fun h_9 => ?_) (fun h_9 => ?_)
    · have g_9 := cv_le (a := b) (b := a + i) (by omega) (by omega) h_9
      exact absurd hi_6 (by omega)
    · have g_9 := cv_nle (a := b) (b := a + i) (by omega) (by omega) h_9
      refine z_iload C rfl dX5_unmap_12 ?_
      refine z_aload_n C rfl dX5_unmap_14 ?_
      refine gf_X5_26 C dX5_unmap_15 ?_
      refine z_iconst (v := 0) C (by decide +kernel) dX5_unmap_18 ?_
      refine z_iload_n C rfl dX5_unmap_19 ?_
      refine z_iload C rfl dX5_unmap_20 ?_
      refine z_callS (As := [.int 0, .int (nI v), .int (nI (a + i))]) (r := (some (.int (nI (40 * v + (a + i)))))) (σ1 := (κ, iterK (mUm1 v a) i μ, o)) (st := [.ref (n0 + 119), .int (nI (sumTo (fun j => mMp1 μ v (a + j)) i))]) (st1 := [.int (nI (40 * v + (a + i))), .ref (n0 + 119), .int (nI (sumTo (fun j => mMp1 μ v (a + j)) i))]) C K ok_X5_58 (c_X5_at0 l D n0 κ (iterK (mUm1 v a) i μ) o v (a + i)) rfl ⟨by decide, by decide⟩ ⟨Nat.zero_le _, Nat.zero_le _⟩ (by simp [Value.category]) dX5_unmap_22 rfl rfl ?_
      refine al_119 (v := μ 6 (40 * v + (a + i))) C (40 * v + (a + i)) rfl (by omega) (mUm_at v a μ i i (Nat.le_refl _)) dX5_unmap_25 ?_
      refine z_iconst (v := (-1)) C (by decide +kernel) dX5_unmap_26 ?_
      refine z_icmp_eq (tgt := 34) C dX5_unmap_27 (by decide) (fun h_27 => ?_) (fun h_27 => ?_)
      · skip
        refine z_iconst (v := 0) C (by decide +kernel) dX5_unmap_34 ?_
        refine z_iadd (v := nI (sumTo (fun j => mMp1 μ v (a + j)) i + 0)) C (cv_add (sumTo (fun j => mMp1 μ v (a + j)) i) 0) dX5_unmap_35 ?_
        refine z_istore (ls' := [some (.ref (n0 + 113)), some (.int (nI v)), some (.int (nI a)), some (.int (nI b)), some (.int (nI (sumTo (fun j => mMp1 μ v (a + j)) i + 0))), some (.int (nI (a + i)))]) C (by decide) rfl dX5_unmap_36 ?_
        refine z_aload_n C rfl dX5_unmap_38 ?_
        refine gf_X5_26 C dX5_unmap_39 ?_
        refine z_iconst (v := 0) C (by decide +kernel) dX5_unmap_42 ?_
        refine z_iload_n C rfl dX5_unmap_43 ?_
        refine z_iload C rfl dX5_unmap_44 ?_
        refine z_callS (As := [.int 0, .int (nI v), .int (nI (a + i))]) (r := (some (.int (nI (40 * v + (a + i)))))) (σ1 := (κ, iterK (mUm1 v a) i μ, o)) (st := [.ref (n0 + 119)]) (st1 := [.int (nI (40 * v + (a + i))), .ref (n0 + 119)]) C K ok_X5_58 (c_X5_at0 l D n0 κ (iterK (mUm1 v a) i μ) o v (a + i)) rfl ⟨by decide, by decide⟩ ⟨Nat.zero_le _, Nat.zero_le _⟩ (by simp [Value.category]) dX5_unmap_46 rfl rfl ?_
        refine z_iconst (v := (-1)) C (by decide +kernel) dX5_unmap_49 ?_
        refine as_119 (x := (-1)) C (40 * v + (a + i)) rfl (by omega) dX5_unmap_50 ?_
        refine z_iinc (v := nI (a + i + 1)) (ls' := [some (.ref (n0 + 113)), some (.int (nI v)), some (.int (nI a)), some (.int (nI b)), some (.int (nI (sumTo (fun j => mMp1 μ v (a + j)) i + 0))), some (.int (nI (a + i + 1)))]) C rfl (cv_inc (a + i) 1) (by decide) rfl dX5_unmap_51 ?_
        refine z_goto (tgt := 6) C dX5_unmap_54 (by decide) ?_
        exact z_cast (σ1 := (κ, iterK (mUm1 v a) (i + 1) μ, o)) (ls' := [some (.ref (n0 + 113)), some (.int (nI v)), some (.int (nI a)), some (.int (nI b)), some (.int (nI (sumTo (fun j => mMp1 μ v (a + j)) (i + 1)))), some (.int (nI (a + (i + 1))))]) (st' := []) (ih_6) rfl ⟨rfl, rfl, rfl, rfl, (so_int (by simp [sumTo, mMp1, h_27])), (so_int rfl), trivial⟩ rfl
      · skip
        refine z_iconst (v := 1) C (by decide +kernel) dX5_unmap_30 ?_
        refine z_goto (tgt := 35) C dX5_unmap_31 (by decide) ?_
        refine z_iadd (v := nI (sumTo (fun j => mMp1 μ v (a + j)) i + 1)) C (cv_add (sumTo (fun j => mMp1 μ v (a + j)) i) 1) dX5_unmap_35 ?_
        refine z_istore (ls' := [some (.ref (n0 + 113)), some (.int (nI v)), some (.int (nI a)), some (.int (nI b)), some (.int (nI (sumTo (fun j => mMp1 μ v (a + j)) i + 1))), some (.int (nI (a + i)))]) C (by decide) rfl dX5_unmap_36 ?_
        refine z_aload_n C rfl dX5_unmap_38 ?_
        refine gf_X5_26 C dX5_unmap_39 ?_
        refine z_iconst (v := 0) C (by decide +kernel) dX5_unmap_42 ?_
        refine z_iload_n C rfl dX5_unmap_43 ?_
        refine z_iload C rfl dX5_unmap_44 ?_
        refine z_callS (As := [.int 0, .int (nI v), .int (nI (a + i))]) (r := (some (.int (nI (40 * v + (a + i)))))) (σ1 := (κ, iterK (mUm1 v a) i μ, o)) (st := [.ref (n0 + 119)]) (st1 := [.int (nI (40 * v + (a + i))), .ref (n0 + 119)]) C K ok_X5_58 (c_X5_at0 l D n0 κ (iterK (mUm1 v a) i μ) o v (a + i)) rfl ⟨by decide, by decide⟩ ⟨Nat.zero_le _, Nat.zero_le _⟩ (by simp [Value.category]) dX5_unmap_46 rfl rfl ?_
        refine z_iconst (v := (-1)) C (by decide +kernel) dX5_unmap_49 ?_
        refine as_119 (x := (-1)) C (40 * v + (a + i)) rfl (by omega) dX5_unmap_50 ?_
        refine z_iinc (v := nI (a + i + 1)) (ls' := [some (.ref (n0 + 113)), some (.int (nI v)), some (.int (nI a)), some (.int (nI b)), some (.int (nI (sumTo (fun j => mMp1 μ v (a + j)) i + 1))), some (.int (nI (a + i + 1)))]) C rfl (cv_inc (a + i) 1) (by decide) rfl dX5_unmap_51 ?_
        refine z_goto (tgt := 6) C dX5_unmap_54 (by decide) ?_
        exact z_cast (σ1 := (κ, iterK (mUm1 v a) (i + 1) μ, o)) (ls' := [some (.ref (n0 + 113)), some (.int (nI v)), some (.int (nI a)), some (.int (nI b)), some (.int (nI (sumTo (fun j => mMp1 μ v (a + j)) (i + 1)))), some (.int (nI (a + (i + 1))))]) (st' := []) (ih_6) rfl ⟨rfl, rfl, rfl, rfl, (so_int (by simp [sumTo, mMp1, h_27])), (so_int rfl), trivial⟩ rfl
set_option maxHeartbeats 4000000 in
set_option maxRecDepth 100000 in
theorem c_X5_perform (l : Launch) (D : DD) (n0 : Nat) (κ μ : KH) (o : Int64) (v w : Nat) (x : Int32) (hv : v < 16) (hw : w < 160) (hJ : mJ μ) (hf : mNeed μ v (w / 4) = true → mFM μ (nE μ) ≠ 0) : HM l D n0 yX5_perform cX5_perform 7 (some .int) 5 114 [.ref (n0 + 113), .int (nI v), .int (nI w), .int x] (κ, μ, o) (some (.int (mPerR μ v w))) (κ, mPerf μ v w x, o) := by
  refine HM.of (by decide) (by simp [Value.category]) (by simp) (Or.inr (Or.inl ⟨_, .int, rfl, rfl, rfl⟩)) ?_
  intro pp ee ss mm aa bb me cd Q C K hret
  show ZZ pp l ee (rmk 5 114) ss mm aa bb me cd D n0 127 7 0 0 Q _ 0 [some (.ref (n0 + 113)), some (.int (nI v)), some (.int (nI w)), some (.int x), none, none, none] []
  have hpf : ∃ k : Nat, k < 96 ∧ mPf1 μ v (w / 4) 6 (40 * v + w / 4) = nI k := mPf1_at hJ hf
  obtain ⟨k, hk, hpk⟩ := hpf
  refine z_iload_n C rfl dX5_perform_0 ?_
  refine z_iconst (v := 4) C (by decide +kernel) dX5_perform_1 ?_
  refine z_idiv (v := nI (w / 4)) C (by decide +kernel) (cv_div (by omega) (by decide) (by decide)) dX5_perform_2 ?_
  refine z_istore (ls' := [some (.ref (n0 + 113)), some (.int (nI v)), some (.int (nI w)), some (.int x), some (.int (nI (w / 4))), none, none]) C (by decide) rfl dX5_perform_3 ?_
  refine z_aload_n C rfl dX5_perform_5 ?_
  refine gf_X5_26 C dX5_perform_6 ?_
  refine z_iconst (v := 0) C (by decide +kernel) dX5_perform_9 ?_
  refine z_iload_n C rfl dX5_perform_10 ?_
  refine z_iload C rfl dX5_perform_11 ?_
  refine z_callS (As := [.int 0, .int (nI v), .int (nI (w / 4))]) (r := (some (.int (nI (40 * v + (w / 4)))))) (σ1 := (κ, μ, o)) (st := [.ref (n0 + 119)]) (st1 := [.int (nI (40 * v + (w / 4))), .ref (n0 + 119)]) C K ok_X5_58 (c_X5_at0 l D n0 κ μ o v (w / 4)) rfl ⟨by decide, by decide⟩ ⟨Nat.zero_le _, Nat.zero_le _⟩ (by simp [Value.category]) dX5_perform_13 rfl rfl ?_
  refine al_119 (v := μ 6 (40 * v + (w / 4))) C (40 * v + (w / 4)) rfl (by omega) rfl dX5_perform_16 ?_
  refine z_istore (ls' := [some (.ref (n0 + 113)), some (.int (nI v)), some (.int (nI w)), some (.int x), some (.int (nI (w / 4))), some (.int (μ 6 (40 * v + (w / 4)))), none]) C (by decide) rfl dX5_perform_17 ?_
  refine z_aload_n C rfl dX5_perform_19 ?_
  refine z_iload_n C rfl dX5_perform_20 ?_
  refine z_iload C rfl dX5_perform_21 ?_
  refine z_callV (As := [.int (nI v), .int (nI (w / 4))]) (r := (some (.int (b2i (mNeed μ v (w / 4)))))) (σ1 := (κ, μ, o)) (st := []) (st1 := [.int (b2i (mNeed μ v (w / 4)))]) C K ok_X5_99 (c_X5_needs l D n0 κ μ o v (w / 4) hv (by omega)) enc_M (by decide) rfl rfl ⟨by decide, by decide⟩ ⟨Nat.zero_le _, Nat.zero_le _⟩ (by simp [Value.category]) dX5_perform_23 rfl rfl ?_
  refine z_istore (ls' := [some (.ref (n0 + 113)), some (.int (nI v)), some (.int (nI w)), some (.int x), some (.int (nI (w / 4))), some (.int (μ 6 (40 * v + (w / 4)))), some (.int (b2i (mNeed μ v (w / 4))))]) C (by decide) rfl dX5_perform_26 ?_
  refine z_iload C rfl dX5_perform_28 ?_
  refine z_if_eq (tgt := 40) C dX5_perform_30 (by decide) (fun h_30 => ?_) (fun h_30 => ?_)
  · have g_30 := cv_b0 h_30
    have hpm : mPf1 μ v (w / 4) = μ := if_neg (by rw [g_30]; decide)
    have hsg : ((κ, μ, o) : ST) = (κ, mPf1 μ v (w / 4), o) := by rw [hpm]
    rw [show (κ, μ, o) = ((κ, mPf1 μ v (w / 4), o) : ST) from hsg]
    refine z_aload_n C rfl dX5_perform_40 ?_
    refine gf_X5_36 C dX5_perform_41 ?_
    refine z_iconst (v := 4) C (by decide +kernel) dX5_perform_44 ?_
    refine z_aload_n C rfl dX5_perform_45 ?_
    refine gf_X5_26 C dX5_perform_46 ?_
    refine z_iconst (v := 0) C (by decide +kernel) dX5_perform_49 ?_
    refine z_iload_n C rfl dX5_perform_50 ?_
    refine z_iload C rfl dX5_perform_51 ?_
    refine z_callS (As := [.int 0, .int (nI v), .int (nI (w / 4))]) (r := (some (.int (nI (40 * v + (w / 4)))))) (σ1 := (κ, mPf1 μ v (w / 4), o)) (st := [.ref (n0 + 119), .int 4, .ref (n0 + 121)]) (st1 := [.int (nI (40 * v + (w / 4))), .ref (n0 + 119), .int 4, .ref (n0 + 121)]) C K ok_X5_58 (c_X5_at0 l D n0 κ (mPf1 μ v (w / 4)) o v (w / 4)) rfl ⟨by decide, by decide⟩ ⟨Nat.zero_le _, Nat.zero_le _⟩ (by simp [Value.category]) dX5_perform_53 rfl rfl ?_
    refine al_119 (v := nI k) C (40 * v + (w / 4)) rfl (by omega) hpk dX5_perform_56 ?_
    refine z_imul (v := nI (4 * k)) C (cv_mul 4 k) dX5_perform_57 ?_
    refine z_iload_n C rfl dX5_perform_58 ?_
    refine z_iconst (v := 4) C (by decide +kernel) dX5_perform_59 ?_
    refine z_irem (v := nI (w % 4)) C (by decide +kernel) (cv_rem (by omega) (by decide) (by decide)) dX5_perform_60 ?_
    refine z_iadd (v := nI (4 * k + (w % 4))) C (cv_add (4 * k) (w % 4)) dX5_perform_61 ?_
    refine z_iload_n C rfl dX5_perform_62 ?_
    refine as_121 (x := x) C (4 * k + (w % 4)) rfl (by omega) dX5_perform_63 ?_
    refine z_iload C rfl dX5_perform_64 ?_
    refine z_if_ne (tgt := 73) C dX5_perform_66 (by decide) (fun h_66 => ?_) (fun h_66 => ?_)
    · have g_66 := cv_b1 h_66
      refine z_iload C rfl dX5_perform_73 ?_
      refine z_iconst (v := (-1)) C (by decide +kernel) dX5_perform_75 ?_
      refine z_icmp_ne (tgt := 83) C dX5_perform_76 (by decide) (fun h_76 => ?_) (fun h_76 => ?_)
      · skip
        refine z_iconst (v := 2) C (by decide +kernel) dX5_perform_83 ?_
        exact z_endI (hret _ _ dX5_perform_84) (by simp [mPerR, g_66, h_76]) (by simp only [mPerf, hpk, tn_nI (show k < 2 ^ 31 by omega)])
      · skip
        refine z_iconst (v := 1) C (by decide +kernel) dX5_perform_79 ?_
        refine z_goto (tgt := 84) C dX5_perform_80 (by decide) ?_
        exact z_endI (hret _ _ dX5_perform_84) (by simp [mPerR, g_66, h_76]) (by simp only [mPerf, hpk, tn_nI (show k < 2 ^ 31 by omega)])
    · have g_66 := cv_b0 h_66
      refine z_iconst (v := 0) C (by decide +kernel) dX5_perform_69 ?_
      refine z_goto (tgt := 84) C dX5_perform_70 (by decide) ?_
      exact z_endI (hret _ _ dX5_perform_84) (by simp [mPerR, g_66]) (by simp only [mPerf, hpk, tn_nI (show k < 2 ^ 31 by omega)])
  · have g_30 := cv_b1 h_30
    refine z_aload_n C rfl dX5_perform_33 ?_
    refine z_iload_n C rfl dX5_perform_34 ?_
    refine z_iload C rfl dX5_perform_35 ?_
    refine z_callV (As := [.int (nI v), .int (nI (w / 4))]) (r := none) (σ1 := (κ, mTake μ v (w / 4), o)) (st := []) (st1 := []) C K ok_X5_103 (c_X5_take l D n0 κ μ o v (w / 4) hv (by omega) hJ (hf g_30)) enc_M (by decide) rfl rfl ⟨by decide, by decide⟩ ⟨Nat.zero_le _, Nat.zero_le _⟩ (by simp [Value.category]) dX5_perform_37 rfl rfl ?_
    have hpm : mPf1 μ v (w / 4) = mTake μ v (w / 4) := if_pos g_30
    rw [← hpm]
    refine z_aload_n C rfl dX5_perform_40 ?_
    refine gf_X5_36 C dX5_perform_41 ?_
    refine z_iconst (v := 4) C (by decide +kernel) dX5_perform_44 ?_
    refine z_aload_n C rfl dX5_perform_45 ?_
    refine gf_X5_26 C dX5_perform_46 ?_
    refine z_iconst (v := 0) C (by decide +kernel) dX5_perform_49 ?_
    refine z_iload_n C rfl dX5_perform_50 ?_
    refine z_iload C rfl dX5_perform_51 ?_
    refine z_callS (As := [.int 0, .int (nI v), .int (nI (w / 4))]) (r := (some (.int (nI (40 * v + (w / 4)))))) (σ1 := (κ, mPf1 μ v (w / 4), o)) (st := [.ref (n0 + 119), .int 4, .ref (n0 + 121)]) (st1 := [.int (nI (40 * v + (w / 4))), .ref (n0 + 119), .int 4, .ref (n0 + 121)]) C K ok_X5_58 (c_X5_at0 l D n0 κ (mPf1 μ v (w / 4)) o v (w / 4)) rfl ⟨by decide, by decide⟩ ⟨Nat.zero_le _, Nat.zero_le _⟩ (by simp [Value.category]) dX5_perform_53 rfl rfl ?_
    refine al_119 (v := nI k) C (40 * v + (w / 4)) rfl (by omega) hpk dX5_perform_56 ?_
    refine z_imul (v := nI (4 * k)) C (cv_mul 4 k) dX5_perform_57 ?_
    refine z_iload_n C rfl dX5_perform_58 ?_
    refine z_iconst (v := 4) C (by decide +kernel) dX5_perform_59 ?_
    refine z_irem (v := nI (w % 4)) C (by decide +kernel) (cv_rem (by omega) (by decide) (by decide)) dX5_perform_60 ?_
    refine z_iadd (v := nI (4 * k + (w % 4))) C (cv_add (4 * k) (w % 4)) dX5_perform_61 ?_
    refine z_iload_n C rfl dX5_perform_62 ?_
    refine as_121 (x := x) C (4 * k + (w % 4)) rfl (by omega) dX5_perform_63 ?_
    refine z_iload C rfl dX5_perform_64 ?_
    refine z_if_ne (tgt := 73) C dX5_perform_66 (by decide) (fun h_66 => ?_) (fun h_66 => ?_)
    · have g_66 := cv_b1 h_66
      refine z_iload C rfl dX5_perform_73 ?_
      refine z_iconst (v := (-1)) C (by decide +kernel) dX5_perform_75 ?_
      refine z_icmp_ne (tgt := 83) C dX5_perform_76 (by decide) (fun h_76 => ?_) (fun h_76 => ?_)
      · skip
        refine z_iconst (v := 2) C (by decide +kernel) dX5_perform_83 ?_
        exact z_endI (hret _ _ dX5_perform_84) (by simp [mPerR, g_66, h_76]) (by simp only [mPerf, hpk, tn_nI (show k < 2 ^ 31 by omega)])
      · skip
        refine z_iconst (v := 1) C (by decide +kernel) dX5_perform_79 ?_
        refine z_goto (tgt := 84) C dX5_perform_80 (by decide) ?_
        exact z_endI (hret _ _ dX5_perform_84) (by simp [mPerR, g_66, h_76]) (by simp only [mPerf, hpk, tn_nI (show k < 2 ^ 31 by omega)])
    · have g_66 := cv_b0 h_66
      refine z_iconst (v := 0) C (by decide +kernel) dX5_perform_69 ?_
      refine z_goto (tgt := 84) C dX5_perform_70 (by decide) ?_
      exact z_endI (hret _ _ dX5_perform_84) (by simp [mPerR, g_66]) (by simp only [mPerf, hpk, tn_nI (show k < 2 ^ 31 by omega)])
end
section
/-! congruence: what is asked of the cells 1 and 6 alone -/
theorem mG_cg {μ ν : KH} (h6 : μ 6 = ν 6) : mG μ = mG ν := by
  funext s v e p; unfold mG; rw [h6]
theorem mF_cg {μ ν : KH} (h1 : μ 1 = ν 1) (h6 : μ 6 = ν 6) : mF μ = mF ν := by
  funext s e v; unfold mF; rw [h1, mG_cg h6]
theorem mUse_cg {μ ν : KH} (h1 : μ 1 = ν 1) (h6 : μ 6 = ν 6) : mUse μ = mUse ν := by
  funext s e; unfold mUse; rw [mF_cg h1 h6]
theorem mFree_cg {μ ν : KH} (h1 : μ 1 = ν 1) (h6 : μ 6 = ν 6) : mFree μ = mFree ν := by
  funext e; unfold mFree; rw [mUse_cg h1 h6]
theorem mSole_cg {μ ν : KH} (h1 : μ 1 = ν 1) (h6 : μ 6 = ν 6) : mSole μ = mSole ν := by
  funext e; unfold mSole; rw [mUse_cg h1 h6]
theorem mFr1_cg {μ ν : KH} (h1 : μ 1 = ν 1) (h6 : μ 6 = ν 6) : mFr1 μ = mFr1 ν := by
  funext e; unfold mFr1; rw [mFree_cg h1 h6]
theorem mFM_cg {μ ν : KH} (h1 : μ 1 = ν 1) (h6 : μ 6 = ν 6) : mFM μ = mFM ν := by
  funext n; unfold mFM; rw [mFr1_cg h1 h6]
theorem mNeed_cg {μ ν : KH} (h1 : μ 1 = ν 1) (h6 : μ 6 = ν 6) : mNeed μ = mNeed ν := by
  funext v p; unfold mNeed; rw [h6, mSole_cg h1 h6]
/-- the queue's rows, moved up -/
theorem iterSh_at (k : Nat) (m : KH) (c : Nat) (hc : c = 10 ∨ c = 11 ∨ c = 12) (i : Nat) : ∀ j, iterK (mSh k) j m c i = if k ≤ i ∧ i < k + j then m c (i + 1) else m c i
  | 0 => by rw [if_neg (by omega)]; rfl
  | j + 1 => by
    show mSh k j (iterK (mSh k) j m) c i = _
    have h1 := iterSh_at k m c hc i j
    have h2 := iterSh_at k m c hc (k + j + 1) j
    rw [if_neg (by omega)] at h2
    by_cases hi : i = k + j
    · subst hi
      rw [if_pos (by omega)]
      rcases hc with rfl | rfl | rfl <;> simp [mSh, up, h2]
    · have h3 : mSh k j (iterK (mSh k) j m) c i = iterK (mSh k) j m c i := by
        rcases hc with rfl | rfl | rfl <;> simp [mSh, up, hi]
      rw [h3, h1]
      by_cases hk : k ≤ i ∧ i < k + j
      · rw [if_pos hk, if_pos (by omega)]
      · rw [if_neg hk, if_neg (by omega)]
theorem iterSh_oth (k : Nat) (m : KH) (c : Nat) (h1 : c ≠ 10) (h2 : c ≠ 11) (h3 : c ≠ 12) : ∀ j, iterK (mSh k) j m c = m c
  | 0 => rfl
  | j + 1 => by
    show mSh k j (iterK (mSh k) j m) c = _
    rw [← iterSh_oth k m c h1 h2 h3 j]
    unfold mSh
    rw [up_cell h3, up_cell h2, up_cell h1]
theorem mUnq_q (μ : KH) (n k c : Nat) (hc : c = 10 ∨ c = 11 ∨ c = 12) (i : Nat) (hk : k ≤ n) : mUnq μ n k c i = if k ≤ i ∧ i < n then μ c (i + 1) else μ c i := by
  unfold mUnq
  have h0 : ∀ j, up μ 0 23 (nI n) c j = μ c j := fun j => by rcases hc with rfl | rfl | rfl <;> simp [up]
  rw [iterSh_at k _ c hc i (n - k), h0, h0]
  by_cases h : k ≤ i ∧ i < n
  · rw [if_pos h, if_pos (by omega)]
  · rw [if_neg h, if_neg (by omega)]
theorem mUnq_o (μ : KH) (n k c : Nat) (h0 : c ≠ 0) (h1 : c ≠ 10) (h2 : c ≠ 11) (h3 : c ≠ 12) : mUnq μ n k c = μ c := by
  unfold mUnq
  rw [iterSh_oth k _ c h1 h2 h3, up_cell h0]
theorem mUnq_0 (μ : KH) (n k i : Nat) : mUnq μ n k 0 i = if i = 23 then nI n else μ 0 i := by
  unfold mUnq
  rw [mSh_0]
  by_cases h : i = 23
  · subst h; rw [if_pos rfl]; exact up_self
  · rw [if_neg h]; exact up_ix h
/-! what a write that is done changes -/
theorem mTake_oth (μ : KH) (v p c : Nat) (h0 : c ≠ 0) (h6 : c ≠ 6) (h8 : c ≠ 8) : mTake μ v p c = μ c := by
  unfold mTake mTk3
  rw [up_cell h0, up_cell h0, up_cell h0, up_cell h6]
  funext i
  exact mCw_6 μ v p _ h8 i 4
theorem mTake_6 (μ : KH) (v p i : Nat) : mTake μ v p 6 i = if i = 40 * v + p then nI (mTkE μ) else μ 6 i := by
  unfold mTake mTk3
  rw [up_cell (by decide), up_cell (by decide), up_cell (by decide)]
  by_cases h : i = 40 * v + p
  · subst h; rw [if_pos rfl]; exact up_self
  · rw [if_neg h, up_ix h]; exact mCw_6 μ v p _ (by decide) i 4
theorem mTake_0 (μ : KH) (v p i : Nat) (h1 : i ≠ 12) (h2 : i ≠ 14) (h3 : i ≠ 15) : mTake μ v p 0 i = μ 0 i := by
  unfold mTake mTk3
  rw [up_ix h2, up_ix h3, up_ix h1, up_cell (by decide)]
  exact mCw_6 μ v p _ (by decide) i 4
theorem mTake_12 (μ : KH) (v p : Nat) : mTake μ v p 0 12 = nI (nx (nE μ) (mTkE μ)) := by
  unfold mTake mTk3
  rw [up_ix (by decide), up_ix (by decide), up_self]
theorem mPerf_oth (μ : KH) (v w c : Nat) (x : Int32) (h0 : c ≠ 0) (h6 : c ≠ 6) (h8 : c ≠ 8) : mPerf μ v w x c = μ c := by
  unfold mPerf mPf1
  rw [up_cell h8]
  split
  · exact mTake_oth μ v _ c h0 h6 h8
  · rfl
theorem mPerf_6 (μ : KH) (v w i : Nat) (x : Int32) : mPerf μ v w x 6 i = if mNeed μ v (w / 4) = true ∧ i = 40 * v + w / 4 then nI (mTkE μ) else μ 6 i := by
  unfold mPerf mPf1
  rw [up_cell (by decide)]
  by_cases h : mNeed μ v (w / 4) = true
  · rw [if_pos h, mTake_6]
    by_cases hi : i = 40 * v + w / 4
    · rw [if_pos hi, if_pos ⟨h, hi⟩]
    · rw [if_neg hi, if_neg (fun q => hi q.2)]
  · rw [if_neg h, if_neg (fun q => h q.1)]
theorem mPerf_0 (μ : KH) (v w i : Nat) (x : Int32) (h1 : i ≠ 12) (h2 : i ≠ 14) (h3 : i ≠ 15) : mPerf μ v w x 0 i = μ 0 i := by
  unfold mPerf mPf1
  rw [up_cell (by decide)]
  split
  · exact mTake_0 μ v _ i h1 h2 h3
  · rfl
theorem mPerf_12 (μ : KH) (v w : Nat) (x : Int32) : mPerf μ v w x 0 12 = if mNeed μ v (w / 4) = true then nI (nx (nE μ) (mTkE μ)) else μ 0 12 := by
  unfold mPerf mPf1
  rw [up_cell (by decide)]
  split
  · exact mTake_12 μ v _
  · rfl
theorem mJ_perf {μ : KH} {v w : Nat} {x : Int32} (hJ : mJ μ) (hf : mNeed μ v (w / 4) = true → mFM μ (nE μ) ≠ 0) : mJ (mPerf μ v w x) := by
  obtain ⟨h1, h2, h3, h4⟩ := id hJ
  have h9 : mPerf μ v w x 0 9 = μ 0 9 := mPerf_0 μ v w 9 x (by decide) (by decide) (by decide)
  have hE : nE (mPerf μ v w x) = nE μ := by unfold nE; rw [h9]
  have hn : nE μ < 97 := h1.2
  refine ⟨by rw [h9]; exact h1, by rw [hE]; exact h2, ?_, fun j => ?_⟩
  · rw [hE, mPerf_12]
    split
    · rename_i hh
      have h5 := (mTkE_ok hJ (hf hh)).1
      refine isN_nI ?_ (by omega)
      unfold nx; split <;> omega
    · exact h3
  · rw [mPerf_6]
    split
    · rename_i hh
      have h5 := (mTkE_ok hJ (hf hh.1)).1
      exact Or.inr ⟨mTkE μ, by omega, rfl⟩
    · exact h4 j
theorem mJ_up0 {μ : KH} {i : Nat} {x : Int32} (h9 : i ≠ 9) (h12 : i ≠ 12) (hJ : mJ μ) : mJ (up μ 0 i x) := by
  obtain ⟨h1, h2, h3, h4⟩ := hJ
  have e9 : up μ 0 i x 0 9 = μ 0 9 := up_ix (Ne.symm h9)
  have e12 : up μ 0 i x 0 12 = μ 0 12 := up_ix (Ne.symm h12)
  refine ⟨by rw [e9]; exact h1, by unfold nE; rw [e9]; exact h2, by unfold nE; rw [e12, e9]; exact h3, fun j => by rw [up_cell (by decide)]; exact h4 j⟩
theorem mJ_unq {μ : KH} {n k : Nat} (hJ : mJ μ) : mJ (mUnq μ n k) := by
  obtain ⟨h1, h2, h3, h4⟩ := hJ
  have e9 : mUnq μ n k 0 9 = μ 0 9 := by rw [mUnq_0, if_neg (by decide)]
  have e12 : mUnq μ n k 0 12 = μ 0 12 := by rw [mUnq_0, if_neg (by decide)]
  refine ⟨by rw [e9]; exact h1, by unfold nE; rw [e9]; exact h2, by unfold nE; rw [e12, e9]; exact h3, fun j => by rw [mUnq_o μ n k 6 (by decide) (by decide) (by decide) (by decide)]; exact h4 j⟩
/-- what those that wait are served by -/
def mD (x : KH) (q : Nat) : Prop := mJ x ∧ x 0 23 = nI q ∧ q ≤ 8 ∧ ∀ k, k < q → isN (x 10 k) 16 ∧ isN (x 11 k) 160
theorem mD_unq {x : KH} {q k : Nat} (hk : k ≤ q) (h : mD x (q + 1)) : mD (mUnq x q k) q := by
  obtain ⟨h1, h2, h3, h4⟩ := h
  refine ⟨mJ_unq h1, by rw [mUnq_0, if_pos rfl], by omega, fun i hi => ?_⟩
  rw [mUnq_q x q k 10 (Or.inl rfl) i hk, mUnq_q x q k 11 (Or.inr (Or.inl rfl)) i hk]
  split
  · exact h4 (i + 1) (by omega)
  · exact h4 i (by omega)
theorem mD_up0 {x : KH} {q i : Nat} {z : Int32} (h9 : i ≠ 9) (h12 : i ≠ 12) (h23 : i ≠ 23) (h : mD x q) : mD (up x 0 i z) q := by
  obtain ⟨h1, h2, h3, h4⟩ := h
  exact ⟨mJ_up0 h9 h12 h1, by rw [up_ix (Ne.symm h23)]; exact h2, h3, fun k hk => by rw [up_cell (by decide), up_cell (by decide)]; exact h4 k hk⟩
theorem mD_perf {x : KH} {q v w : Nat} {z : Int32} (hf : mNeed x v (w / 4) = true → mFM x (nE x) ≠ 0) (h : mD x q) : mD (mPerf x v w z) q := by
  obtain ⟨h1, h2, h3, h4⟩ := h
  exact ⟨mJ_perf h1 hf, by rw [mPerf_0 x v w 23 z (by decide) (by decide) (by decide)]; exact h2, h3, fun k hk => by rw [mPerf_oth x v w 10 z (by decide) (by decide) (by decide), mPerf_oth x v w 11 z (by decide) (by decide) (by decide)]; exact h4 k hk⟩
theorem mD_Q {x : KH} {q : Nat} (h : mD x q) : nQ x = q := by
  have h3 := h.2.2.1
  unfold nQ; rw [h.2.1]; exact tn_nI (by omega)
theorem up_id (κ : KH) (k i : Nat) : up κ k i (κ k i) = κ := by
  funext a b
  unfold up
  split
  · rename_i h; rw [h.1, h.2]
  · rfl
theorem vNum_of {v : Int32} (h : vNum v = true) : ∃ j : Nat, j < 16 ∧ v = nI j := by
  simp only [vNum, Bool.and_eq_true, Bool.not_eq_true', decide_eq_false_iff_not] at h
  obtain ⟨k, hk, rfl⟩ := nI_of h.1
  refine ⟨k, ?_, rfl⟩
  exact Nat.not_le.mp fun q => h.2 (nI_le (a := 16) (b := k) q hk)
theorem vNum_or (v : Int32) : vNum v = false ∨ ∃ j : Nat, j < 16 ∧ v = nI j := by
  cases h : vNum v
  · exact Or.inl rfl
  · exact Or.inr (vNum_of h)
/-! a write, whole -/
def mEn (y : KH) (v w x : Int32) : KH × Int32 := if nQ y = 8 then (y, -1) else (mEnq y (nQ y) v w x, 3)
def mWm (y : KH) : KH := if y 0 16 = 0 ∧ mFM y (nE y) = 0 then up (up (up y 0 16 (if 0 < y 0 17 then 1 else 2)) 0 18 (y 0 17)) 0 19 0 else y
def mWr (y : KH) (v w : Nat) (x : Int32) : KH × Int32 :=
  if y 0 16 = 1 ∧ mWait y (nQ y) v (w / 4) = true then mEn y (nI v) (nI w) x
  else if mOver y v (w / 4) = true then (y, -1)
  else if mNeed y v (w / 4) = false then (mPerf y v w x, mPerR y v w)
  else if mWm y 0 16 = 1 then mEn (mWm y) (nI v) (nI w) x
  else if mFM y (nE y) = 0 then (mWm y, -1)
  else (mPerf (up y 0 16 0) v w x, mPerR (up y 0 16 0) v w)
theorem up2 (κ : KH) (k i : Nat) (x y : Int32) : up (up κ k i x) k i y = up κ k i y := by
  funext a b
  unfold up
  split <;> rfl
section MWR
variable {y : KH} {v w : Nat} {x : Int32}
theorem mWr_1 (h : y 0 16 = 1) (h2 : mWait y (nQ y) v (w / 4) = true) : mWr y v w x = mEn y (nI v) (nI w) x := if_pos ⟨h, h2⟩
theorem mWr_2 (h : ¬ (y 0 16 = 1 ∧ mWait y (nQ y) v (w / 4) = true)) (h2 : mOver y v (w / 4) = true) : mWr y v w x = (y, -1) := (if_neg h).trans (if_pos h2)
theorem mWr_3 (h : ¬ (y 0 16 = 1 ∧ mWait y (nQ y) v (w / 4) = true)) (h2 : mOver y v (w / 4) = false) (h3 : mNeed y v (w / 4) = false) : mWr y v w x = (mPerf y v w x, mPerR y v w) :=
  (if_neg h).trans ((if_neg (by rw [h2]; decide)).trans (if_pos h3))
theorem mWr_4 (h : ¬ (y 0 16 = 1 ∧ mWait y (nQ y) v (w / 4) = true)) (h2 : mOver y v (w / 4) = false) (h3 : mNeed y v (w / 4) = true) {z : KH} (hz : mWm y = z) (h4 : z 0 16 = 1) : mWr y v w x = mEn z (nI v) (nI w) x := by
  subst hz
  exact (if_neg h).trans ((if_neg (by rw [h2]; decide)).trans ((if_neg (by rw [h3]; decide)).trans (if_pos h4)))
theorem mWr_5 (h : ¬ (y 0 16 = 1 ∧ mWait y (nQ y) v (w / 4) = true)) (h2 : mOver y v (w / 4) = false) (h3 : mNeed y v (w / 4) = true) {z : KH} (hz : mWm y = z) (h4 : ¬ z 0 16 = 1) (h5 : mFM y (nE y) = 0) : mWr y v w x = (z, -1) := by
  subst hz
  exact (if_neg h).trans ((if_neg (by rw [h2]; decide)).trans ((if_neg (by rw [h3]; decide)).trans ((if_neg h4).trans (if_pos h5))))
theorem mWr_6 (h : ¬ (y 0 16 = 1 ∧ mWait y (nQ y) v (w / 4) = true)) (h2 : mOver y v (w / 4) = false) (h3 : mNeed y v (w / 4) = true) {z : KH} (hz : mWm y = z) (h4 : ¬ z 0 16 = 1) (h5 : ¬ mFM y (nE y) = 0) : mWr y v w x = (mPerf (up y 0 16 0) v w x, mPerR (up y 0 16 0) v w) := by
  subst hz
  exact (if_neg h).trans ((if_neg (by rw [h2]; decide)).trans ((if_neg (by rw [h3]; decide)).trans ((if_neg h4).trans (if_neg h5))))
theorem mWm_i (h : ¬ (y 0 16 = 0 ∧ mFM y (nE y) = 0)) : mWm y = y := if_neg h
theorem mWm_p (h : y 0 16 = 0) (h2 : mFM y (nE y) = 0) (h3 : 0 < y 0 17) : mWm y = up (up (up y 0 16 1) 0 18 (y 0 17)) 0 19 0 := by
  unfold mWm; rw [if_pos ⟨h, h2⟩, if_pos h3]
theorem mWm_n (h : y 0 16 = 0) (h2 : mFM y (nE y) = 0) (h3 : ¬ 0 < y 0 17) : mWm y = up (up (up y 0 16 2) 0 18 (y 0 17)) 0 19 0 := by
  unfold mWm; rw [if_pos ⟨h, h2⟩, if_neg h3]
theorem mEn_e {a b : Int32} (h : nQ y = 8) : mEn y a b x = (y, -1) := if_pos h
theorem mEn_l {a b : Int32} (h : ¬ nQ y = 8) : mEn y a b x = (mEnq y (nQ y) a b x, 3) := if_neg h
theorem ri {q : KH × Int32} {z : KH} {r : Int32} (h : q = (z, r)) : r = q.2 := by rw [h]
theorem rs {κ : KH} {o : Int64} {q : KH × Int32} {z : KH} {r : Int32} (h : q = (z, r)) : ((κ, z, o) : ST) = (κ, q.1, o) := by rw [h]
end MWR
def okW (μ : KH) (v w : Int32) : Prop := ∃ j k z : Nat, j < 16 ∧ v = nI j ∧ μ 1 j ≠ 0 ∧ z ≤ 40 ∧ μ 2 j = nI z ∧ w = nI k ∧ k < 4 * z
theorem okW_of {μ : KH} {j : Nat} {w : Int32} (hj : j < 16) (h1 : (!decide (μ 1 j = 0)) = true) (h2 : ¬ w < 0) (h3 : w < 4 * μ 2 j) (hsz : ∀ i, i < 16 → μ 1 i ≠ 0 → ∃ z : Nat, z ≤ 40 ∧ μ 2 i = nI z) : okW μ (nI j) w := by
  have h1' : μ 1 j ≠ 0 := by simpa using h1
  obtain ⟨z, hz, h4⟩ := hsz j hj h1'
  obtain ⟨k, hk, rfl⟩ := nI_of h2
  refine ⟨j, k, z, hj, rfl, h1', hz, h4, rfl, ?_⟩
  rw [h4, show (4 : Int32) * nI z = nI (4 * z) from cv_mul 4 z] at h3
  exact (nI_ltI hk (by omega)).mp h3
set_option maxHeartbeats 4000000 in
set_option maxRecDepth 100000 in
theorem c_X5_drain (l : Launch) (D : DD) (n0 : Nat) (κ μ : KH) (o : Int64) (hD : mD μ (nQ μ)) : HM l D n0 yX5_drain cX5_drain 6 none 6 140 [.ref (n0 + 113)] (κ, μ, o) none (κ, mDrain μ, o) := by
  refine HM.of (by decide) (by simp [Value.category]) (by simp) (Or.inl ⟨rfl, rfl⟩) ?_
  intro pp ee ss mm aa bb me cd Q C K hret
  show ZZ pp l ee (rmk 6 140) ss mm aa bb me cd D n0 127 6 0 0 Q _ 0 [some (.ref (n0 + 113)), none, none, none, none, none] []
  refine z_aload_n C rfl dX5_drain_0 ?_
  refine gf_X5_110 (v := μ 0 16) C rfl dX5_drain_1 ?_
  refine z_iconst (v := 1) C (by decide +kernel) dX5_drain_4 ?_
  refine z_icmp_ne (tgt := 12) C dX5_drain_5 (by decide) (fun h_5 => ?_) (fun h_5 => ?_)
  · skip
    refine z_iconst (v := 0) C (by decide +kernel) dX5_drain_12 ?_
    refine z_istore_n (ls' := [some (.ref (n0 + 113)), some (.int 0), none, none, none, none]) C (by decide) rfl dX5_drain_13 ?_
    refine z_iload_n C rfl dX5_drain_14 ?_
    refine z_if_eq (tgt := 117) C dX5_drain_15 (by decide) (fun h_15 => ?_) (fun h_15 => ?_)
    · skip
      refine z_aload_n C rfl dX5_drain_117 ?_
      refine z_iload_n C rfl dX5_drain_118 ?_
      refine z_if_eq (tgt := 126) C dX5_drain_119 (by decide) (fun h_119 => ?_) (fun h_119 => ?_)
      · skip
        refine z_aload_n C rfl dX5_drain_126 ?_
        refine gf_X5_110 (v := μ 0 16) C rfl dX5_drain_127 ?_
        refine pf_X5_110 (x := μ 0 16) C dX5_drain_130 ?_
        exact z_endV (hret _ _ dX5_drain_133) (st_m (by unfold mDrain; rw [if_neg h_5]))
      · exact absurd h_119 (by decide +kernel)
    · exact absurd h_15 (by decide +kernel)
  · skip
    refine z_iconst (v := 1) C (by decide +kernel) dX5_drain_8 ?_
    refine z_goto (tgt := 13) C dX5_drain_9 (by decide) ?_
    refine z_istore_n (ls' := [some (.ref (n0 + 113)), some (.int 1), none, none, none, none]) C (by decide) rfl dX5_drain_13 ?_
    have hl_14 : ∀ (k : Nat) (x : KH), mD x k → x 0 16 = 1 → mDr k x = mDrain μ → ZZ pp l ee (rmk 6 140) ss mm aa bb me cd D n0 127 6 0 0 Q (κ, x, o) 14 [some (.ref (n0 + 113)), some (.int 1), none, none, none, none] [] := by
      intro k
      induction k with
      | zero =>
        intro x hD hmd hX
        obtain ⟨hDJ, hDq, hD8, hDe⟩ := id hD
        have hE : x 0 9 = nI (nE x) := hDJ.1.1
        have hE9 : nE x < 97 := hDJ.1.2
        have hfm := mFM_le x (nE x)
        refine z_iload_n C rfl dX5_drain_14 ?_
        refine z_if_eq (tgt := 117) C dX5_drain_15 (by decide) (fun h_15 => ?_) (fun h_15 => ?_)
        · exact absurd h_15 (by decide +kernel)
        · skip
          refine z_aload_n C rfl dX5_drain_18 ?_
          refine gf_X5_107 (v := nI 0) C hDq dX5_drain_19 ?_
          refine z_if_le (tgt := 117) C dX5_drain_22 (by decide) (fun h_22 => ?_) (fun h_22 => ?_)
          · have g_22 := cv_le (a := 0) (b := 0) (by omega) (by omega) h_22
            refine z_aload_n C rfl dX5_drain_117 ?_
            refine z_iload_n C rfl dX5_drain_118 ?_
            refine z_if_eq (tgt := 126) C dX5_drain_119 (by decide) (fun h_119 => ?_) (fun h_119 => ?_)
            · exact absurd h_119 (by decide +kernel)
            · skip
              refine z_iconst (v := 0) C (by decide +kernel) dX5_drain_122 ?_
              refine z_goto (tgt := 130) C dX5_drain_123 (by decide) ?_
              refine pf_X5_110 (x := 0) C dX5_drain_130 ?_
              exact z_endV (hret _ _ dX5_drain_133) (st_m hX)
          · have g_22 := cv_nle (a := 0) (b := 0) (by omega) (by omega) h_22
            exact absurd g_22 (by omega)
      | succ k ih =>
        intro x hD hmd hX
        obtain ⟨hDJ, hDq, hD8, hDe⟩ := id hD
        have hE : x 0 9 = nI (nE x) := hDJ.1.1
        have hE9 : nE x < 97 := hDJ.1.2
        have hfm := mFM_le x (nE x)
        obtain ⟨⟨hv1, hv2⟩, ⟨hw1, hw2⟩⟩ := hDe 0 (by omega)
        refine z_iload_n C rfl dX5_drain_14 ?_
        refine z_if_eq (tgt := 117) C dX5_drain_15 (by decide) (fun h_15 => ?_) (fun h_15 => ?_)
        · exact absurd h_15 (by decide +kernel)
        · skip
          refine z_aload_n C rfl dX5_drain_18 ?_
          refine gf_X5_107 (v := nI (k + 1)) C hDq dX5_drain_19 ?_
          refine z_if_le (tgt := 117) C dX5_drain_22 (by decide) (fun h_22 => ?_) (fun h_22 => ?_)
          · have g_22 := cv_le (a := k + 1) (b := 0) (by omega) (by omega) h_22
            exact absurd g_22 (by omega)
          · have g_22 := cv_nle (a := k + 1) (b := 0) (by omega) (by omega) h_22
            refine z_aload_n C rfl dX5_drain_25 ?_
            refine gf_X5_42 C dX5_drain_26 ?_
            refine z_iconst (v := 0) C (by decide +kernel) dX5_drain_29 ?_
            refine al_123 (v := nI (tn (x 10 0))) C (0) rfl (by omega) hv1 dX5_drain_30 ?_
            refine z_istore_n (ls' := [some (.ref (n0 + 113)), some (.int 1), some (.int (nI (tn (x 10 0)))), none, none, none]) C (by decide) rfl dX5_drain_31 ?_
            refine z_aload_n C rfl dX5_drain_32 ?_
            refine gf_X5_45 C dX5_drain_33 ?_
            refine z_iconst (v := 0) C (by decide +kernel) dX5_drain_36 ?_
            refine al_124 (v := nI (tn (x 11 0))) C (0) rfl (by omega) hw1 dX5_drain_37 ?_
            refine z_istore_n (ls' := [some (.ref (n0 + 113)), some (.int 1), some (.int (nI (tn (x 10 0)))), some (.int (nI (tn (x 11 0)))), none, none]) C (by decide) rfl dX5_drain_38 ?_
            refine z_aload_n C rfl dX5_drain_39 ?_
            refine gf_X5_48 C dX5_drain_40 ?_
            refine z_iconst (v := 0) C (by decide +kernel) dX5_drain_43 ?_
            refine al_125 (v := x 12 0) C (0) rfl (by omega) rfl dX5_drain_44 ?_
            refine z_istore (ls' := [some (.ref (n0 + 113)), some (.int 1), some (.int (nI (tn (x 10 0)))), some (.int (nI (tn (x 11 0)))), some (.int (x 12 0)), none]) C (by decide) rfl dX5_drain_45 ?_
            refine z_aload_n C rfl dX5_drain_47 ?_
            refine z_iload_n C rfl dX5_drain_48 ?_
            refine z_iload_n C rfl dX5_drain_49 ?_
            refine z_iconst (v := 4) C (by decide +kernel) dX5_drain_50 ?_
            refine z_idiv (v := nI ((tn (x 11 0)) / 4)) C (by decide +kernel) (cv_div (by omega) (by decide) (by decide)) dX5_drain_51 ?_
            refine z_callV (As := [.int (nI (tn (x 10 0))), .int (nI ((tn (x 11 0)) / 4))]) (r := (some (.int (b2i (mOver x (tn (x 10 0)) (tn (x 11 0) / 4)))))) (σ1 := (κ, x, o)) (st := []) (st1 := [.int (b2i (mOver x (tn (x 10 0)) (tn (x 11 0) / 4)))]) C K ok_X5_113 (c_X5_isOver l D n0 κ x o (tn (x 10 0)) (tn (x 11 0) / 4) hv2 (by omega)) enc_M (by decide) rfl rfl ⟨by decide, by decide⟩ ⟨Nat.zero_le _, Nat.zero_le _⟩ (by simp [Value.category]) dX5_drain_52 rfl rfl ?_
            refine z_if_eq (tgt := 76) C dX5_drain_55 (by decide) (fun h_55 => ?_) (fun h_55 => ?_)
            · have g_55 := cv_b0 h_55
              refine z_aload_n C rfl dX5_drain_76 ?_
              refine z_iload_n C rfl dX5_drain_77 ?_
              refine z_iload_n C rfl dX5_drain_78 ?_
              refine z_iconst (v := 4) C (by decide +kernel) dX5_drain_79 ?_
              refine z_idiv (v := nI ((tn (x 11 0)) / 4)) C (by decide +kernel) (cv_div (by omega) (by decide) (by decide)) dX5_drain_80 ?_
              refine z_callV (As := [.int (nI (tn (x 10 0))), .int (nI ((tn (x 11 0)) / 4))]) (r := (some (.int (b2i (mNeed x (tn (x 10 0)) (tn (x 11 0) / 4)))))) (σ1 := (κ, x, o)) (st := []) (st1 := [.int (b2i (mNeed x (tn (x 10 0)) (tn (x 11 0) / 4)))]) C K ok_X5_99 (c_X5_needs l D n0 κ x o (tn (x 10 0)) (tn (x 11 0) / 4) hv2 (by omega)) enc_M (by decide) rfl rfl ⟨by decide, by decide⟩ ⟨Nat.zero_le _, Nat.zero_le _⟩ (by simp [Value.category]) dX5_drain_81 rfl rfl ?_
              refine z_if_eq (tgt := 99) C dX5_drain_84 (by decide) (fun h_84 => ?_) (fun h_84 => ?_)
              · have g_84 := cv_b0 h_84
                refine z_aload_n C rfl dX5_drain_99 ?_
                refine z_iload_n C rfl dX5_drain_100 ?_
                refine z_iload_n C rfl dX5_drain_101 ?_
                refine z_iload C rfl dX5_drain_102 ?_
                have hfx : mNeed x (tn (x 10 0)) (tn (x 11 0) / 4) = true → mFM x (nE x) ≠ 0 := fun q => absurd q (by rw [g_84]; decide)
                refine z_callV (As := [.int (nI (tn (x 10 0))), .int (nI (tn (x 11 0))), .int (x 12 0)]) (r := (some (.int (mPerR x (tn (x 10 0)) (tn (x 11 0)))))) (σ1 := (κ, mPerf x (tn (x 10 0)) (tn (x 11 0)) (x 12 0), o)) (st := []) (st1 := [.int (mPerR x (tn (x 10 0)) (tn (x 11 0)))]) C K ok_X5_123 (c_X5_perform l D n0 κ x o (tn (x 10 0)) (tn (x 11 0)) (x 12 0) hv2 hw2 hDJ hfx) enc_M (by decide) rfl rfl ⟨by decide, by decide⟩ ⟨Nat.zero_le _, Nat.zero_le _⟩ (by simp [Value.category]) dX5_drain_104 rfl rfl ?_
                refine z_istore (ls' := [some (.ref (n0 + 113)), some (.int 1), some (.int (nI (tn (x 10 0)))), some (.int (nI (tn (x 11 0)))), some (.int (x 12 0)), some (.int (mPerR x (tn (x 10 0)) (tn (x 11 0))))]) C (by decide) rfl dX5_drain_107 ?_
                refine z_aload_n C rfl dX5_drain_109 ?_
                refine z_iconst (v := 0) C (by decide +kernel) dX5_drain_110 ?_
                refine z_callV (As := [.int 0]) (r := none) (σ1 := (κ, mUnq (mPerf x (tn (x 10 0)) (tn (x 11 0)) (x 12 0)) k 0, o)) (st := []) (st1 := []) C K ok_X5_119 (c_X5_unqueue l D n0 κ (mPerf x (tn (x 10 0)) (tn (x 11 0)) (x 12 0)) o k 0 (mD_perf hfx hD).2.1 (by omega) (by omega)) enc_M (by decide) rfl rfl ⟨by decide, by decide⟩ ⟨Nat.zero_le _, Nat.zero_le _⟩ (by simp [Value.category]) dX5_drain_111 rfl rfl ?_
                refine z_goto (tgt := 14) C dX5_drain_114 (by decide) ?_
                exact z_cast (ih _ (mD_unq (Nat.zero_le _) (mD_perf (z := x 12 0) hfx hD)) (by rw [mUnq_0, if_neg (by decide), mPerf_0 _ _ _ _ _ (by decide) (by decide) (by decide)]; exact hmd) (by rw [← hX, mDr, if_neg (by rw [g_55]; decide), if_neg (fun q => absurd q.1 (by rw [g_84]; decide))])) rfl ⟨rfl, rfl, trivial⟩ rfl
              · have g_84 := cv_b1 h_84
                refine z_aload_n C rfl dX5_drain_87 ?_
                refine z_callV (As := []) (r := (some (.int (nI (mFM x (nE x)))))) (σ1 := (κ, x, o)) (st := []) (st1 := [.int (nI (mFM x (nE x)))]) C K ok_X5_92 (c_X5_freeMany l D n0 κ x o (nE x) hE (by omega)) enc_M (by decide) rfl rfl ⟨by decide, by decide⟩ ⟨Nat.zero_le _, Nat.zero_le _⟩ (by simp [Value.category]) dX5_drain_88 rfl rfl ?_
                refine z_if_ne (tgt := 99) C dX5_drain_91 (by decide) (fun h_91 => ?_) (fun h_91 => ?_)
                · have g_91 := cv_ne (a := mFM x (nE x)) (b := 0) h_91
                  refine z_aload_n C rfl dX5_drain_99 ?_
                  refine z_iload_n C rfl dX5_drain_100 ?_
                  refine z_iload_n C rfl dX5_drain_101 ?_
                  refine z_iload C rfl dX5_drain_102 ?_
                  have hfx : mNeed x (tn (x 10 0)) (tn (x 11 0) / 4) = true → mFM x (nE x) ≠ 0 := fun _ => g_91
                  refine z_callV (As := [.int (nI (tn (x 10 0))), .int (nI (tn (x 11 0))), .int (x 12 0)]) (r := (some (.int (mPerR x (tn (x 10 0)) (tn (x 11 0)))))) (σ1 := (κ, mPerf x (tn (x 10 0)) (tn (x 11 0)) (x 12 0), o)) (st := []) (st1 := [.int (mPerR x (tn (x 10 0)) (tn (x 11 0)))]) C K ok_X5_123 (c_X5_perform l D n0 κ x o (tn (x 10 0)) (tn (x 11 0)) (x 12 0) hv2 hw2 hDJ hfx) enc_M (by decide) rfl rfl ⟨by decide, by decide⟩ ⟨Nat.zero_le _, Nat.zero_le _⟩ (by simp [Value.category]) dX5_drain_104 rfl rfl ?_
                  refine z_istore (ls' := [some (.ref (n0 + 113)), some (.int 1), some (.int (nI (tn (x 10 0)))), some (.int (nI (tn (x 11 0)))), some (.int (x 12 0)), some (.int (mPerR x (tn (x 10 0)) (tn (x 11 0))))]) C (by decide) rfl dX5_drain_107 ?_
                  refine z_aload_n C rfl dX5_drain_109 ?_
                  refine z_iconst (v := 0) C (by decide +kernel) dX5_drain_110 ?_
                  refine z_callV (As := [.int 0]) (r := none) (σ1 := (κ, mUnq (mPerf x (tn (x 10 0)) (tn (x 11 0)) (x 12 0)) k 0, o)) (st := []) (st1 := []) C K ok_X5_119 (c_X5_unqueue l D n0 κ (mPerf x (tn (x 10 0)) (tn (x 11 0)) (x 12 0)) o k 0 (mD_perf hfx hD).2.1 (by omega) (by omega)) enc_M (by decide) rfl rfl ⟨by decide, by decide⟩ ⟨Nat.zero_le _, Nat.zero_le _⟩ (by simp [Value.category]) dX5_drain_111 rfl rfl ?_
                  refine z_goto (tgt := 14) C dX5_drain_114 (by decide) ?_
                  exact z_cast (ih _ (mD_unq (Nat.zero_le _) (mD_perf (z := x 12 0) hfx hD)) (by rw [mUnq_0, if_neg (by decide), mPerf_0 _ _ _ _ _ (by decide) (by decide) (by decide)]; exact hmd) (by rw [← hX, mDr, if_neg (by rw [g_55]; decide), if_neg (fun q => g_91 q.2)])) rfl ⟨rfl, rfl, trivial⟩ rfl
                · have g_91 := cv_eq (a := mFM x (nE x)) (b := 0) (by omega) (by omega) h_91
                  refine z_iconst (v := 0) C (by decide +kernel) dX5_drain_94 ?_
                  refine z_istore_n (ls' := [some (.ref (n0 + 113)), some (.int 0), some (.int (nI (tn (x 10 0)))), some (.int (nI (tn (x 11 0)))), some (.int (x 12 0)), none]) C (by decide) rfl dX5_drain_95 ?_
                  refine z_goto (tgt := 114) C dX5_drain_96 (by decide) ?_
                  refine z_goto (tgt := 14) C dX5_drain_114 (by decide) ?_
                  refine z_iload_n C rfl dX5_drain_14 ?_
                  refine z_if_eq (tgt := 117) C dX5_drain_15 (by decide) (fun h_15 => ?_) (fun h_15 => ?_)
                  · skip
                    refine z_aload_n C rfl dX5_drain_117 ?_
                    refine z_iload_n C rfl dX5_drain_118 ?_
                    refine z_if_eq (tgt := 126) C dX5_drain_119 (by decide) (fun h_119 => ?_) (fun h_119 => ?_)
                    · skip
                      refine z_aload_n C rfl dX5_drain_126 ?_
                      refine gf_X5_110 (v := x 0 16) C rfl dX5_drain_127 ?_
                      refine pf_X5_110 (x := x 0 16) C dX5_drain_130 ?_
                      exact z_endV (hret _ _ dX5_drain_133) (st_m (by rw [← hX, mDr, if_neg (by rw [g_55]; decide), if_pos ⟨g_84, g_91⟩]))
                    · exact absurd h_119 (by decide +kernel)
                  · exact absurd h_15 (by decide +kernel)
            · have g_55 := cv_b1 h_55
              refine z_aload_n C rfl dX5_drain_58 ?_
              refine z_dup C rfl dX5_drain_59 ?_
              refine gf_X5_116 (v := x 0 21) C rfl dX5_drain_60 ?_
              refine z_iconst (v := 1) C (by decide +kernel) dX5_drain_63 ?_
              refine z_iadd (v := (x 0 21) + 1) C rfl dX5_drain_64 ?_
              refine pf_X5_116 (x := (x 0 21) + 1) C dX5_drain_65 ?_
              refine z_aload_n C rfl dX5_drain_68 ?_
              refine z_iconst (v := 0) C (by decide +kernel) dX5_drain_69 ?_
              refine z_callV (As := [.int 0]) (r := none) (σ1 := (κ, mUnq (up x 0 21 ((x 0 21) + 1)) k 0, o)) (st := []) (st1 := []) C K ok_X5_119 (c_X5_unqueue l D n0 κ (up x 0 21 ((x 0 21) + 1)) o k 0 (mD_up0 (by decide) (by decide) (by decide) hD).2.1 (by omega) (by omega)) enc_M (by decide) rfl rfl ⟨by decide, by decide⟩ ⟨Nat.zero_le _, Nat.zero_le _⟩ (by simp [Value.category]) dX5_drain_70 rfl rfl ?_
              refine z_goto (tgt := 114) C dX5_drain_73 (by decide) ?_
              refine z_goto (tgt := 14) C dX5_drain_114 (by decide) ?_
              exact z_cast (ih _ (mD_unq (Nat.zero_le _) (mD_up0 (i := 21) (z := x 0 21 + 1) (by decide) (by decide) (by decide) hD)) (by rw [mUnq_0, if_neg (by decide), up_ix (by decide)]; exact hmd) (by rw [← hX, mDr, if_pos g_55])) rfl ⟨rfl, rfl, trivial⟩ rfl
    exact z_cast (hl_14 (nQ μ) μ hD h_5 (by unfold mDrain; rw [if_pos h_5])) rfl ⟨rfl, rfl, trivial⟩ rfl
set_option maxHeartbeats 4000000 in
set_option maxRecDepth 100000 in
theorem c_X5_thrown (l : Launch) (D : DD) (n0 : Nat) (κ μ : KH) (o : Int64)  : HM l D n0 yX5_thrown cX5_thrown 1 (some .int) 0 0 [.ref (n0 + 113)] (κ, μ, o) (some (.int (μ 0 0))) (κ, μ, o) := by
  refine HM.of (by decide) (by simp [Value.category]) (by simp) (Or.inr (Or.inl ⟨_, .int, rfl, rfl, rfl⟩)) ?_
  intro pp ee ss mm aa bb me cd Q C K hret
  show ZZ pp l ee (rmk 0 0) ss mm aa bb me cd D n0 127 1 0 0 Q _ 0 [some (.ref (n0 + 113))] []
  refine z_aload_n C rfl dX5_thrown_0 ?_
  refine gf_X5_51 (v := μ 0 0) C rfl dX5_thrown_1 ?_
  exact z_endI (hret _ _ dX5_thrown_4) rfl rfl
set_option maxHeartbeats 4000000 in
set_option maxRecDepth 100000 in
theorem c_X5_write_bad (l : Launch) (D : DD) (n0 : Nat) (κ μ : KH) (o : Int64) (v w x : Int32) (hb : ¬ okW μ v w) (hsz : ∀ i, i < 16 → μ 1 i ≠ 0 → ∃ z : Nat, z ≤ 40 ∧ μ 2 i = nI z) : HM l D n0 yX5_write cX5_write 6 (some .int) 2 41 [.ref (n0 + 113), .int v, .int w, .int x] (κ, μ, o) (some (.int 0)) (κ, up μ 0 0 1, o) := by
  refine HM.of (by decide) (by simp [Value.category]) (by simp) (Or.inr (Or.inl ⟨_, .int, rfl, rfl, rfl⟩)) ?_
  intro pp ee ss mm aa bb me cd Q C K hret
  show ZZ pp l ee (rmk 2 41) ss mm aa bb me cd D n0 127 6 0 0 Q _ 0 [some (.ref (n0 + 113)), some (.int v), some (.int w), some (.int x), none, none] []
  refine z_aload_n C rfl dX5_write_0 ?_
  refine z_aload_n C rfl dX5_write_1 ?_
  refine z_iload_n C rfl dX5_write_2 ?_
  rcases vNum_or v with hv | ⟨j, hj, rfl⟩
  · skip
    refine z_callV (As := [.int v]) (r := (some (.int 0))) (σ1 := (κ, μ, o)) (st := [.ref (n0 + 113)]) (st1 := [.int 0, .ref (n0 + 113)]) C K ok_X5_126 (c_X5_isVolume_n l D n0 κ μ o v hv) enc_M (by decide) rfl rfl ⟨by decide, by decide⟩ ⟨Nat.zero_le _, Nat.zero_le _⟩ (by simp [Value.category]) dX5_write_3 rfl rfl ?_
    refine z_if_eq (tgt := 25) C dX5_write_6 (by decide) (fun h_6 => ?_) (fun h_6 => ?_)
    · skip
      refine z_iconst (v := 1) C (by decide +kernel) dX5_write_25 ?_
      refine z_goto (tgt := 30) C dX5_write_26 (by decide) ?_
      refine pf_X5_51 (x := 1) C dX5_write_30 ?_
      refine z_aload_n C rfl dX5_write_33 ?_
      refine gf_X5_51 (v := 1) C rfl dX5_write_34 ?_
      refine z_if_le (tgt := 42) C dX5_write_37 (by decide) (fun h_37 => ?_) (fun h_37 => ?_)
      · exact absurd h_37 (by decide +kernel)
      · skip
        refine z_iconst (v := 0) C (by decide +kernel) dX5_write_40 ?_
        exact z_endI (hret _ _ dX5_write_41) rfl rfl
    · exact absurd h_6 (by decide +kernel)
  · skip
    refine z_callV (As := [.int (nI j)]) (r := (some (.int (b2i (!decide (μ 1 j = 0)))))) (σ1 := (κ, μ, o)) (st := [.ref (n0 + 113)]) (st1 := [.int (b2i (!decide (μ 1 j = 0))), .ref (n0 + 113)]) C K ok_X5_126 (c_X5_isVolume l D n0 κ μ o j (by omega)) enc_M (by decide) rfl rfl ⟨by decide, by decide⟩ ⟨Nat.zero_le _, Nat.zero_le _⟩ (by simp [Value.category]) dX5_write_3 rfl rfl ?_
    refine z_if_eq (tgt := 25) C dX5_write_6 (by decide) (fun h_6 => ?_) (fun h_6 => ?_)
    · have g_6 := cv_b0 h_6
      refine z_iconst (v := 1) C (by decide +kernel) dX5_write_25 ?_
      refine z_goto (tgt := 30) C dX5_write_26 (by decide) ?_
      refine pf_X5_51 (x := 1) C dX5_write_30 ?_
      refine z_aload_n C rfl dX5_write_33 ?_
      refine gf_X5_51 (v := 1) C rfl dX5_write_34 ?_
      refine z_if_le (tgt := 42) C dX5_write_37 (by decide) (fun h_37 => ?_) (fun h_37 => ?_)
      · exact absurd h_37 (by decide +kernel)
      · skip
        refine z_iconst (v := 0) C (by decide +kernel) dX5_write_40 ?_
        exact z_endI (hret _ _ dX5_write_41) rfl rfl
    · have g_6 := cv_b1 h_6
      refine z_iload_n C rfl dX5_write_9 ?_
      refine z_if_lt (tgt := 25) C dX5_write_10 (by decide) (fun h_10 => ?_) (fun h_10 => ?_)
      · skip
        refine z_iconst (v := 1) C (by decide +kernel) dX5_write_25 ?_
        refine z_goto (tgt := 30) C dX5_write_26 (by decide) ?_
        refine pf_X5_51 (x := 1) C dX5_write_30 ?_
        refine z_aload_n C rfl dX5_write_33 ?_
        refine gf_X5_51 (v := 1) C rfl dX5_write_34 ?_
        refine z_if_le (tgt := 42) C dX5_write_37 (by decide) (fun h_37 => ?_) (fun h_37 => ?_)
        · exact absurd h_37 (by decide +kernel)
        · skip
          refine z_iconst (v := 0) C (by decide +kernel) dX5_write_40 ?_
          exact z_endI (hret _ _ dX5_write_41) rfl rfl
      · skip
        refine z_iload_n C rfl dX5_write_13 ?_
        refine z_iconst (v := 4) C (by decide +kernel) dX5_write_14 ?_
        refine z_aload_n C rfl dX5_write_15 ?_
        refine gf_X5_13 C dX5_write_16 ?_
        refine z_iload_n C rfl dX5_write_19 ?_
        refine al_115 (v := μ 2 j) C (j) rfl (by omega) rfl dX5_write_20 ?_
        refine z_imul (v := 4 * (μ 2 j)) C rfl dX5_write_21 ?_
        refine z_icmp_lt (tgt := 29) C dX5_write_22 (by decide) (fun h_22 => ?_) (fun h_22 => ?_)
        · skip
          exact absurd (okW_of hj g_6 h_10 h_22 hsz) hb
        · skip
          refine z_iconst (v := 1) C (by decide +kernel) dX5_write_25 ?_
          refine z_goto (tgt := 30) C dX5_write_26 (by decide) ?_
          refine pf_X5_51 (x := 1) C dX5_write_30 ?_
          refine z_aload_n C rfl dX5_write_33 ?_
          refine gf_X5_51 (v := 1) C rfl dX5_write_34 ?_
          refine z_if_le (tgt := 42) C dX5_write_37 (by decide) (fun h_37 => ?_) (fun h_37 => ?_)
          · exact absurd h_37 (by decide +kernel)
          · skip
            refine z_iconst (v := 0) C (by decide +kernel) dX5_write_40 ?_
            exact z_endI (hret _ _ dX5_write_41) rfl rfl
set_option maxHeartbeats 4000000 in
set_option maxRecDepth 100000 in
theorem c_X5_read_bad (l : Launch) (D : DD) (n0 : Nat) (κ μ : KH) (o : Int64) (v w : Int32) (hb : ¬ okW μ v w) (hsz : ∀ i, i < 16 → μ 1 i ≠ 0 → ∃ z : Nat, z ≤ 40 ∧ μ 2 i = nI z) : HM l D n0 yX5_read cX5_read 3 (some .int) 2 41 [.ref (n0 + 113), .int v, .int w] (κ, μ, o) (some (.int 0)) (κ, up μ 0 0 1, o) := by
  refine HM.of (by decide) (by simp [Value.category]) (by simp) (Or.inr (Or.inl ⟨_, .int, rfl, rfl, rfl⟩)) ?_
  intro pp ee ss mm aa bb me cd Q C K hret
  show ZZ pp l ee (rmk 2 41) ss mm aa bb me cd D n0 127 3 0 0 Q _ 0 [some (.ref (n0 + 113)), some (.int v), some (.int w)] []
  refine z_aload_n C rfl dX5_read_0 ?_
  refine z_aload_n C rfl dX5_read_1 ?_
  refine z_iload_n C rfl dX5_read_2 ?_
  rcases vNum_or v with hv | ⟨j, hj, rfl⟩
  · skip
    refine z_callV (As := [.int v]) (r := (some (.int 0))) (σ1 := (κ, μ, o)) (st := [.ref (n0 + 113)]) (st1 := [.int 0, .ref (n0 + 113)]) C K ok_X5_126 (c_X5_isVolume_n l D n0 κ μ o v hv) enc_M (by decide) rfl rfl ⟨by decide, by decide⟩ ⟨Nat.zero_le _, Nat.zero_le _⟩ (by simp [Value.category]) dX5_read_3 rfl rfl ?_
    refine z_if_eq (tgt := 25) C dX5_read_6 (by decide) (fun h_6 => ?_) (fun h_6 => ?_)
    · skip
      refine z_iconst (v := 1) C (by decide +kernel) dX5_read_25 ?_
      refine z_goto (tgt := 30) C dX5_read_26 (by decide) ?_
      refine pf_X5_51 (x := 1) C dX5_read_30 ?_
      refine z_aload_n C rfl dX5_read_33 ?_
      refine gf_X5_51 (v := 1) C rfl dX5_read_34 ?_
      refine z_if_ne (tgt := 49) C dX5_read_37 (by decide) (fun h_37 => ?_) (fun h_37 => ?_)
      · skip
        refine z_iconst (v := 0) C (by decide +kernel) dX5_read_49 ?_
        exact z_endI (hret _ _ dX5_read_50) rfl rfl
      · exact absurd h_37 (by decide +kernel)
    · exact absurd h_6 (by decide +kernel)
  · skip
    refine z_callV (As := [.int (nI j)]) (r := (some (.int (b2i (!decide (μ 1 j = 0)))))) (σ1 := (κ, μ, o)) (st := [.ref (n0 + 113)]) (st1 := [.int (b2i (!decide (μ 1 j = 0))), .ref (n0 + 113)]) C K ok_X5_126 (c_X5_isVolume l D n0 κ μ o j (by omega)) enc_M (by decide) rfl rfl ⟨by decide, by decide⟩ ⟨Nat.zero_le _, Nat.zero_le _⟩ (by simp [Value.category]) dX5_read_3 rfl rfl ?_
    refine z_if_eq (tgt := 25) C dX5_read_6 (by decide) (fun h_6 => ?_) (fun h_6 => ?_)
    · have g_6 := cv_b0 h_6
      refine z_iconst (v := 1) C (by decide +kernel) dX5_read_25 ?_
      refine z_goto (tgt := 30) C dX5_read_26 (by decide) ?_
      refine pf_X5_51 (x := 1) C dX5_read_30 ?_
      refine z_aload_n C rfl dX5_read_33 ?_
      refine gf_X5_51 (v := 1) C rfl dX5_read_34 ?_
      refine z_if_ne (tgt := 49) C dX5_read_37 (by decide) (fun h_37 => ?_) (fun h_37 => ?_)
      · skip
        refine z_iconst (v := 0) C (by decide +kernel) dX5_read_49 ?_
        exact z_endI (hret _ _ dX5_read_50) rfl rfl
      · exact absurd h_37 (by decide +kernel)
    · have g_6 := cv_b1 h_6
      refine z_iload_n C rfl dX5_read_9 ?_
      refine z_if_lt (tgt := 25) C dX5_read_10 (by decide) (fun h_10 => ?_) (fun h_10 => ?_)
      · skip
        refine z_iconst (v := 1) C (by decide +kernel) dX5_read_25 ?_
        refine z_goto (tgt := 30) C dX5_read_26 (by decide) ?_
        refine pf_X5_51 (x := 1) C dX5_read_30 ?_
        refine z_aload_n C rfl dX5_read_33 ?_
        refine gf_X5_51 (v := 1) C rfl dX5_read_34 ?_
        refine z_if_ne (tgt := 49) C dX5_read_37 (by decide) (fun h_37 => ?_) (fun h_37 => ?_)
        · skip
          refine z_iconst (v := 0) C (by decide +kernel) dX5_read_49 ?_
          exact z_endI (hret _ _ dX5_read_50) rfl rfl
        · exact absurd h_37 (by decide +kernel)
      · skip
        refine z_iload_n C rfl dX5_read_13 ?_
        refine z_iconst (v := 4) C (by decide +kernel) dX5_read_14 ?_
        refine z_aload_n C rfl dX5_read_15 ?_
        refine gf_X5_13 C dX5_read_16 ?_
        refine z_iload_n C rfl dX5_read_19 ?_
        refine al_115 (v := μ 2 j) C (j) rfl (by omega) rfl dX5_read_20 ?_
        refine z_imul (v := 4 * (μ 2 j)) C rfl dX5_read_21 ?_
        refine z_icmp_lt (tgt := 29) C dX5_read_22 (by decide) (fun h_22 => ?_) (fun h_22 => ?_)
        · skip
          exact absurd (okW_of hj g_6 h_10 h_22 hsz) hb
        · skip
          refine z_iconst (v := 1) C (by decide +kernel) dX5_read_25 ?_
          refine z_goto (tgt := 30) C dX5_read_26 (by decide) ?_
          refine pf_X5_51 (x := 1) C dX5_read_30 ?_
          refine z_aload_n C rfl dX5_read_33 ?_
          refine gf_X5_51 (v := 1) C rfl dX5_read_34 ?_
          refine z_if_ne (tgt := 49) C dX5_read_37 (by decide) (fun h_37 => ?_) (fun h_37 => ?_)
          · skip
            refine z_iconst (v := 0) C (by decide +kernel) dX5_read_49 ?_
            exact z_endI (hret _ _ dX5_read_50) rfl rfl
          · exact absurd h_37 (by decide +kernel)
set_option maxHeartbeats 4000000 in
set_option maxRecDepth 100000 in
theorem c_X5_read (l : Launch) (D : DD) (n0 : Nat) (κ μ : KH) (o : Int64) (j k z : Nat) (hj : j < 16) (h1 : μ 1 j ≠ 0) (hz : μ 2 j = nI z) (hz40 : z ≤ 40) (hk : k < 4 * z) (y : KH) (hy : y = up μ 0 0 0) (hX : isX (y 6 (40 * j + k / 4))) : HM l D n0 yX5_read cX5_read 3 (some .int) 2 45 [.ref (n0 + 113), .int (nI j), .int (nI k)] (κ, μ, o) (some (.int (mWord y j k))) (κ, y, o) := by
  refine HM.of (by decide) (by simp [Value.category]) (by simp) (Or.inr (Or.inl ⟨_, .int, rfl, rfl, rfl⟩)) ?_
  intro pp ee ss mm aa bb me cd Q C K hret
  show ZZ pp l ee (rmk 2 45) ss mm aa bb me cd D n0 127 3 0 0 Q _ 0 [some (.ref (n0 + 113)), some (.int (nI j)), some (.int (nI k))] []
  refine z_aload_n C rfl dX5_read_0 ?_
  refine z_aload_n C rfl dX5_read_1 ?_
  refine z_iload_n C rfl dX5_read_2 ?_
  refine z_callV (As := [.int (nI j)]) (r := (some (.int (b2i (!decide (μ 1 j = 0)))))) (σ1 := (κ, μ, o)) (st := [.ref (n0 + 113)]) (st1 := [.int (b2i (!decide (μ 1 j = 0))), .ref (n0 + 113)]) C K ok_X5_126 (c_X5_isVolume l D n0 κ μ o j (by omega)) enc_M (by decide) rfl rfl ⟨by decide, by decide⟩ ⟨Nat.zero_le _, Nat.zero_le _⟩ (by simp [Value.category]) dX5_read_3 rfl rfl ?_
  refine z_if_eq (tgt := 25) C dX5_read_6 (by decide) (fun h_6 => ?_) (fun h_6 => ?_)
  · have g_6 := cv_b0 h_6
    exact absurd g_6 (by simp [h1])
  · have g_6 := cv_b1 h_6
    refine z_iload_n C rfl dX5_read_9 ?_
    refine z_if_lt (tgt := 25) C dX5_read_10 (by decide) (fun h_10 => ?_) (fun h_10 => ?_)
    · exact absurd h_10 (nI_pos (by omega))
    · skip
      refine z_iload_n C rfl dX5_read_13 ?_
      refine z_iconst (v := 4) C (by decide +kernel) dX5_read_14 ?_
      refine z_aload_n C rfl dX5_read_15 ?_
      refine gf_X5_13 C dX5_read_16 ?_
      refine z_iload_n C rfl dX5_read_19 ?_
      refine al_115 (v := nI z) C (j) rfl (by omega) hz dX5_read_20 ?_
      refine z_imul (v := nI (4 * z)) C (cv_mul 4 z) dX5_read_21 ?_
      refine z_icmp_lt (tgt := 29) C dX5_read_22 (by decide) (fun h_22 => ?_) (fun h_22 => ?_)
      · have g_22 := cv_lt (a := k) (b := 4 * z) (by omega) (by omega) h_22
        refine z_iconst (v := 0) C (by decide +kernel) dX5_read_29 ?_
        refine pf_X5_51 (x := 0) C dX5_read_30 ?_
        rw [← hy]
        refine z_aload_n C rfl dX5_read_33 ?_
        refine gf_X5_51 (v := 0) C (by rw [hy]; exact up_self) dX5_read_34 ?_
        refine z_if_ne (tgt := 49) C dX5_read_37 (by decide) (fun h_37 => ?_) (fun h_37 => ?_)
        · exact absurd h_37 (by decide +kernel)
        · skip
          refine z_aload_n C rfl dX5_read_40 ?_
          refine z_iload_n C rfl dX5_read_41 ?_
          refine z_iload_n C rfl dX5_read_42 ?_
          refine z_callV (As := [.int (nI j), .int (nI k)]) (r := (some (.int (mWord y j k)))) (σ1 := (κ, y, o)) (st := []) (st1 := [.int (mWord y j k)]) C K ok_X5_83 (c_X5_wordOf l D n0 κ y o j k hj (by omega) hX) enc_M (by decide) rfl rfl ⟨by decide, by decide⟩ ⟨Nat.zero_le _, Nat.zero_le _⟩ (by simp [Value.category]) dX5_read_43 rfl rfl ?_
          refine z_goto (tgt := 50) C dX5_read_46 (by decide) ?_
          exact z_endI (hret _ _ dX5_read_50) rfl rfl
      · have g_22 := cv_nlt (a := k) (b := 4 * z) (by omega) (by omega) h_22
        exact absurd g_22 (by omega)
set_option maxHeartbeats 4000000 in
set_option maxRecDepth 100000 in
theorem c_X5_write (l : Launch) (D : DD) (n0 : Nat) (κ μ : KH) (o : Int64) (j k z : Nat) (hj : j < 16) (h1 : μ 1 j ≠ 0) (hz : μ 2 j = nI z) (hz40 : z ≤ 40) (hk : k < 4 * z) (x : Int32) (y : KH) (hy : y = up μ 0 0 0) (hJ : mJ y) (hn : y 0 23 = nI (nQ y)) (hn8 : nQ y ≤ 8) : HM l D n0 yX5_write cX5_write 6 (some .int) 6 140 [.ref (n0 + 113), .int (nI j), .int (nI k), .int x] (κ, μ, o) (some (.int ((mWr y j k x).2))) (κ, (mWr y j k x).1, o) := by
  refine HM.of (by decide) (by simp [Value.category]) (by simp) (Or.inr (Or.inl ⟨_, .int, rfl, rfl, rfl⟩)) ?_
  intro pp ee ss mm aa bb me cd Q C K hret
  show ZZ pp l ee (rmk 6 140) ss mm aa bb me cd D n0 127 6 0 0 Q _ 0 [some (.ref (n0 + 113)), some (.int (nI j)), some (.int (nI k)), some (.int x), none, none] []
  have hE : y 0 9 = nI (nE y) := hJ.1.1
  have hE9 : nE y < 97 := hJ.1.2
  have hfm := mFM_le y (nE y)
  refine z_aload_n C rfl dX5_write_0 ?_
  refine z_aload_n C rfl dX5_write_1 ?_
  refine z_iload_n C rfl dX5_write_2 ?_
  refine z_callV (As := [.int (nI j)]) (r := (some (.int (b2i (!decide (μ 1 j = 0)))))) (σ1 := (κ, μ, o)) (st := [.ref (n0 + 113)]) (st1 := [.int (b2i (!decide (μ 1 j = 0))), .ref (n0 + 113)]) C K ok_X5_126 (c_X5_isVolume l D n0 κ μ o j (by omega)) enc_M (by decide) rfl rfl ⟨by decide, by decide⟩ ⟨Nat.zero_le _, Nat.zero_le _⟩ (by simp [Value.category]) dX5_write_3 rfl rfl ?_
  refine z_if_eq (tgt := 25) C dX5_write_6 (by decide) (fun h_6 => ?_) (fun h_6 => ?_)
  · have g_6 := cv_b0 h_6
    exact absurd g_6 (by simp [h1])
  · have g_6 := cv_b1 h_6
    refine z_iload_n C rfl dX5_write_9 ?_
    refine z_if_lt (tgt := 25) C dX5_write_10 (by decide) (fun h_10 => ?_) (fun h_10 => ?_)
    · exact absurd h_10 (nI_pos (by omega))
    · skip
      refine z_iload_n C rfl dX5_write_13 ?_
      refine z_iconst (v := 4) C (by decide +kernel) dX5_write_14 ?_
      refine z_aload_n C rfl dX5_write_15 ?_
      refine gf_X5_13 C dX5_write_16 ?_
      refine z_iload_n C rfl dX5_write_19 ?_
      refine al_115 (v := nI z) C (j) rfl (by omega) hz dX5_write_20 ?_
      refine z_imul (v := nI (4 * z)) C (cv_mul 4 z) dX5_write_21 ?_
      refine z_icmp_lt (tgt := 29) C dX5_write_22 (by decide) (fun h_22 => ?_) (fun h_22 => ?_)
      · have g_22 := cv_lt (a := k) (b := 4 * z) (by omega) (by omega) h_22
        refine z_iconst (v := 0) C (by decide +kernel) dX5_write_29 ?_
        refine pf_X5_51 (x := 0) C dX5_write_30 ?_
        rw [← hy]
        refine z_aload_n C rfl dX5_write_33 ?_
        refine gf_X5_51 (v := 0) C (by rw [hy]; exact up_self) dX5_write_34 ?_
        refine z_if_le (tgt := 42) C dX5_write_37 (by decide) (fun h_37 => ?_) (fun h_37 => ?_)
        · skip
          refine z_iload_n C rfl dX5_write_42 ?_
          refine z_iconst (v := 4) C (by decide +kernel) dX5_write_43 ?_
          refine z_idiv (v := nI (k / 4)) C (by decide +kernel) (cv_div (by omega) (by decide) (by decide)) dX5_write_44 ?_
          refine z_istore (ls' := [some (.ref (n0 + 113)), some (.int (nI j)), some (.int (nI k)), some (.int x), some (.int (nI (k / 4))), none]) C (by decide) rfl dX5_write_45 ?_
          refine z_aload_n C rfl dX5_write_47 ?_
          refine gf_X5_110 (v := y 0 16) C rfl dX5_write_48 ?_
          refine z_iconst (v := 1) C (by decide +kernel) dX5_write_51 ?_
          refine z_icmp_ne (tgt := 73) C dX5_write_52 (by decide) (fun h_52 => ?_) (fun h_52 => ?_)
          · skip
            refine z_aload_n C rfl dX5_write_73 ?_
            refine z_iload_n C rfl dX5_write_74 ?_
            refine z_iload C rfl dX5_write_75 ?_
            refine z_callV (As := [.int (nI j), .int (nI (k / 4))]) (r := (some (.int (b2i (mOver y j (k / 4)))))) (σ1 := (κ, y, o)) (st := []) (st1 := [.int (b2i (mOver y j (k / 4)))]) C K ok_X5_113 (c_X5_isOver l D n0 κ y o j (k / 4) hj (by omega)) enc_M (by decide) rfl rfl ⟨by decide, by decide⟩ ⟨Nat.zero_le _, Nat.zero_le _⟩ (by simp [Value.category]) dX5_write_77 rfl rfl ?_
            refine z_if_eq (tgt := 85) C dX5_write_80 (by decide) (fun h_80 => ?_) (fun h_80 => ?_)
            · have g_80 := cv_b0 h_80
              refine z_aload_n C rfl dX5_write_85 ?_
              refine z_iload_n C rfl dX5_write_86 ?_
              refine z_iload C rfl dX5_write_87 ?_
              refine z_callV (As := [.int (nI j), .int (nI (k / 4))]) (r := (some (.int (b2i (mNeed y j (k / 4)))))) (σ1 := (κ, y, o)) (st := []) (st1 := [.int (b2i (mNeed y j (k / 4)))]) C K ok_X5_99 (c_X5_needs l D n0 κ y o j (k / 4) hj (by omega)) enc_M (by decide) rfl rfl ⟨by decide, by decide⟩ ⟨Nat.zero_le _, Nat.zero_le _⟩ (by simp [Value.category]) dX5_write_89 rfl rfl ?_
              refine z_if_ne (tgt := 103) C dX5_write_92 (by decide) (fun h_92 => ?_) (fun h_92 => ?_)
              · have g_92 := cv_b1 h_92
                refine z_aload_n C rfl dX5_write_103 ?_
                refine z_callV (As := []) (r := (some (.int (nI (mFM y (nE y)))))) (σ1 := (κ, y, o)) (st := []) (st1 := [.int (nI (mFM y (nE y)))]) C K ok_X5_92 (c_X5_freeMany l D n0 κ y o (nE y) hE (by omega)) enc_M (by decide) rfl rfl ⟨by decide, by decide⟩ ⟨Nat.zero_le _, Nat.zero_le _⟩ (by simp [Value.category]) dX5_write_104 rfl rfl ?_
                refine z_if_le (tgt := 114) C dX5_write_107 (by decide) (fun h_107 => ?_) (fun h_107 => ?_)
                · have g_107 := cv_le (a := mFM y (nE y)) (b := 0) (by omega) (by omega) h_107
                  have hF0 : mFM y (nE y) = 0 := by omega
                  refine z_iconst (v := 0) C (by decide +kernel) dX5_write_114 ?_
                  refine z_istore (ls' := [some (.ref (n0 + 113)), some (.int (nI j)), some (.int (nI k)), some (.int x), some (.int (nI (k / 4))), some (.int 0)]) C (by decide) rfl dX5_write_115 ?_
                  refine z_aload_n C rfl dX5_write_117 ?_
                  refine gf_X5_110 (v := y 0 16) C rfl dX5_write_118 ?_
                  refine z_if_ne (tgt := 158) C dX5_write_121 (by decide) (fun h_121 => ?_) (fun h_121 => ?_)
                  · skip
                    refine z_aload_n C rfl dX5_write_158 ?_
                    refine gf_X5_110 (v := y 0 16) C rfl dX5_write_159 ?_
                    refine z_iconst (v := 1) C (by decide +kernel) dX5_write_162 ?_
                    refine z_icmp_ne (tgt := 174) C dX5_write_163 (by decide) (fun h_163 => ?_) (fun h_163 => ?_)
                    · skip
                      refine z_iload C rfl dX5_write_174 ?_
                      refine z_if_ne (tgt := 181) C dX5_write_176 (by decide) (fun h_176 => ?_) (fun h_176 => ?_)
                      · exact absurd h_176 (by decide +kernel)
                      · skip
                        refine z_iconst (v := (-1)) C (by decide +kernel) dX5_write_179 ?_
                        exact z_endI (hret _ _ dX5_write_180) (ri (mWr_5 (fun q => absurd q.1 h_52) g_80 g_92 (mWm_i (fun q => h_121 q.1)) h_163 hF0)) (rs (mWr_5 (fun q => absurd q.1 h_52) g_80 g_92 (mWm_i (fun q => h_121 q.1)) h_163 hF0))
                    · skip
                      refine z_aload_n C rfl dX5_write_166 ?_
                      refine z_iload_n C rfl dX5_write_167 ?_
                      refine z_iload_n C rfl dX5_write_168 ?_
                      refine z_iload_n C rfl dX5_write_169 ?_
                      by_cases h8e : nQ y = 8
                      · skip
                        refine z_callV (As := [.int (nI j), .int (nI k), .int x]) (r := (some (.int ((-1))))) (σ1 := (κ, y, o)) (st := []) (st1 := [.int ((-1))]) C K ok_X5_132 (c_X5_enqueue_n l D n0 κ y o (nI j) (nI k) x ((hn : y 0 23 = nI (nQ y)).trans (by rw [h8e]))) enc_M (by decide) rfl rfl ⟨by decide, by decide⟩ ⟨Nat.zero_le _, Nat.zero_le _⟩ (by simp [Value.category]) dX5_write_170 rfl rfl ?_
                        exact z_endI (hret _ _ dX5_write_173) (ri ((mWr_4 (fun q => absurd q.1 h_52) g_80 g_92 (mWm_i (fun q => h_121 q.1)) h_163).trans (mEn_e h8e))) (rs ((mWr_4 (fun q => absurd q.1 h_52) g_80 g_92 (mWm_i (fun q => h_121 q.1)) h_163).trans (mEn_e h8e)))
                      · have h8n : ¬ nQ y = 8 := h8e
                        refine z_callV (As := [.int (nI j), .int (nI k), .int x]) (r := (some (.int 3))) (σ1 := (κ, mEnq y (nQ y) (nI j) (nI k) x, o)) (st := []) (st1 := [.int 3]) C K ok_X5_132 (c_X5_enqueue l D n0 κ y o (nQ y) (nI j) (nI k) x hn (by omega)) enc_M (by decide) rfl rfl ⟨by decide, by decide⟩ ⟨Nat.zero_le _, Nat.zero_le _⟩ (by simp [Value.category]) dX5_write_170 rfl rfl ?_
                        exact z_endI (hret _ _ dX5_write_173) (ri ((mWr_4 (fun q => absurd q.1 h_52) g_80 g_92 (mWm_i (fun q => h_121 q.1)) h_163).trans (mEn_l h8n))) (rs ((mWr_4 (fun q => absurd q.1 h_52) g_80 g_92 (mWm_i (fun q => h_121 q.1)) h_163).trans (mEn_l h8n)))
                  · skip
                    refine z_iload C rfl dX5_write_124 ?_
                    refine z_if_ne (tgt := 158) C dX5_write_126 (by decide) (fun h_126 => ?_) (fun h_126 => ?_)
                    · exact absurd h_126 (by decide +kernel)
                    · skip
                      refine z_aload_n C rfl dX5_write_129 ?_
                      refine z_aload_n C rfl dX5_write_130 ?_
                      refine gf_X5_135 (v := y 0 17) C rfl dX5_write_131 ?_
                      refine z_if_le (tgt := 141) C dX5_write_134 (by decide) (fun h_134 => ?_) (fun h_134 => ?_)
                      · have hp : ¬ 0 < y 0 17 := Int32.not_lt.mpr h_134
                        refine z_iconst (v := 2) C (by decide +kernel) dX5_write_141 ?_
                        refine pf_X5_110 (x := 2) C dX5_write_142 ?_
                        refine z_aload_n C rfl dX5_write_145 ?_
                        refine z_aload_n C rfl dX5_write_146 ?_
                        refine gf_X5_135 (v := y 0 17) C rfl dX5_write_147 ?_
                        refine pf_X5_138 (x := y 0 17) C dX5_write_150 ?_
                        refine z_aload_n C rfl dX5_write_153 ?_
                        refine z_iconst (v := 0) C (by decide +kernel) dX5_write_154 ?_
                        refine pf_X5_141 (x := 0) C dX5_write_155 ?_
                        refine z_aload_n C rfl dX5_write_158 ?_
                        refine gf_X5_110 (v := 2) C rfl dX5_write_159 ?_
                        refine z_iconst (v := 1) C (by decide +kernel) dX5_write_162 ?_
                        refine z_icmp_ne (tgt := 174) C dX5_write_163 (by decide) (fun h_163 => ?_) (fun h_163 => ?_)
                        · skip
                          refine z_iload C rfl dX5_write_174 ?_
                          refine z_if_ne (tgt := 181) C dX5_write_176 (by decide) (fun h_176 => ?_) (fun h_176 => ?_)
                          · exact absurd h_176 (by decide +kernel)
                          · skip
                            refine z_iconst (v := (-1)) C (by decide +kernel) dX5_write_179 ?_
                            exact z_endI (hret _ _ dX5_write_180) (ri (mWr_5 (fun q => absurd q.1 h_52) g_80 g_92 (mWm_n h_121 hF0 hp) (by show ¬ (2 : Int32) = 1; decide +kernel) hF0)) (rs (mWr_5 (fun q => absurd q.1 h_52) g_80 g_92 (mWm_n h_121 hF0 hp) (by show ¬ (2 : Int32) = 1; decide +kernel) hF0))
                        · exact absurd h_163 (by decide +kernel)
                      · have hp : 0 < y 0 17 := Int32.not_le.mp h_134
                        refine z_iconst (v := 1) C (by decide +kernel) dX5_write_137 ?_
                        refine z_goto (tgt := 142) C dX5_write_138 (by decide) ?_
                        refine pf_X5_110 (x := 1) C dX5_write_142 ?_
                        refine z_aload_n C rfl dX5_write_145 ?_
                        refine z_aload_n C rfl dX5_write_146 ?_
                        refine gf_X5_135 (v := y 0 17) C rfl dX5_write_147 ?_
                        refine pf_X5_138 (x := y 0 17) C dX5_write_150 ?_
                        refine z_aload_n C rfl dX5_write_153 ?_
                        refine z_iconst (v := 0) C (by decide +kernel) dX5_write_154 ?_
                        refine pf_X5_141 (x := 0) C dX5_write_155 ?_
                        refine z_aload_n C rfl dX5_write_158 ?_
                        refine gf_X5_110 (v := 1) C rfl dX5_write_159 ?_
                        refine z_iconst (v := 1) C (by decide +kernel) dX5_write_162 ?_
                        refine z_icmp_ne (tgt := 174) C dX5_write_163 (by decide) (fun h_163 => ?_) (fun h_163 => ?_)
                        · exact absurd h_163 (by decide +kernel)
                        · skip
                          refine z_aload_n C rfl dX5_write_166 ?_
                          refine z_iload_n C rfl dX5_write_167 ?_
                          refine z_iload_n C rfl dX5_write_168 ?_
                          refine z_iload_n C rfl dX5_write_169 ?_
                          by_cases h8e : nQ y = 8
                          · skip
                            refine z_callV (As := [.int (nI j), .int (nI k), .int x]) (r := (some (.int ((-1))))) (σ1 := (κ, up (up (up y 0 16 1) 0 18 (y 0 17)) 0 19 0, o)) (st := []) (st1 := [.int ((-1))]) C K ok_X5_132 (c_X5_enqueue_n l D n0 κ (up (up (up y 0 16 1) 0 18 (y 0 17)) 0 19 0) o (nI j) (nI k) x (((by simp [up]; exact hn) : up (up (up y 0 16 1) 0 18 (y 0 17)) 0 19 0 0 23 = nI (nQ y)).trans (by rw [h8e]))) enc_M (by decide) rfl rfl ⟨by decide, by decide⟩ ⟨Nat.zero_le _, Nat.zero_le _⟩ (by simp [Value.category]) dX5_write_170 rfl rfl ?_
                            exact z_endI (hret _ _ dX5_write_173) (ri ((mWr_4 (fun q => absurd q.1 h_52) g_80 g_92 (mWm_p h_121 hF0 hp) rfl).trans (mEn_e h8e))) (rs ((mWr_4 (fun q => absurd q.1 h_52) g_80 g_92 (mWm_p h_121 hF0 hp) rfl).trans (mEn_e h8e)))
                          · have h8n : ¬ nQ y = 8 := h8e
                            refine z_callV (As := [.int (nI j), .int (nI k), .int x]) (r := (some (.int 3))) (σ1 := (κ, mEnq (up (up (up y 0 16 1) 0 18 (y 0 17)) 0 19 0) (nQ y) (nI j) (nI k) x, o)) (st := []) (st1 := [.int 3]) C K ok_X5_132 (c_X5_enqueue l D n0 κ (up (up (up y 0 16 1) 0 18 (y 0 17)) 0 19 0) o (nQ y) (nI j) (nI k) x (by simp [up]; exact hn) (by omega)) enc_M (by decide) rfl rfl ⟨by decide, by decide⟩ ⟨Nat.zero_le _, Nat.zero_le _⟩ (by simp [Value.category]) dX5_write_170 rfl rfl ?_
                            exact z_endI (hret _ _ dX5_write_173) (ri ((mWr_4 (fun q => absurd q.1 h_52) g_80 g_92 (mWm_p h_121 hF0 hp) rfl).trans (mEn_l h8n))) (rs ((mWr_4 (fun q => absurd q.1 h_52) g_80 g_92 (mWm_p h_121 hF0 hp) rfl).trans (mEn_l h8n)))
                · have g_107 := cv_nle (a := mFM y (nE y)) (b := 0) (by omega) (by omega) h_107
                  have hF1 : ¬ mFM y (nE y) = 0 := by omega
                  refine z_iconst (v := 1) C (by decide +kernel) dX5_write_110 ?_
                  refine z_goto (tgt := 115) C dX5_write_111 (by decide) ?_
                  refine z_istore (ls' := [some (.ref (n0 + 113)), some (.int (nI j)), some (.int (nI k)), some (.int x), some (.int (nI (k / 4))), some (.int 1)]) C (by decide) rfl dX5_write_115 ?_
                  refine z_aload_n C rfl dX5_write_117 ?_
                  refine gf_X5_110 (v := y 0 16) C rfl dX5_write_118 ?_
                  refine z_if_ne (tgt := 158) C dX5_write_121 (by decide) (fun h_121 => ?_) (fun h_121 => ?_)
                  · skip
                    refine z_aload_n C rfl dX5_write_158 ?_
                    refine gf_X5_110 (v := y 0 16) C rfl dX5_write_159 ?_
                    refine z_iconst (v := 1) C (by decide +kernel) dX5_write_162 ?_
                    refine z_icmp_ne (tgt := 174) C dX5_write_163 (by decide) (fun h_163 => ?_) (fun h_163 => ?_)
                    · skip
                      refine z_iload C rfl dX5_write_174 ?_
                      refine z_if_ne (tgt := 181) C dX5_write_176 (by decide) (fun h_176 => ?_) (fun h_176 => ?_)
                      · skip
                        refine z_aload_n C rfl dX5_write_181 ?_
                        refine z_iconst (v := 0) C (by decide +kernel) dX5_write_182 ?_
                        refine pf_X5_110 (x := 0) C dX5_write_183 ?_
                        refine z_aload_n C rfl dX5_write_186 ?_
                        refine z_iload_n C rfl dX5_write_187 ?_
                        refine z_iload_n C rfl dX5_write_188 ?_
                        refine z_iload_n C rfl dX5_write_189 ?_
                        refine z_callV (As := [.int (nI j), .int (nI k), .int x]) (r := (some (.int (mPerR (up y 0 16 0) j k)))) (σ1 := (κ, mPerf (up y 0 16 0) j k x, o)) (st := []) (st1 := [.int (mPerR (up y 0 16 0) j k)]) C K ok_X5_123 (c_X5_perform l D n0 κ (up y 0 16 0) o j k x hj (by omega) (mJ_up0 (by decide) (by decide) hJ) (fun _ => by rw [mFM_cg (up_cell (by decide)) (up_cell (by decide))]; exact hF1)) enc_M (by decide) rfl rfl ⟨by decide, by decide⟩ ⟨Nat.zero_le _, Nat.zero_le _⟩ (by simp [Value.category]) dX5_write_190 rfl rfl ?_
                        exact z_endI (hret _ _ dX5_write_193) (ri (mWr_6 (fun q => absurd q.1 h_52) g_80 g_92 (mWm_i (fun q => h_121 q.1)) h_163 hF1)) (rs (mWr_6 (fun q => absurd q.1 h_52) g_80 g_92 (mWm_i (fun q => h_121 q.1)) h_163 hF1))
                      · exact absurd h_176 (by decide +kernel)
                    · skip
                      refine z_aload_n C rfl dX5_write_166 ?_
                      refine z_iload_n C rfl dX5_write_167 ?_
                      refine z_iload_n C rfl dX5_write_168 ?_
                      refine z_iload_n C rfl dX5_write_169 ?_
                      by_cases h8e : nQ y = 8
                      · skip
                        refine z_callV (As := [.int (nI j), .int (nI k), .int x]) (r := (some (.int ((-1))))) (σ1 := (κ, y, o)) (st := []) (st1 := [.int ((-1))]) C K ok_X5_132 (c_X5_enqueue_n l D n0 κ y o (nI j) (nI k) x ((hn : y 0 23 = nI (nQ y)).trans (by rw [h8e]))) enc_M (by decide) rfl rfl ⟨by decide, by decide⟩ ⟨Nat.zero_le _, Nat.zero_le _⟩ (by simp [Value.category]) dX5_write_170 rfl rfl ?_
                        exact z_endI (hret _ _ dX5_write_173) (ri ((mWr_4 (fun q => absurd q.1 h_52) g_80 g_92 (mWm_i (fun q => h_121 q.1)) h_163).trans (mEn_e h8e))) (rs ((mWr_4 (fun q => absurd q.1 h_52) g_80 g_92 (mWm_i (fun q => h_121 q.1)) h_163).trans (mEn_e h8e)))
                      · have h8n : ¬ nQ y = 8 := h8e
                        refine z_callV (As := [.int (nI j), .int (nI k), .int x]) (r := (some (.int 3))) (σ1 := (κ, mEnq y (nQ y) (nI j) (nI k) x, o)) (st := []) (st1 := [.int 3]) C K ok_X5_132 (c_X5_enqueue l D n0 κ y o (nQ y) (nI j) (nI k) x hn (by omega)) enc_M (by decide) rfl rfl ⟨by decide, by decide⟩ ⟨Nat.zero_le _, Nat.zero_le _⟩ (by simp [Value.category]) dX5_write_170 rfl rfl ?_
                        exact z_endI (hret _ _ dX5_write_173) (ri ((mWr_4 (fun q => absurd q.1 h_52) g_80 g_92 (mWm_i (fun q => h_121 q.1)) h_163).trans (mEn_l h8n))) (rs ((mWr_4 (fun q => absurd q.1 h_52) g_80 g_92 (mWm_i (fun q => h_121 q.1)) h_163).trans (mEn_l h8n)))
                  · skip
                    refine z_iload C rfl dX5_write_124 ?_
                    refine z_if_ne (tgt := 158) C dX5_write_126 (by decide) (fun h_126 => ?_) (fun h_126 => ?_)
                    · skip
                      refine z_aload_n C rfl dX5_write_158 ?_
                      refine gf_X5_110 (v := y 0 16) C rfl dX5_write_159 ?_
                      refine z_iconst (v := 1) C (by decide +kernel) dX5_write_162 ?_
                      refine z_icmp_ne (tgt := 174) C dX5_write_163 (by decide) (fun h_163 => ?_) (fun h_163 => ?_)
                      · skip
                        refine z_iload C rfl dX5_write_174 ?_
                        refine z_if_ne (tgt := 181) C dX5_write_176 (by decide) (fun h_176 => ?_) (fun h_176 => ?_)
                        · skip
                          refine z_aload_n C rfl dX5_write_181 ?_
                          refine z_iconst (v := 0) C (by decide +kernel) dX5_write_182 ?_
                          refine pf_X5_110 (x := 0) C dX5_write_183 ?_
                          refine z_aload_n C rfl dX5_write_186 ?_
                          refine z_iload_n C rfl dX5_write_187 ?_
                          refine z_iload_n C rfl dX5_write_188 ?_
                          refine z_iload_n C rfl dX5_write_189 ?_
                          refine z_callV (As := [.int (nI j), .int (nI k), .int x]) (r := (some (.int (mPerR (up y 0 16 0) j k)))) (σ1 := (κ, mPerf (up y 0 16 0) j k x, o)) (st := []) (st1 := [.int (mPerR (up y 0 16 0) j k)]) C K ok_X5_123 (c_X5_perform l D n0 κ (up y 0 16 0) o j k x hj (by omega) (mJ_up0 (by decide) (by decide) hJ) (fun _ => by rw [mFM_cg (up_cell (by decide)) (up_cell (by decide))]; exact hF1)) enc_M (by decide) rfl rfl ⟨by decide, by decide⟩ ⟨Nat.zero_le _, Nat.zero_le _⟩ (by simp [Value.category]) dX5_write_190 rfl rfl ?_
                          exact z_endI (hret _ _ dX5_write_193) (ri (mWr_6 (fun q => absurd q.1 h_52) g_80 g_92 (mWm_i (fun q => hF1 q.2)) h_163 hF1)) (rs (mWr_6 (fun q => absurd q.1 h_52) g_80 g_92 (mWm_i (fun q => hF1 q.2)) h_163 hF1))
                        · exact absurd h_176 (by decide +kernel)
                      · skip
                        refine z_aload_n C rfl dX5_write_166 ?_
                        refine z_iload_n C rfl dX5_write_167 ?_
                        refine z_iload_n C rfl dX5_write_168 ?_
                        refine z_iload_n C rfl dX5_write_169 ?_
                        by_cases h8e : nQ y = 8
                        · skip
                          refine z_callV (As := [.int (nI j), .int (nI k), .int x]) (r := (some (.int ((-1))))) (σ1 := (κ, y, o)) (st := []) (st1 := [.int ((-1))]) C K ok_X5_132 (c_X5_enqueue_n l D n0 κ y o (nI j) (nI k) x ((hn : y 0 23 = nI (nQ y)).trans (by rw [h8e]))) enc_M (by decide) rfl rfl ⟨by decide, by decide⟩ ⟨Nat.zero_le _, Nat.zero_le _⟩ (by simp [Value.category]) dX5_write_170 rfl rfl ?_
                          exact z_endI (hret _ _ dX5_write_173) (ri ((mWr_4 (fun q => absurd q.1 h_52) g_80 g_92 (mWm_i (fun q => hF1 q.2)) h_163).trans (mEn_e h8e))) (rs ((mWr_4 (fun q => absurd q.1 h_52) g_80 g_92 (mWm_i (fun q => hF1 q.2)) h_163).trans (mEn_e h8e)))
                        · have h8n : ¬ nQ y = 8 := h8e
                          refine z_callV (As := [.int (nI j), .int (nI k), .int x]) (r := (some (.int 3))) (σ1 := (κ, mEnq y (nQ y) (nI j) (nI k) x, o)) (st := []) (st1 := [.int 3]) C K ok_X5_132 (c_X5_enqueue l D n0 κ y o (nQ y) (nI j) (nI k) x hn (by omega)) enc_M (by decide) rfl rfl ⟨by decide, by decide⟩ ⟨Nat.zero_le _, Nat.zero_le _⟩ (by simp [Value.category]) dX5_write_170 rfl rfl ?_
                          exact z_endI (hret _ _ dX5_write_173) (ri ((mWr_4 (fun q => absurd q.1 h_52) g_80 g_92 (mWm_i (fun q => hF1 q.2)) h_163).trans (mEn_l h8n))) (rs ((mWr_4 (fun q => absurd q.1 h_52) g_80 g_92 (mWm_i (fun q => hF1 q.2)) h_163).trans (mEn_l h8n)))
                    · exact absurd h_126 (by decide +kernel)
              · have g_92 := cv_b0 h_92
                refine z_aload_n C rfl dX5_write_95 ?_
                refine z_iload_n C rfl dX5_write_96 ?_
                refine z_iload_n C rfl dX5_write_97 ?_
                refine z_iload_n C rfl dX5_write_98 ?_
                refine z_callV (As := [.int (nI j), .int (nI k), .int x]) (r := (some (.int (mPerR y j k)))) (σ1 := (κ, mPerf y j k x, o)) (st := []) (st1 := [.int (mPerR y j k)]) C K ok_X5_123 (c_X5_perform l D n0 κ y o j k x hj (by omega) hJ (fun q => absurd q (by rw [g_92]; decide))) enc_M (by decide) rfl rfl ⟨by decide, by decide⟩ ⟨Nat.zero_le _, Nat.zero_le _⟩ (by simp [Value.category]) dX5_write_99 rfl rfl ?_
                exact z_endI (hret _ _ dX5_write_102) (ri (mWr_3 (fun q => absurd q.1 h_52) g_80 g_92)) (rs (mWr_3 (fun q => absurd q.1 h_52) g_80 g_92))
            · have g_80 := cv_b1 h_80
              refine z_iconst (v := (-1)) C (by decide +kernel) dX5_write_83 ?_
              exact z_endI (hret _ _ dX5_write_84) (ri (mWr_2 (fun q => absurd q.1 h_52) g_80)) (rs (mWr_2 (fun q => absurd q.1 h_52) g_80))
          · skip
            refine z_aload_n C rfl dX5_write_55 ?_
            refine z_iload_n C rfl dX5_write_56 ?_
            refine z_iload C rfl dX5_write_57 ?_
            refine z_callV (As := [.int (nI j), .int (nI (k / 4))]) (r := (some (.int (b2i (mWait y (nQ y) j (k / 4)))))) (σ1 := (κ, y, o)) (st := []) (st1 := [.int (b2i (mWait y (nQ y) j (k / 4)))]) C K ok_X5_129 (c_X5_waits l D n0 κ y o (nQ y) j (k / 4) hn hn8) enc_M (by decide) rfl rfl ⟨by decide, by decide⟩ ⟨Nat.zero_le _, Nat.zero_le _⟩ (by simp [Value.category]) dX5_write_59 rfl rfl ?_
            refine z_if_eq (tgt := 73) C dX5_write_62 (by decide) (fun h_62 => ?_) (fun h_62 => ?_)
            · have g_62 := cv_b0 h_62
              refine z_aload_n C rfl dX5_write_73 ?_
              refine z_iload_n C rfl dX5_write_74 ?_
              refine z_iload C rfl dX5_write_75 ?_
              refine z_callV (As := [.int (nI j), .int (nI (k / 4))]) (r := (some (.int (b2i (mOver y j (k / 4)))))) (σ1 := (κ, y, o)) (st := []) (st1 := [.int (b2i (mOver y j (k / 4)))]) C K ok_X5_113 (c_X5_isOver l D n0 κ y o j (k / 4) hj (by omega)) enc_M (by decide) rfl rfl ⟨by decide, by decide⟩ ⟨Nat.zero_le _, Nat.zero_le _⟩ (by simp [Value.category]) dX5_write_77 rfl rfl ?_
              refine z_if_eq (tgt := 85) C dX5_write_80 (by decide) (fun h_80 => ?_) (fun h_80 => ?_)
              · have g_80 := cv_b0 h_80
                refine z_aload_n C rfl dX5_write_85 ?_
                refine z_iload_n C rfl dX5_write_86 ?_
                refine z_iload C rfl dX5_write_87 ?_
                refine z_callV (As := [.int (nI j), .int (nI (k / 4))]) (r := (some (.int (b2i (mNeed y j (k / 4)))))) (σ1 := (κ, y, o)) (st := []) (st1 := [.int (b2i (mNeed y j (k / 4)))]) C K ok_X5_99 (c_X5_needs l D n0 κ y o j (k / 4) hj (by omega)) enc_M (by decide) rfl rfl ⟨by decide, by decide⟩ ⟨Nat.zero_le _, Nat.zero_le _⟩ (by simp [Value.category]) dX5_write_89 rfl rfl ?_
                refine z_if_ne (tgt := 103) C dX5_write_92 (by decide) (fun h_92 => ?_) (fun h_92 => ?_)
                · have g_92 := cv_b1 h_92
                  refine z_aload_n C rfl dX5_write_103 ?_
                  refine z_callV (As := []) (r := (some (.int (nI (mFM y (nE y)))))) (σ1 := (κ, y, o)) (st := []) (st1 := [.int (nI (mFM y (nE y)))]) C K ok_X5_92 (c_X5_freeMany l D n0 κ y o (nE y) hE (by omega)) enc_M (by decide) rfl rfl ⟨by decide, by decide⟩ ⟨Nat.zero_le _, Nat.zero_le _⟩ (by simp [Value.category]) dX5_write_104 rfl rfl ?_
                  refine z_if_le (tgt := 114) C dX5_write_107 (by decide) (fun h_107 => ?_) (fun h_107 => ?_)
                  · have g_107 := cv_le (a := mFM y (nE y)) (b := 0) (by omega) (by omega) h_107
                    have hF0 : mFM y (nE y) = 0 := by omega
                    refine z_iconst (v := 0) C (by decide +kernel) dX5_write_114 ?_
                    refine z_istore (ls' := [some (.ref (n0 + 113)), some (.int (nI j)), some (.int (nI k)), some (.int x), some (.int (nI (k / 4))), some (.int 0)]) C (by decide) rfl dX5_write_115 ?_
                    refine z_aload_n C rfl dX5_write_117 ?_
                    refine gf_X5_110 (v := y 0 16) C rfl dX5_write_118 ?_
                    refine z_if_ne (tgt := 158) C dX5_write_121 (by decide) (fun h_121 => ?_) (fun h_121 => ?_)
                    · skip
                      refine z_aload_n C rfl dX5_write_158 ?_
                      refine gf_X5_110 (v := y 0 16) C rfl dX5_write_159 ?_
                      refine z_iconst (v := 1) C (by decide +kernel) dX5_write_162 ?_
                      refine z_icmp_ne (tgt := 174) C dX5_write_163 (by decide) (fun h_163 => ?_) (fun h_163 => ?_)
                      · skip
                        refine z_iload C rfl dX5_write_174 ?_
                        refine z_if_ne (tgt := 181) C dX5_write_176 (by decide) (fun h_176 => ?_) (fun h_176 => ?_)
                        · exact absurd h_176 (by decide +kernel)
                        · skip
                          refine z_iconst (v := (-1)) C (by decide +kernel) dX5_write_179 ?_
                          exact z_endI (hret _ _ dX5_write_180) (ri (mWr_5 (fun q => absurd q.2 (by rw [g_62]; decide)) g_80 g_92 (mWm_i (fun q => h_121 q.1)) h_163 hF0)) (rs (mWr_5 (fun q => absurd q.2 (by rw [g_62]; decide)) g_80 g_92 (mWm_i (fun q => h_121 q.1)) h_163 hF0))
                      · skip
                        refine z_aload_n C rfl dX5_write_166 ?_
                        refine z_iload_n C rfl dX5_write_167 ?_
                        refine z_iload_n C rfl dX5_write_168 ?_
                        refine z_iload_n C rfl dX5_write_169 ?_
                        by_cases h8e : nQ y = 8
                        · skip
                          refine z_callV (As := [.int (nI j), .int (nI k), .int x]) (r := (some (.int ((-1))))) (σ1 := (κ, y, o)) (st := []) (st1 := [.int ((-1))]) C K ok_X5_132 (c_X5_enqueue_n l D n0 κ y o (nI j) (nI k) x ((hn : y 0 23 = nI (nQ y)).trans (by rw [h8e]))) enc_M (by decide) rfl rfl ⟨by decide, by decide⟩ ⟨Nat.zero_le _, Nat.zero_le _⟩ (by simp [Value.category]) dX5_write_170 rfl rfl ?_
                          exact z_endI (hret _ _ dX5_write_173) (ri ((mWr_4 (fun q => absurd q.2 (by rw [g_62]; decide)) g_80 g_92 (mWm_i (fun q => h_121 q.1)) h_163).trans (mEn_e h8e))) (rs ((mWr_4 (fun q => absurd q.2 (by rw [g_62]; decide)) g_80 g_92 (mWm_i (fun q => h_121 q.1)) h_163).trans (mEn_e h8e)))
                        · have h8n : ¬ nQ y = 8 := h8e
                          refine z_callV (As := [.int (nI j), .int (nI k), .int x]) (r := (some (.int 3))) (σ1 := (κ, mEnq y (nQ y) (nI j) (nI k) x, o)) (st := []) (st1 := [.int 3]) C K ok_X5_132 (c_X5_enqueue l D n0 κ y o (nQ y) (nI j) (nI k) x hn (by omega)) enc_M (by decide) rfl rfl ⟨by decide, by decide⟩ ⟨Nat.zero_le _, Nat.zero_le _⟩ (by simp [Value.category]) dX5_write_170 rfl rfl ?_
                          exact z_endI (hret _ _ dX5_write_173) (ri ((mWr_4 (fun q => absurd q.2 (by rw [g_62]; decide)) g_80 g_92 (mWm_i (fun q => h_121 q.1)) h_163).trans (mEn_l h8n))) (rs ((mWr_4 (fun q => absurd q.2 (by rw [g_62]; decide)) g_80 g_92 (mWm_i (fun q => h_121 q.1)) h_163).trans (mEn_l h8n)))
                    · skip
                      refine z_iload C rfl dX5_write_124 ?_
                      refine z_if_ne (tgt := 158) C dX5_write_126 (by decide) (fun h_126 => ?_) (fun h_126 => ?_)
                      · exact absurd h_126 (by decide +kernel)
                      · skip
                        refine z_aload_n C rfl dX5_write_129 ?_
                        refine z_aload_n C rfl dX5_write_130 ?_
                        refine gf_X5_135 (v := y 0 17) C rfl dX5_write_131 ?_
                        refine z_if_le (tgt := 141) C dX5_write_134 (by decide) (fun h_134 => ?_) (fun h_134 => ?_)
                        · have hp : ¬ 0 < y 0 17 := Int32.not_lt.mpr h_134
                          refine z_iconst (v := 2) C (by decide +kernel) dX5_write_141 ?_
                          refine pf_X5_110 (x := 2) C dX5_write_142 ?_
                          refine z_aload_n C rfl dX5_write_145 ?_
                          refine z_aload_n C rfl dX5_write_146 ?_
                          refine gf_X5_135 (v := y 0 17) C rfl dX5_write_147 ?_
                          refine pf_X5_138 (x := y 0 17) C dX5_write_150 ?_
                          refine z_aload_n C rfl dX5_write_153 ?_
                          refine z_iconst (v := 0) C (by decide +kernel) dX5_write_154 ?_
                          refine pf_X5_141 (x := 0) C dX5_write_155 ?_
                          refine z_aload_n C rfl dX5_write_158 ?_
                          refine gf_X5_110 (v := 2) C rfl dX5_write_159 ?_
                          refine z_iconst (v := 1) C (by decide +kernel) dX5_write_162 ?_
                          refine z_icmp_ne (tgt := 174) C dX5_write_163 (by decide) (fun h_163 => ?_) (fun h_163 => ?_)
                          · skip
                            refine z_iload C rfl dX5_write_174 ?_
                            refine z_if_ne (tgt := 181) C dX5_write_176 (by decide) (fun h_176 => ?_) (fun h_176 => ?_)
                            · exact absurd h_176 (by decide +kernel)
                            · skip
                              refine z_iconst (v := (-1)) C (by decide +kernel) dX5_write_179 ?_
                              exact z_endI (hret _ _ dX5_write_180) (ri (mWr_5 (fun q => absurd q.2 (by rw [g_62]; decide)) g_80 g_92 (mWm_n h_121 hF0 hp) (by show ¬ (2 : Int32) = 1; decide +kernel) hF0)) (rs (mWr_5 (fun q => absurd q.2 (by rw [g_62]; decide)) g_80 g_92 (mWm_n h_121 hF0 hp) (by show ¬ (2 : Int32) = 1; decide +kernel) hF0))
                          · exact absurd h_163 (by decide +kernel)
                        · have hp : 0 < y 0 17 := Int32.not_le.mp h_134
                          refine z_iconst (v := 1) C (by decide +kernel) dX5_write_137 ?_
                          refine z_goto (tgt := 142) C dX5_write_138 (by decide) ?_
                          refine pf_X5_110 (x := 1) C dX5_write_142 ?_
                          refine z_aload_n C rfl dX5_write_145 ?_
                          refine z_aload_n C rfl dX5_write_146 ?_
                          refine gf_X5_135 (v := y 0 17) C rfl dX5_write_147 ?_
                          refine pf_X5_138 (x := y 0 17) C dX5_write_150 ?_
                          refine z_aload_n C rfl dX5_write_153 ?_
                          refine z_iconst (v := 0) C (by decide +kernel) dX5_write_154 ?_
                          refine pf_X5_141 (x := 0) C dX5_write_155 ?_
                          refine z_aload_n C rfl dX5_write_158 ?_
                          refine gf_X5_110 (v := 1) C rfl dX5_write_159 ?_
                          refine z_iconst (v := 1) C (by decide +kernel) dX5_write_162 ?_
                          refine z_icmp_ne (tgt := 174) C dX5_write_163 (by decide) (fun h_163 => ?_) (fun h_163 => ?_)
                          · exact absurd h_163 (by decide +kernel)
                          · skip
                            refine z_aload_n C rfl dX5_write_166 ?_
                            refine z_iload_n C rfl dX5_write_167 ?_
                            refine z_iload_n C rfl dX5_write_168 ?_
                            refine z_iload_n C rfl dX5_write_169 ?_
                            by_cases h8e : nQ y = 8
                            · skip
                              refine z_callV (As := [.int (nI j), .int (nI k), .int x]) (r := (some (.int ((-1))))) (σ1 := (κ, up (up (up y 0 16 1) 0 18 (y 0 17)) 0 19 0, o)) (st := []) (st1 := [.int ((-1))]) C K ok_X5_132 (c_X5_enqueue_n l D n0 κ (up (up (up y 0 16 1) 0 18 (y 0 17)) 0 19 0) o (nI j) (nI k) x (((by simp [up]; exact hn) : up (up (up y 0 16 1) 0 18 (y 0 17)) 0 19 0 0 23 = nI (nQ y)).trans (by rw [h8e]))) enc_M (by decide) rfl rfl ⟨by decide, by decide⟩ ⟨Nat.zero_le _, Nat.zero_le _⟩ (by simp [Value.category]) dX5_write_170 rfl rfl ?_
                              exact z_endI (hret _ _ dX5_write_173) (ri ((mWr_4 (fun q => absurd q.2 (by rw [g_62]; decide)) g_80 g_92 (mWm_p h_121 hF0 hp) rfl).trans (mEn_e h8e))) (rs ((mWr_4 (fun q => absurd q.2 (by rw [g_62]; decide)) g_80 g_92 (mWm_p h_121 hF0 hp) rfl).trans (mEn_e h8e)))
                            · have h8n : ¬ nQ y = 8 := h8e
                              refine z_callV (As := [.int (nI j), .int (nI k), .int x]) (r := (some (.int 3))) (σ1 := (κ, mEnq (up (up (up y 0 16 1) 0 18 (y 0 17)) 0 19 0) (nQ y) (nI j) (nI k) x, o)) (st := []) (st1 := [.int 3]) C K ok_X5_132 (c_X5_enqueue l D n0 κ (up (up (up y 0 16 1) 0 18 (y 0 17)) 0 19 0) o (nQ y) (nI j) (nI k) x (by simp [up]; exact hn) (by omega)) enc_M (by decide) rfl rfl ⟨by decide, by decide⟩ ⟨Nat.zero_le _, Nat.zero_le _⟩ (by simp [Value.category]) dX5_write_170 rfl rfl ?_
                              exact z_endI (hret _ _ dX5_write_173) (ri ((mWr_4 (fun q => absurd q.2 (by rw [g_62]; decide)) g_80 g_92 (mWm_p h_121 hF0 hp) rfl).trans (mEn_l h8n))) (rs ((mWr_4 (fun q => absurd q.2 (by rw [g_62]; decide)) g_80 g_92 (mWm_p h_121 hF0 hp) rfl).trans (mEn_l h8n)))
                  · have g_107 := cv_nle (a := mFM y (nE y)) (b := 0) (by omega) (by omega) h_107
                    have hF1 : ¬ mFM y (nE y) = 0 := by omega
                    refine z_iconst (v := 1) C (by decide +kernel) dX5_write_110 ?_
                    refine z_goto (tgt := 115) C dX5_write_111 (by decide) ?_
                    refine z_istore (ls' := [some (.ref (n0 + 113)), some (.int (nI j)), some (.int (nI k)), some (.int x), some (.int (nI (k / 4))), some (.int 1)]) C (by decide) rfl dX5_write_115 ?_
                    refine z_aload_n C rfl dX5_write_117 ?_
                    refine gf_X5_110 (v := y 0 16) C rfl dX5_write_118 ?_
                    refine z_if_ne (tgt := 158) C dX5_write_121 (by decide) (fun h_121 => ?_) (fun h_121 => ?_)
                    · skip
                      refine z_aload_n C rfl dX5_write_158 ?_
                      refine gf_X5_110 (v := y 0 16) C rfl dX5_write_159 ?_
                      refine z_iconst (v := 1) C (by decide +kernel) dX5_write_162 ?_
                      refine z_icmp_ne (tgt := 174) C dX5_write_163 (by decide) (fun h_163 => ?_) (fun h_163 => ?_)
                      · skip
                        refine z_iload C rfl dX5_write_174 ?_
                        refine z_if_ne (tgt := 181) C dX5_write_176 (by decide) (fun h_176 => ?_) (fun h_176 => ?_)
                        · skip
                          refine z_aload_n C rfl dX5_write_181 ?_
                          refine z_iconst (v := 0) C (by decide +kernel) dX5_write_182 ?_
                          refine pf_X5_110 (x := 0) C dX5_write_183 ?_
                          refine z_aload_n C rfl dX5_write_186 ?_
                          refine z_iload_n C rfl dX5_write_187 ?_
                          refine z_iload_n C rfl dX5_write_188 ?_
                          refine z_iload_n C rfl dX5_write_189 ?_
                          refine z_callV (As := [.int (nI j), .int (nI k), .int x]) (r := (some (.int (mPerR (up y 0 16 0) j k)))) (σ1 := (κ, mPerf (up y 0 16 0) j k x, o)) (st := []) (st1 := [.int (mPerR (up y 0 16 0) j k)]) C K ok_X5_123 (c_X5_perform l D n0 κ (up y 0 16 0) o j k x hj (by omega) (mJ_up0 (by decide) (by decide) hJ) (fun _ => by rw [mFM_cg (up_cell (by decide)) (up_cell (by decide))]; exact hF1)) enc_M (by decide) rfl rfl ⟨by decide, by decide⟩ ⟨Nat.zero_le _, Nat.zero_le _⟩ (by simp [Value.category]) dX5_write_190 rfl rfl ?_
                          exact z_endI (hret _ _ dX5_write_193) (ri (mWr_6 (fun q => absurd q.2 (by rw [g_62]; decide)) g_80 g_92 (mWm_i (fun q => h_121 q.1)) h_163 hF1)) (rs (mWr_6 (fun q => absurd q.2 (by rw [g_62]; decide)) g_80 g_92 (mWm_i (fun q => h_121 q.1)) h_163 hF1))
                        · exact absurd h_176 (by decide +kernel)
                      · skip
                        refine z_aload_n C rfl dX5_write_166 ?_
                        refine z_iload_n C rfl dX5_write_167 ?_
                        refine z_iload_n C rfl dX5_write_168 ?_
                        refine z_iload_n C rfl dX5_write_169 ?_
                        by_cases h8e : nQ y = 8
                        · skip
                          refine z_callV (As := [.int (nI j), .int (nI k), .int x]) (r := (some (.int ((-1))))) (σ1 := (κ, y, o)) (st := []) (st1 := [.int ((-1))]) C K ok_X5_132 (c_X5_enqueue_n l D n0 κ y o (nI j) (nI k) x ((hn : y 0 23 = nI (nQ y)).trans (by rw [h8e]))) enc_M (by decide) rfl rfl ⟨by decide, by decide⟩ ⟨Nat.zero_le _, Nat.zero_le _⟩ (by simp [Value.category]) dX5_write_170 rfl rfl ?_
                          exact z_endI (hret _ _ dX5_write_173) (ri ((mWr_4 (fun q => absurd q.2 (by rw [g_62]; decide)) g_80 g_92 (mWm_i (fun q => h_121 q.1)) h_163).trans (mEn_e h8e))) (rs ((mWr_4 (fun q => absurd q.2 (by rw [g_62]; decide)) g_80 g_92 (mWm_i (fun q => h_121 q.1)) h_163).trans (mEn_e h8e)))
                        · have h8n : ¬ nQ y = 8 := h8e
                          refine z_callV (As := [.int (nI j), .int (nI k), .int x]) (r := (some (.int 3))) (σ1 := (κ, mEnq y (nQ y) (nI j) (nI k) x, o)) (st := []) (st1 := [.int 3]) C K ok_X5_132 (c_X5_enqueue l D n0 κ y o (nQ y) (nI j) (nI k) x hn (by omega)) enc_M (by decide) rfl rfl ⟨by decide, by decide⟩ ⟨Nat.zero_le _, Nat.zero_le _⟩ (by simp [Value.category]) dX5_write_170 rfl rfl ?_
                          exact z_endI (hret _ _ dX5_write_173) (ri ((mWr_4 (fun q => absurd q.2 (by rw [g_62]; decide)) g_80 g_92 (mWm_i (fun q => h_121 q.1)) h_163).trans (mEn_l h8n))) (rs ((mWr_4 (fun q => absurd q.2 (by rw [g_62]; decide)) g_80 g_92 (mWm_i (fun q => h_121 q.1)) h_163).trans (mEn_l h8n)))
                    · skip
                      refine z_iload C rfl dX5_write_124 ?_
                      refine z_if_ne (tgt := 158) C dX5_write_126 (by decide) (fun h_126 => ?_) (fun h_126 => ?_)
                      · skip
                        refine z_aload_n C rfl dX5_write_158 ?_
                        refine gf_X5_110 (v := y 0 16) C rfl dX5_write_159 ?_
                        refine z_iconst (v := 1) C (by decide +kernel) dX5_write_162 ?_
                        refine z_icmp_ne (tgt := 174) C dX5_write_163 (by decide) (fun h_163 => ?_) (fun h_163 => ?_)
                        · skip
                          refine z_iload C rfl dX5_write_174 ?_
                          refine z_if_ne (tgt := 181) C dX5_write_176 (by decide) (fun h_176 => ?_) (fun h_176 => ?_)
                          · skip
                            refine z_aload_n C rfl dX5_write_181 ?_
                            refine z_iconst (v := 0) C (by decide +kernel) dX5_write_182 ?_
                            refine pf_X5_110 (x := 0) C dX5_write_183 ?_
                            refine z_aload_n C rfl dX5_write_186 ?_
                            refine z_iload_n C rfl dX5_write_187 ?_
                            refine z_iload_n C rfl dX5_write_188 ?_
                            refine z_iload_n C rfl dX5_write_189 ?_
                            refine z_callV (As := [.int (nI j), .int (nI k), .int x]) (r := (some (.int (mPerR (up y 0 16 0) j k)))) (σ1 := (κ, mPerf (up y 0 16 0) j k x, o)) (st := []) (st1 := [.int (mPerR (up y 0 16 0) j k)]) C K ok_X5_123 (c_X5_perform l D n0 κ (up y 0 16 0) o j k x hj (by omega) (mJ_up0 (by decide) (by decide) hJ) (fun _ => by rw [mFM_cg (up_cell (by decide)) (up_cell (by decide))]; exact hF1)) enc_M (by decide) rfl rfl ⟨by decide, by decide⟩ ⟨Nat.zero_le _, Nat.zero_le _⟩ (by simp [Value.category]) dX5_write_190 rfl rfl ?_
                            exact z_endI (hret _ _ dX5_write_193) (ri (mWr_6 (fun q => absurd q.2 (by rw [g_62]; decide)) g_80 g_92 (mWm_i (fun q => hF1 q.2)) h_163 hF1)) (rs (mWr_6 (fun q => absurd q.2 (by rw [g_62]; decide)) g_80 g_92 (mWm_i (fun q => hF1 q.2)) h_163 hF1))
                          · exact absurd h_176 (by decide +kernel)
                        · skip
                          refine z_aload_n C rfl dX5_write_166 ?_
                          refine z_iload_n C rfl dX5_write_167 ?_
                          refine z_iload_n C rfl dX5_write_168 ?_
                          refine z_iload_n C rfl dX5_write_169 ?_
                          by_cases h8e : nQ y = 8
                          · skip
                            refine z_callV (As := [.int (nI j), .int (nI k), .int x]) (r := (some (.int ((-1))))) (σ1 := (κ, y, o)) (st := []) (st1 := [.int ((-1))]) C K ok_X5_132 (c_X5_enqueue_n l D n0 κ y o (nI j) (nI k) x ((hn : y 0 23 = nI (nQ y)).trans (by rw [h8e]))) enc_M (by decide) rfl rfl ⟨by decide, by decide⟩ ⟨Nat.zero_le _, Nat.zero_le _⟩ (by simp [Value.category]) dX5_write_170 rfl rfl ?_
                            exact z_endI (hret _ _ dX5_write_173) (ri ((mWr_4 (fun q => absurd q.2 (by rw [g_62]; decide)) g_80 g_92 (mWm_i (fun q => hF1 q.2)) h_163).trans (mEn_e h8e))) (rs ((mWr_4 (fun q => absurd q.2 (by rw [g_62]; decide)) g_80 g_92 (mWm_i (fun q => hF1 q.2)) h_163).trans (mEn_e h8e)))
                          · have h8n : ¬ nQ y = 8 := h8e
                            refine z_callV (As := [.int (nI j), .int (nI k), .int x]) (r := (some (.int 3))) (σ1 := (κ, mEnq y (nQ y) (nI j) (nI k) x, o)) (st := []) (st1 := [.int 3]) C K ok_X5_132 (c_X5_enqueue l D n0 κ y o (nQ y) (nI j) (nI k) x hn (by omega)) enc_M (by decide) rfl rfl ⟨by decide, by decide⟩ ⟨Nat.zero_le _, Nat.zero_le _⟩ (by simp [Value.category]) dX5_write_170 rfl rfl ?_
                            exact z_endI (hret _ _ dX5_write_173) (ri ((mWr_4 (fun q => absurd q.2 (by rw [g_62]; decide)) g_80 g_92 (mWm_i (fun q => hF1 q.2)) h_163).trans (mEn_l h8n))) (rs ((mWr_4 (fun q => absurd q.2 (by rw [g_62]; decide)) g_80 g_92 (mWm_i (fun q => hF1 q.2)) h_163).trans (mEn_l h8n)))
                      · exact absurd h_126 (by decide +kernel)
                · have g_92 := cv_b0 h_92
                  refine z_aload_n C rfl dX5_write_95 ?_
                  refine z_iload_n C rfl dX5_write_96 ?_
                  refine z_iload_n C rfl dX5_write_97 ?_
                  refine z_iload_n C rfl dX5_write_98 ?_
                  refine z_callV (As := [.int (nI j), .int (nI k), .int x]) (r := (some (.int (mPerR y j k)))) (σ1 := (κ, mPerf y j k x, o)) (st := []) (st1 := [.int (mPerR y j k)]) C K ok_X5_123 (c_X5_perform l D n0 κ y o j k x hj (by omega) hJ (fun q => absurd q (by rw [g_92]; decide))) enc_M (by decide) rfl rfl ⟨by decide, by decide⟩ ⟨Nat.zero_le _, Nat.zero_le _⟩ (by simp [Value.category]) dX5_write_99 rfl rfl ?_
                  exact z_endI (hret _ _ dX5_write_102) (ri (mWr_3 (fun q => absurd q.2 (by rw [g_62]; decide)) g_80 g_92)) (rs (mWr_3 (fun q => absurd q.2 (by rw [g_62]; decide)) g_80 g_92))
              · have g_80 := cv_b1 h_80
                refine z_iconst (v := (-1)) C (by decide +kernel) dX5_write_83 ?_
                exact z_endI (hret _ _ dX5_write_84) (ri (mWr_2 (fun q => absurd q.2 (by rw [g_62]; decide)) g_80)) (rs (mWr_2 (fun q => absurd q.2 (by rw [g_62]; decide)) g_80))
            · have g_62 := cv_b1 h_62
              refine z_aload_n C rfl dX5_write_65 ?_
              refine z_iload_n C rfl dX5_write_66 ?_
              refine z_iload_n C rfl dX5_write_67 ?_
              refine z_iload_n C rfl dX5_write_68 ?_
              by_cases h8e : nQ y = 8
              · skip
                refine z_callV (As := [.int (nI j), .int (nI k), .int x]) (r := (some (.int ((-1))))) (σ1 := (κ, y, o)) (st := []) (st1 := [.int ((-1))]) C K ok_X5_132 (c_X5_enqueue_n l D n0 κ y o (nI j) (nI k) x ((hn : y 0 23 = nI (nQ y)).trans (by rw [h8e]))) enc_M (by decide) rfl rfl ⟨by decide, by decide⟩ ⟨Nat.zero_le _, Nat.zero_le _⟩ (by simp [Value.category]) dX5_write_69 rfl rfl ?_
                exact z_endI (hret _ _ dX5_write_72) (ri ((mWr_1 h_52 g_62).trans (mEn_e h8e))) (rs ((mWr_1 h_52 g_62).trans (mEn_e h8e)))
              · have h8n : ¬ nQ y = 8 := h8e
                refine z_callV (As := [.int (nI j), .int (nI k), .int x]) (r := (some (.int 3))) (σ1 := (κ, mEnq y (nQ y) (nI j) (nI k) x, o)) (st := []) (st1 := [.int 3]) C K ok_X5_132 (c_X5_enqueue l D n0 κ y o (nQ y) (nI j) (nI k) x hn (by omega)) enc_M (by decide) rfl rfl ⟨by decide, by decide⟩ ⟨Nat.zero_le _, Nat.zero_le _⟩ (by simp [Value.category]) dX5_write_69 rfl rfl ?_
                exact z_endI (hret _ _ dX5_write_72) (ri ((mWr_1 h_52 g_62).trans (mEn_l h8n))) (rs ((mWr_1 h_52 g_62).trans (mEn_l h8n)))
        · exact absurd h_37 (by decide +kernel)
      · have g_22 := cv_nlt (a := k) (b := 4 * z) (by omega) (by omega) h_22
        exact absurd g_22 (by omega)
end
