section
-- ===== PART A: goes FIRST, ahead of the names: the tables' words, and 'selects' of the private methods out of them =====
/-- a private method of a class that the tables say can be made, by its rows of tables_1 -/
def lw_okq (q : MethodName × Nat) : Prop := (q.1.cls ≠ "java/lang/invoke/MethodHandle" ∧ q.1.cls ≠ "java/lang/invoke/VarHandle") ∧ Cond.instantiable q.1.cls q.2 ∈ tables_1 ∧ Cond.privateMethod q.1 ∈ tables_1 ∧ Cond.instanceMethod q.1 ∈ tables_1
theorem lw_p0 : lw_okq (⟨"ThinExtents", "writeHead", "()V"⟩, 13) := ⟨⟨by decide +kernel, by decide +kernel⟩, List.mem_of_getElem? (i := 16) (by decide +kernel), List.mem_of_getElem? (i := 195) (by decide +kernel), List.mem_of_getElem? (i := 196) (by decide +kernel)⟩
theorem lw_p1 : lw_okq (⟨"ThinExtents", "serveQueue", "()V"⟩, 13) := ⟨⟨by decide +kernel, by decide +kernel⟩, List.mem_of_getElem? (i := 16) (by decide +kernel), List.mem_of_getElem? (i := 211) (by decide +kernel), List.mem_of_getElem? (i := 212) (by decide +kernel)⟩
theorem lw_p2 : lw_okq (⟨"ThinExtents", "serveFirst", "()Z"⟩, 13) := ⟨⟨by decide +kernel, by decide +kernel⟩, List.mem_of_getElem? (i := 16) (by decide +kernel), List.mem_of_getElem? (i := 215) (by decide +kernel), List.mem_of_getElem? (i := 216) (by decide +kernel)⟩
theorem lw_p3 : lw_okq (⟨"ThinExtents", "isOver", "(LThinExtents$Volume;I)Z"⟩, 13) := ⟨⟨by decide +kernel, by decide +kernel⟩, List.mem_of_getElem? (i := 16) (by decide +kernel), List.mem_of_getElem? (i := 235) (by decide +kernel), List.mem_of_getElem? (i := 236) (by decide +kernel)⟩
theorem lw_p4 : lw_okq (⟨"ThinExtents", "needsExtent", "(LThinExtents$Volume;I)Z"⟩, 13) := ⟨⟨by decide +kernel, by decide +kernel⟩, List.mem_of_getElem? (i := 16) (by decide +kernel), List.mem_of_getElem? (i := 243) (by decide +kernel), List.mem_of_getElem? (i := 244) (by decide +kernel)⟩
theorem lw_p5 : lw_okq (⟨"ThinExtents", "perform", "(LThinExtents$Volume;II)I"⟩, 13) := ⟨⟨by decide +kernel, by decide +kernel⟩, List.mem_of_getElem? (i := 16) (by decide +kernel), List.mem_of_getElem? (i := 267) (by decide +kernel), List.mem_of_getElem? (i := 268) (by decide +kernel)⟩
theorem lw_p6 : lw_okq (⟨"ThinExtents", "wordOf", "(LThinExtents$Volume;I)I"⟩, 13) := ⟨⟨by decide +kernel, by decide +kernel⟩, List.mem_of_getElem? (i := 16) (by decide +kernel), List.mem_of_getElem? (i := 279) (by decide +kernel), List.mem_of_getElem? (i := 280) (by decide +kernel)⟩
theorem lw_p7 : lw_okq (⟨"ThinExtents$Queue", "put", "(IIII)V"⟩, 4) := ⟨⟨by decide +kernel, by decide +kernel⟩, List.mem_of_getElem? (i := 127) (by decide +kernel), List.mem_of_getElem? (i := 303) (by decide +kernel), List.mem_of_getElem? (i := 304) (by decide +kernel)⟩
theorem lw_p8 : lw_okq (⟨"ThinExtents", "numbered", "(I)LThinExtents$Volume;"⟩, 13) := ⟨⟨by decide +kernel, by decide +kernel⟩, List.mem_of_getElem? (i := 16) (by decide +kernel), List.mem_of_getElem? (i := 330) (by decide +kernel), List.mem_of_getElem? (i := 331) (by decide +kernel)⟩
theorem lw_p9 : lw_okq (⟨"java/lang/Throwable", "fillInStackTrace", "(I)Ljava/lang/Throwable;"⟩, 6) := ⟨⟨by decide +kernel, by decide +kernel⟩, List.mem_of_getElem? (i := 373) (by decide +kernel), List.mem_of_getElem? (i := 371) (by decide +kernel), List.mem_of_getElem? (i := 372) (by decide +kernel)⟩
theorem lw_p10 : lw_okq (⟨"ThinExtents", "requireSize", "(I)V"⟩, 13) := ⟨⟨by decide +kernel, by decide +kernel⟩, List.mem_of_getElem? (i := 16) (by decide +kernel), List.mem_of_getElem? (i := 403) (by decide +kernel), List.mem_of_getElem? (i := 404) (by decide +kernel)⟩
theorem lw_p11 : lw_okq (⟨"ThinExtents", "existing", "(I)LThinExtents$Volume;"⟩, 13) := ⟨⟨by decide +kernel, by decide +kernel⟩, List.mem_of_getElem? (i := 16) (by decide +kernel), List.mem_of_getElem? (i := 450) (by decide +kernel), List.mem_of_getElem? (i := 451) (by decide +kernel)⟩
theorem lw_p12 : lw_okq (⟨"ThinExtents", "requireNoneWaits", "(III)V"⟩, 13) := ⟨⟨by decide +kernel, by decide +kernel⟩, List.mem_of_getElem? (i := 16) (by decide +kernel), List.mem_of_getElem? (i := 482) (by decide +kernel), List.mem_of_getElem? (i := 483) (by decide +kernel)⟩
theorem lw_p13 : lw_okq (⟨"ThinExtents", "requireWord", "(LThinExtents$Volume;I)V"⟩, 13) := ⟨⟨by decide +kernel, by decide +kernel⟩, List.mem_of_getElem? (i := 16) (by decide +kernel), List.mem_of_getElem? (i := 498) (by decide +kernel), List.mem_of_getElem? (i := 499) (by decide +kernel)⟩
theorem lw_p14 : lw_okq (⟨"ThinExtents", "enqueue", "(III)I"⟩, 13) := ⟨⟨by decide +kernel, by decide +kernel⟩, List.mem_of_getElem? (i := 16) (by decide +kernel), List.mem_of_getElem? (i := 503) (by decide +kernel), List.mem_of_getElem? (i := 504) (by decide +kernel)⟩
theorem lw_p15 : lw_okq (⟨"ThinExtents", "writeNeeding", "(LThinExtents$Volume;III)I"⟩, 13) := ⟨⟨by decide +kernel, by decide +kernel⟩, List.mem_of_getElem? (i := 16) (by decide +kernel), List.mem_of_getElem? (i := 511) (by decide +kernel), List.mem_of_getElem? (i := 512) (by decide +kernel)⟩
def lw_privs_1 : List (MethodName × Nat) := [(⟨"ThinExtents", "writeHead", "()V"⟩, 13), (⟨"ThinExtents", "serveQueue", "()V"⟩, 13), (⟨"ThinExtents", "serveFirst", "()Z"⟩, 13), (⟨"ThinExtents", "isOver", "(LThinExtents$Volume;I)Z"⟩, 13), (⟨"ThinExtents", "needsExtent", "(LThinExtents$Volume;I)Z"⟩, 13), (⟨"ThinExtents", "perform", "(LThinExtents$Volume;II)I"⟩, 13), (⟨"ThinExtents", "wordOf", "(LThinExtents$Volume;I)I"⟩, 13), (⟨"ThinExtents$Queue", "put", "(IIII)V"⟩, 4), (⟨"ThinExtents", "numbered", "(I)LThinExtents$Volume;"⟩, 13), (⟨"java/lang/Throwable", "fillInStackTrace", "(I)Ljava/lang/Throwable;"⟩, 6), (⟨"ThinExtents", "requireSize", "(I)V"⟩, 13), (⟨"ThinExtents", "existing", "(I)LThinExtents$Volume;"⟩, 13), (⟨"ThinExtents", "requireNoneWaits", "(III)V"⟩, 13), (⟨"ThinExtents", "requireWord", "(LThinExtents$Volume;I)V"⟩, 13), (⟨"ThinExtents", "enqueue", "(III)I"⟩, 13), (⟨"ThinExtents", "writeNeeding", "(LThinExtents$Volume;III)I"⟩, 13)]
theorem lw_r1 : ∀ q ∈ lw_privs_1, lw_okq q := List.forall_mem_cons.mpr ⟨lw_p0, List.forall_mem_cons.mpr ⟨lw_p1, List.forall_mem_cons.mpr ⟨lw_p2, List.forall_mem_cons.mpr ⟨lw_p3, List.forall_mem_cons.mpr ⟨lw_p4, List.forall_mem_cons.mpr ⟨lw_p5, List.forall_mem_cons.mpr ⟨lw_p6, List.forall_mem_cons.mpr ⟨lw_p7, List.forall_mem_cons.mpr ⟨lw_p8, List.forall_mem_cons.mpr ⟨lw_p9, List.forall_mem_cons.mpr ⟨lw_p10, List.forall_mem_cons.mpr ⟨lw_p11, List.forall_mem_cons.mpr ⟨lw_p12, List.forall_mem_cons.mpr ⟨lw_p13, List.forall_mem_cons.mpr ⟨lw_p14, List.forall_mem_cons.mpr ⟨lw_p15, fun _ h => absurd h List.not_mem_nil⟩⟩⟩⟩⟩⟩⟩⟩⟩⟩⟩⟩⟩⟩⟩⟩
theorem lw_p16 : lw_okq (⟨"ThinExtents", "requireNotNegative", "(I)V"⟩, 13) := ⟨⟨by decide +kernel, by decide +kernel⟩, List.mem_of_getElem? (i := 16) (by decide +kernel), List.mem_of_getElem? (i := 537) (by decide +kernel), List.mem_of_getElem? (i := 538) (by decide +kernel)⟩
theorem lw_p17 : lw_okq (⟨"ThinExtents", "stateOf", "(I)LThinExtents$State;"⟩, 13) := ⟨⟨by decide +kernel, by decide +kernel⟩, List.mem_of_getElem? (i := 16) (by decide +kernel), List.mem_of_getElem? (i := 581) (by decide +kernel), List.mem_of_getElem? (i := 582) (by decide +kernel)⟩
theorem lw_p18 : lw_okq (⟨"ThinExtents", "countShared", "(LThinExtents$Volume;)I"⟩, 13) := ⟨⟨by decide +kernel, by decide +kernel⟩, List.mem_of_getElem? (i := 16) (by decide +kernel), List.mem_of_getElem? (i := 649) (by decide +kernel), List.mem_of_getElem? (i := 650) (by decide +kernel)⟩
theorem lw_p19 : lw_okq (⟨"ThinExtents", "countRuns", "(LThinExtents$Volume;LThinExtents$Volume;)I"⟩, 13) := ⟨⟨by decide +kernel, by decide +kernel⟩, List.mem_of_getElem? (i := 16) (by decide +kernel), List.mem_of_getElem? (i := 665) (by decide +kernel), List.mem_of_getElem? (i := 666) (by decide +kernel)⟩
theorem lw_p20 : lw_okq (⟨"ThinExtents", "sortOf", "(LThinExtents$Volume;LThinExtents$Volume;I)I"⟩, 13) := ⟨⟨by decide +kernel, by decide +kernel⟩, List.mem_of_getElem? (i := 16) (by decide +kernel), List.mem_of_getElem? (i := 669) (by decide +kernel), List.mem_of_getElem? (i := 670) (by decide +kernel)⟩
theorem lw_p21 : lw_okq (⟨"ThinExtents", "countSort", "(LThinExtents$Volume;LThinExtents$Volume;I)I"⟩, 13) := ⟨⟨by decide +kernel, by decide +kernel⟩, List.mem_of_getElem? (i := 16) (by decide +kernel), List.mem_of_getElem? (i := 673) (by decide +kernel), List.mem_of_getElem? (i := 674) (by decide +kernel)⟩
theorem lw_p22 : lw_okq (⟨"ThinExtents", "requireExtent", "(I)V"⟩, 13) := ⟨⟨by decide +kernel, by decide +kernel⟩, List.mem_of_getElem? (i := 16) (by decide +kernel), List.mem_of_getElem? (i := 684) (by decide +kernel), List.mem_of_getElem? (i := 685) (by decide +kernel)⟩
theorem lw_p23 : lw_okq (⟨"ThinExtentsModel", "isVolume", "(I)Z"⟩, 27) := ⟨⟨by decide +kernel, by decide +kernel⟩, List.mem_of_getElem? (i := 708) (by decide +kernel), List.mem_of_getElem? (i := 805) (by decide +kernel), List.mem_of_getElem? (i := 806) (by decide +kernel)⟩
theorem lw_p24 : lw_okq (⟨"ThinExtentsModel", "waits", "(II)Z"⟩, 27) := ⟨⟨by decide +kernel, by decide +kernel⟩, List.mem_of_getElem? (i := 708) (by decide +kernel), List.mem_of_getElem? (i := 812) (by decide +kernel), List.mem_of_getElem? (i := 813) (by decide +kernel)⟩
theorem lw_p25 : lw_okq (⟨"ThinExtentsModel", "enqueue", "(III)I"⟩, 27) := ⟨⟨by decide +kernel, by decide +kernel⟩, List.mem_of_getElem? (i := 708) (by decide +kernel), List.mem_of_getElem? (i := 816) (by decide +kernel), List.mem_of_getElem? (i := 817) (by decide +kernel)⟩
theorem lw_p26 : lw_okq (⟨"ThinExtentsModel", "isOver", "(II)Z"⟩, 27) := ⟨⟨by decide +kernel, by decide +kernel⟩, List.mem_of_getElem? (i := 708) (by decide +kernel), List.mem_of_getElem? (i := 820) (by decide +kernel), List.mem_of_getElem? (i := 821) (by decide +kernel)⟩
theorem lw_p27 : lw_okq (⟨"ThinExtentsModel", "mapped", "(I)I"⟩, 27) := ⟨⟨by decide +kernel, by decide +kernel⟩, List.mem_of_getElem? (i := 708) (by decide +kernel), List.mem_of_getElem? (i := 827) (by decide +kernel), List.mem_of_getElem? (i := 828) (by decide +kernel)⟩
theorem lw_p28 : lw_okq (⟨"ThinExtentsModel", "needs", "(II)Z"⟩, 27) := ⟨⟨by decide +kernel, by decide +kernel⟩, List.mem_of_getElem? (i := 708) (by decide +kernel), List.mem_of_getElem? (i := 831) (by decide +kernel), List.mem_of_getElem? (i := 832) (by decide +kernel)⟩
theorem lw_p29 : lw_okq (⟨"ThinExtentsModel", "isSole", "(I)Z"⟩, 27) := ⟨⟨by decide +kernel, by decide +kernel⟩, List.mem_of_getElem? (i := 708) (by decide +kernel), List.mem_of_getElem? (i := 835) (by decide +kernel), List.mem_of_getElem? (i := 836) (by decide +kernel)⟩
theorem lw_p30 : lw_okq (⟨"ThinExtentsModel", "usersOf", "(II)I"⟩, 27) := ⟨⟨by decide +kernel, by decide +kernel⟩, List.mem_of_getElem? (i := 708) (by decide +kernel), List.mem_of_getElem? (i := 839) (by decide +kernel), List.mem_of_getElem? (i := 840) (by decide +kernel)⟩
theorem lw_p31 : lw_okq (⟨"ThinExtentsModel", "perform", "(III)I"⟩, 27) := ⟨⟨by decide +kernel, by decide +kernel⟩, List.mem_of_getElem? (i := 708) (by decide +kernel), List.mem_of_getElem? (i := 843) (by decide +kernel), List.mem_of_getElem? (i := 844) (by decide +kernel)⟩
def lw_privs_2 : List (MethodName × Nat) := [(⟨"ThinExtents", "requireNotNegative", "(I)V"⟩, 13), (⟨"ThinExtents", "stateOf", "(I)LThinExtents$State;"⟩, 13), (⟨"ThinExtents", "countShared", "(LThinExtents$Volume;)I"⟩, 13), (⟨"ThinExtents", "countRuns", "(LThinExtents$Volume;LThinExtents$Volume;)I"⟩, 13), (⟨"ThinExtents", "sortOf", "(LThinExtents$Volume;LThinExtents$Volume;I)I"⟩, 13), (⟨"ThinExtents", "countSort", "(LThinExtents$Volume;LThinExtents$Volume;I)I"⟩, 13), (⟨"ThinExtents", "requireExtent", "(I)V"⟩, 13), (⟨"ThinExtentsModel", "isVolume", "(I)Z"⟩, 27), (⟨"ThinExtentsModel", "waits", "(II)Z"⟩, 27), (⟨"ThinExtentsModel", "enqueue", "(III)I"⟩, 27), (⟨"ThinExtentsModel", "isOver", "(II)Z"⟩, 27), (⟨"ThinExtentsModel", "mapped", "(I)I"⟩, 27), (⟨"ThinExtentsModel", "needs", "(II)Z"⟩, 27), (⟨"ThinExtentsModel", "isSole", "(I)Z"⟩, 27), (⟨"ThinExtentsModel", "usersOf", "(II)I"⟩, 27), (⟨"ThinExtentsModel", "perform", "(III)I"⟩, 27)]
theorem lw_r2 : ∀ q ∈ lw_privs_2, lw_okq q := List.forall_mem_cons.mpr ⟨lw_p16, List.forall_mem_cons.mpr ⟨lw_p17, List.forall_mem_cons.mpr ⟨lw_p18, List.forall_mem_cons.mpr ⟨lw_p19, List.forall_mem_cons.mpr ⟨lw_p20, List.forall_mem_cons.mpr ⟨lw_p21, List.forall_mem_cons.mpr ⟨lw_p22, List.forall_mem_cons.mpr ⟨lw_p23, List.forall_mem_cons.mpr ⟨lw_p24, List.forall_mem_cons.mpr ⟨lw_p25, List.forall_mem_cons.mpr ⟨lw_p26, List.forall_mem_cons.mpr ⟨lw_p27, List.forall_mem_cons.mpr ⟨lw_p28, List.forall_mem_cons.mpr ⟨lw_p29, List.forall_mem_cons.mpr ⟨lw_p30, List.forall_mem_cons.mpr ⟨lw_p31, fun _ h => absurd h List.not_mem_nil⟩⟩⟩⟩⟩⟩⟩⟩⟩⟩⟩⟩⟩⟩⟩⟩
theorem lw_p32 : lw_okq (⟨"ThinExtentsModel", "take", "(II)V"⟩, 27) := ⟨⟨by decide +kernel, by decide +kernel⟩, List.mem_of_getElem? (i := 708) (by decide +kernel), List.mem_of_getElem? (i := 847) (by decide +kernel), List.mem_of_getElem? (i := 848) (by decide +kernel)⟩
theorem lw_p33 : lw_okq (⟨"ThinExtentsModel", "isFree", "(I)Z"⟩, 27) := ⟨⟨by decide +kernel, by decide +kernel⟩, List.mem_of_getElem? (i := 708) (by decide +kernel), List.mem_of_getElem? (i := 851) (by decide +kernel), List.mem_of_getElem? (i := 852) (by decide +kernel)⟩
theorem lw_p34 : lw_okq (⟨"ThinExtentsModel", "wordOf", "(II)I"⟩, 27) := ⟨⟨by decide +kernel, by decide +kernel⟩, List.mem_of_getElem? (i := 708) (by decide +kernel), List.mem_of_getElem? (i := 855) (by decide +kernel), List.mem_of_getElem? (i := 856) (by decide +kernel)⟩
theorem lw_p35 : lw_okq (⟨"ThinExtentsModel", "freeMany", "()I"⟩, 27) := ⟨⟨by decide +kernel, by decide +kernel⟩, List.mem_of_getElem? (i := 708) (by decide +kernel), List.mem_of_getElem? (i := 859) (by decide +kernel), List.mem_of_getElem? (i := 860) (by decide +kernel)⟩
theorem lw_p36 : lw_okq (⟨"ThinExtentsModel", "volumes", "(I)I"⟩, 27) := ⟨⟨by decide +kernel, by decide +kernel⟩, List.mem_of_getElem? (i := 708) (by decide +kernel), List.mem_of_getElem? (i := 874) (by decide +kernel), List.mem_of_getElem? (i := 875) (by decide +kernel)⟩
theorem lw_p37 : lw_okq (⟨"ThinExtentsModel", "copyVolume", "(IIII)V"⟩, 27) := ⟨⟨by decide +kernel, by decide +kernel⟩, List.mem_of_getElem? (i := 708) (by decide +kernel), List.mem_of_getElem? (i := 882) (by decide +kernel), List.mem_of_getElem? (i := 883) (by decide +kernel)⟩
theorem lw_p38 : lw_okq (⟨"ThinExtentsModel", "unqueue", "(I)V"⟩, 27) := ⟨⟨by decide +kernel, by decide +kernel⟩, List.mem_of_getElem? (i := 708) (by decide +kernel), List.mem_of_getElem? (i := 890) (by decide +kernel), List.mem_of_getElem? (i := 891) (by decide +kernel)⟩
theorem lw_p39 : lw_okq (⟨"ThinExtentsModel", "drain", "()V"⟩, 27) := ⟨⟨by decide +kernel, by decide +kernel⟩, List.mem_of_getElem? (i := 708) (by decide +kernel), List.mem_of_getElem? (i := 894) (by decide +kernel), List.mem_of_getElem? (i := 895) (by decide +kernel)⟩
theorem lw_p40 : lw_okq (⟨"ThinExtentsModel", "waitsIn", "(III)Z"⟩, 27) := ⟨⟨by decide +kernel, by decide +kernel⟩, List.mem_of_getElem? (i := 708) (by decide +kernel), List.mem_of_getElem? (i := 902) (by decide +kernel), List.mem_of_getElem? (i := 903) (by decide +kernel)⟩
theorem lw_p41 : lw_okq (⟨"ThinExtentsModel", "unmap", "(III)I"⟩, 27) := ⟨⟨by decide +kernel, by decide +kernel⟩, List.mem_of_getElem? (i := 708) (by decide +kernel), List.mem_of_getElem? (i := 906) (by decide +kernel), List.mem_of_getElem? (i := 907) (by decide +kernel)⟩
theorem lw_p42 : lw_okq (⟨"ThinExtentsModel", "copy", "(II)V"⟩, 27) := ⟨⟨by decide +kernel, by decide +kernel⟩, List.mem_of_getElem? (i := 708) (by decide +kernel), List.mem_of_getElem? (i := 942) (by decide +kernel), List.mem_of_getElem? (i := 943) (by decide +kernel)⟩
theorem lw_p43 : lw_okq (⟨"ThinExtentsModel", "clearState", "(I)V"⟩, 27) := ⟨⟨by decide +kernel, by decide +kernel⟩, List.mem_of_getElem? (i := 708) (by decide +kernel), List.mem_of_getElem? (i := 958) (by decide +kernel), List.mem_of_getElem? (i := 959) (by decide +kernel)⟩
theorem lw_p44 : lw_okq (⟨"ThinExtentsModel", "sortAt", "(III)I"⟩, 27) := ⟨⟨by decide +kernel, by decide +kernel⟩, List.mem_of_getElem? (i := 708) (by decide +kernel), List.mem_of_getElem? (i := 986) (by decide +kernel), List.mem_of_getElem? (i := 987) (by decide +kernel)⟩
def lw_privs_3 : List (MethodName × Nat) := [(⟨"ThinExtentsModel", "take", "(II)V"⟩, 27), (⟨"ThinExtentsModel", "isFree", "(I)Z"⟩, 27), (⟨"ThinExtentsModel", "wordOf", "(II)I"⟩, 27), (⟨"ThinExtentsModel", "freeMany", "()I"⟩, 27), (⟨"ThinExtentsModel", "volumes", "(I)I"⟩, 27), (⟨"ThinExtentsModel", "copyVolume", "(IIII)V"⟩, 27), (⟨"ThinExtentsModel", "unqueue", "(I)V"⟩, 27), (⟨"ThinExtentsModel", "drain", "()V"⟩, 27), (⟨"ThinExtentsModel", "waitsIn", "(III)Z"⟩, 27), (⟨"ThinExtentsModel", "unmap", "(III)I"⟩, 27), (⟨"ThinExtentsModel", "copy", "(II)V"⟩, 27), (⟨"ThinExtentsModel", "clearState", "(I)V"⟩, 27), (⟨"ThinExtentsModel", "sortAt", "(III)I"⟩, 27)]
theorem lw_r3 : ∀ q ∈ lw_privs_3, lw_okq q := List.forall_mem_cons.mpr ⟨lw_p32, List.forall_mem_cons.mpr ⟨lw_p33, List.forall_mem_cons.mpr ⟨lw_p34, List.forall_mem_cons.mpr ⟨lw_p35, List.forall_mem_cons.mpr ⟨lw_p36, List.forall_mem_cons.mpr ⟨lw_p37, List.forall_mem_cons.mpr ⟨lw_p38, List.forall_mem_cons.mpr ⟨lw_p39, List.forall_mem_cons.mpr ⟨lw_p40, List.forall_mem_cons.mpr ⟨lw_p41, List.forall_mem_cons.mpr ⟨lw_p42, List.forall_mem_cons.mpr ⟨lw_p43, List.forall_mem_cons.mpr ⟨lw_p44, fun _ h => absurd h List.not_mem_nil⟩⟩⟩⟩⟩⟩⟩⟩⟩⟩⟩⟩⟩
def lw_privs : List (MethodName × Nat) := lw_privs_1 ++ (lw_privs_2 ++ (lw_privs_3))
def lw_tbl : List Cond := k2_sels lw_privs ++ tables_1
theorem lw_privs_ok : ∀ q ∈ lw_privs, lw_okq q := by
  show ∀ q ∈ lw_privs_1 ++ (lw_privs_2 ++ (lw_privs_3)), lw_okq q
  exact List.forall_mem_append.mpr ⟨lw_r1, List.forall_mem_append.mpr ⟨lw_r2, lw_r3⟩⟩

/-! ===== BEGIN words of one list among another's, by their places ===== -/
theorem goodIn_r {big : List Cond} (ws : List Cond) (ps : List Nat) (hp : ws = ps.filterMap (fun i => big[i]?)) (h : ws.all goodWord = true) : GoodIn big ws := by
  intro w hw
  have h1 := List.all_eq_true.mp h w hw
  rw [hp] at hw
  obtain ⟨i, -, hi⟩ := List.mem_filterMap.mp hw
  have hm : w ∈ big := by first | exact List.mem_of_getElem? hi | exact List.getElem?_mem hi
  exact ⟨hm, good_of_word h1⟩
theorem goodIn_app {big a b : List Cond} (ha : GoodIn big a) (hb : GoodIn big b) : GoodIn big (a ++ b) := fun w h => (List.mem_append.mp h).elim (ha w) (hb w)
theorem goodIn_ca {big a b : List Cond} {c : Cond} (ha : GoodIn big (c :: a)) (hb : GoodIn big b) : GoodIn big (c :: (a ++ b)) := fun w h => (List.mem_cons.mp h).elim (fun e => ha w (List.mem_cons.mpr (Or.inl e))) (fun h => (List.mem_append.mp h).elim (fun h => ha w (List.mem_cons.mpr (Or.inr h))) (hb w))
theorem goodIn_sub {big ws : List Cond} (hm : ∀ w ∈ ws, w ∈ big) (h : ws.all goodWord = true) : GoodIn big ws := fun w hw => ⟨hm w hw, good_of_word (List.all_eq_true.mp h w hw)⟩
/-! ===== END ===== -/

/-! ===== BEGIN exceptions that leave a method, and their catching by the caller (launches without stack traces) ===== -/
section VXA
/-! The laws vx_back, vx_callV, vx_callS, vx_callSW, vx_throw0, vx_throwS follow proofs of the library, with one case more: JvmDerived/Free/Laws.lean (Back.of_free), Shelf42/LK1.lean (callV, callS), Shelf/KitTraced.lean (throwNew0V, throwNewS). -/
/-- where a method has thrown q: the class by its name, the cell, what was written, the world -/
def vx_T (XC : String → State → State → Prop) (st : State) (q : Addr) (t : State) (mc ms : Nat) (free : Addr → Prop) : Prop :=
  ∃ (E : String) (ce : Cell) (L : List Loc), XC E st t ∧ t.heap[q]? = some ce ∧ ce.vm = .none ∧ st.vm.findClass E = some ce.cls ∧ st.WarmedH t.vm ∧ st.sameButNew ({ t with vm := st.vm } : State) L mc ms ∧ ∀ z ∈ L, free z.base
def vx_Q (Qc : Array Value → State → Outcome → State → Prop) (XC : String → State → State → Prop) (mc ms : Nat) (free : Addr → Prop) : Array Value → State → Outcome → State → Prop := fun a st o t =>
  (Qc a st o t ∧ ∃ L, FrameEnd st o t L mc ms ∧ ∀ q ∈ L, free q.base) ∨ ∃ q, o = .threw q ∧ vx_T XC st q t mc ms free
/-- a callee that returns or throws -/
def vx_Met (l : Launch) (y : MethodName) (ws : List Cond) (rm : Room) (Pc : Array Value → State → Prop) (Qc : Array Value → State → Outcome → State → Prop) (XC : String → State → State → Prop) (mc ms : Nat) (free : Addr → Prop) : Prop :=
  MetFree l y (headSpec ws rm) Pc (fun _ _ _ _ _ => True) (vx_Q Qc XC mc ms free)
def vx_Post (XC : String → State → State → Prop) (mc ms : Nat) (free : Addr → Prop) : Pt → Array Value → Addr → Pt → Prop := fun A a q B =>
  ∃ (g : JFrame) (mk : MethodId) (t : State) (L : List Loc) (E : String) (ce : Cell), B.U.heap = t.heap ∧ B.U.vm = t.vm ∧ XC E (A.U.calling g mk a) t ∧ t.heap[q]? = some ce ∧ ce.vm = .none ∧ A.U.vm.findClass E = some ce.cls ∧ B.locs = A.locs ++ L ∧ (∀ z ∈ L, free z.base) ∧ B.cells = A.cells + mc ∧ B.slots = A.slots + ms
def vx_Back (l : Launch) (R : Room) (p : Program) (e : Env) (below : List Frame) (s : State) (sargs : Array Value) (y : MethodName) (len W9 : Nat)
    (Pre : Pt → Array Value → Prop) (Post : Pt → Array Value → Option Value → Pt → Prop) (PostX : Pt → Array Value → Addr → Pt → Prop) : Prop :=
  ∀ (m : MethodId) (meth : Method) (c : Code) (A : Pt) (g : JFrame) (ig : Instr) (mk : MethodId) (a : Array Value),
    Stand p l e R s m sargs below meth c A.U A.locs A.cells A.slots → g.method = m → g.locals.size = c.maxLocals → decode c.code g.pc = .ok (ig, len) →
    2 * g.monitorRoom + (g.stack.map fun v => v.category).sum ≤ W9 → A.U.methodNamed? y = some mk → Pre A a →
    (∃ (v : Option Value) (B : Pt), Stand p l e R s m sargs below meth c B.U B.locs B.cells B.slots ∧ Post A a v B ∧
      Steps p.tables e below (doInvoke e (A.U.setTop g) [] mk a).1 (B.U.setTop { g with pc := g.pc + len, stack := v.toList ++ g.stack })) ∨
    (∃ (q : Addr) (B : Pt), Stand p l e R s m sargs below meth c B.U B.locs B.cells B.slots ∧ PostX A a q B ∧
      Steps p.tables e below (doInvoke e (A.U.setTop g) [] mk a).1 ((B.U.setTop g).pushFrame (.throwing q)))
section Payer
variable {l : Launch} {R : Room} {p : Program} {e : Env} {below : List Frame} {s : State} {sargs : Array Value} {y : MethodName} {len W9 : Nat}
theorem vx_back {ws : List Cond} {rm : Room} {Pc : Array Value → State → Prop} {Qc : Array Value → State → Outcome → State → Prop} {XC : String → State → State → Prop} {mc ms : Nat} {free : Addr → Prop} {bytes : ByteArray} {maxL : Nat} {ret : Option FieldType}
    (hM : vx_Met l y ws rm Pc Qc XC mc ms free) (hblind : FrameBlind Pc) (hrc : rm.cells = mc) (hrs : rm.slots = ms)
    (hframes : rm.frames + 1 ≤ R.frames) (hlocals : W9 + (maxL + 11) + rm.locals ≤ R.locals)
    (hws : ∀ w ∈ ws, ∀ a' U, s.WarmedH U.vm → w.before a' U = true) (hcode : Cond.code y bytes maxL ret ∈ ws) (hinit : ∀ a' U, s.WarmedH U.vm → (Cond.initialized y.cls).before a' U = true) :
    vx_Back l R p e below s sargs y len W9 (PreOf R mc ms Pc) (PostOf Qc mc ms free) (vx_Post XC mc ms free) := by
  intro m meth c A g ig mk a X hg hsize hdg hW hn hp
  have h1 : (headSpec ws rm).pre.before a A.U = true := atoms_intro fun w hw => hws w hw _ _ X.warmed
  have h2 : (Cond.code y bytes maxL ret).before a A.U = true := hws _ hcode _ _ X.warmed
  have h3 : (Cond.initialized y.cls).before a A.U = true := hinit _ _ X.warmed
  have h4 : A.cells + (headSpec ws rm).room.cells ≤ R.cells := by rw [show (headSpec ws rm).room.cells = mc from hrc]; exact hp.1
  have h5 : A.slots + (headSpec ws rm).room.slots ≤ R.slots := by rw [show (headSpec ws rm).room.slots = ms from hrs]; exact hp.2.1
  have hPc : Pc a (A.U.calling g mk a) := hblind _ _ _ _ hp.2.2
  obtain ⟨U, Ls, c0, s0⟩ := A
  dsimp only [Pt.U, Pt.locs, Pt.cells, Pt.slots] at h1 h2 h3 h4 h5 X hn hPc ⊢
  obtain ⟨methY, cY, hmY, hcY, -, hlY, -, -, -, -⟩ := Cond.code_spec hn h2
  obtain ⟨kY, hkY, -⟩ := className_of_methodNamed hn
  have hinitY : kY.init = .initialized := Cond.initialized_spec (findClass_of_methodNamed hn) hkY h3
  have h : At U g.method c below := by rw [hg]; exact X.here
  have hlocals9 : W9 + (maxL + 11) + (headSpec ws rm).room.locals ≤ R.locals := hlocals
  have happ : (headSpec ws rm).appliesLoose y e.platform (U.calling g mk a) = true :=
    Spec.appliesLoose_calling (g := g) h hdg hn hkY hinitY
      (X.room_calling (g := g) (R' := (headSpec ws rm).room) hsize hmY hcY hframes (by rw [hlY]; omega) h4 h5) h1
  obtain ⟨mid, hmid⟩ := h.above
  have hfr : (U.setTop g).frames = (.java g :: mid) ++ below := by rw [State.frames_setTop' g h.top, hmid]; rfl
  obtain ⟨o, s₂, hsteps, -, hend, hq⟩ := Steps.callFree hM p X.admits X.cas X.clock (acts := []) hfr happ hPc trivial
  have hq' : vx_Q Qc XC mc ms free a (U.calling g mk a) o s₂ := hq
  rw [State.frames_setTop' g h.top] at hend
  obtain ⟨g₀, hg0⟩ := Option.isSome_iff_exists.mp h.top
  obtain ⟨r, hr⟩ := State.topJava?_eq_some.mp hg0
  have hr' : (({ U with heap := s₂.heap, slotsUsed := s₂.slotsUsed } : State).setVm s₂.vm).frames = .java g₀ :: r := hr
  rcases hq' with ⟨hqc, L, hfe, hL⟩ | ⟨q, rfl, E, ce, L, hx, hce, hcv, hcl, hW₂, hsm, hL⟩
  · obtain ⟨⟨v, rfl⟩, hW₂, e2, q2, q3, q4, q5, q6⟩ := id hfe
    have e3 : s₂ = ({ (U.calling g mk a).setFrames s₂.frames with heap := s₂.heap, slotsUsed := s₂.slotsUsed } : State).setVm s₂.vm := by
      have : s₂ = ({ s₂ with vm := (U.calling g mk a).vm } : State).setVm s₂.vm := rfl
      rw [e2] at this
      exact this
    obtain ⟨c₂, i₂, len₂, hc₂, hd₂, hf₂⟩ := hend
    have hW' : U.WarmedH s₂.vm := hW₂
    have hcc : c₂ = c := by
      have h1 : s₂.code? g.method = U.code? g.method := by
        rw [State.code?_eq, State.code?_eq, hW'.alike.method?]
      exact Option.some.inj (hc₂.symm.trans (h1.trans h.code))
    subst hcc
    have hlen : len₂ = len := by rw [hdg] at hd₂; cases hd₂; rfl
    subst hlen
    have hs₂ : s₂ = (({ U with heap := s₂.heap, slotsUsed := s₂.slotsUsed } : State).setVm s₂.vm).setTop { g with pc := g.pc + len₂, stack := v.toList ++ g.stack } := by
      refine e3.trans ?_
      rw [hf₂, State.calling_eq h.top, State.setFrames_setFrames, State.setTop_of_frames _ hr', hr]
      rfl
    have hsame : U.sameButNew ({ U with heap := s₂.heap, slotsUsed := s₂.slotsUsed } : State) L mc ms := by
      refine ⟨?_, q2, q3, q4, q5, q6⟩
      obtain ⟨t, ht, -⟩ := State.frames_cons hr
      show ({ U with heap := s₂.heap, slotsUsed := s₂.slotsUsed } : State) = { U.setFrames U.frames with heap := s₂.heap, slotsUsed := s₂.slotsUsed }
      rw [State.setFrames_self ht]
    subst hg
    refine Or.inl ⟨v, ⟨(({ U with heap := s₂.heap, slotsUsed := s₂.slotsUsed } : State).setVm s₂.vm), Ls ++ L, c0 + mc, s0 + ms⟩,
      ⟨X.admits, X.cas, X.clock, X.frames, X.room, X.hears, X.method, X.code, (X.here.setHeapUsed s₂.heap s₂.slotsUsed).setVm hW'.alike, X.tail, State.WarmedH.trans X.warmed hW', X.limits, X.bytes, X.same.trans (hsame.setVm s.vm)⟩,
      ⟨g, mk, s₂, L, rfl, rfl, hqc, rfl, hL, rfl, rfl⟩, ?_⟩
    show Steps p.tables e below _ ((({ U with heap := s₂.heap, slotsUsed := s₂.slotsUsed } : State).setVm s₂.vm).setTop { g with pc := g.pc + len₂, stack := v.toList ++ g.stack })
    rw [← hs₂]
    exact hsteps
  · obtain ⟨e2, q2, q3, q4, q5, q6⟩ := id hsm
    have e3 : s₂ = ({ (U.calling g mk a).setFrames s₂.frames with heap := s₂.heap, slotsUsed := s₂.slotsUsed } : State).setVm s₂.vm := by
      have : s₂ = ({ s₂ with vm := (U.calling g mk a).vm } : State).setVm s₂.vm := rfl
      rw [e2] at this
      exact this
    have hf₂ : s₂.frames = .throwing q :: .java g :: U.frames.tail := hend
    have hW' : U.WarmedH s₂.vm := hW₂
    have hs₂ : s₂ = ((({ U with heap := s₂.heap, slotsUsed := s₂.slotsUsed } : State).setVm s₂.vm).setTop g).pushFrame (.throwing q) := by
      refine e3.trans ?_
      rw [hf₂, State.calling_eq h.top, State.setFrames_setFrames, State.pushFrame, State.frames_setTop _ hr', State.setTop_of_frames _ hr', State.setFrames_setFrames, hr]
      rfl
    have hsame : U.sameButNew ({ U with heap := s₂.heap, slotsUsed := s₂.slotsUsed } : State) L mc ms := by
      refine ⟨?_, q2, q3, q4, q5, q6⟩
      obtain ⟨t, ht, -⟩ := State.frames_cons hr
      show ({ U with heap := s₂.heap, slotsUsed := s₂.slotsUsed } : State) = { U.setFrames U.frames with heap := s₂.heap, slotsUsed := s₂.slotsUsed }
      rw [State.setFrames_self ht]
    subst hg
    refine Or.inr ⟨q, ⟨(({ U with heap := s₂.heap, slotsUsed := s₂.slotsUsed } : State).setVm s₂.vm), Ls ++ L, c0 + mc, s0 + ms⟩,
      ⟨X.admits, X.cas, X.clock, X.frames, X.room, X.hears, X.method, X.code, (X.here.setHeapUsed s₂.heap s₂.slotsUsed).setVm hW'.alike, X.tail, State.WarmedH.trans X.warmed hW', X.limits, X.bytes, X.same.trans (hsame.setVm s.vm)⟩,
      ⟨g, mk, s₂, L, E, ce, rfl, rfl, hx, hce, hcv, hcl, rfl, hL, rfl, rfl⟩, ?_⟩
    show Steps p.tables e below _ (((({ U with heap := s₂.heap, slotsUsed := s₂.slotsUsed } : State).setVm s₂.vm).setTop g).pushFrame (.throwing q))
    rw [← hs₂]
    exact hsteps
end Payer
section Calls
variable {p : Program} {l : Launch} {e : Env} {R : Room} {s : State} {m : MethodId} {args : Array Value} {below : List Frame} {meth : Method} {c : Code} {T : State} {locs : List Loc} {cells slots : Nat}
theorem vx_callV (X : Stand p l e R s m args below meth c T locs cells slots) (hexec : p.tables.exec = Jvm.exec) {own C : String} {index : Nat} {y : MethodName} {bytes : ByteArray} {maxL : Nat} {ret : Option FieldType}
    (hown : s.vm.findClass own = some m.cls) (hlink : (Cond.methodLink own index y).before args s = true) (hinst : (Cond.instanceMethod y).before args s = true) (hsel : (Cond.selects C y y).before args s = true)
    (hcode : (Cond.code y bytes maxL ret).before args s = true) (hy : y.cls ≠ "java/lang/invoke/MethodHandle" ∧ y.cls ≠ "java/lang/invoke/VarHandle")
    {W9 : Nat} {Pre : Pt → Array Value → Prop} {Post : Pt → Array Value → Option Value → Pt → Prop} {PostX : Pt → Array Value → Addr → Pt → Prop} (hK : vx_Back l R p e below s args y 3 W9 Pre Post PostX)
    {b : Addr} {cellB : Cell} (hcell : T.heap[b]? = some cellB) (hobj : cellB.vm.isStatics = false) (hcls : s.vm.findClass C = some cellB.cls)
    {g : JFrame} (hg : g.method = m) (hsize : g.locals.size = c.maxLocals) {argsL rest : List Value} (hlen : ∀ sig, parseMethodDescriptor y.desc = some sig → argsL.length = sig.parameters.length)
    (hstack : g.stack = argsL.reverse ++ .ref b :: rest) (hW : 2 * g.monitorRoom + (rest.map fun v => v.category).sum ≤ W9) (hdg : decode c.code g.pc = .ok (.invokevirtual index, 3))
    (hpre : ∀ vm₁, s.WarmedH vm₁ → Pre ⟨T.setVm vm₁, locs, cells, slots⟩ (Value.ref b :: argsL).toArray) :
    (∃ (v : Option Value) (vm₁ : Vm) (B : Pt), s.WarmedH vm₁ ∧ Stand p l e R s m args below meth c B.U B.locs B.cells B.slots ∧ Post ⟨T.setVm vm₁, locs, cells, slots⟩ (Value.ref b :: argsL).toArray v B ∧
      ∀ target, Steps p.tables e below (B.U.setTop { g with pc := g.pc + 3, stack := v.toList ++ rest }) target → Steps p.tables e below (T.setTop g) target) ∨
    (∃ (q : Addr) (vm₁ : Vm) (B : Pt), s.WarmedH vm₁ ∧ Stand p l e R s m args below meth c B.U B.locs B.cells B.slots ∧ PostX ⟨T.setVm vm₁, locs, cells, slots⟩ (Value.ref b :: argsL).toArray q B ∧
      Steps p.tables e below (T.setTop g) ((B.U.setTop { g with stack := rest }).pushFrame (.throwing q))) := by
  obtain ⟨mk, methM, hnamed, hmethM, hstM, habM⟩ := Cond.instanceMethod_spec hinst
  obtain ⟨methM', cM, hmethM', -, -, -, -, -, -, hsigM⟩ := Cond.code_spec hnamed hcode
  cases hmethM.symm.trans hmethM'
  obtain ⟨c2, r2, m2, q1, q2, q3, q4, kP, hkP, hkPi⟩ := Cond.selects_spec hsel
  cases hcls.symm.trans q1
  cases (State.methodFound?_of_named hnamed hy).symm.trans q2
  cases hnamed.symm.trans q3
  have hselP : selectMethod e.platform s.vm cellB.cls mk = .method mk := by rw [Launch.admits_selectMethod X.admits]; exact q4
  obtain ⟨vm₁, X₁, hstep₁⟩ := X.invokevirtual hexec hown hlink hnamed hmethM hstM hkP hkPi hy (a := b) (cell := cellB) hcell
    (fun z h => by rw [h] at hobj; cases hobj) hselP hmethM habM hkP hkPi (g := g) hg (argsL := argsL) (rest := rest) (hlen _ hsigM) hstack hdg
  rcases hK m meth c ⟨T.setVm vm₁, locs, cells, slots⟩ { g with stack := rest } (.invokevirtual index) mk (Value.ref b :: argsL).toArray X₁ hg hsize hdg hW (X₁.named hnamed) (hpre vm₁ X₁.warmed) with ⟨v, B, X', hpost, hsteps⟩ | ⟨q, B, X', hpost, hsteps⟩
  · exact Or.inl ⟨v, vm₁, B, X₁.warmed, X', hpost, fun target h => hstep₁ _ fun acts => by rw [doInvoke_state]; exact hsteps.trans h⟩
  · exact Or.inr ⟨q, vm₁, B, X₁.warmed, X', hpost, hstep₁ _ fun acts => by rw [doInvoke_state]; exact hsteps⟩
theorem vx_callS (X : Stand p l e R s m args below meth c T locs cells slots) (hexec : p.tables.exec = Jvm.exec) {own : String} {index : Nat} {y : MethodName} {bytes : ByteArray} {maxL : Nat} {ret : Option FieldType}
    (hown : s.vm.findClass own = some m.cls) (hlink : (Cond.methodLink own index y).before args s = true) (hstat : (Cond.static y).before args s = true) (hinit : (Cond.initialized y.cls).before args s = true)
    (hcode : (Cond.code y bytes maxL ret).before args s = true) (hy : y.cls ≠ "java/lang/invoke/MethodHandle" ∧ y.cls ≠ "java/lang/invoke/VarHandle")
    {W9 : Nat} {Pre : Pt → Array Value → Prop} {Post : Pt → Array Value → Option Value → Pt → Prop} {PostX : Pt → Array Value → Addr → Pt → Prop} (hK : vx_Back l R p e below s args y 3 W9 Pre Post PostX)
    {g : JFrame} (hg : g.method = m) (hsize : g.locals.size = c.maxLocals) {argsL rest : List Value} (hlen : ∀ sig, parseMethodDescriptor y.desc = some sig → argsL.length = sig.parameters.length)
    (hstack : g.stack = argsL.reverse ++ rest) (hW : 2 * g.monitorRoom + (rest.map fun v => v.category).sum ≤ W9) (hdg : decode c.code g.pc = .ok (.invokestatic index, 3))
    (hpre : ∀ vm₁, s.WarmedH vm₁ → Pre ⟨T.setVm vm₁, locs, cells, slots⟩ argsL.toArray) :
    (∃ (v : Option Value) (vm₁ : Vm) (B : Pt), s.WarmedH vm₁ ∧ Stand p l e R s m args below meth c B.U B.locs B.cells B.slots ∧ Post ⟨T.setVm vm₁, locs, cells, slots⟩ argsL.toArray v B ∧
      ∀ target, Steps p.tables e below (B.U.setTop { g with pc := g.pc + 3, stack := v.toList ++ rest }) target → Steps p.tables e below (T.setTop g) target) ∨
    (∃ (q : Addr) (vm₁ : Vm) (B : Pt), s.WarmedH vm₁ ∧ Stand p l e R s m args below meth c B.U B.locs B.cells B.slots ∧ PostX ⟨T.setVm vm₁, locs, cells, slots⟩ argsL.toArray q B ∧
      Steps p.tables e below (T.setTop g) ((B.U.setTop { g with stack := rest }).pushFrame (.throwing q))) := by
  obtain ⟨mk, hnamed⟩ := Cond.code_named hcode
  obtain ⟨methM, cM, hmethM, -, -, -, -, -, -, hsigM⟩ := Cond.code_spec hnamed hcode
  have hstatic : methM.isStatic = true := Cond.static_spec hnamed hmethM hstat
  obtain ⟨kP, hkP, -⟩ := className_of_methodNamed hnamed
  have hinitP : kP.init = .initialized := Cond.initialized_spec (findClass_of_methodNamed hnamed) hkP hinit
  obtain ⟨vm₁, X₁, hstep₁⟩ := X.invokestatic hexec hown hlink hnamed hmethM hstatic hkP hinitP hy (g := g) hg (argsL := argsL) (rest := rest) (hlen _ hsigM) hstack hdg
  rcases hK m meth c ⟨T.setVm vm₁, locs, cells, slots⟩ { g with stack := rest } (.invokestatic index) mk argsL.toArray X₁ hg hsize hdg hW (X₁.named hnamed) (hpre vm₁ X₁.warmed) with ⟨v, B, X', hpost, hsteps⟩ | ⟨q, B, X', hpost, hsteps⟩
  · exact Or.inl ⟨v, vm₁, B, X₁.warmed, X', hpost, fun target h => hstep₁ _ fun acts => by rw [doInvoke_state]; exact hsteps.trans h⟩
  · exact Or.inr ⟨q, vm₁, B, X₁.warmed, X', hpost, hstep₁ _ fun acts => by rw [doInvoke_state]; exact hsteps⟩
end Calls
theorem vx_cls {s : State} {T : State} {vm₁ : Vm} {E : String} {k : ClassId} (hW : s.WarmedH vm₁) (h : (T.setVm vm₁).vm.findClass E = some k) : s.vm.findClass E = some k := by
  have h1 : vm₁.findClass E = some k := h
  rw [hW.alike.findClass] at h1
  exact h1
/-- the method's frame g, with q thrown over it -/
def vx_W (p : Program) (l : Launch) (e : Env) (R : Room) (s : State) (m : MethodId) (args : Array Value) (below : List Frame) (meth : Method) (c : Code) (H : Heap) (locs : List Loc) (cells slots : Nat) (Q : State → Prop) (g : JFrame) (q : Addr) : Prop :=
  ∀ T : State, T.heap = H → Stand p l e R s m args below meth c T locs cells slots → ∃ t, Steps p.tables e below ((T.setTop g).pushFrame (.throwing q)) t ∧ Q t
def vx_Run (p : Program) (l : Launch) (e : Env) (R : Room) (s : State) (m : MethodId) (args : Array Value) (below : List Frame) (meth : Method) (c : Code) (H : Heap) (locs : List Loc) (cells slots mc ms : Nat) (g : JFrame) (rest : List Value) (Qa : State → Outcome → State → Prop) (XC : String → State → State → Prop) (free : Addr → Prop) : Prop :=
  ∀ T : State, T.heap = H → Stand p l e R s m args below meth c T locs cells slots →
    (∃ (v : Option Value) (st₀ t T' : State) (L : List Loc), st₀.heap = H ∧ Stand p l e R s m args below meth c T' (locs ++ L) (cells + mc) (slots + ms) ∧ (∀ q ∈ L, free q.base) ∧ T'.heap = t.heap ∧ T'.vm = t.vm ∧ Qa st₀ (.returned v) t ∧
      Goes p e below T g T' { g with pc := g.pc + 3, stack := v.toList ++ rest }) ∨
    (∃ (q : Addr) (st₀ t T' : State) (L : List Loc) (E : String) (ce : Cell), st₀.heap = H ∧ Stand p l e R s m args below meth c T' (locs ++ L) (cells + mc) (slots + ms) ∧ (∀ z ∈ L, free z.base) ∧ T'.heap = t.heap ∧ T'.vm = t.vm ∧ XC E st₀ t ∧ t.heap[q]? = some ce ∧ ce.vm = .none ∧ s.vm.findClass E = some ce.cls ∧
      Steps p.tables e below (T.setTop g) ((T'.setTop { g with stack := rest }).pushFrame (.throwing q)))
def vx_X {S : Type} (px : S → Prop) (B : String → S → State → Prop) (A : Nat → Prop) : String → State → State → Prop := fun E st t => ∃ u : S, px u ∧ B E u t ∧ va_F A st t
section Runs
variable {p : Program} {l : Launch} {e : Env} {R : Room} {s : State} {m : MethodId} {args : Array Value} {below : List Frame} {meth : Method} {c : Code} {H : Heap} {locs : List Loc} {cells slots : Nat}
variable {y : MethodName} {bytes cc : ByteArray} {maxL nL mc ms n index : Nat} {ret : Option FieldType} {ws : List Cond} {rm : Room} {Pc : Array Value → State → Prop} {Qc : Array Value → State → Outcome → State → Prop} {XC : String → State → State → Prop} {free : Addr → Prop} {Ts : List Cond} {own C : String} {b : Addr} {As rest : List Value} {g : JFrame}
theorem vx_callBack (cb : CallB R s args own index y bytes maxL ret ws rm mc ms n) (hM : vx_Met l y ws rm Pc Qc XC mc ms free) (hbl : FrameBlind Pc) : vx_Back l R p e below s args y 3 8 (PreOf R mc ms Pc) (PostOf Qc mc ms free) (vx_Post XC mc ms free) := by
  obtain ⟨hrc, hrs, hfr, hlo, hws, hcw, -, hini, -⟩ := cb
  exact vx_back (bytes := bytes) (maxL := maxL) (ret := ret) hM hbl hrc hrs hfr hlo hws hcw (fun a' U hW => word_at hW (Or.inl (by first | rfl | simp [Cond.onTables, Cond.keeps, Cond.steady])) hini)
theorem vx_runV (S : CallFix p m c cc nL s args Ts own) (hM : vx_Met l y ws rm Pc Qc XC mc ms free) (cw : CallW R s args own C index y bytes maxL ret ws rm mc ms n) (hp : PreV s H C b Pc As)
    (hg : g.method = m) (hn : As.length = n) (hsize : g.locals.size = nL) (hstack : g.stack = As.reverse ++ .ref b :: rest) (hW : 2 * g.monitorRoom + (rest.map fun v => v.category).sum ≤ 8) (hdg : decode cc g.pc = .ok (.invokevirtual index, 3)) (hf : cells + mc ≤ R.cells ∧ slots + ms ≤ R.slots) :
    vx_Run p l e R s m args below meth c H locs cells slots mc ms g rest (Qc (Value.ref b :: As).toArray) XC free := by
  have hK : vx_Back l R p e below s args y 3 8 (PreOf R mc ms Pc) (PostOf Qc mc ms free) (vx_Post XC mc ms free) := vx_callBack cw.1 hM hp.1
  obtain ⟨⟨-, -, -, -, -, -, hcode, -, hy, hlen, hl⟩, hin, hse⟩ := cw
  obtain ⟨hx, hb, hml, ho, -⟩ := S
  obtain ⟨-, ⟨cellB, hcB, hoB, hclB⟩, hPc⟩ := hp
  intro T hT X
  rcases vx_callV X hx (C := C) (bytes := bytes) (maxL := maxL) (ret := ret) ho hl hin hse hcode hy hK (by rw [hT]; exact hcB) hoB hclB hg (hsize.trans hml.symm) (argsL := As) (rest := rest) (fun sig h => hn.trans (hlen sig h)) hstack hW (by rw [hb]; exact hdg)
    (fun vm₁ hW₁ => ⟨hf.1, hf.2, hPc (T.setVm vm₁) hT hW₁⟩) with ⟨v, vm₁, ⟨U', l2, c2, s2⟩, hW₁, X', ⟨g', mk, t, L, e1, e2, hq, h1, hL, h2, h3⟩, st⟩ | ⟨q, vm₁, ⟨U', l2, c2, s2⟩, hW₁, X', ⟨g', mk, t, L, E, ce, e1, e2, hq, hce, hcv, hcl, h1, hL, h2, h3⟩, st⟩
  · dsimp only [Pt.U, Pt.locs, Pt.cells, Pt.slots] at X' e1 e2 h1 h2 h3 st
    subst h1; subst h2; subst h3
    exact Or.inl ⟨v, (T.setVm vm₁).calling g' mk (Value.ref b :: As).toArray, t, U', L, hT, X', hL, e1, e2, hq, st⟩
  · dsimp only [Pt.U, Pt.locs, Pt.cells, Pt.slots] at X' e1 e2 h1 h2 h3 st hcl
    subst h1; subst h2; subst h3
    exact Or.inr ⟨q, (T.setVm vm₁).calling g' mk (Value.ref b :: As).toArray, t, U', L, E, ce, hT, X', hL, e1, e2, hq, hce, hcv, vx_cls hW₁ hcl, st⟩
theorem vx_runS (S : CallFix p m c cc nL s args Ts own) (hM : vx_Met l y ws rm Pc Qc XC mc ms free) (cw : CallB R s args own index y bytes maxL ret ws rm mc ms n ∧ (Cond.static y).before args s = true) (hp : PreS s H Pc As)
    (hg : g.method = m) (hn : As.length = n) (hsize : g.locals.size = nL) (hstack : g.stack = As.reverse ++ rest) (hW : 2 * g.monitorRoom + (rest.map fun v => v.category).sum ≤ 8) (hdg : decode cc g.pc = .ok (.invokestatic index, 3)) (hf : cells + mc ≤ R.cells ∧ slots + ms ≤ R.slots) :
    vx_Run p l e R s m args below meth c H locs cells slots mc ms g rest (Qc As.toArray) XC free := by
  have hK : vx_Back l R p e below s args y 3 8 (PreOf R mc ms Pc) (PostOf Qc mc ms free) (vx_Post XC mc ms free) := vx_callBack cw.1 hM hp.1
  obtain ⟨⟨-, -, -, -, -, -, hcode, hini, hy, hlen, hl⟩, hstt⟩ := cw
  obtain ⟨hx, hb, hml, ho, -⟩ := S
  intro T hT X
  rcases vx_callS X hx (bytes := bytes) (maxL := maxL) (ret := ret) ho hl hstt hini hcode hy hK hg (hsize.trans hml.symm) (argsL := As) (rest := rest) (fun sig h => hn.trans (hlen sig h)) hstack hW (by rw [hb]; exact hdg)
    (fun vm₁ hW₁ => ⟨hf.1, hf.2, hp.2 (T.setVm vm₁) hT hW₁⟩) with ⟨v, vm₁, ⟨U', l2, c2, s2⟩, hW₁, X', ⟨g', mk, t, L, e1, e2, hq, h1, hL, h2, h3⟩, st⟩ | ⟨q, vm₁, ⟨U', l2, c2, s2⟩, hW₁, X', ⟨g', mk, t, L, E, ce, e1, e2, hq, hce, hcv, hcl, h1, hL, h2, h3⟩, st⟩
  · dsimp only [Pt.U, Pt.locs, Pt.cells, Pt.slots] at X' e1 e2 h1 h2 h3 st
    subst h1; subst h2; subst h3
    exact Or.inl ⟨v, (T.setVm vm₁).calling g' mk As.toArray, t, U', L, hT, X', hL, e1, e2, hq, st⟩
  · dsimp only [Pt.U, Pt.locs, Pt.cells, Pt.slots] at X' e1 e2 h1 h2 h3 st hcl
    subst h1; subst h2; subst h3
    exact Or.inr ⟨q, (T.setVm vm₁).calling g' mk As.toArray, t, U', L, E, ce, hT, X', hL, e1, e2, hq, hce, hcv, vx_cls hW₁ hcl, st⟩
end Runs
section Rows
variable {p : Program} {l : Launch} {e : Env} {R : Room} {s : State} {m : MethodId} {args : Array Value} {below : List Frame} {meth : Method} {c : Code} {H : Heap} {locs : List Loc} {cells slots : Nat} {Q : State → Prop}
variable {mc ms : Nat} {free : Addr → Prop} {A0 A1 : Nat → Prop} {H0 : Heap} {a : Array Value} {pc : Nat} {ls : Array Slot} {st0 rest : List Value}
theorem vx_keep {st₀ t T' : State} {L : List Loc} (h0 : st₀.heap = H) (e1 : T'.heap = t.heap) (hS : va_S A0 H0 H locs) (hA : ∀ q, q < H.size → A1 q → A0 q) (hf : ∀ q, free q → A0 q) (hL : ∀ q ∈ L, free q.base) (hF : va_F A1 st₀ t) :
    H.size ≤ T'.heap.size ∧ (∀ q : Nat, q < H.size → ¬ A1 q → T'.heap[q]? = H[q]?) ∧ va_S A0 H0 T'.heap (locs ++ L) := by
  obtain ⟨hz, hk⟩ := hF
  rw [h0] at hz hk
  exact ⟨by rw [e1]; exact hz, fun q h1 h2 => by rw [e1]; exact hk q h1 h2,
    ⟨Nat.le_trans hS.1 (by rw [e1]; exact hz), fun q h1 h2 => by rw [e1, hk q (Nat.lt_of_lt_of_le h1 hS.1) (fun z => h2 (hA q (Nat.lt_of_lt_of_le h1 hS.1) z))]; exact hS.2.1 q h1 h2, fun q hq => by
      rcases List.mem_append.mp hq with h | h
      · exact hS.2.2 q h
      · exact hf _ (hL q h)⟩⟩
theorem vx_calli {S SX : Type} {post : Int32 → S → Prop} {px : SX → Prop} {B : S → State → Prop} {BX : String → SX → State → Prop} {AX : Nat → Prop} (hr : vx_Run p l e R s m args below meth c H locs cells slots mc ms (F0 m pc ls st0) rest (va_Qi post B A1 a) (vx_X px BX AX) free) (hS : va_S A0 H0 H locs) (hA : ∀ q, q < H.size → A1 q → A0 q) (hf : ∀ q, free q → A0 q) (hAX : ∀ q, q < H.size → AX q → A0 q)
    (kx : ∀ (E : String) (ce : Cell) (q9 : Addr) (u : SX) (t : State) (H1 : Heap) (locs1 : List Loc), t.heap = H1 → s.vm.Alike t.vm → px u → BX E u t → H.size ≤ H1.size → (∀ q : Nat, q < H.size → ¬ AX q → H1[q]? = H[q]?) → va_S A0 H0 H1 locs1 → H1[q9]? = some ce → ce.vm = .none → s.vm.findClass E = some ce.cls → vx_W p l e R s m args below meth c H1 locs1 (cells + mc) (slots + ms) Q (F0 m pc ls rest) q9)
    (kk : ∀ (r : Int32) (u : S) (t : State) (H1 : Heap) (locs1 : List Loc), t.heap = H1 → s.vm.Alike t.vm → post r u → B u t → H.size ≤ H1.size → (∀ q : Nat, q < H.size → ¬ A1 q → H1[q]? = H[q]?) → va_S A0 H0 H1 locs1 → W p l e R s m args below meth c H1 locs1 (cells + mc) (slots + ms) Q (F0 m (pc + 3) ls (.int r :: rest))) : W p l e R s m args below meth c H locs cells slots Q (F0 m pc ls st0) := by
  intro T hT X
  rcases hr T hT X with ⟨v, st₀, t, T', L, h0, X', hL, e1, e2, ⟨⟨r, u, hv, hp, hb⟩, hF⟩, st⟩ | ⟨q, st₀, t, T', L, E, ce, h0, X', hL, e1, e2, ⟨u, hp, hb, hF⟩, hce, hcv, hcl, st⟩
  · cases hv
    obtain ⟨k1, k2, k3⟩ := vx_keep h0 e1 hS hA hf hL hF
    obtain ⟨t2, a1, b1⟩ := kk r u t T'.heap (locs ++ L) e1.symm (by rw [← e2]; exact X'.warmed.alike) hp hb k1 k2 k3 T' rfl X'
    exact ⟨t2, st t2 a1, b1⟩
  · obtain ⟨k1, k2, k3⟩ := vx_keep h0 e1 hS hAX hf hL hF
    obtain ⟨t2, a1, b1⟩ := kx E ce q u t T'.heap (locs ++ L) e1.symm (by rw [← e2]; exact X'.warmed.alike) hp hb k1 k2 k3 (by rw [e1]; exact hce) hcv hcl T' rfl X'
    exact ⟨t2, st.trans a1, b1⟩
theorem vx_calll {S SX : Type} {post : Int64 → S → Prop} {px : SX → Prop} {B : S → State → Prop} {BX : String → SX → State → Prop} {AX : Nat → Prop} (hr : vx_Run p l e R s m args below meth c H locs cells slots mc ms (F0 m pc ls st0) rest (va_Ql post B A1 a) (vx_X px BX AX) free) (hS : va_S A0 H0 H locs) (hA : ∀ q, q < H.size → A1 q → A0 q) (hf : ∀ q, free q → A0 q) (hAX : ∀ q, q < H.size → AX q → A0 q)
    (kx : ∀ (E : String) (ce : Cell) (q9 : Addr) (u : SX) (t : State) (H1 : Heap) (locs1 : List Loc), t.heap = H1 → s.vm.Alike t.vm → px u → BX E u t → H.size ≤ H1.size → (∀ q : Nat, q < H.size → ¬ AX q → H1[q]? = H[q]?) → va_S A0 H0 H1 locs1 → H1[q9]? = some ce → ce.vm = .none → s.vm.findClass E = some ce.cls → vx_W p l e R s m args below meth c H1 locs1 (cells + mc) (slots + ms) Q (F0 m pc ls rest) q9)
    (kk : ∀ (r : Int64) (u : S) (t : State) (H1 : Heap) (locs1 : List Loc), t.heap = H1 → s.vm.Alike t.vm → post r u → B u t → H.size ≤ H1.size → (∀ q : Nat, q < H.size → ¬ A1 q → H1[q]? = H[q]?) → va_S A0 H0 H1 locs1 → W p l e R s m args below meth c H1 locs1 (cells + mc) (slots + ms) Q (F0 m (pc + 3) ls (.long r :: rest))) : W p l e R s m args below meth c H locs cells slots Q (F0 m pc ls st0) := by
  intro T hT X
  rcases hr T hT X with ⟨v, st₀, t, T', L, h0, X', hL, e1, e2, ⟨⟨r, u, hv, hp, hb⟩, hF⟩, st⟩ | ⟨q, st₀, t, T', L, E, ce, h0, X', hL, e1, e2, ⟨u, hp, hb, hF⟩, hce, hcv, hcl, st⟩
  · cases hv
    obtain ⟨k1, k2, k3⟩ := vx_keep h0 e1 hS hA hf hL hF
    obtain ⟨t2, a1, b1⟩ := kk r u t T'.heap (locs ++ L) e1.symm (by rw [← e2]; exact X'.warmed.alike) hp hb k1 k2 k3 T' rfl X'
    exact ⟨t2, st t2 a1, b1⟩
  · obtain ⟨k1, k2, k3⟩ := vx_keep h0 e1 hS hAX hf hL hF
    obtain ⟨t2, a1, b1⟩ := kx E ce q u t T'.heap (locs ++ L) e1.symm (by rw [← e2]; exact X'.warmed.alike) hp hb k1 k2 k3 (by rw [e1]; exact hce) hcv hcl T' rfl X'
    exact ⟨t2, st.trans a1, b1⟩
theorem vx_callf {S SX : Type} {post : UInt32 → S → Prop} {px : SX → Prop} {B : S → State → Prop} {BX : String → SX → State → Prop} {AX : Nat → Prop} (hr : vx_Run p l e R s m args below meth c H locs cells slots mc ms (F0 m pc ls st0) rest (va_Qf post B A1 a) (vx_X px BX AX) free) (hS : va_S A0 H0 H locs) (hA : ∀ q, q < H.size → A1 q → A0 q) (hf : ∀ q, free q → A0 q) (hAX : ∀ q, q < H.size → AX q → A0 q)
    (kx : ∀ (E : String) (ce : Cell) (q9 : Addr) (u : SX) (t : State) (H1 : Heap) (locs1 : List Loc), t.heap = H1 → s.vm.Alike t.vm → px u → BX E u t → H.size ≤ H1.size → (∀ q : Nat, q < H.size → ¬ AX q → H1[q]? = H[q]?) → va_S A0 H0 H1 locs1 → H1[q9]? = some ce → ce.vm = .none → s.vm.findClass E = some ce.cls → vx_W p l e R s m args below meth c H1 locs1 (cells + mc) (slots + ms) Q (F0 m pc ls rest) q9)
    (kk : ∀ (r : UInt32) (u : S) (t : State) (H1 : Heap) (locs1 : List Loc), t.heap = H1 → s.vm.Alike t.vm → post r u → B u t → H.size ≤ H1.size → (∀ q : Nat, q < H.size → ¬ A1 q → H1[q]? = H[q]?) → va_S A0 H0 H1 locs1 → W p l e R s m args below meth c H1 locs1 (cells + mc) (slots + ms) Q (F0 m (pc + 3) ls (.float r :: rest))) : W p l e R s m args below meth c H locs cells slots Q (F0 m pc ls st0) := by
  intro T hT X
  rcases hr T hT X with ⟨v, st₀, t, T', L, h0, X', hL, e1, e2, ⟨⟨r, u, hv, hp, hb⟩, hF⟩, st⟩ | ⟨q, st₀, t, T', L, E, ce, h0, X', hL, e1, e2, ⟨u, hp, hb, hF⟩, hce, hcv, hcl, st⟩
  · cases hv
    obtain ⟨k1, k2, k3⟩ := vx_keep h0 e1 hS hA hf hL hF
    obtain ⟨t2, a1, b1⟩ := kk r u t T'.heap (locs ++ L) e1.symm (by rw [← e2]; exact X'.warmed.alike) hp hb k1 k2 k3 T' rfl X'
    exact ⟨t2, st t2 a1, b1⟩
  · obtain ⟨k1, k2, k3⟩ := vx_keep h0 e1 hS hAX hf hL hF
    obtain ⟨t2, a1, b1⟩ := kx E ce q u t T'.heap (locs ++ L) e1.symm (by rw [← e2]; exact X'.warmed.alike) hp hb k1 k2 k3 (by rw [e1]; exact hce) hcv hcl T' rfl X'
    exact ⟨t2, st.trans a1, b1⟩
theorem vx_calld {S SX : Type} {post : UInt64 → S → Prop} {px : SX → Prop} {B : S → State → Prop} {BX : String → SX → State → Prop} {AX : Nat → Prop} (hr : vx_Run p l e R s m args below meth c H locs cells slots mc ms (F0 m pc ls st0) rest (va_Qd post B A1 a) (vx_X px BX AX) free) (hS : va_S A0 H0 H locs) (hA : ∀ q, q < H.size → A1 q → A0 q) (hf : ∀ q, free q → A0 q) (hAX : ∀ q, q < H.size → AX q → A0 q)
    (kx : ∀ (E : String) (ce : Cell) (q9 : Addr) (u : SX) (t : State) (H1 : Heap) (locs1 : List Loc), t.heap = H1 → s.vm.Alike t.vm → px u → BX E u t → H.size ≤ H1.size → (∀ q : Nat, q < H.size → ¬ AX q → H1[q]? = H[q]?) → va_S A0 H0 H1 locs1 → H1[q9]? = some ce → ce.vm = .none → s.vm.findClass E = some ce.cls → vx_W p l e R s m args below meth c H1 locs1 (cells + mc) (slots + ms) Q (F0 m pc ls rest) q9)
    (kk : ∀ (r : UInt64) (u : S) (t : State) (H1 : Heap) (locs1 : List Loc), t.heap = H1 → s.vm.Alike t.vm → post r u → B u t → H.size ≤ H1.size → (∀ q : Nat, q < H.size → ¬ A1 q → H1[q]? = H[q]?) → va_S A0 H0 H1 locs1 → W p l e R s m args below meth c H1 locs1 (cells + mc) (slots + ms) Q (F0 m (pc + 3) ls (.double r :: rest))) : W p l e R s m args below meth c H locs cells slots Q (F0 m pc ls st0) := by
  intro T hT X
  rcases hr T hT X with ⟨v, st₀, t, T', L, h0, X', hL, e1, e2, ⟨⟨r, u, hv, hp, hb⟩, hF⟩, st⟩ | ⟨q, st₀, t, T', L, E, ce, h0, X', hL, e1, e2, ⟨u, hp, hb, hF⟩, hce, hcv, hcl, st⟩
  · cases hv
    obtain ⟨k1, k2, k3⟩ := vx_keep h0 e1 hS hA hf hL hF
    obtain ⟨t2, a1, b1⟩ := kk r u t T'.heap (locs ++ L) e1.symm (by rw [← e2]; exact X'.warmed.alike) hp hb k1 k2 k3 T' rfl X'
    exact ⟨t2, st t2 a1, b1⟩
  · obtain ⟨k1, k2, k3⟩ := vx_keep h0 e1 hS hAX hf hL hF
    obtain ⟨t2, a1, b1⟩ := kx E ce q u t T'.heap (locs ++ L) e1.symm (by rw [← e2]; exact X'.warmed.alike) hp hb k1 k2 k3 (by rw [e1]; exact hce) hcv hcl T' rfl X'
    exact ⟨t2, st.trans a1, b1⟩
theorem vx_callv {S SX : Type} {post : S → Prop} {px : SX → Prop} {B : S → State → Prop} {BX : String → SX → State → Prop} {AX : Nat → Prop} (hr : vx_Run p l e R s m args below meth c H locs cells slots mc ms (F0 m pc ls st0) rest (va_Qv post B A1 a) (vx_X px BX AX) free) (hS : va_S A0 H0 H locs) (hA : ∀ q, q < H.size → A1 q → A0 q) (hf : ∀ q, free q → A0 q) (hAX : ∀ q, q < H.size → AX q → A0 q)
    (kx : ∀ (E : String) (ce : Cell) (q9 : Addr) (u : SX) (t : State) (H1 : Heap) (locs1 : List Loc), t.heap = H1 → s.vm.Alike t.vm → px u → BX E u t → H.size ≤ H1.size → (∀ q : Nat, q < H.size → ¬ AX q → H1[q]? = H[q]?) → va_S A0 H0 H1 locs1 → H1[q9]? = some ce → ce.vm = .none → s.vm.findClass E = some ce.cls → vx_W p l e R s m args below meth c H1 locs1 (cells + mc) (slots + ms) Q (F0 m pc ls rest) q9)
    (kk : ∀ (u : S) (t : State) (H1 : Heap) (locs1 : List Loc), t.heap = H1 → s.vm.Alike t.vm → post u → B u t → H.size ≤ H1.size → (∀ q : Nat, q < H.size → ¬ A1 q → H1[q]? = H[q]?) → va_S A0 H0 H1 locs1 → W p l e R s m args below meth c H1 locs1 (cells + mc) (slots + ms) Q (F0 m (pc + 3) ls (rest))) : W p l e R s m args below meth c H locs cells slots Q (F0 m pc ls st0) := by
  intro T hT X
  rcases hr T hT X with ⟨v, st₀, t, T', L, h0, X', hL, e1, e2, ⟨⟨u, hv, hp, hb⟩, hF⟩, st⟩ | ⟨q, st₀, t, T', L, E, ce, h0, X', hL, e1, e2, ⟨u, hp, hb, hF⟩, hce, hcv, hcl, st⟩
  · cases hv
    obtain ⟨k1, k2, k3⟩ := vx_keep h0 e1 hS hA hf hL hF
    obtain ⟨t2, a1, b1⟩ := kk u t T'.heap (locs ++ L) e1.symm (by rw [← e2]; exact X'.warmed.alike) hp hb k1 k2 k3 T' rfl X'
    exact ⟨t2, st t2 a1, b1⟩
  · obtain ⟨k1, k2, k3⟩ := vx_keep h0 e1 hS hAX hf hL hF
    obtain ⟨t2, a1, b1⟩ := kx E ce q u t T'.heap (locs ++ L) e1.symm (by rw [← e2]; exact X'.warmed.alike) hp hb k1 k2 k3 (by rw [e1]; exact hce) hcv hcl T' rfl X'
    exact ⟨t2, st.trans a1, b1⟩
/-- caught by the row x of this method's table; the rows ahead don't take it -/
theorem vx_catch {own name : String} {E : String} {ce : Cell} {q : Addr} (hown : s.vm.findClass own = some m.cls) (pre : List ExceptionTableEntry) (x : ExceptionTableEntry) (suf : List ExceptionTableEntry) (hsplit : c.exceptionTable.toList = pre ++ x :: suf)
    (hpass : ∀ z ∈ pre, covers z pc = false ∨ (z.catchType ≠ 0 ∧ ∃ nm : String, (Cond.classLink own z.catchType nm).before args s = true ∧ va_Nc E nm s)) (hx : covers x pc = true) (h0 : x.catchType ≠ 0)
    (hlink : (Cond.classLink own x.catchType name).before args s = true) (hcast : (Cond.castable E name).before args s = true) (hcell : H[q]? = some ce) (hv : ce.vm = .none) (hcl : s.vm.findClass E = some ce.cls)
    (kk : W p l e R s m args below meth c H locs cells slots Q (F0 m x.handlerPc ls [.ref q])) : vx_W p l e R s m args below meth c H locs cells slots Q (F0 m pc ls rest) q := by
  intro T hT X
  have hpl : e.platform.magicAccessors = ({} : Platform).magicAccessors := by rw [X.admits.platform]
  obtain ⟨c3, c4, hc3, hc4, hasg⟩ := Cond.castable_spec hcast
  cases Option.some.inj (hc3.symm.trans hcl)
  obtain ⟨c5, hc5, hcl5⟩ := Cond.classLink_spec hown hlink e.platform hpl
  cases Option.some.inj (hc4.symm.trans hc5)
  obtain ⟨vm', X', st⟩ := X.thenCaughtThrough q (g := F0 m pc ls rest) rfl (Steps.refl _) (by rw [hT]; exact hcell) (by rw [hv]; rfl) (by obtain ⟨k9, h9, -⟩ := Vm.findClass_spec hcl; exact ⟨k9, h9⟩) pre x suf hsplit
    (fun z hz => by
      rcases hpass z hz with h | ⟨hz0, nm, hl1, hn1⟩
      · exact Or.inl h
      · obtain ⟨c6, hc6, hcl6⟩ := Cond.classLink_spec hown hl1 e.platform hpl
        obtain ⟨a8, b8, h1, h2, h3⟩ := hn1
        cases Option.some.inj (h1.symm.trans hcl)
        cases Option.some.inj (h2.symm.trans hc6)
        exact Or.inr ⟨hz0, _, hcl6, h3⟩) hx (Or.inr ⟨h0, c4, hcl5, hasg⟩)
  obtain ⟨t, a1, b1⟩ := kk (T.setVm vm') hT X'
  exact ⟨t, st.trans a1, b1⟩
end Rows
section Ends
variable {p : Program} {l : Launch} {e : Env} {R : Room} {s : State} {m : MethodId} {args : Array Value} {below : List Frame} {meth : Method} {c : Code} {H : Heap} {locs : List Loc} {cells slots : Nat} {Q : State → Prop}
variable {mc ms : Nat} {free : Addr → Prop} {A0 A1 : Nat → Prop} {H0 : Heap} {a : Array Value} {ls : Array Slot} {st0 rest : List Value}
variable {Qc : Array Value → State → Outcome → State → Prop} {XC : String → State → State → Prop}
/-- what a body that may throw owes at its end -/
def vx_MQ (below : List Frame) (Qc : Array Value → State → Outcome → State → Prop) (XC : String → State → State → Prop) (a : Array Value) (s : State) (mc ms : Nat) (free : Addr → Prop) : State → Prop := fun t =>
  ∃ o, t.status = .running ∧ Ended t below o ∧ vx_Q Qc XC mc ms free a s o t
theorem vx_ret {g : JFrame} {mc ms : Nat} (k : W p l e R s m args below meth c H locs cells slots (MQ below Qc args s mc ms free) g) : W p l e R s m args below meth c H locs cells slots (vx_MQ below Qc XC args s mc ms free) g := by
  intro T hT X
  obtain ⟨t, a1, o, b1, b2, b3, b4⟩ := k T hT X
  exact ⟨t, a1, o, b1, b2, Or.inl ⟨b3, b4⟩⟩
/-- not caught here: it goes on to the caller -/
theorem vx_widen {g : JFrame} {q : Addr} {k n : Nat} (h1 : cells ≤ k) (h2 : slots ≤ n) (kk : vx_W p l e R s m args below meth c H locs k n Q g q) : vx_W p l e R s m args below meth c H locs cells slots Q g q := fun T hT X => kk T hT (stand_widen X h1 h2)
theorem vx_out {pc : Nat} {E : String} {ce : Cell} {q : Addr} {mc ms : Nat} (hout : ∀ x ∈ c.exceptionTable.toList, covers x pc = false) (hlocks : meth.locks = false) (hcell : H[q]? = some ce) (hv : ce.vm = .none) (hcl : s.vm.findClass E = some ce.cls)
    (hx : ∀ t : State, t.heap = H → s.vm.Alike t.vm → XC E s t) (hf : ∀ z ∈ locs, free z.base) (hc : cells ≤ mc) (hs : slots ≤ ms) :
    vx_W p l e R s m args below meth c H locs cells slots (vx_MQ below Qc XC args s mc ms free) (F0 m pc ls rest) q := by
  intro T hT X
  obtain ⟨st1, hrun, hend, hW, hsm⟩ := X.leaveThrown q (g := F0 m pc ls rest) rfl rfl rfl hout hlocks
  have hcell9 : (T.setFrames (.throwing q :: below)).heap[q]? = some ce := by
    show T.heap[q]? = some ce
    rw [hT]; exact hcell
  exact ⟨_, st1, .threw q, hrun, hend, Or.inr ⟨q, rfl, E, ce, locs, hx _ hT hW.alike, hcell9, hv, hcl, hW, hsm.mono hc hs, hf⟩⟩
theorem vx_frame {U : State} {k n : Nat} (h : s.sameButNew ({ U with vm := s.vm } : State) locs k n) : s.heap.size ≤ U.heap.size ∧ ∀ q : Nat, q < s.heap.size → (∀ z ∈ locs, z.base ≠ q) → U.heap[q]? = s.heap[q]? := by
  obtain ⟨-, h2, -, -, -, h6⟩ := h
  refine ⟨h2, fun q hq hz => ?_⟩
  obtain ⟨c9, e1, e2, e3, e4⟩ := h6 q _ (Array.getElem?_eq_getElem hq)
  have hs : c9.slots = (s.heap[q]).slots := Array.ext_getElem? fun i => e4 i fun hm => hz _ hm rfl
  have h9 : c9 = s.heap[q] := by
    rw [hs] at e2
    exact e2
  have e5 : U.heap[q]? = some c9 := e1
  rw [e5, h9, Array.getElem?_eq_getElem hq]
/-- the words of a throw but the four that speak of the heap -/
def vx_no (w : Cond) : Bool := decide (w ≠ .isRef (.static Bundle.tN "UNASSIGNED_STACK" Bundle.steD)) && decide (w ≠ .isRef (.static Bundle.tN "SUPPRESSED_SENTINEL" Bundle.listD)) && decide (w ≠ .laysStatic Bundle.tN "UNASSIGNED_STACK" Bundle.steD) && decide (w ≠ .laysStatic Bundle.tN "SUPPRESSED_SENTINEL" Bundle.listD)
def vx_at0 (own : String) (ic : Nat) (X : String) (names : List String) : List Cond := (Bundle.ownAtoms0 own ic X names).filter vx_no
def vx_atS (own : String) (ic : Nat) (X : String) (names : List String) : List Cond := (Bundle.ownAtoms own ic X names).filter vx_no
/-- a word that the tables alone decide, or a good one -/
def vx_ot (w : Cond) : Bool := w.onTables || goodWord w
theorem vx_ot_at {args a' : Array Value} {s U : State} {w : Cond} (hW : s.WarmedH U.vm) (hvm : s.vm = U.vm) (hg : vx_ot w = true) (h : w.before args s = true) : w.before a' U = true := by
  simp only [vx_ot, Bool.or_eq_true] at hg
  rcases hg with hg | hg
  · exact va_tabs hg hvm h
  · exact word_at hW (good_of_word hg) h
/-- a list's words: the good ones out of the method's own list, the others by premises of their own -/
theorem vx_hat {args : Array Value} {s : State} {L B : List Cond} (h1 : ∀ w ∈ L.filter goodWord, w.before args s = true) (h2 : ∀ w ∈ L.filter (fun w => !goodWord w), w ∈ B) (h3 : ∀ w ∈ B, w.before args s = true) : ∀ w ∈ L, w.before args s = true := by
  intro w hw
  by_cases g : goodWord w = true
  · exact h1 w (List.mem_filter.mpr ⟨hw, g⟩)
  · refine h3 w (h2 w (List.mem_filter.mpr ⟨hw, ?_⟩))
    show (!goodWord w) = true
    cases hgw : goodWord w
    · rfl
    · exact absurd hgw g
theorem vx_c {args : Array Value} {s : State} {w : Cond} {B : List Cond} (h : w.before args s = true) (t : ∀ w ∈ B, w.before args s = true) : ∀ w' ∈ w :: B, w'.before args s = true := fun w' h' => (List.mem_cons.mp h').elim (fun e => by rw [e]; exact h) (t w')
theorem vx_n {args : Array Value} {s : State} : ∀ w ∈ ([] : List Cond), w.before args s = true := fun _ h => nomatch h
theorem vx_own {args : Array Value} {s : State} {L : List Cond} (h1 : ∀ w ∈ L.filter vx_no, w.before args s = true)
    (hU : (Cond.isRef (.static Bundle.tN "UNASSIGNED_STACK" Bundle.steD)).before args s = true) (hN : (Cond.isRef (.static Bundle.tN "SUPPRESSED_SENTINEL" Bundle.listD)).before args s = true)
    (lU : (Cond.laysStatic Bundle.tN "UNASSIGNED_STACK" Bundle.steD).before args s = true) (lN : (Cond.laysStatic Bundle.tN "SUPPRESSED_SENTINEL" Bundle.listD).before args s = true) : ∀ w ∈ L, w.before args s = true := by
  intro w hw
  by_cases e1 : w = .isRef (.static Bundle.tN "UNASSIGNED_STACK" Bundle.steD)
  · rw [e1]; exact hU
  · by_cases e2 : w = .isRef (.static Bundle.tN "SUPPRESSED_SENTINEL" Bundle.listD)
    · rw [e2]; exact hN
    · by_cases e3 : w = .laysStatic Bundle.tN "UNASSIGNED_STACK" Bundle.steD
      · rw [e3]; exact lU
      · by_cases e4 : w = .laysStatic Bundle.tN "SUPPRESSED_SENTINEL" Bundle.listD
        · rw [e4]; exact lN
        · exact h1 w (List.mem_filter.mpr ⟨hw, by unfold vx_no; rw [decide_eq_true e1, decide_eq_true e2, decide_eq_true e3, decide_eq_true e4]; rfl⟩)
/-- where a static field lies, its class's statics cell in H -/
def vx_L (C n d : String) (A : Nat → Prop) (U : State) (H : Heap) : Prop := ∃ (c : ClassId) (k : Class) (i : Nat) (f : Field) (a : Nat) (cell : Cell), U.vm.findClass C = some c ∧ U.fieldFound? C n d = some (c, k, i, f) ∧ f.isStatic = true ∧ k.statics = some a ∧ H[a]? = some cell ∧ cell.vm.isStatics = true ∧ cell.cls = c ∧ f.slot < cell.slots.size ∧ k.staticTypes[f.slot]? = some f.type ∧ ¬ A a
theorem vx_L.moved {C n d : String} {A : Nat → Prop} {u U : State} {H : Heap} (hvm : u.vm.Alike U.vm) (h : vx_L C n d A u H) : vx_L C n d A U H := by
  obtain ⟨c, k, i, f, a, cell, h1, h2, h3, h4, h5, h6, h7, h8, h9, h10⟩ := h
  obtain ⟨k', hi', he⟩ := State.fieldFound?_setVm hvm h2
  exact ⟨c, k', i, f, a, cell, by rw [hvm.findClass]; exact h1, hi', h3, by rw [he]; exact h4, h5, h6, h7, h8, by rw [he]; exact h9, h10⟩
theorem vx_L.kept {C n d : String} {A : Nat → Prop} {U : State} {H H1 : Heap} (h : vx_L C n d A U H) (hq : ∀ a : Nat, a < H.size → ¬ A a → H1[a]? = H[a]?) : vx_L C n d A U H1 := by
  obtain ⟨c, k, i, f, a, cell, h1, h2, h3, h4, h5, h6, h7, h8, h9, h10⟩ := h
  exact ⟨c, k, i, f, a, cell, h1, h2, h3, h4, by rw [hq a (Array.getElem?_eq_some_iff.mp h5).1 h10]; exact h5, h6, h7, h8, h9, h10⟩
theorem vx_L.narrow {C n d : String} {A B : Nat → Prop} {U : State} {H : Heap} (h : vx_L C n d A U H) (hAB : ∀ q, B q → A q) : vx_L C n d B U H := by
  obtain ⟨c, k, i, f, a, cell, h1, h2, h3, h4, h5, h6, h7, h8, h9, h10⟩ := h
  exact ⟨c, k, i, f, a, cell, h1, h2, h3, h4, h5, h6, h7, h8, h9, fun z => h10 (hAB _ z)⟩
theorem vx_L.word {C n d : String} {A : Nat → Prop} {s : State} {args : Array Value} (h : vx_L C n d A s s.heap) : (Cond.laysStatic C n d).before args s = true := by
  obtain ⟨c, k, i, f, a, cell, h1, h2, h3, h4, h5, h6, h7, h8, h9, -⟩ := h
  show (Cond.laysStatic C n d).holds args s none s [] = true
  exact Cond.laysStatic_of h1 h2 h3 h4 h5 h6 h7 h8 h9
/-- .. and what it holds: null or some reference -/
def vx_Zq (C n d : String) (A : Nat → Prop) (U : State) (H : Heap) : Prop := va_Zq C n d A U H ∧ vx_L C n d A U H
theorem vx_Zq.moved {C n d : String} {A : Nat → Prop} {u U : State} {H : Heap} (hvm : u.vm.Alike U.vm) (h : vx_Zq C n d A u H) : vx_Zq C n d A U H := ⟨va_Zq.moved hvm h.1, vx_L.moved hvm h.2⟩
theorem vx_Zq.kept {C n d : String} {A : Nat → Prop} {U : State} {H H1 : Heap} (h : vx_Zq C n d A U H) (hq : ∀ a : Nat, a < H.size → ¬ A a → H1[a]? = H[a]?) : vx_Zq C n d A U H1 := ⟨va_Zq.kept h.1 hq, vx_L.kept h.2 hq⟩
theorem vx_Zq.narrow {C n d : String} {A B : Nat → Prop} {U : State} {H : Heap} (h : vx_Zq C n d A U H) (hAB : ∀ q, B q → A q) : vx_Zq C n d B U H := ⟨va_Zq.narrow h.1 hAB, vx_L.narrow h.2 hAB⟩
theorem vx_Zqof {args : Array Value} {s : State} {C n d : String} {A : Nat → Prop} (hl : (Cond.laysStatic C n d).before args s = true) (hini : (Cond.initialized C).before args s = true) (h : (Cond.isRef (.static C n d)).before args s = true) (hA : ∀ a : Nat, a < s.heap.size → ¬ A a) : vx_Zq C n d A s s.heap := by
  refine ⟨va_Zqof hl hini h hA, ?_⟩
  obtain ⟨c, k, i, f, a, cell, h1, h2, h3, h4, h5, h6, h7, h8, h9⟩ := Cond.laysStatic_spec hl
  exact ⟨c, k, i, f, a, cell, h1, h2, h3, h4, h5, h6, h7, h8, h9, hA a (Array.getElem?_eq_some_iff.mp h5).1⟩
theorem vx_isRef {C n d : String} {v : Value} {A : Nat → Prop} {s : State} {args : Array Value} (h : va_Z C n d v A s s.heap) (hv : v.isRef = true) : (Cond.isRef (.static C n d)).before args s = true := by
  obtain ⟨cf, kf, fi, f, a, cell, h1, h2, h3, h4, h5, h6, h7, -⟩ := h
  have he : (Term.static C n d).eval args s none [] s = some v := by
    simp [Term.eval, State.fieldNamed?, h1, h2, h4, h5, h6, h7]
  simp only [Cond.before, Cond.holds, Cond.value, he]
  cases v <;> simp_all [Value.isRef]
theorem vx_isRefq {C n d : String} {A : Nat → Prop} {s : State} {args : Array Value} (h : va_Zq C n d A s s.heap) : (Cond.isRef (.static C n d)).before args s = true := by
  rcases h with h | ⟨t, h⟩
  · exact vx_isRef h rfl
  · exact vx_isRef h rfl
/-- the same frame, seen from here: as if the method were called anew in this heap -/
theorem vx_rebase {T : State} (X : Stand p l e R s m args below meth c T locs cells slots) {R' : Room} (hf : R'.frames ≤ R.frames) (hl : R'.locals ≤ R.locals) (hc : cells + R'.cells ≤ R.cells) (hs : slots + R'.slots ≤ R.slots) :
    Stand p l e R' ((T.setVm s.vm).setFrames (.invoking m args :: below)) m args below meth c T [] 0 0 := by
  have htop : (T.setVm s.vm).topJava?.isSome := X.here.top
  have hF : ((T.setVm s.vm).setFrames (.invoking m args :: below)).frames = .invoking m args :: below := State.frames_setFrames _ (State.cur_lt_of_top htop)
  obtain ⟨g₀, hg0⟩ := Option.isSome_iff_exists.mp htop
  obtain ⟨r, hr⟩ := State.topJava?_eq_some.mp hg0
  have hl9 : e.platform.stackLimits (T.setVm s.vm).me = e.platform.stackLimits s.me := X.limits
  have hb9 : (T.setVm s.vm).me.stackBytes = s.me.stackBytes := X.bytes
  refine ⟨X.admits, X.cas, X.clock, hF, ?_, X.hears, X.method, X.code, X.here, X.tail, X.warmed, ?_, ?_, ?_⟩
  · have h := X.room
    have hU : ((T.setVm s.vm).setFrames (.invoking m args :: below)).localsInUse = s.localsInUse := by
      rw [State.localsInUse_invoking hF (meth := meth) (c := c) X.method X.code, State.localsInUse_invoking X.frames X.method X.code]
    simp only [State.hasRoom, Bool.and_eq_true, decide_eq_true_eq] at h ⊢
    obtain ⟨⟨⟨⟨h1, h2, h3, h4, h5, h6⟩, h7⟩, h8⟩, h9⟩ := h
    rw [X.frames, List.length_cons] at h2 h3
    have q1 := X.heapSize
    have q2 := X.used
    simp only [hF, hU, List.length_cons, State.stackLimits_setFrames, State.stackBytes_setFrames, hl9, hb9]
    refine ⟨⟨⟨⟨by omega, by omega, by omega, by omega, by omega, h6⟩, ?_⟩, ?_⟩, X.book⟩
    · show T.heap.size + R'.cells ≤ e.platform.maxCells
      omega
    · show T.slotsUsed + R'.slots ≤ e.platform.maxSlots
      omega
  · rw [State.stackLimits_setFrames]; rfl
  · rw [State.stackBytes_setFrames]; rfl
  · refine ⟨?_, Nat.le_refl _, Nat.le_refl _, ?_, ?_, fun a c9 h9 => ⟨c9, h9, rfl, rfl, fun _ _ => rfl⟩⟩
    · obtain ⟨t, ht, -⟩ := State.frames_cons hr
      show T.setVm s.vm = { ((T.setVm s.vm).setFrames (.invoking m args :: below)).setFrames (T.setVm s.vm).frames with heap := T.heap, slotsUsed := T.slotsUsed }
      rw [State.setFrames_setFrames, State.setFrames_self ht]
      rfl
    · show T.slotsUsed = T.slotsUsed + ((T.heap.toList.drop T.heap.size).map (·.slots.size)).sum
      rw [List.drop_eq_nil_of_le (Nat.le_of_eq Array.length_toList)]
      rfl
    · show ((T.heap.toList.drop T.heap.size).map (·.slots.size)).sum ≤ 0
      rw [List.drop_eq_nil_of_le (Nat.le_of_eq Array.length_toList)]
      exact Nat.le_refl _
/-- 'throw new E()': new; dup; invokespecial; athrow -/
theorem vx_throw0 {cc : ByteArray} {pc : Nat} (hexec : p.tables.exec = Jvm.exec) (hb : c.code = cc) (hl : l.stackTraces = false) {own cls : String} {names : List String} {ik ic mc ms : Nat} {A : Nat → Prop}
    (hown : s.vm.findClass own = some m.cls) (hcls : Bundle.fit cls = true) (hnames : ∀ n ∈ names, Bundle.fit n = true)
    (hk : (Cond.classLink own ik cls).before args s = true) (hini : (Cond.initialized cls).before args s = true) (hat : ∀ w ∈ vx_at0 own ic cls names, w.before args s = true)
    (hgood : ∀ w ∈ Cond.classLink own ik cls :: Cond.initialized cls :: vx_at0 own ic cls names, vx_ot w = true)
    (hU : vx_Zq Bundle.tN "UNASSIGNED_STACK" Bundle.steD A s s.heap) (hN : vx_Zq Bundle.tN "SUPPRESSED_SENTINEL" Bundle.listD A s s.heap) (hS : va_S A s.heap H locs) (hsize : ls.size = c.maxLocals)
    (d0 : decode cc pc = .ok (.new ik, 3)) (d3 : decode cc (pc + 3) = .ok (.dup, 1)) (d4 : decode cc (pc + 4) = .ok (.invokespecial ic, 3)) (d7 : decode cc (pc + 7) = .ok (.athrow, 1))
    (hout : ∀ x ∈ c.exceptionTable.toList, covers x (pc + 7) = false)
    (hRframes : names.length + 3 < R.frames) (hRlocals : (rest.map fun v => v.category).sum + (13 * (names.length + 1) + 42) ≤ R.locals) (hRcells : cells + 1 ≤ R.cells) (hRslots : slots + 6 ≤ R.slots) (hlocks : meth.locks = false)
    (hx : ∀ t : State, s.vm.Alike t.vm → H.size ≤ t.heap.size → (∀ q : Nat, q < H.size → t.heap[q]? = H[q]?) → XC cls s t)
    (hf : ∀ z ∈ locs, free z.base) (hc : cells + 1 ≤ mc) (hs : slots + 6 ≤ ms) :
    W p l e R s m args below meth c H locs cells slots (vx_MQ below Qc XC args s mc ms free) (F0 m pc ls rest) := by
  intro T hT X
  have htr : e.platform.stackTraces = false := (show e.platform.stackTraces = l.stackTraces by rw [X.admits.platform]).trans hl
  have Y := vx_rebase X (R' := { frames := R.frames, locals := R.locals, cells := 1, slots := 6 }) (Nat.le_refl _) (Nat.le_refl _) hRcells hRslots
  obtain ⟨s', hA⟩ : ∃ z, z = (T.setVm s.vm).setFrames (.invoking m args :: below) := ⟨_, rfl⟩
  rw [← hA] at Y
  have hvm : s'.vm = s.vm := by rw [hA]; rfl
  have hhp : s'.heap = H := by rw [hA]; exact hT
  have hW0 : s.WarmedH s'.vm := by rw [hvm]; exact State.WarmedH.refl s
  have hat' : ∀ w ∈ vx_at0 own ic cls names, w.before args s' = true := fun w hw => vx_ot_at hW0 hvm.symm (hgood w (List.mem_cons_of_mem _ (List.mem_cons_of_mem _ hw))) (hat w hw)
  have hk' : (Cond.classLink own ik cls).before args s' = true := vx_ot_at hW0 hvm.symm (hgood _ List.mem_cons_self) hk
  have hini' : (Cond.initialized cls).before args s' = true := vx_ot_at hW0 hvm.symm (hgood _ (List.mem_cons_of_mem _ List.mem_cons_self)) hini
  have hU' : vx_Zq Bundle.tN "UNASSIGNED_STACK" Bundle.steD A s' s'.heap := by rw [hhp]; exact vx_Zq.moved hW0.alike (hU.kept hS.2.1)
  have hN' : vx_Zq Bundle.tN "SUPPRESSED_SENTINEL" Bundle.listD A s' s'.heap := by rw [hhp]; exact vx_Zq.moved hW0.alike (hN.kept hS.2.1)
  have h : ∀ w ∈ Bundle.ownAtoms0 own ic cls names, w.before args s' = true := vx_own hat' (vx_isRefq hU'.1) (vx_isRefq hN'.1) hU'.2.word hN'.2.word
  have hown' : s'.vm.findClass own = some m.cls := by rw [hvm]; exact hown
  have hins : (Cond.instantiable cls 6).before args s' = true := h _ (by simp [Bundle.ownAtoms0])
  obtain ⟨vm₁, cX, kX, hfX, hkX, -, -, X₁, st1⟩ := Y.newCold hexec (own := own) (C := cls) (index := ik) (n := 6) hown' hk' hins hini'
    (g := F0 m pc ls rest) rfl (by rw [hb]; exact d0) (Nat.le_refl _) (Nat.le_refl _)
  generalize hT1 : (T.setVm vm₁).pushCell { cls := cX, slots := kX.instanceTypes.map defaultValue, vm := .none } = T1 at X₁ st1
  have hcat : (Value.ref T.heap.size).category = 1 := rfl
  have hcellA : T1.heap[T.heap.size]? = some (freshCell cX kX) := by rw [← hT1]; exact State.heap_pushCell_size _ _
  have d3' : decode c.code (pc + 3) = .ok (.dup, 1) := by rw [hb]; exact d3
  obtain ⟨U, hsteps, hrun, hend, hW, hsame, ce, hce, hO⟩ := X₁.ctorThrow0 hexec htr (own := own) (cls := cls) (names := names) (ic := ic) hown' hcls hnames h (fun x hx => nomatch hx) hfX hkX hcellA (by rw [hhp, hT]; exact Nat.le_refl _)
    (g := { method := m, pc := pc + 4, locals := ls, stack := .ref T.heap.size :: .ref T.heap.size :: rest, locked := none }) rfl hsize rfl rfl (rest := rest) rfl
    (by rw [hb]; exact d4) (by rw [hb]; exact d7) hout hRframes (by simp only [List.map_cons, List.sum_cons, hcat]; omega) hlocks
  obtain ⟨f1, f2⟩ := vx_frame hsame
  rw [hhp] at f1 f2
  have hWs : s.WarmedH U.vm := State.WarmedH.trans hW0 hW
  have hcl : s.vm.findClass cls = some ce.cls := by
    have h9 := hO.cls
    rw [hvm] at h9
    exact h9
  have hall : s.sameButNew ({ U with vm := s.vm } : State) locs mc ms := by
    subst hA
    obtain ⟨e1, e2⟩ := hsame
    rw [State.setFrames_setFrames] at e1
    have h2 : (T.setVm s.vm).sameButNew ({ U with vm := s.vm } : State) [] (0 + 1) (0 + 6) := ⟨e1, e2⟩
    have h3 := X.same.trans h2
    rw [List.append_nil] at h3
    exact h3.mono hc hs
  refine ⟨U, ?_, .threw T.heap.size, hrun, hend, Or.inr ⟨T.heap.size, rfl, cls, ce, locs, hx U hWs.alike f1 (fun q hq => f2 q hq (fun z hz => nomatch hz)), hce, hO.vm, hcl, hWs, hall, hf⟩⟩
  refine st1 _ ?_
  show Steps p.tables e below (T1.setTop { method := m, pc := pc + 3, locals := ls, stack := .ref T.heap.size :: rest, locked := none }) _
  jvm_step X₁.here [X₁.here.top, hexec, d3', Value.category]
  exact hsteps
/-- 'throw new E("text")': new; dup; ldc; invokespecial; athrow -/
theorem vx_throwS {cc : ByteArray} {pc : Nat} (hexec : p.tables.exec = Jvm.exec) (hb : c.code = cc) (hl : l.stackTraces = false) {own cls text : String} {names : List String} {ik is ic mc ms sa : Nat} {A : Nat → Prop}
    (hown : s.vm.findClass own = some m.cls) (hcls : Bundle.fit cls = true) (hnames : ∀ n ∈ names, Bundle.fit n = true)
    (hk : (Cond.classLink own ik cls).before args s = true) (hini : (Cond.initialized cls).before args s = true) (hstr : vk_R own is text sa s) (hat : ∀ w ∈ vx_atS own ic cls names, w.before args s = true)
    (hgood : ∀ w ∈ Cond.classLink own ik cls :: Cond.initialized cls :: vx_atS own ic cls names, vx_ot w = true)
    (hU : vx_Zq Bundle.tN "UNASSIGNED_STACK" Bundle.steD A s s.heap) (hN : vx_Zq Bundle.tN "SUPPRESSED_SENTINEL" Bundle.listD A s s.heap) (hS : va_S A s.heap H locs) (hsize : ls.size = c.maxLocals)
    (d0 : decode cc pc = .ok (.new ik, 3)) (d3 : decode cc (pc + 3) = .ok (.dup, 1)) (d4 : decode cc (pc + 4) = .ok (.ldc is, 2)) (d6 : decode cc (pc + 6) = .ok (.invokespecial ic, 3)) (d9 : decode cc (pc + 9) = .ok (.athrow, 1))
    (hout : ∀ x ∈ c.exceptionTable.toList, covers x (pc + 9) = false)
    (hRframes : names.length + 3 < R.frames) (hRlocals : (rest.map fun v => v.category).sum + (13 * (names.length + 1) + 43) ≤ R.locals) (hRcells : cells + 1 ≤ R.cells) (hRslots : slots + 6 ≤ R.slots) (hlocks : meth.locks = false)
    (hx : ∀ t : State, s.vm.Alike t.vm → H.size ≤ t.heap.size → (∀ q : Nat, q < H.size → t.heap[q]? = H[q]?) → XC cls s t)
    (hf : ∀ z ∈ locs, free z.base) (hc : cells + 1 ≤ mc) (hs : slots + 6 ≤ ms) :
    W p l e R s m args below meth c H locs cells slots (vx_MQ below Qc XC args s mc ms free) (F0 m pc ls rest) := by
  intro T hT X
  have htr : e.platform.stackTraces = false := (show e.platform.stackTraces = l.stackTraces by rw [X.admits.platform]).trans hl
  have Y := vx_rebase X (R' := { frames := R.frames, locals := R.locals, cells := 1, slots := 6 }) (Nat.le_refl _) (Nat.le_refl _) hRcells hRslots
  obtain ⟨s', hA⟩ : ∃ z, z = (T.setVm s.vm).setFrames (.invoking m args :: below) := ⟨_, rfl⟩
  rw [← hA] at Y
  have hvm : s'.vm = s.vm := by rw [hA]; rfl
  have hhp : s'.heap = H := by rw [hA]; exact hT
  have hW0 : s.WarmedH s'.vm := by rw [hvm]; exact State.WarmedH.refl s
  have hat' : ∀ w ∈ vx_atS own ic cls names, w.before args s' = true := fun w hw => vx_ot_at hW0 hvm.symm (hgood w (List.mem_cons_of_mem _ (List.mem_cons_of_mem _ hw))) (hat w hw)
  have hk' : (Cond.classLink own ik cls).before args s' = true := vx_ot_at hW0 hvm.symm (hgood _ List.mem_cons_self) hk
  have hini' : (Cond.initialized cls).before args s' = true := vx_ot_at hW0 hvm.symm (hgood _ (List.mem_cons_of_mem _ List.mem_cons_self)) hini
  have hU' : vx_Zq Bundle.tN "UNASSIGNED_STACK" Bundle.steD A s' s'.heap := by rw [hhp]; exact vx_Zq.moved hW0.alike (hU.kept hS.2.1)
  have hN' : vx_Zq Bundle.tN "SUPPRESSED_SENTINEL" Bundle.listD A s' s'.heap := by rw [hhp]; exact vx_Zq.moved hW0.alike (hN.kept hS.2.1)
  have h : ∀ w ∈ Bundle.ownAtoms own ic cls names, w.before args s' = true := vx_own hat' (vx_isRefq hU'.1) (vx_isRefq hN'.1) hU'.2.word hN'.2.word
  have hown' : s'.vm.findClass own = some m.cls := by rw [hvm]; exact hown
  have hins : (Cond.instantiable cls 6).before args s' = true := h _ (by simp [Bundle.ownAtoms])
  obtain ⟨vm₁, cX, kX, hfX, hkX, -, -, X₁, st1⟩ := Y.newCold hexec (own := own) (C := cls) (index := ik) (n := 6) hown' hk' hins hini'
    (g := F0 m pc ls rest) rfl (by rw [hb]; exact d0) (Nat.le_refl _) (Nat.le_refl _)
  generalize hT1 : (T.setVm vm₁).pushCell { cls := cX, slots := kX.instanceTypes.map defaultValue, vm := .none } = T1 at X₁ st1
  have hcat : (Value.ref T.heap.size).category = 1 := rfl
  have hcellA : T1.heap[T.heap.size]? = some (freshCell cX kX) := by rw [← hT1]; exact State.heap_pushCell_size _ _
  have d3' : decode c.code (pc + 3) = .ok (.dup, 1) := by rw [hb]; exact d3
  have d4' : decode c.code (pc + 4) = .ok (.ldc is, 2) := by rw [hb]; exact d4
  have hstr' : vk_R own is text sa s' := vk_R.warm hW0 hstr
  obtain ⟨U, hsteps, hrun, hend, hW, hsame, ce, hce, hO⟩ := X₁.ctorThrowS hexec htr (own := own) (cls := cls) (names := names) (ic := ic) hown' hcls hnames h (fun x hx => nomatch hx) hfX hkX hcellA (by rw [hhp, hT]; exact Nat.le_refl _) (msg := .ref sa) rfl
    (g := { method := m, pc := pc + 6, locals := ls, stack := .ref sa :: .ref T.heap.size :: .ref T.heap.size :: rest, locked := none }) rfl hsize rfl rfl (rest := rest) rfl
    (by rw [hb]; exact d6) (by rw [hb]; exact d9) hout hRframes (by simp only [List.map_cons, List.sum_cons, hcat]; omega) hlocks
  obtain ⟨f1, f2⟩ := vx_frame hsame
  rw [hhp] at f1 f2
  have hWs : s.WarmedH U.vm := State.WarmedH.trans hW0 hW
  have hcl : s.vm.findClass cls = some ce.cls := by
    have h9 := hO.cls
    rw [hvm] at h9
    exact h9
  have hall : s.sameButNew ({ U with vm := s.vm } : State) locs mc ms := by
    subst hA
    obtain ⟨e1, e2⟩ := hsame
    rw [State.setFrames_setFrames] at e1
    have h2 : (T.setVm s.vm).sameButNew ({ U with vm := s.vm } : State) [] (0 + 1) (0 + 6) := ⟨e1, e2⟩
    have h3 := X.same.trans h2
    rw [List.append_nil] at h3
    exact h3.mono hc hs
  refine ⟨U, ?_, .threw T.heap.size, hrun, hend, Or.inr ⟨T.heap.size, rfl, cls, ce, locs, hx U hWs.alike f1 (fun q hq => f2 q hq (fun z hz => nomatch hz)), hce, hO.vm, hcl, hWs, hall, hf⟩⟩
  refine st1 _ ?_
  show Steps p.tables e below (T1.setTop { method := m, pc := pc + 3, locals := ls, stack := .ref T.heap.size :: rest, locked := none }) _
  jvm_step X₁.here [X₁.here.top, hexec, d3', Value.category]
  exact X₁.ldcString hexec (own := own) (text := text) (index := is) (a := sa) hown' hstr'.1 hstr'.2
    (g := { method := m, pc := pc + 4, locals := ls, stack := .ref T.heap.size :: .ref T.heap.size :: rest, locked := none }) rfl d4' _ hsteps
/-- 'throw new E("text")', the text by a wide index -/
theorem vx_throwSW {cc : ByteArray} {pc : Nat} (hexec : p.tables.exec = Jvm.exec) (hb : c.code = cc) (hl : l.stackTraces = false) {own cls text : String} {names : List String} {ik is ic mc ms sa : Nat} {A : Nat → Prop}
    (hown : s.vm.findClass own = some m.cls) (hcls : Bundle.fit cls = true) (hnames : ∀ n ∈ names, Bundle.fit n = true)
    (hk : (Cond.classLink own ik cls).before args s = true) (hini : (Cond.initialized cls).before args s = true) (hstr : vk_R own is text sa s) (hat : ∀ w ∈ vx_atS own ic cls names, w.before args s = true)
    (hgood : ∀ w ∈ Cond.classLink own ik cls :: Cond.initialized cls :: vx_atS own ic cls names, vx_ot w = true)
    (hU : vx_Zq Bundle.tN "UNASSIGNED_STACK" Bundle.steD A s s.heap) (hN : vx_Zq Bundle.tN "SUPPRESSED_SENTINEL" Bundle.listD A s s.heap) (hS : va_S A s.heap H locs) (hsize : ls.size = c.maxLocals)
    (d0 : decode cc pc = .ok (.new ik, 3)) (d3 : decode cc (pc + 3) = .ok (.dup, 1)) (d4 : decode cc (pc + 4) = .ok (.ldc_w is, 3)) (d7 : decode cc (pc + 7) = .ok (.invokespecial ic, 3)) (d10 : decode cc (pc + 10) = .ok (.athrow, 1))
    (hout : ∀ x ∈ c.exceptionTable.toList, covers x (pc + 10) = false)
    (hRframes : names.length + 3 < R.frames) (hRlocals : (rest.map fun v => v.category).sum + (13 * (names.length + 1) + 43) ≤ R.locals) (hRcells : cells + 1 ≤ R.cells) (hRslots : slots + 6 ≤ R.slots) (hlocks : meth.locks = false)
    (hx : ∀ t : State, s.vm.Alike t.vm → H.size ≤ t.heap.size → (∀ q : Nat, q < H.size → t.heap[q]? = H[q]?) → XC cls s t)
    (hf : ∀ z ∈ locs, free z.base) (hc : cells + 1 ≤ mc) (hs : slots + 6 ≤ ms) :
    W p l e R s m args below meth c H locs cells slots (vx_MQ below Qc XC args s mc ms free) (F0 m pc ls rest) := by
  intro T hT X
  have htr : e.platform.stackTraces = false := (show e.platform.stackTraces = l.stackTraces by rw [X.admits.platform]).trans hl
  have Y := vx_rebase X (R' := { frames := R.frames, locals := R.locals, cells := 1, slots := 6 }) (Nat.le_refl _) (Nat.le_refl _) hRcells hRslots
  obtain ⟨s', hA⟩ : ∃ z, z = (T.setVm s.vm).setFrames (.invoking m args :: below) := ⟨_, rfl⟩
  rw [← hA] at Y
  have hvm : s'.vm = s.vm := by rw [hA]; rfl
  have hhp : s'.heap = H := by rw [hA]; exact hT
  have hW0 : s.WarmedH s'.vm := by rw [hvm]; exact State.WarmedH.refl s
  have hat' : ∀ w ∈ vx_atS own ic cls names, w.before args s' = true := fun w hw => vx_ot_at hW0 hvm.symm (hgood w (List.mem_cons_of_mem _ (List.mem_cons_of_mem _ hw))) (hat w hw)
  have hk' : (Cond.classLink own ik cls).before args s' = true := vx_ot_at hW0 hvm.symm (hgood _ List.mem_cons_self) hk
  have hini' : (Cond.initialized cls).before args s' = true := vx_ot_at hW0 hvm.symm (hgood _ (List.mem_cons_of_mem _ List.mem_cons_self)) hini
  have hU' : vx_Zq Bundle.tN "UNASSIGNED_STACK" Bundle.steD A s' s'.heap := by rw [hhp]; exact vx_Zq.moved hW0.alike (hU.kept hS.2.1)
  have hN' : vx_Zq Bundle.tN "SUPPRESSED_SENTINEL" Bundle.listD A s' s'.heap := by rw [hhp]; exact vx_Zq.moved hW0.alike (hN.kept hS.2.1)
  have h : ∀ w ∈ Bundle.ownAtoms own ic cls names, w.before args s' = true := vx_own hat' (vx_isRefq hU'.1) (vx_isRefq hN'.1) hU'.2.word hN'.2.word
  have hown' : s'.vm.findClass own = some m.cls := by rw [hvm]; exact hown
  have hins : (Cond.instantiable cls 6).before args s' = true := h _ (by simp [Bundle.ownAtoms])
  obtain ⟨vm₁, cX, kX, hfX, hkX, -, -, X₁, st1⟩ := Y.newCold hexec (own := own) (C := cls) (index := ik) (n := 6) hown' hk' hins hini'
    (g := F0 m pc ls rest) rfl (by rw [hb]; exact d0) (Nat.le_refl _) (Nat.le_refl _)
  generalize hT1 : (T.setVm vm₁).pushCell { cls := cX, slots := kX.instanceTypes.map defaultValue, vm := .none } = T1 at X₁ st1
  have hcat : (Value.ref T.heap.size).category = 1 := rfl
  have hcellA : T1.heap[T.heap.size]? = some (freshCell cX kX) := by rw [← hT1]; exact State.heap_pushCell_size _ _
  have d3' : decode c.code (pc + 3) = .ok (.dup, 1) := by rw [hb]; exact d3
  have d4' : decode c.code (pc + 4) = .ok (.ldc_w is, 3) := by rw [hb]; exact d4
  have hstr' : vk_R own is text sa s' := vk_R.warm hW0 hstr
  obtain ⟨U, hsteps, hrun, hend, hW, hsame, ce, hce, hO⟩ := X₁.ctorThrowS hexec htr (own := own) (cls := cls) (names := names) (ic := ic) hown' hcls hnames h (fun x hx => nomatch hx) hfX hkX hcellA (by rw [hhp, hT]; exact Nat.le_refl _) (msg := .ref sa) rfl
    (g := { method := m, pc := pc + 7, locals := ls, stack := .ref sa :: .ref T.heap.size :: .ref T.heap.size :: rest, locked := none }) rfl hsize rfl rfl (rest := rest) rfl
    (by rw [hb]; exact d7) (by rw [hb]; exact d10) hout hRframes (by simp only [List.map_cons, List.sum_cons, hcat]; omega) hlocks
  obtain ⟨f1, f2⟩ := vx_frame hsame
  rw [hhp] at f1 f2
  have hWs : s.WarmedH U.vm := State.WarmedH.trans hW0 hW
  have hcl : s.vm.findClass cls = some ce.cls := by
    have h9 := hO.cls
    rw [hvm] at h9
    exact h9
  have hall : s.sameButNew ({ U with vm := s.vm } : State) locs mc ms := by
    subst hA
    obtain ⟨e1, e2⟩ := hsame
    rw [State.setFrames_setFrames] at e1
    have h2 : (T.setVm s.vm).sameButNew ({ U with vm := s.vm } : State) [] (0 + 1) (0 + 6) := ⟨e1, e2⟩
    have h3 := X.same.trans h2
    rw [List.append_nil] at h3
    exact h3.mono hc hs
  refine ⟨U, ?_, .threw T.heap.size, hrun, hend, Or.inr ⟨T.heap.size, rfl, cls, ce, locs, hx U hWs.alike f1 (fun q hq => f2 q hq (fun z hz => nomatch hz)), hce, hO.vm, hcl, hWs, hall, hf⟩⟩
  refine st1 _ ?_
  show Steps p.tables e below (T1.setTop { method := m, pc := pc + 3, locals := ls, stack := .ref T.heap.size :: rest, locked := none }) _
  jvm_step X₁.here [X₁.here.top, hexec, d3', Value.category]
  exact X₁.ldcStringW hexec (own := own) (text := text) (index := is) (a := sa) hown' hstr'.1 hstr'.2
    (g := { method := m, pc := pc + 4, locals := ls, stack := .ref T.heap.size :: .ref T.heap.size :: rest, locked := none }) rfl d4' _ hsteps
end Ends
section Bodies
variable {l : Launch}
theorem vx_ofW {y : MethodName} {ws ws' : List Cond} {rm : Room} {Pc : Array Value → State → Prop} {Qc : Array Value → State → Outcome → State → Prop} {XC : String → State → State → Prop} {mc ms : Nat} {free : Addr → Prop} {cc : ByteArray} {maxL : Nat} {ret : Option FieldType}
    (hy : plainName y.cls = true) (hw : ws = Cond.code y cc maxL ret :: ws')
    (body : ∀ p e s m args below meth c s₁, BodyLoose p l y (headSpec ws rm) cc maxL ret e s m args below meth c s₁ → c.maxLocals = maxL → (∀ x ∈ c.exceptionTable.toList, False) → Pc args s →
      W p l e (headSpec ws rm).room s m args below meth c s.heap [] 0 0 (vx_MQ below Qc XC args s mc ms free) (entryFrame m args maxL)) : vx_Met l y ws rm Pc Qc XC mc ms free := by
  refine MetFree.of_bodyS (code := cc) (maxLocals := maxL) (ret := ret) hy ?_ ?_
  · intro args s m h hn
    obtain ⟨meth, c, h1, h2, h3, h4, h5, h6, -, -⟩ := Cond.code_spec hn (atoms_spec (ws := ws) h _ (by rw [hw]; exact List.mem_cons_self))
    exact ⟨meth, c, h1, h2, h3, h4, h5, h6⟩
  · intro p e s m args below meth c s₁ B hml hP _
    have hh0 : s₁.heap = s.heap := by rw [B.state]; rfl
    have ht : ∀ x ∈ c.exceptionTable.toList, False := by
      obtain ⟨meth9, c9, h1, h2, -, -, -, -, h7, -⟩ := Cond.code_spec B.named (atoms_spec (ws := ws) B.pre _ (by rw [hw]; exact List.mem_cons_self))
      cases Option.some.inj (h1.symm.trans B.method)
      cases Option.some.inj (h2.symm.trans (Stand.of_body B).code)
      intro x hx
      rw [Array.isEmpty_iff.mp h7] at hx
      cases hx
    obtain ⟨t, a1, o, b1, b2, b3⟩ := body p e s m args below meth c s₁ B hml ht hP s₁ hh0 (Stand.of_body B)
    exact ⟨t, o, a1, b1, b2, b3⟩
/-- the table of a body with handlers -/
theorem vx_table {p : Program} {x y : MethodName} {S : Spec} {cc bytes : ByteArray} {maxL maxL' : Nat} {ret ret' : Option FieldType} {e : Env} {s s₁ : State} {m : MethodId} {args : Array Value} {below : List Frame} {meth : Method} {c : Code} {hh : List (Nat × Nat × Nat × Nat)}
    (B : BodyLoose p l y S cc maxL ret e s m args below meth c s₁) (h : (Cond.codeWith y bytes maxL' ret' hh).before args s = true) : c.exceptionTable.toList = tableOf hh := by
  obtain ⟨m9, meth9, c9, hn9, h1, h2, -, -, h6, -⟩ := Cond.codeWith_spec h
  cases Option.some.inj (hn9.symm.trans B.named)
  cases Option.some.inj (h1.symm.trans B.method)
  cases Option.some.inj (h2.symm.trans (Stand.of_body B).code)
  rw [← h6, table_eq]
end Bodies
end VXA
/-! ===== END ===== -/
/-! ===== BEGIN a static call of a method with an exception table ===== -/
section VXS
variable {p : Program} {l : Launch} {e : Env} {R : Room} {s : State} {m : MethodId} {args : Array Value} {below : List Frame} {meth : Method} {c : Code} {T : State} {H : Heap} {locs : List Loc} {cells slots : Nat}
abbrev vx_CSW (R : Room) (s : State) (args : Array Value) (own : String) (index : Nat) (y : MethodName) (bytes : ByteArray) (maxL : Nat) (ret : Option FieldType) (hh : List (Nat × Nat × Nat × Nat)) (ws : List Cond) (rm : Room) (mc ms n : Nat) : Prop :=
  (rm.cells = mc ∧ rm.slots = ms ∧ rm.frames + 1 ≤ R.frames ∧ 8 + (maxL + 11) + rm.locals ≤ R.locals ∧ (∀ w ∈ ws, ∀ (a' : Array Value) (U : State), s.WarmedH U.vm → w.before a' U = true) ∧ Cond.codeWith y bytes maxL ret hh ∈ ws) ∧
  (Cond.codeWith y bytes maxL ret hh).before args s = true ∧ (Cond.initialized y.cls).before args s = true ∧ (y.cls ≠ "java/lang/invoke/MethodHandle" ∧ y.cls ≠ "java/lang/invoke/VarHandle") ∧
  (∀ sig, parseMethodDescriptor y.desc = some sig → n = sig.parameters.length) ∧ (Cond.methodLink own index y).before args s = true ∧ (Cond.static y).before args s = true
theorem vx_cwSW {own : String} {index maxL mc ms : Nat} {y : MethodName} {bytes : ByteArray} {ret : Option FieldType} {hh : List (Nat × Nat × Nat × Nat)} {Ts ws ws' : List Cond} {rm : Room} (n : Nat) (ht : ∀ w ∈ Ts, w.before args s = true) (hT : GoodIn Ts (va_wsS own index y ws)) (hw : ws = Cond.codeWith y bytes maxL ret hh :: ws') (hrc : rm.cells = mc) (hrs : rm.slots = ms)
    (hd : y.cls ≠ "java/lang/invoke/MethodHandle" ∧ y.cls ≠ "java/lang/invoke/VarHandle" ∧ (parseMethodDescriptor y.desc).map (fun d => d.parameters.length) = some n) (hR : rm.frames + 1 ≤ R.frames ∧ 8 + (maxL + 11) + rm.locals ≤ R.locals) :
    vx_CSW R s args own index y bytes maxL ret hh ws rm mc ms n := by
  have ok : ∀ w ∈ va_wsS own index y ws, w.before args s = true := fun w h => ht w (hT w h).1
  have hG : GoodIn Ts ws := fun w h => hT w (by unfold va_wsS; exact List.mem_append_right _ h)
  have hc : Cond.codeWith y bytes maxL ret hh ∈ ws := by rw [hw]; exact List.mem_cons_self
  refine ⟨⟨hrc, hrs, hR.1, hR.2, pay_in ht hG, hc⟩, ht _ (hG _ hc).1, ok _ (by simp [va_wsS]), ⟨hd.1, hd.2.1⟩, fun sig h => ?_, ok _ (by simp [va_wsS]), ok _ (by simp [va_wsS])⟩
  have h2 := hd.2.2
  rw [h] at h2
  exact (Option.some.inj h2).symm
theorem vx_callSW (X : Stand p l e R s m args below meth c T locs cells slots) (hexec : p.tables.exec = Jvm.exec) {own : String} {index : Nat} {y : MethodName} {bytes : ByteArray} {maxL : Nat} {ret : Option FieldType} {hh : List (Nat × Nat × Nat × Nat)}
    (hown : s.vm.findClass own = some m.cls) (hlink : (Cond.methodLink own index y).before args s = true) (hstat : (Cond.static y).before args s = true) (hinit : (Cond.initialized y.cls).before args s = true)
    (hcode : (Cond.codeWith y bytes maxL ret hh).before args s = true) (hy : y.cls ≠ "java/lang/invoke/MethodHandle" ∧ y.cls ≠ "java/lang/invoke/VarHandle")
    {W9 : Nat} {Pre : Pt → Array Value → Prop} {Post : Pt → Array Value → Option Value → Pt → Prop} (hK : Back l R p e below s args y 3 W9 Pre Post)
    {g : JFrame} (hg : g.method = m) (hsize : g.locals.size = c.maxLocals) {argsL rest : List Value} (hlen : ∀ sig, parseMethodDescriptor y.desc = some sig → argsL.length = sig.parameters.length)
    (hstack : g.stack = argsL.reverse ++ rest) (hW : 2 * g.monitorRoom + (rest.map fun v => v.category).sum ≤ W9) (hdg : decode c.code g.pc = .ok (.invokestatic index, 3))
    (hpre : ∀ vm₁, s.WarmedH vm₁ → Pre ⟨T.setVm vm₁, locs, cells, slots⟩ argsL.toArray) :
    ∃ (v : Option Value) (vm₁ : Vm) (B : Pt), s.WarmedH vm₁ ∧ Stand p l e R s m args below meth c B.U B.locs B.cells B.slots ∧ Post ⟨T.setVm vm₁, locs, cells, slots⟩ argsL.toArray v B ∧
      ∀ target, Steps p.tables e below (B.U.setTop { g with pc := g.pc + 3, stack := v.toList ++ rest }) target → Steps p.tables e below (T.setTop g) target := by
  obtain ⟨mk, methM, cM, hnamed, hmethM, -, -, -, -, -, -, hsigM⟩ := Cond.codeWith_spec hcode
  have hstatic : methM.isStatic = true := Cond.static_spec hnamed hmethM hstat
  obtain ⟨kP, hkP, -⟩ := className_of_methodNamed hnamed
  have hinitP : kP.init = .initialized := Cond.initialized_spec (findClass_of_methodNamed hnamed) hkP hinit
  obtain ⟨vm₁, X₁, hstep₁⟩ := X.invokestatic hexec hown hlink hnamed hmethM hstatic hkP hinitP hy (g := g) hg (argsL := argsL) (rest := rest) (hlen _ hsigM) hstack hdg
  obtain ⟨v, B, X', hpost, hsteps⟩ := hK m meth c ⟨T.setVm vm₁, locs, cells, slots⟩ { g with stack := rest } (.invokestatic index) mk argsL.toArray X₁ hg hsize hdg hW (X₁.named hnamed) (hpre vm₁ X₁.warmed)
  exact ⟨v, vm₁, B, X₁.warmed, X', hpost, fun target h => hstep₁ _ fun acts => by rw [doInvoke_state]; exact hsteps.trans h⟩
theorem vx_runSW {y : MethodName} {bytes cc : ByteArray} {maxL nL mc ms n index : Nat} {ret : Option FieldType} {hh : List (Nat × Nat × Nat × Nat)} {ws : List Cond} {rm : Room} {Pc : Array Value → State → Prop} {Qc : Array Value → State → Outcome → State → Prop} {free : Addr → Prop} {Ts : List Cond} {own : String} {As rest : List Value} {g : JFrame}
    (S : CallFix p m c cc nL s args Ts own) (hM : Met l y ws rm Pc Qc mc ms free) (cw : vx_CSW R s args own index y bytes maxL ret hh ws rm mc ms n) (hp : PreS s H Pc As)
    (hg : g.method = m) (hn : As.length = n) (hsize : g.locals.size = nL) (hstack : g.stack = As.reverse ++ rest) (hW : 2 * g.monitorRoom + (rest.map fun v => v.category).sum ≤ 8) (hdg : decode cc g.pc = .ok (.invokestatic index, 3)) (hf : cells + mc ≤ R.cells ∧ slots + ms ≤ R.slots) :
    va_Run p l e R s m args below meth c H locs cells slots mc ms g rest (Qc As.toArray) (free) := by
  obtain ⟨⟨hrc, hrs, hfr, hlo, hws, hcw⟩, hcode, hini, hy, hlen, hl, hstt⟩ := cw
  have hK : Back l R p e below s args y 3 8 (PreOf R mc ms Pc) (PostOf Qc mc ms free) := va_backW (hh := hh) (bytes := bytes) (maxL := maxL) (ret := ret) hM hp.1 hrc hrs hfr hlo hws hcw (fun a' U hW => word_at hW (Or.inl (by first | rfl | simp [Cond.onTables, Cond.keeps, Cond.steady])) hini)
  obtain ⟨hx, hb, hml, ho, -⟩ := S
  intro T hT X
  obtain ⟨v, vm₁, ⟨U', l2, c2, s2⟩, hW₁, X', ⟨g', mk, t, L, e1, e2, hq, h1, hL, h2, h3⟩, st⟩ := vx_callSW X hx (hh := hh) (bytes := bytes) (maxL := maxL) (ret := ret) ho hl hstt hini hcode hy hK hg (hsize.trans hml.symm) (argsL := As) (rest := rest) (fun sig h => hn.trans (hlen sig h)) hstack hW (by rw [hb]; exact hdg)
    (fun vm₁ hW₁ => ⟨hf.1, hf.2, hp.2 (T.setVm vm₁) hT hW₁⟩)
  dsimp only [Pt.U, Pt.locs, Pt.cells, Pt.slots] at X' e1 e2 h1 h2 h3 st
  subst h1; subst h2; subst h3
  exact ⟨v, (T.setVm vm₁).calling g' mk As.toArray, t, U', L, hT, X', hL, e1, e2, hq, st⟩
/-- not caught here, past rows that name other classes: it goes on to the caller -/
theorem vx_outP {p : Program} {l : Launch} {e : Env} {R : Room} {s : State} {m : MethodId} {args : Array Value} {below : List Frame} {meth : Method} {c : Code} {H : Heap} {locs : List Loc} {cells slots : Nat} {free : Addr → Prop} {ls : Array Slot} {rest : List Value} {Qc : Array Value → State → Outcome → State → Prop} {XC : String → State → State → Prop}
    {pc : Nat} {own E : String} {ce : Cell} {q : Addr} {mc ms : Nat} (hown : s.vm.findClass own = some m.cls) (hlocks : meth.locks = false)
    (hpass : ∀ z ∈ c.exceptionTable.toList, covers z pc = false ∨ (z.catchType ≠ 0 ∧ ∃ nm : String, (Cond.classLink own z.catchType nm).before args s = true ∧ va_Nc E nm s)) (hcell : H[q]? = some ce) (hv : ce.vm = .none) (hcl : s.vm.findClass E = some ce.cls)
    (hx : ∀ t : State, t.heap = H → s.vm.Alike t.vm → XC E s t) (hf : ∀ z ∈ locs, free z.base) (hc : cells ≤ mc) (hs : slots ≤ ms) :
    vx_W p l e R s m args below meth c H locs cells slots (vx_MQ below Qc XC args s mc ms free) (F0 m pc ls rest) q := by
  intro T hT X
  have hpl : e.platform.magicAccessors = ({} : Platform).magicAccessors := by rw [X.admits.platform]
  obtain ⟨vm', hW', X', st⟩ := X.outThrough hlocks q (g := F0 m pc ls rest) rfl rfl rfl (cell := ce) (by rw [hT]; exact hcell) (by rw [hv]; rfl)
    (by obtain ⟨k9, h9, -⟩ := Vm.findClass_spec hcl; exact ⟨k9, h9⟩) (fun z hz => by
      rcases hpass z hz with h | ⟨hz0, nm, hl1, hn1⟩
      · exact Or.inl h
      · obtain ⟨c6, hc6, hcl6⟩ := Cond.classLink_spec hown hl1 e.platform hpl
        obtain ⟨a8, b8, h1, h2, h3⟩ := hn1
        cases Option.some.inj (h1.symm.trans hcl)
        cases Option.some.inj (h2.symm.trans hc6)
        exact Or.inr ⟨hz0, _, hcl6, h3⟩)
  obtain ⟨g₀, hfr⟩ := X'.frames_eq
  have hcell9 : ((T.setVm vm').setFrames (.throwing q :: below)).heap[q]? = some ce := by
    show T.heap[q]? = some ce
    rw [hT]; exact hcell
  have hend : Ended ((T.setVm vm').setFrames (.throwing q :: below)) below (.threw q) := State.frames_setFrames _ (State.cur_lt_of_frames hfr)
  refine ⟨(T.setVm vm').setFrames (.throwing q :: below), ?_, .threw q, X'.here.running, hend, Or.inr ⟨q, rfl, E, ce, locs, hx _ hT (X'.ends _).1.alike, hcell9, hv, hcl, (X'.ends _).1, (X'.ends _).2.mono hc hs, hf⟩⟩
  rw [X.pushThrowing_eq]
  exact st
/-- a thing of a world lies in the heap -/
theorem vx_lt {D : va_G} {cl : List vw_C} {ws : va_W} {H1 : Heap} (h : va_P D cl ws H1) {k : Nat} {q : Nat × va_E} (hk : ws[k]? = some q) : q.1 < H1.size := (h k q hk).lt
end VXS
/-! ===== END ===== -/
/-! ===== BEGIN methods with a table of their own: called by a name, returning or throwing ===== -/
section VXH
/-! vx_backW, vx_callVX, vx_callSX, vx_callVW, vx_runVW, vx_runVX, vx_runSX, vx_ofWH follow the same proofs as their sisters above (Free/Laws.lean, Shelf42/LK1.lean); vx_outP calls Shelf42/NT130.lean (outThrough). -/
section
variable {l : Launch} {R : Room} {p : Program} {e : Env} {below : List Frame} {s : State} {sargs : Array Value} {y : MethodName} {len W9 : Nat}
theorem vx_backW {ws : List Cond} {rm : Room} {Pc : Array Value → State → Prop} {Qc : Array Value → State → Outcome → State → Prop} {XC : String → State → State → Prop} {mc ms : Nat} {free : Addr → Prop} {bytes : ByteArray} {maxL : Nat} {ret : Option FieldType} {hh : List (Nat × Nat × Nat × Nat)}
    (hM : vx_Met l y ws rm Pc Qc XC mc ms free) (hblind : FrameBlind Pc) (hrc : rm.cells = mc) (hrs : rm.slots = ms)
    (hframes : rm.frames + 1 ≤ R.frames) (hlocals : W9 + (maxL + 11) + rm.locals ≤ R.locals)
    (hws : ∀ w ∈ ws, ∀ a' U, s.WarmedH U.vm → w.before a' U = true) (hcode : Cond.codeWith y bytes maxL ret hh ∈ ws) (hinit : ∀ a' U, s.WarmedH U.vm → (Cond.initialized y.cls).before a' U = true) :
    vx_Back l R p e below s sargs y len W9 (PreOf R mc ms Pc) (PostOf Qc mc ms free) (vx_Post XC mc ms free) := by
  intro m meth c A g ig mk a X hg hsize hdg hW hn hp
  have h1 : (headSpec ws rm).pre.before a A.U = true := atoms_intro fun w hw => hws w hw _ _ X.warmed
  have h2 : (Cond.codeWith y bytes maxL ret hh).before a A.U = true := hws _ hcode _ _ X.warmed
  have h3 : (Cond.initialized y.cls).before a A.U = true := hinit _ _ X.warmed
  have h4 : A.cells + (headSpec ws rm).room.cells ≤ R.cells := by rw [show (headSpec ws rm).room.cells = mc from hrc]; exact hp.1
  have h5 : A.slots + (headSpec ws rm).room.slots ≤ R.slots := by rw [show (headSpec ws rm).room.slots = ms from hrs]; exact hp.2.1
  have hPc : Pc a (A.U.calling g mk a) := hblind _ _ _ _ hp.2.2
  obtain ⟨U, Ls, c0, s0⟩ := A
  dsimp only [Pt.U, Pt.locs, Pt.cells, Pt.slots] at h1 h2 h3 h4 h5 X hn hPc ⊢
  obtain ⟨m9, methY, cY, hn9, hmY, hcY, -, hlY, -⟩ := Cond.codeWith_spec h2
  cases Option.some.inj (hn9.symm.trans hn)
  obtain ⟨kY, hkY, -⟩ := className_of_methodNamed hn
  have hinitY : kY.init = .initialized := Cond.initialized_spec (findClass_of_methodNamed hn) hkY h3
  have h : At U g.method c below := by rw [hg]; exact X.here
  have hlocals9 : W9 + (maxL + 11) + (headSpec ws rm).room.locals ≤ R.locals := hlocals
  have happ : (headSpec ws rm).appliesLoose y e.platform (U.calling g mk a) = true :=
    Spec.appliesLoose_calling (g := g) h hdg hn hkY hinitY
      (X.room_calling (g := g) (R' := (headSpec ws rm).room) hsize hmY hcY hframes (by rw [hlY]; omega) h4 h5) h1
  obtain ⟨mid, hmid⟩ := h.above
  have hfr : (U.setTop g).frames = (.java g :: mid) ++ below := by rw [State.frames_setTop' g h.top, hmid]; rfl
  obtain ⟨o, s₂, hsteps, -, hend, hq⟩ := Steps.callFree hM p X.admits X.cas X.clock (acts := []) hfr happ hPc trivial
  have hq' : vx_Q Qc XC mc ms free a (U.calling g mk a) o s₂ := hq
  rw [State.frames_setTop' g h.top] at hend
  obtain ⟨g₀, hg0⟩ := Option.isSome_iff_exists.mp h.top
  obtain ⟨r, hr⟩ := State.topJava?_eq_some.mp hg0
  have hr' : (({ U with heap := s₂.heap, slotsUsed := s₂.slotsUsed } : State).setVm s₂.vm).frames = .java g₀ :: r := hr
  rcases hq' with ⟨hqc, L, hfe, hL⟩ | ⟨q, rfl, E, ce, L, hx, hce, hcv, hcl, hW₂, hsm, hL⟩
  · obtain ⟨⟨v, rfl⟩, hW₂, e2, q2, q3, q4, q5, q6⟩ := id hfe
    have e3 : s₂ = ({ (U.calling g mk a).setFrames s₂.frames with heap := s₂.heap, slotsUsed := s₂.slotsUsed } : State).setVm s₂.vm := by
      have : s₂ = ({ s₂ with vm := (U.calling g mk a).vm } : State).setVm s₂.vm := rfl
      rw [e2] at this
      exact this
    obtain ⟨c₂, i₂, len₂, hc₂, hd₂, hf₂⟩ := hend
    have hW' : U.WarmedH s₂.vm := hW₂
    have hcc : c₂ = c := by
      have h1 : s₂.code? g.method = U.code? g.method := by
        rw [State.code?_eq, State.code?_eq, hW'.alike.method?]
      exact Option.some.inj (hc₂.symm.trans (h1.trans h.code))
    subst hcc
    have hlen : len₂ = len := by rw [hdg] at hd₂; cases hd₂; rfl
    subst hlen
    have hs₂ : s₂ = (({ U with heap := s₂.heap, slotsUsed := s₂.slotsUsed } : State).setVm s₂.vm).setTop { g with pc := g.pc + len₂, stack := v.toList ++ g.stack } := by
      refine e3.trans ?_
      rw [hf₂, State.calling_eq h.top, State.setFrames_setFrames, State.setTop_of_frames _ hr', hr]
      rfl
    have hsame : U.sameButNew ({ U with heap := s₂.heap, slotsUsed := s₂.slotsUsed } : State) L mc ms := by
      refine ⟨?_, q2, q3, q4, q5, q6⟩
      obtain ⟨t, ht, -⟩ := State.frames_cons hr
      show ({ U with heap := s₂.heap, slotsUsed := s₂.slotsUsed } : State) = { U.setFrames U.frames with heap := s₂.heap, slotsUsed := s₂.slotsUsed }
      rw [State.setFrames_self ht]
    subst hg
    refine Or.inl ⟨v, ⟨(({ U with heap := s₂.heap, slotsUsed := s₂.slotsUsed } : State).setVm s₂.vm), Ls ++ L, c0 + mc, s0 + ms⟩,
      ⟨X.admits, X.cas, X.clock, X.frames, X.room, X.hears, X.method, X.code, (X.here.setHeapUsed s₂.heap s₂.slotsUsed).setVm hW'.alike, X.tail, State.WarmedH.trans X.warmed hW', X.limits, X.bytes, X.same.trans (hsame.setVm s.vm)⟩,
      ⟨g, mk, s₂, L, rfl, rfl, hqc, rfl, hL, rfl, rfl⟩, ?_⟩
    show Steps p.tables e below _ ((({ U with heap := s₂.heap, slotsUsed := s₂.slotsUsed } : State).setVm s₂.vm).setTop { g with pc := g.pc + len₂, stack := v.toList ++ g.stack })
    rw [← hs₂]
    exact hsteps
  · obtain ⟨e2, q2, q3, q4, q5, q6⟩ := id hsm
    have e3 : s₂ = ({ (U.calling g mk a).setFrames s₂.frames with heap := s₂.heap, slotsUsed := s₂.slotsUsed } : State).setVm s₂.vm := by
      have : s₂ = ({ s₂ with vm := (U.calling g mk a).vm } : State).setVm s₂.vm := rfl
      rw [e2] at this
      exact this
    have hf₂ : s₂.frames = .throwing q :: .java g :: U.frames.tail := hend
    have hW' : U.WarmedH s₂.vm := hW₂
    have hs₂ : s₂ = ((({ U with heap := s₂.heap, slotsUsed := s₂.slotsUsed } : State).setVm s₂.vm).setTop g).pushFrame (.throwing q) := by
      refine e3.trans ?_
      rw [hf₂, State.calling_eq h.top, State.setFrames_setFrames, State.pushFrame, State.frames_setTop _ hr', State.setTop_of_frames _ hr', State.setFrames_setFrames, hr]
      rfl
    have hsame : U.sameButNew ({ U with heap := s₂.heap, slotsUsed := s₂.slotsUsed } : State) L mc ms := by
      refine ⟨?_, q2, q3, q4, q5, q6⟩
      obtain ⟨t, ht, -⟩ := State.frames_cons hr
      show ({ U with heap := s₂.heap, slotsUsed := s₂.slotsUsed } : State) = { U.setFrames U.frames with heap := s₂.heap, slotsUsed := s₂.slotsUsed }
      rw [State.setFrames_self ht]
    subst hg
    refine Or.inr ⟨q, ⟨(({ U with heap := s₂.heap, slotsUsed := s₂.slotsUsed } : State).setVm s₂.vm), Ls ++ L, c0 + mc, s0 + ms⟩,
      ⟨X.admits, X.cas, X.clock, X.frames, X.room, X.hears, X.method, X.code, (X.here.setHeapUsed s₂.heap s₂.slotsUsed).setVm hW'.alike, X.tail, State.WarmedH.trans X.warmed hW', X.limits, X.bytes, X.same.trans (hsame.setVm s.vm)⟩,
      ⟨g, mk, s₂, L, E, ce, rfl, rfl, hx, hce, hcv, hcl, rfl, hL, rfl, rfl⟩, ?_⟩
    show Steps p.tables e below _ (((({ U with heap := s₂.heap, slotsUsed := s₂.slotsUsed } : State).setVm s₂.vm).setTop g).pushFrame (.throwing q))
    rw [← hs₂]
    exact hsteps
end
variable {p : Program} {l : Launch} {e : Env} {R : Room} {s : State} {m : MethodId} {args : Array Value} {below : List Frame} {meth : Method} {c : Code} {T : State} {H : Heap} {locs : List Loc} {cells slots : Nat}
theorem vx_callVX (X : Stand p l e R s m args below meth c T locs cells slots) (hexec : p.tables.exec = Jvm.exec) {own C : String} {index : Nat} {y : MethodName} {bytes : ByteArray} {maxL : Nat} {ret : Option FieldType} {hh : List (Nat × Nat × Nat × Nat)}
    (hown : s.vm.findClass own = some m.cls) (hlink : (Cond.methodLink own index y).before args s = true) (hinst : (Cond.instanceMethod y).before args s = true) (hsel : (Cond.selects C y y).before args s = true)
    (hcode : (Cond.codeWith y bytes maxL ret hh).before args s = true) (hy : y.cls ≠ "java/lang/invoke/MethodHandle" ∧ y.cls ≠ "java/lang/invoke/VarHandle")
    {W9 : Nat} {Pre : Pt → Array Value → Prop} {Post : Pt → Array Value → Option Value → Pt → Prop} {PostX : Pt → Array Value → Addr → Pt → Prop} (hK : vx_Back l R p e below s args y 3 W9 Pre Post PostX)
    {b : Addr} {cellB : Cell} (hcell : T.heap[b]? = some cellB) (hobj : cellB.vm.isStatics = false) (hcls : s.vm.findClass C = some cellB.cls)
    {g : JFrame} (hg : g.method = m) (hsize : g.locals.size = c.maxLocals) {argsL rest : List Value} (hlen : ∀ sig, parseMethodDescriptor y.desc = some sig → argsL.length = sig.parameters.length)
    (hstack : g.stack = argsL.reverse ++ .ref b :: rest) (hW : 2 * g.monitorRoom + (rest.map fun v => v.category).sum ≤ W9) (hdg : decode c.code g.pc = .ok (.invokevirtual index, 3))
    (hpre : ∀ vm₁, s.WarmedH vm₁ → Pre ⟨T.setVm vm₁, locs, cells, slots⟩ (Value.ref b :: argsL).toArray) :
    (∃ (v : Option Value) (vm₁ : Vm) (B : Pt), s.WarmedH vm₁ ∧ Stand p l e R s m args below meth c B.U B.locs B.cells B.slots ∧ Post ⟨T.setVm vm₁, locs, cells, slots⟩ (Value.ref b :: argsL).toArray v B ∧
      ∀ target, Steps p.tables e below (B.U.setTop { g with pc := g.pc + 3, stack := v.toList ++ rest }) target → Steps p.tables e below (T.setTop g) target) ∨
    (∃ (q : Addr) (vm₁ : Vm) (B : Pt), s.WarmedH vm₁ ∧ Stand p l e R s m args below meth c B.U B.locs B.cells B.slots ∧ PostX ⟨T.setVm vm₁, locs, cells, slots⟩ (Value.ref b :: argsL).toArray q B ∧
      Steps p.tables e below (T.setTop g) ((B.U.setTop { g with stack := rest }).pushFrame (.throwing q))) := by
  obtain ⟨mk, methM, hnamed, hmethM, hstM, habM⟩ := Cond.instanceMethod_spec hinst
  obtain ⟨m8, methM', cM, hn8, hmethM', -, -, -, -, -, -, hsigM⟩ := Cond.codeWith_spec hcode
  cases Option.some.inj (hn8.symm.trans hnamed)
  cases hmethM.symm.trans hmethM'
  obtain ⟨c2, r2, m2, q1, q2, q3, q4, kP, hkP, hkPi⟩ := Cond.selects_spec hsel
  cases hcls.symm.trans q1
  cases (State.methodFound?_of_named hnamed hy).symm.trans q2
  cases hnamed.symm.trans q3
  have hselP : selectMethod e.platform s.vm cellB.cls mk = .method mk := by rw [Launch.admits_selectMethod X.admits]; exact q4
  obtain ⟨vm₁, X₁, hstep₁⟩ := X.invokevirtual hexec hown hlink hnamed hmethM hstM hkP hkPi hy (a := b) (cell := cellB) hcell
    (fun z h => by rw [h] at hobj; cases hobj) hselP hmethM habM hkP hkPi (g := g) hg (argsL := argsL) (rest := rest) (hlen _ hsigM) hstack hdg
  rcases hK m meth c ⟨T.setVm vm₁, locs, cells, slots⟩ { g with stack := rest } (.invokevirtual index) mk (Value.ref b :: argsL).toArray X₁ hg hsize hdg hW (X₁.named hnamed) (hpre vm₁ X₁.warmed) with ⟨v, B, X', hpost, hsteps⟩ | ⟨q, B, X', hpost, hsteps⟩
  · exact Or.inl ⟨v, vm₁, B, X₁.warmed, X', hpost, fun target h => hstep₁ _ fun acts => by rw [doInvoke_state]; exact hsteps.trans h⟩
  · exact Or.inr ⟨q, vm₁, B, X₁.warmed, X', hpost, hstep₁ _ fun acts => by rw [doInvoke_state]; exact hsteps⟩
theorem vx_callSX (X : Stand p l e R s m args below meth c T locs cells slots) (hexec : p.tables.exec = Jvm.exec) {own : String} {index : Nat} {y : MethodName} {bytes : ByteArray} {maxL : Nat} {ret : Option FieldType} {hh : List (Nat × Nat × Nat × Nat)}
    (hown : s.vm.findClass own = some m.cls) (hlink : (Cond.methodLink own index y).before args s = true) (hstat : (Cond.static y).before args s = true) (hinit : (Cond.initialized y.cls).before args s = true)
    (hcode : (Cond.codeWith y bytes maxL ret hh).before args s = true) (hy : y.cls ≠ "java/lang/invoke/MethodHandle" ∧ y.cls ≠ "java/lang/invoke/VarHandle")
    {W9 : Nat} {Pre : Pt → Array Value → Prop} {Post : Pt → Array Value → Option Value → Pt → Prop} {PostX : Pt → Array Value → Addr → Pt → Prop} (hK : vx_Back l R p e below s args y 3 W9 Pre Post PostX)
    {g : JFrame} (hg : g.method = m) (hsize : g.locals.size = c.maxLocals) {argsL rest : List Value} (hlen : ∀ sig, parseMethodDescriptor y.desc = some sig → argsL.length = sig.parameters.length)
    (hstack : g.stack = argsL.reverse ++ rest) (hW : 2 * g.monitorRoom + (rest.map fun v => v.category).sum ≤ W9) (hdg : decode c.code g.pc = .ok (.invokestatic index, 3))
    (hpre : ∀ vm₁, s.WarmedH vm₁ → Pre ⟨T.setVm vm₁, locs, cells, slots⟩ argsL.toArray) :
    (∃ (v : Option Value) (vm₁ : Vm) (B : Pt), s.WarmedH vm₁ ∧ Stand p l e R s m args below meth c B.U B.locs B.cells B.slots ∧ Post ⟨T.setVm vm₁, locs, cells, slots⟩ argsL.toArray v B ∧
      ∀ target, Steps p.tables e below (B.U.setTop { g with pc := g.pc + 3, stack := v.toList ++ rest }) target → Steps p.tables e below (T.setTop g) target) ∨
    (∃ (q : Addr) (vm₁ : Vm) (B : Pt), s.WarmedH vm₁ ∧ Stand p l e R s m args below meth c B.U B.locs B.cells B.slots ∧ PostX ⟨T.setVm vm₁, locs, cells, slots⟩ argsL.toArray q B ∧
      Steps p.tables e below (T.setTop g) ((B.U.setTop { g with stack := rest }).pushFrame (.throwing q))) := by
  obtain ⟨mk, methM, cM, hnamed, hmethM, -, -, -, -, -, -, hsigM⟩ := Cond.codeWith_spec hcode
  have hstatic : methM.isStatic = true := Cond.static_spec hnamed hmethM hstat
  obtain ⟨kP, hkP, -⟩ := className_of_methodNamed hnamed
  have hinitP : kP.init = .initialized := Cond.initialized_spec (findClass_of_methodNamed hnamed) hkP hinit
  obtain ⟨vm₁, X₁, hstep₁⟩ := X.invokestatic hexec hown hlink hnamed hmethM hstatic hkP hinitP hy (g := g) hg (argsL := argsL) (rest := rest) (hlen _ hsigM) hstack hdg
  rcases hK m meth c ⟨T.setVm vm₁, locs, cells, slots⟩ { g with stack := rest } (.invokestatic index) mk argsL.toArray X₁ hg hsize hdg hW (X₁.named hnamed) (hpre vm₁ X₁.warmed) with ⟨v, B, X', hpost, hsteps⟩ | ⟨q, B, X', hpost, hsteps⟩
  · exact Or.inl ⟨v, vm₁, B, X₁.warmed, X', hpost, fun target h => hstep₁ _ fun acts => by rw [doInvoke_state]; exact hsteps.trans h⟩
  · exact Or.inr ⟨q, vm₁, B, X₁.warmed, X', hpost, hstep₁ _ fun acts => by rw [doInvoke_state]; exact hsteps⟩
theorem vx_callVW (X : Stand p l e R s m args below meth c T locs cells slots) (hexec : p.tables.exec = Jvm.exec) {own C : String} {index : Nat} {y : MethodName} {bytes : ByteArray} {maxL : Nat} {ret : Option FieldType} {hh : List (Nat × Nat × Nat × Nat)}
    (hown : s.vm.findClass own = some m.cls) (hlink : (Cond.methodLink own index y).before args s = true) (hinst : (Cond.instanceMethod y).before args s = true) (hsel : (Cond.selects C y y).before args s = true)
    (hcode : (Cond.codeWith y bytes maxL ret hh).before args s = true) (hy : y.cls ≠ "java/lang/invoke/MethodHandle" ∧ y.cls ≠ "java/lang/invoke/VarHandle")
    {W9 : Nat} {Pre : Pt → Array Value → Prop} {Post : Pt → Array Value → Option Value → Pt → Prop} (hK : Back l R p e below s args y 3 W9 Pre Post)
    {b : Addr} {cellB : Cell} (hcell : T.heap[b]? = some cellB) (hobj : cellB.vm.isStatics = false) (hcls : s.vm.findClass C = some cellB.cls)
    {g : JFrame} (hg : g.method = m) (hsize : g.locals.size = c.maxLocals) {argsL rest : List Value} (hlen : ∀ sig, parseMethodDescriptor y.desc = some sig → argsL.length = sig.parameters.length)
    (hstack : g.stack = argsL.reverse ++ .ref b :: rest) (hW : 2 * g.monitorRoom + (rest.map fun v => v.category).sum ≤ W9) (hdg : decode c.code g.pc = .ok (.invokevirtual index, 3))
    (hpre : ∀ vm₁, s.WarmedH vm₁ → Pre ⟨T.setVm vm₁, locs, cells, slots⟩ (Value.ref b :: argsL).toArray) :
    ∃ (v : Option Value) (vm₁ : Vm) (B : Pt), s.WarmedH vm₁ ∧ Stand p l e R s m args below meth c B.U B.locs B.cells B.slots ∧ Post ⟨T.setVm vm₁, locs, cells, slots⟩ (Value.ref b :: argsL).toArray v B ∧
      ∀ target, Steps p.tables e below (B.U.setTop { g with pc := g.pc + 3, stack := v.toList ++ rest }) target → Steps p.tables e below (T.setTop g) target := by
  obtain ⟨mk, methM, hnamed, hmethM, hstM, habM⟩ := Cond.instanceMethod_spec hinst
  obtain ⟨m8, methM', cM, hn8, hmethM', -, -, -, -, -, -, hsigM⟩ := Cond.codeWith_spec hcode
  cases Option.some.inj (hn8.symm.trans hnamed)
  cases hmethM.symm.trans hmethM'
  obtain ⟨c2, r2, m2, q1, q2, q3, q4, kP, hkP, hkPi⟩ := Cond.selects_spec hsel
  cases hcls.symm.trans q1
  cases (State.methodFound?_of_named hnamed hy).symm.trans q2
  cases hnamed.symm.trans q3
  have hselP : selectMethod e.platform s.vm cellB.cls mk = .method mk := by rw [Launch.admits_selectMethod X.admits]; exact q4
  obtain ⟨vm₁, X₁, hstep₁⟩ := X.invokevirtual hexec hown hlink hnamed hmethM hstM hkP hkPi hy (a := b) (cell := cellB) hcell
    (fun z h => by rw [h] at hobj; cases hobj) hselP hmethM habM hkP hkPi (g := g) hg (argsL := argsL) (rest := rest) (hlen _ hsigM) hstack hdg
  obtain ⟨v, B, X', hpost, hsteps⟩ := hK m meth c ⟨T.setVm vm₁, locs, cells, slots⟩ { g with stack := rest } (.invokevirtual index) mk (Value.ref b :: argsL).toArray X₁ hg hsize hdg hW (X₁.named hnamed) (hpre vm₁ X₁.warmed)
  exact ⟨v, vm₁, B, X₁.warmed, X', hpost, fun target h => hstep₁ _ fun acts => by rw [doInvoke_state]; exact hsteps.trans h⟩
abbrev vx_CVW (R : Room) (s : State) (args : Array Value) (own C : String) (index : Nat) (y : MethodName) (bytes : ByteArray) (maxL : Nat) (ret : Option FieldType) (hh : List (Nat × Nat × Nat × Nat)) (ws : List Cond) (rm : Room) (mc ms n : Nat) : Prop :=
  (rm.cells = mc ∧ rm.slots = ms ∧ rm.frames + 1 ≤ R.frames ∧ 8 + (maxL + 11) + rm.locals ≤ R.locals ∧ (∀ w ∈ ws, ∀ (a' : Array Value) (U : State), s.WarmedH U.vm → w.before a' U = true) ∧ Cond.codeWith y bytes maxL ret hh ∈ ws) ∧
  (Cond.codeWith y bytes maxL ret hh).before args s = true ∧ (Cond.initialized y.cls).before args s = true ∧ (y.cls ≠ "java/lang/invoke/MethodHandle" ∧ y.cls ≠ "java/lang/invoke/VarHandle") ∧
  (∀ sig, parseMethodDescriptor y.desc = some sig → n = sig.parameters.length) ∧ (Cond.methodLink own index y).before args s = true ∧ (Cond.instanceMethod y).before args s = true ∧ (Cond.selects C y y).before args s = true
theorem vx_cwVW {own C : String} {index maxL mc ms : Nat} {y : MethodName} {bytes : ByteArray} {ret : Option FieldType} {hh : List (Nat × Nat × Nat × Nat)} {Ts ws ws' : List Cond} {rm : Room} (n : Nat) (ht : ∀ w ∈ Ts, w.before args s = true) (hT : GoodIn Ts (wsV own index C y ws)) (hw : ws = Cond.codeWith y bytes maxL ret hh :: ws') (hrc : rm.cells = mc) (hrs : rm.slots = ms)
    (hd : y.cls = C ∧ y.cls ≠ "java/lang/invoke/MethodHandle" ∧ y.cls ≠ "java/lang/invoke/VarHandle" ∧ (parseMethodDescriptor y.desc).map (fun d => d.parameters.length) = some n) (hR : rm.frames + 1 ≤ R.frames ∧ 8 + (maxL + 11) + rm.locals ≤ R.locals) :
    vx_CVW R s args own C index y bytes maxL ret hh ws rm mc ms n := by
  obtain ⟨hC, hd⟩ := hd
  subst hC
  have ok : ∀ w ∈ wsV own index y.cls y ws, w.before args s = true := fun w h => ht w (hT w h).1
  have hG : GoodIn Ts ws := fun w h => hT w (by unfold wsV; exact List.mem_append_right _ h)
  have hc : Cond.codeWith y bytes maxL ret hh ∈ ws := by rw [hw]; exact List.mem_cons_self
  refine ⟨⟨hrc, hrs, hR.1, hR.2, pay_in ht hG, hc⟩, ht _ (hG _ hc).1, ok _ (by simp [wsV]), ⟨hd.1, hd.2.1⟩, fun sig h => ?_, ok _ (by simp [wsV]), ok _ (by simp [wsV]), ok _ (by simp [wsV])⟩
  have h2 := hd.2.2
  rw [h] at h2
  exact (Option.some.inj h2).symm
theorem vx_runVW {y : MethodName} {bytes cc : ByteArray} {maxL nL mc ms n index : Nat} {ret : Option FieldType} {hh : List (Nat × Nat × Nat × Nat)} {ws : List Cond} {rm : Room} {Pc : Array Value → State → Prop} {Qc : Array Value → State → Outcome → State → Prop} {free : Addr → Prop} {Ts : List Cond} {own C : String} {b : Addr} {As rest : List Value} {g : JFrame}
    (S : CallFix p m c cc nL s args Ts own) (hM : Met l y ws rm Pc Qc mc ms free) (cw : vx_CVW R s args own C index y bytes maxL ret hh ws rm mc ms n) (hp : PreV s H C b Pc As)
    (hg : g.method = m) (hn : As.length = n) (hsize : g.locals.size = nL) (hstack : g.stack = As.reverse ++ .ref b :: rest) (hW : 2 * g.monitorRoom + (rest.map fun v => v.category).sum ≤ 8) (hdg : decode cc g.pc = .ok (.invokevirtual index, 3)) (hf : cells + mc ≤ R.cells ∧ slots + ms ≤ R.slots) :
    va_Run p l e R s m args below meth c H locs cells slots mc ms g rest (Qc (Value.ref b :: As).toArray) free := by
  obtain ⟨⟨hrc, hrs, hfr, hlo, hws, hcw⟩, hcode, hini, hy, hlen, hl, hin, hse⟩ := cw
  have hK : Back l R p e below s args y 3 8 (PreOf R mc ms Pc) (PostOf Qc mc ms free) := va_backW (hh := hh) (bytes := bytes) (maxL := maxL) (ret := ret) hM hp.1 hrc hrs hfr hlo hws hcw (fun a' U hW => word_at hW (Or.inl (by first | rfl | simp [Cond.onTables, Cond.keeps, Cond.steady])) hini)
  obtain ⟨hx, hb, hml, ho, -⟩ := S
  obtain ⟨-, ⟨cellB, hcB, hoB, hclB⟩, hPc⟩ := hp
  intro T hT X
  obtain ⟨v, vm₁, ⟨U', l2, c2, s2⟩, hW₁, X', ⟨g', mk, t, L, e1, e2, hq, h1, hL, h2, h3⟩, st⟩ := vx_callVW X hx (C := C) (hh := hh) (bytes := bytes) (maxL := maxL) (ret := ret) ho hl hin hse hcode hy hK (by rw [hT]; exact hcB) hoB hclB hg (hsize.trans hml.symm) (argsL := As) (rest := rest) (fun sig h => hn.trans (hlen sig h)) hstack hW (by rw [hb]; exact hdg)
    (fun vm₁ hW₁ => ⟨hf.1, hf.2, hPc (T.setVm vm₁) hT hW₁⟩)
  dsimp only [Pt.U, Pt.locs, Pt.cells, Pt.slots] at X' e1 e2 h1 h2 h3 st
  subst h1; subst h2; subst h3
  exact ⟨v, (T.setVm vm₁).calling g' mk (Value.ref b :: As).toArray, t, U', L, hT, X', hL, e1, e2, hq, st⟩
section
variable {y : MethodName} {bytes cc : ByteArray} {maxL nL mc ms n index : Nat} {ret : Option FieldType} {ws : List Cond} {rm : Room} {Pc : Array Value → State → Prop} {Qc : Array Value → State → Outcome → State → Prop} {XC : String → State → State → Prop} {free : Addr → Prop} {Ts : List Cond} {own C : String} {b : Addr} {As rest : List Value} {g : JFrame}
theorem vx_runVX {hh : List (Nat × Nat × Nat × Nat)} (S : CallFix p m c cc nL s args Ts own) (hM : vx_Met l y ws rm Pc Qc XC mc ms free) (cw : vx_CVW R s args own C index y bytes maxL ret hh ws rm mc ms n) (hp : PreV s H C b Pc As)
    (hg : g.method = m) (hn : As.length = n) (hsize : g.locals.size = nL) (hstack : g.stack = As.reverse ++ .ref b :: rest) (hW : 2 * g.monitorRoom + (rest.map fun v => v.category).sum ≤ 8) (hdg : decode cc g.pc = .ok (.invokevirtual index, 3)) (hf : cells + mc ≤ R.cells ∧ slots + ms ≤ R.slots) :
    vx_Run p l e R s m args below meth c H locs cells slots mc ms g rest (Qc (Value.ref b :: As).toArray) XC free := by
  obtain ⟨⟨hrc, hrs, hfr, hlo, hws, hcw⟩, hcode, hini, hy, hlen, hl, hin, hse⟩ := cw
  have hK : vx_Back l R p e below s args y 3 8 (PreOf R mc ms Pc) (PostOf Qc mc ms free) (vx_Post XC mc ms free) := vx_backW (hh := hh) (bytes := bytes) (maxL := maxL) (ret := ret) hM hp.1 hrc hrs hfr hlo hws hcw (fun a' U hW => word_at hW (Or.inl (by first | rfl | simp [Cond.onTables, Cond.keeps, Cond.steady])) hini)
  obtain ⟨hx, hb, hml, ho, -⟩ := S
  obtain ⟨-, ⟨cellB, hcB, hoB, hclB⟩, hPc⟩ := hp
  intro T hT X
  rcases vx_callVX X hx (C := C) (hh := hh) (bytes := bytes) (maxL := maxL) (ret := ret) ho hl hin hse hcode hy hK (by rw [hT]; exact hcB) hoB hclB hg (hsize.trans hml.symm) (argsL := As) (rest := rest) (fun sig h => hn.trans (hlen sig h)) hstack hW (by rw [hb]; exact hdg)
    (fun vm₁ hW₁ => ⟨hf.1, hf.2, hPc (T.setVm vm₁) hT hW₁⟩) with ⟨v, vm₁, ⟨U', l2, c2, s2⟩, hW₁, X', ⟨g', mk, t, L, e1, e2, hq, h1, hL, h2, h3⟩, st⟩ | ⟨q, vm₁, ⟨U', l2, c2, s2⟩, hW₁, X', ⟨g', mk, t, L, E, ce, e1, e2, hq, hce, hcv, hcl, h1, hL, h2, h3⟩, st⟩
  · dsimp only [Pt.U, Pt.locs, Pt.cells, Pt.slots] at X' e1 e2 h1 h2 h3 st
    subst h1; subst h2; subst h3
    exact Or.inl ⟨v, (T.setVm vm₁).calling g' mk (Value.ref b :: As).toArray, t, U', L, hT, X', hL, e1, e2, hq, st⟩
  · dsimp only [Pt.U, Pt.locs, Pt.cells, Pt.slots] at X' e1 e2 h1 h2 h3 st hcl
    subst h1; subst h2; subst h3
    exact Or.inr ⟨q, (T.setVm vm₁).calling g' mk (Value.ref b :: As).toArray, t, U', L, E, ce, hT, X', hL, e1, e2, hq, hce, hcv, vx_cls hW₁ hcl, st⟩
theorem vx_runSX {hh : List (Nat × Nat × Nat × Nat)} (S : CallFix p m c cc nL s args Ts own) (hM : vx_Met l y ws rm Pc Qc XC mc ms free) (cw : vx_CSW R s args own index y bytes maxL ret hh ws rm mc ms n) (hp : PreS s H Pc As)
    (hg : g.method = m) (hn : As.length = n) (hsize : g.locals.size = nL) (hstack : g.stack = As.reverse ++ rest) (hW : 2 * g.monitorRoom + (rest.map fun v => v.category).sum ≤ 8) (hdg : decode cc g.pc = .ok (.invokestatic index, 3)) (hf : cells + mc ≤ R.cells ∧ slots + ms ≤ R.slots) :
    vx_Run p l e R s m args below meth c H locs cells slots mc ms g rest (Qc As.toArray) XC free := by
  obtain ⟨⟨hrc, hrs, hfr, hlo, hws, hcw⟩, hcode, hini, hy, hlen, hl, hstt⟩ := cw
  have hK : vx_Back l R p e below s args y 3 8 (PreOf R mc ms Pc) (PostOf Qc mc ms free) (vx_Post XC mc ms free) := vx_backW (hh := hh) (bytes := bytes) (maxL := maxL) (ret := ret) hM hp.1 hrc hrs hfr hlo hws hcw (fun a' U hW => word_at hW (Or.inl (by first | rfl | simp [Cond.onTables, Cond.keeps, Cond.steady])) hini)
  obtain ⟨hx, hb, hml, ho, -⟩ := S
  intro T hT X
  rcases vx_callSX X hx (hh := hh) (bytes := bytes) (maxL := maxL) (ret := ret) ho hl hstt hini hcode hy hK hg (hsize.trans hml.symm) (argsL := As) (rest := rest) (fun sig h => hn.trans (hlen sig h)) hstack hW (by rw [hb]; exact hdg)
    (fun vm₁ hW₁ => ⟨hf.1, hf.2, hp.2 (T.setVm vm₁) hT hW₁⟩) with ⟨v, vm₁, ⟨U', l2, c2, s2⟩, hW₁, X', ⟨g', mk, t, L, e1, e2, hq, h1, hL, h2, h3⟩, st⟩ | ⟨q, vm₁, ⟨U', l2, c2, s2⟩, hW₁, X', ⟨g', mk, t, L, E, ce, e1, e2, hq, hce, hcv, hcl, h1, hL, h2, h3⟩, st⟩
  · dsimp only [Pt.U, Pt.locs, Pt.cells, Pt.slots] at X' e1 e2 h1 h2 h3 st
    subst h1; subst h2; subst h3
    exact Or.inl ⟨v, (T.setVm vm₁).calling g' mk As.toArray, t, U', L, hT, X', hL, e1, e2, hq, st⟩
  · dsimp only [Pt.U, Pt.locs, Pt.cells, Pt.slots] at X' e1 e2 h1 h2 h3 st hcl
    subst h1; subst h2; subst h3
    exact Or.inr ⟨q, (T.setVm vm₁).calling g' mk As.toArray, t, U', L, E, ce, hT, X', hL, e1, e2, hq, hce, hcv, vx_cls hW₁ hcl, st⟩
end
end VXH
theorem vx_ofWH {l : Launch} {y : MethodName} {ws ws' : List Cond} {rm : Room} {Pc : Array Value → State → Prop} {Qc : Array Value → State → Outcome → State → Prop} {XC : String → State → State → Prop} {mc ms : Nat} {free : Addr → Prop} {cc : ByteArray} {maxL : Nat} {ret : Option FieldType} {hh : List (Nat × Nat × Nat × Nat)}
    (hy : plainName y.cls = true) (hw : ws = Cond.codeWith y cc maxL ret hh :: ws')
    (body : ∀ p e s m args below meth c s₁, BodyLoose p l y (headSpec ws rm) cc maxL ret e s m args below meth c s₁ → c.maxLocals = maxL → Pc args s →
      W p l e (headSpec ws rm).room s m args below meth c s.heap [] 0 0 (vx_MQ below Qc XC args s mc ms free) (entryFrame m args maxL)) : vx_Met l y ws rm Pc Qc XC mc ms free := by
  refine MetFree.of_bodyS (code := cc) (maxLocals := maxL) (ret := ret) hy ?_ ?_
  · intro args s m h hn
    obtain ⟨m9, meth, c, hn9, h1, h2, h3, h4, -, h5, h6, -⟩ := Cond.codeWith_spec (atoms_spec (ws := ws) h _ (by rw [hw]; exact List.mem_cons_self))
    cases hn.symm.trans hn9
    exact ⟨meth, c, h1, h2, h3, h4, h5, h6⟩
  · intro p e s m args below meth c s₁ B hml hP _
    have hh0 : s₁.heap = s.heap := by rw [B.state]; rfl
    obtain ⟨t, a1, o, b1, b2, b3⟩ := body p e s m args below meth c s₁ B hml hP s₁ hh0 (Stand.of_body B)
    exact ⟨t, o, a1, b1, b2, b3⟩
/-! ===== END ===== -/
end
section
def RX0 : String := "ThinExtents$Pool"
def TX0 : u_T := fun k => match k with
  | 0 => ("ThinExtents$Pool", "size", "I", false)
  | 1 => ("ThinExtents$Pool", "cursor", "I", false)
  | 2 => ("ThinExtents$Pool", "alarmAt", "I", false)
  | 3 => ("ThinExtents$Pool", "alarms", "I", false)
  | 4 => ("ThinExtents$Pool", "taken", "I", false)
  | 5 => ("ThinExtents$Pool", "live", "LThinExtents$State;", true)
  | 6 => ("ThinExtents$Pool", "committed", "LThinExtents$State;", true)
  | 7 => ("ThinExtents$Pool", "held", "LThinExtents$State;", true)
  | _ => ("ThinExtents$Pool", "words", "[I", true)
def tyX0 : Nat → FieldType := fun k => match k with
  | 0 => .int
  | 1 => .int
  | 2 => .int
  | 3 => .int
  | 4 => .int
  | 5 => .object "ThinExtents$State"
  | 6 => .object "ThinExtents$State"
  | 7 => .object "ThinExtents$State"
  | _ => .array .int
abbrev wsX00 : List Cond := u_ws RX0 TX0 9
theorem nmX0 : ∀ a, a < 9 → ∀ b, b < 9 → a ≠ b → (TX0 a).2.1 ≠ (TX0 b).2.1 := by decide +kernel
theorem tyX0_ok : ∀ k, k < 9 → parseFieldDescriptor (TX0 k).2.2.1 = some (tyX0 k) := by decide +kernel
abbrev cX0_init : ByteArray := prog_2_method_1_code
def yX0_init : MethodName := ⟨RX0, "<init>", "(LThinExtents$State;LThinExtents$State;LThinExtents$State;)V"⟩
abbrev cX0_isFree : ByteArray := prog_2_method_2_code
def yX0_isFree : MethodName := ⟨RX0, "isFree", "(I)Z"⟩
abbrev cX0_isSole : ByteArray := prog_2_method_3_code
def yX0_isSole : MethodName := ⟨RX0, "isSole", "(I)Z"⟩
abbrev cX0_areFree : ByteArray := prog_2_method_4_code
def yX0_areFree : MethodName := ⟨RX0, "areFree", "(II)Z"⟩
abbrev cX0_countFree : ByteArray := prog_2_method_5_code
def yX0_countFree : MethodName := ⟨RX0, "countFree", "()I"⟩
abbrev cX0_take : ByteArray := prog_2_method_6_code
def yX0_take : MethodName := ⟨RX0, "take", "()I"⟩
abbrev cX0_wordAt : ByteArray := prog_2_method_7_code
def yX0_wordAt : MethodName := ⟨RX0, "wordAt", "(II)I"⟩
abbrev cX0_setWord : ByteArray := prog_2_method_8_code
def yX0_setWord : MethodName := ⟨RX0, "setWord", "(III)V"⟩
def RX1 : String := "ThinExtents$Queue"
def TX1 : u_T := fun k => match k with
  | 0 => ("ThinExtents$Queue", "count", "I", false)
  | 1 => ("ThinExtents$Queue", "volumes", "[I", true)
  | 2 => ("ThinExtents$Queue", "words", "[I", true)
  | _ => ("ThinExtents$Queue", "values", "[I", true)
def tyX1 : Nat → FieldType := fun k => match k with
  | 0 => .int
  | 1 => .array .int
  | 2 => .array .int
  | _ => .array .int
abbrev wsX10 : List Cond := u_ws RX1 TX1 4
theorem nmX1 : ∀ a, a < 4 → ∀ b, b < 4 → a ≠ b → (TX1 a).2.1 ≠ (TX1 b).2.1 := by decide +kernel
theorem tyX1_ok : ∀ k, k < 4 → parseFieldDescriptor (TX1 k).2.2.1 = some (tyX1 k) := by decide +kernel
abbrev cX1_init : ByteArray := prog_3_method_1_code
def yX1_init : MethodName := ⟨RX1, "<init>", "()V"⟩
abbrev cX1_add : ByteArray := prog_3_method_2_code
def yX1_add : MethodName := ⟨RX1, "add", "(III)Z"⟩
abbrev cX1_put : ByteArray := prog_3_method_3_code
def yX1_put : MethodName := ⟨RX1, "put", "(IIII)V"⟩
abbrev cX1_volumeAt : ByteArray := prog_3_method_4_code
def yX1_volumeAt : MethodName := ⟨RX1, "volumeAt", "(I)I"⟩
abbrev cX1_wordAt : ByteArray := prog_3_method_5_code
def yX1_wordAt : MethodName := ⟨RX1, "wordAt", "(I)I"⟩
abbrev cX1_valueAt : ByteArray := prog_3_method_6_code
def yX1_valueAt : MethodName := ⟨RX1, "valueAt", "(I)I"⟩
abbrev cX1_waitsIn : ByteArray := prog_3_method_7_code
def yX1_waitsIn : MethodName := ⟨RX1, "waitsIn", "(III)Z"⟩
abbrev cX1_countOf : ByteArray := prog_3_method_8_code
def yX1_countOf : MethodName := ⟨RX1, "countOf", "(I)I"⟩
abbrev cX1_removeFirst : ByteArray := prog_3_method_9_code
def yX1_removeFirst : MethodName := ⟨RX1, "removeFirst", "()V"⟩
abbrev cX1_removeAllOf : ByteArray := prog_3_method_10_code
def yX1_removeAllOf : MethodName := ⟨RX1, "removeAllOf", "(I)I"⟩
abbrev cX1_removeAll : ByteArray := prog_3_method_11_code
def yX1_removeAll : MethodName := ⟨RX1, "removeAll", "()I"⟩
def RX2 : String := "ThinExtents$State"
def TX2 : u_T := fun k => match k with
  | 0 => ("ThinExtents$State", "sign", "I", false)
  | 1 => ("ThinExtents$State", "count", "I", false)
  | 2 => ("ThinExtents$State", "volumes", "[LThinExtents$Volume;", true)
  | _ => ("ThinExtents$State", "uses", "[I", true)
def tyX2 : Nat → FieldType := fun k => match k with
  | 0 => .int
  | 1 => .int
  | 2 => .array (.object "ThinExtents$Volume")
  | _ => .array .int
abbrev wsX20 : List Cond := u_ws RX2 TX2 4
theorem nmX2 : ∀ a, a < 4 → ∀ b, b < 4 → a ≠ b → (TX2 a).2.1 ≠ (TX2 b).2.1 := by decide +kernel
theorem tyX2_ok : ∀ k, k < 4 → parseFieldDescriptor (TX2 k).2.2.1 = some (tyX2 k) := by decide +kernel
abbrev cX2_init : ByteArray := prog_4_method_1_code
def yX2_init : MethodName := ⟨RX2, "<init>", "()V"⟩
abbrev cX2_slot : ByteArray := prog_4_method_2_code
def yX2_slot : MethodName := ⟨RX2, "slot", "(I)LThinExtents$Volume;"⟩
abbrev cX2_find : ByteArray := prog_4_method_3_code
def yX2_find : MethodName := ⟨RX2, "find", "(I)LThinExtents$Volume;"⟩
abbrev cX2_add : ByteArray := prog_4_method_4_code
def yX2_add : MethodName := ⟨RX2, "add", "(LThinExtents$Volume;IZII)V"⟩
abbrev cX2_remove : ByteArray := prog_4_method_5_code
def yX2_remove : MethodName := ⟨RX2, "remove", "(LThinExtents$Volume;)V"⟩
abbrev cX2_usesOf : ByteArray := prog_4_method_6_code
def yX2_usesOf : MethodName := ⟨RX2, "usesOf", "(I)I"⟩
abbrev cX2_setExtent : ByteArray := prog_4_method_7_code
def yX2_setExtent : MethodName := ⟨RX2, "setExtent", "(LThinExtents$Volume;II)V"⟩
abbrev cX2_unmap : ByteArray := prog_4_method_8_code
def yX2_unmap : MethodName := ⟨RX2, "unmap", "(LThinExtents$Volume;II)I"⟩
abbrev cX2_userOf : ByteArray := prog_4_method_9_code
def yX2_userOf : MethodName := ⟨RX2, "userOf", "(II)I"⟩
abbrev cX2_hasBacked : ByteArray := prog_4_method_10_code
def yX2_hasBacked : MethodName := ⟨RX2, "hasBacked", "()Z"⟩
abbrev cX2_copy : ByteArray := prog_4_method_11_code
def yX2_copy : MethodName := ⟨RX2, "copy", "(LThinExtents$State;)V"⟩
abbrev cX2_clear : ByteArray := prog_4_method_12_code
def yX2_clear : MethodName := ⟨RX2, "clear", "()V"⟩
def RX3 : String := "ThinExtents$Volume"
def TX3 : u_T := fun k => match k with
  | 0 => ("ThinExtents$Volume", "there", "Z", false)
  | 1 => ("ThinExtents$Volume", "backed", "Z", false)
  | 2 => ("ThinExtents$Volume", "size", "I", false)
  | 3 => ("ThinExtents$Volume", "limit", "I", false)
  | 4 => ("ThinExtents$Volume", "origin", "I", false)
  | 5 => ("ThinExtents$Volume", "mapped", "I", false)
  | _ => ("ThinExtents$Volume", "extents", "[I", true)
def tyX3 : Nat → FieldType := fun k => match k with
  | 0 => .boolean
  | 1 => .boolean
  | 2 => .int
  | 3 => .int
  | 4 => .int
  | 5 => .int
  | _ => .array .int
abbrev wsX30 : List Cond := u_ws RX3 TX3 7
theorem nmX3 : ∀ a, a < 7 → ∀ b, b < 7 → a ≠ b → (TX3 a).2.1 ≠ (TX3 b).2.1 := by decide +kernel
theorem tyX3_ok : ∀ k, k < 7 → parseFieldDescriptor (TX3 k).2.2.1 = some (tyX3 k) := by decide +kernel
abbrev cX3_init : ByteArray := prog_5_method_1_code
def yX3_init : MethodName := ⟨RX3, "<init>", "()V"⟩
abbrev cX3_extentOf : ByteArray := prog_5_method_2_code
def yX3_extentOf : MethodName := ⟨RX3, "extentOf", "(I)I"⟩
abbrev cX3_setExtent : ByteArray := prog_5_method_3_code
def yX3_setExtent : MethodName := ⟨RX3, "setExtent", "(II)V"⟩
abbrev cX3_lastMapped : ByteArray := prog_5_method_4_code
def yX3_lastMapped : MethodName := ⟨RX3, "lastMapped", "()I"⟩
abbrev cX3_copy : ByteArray := prog_5_method_5_code
def yX3_copy : MethodName := ⟨RX3, "copy", "(LThinExtents$Volume;)V"⟩
abbrev cX3_clear : ByteArray := prog_5_method_6_code
def yX3_clear : MethodName := ⟨RX3, "clear", "()V"⟩
def RX4 : String := "ThinExtents"
def TX4 : u_T := fun k => match k with
  | 0 => ("ThinExtents", "live", "LThinExtents$State;", true)
  | 1 => ("ThinExtents", "committed", "LThinExtents$State;", true)
  | 2 => ("ThinExtents", "held", "LThinExtents$State;", true)
  | 3 => ("ThinExtents", "pool", "LThinExtents$Pool;", true)
  | 4 => ("ThinExtents", "queue", "LThinExtents$Queue;", true)
  | 5 => ("ThinExtents", "backing", "[I", true)
  | 6 => ("ThinExtents", "holding", "Z", false)
  | 7 => ("ThinExtents", "mode", "I", false)
  | 8 => ("ThinExtents", "patienceSet", "I", false)
  | 9 => ("ThinExtents", "failsAt", "I", false)
  | 10 => ("ThinExtents", "now", "I", false)
  | 11 => ("ThinExtents", "failed", "I", false)
  | _ => ("ThinExtents", "commits", "I", false)
def tyX4 : Nat → FieldType := fun k => match k with
  | 0 => .object "ThinExtents$State"
  | 1 => .object "ThinExtents$State"
  | 2 => .object "ThinExtents$State"
  | 3 => .object "ThinExtents$Pool"
  | 4 => .object "ThinExtents$Queue"
  | 5 => .array .int
  | 6 => .boolean
  | 7 => .int
  | 8 => .int
  | 9 => .int
  | 10 => .int
  | 11 => .int
  | _ => .int
abbrev wsX40 : List Cond := u_ws RX4 TX4 13
theorem nmX4 : ∀ a, a < 13 → ∀ b, b < 13 → a ≠ b → (TX4 a).2.1 ≠ (TX4 b).2.1 := by decide +kernel
theorem tyX4_ok : ∀ k, k < 13 → parseFieldDescriptor (TX4 k).2.2.1 = some (tyX4 k) := by decide +kernel
abbrev cX4_init : ByteArray := prog_1_method_1_code
def yX4_init : MethodName := ⟨RX4, "<init>", "()V"⟩
abbrev cX4_make : ByteArray := prog_1_method_2_code
def yX4_make : MethodName := ⟨RX4, "make", "(IIZ)I"⟩
abbrev cX4_snap : ByteArray := prog_1_method_3_code
def yX4_snap : MethodName := ⟨RX4, "snap", "(II)I"⟩
abbrev cX4_drop : ByteArray := prog_1_method_4_code
def yX4_drop : MethodName := ⟨RX4, "drop", "(I)I"⟩
abbrev cX4_resize : ByteArray := prog_1_method_5_code
def yX4_resize : MethodName := ⟨RX4, "resize", "(II)I"⟩
abbrev cX4_write : ByteArray := prog_1_method_6_code
def yX4_write : MethodName := ⟨RX4, "write", "(III)I"⟩
abbrev cX4_read : ByteArray := prog_1_method_7_code
def yX4_read : MethodName := ⟨RX4, "read", "(II)I"⟩
abbrev cX4_discard : ByteArray := prog_1_method_8_code
def yX4_discard : MethodName := ⟨RX4, "discard", "(III)I"⟩
abbrev cX4_grow : ByteArray := prog_1_method_9_code
def yX4_grow : MethodName := ⟨RX4, "grow", "(I)I"⟩
abbrev cX4_shrink : ByteArray := prog_1_method_10_code
def yX4_shrink : MethodName := ⟨RX4, "shrink", "(I)I"⟩
abbrev cX4_back : ByteArray := prog_1_method_11_code
def yX4_back : MethodName := ⟨RX4, "back", "(II)I"⟩
abbrev cX4_quota : ByteArray := prog_1_method_12_code
def yX4_quota : MethodName := ⟨RX4, "quota", "(II)I"⟩
abbrev cX4_mark : ByteArray := prog_1_method_13_code
def yX4_mark : MethodName := ⟨RX4, "mark", "(II)Z"⟩
abbrev cX4_marked : ByteArray := prog_1_method_14_code
def yX4_marked : MethodName := ⟨RX4, "marked", "(I)I"⟩
abbrev cX4_commit : ByteArray := prog_1_method_15_code
def yX4_commit : MethodName := ⟨RX4, "commit", "()I"⟩
abbrev cX4_cut : ByteArray := prog_1_method_16_code
def yX4_cut : MethodName := ⟨RX4, "cut", "(I)I"⟩
abbrev cX4_hold : ByteArray := prog_1_method_17_code
def yX4_hold : MethodName := ⟨RX4, "hold", "()I"⟩
abbrev cX4_release : ByteArray := prog_1_method_18_code
def yX4_release : MethodName := ⟨RX4, "release", "()Z"⟩
abbrev cX4_patience : ByteArray := prog_1_method_19_code
def yX4_patience : MethodName := ⟨RX4, "patience", "(I)I"⟩
abbrev cX4_alarm : ByteArray := prog_1_method_20_code
def yX4_alarm : MethodName := ⟨RX4, "alarm", "(I)I"⟩
abbrev cX4_tick : ByteArray := prog_1_method_21_code
def yX4_tick : MethodName := ⟨RX4, "tick", "(I)I"⟩
abbrev cX4_map : ByteArray := prog_1_method_22_code
def yX4_map : MethodName := ⟨RX4, "map", "(III)I"⟩
abbrev cX4_volume : ByteArray := prog_1_method_23_code
def yX4_volume : MethodName := ⟨RX4, "volume", "(II)I"⟩
abbrev cX4_differ : ByteArray := prog_1_method_24_code
def yX4_differ : MethodName := ⟨RX4, "differ", "(III)I"⟩
abbrev cX4_users : ByteArray := prog_1_method_25_code
def yX4_users : MethodName := ⟨RX4, "users", "(I)I"⟩
abbrev cX4_user : ByteArray := prog_1_method_26_code
def yX4_user : MethodName := ⟨RX4, "user", "(II)I"⟩
abbrev cX4_told : ByteArray := prog_1_method_27_code
def yX4_told : MethodName := ⟨RX4, "told", "(I)I"⟩
abbrev cX4_numbered : ByteArray := prog_1_method_28_code
def yX4_numbered : MethodName := ⟨RX4, "numbered", "(I)LThinExtents$Volume;"⟩
abbrev cX4_existing : ByteArray := prog_1_method_29_code
def yX4_existing : MethodName := ⟨RX4, "existing", "(I)LThinExtents$Volume;"⟩
abbrev cX4_requireSize : ByteArray := prog_1_method_30_code
def yX4_requireSize : MethodName := ⟨RX4, "requireSize", "(I)V"⟩
abbrev cX4_requireWord : ByteArray := prog_1_method_31_code
def yX4_requireWord : MethodName := ⟨RX4, "requireWord", "(LThinExtents$Volume;I)V"⟩
abbrev cX4_requireNoneWaits : ByteArray := prog_1_method_32_code
def yX4_requireNoneWaits : MethodName := ⟨RX4, "requireNoneWaits", "(III)V"⟩
abbrev cX4_requireNotNegative : ByteArray := prog_1_method_33_code
def yX4_requireNotNegative : MethodName := ⟨RX4, "requireNotNegative", "(I)V"⟩
abbrev cX4_requireExtent : ByteArray := prog_1_method_34_code
def yX4_requireExtent : MethodName := ⟨RX4, "requireExtent", "(I)V"⟩
abbrev cX4_stateOf : ByteArray := prog_1_method_35_code
def yX4_stateOf : MethodName := ⟨RX4, "stateOf", "(I)LThinExtents$State;"⟩
abbrev cX4_needsExtent : ByteArray := prog_1_method_36_code
def yX4_needsExtent : MethodName := ⟨RX4, "needsExtent", "(LThinExtents$Volume;I)Z"⟩
abbrev cX4_isOver : ByteArray := prog_1_method_37_code
def yX4_isOver : MethodName := ⟨RX4, "isOver", "(LThinExtents$Volume;I)Z"⟩
abbrev cX4_writeNeeding : ByteArray := prog_1_method_38_code
def yX4_writeNeeding : MethodName := ⟨RX4, "writeNeeding", "(LThinExtents$Volume;III)I"⟩
abbrev cX4_enqueue : ByteArray := prog_1_method_39_code
def yX4_enqueue : MethodName := ⟨RX4, "enqueue", "(III)I"⟩
abbrev cX4_perform : ByteArray := prog_1_method_40_code
def yX4_perform : MethodName := ⟨RX4, "perform", "(LThinExtents$Volume;II)I"⟩
abbrev cX4_wordOf : ByteArray := prog_1_method_41_code
def yX4_wordOf : MethodName := ⟨RX4, "wordOf", "(LThinExtents$Volume;I)I"⟩
abbrev cX4_writeHead : ByteArray := prog_1_method_42_code
def yX4_writeHead : MethodName := ⟨RX4, "writeHead", "()V"⟩
abbrev cX4_serveQueue : ByteArray := prog_1_method_43_code
def yX4_serveQueue : MethodName := ⟨RX4, "serveQueue", "()V"⟩
abbrev cX4_serveFirst : ByteArray := prog_1_method_44_code
def yX4_serveFirst : MethodName := ⟨RX4, "serveFirst", "()Z"⟩
abbrev cX4_countShared : ByteArray := prog_1_method_45_code
def yX4_countShared : MethodName := ⟨RX4, "countShared", "(LThinExtents$Volume;)I"⟩
abbrev cX4_sortOf : ByteArray := prog_1_method_46_code
def yX4_sortOf : MethodName := ⟨RX4, "sortOf", "(LThinExtents$Volume;LThinExtents$Volume;I)I"⟩
abbrev cX4_countSort : ByteArray := prog_1_method_47_code
def yX4_countSort : MethodName := ⟨RX4, "countSort", "(LThinExtents$Volume;LThinExtents$Volume;I)I"⟩
abbrev cX4_countRuns : ByteArray := prog_1_method_48_code
def yX4_countRuns : MethodName := ⟨RX4, "countRuns", "(LThinExtents$Volume;LThinExtents$Volume;)I"⟩
def RX5 : String := "ThinExtentsModel"
def TX5 : u_T := fun k => match k with
  | 0 => ("ThinExtentsModel", "thrown", "I", false)
  | 1 => ("ThinExtentsModel", "there", "[Z", true)
  | 2 => ("ThinExtentsModel", "size", "[I", true)
  | 3 => ("ThinExtentsModel", "backed", "[Z", true)
  | 4 => ("ThinExtentsModel", "quota", "[I", true)
  | 5 => ("ThinExtentsModel", "origin", "[I", true)
  | 6 => ("ThinExtentsModel", "map", "[I", true)
  | 7 => ("ThinExtentsModel", "mark", "[I", true)
  | 8 => ("ThinExtentsModel", "held", "Z", false)
  | 9 => ("ThinExtentsModel", "extents", "I", false)
  | 10 => ("ThinExtentsModel", "words", "[I", true)
  | 11 => ("ThinExtentsModel", "backing", "[I", true)
  | 12 => ("ThinExtentsModel", "cursor", "I", false)
  | 13 => ("ThinExtentsModel", "alarm", "I", false)
  | 14 => ("ThinExtentsModel", "alarms", "I", false)
  | 15 => ("ThinExtentsModel", "taken", "I", false)
  | 16 => ("ThinExtentsModel", "mode", "I", false)
  | 17 => ("ThinExtentsModel", "patience", "I", false)
  | 18 => ("ThinExtentsModel", "limit", "I", false)
  | 19 => ("ThinExtentsModel", "waited", "I", false)
  | 20 => ("ThinExtentsModel", "time", "I", false)
  | 21 => ("ThinExtentsModel", "failed", "I", false)
  | 22 => ("ThinExtentsModel", "commits", "I", false)
  | 23 => ("ThinExtentsModel", "queued", "I", false)
  | 24 => ("ThinExtentsModel", "queueVolume", "[I", true)
  | 25 => ("ThinExtentsModel", "queueWord", "[I", true)
  | _ => ("ThinExtentsModel", "queueValue", "[I", true)
def tyX5 : Nat → FieldType := fun k => match k with
  | 0 => .int
  | 1 => .array .boolean
  | 2 => .array .int
  | 3 => .array .boolean
  | 4 => .array .int
  | 5 => .array .int
  | 6 => .array .int
  | 7 => .array .int
  | 8 => .boolean
  | 9 => .int
  | 10 => .array .int
  | 11 => .array .int
  | 12 => .int
  | 13 => .int
  | 14 => .int
  | 15 => .int
  | 16 => .int
  | 17 => .int
  | 18 => .int
  | 19 => .int
  | 20 => .int
  | 21 => .int
  | 22 => .int
  | 23 => .int
  | 24 => .array .int
  | 25 => .array .int
  | _ => .array .int
abbrev wsX50 : List Cond := u_ws RX5 TX5 27
theorem nmX5 : ∀ a, a < 27 → ∀ b, b < 27 → a ≠ b → (TX5 a).2.1 ≠ (TX5 b).2.1 := by decide +kernel
theorem tyX5_ok : ∀ k, k < 27 → parseFieldDescriptor (TX5 k).2.2.1 = some (tyX5 k) := by decide +kernel
abbrev cX5_init : ByteArray := prog_7_method_1_code
def yX5_init : MethodName := ⟨RX5, "<init>", "()V"⟩
abbrev cX5_thrown : ByteArray := prog_7_method_2_code
def yX5_thrown : MethodName := ⟨RX5, "thrown", "()I"⟩
abbrev cX5_isNumber : ByteArray := prog_7_method_3_code
def yX5_isNumber : MethodName := ⟨RX5, "isNumber", "(I)Z"⟩
abbrev cX5_isVolume : ByteArray := prog_7_method_4_code
def yX5_isVolume : MethodName := ⟨RX5, "isVolume", "(I)Z"⟩
abbrev cX5_isSize : ByteArray := prog_7_method_5_code
def yX5_isSize : MethodName := ⟨RX5, "isSize", "(I)Z"⟩
abbrev cX5_at : ByteArray := prog_7_method_6_code
def yX5_at : MethodName := ⟨RX5, "at", "(III)I"⟩
abbrev cX5_usersOf : ByteArray := prog_7_method_7_code
def yX5_usersOf : MethodName := ⟨RX5, "usersOf", "(II)I"⟩
abbrev cX5_isFree : ByteArray := prog_7_method_8_code
def yX5_isFree : MethodName := ⟨RX5, "isFree", "(I)Z"⟩
abbrev cX5_isSole : ByteArray := prog_7_method_9_code
def yX5_isSole : MethodName := ⟨RX5, "isSole", "(I)Z"⟩
abbrev cX5_freeMany : ByteArray := prog_7_method_10_code
def yX5_freeMany : MethodName := ⟨RX5, "freeMany", "()I"⟩
abbrev cX5_mapped : ByteArray := prog_7_method_11_code
def yX5_mapped : MethodName := ⟨RX5, "mapped", "(I)I"⟩
abbrev cX5_volumes : ByteArray := prog_7_method_12_code
def yX5_volumes : MethodName := ⟨RX5, "volumes", "(I)I"⟩
abbrev cX5_clearState : ByteArray := prog_7_method_13_code
def yX5_clearState : MethodName := ⟨RX5, "clearState", "(I)V"⟩
abbrev cX5_copy : ByteArray := prog_7_method_14_code
def yX5_copy : MethodName := ⟨RX5, "copy", "(II)V"⟩
abbrev cX5_copyVolume : ByteArray := prog_7_method_15_code
def yX5_copyVolume : MethodName := ⟨RX5, "copyVolume", "(IIII)V"⟩
abbrev cX5_needs : ByteArray := prog_7_method_16_code
def yX5_needs : MethodName := ⟨RX5, "needs", "(II)Z"⟩
abbrev cX5_isOver : ByteArray := prog_7_method_17_code
def yX5_isOver : MethodName := ⟨RX5, "isOver", "(II)Z"⟩
abbrev cX5_wordOf : ByteArray := prog_7_method_18_code
def yX5_wordOf : MethodName := ⟨RX5, "wordOf", "(II)I"⟩
abbrev cX5_take : ByteArray := prog_7_method_19_code
def yX5_take : MethodName := ⟨RX5, "take", "(II)V"⟩
abbrev cX5_perform : ByteArray := prog_7_method_20_code
def yX5_perform : MethodName := ⟨RX5, "perform", "(III)I"⟩
abbrev cX5_waits : ByteArray := prog_7_method_21_code
def yX5_waits : MethodName := ⟨RX5, "waits", "(II)Z"⟩
abbrev cX5_enqueue : ByteArray := prog_7_method_22_code
def yX5_enqueue : MethodName := ⟨RX5, "enqueue", "(III)I"⟩
abbrev cX5_unqueue : ByteArray := prog_7_method_23_code
def yX5_unqueue : MethodName := ⟨RX5, "unqueue", "(I)V"⟩
abbrev cX5_drain : ByteArray := prog_7_method_24_code
def yX5_drain : MethodName := ⟨RX5, "drain", "()V"⟩
abbrev cX5_write : ByteArray := prog_7_method_25_code
def yX5_write : MethodName := ⟨RX5, "write", "(III)I"⟩
abbrev cX5_read : ByteArray := prog_7_method_26_code
def yX5_read : MethodName := ⟨RX5, "read", "(II)I"⟩
abbrev cX5_make : ByteArray := prog_7_method_27_code
def yX5_make : MethodName := ⟨RX5, "make", "(IIZ)I"⟩
abbrev cX5_snap : ByteArray := prog_7_method_28_code
def yX5_snap : MethodName := ⟨RX5, "snap", "(II)I"⟩
abbrev cX5_drop : ByteArray := prog_7_method_29_code
def yX5_drop : MethodName := ⟨RX5, "drop", "(I)I"⟩
abbrev cX5_waitsIn : ByteArray := prog_7_method_30_code
def yX5_waitsIn : MethodName := ⟨RX5, "waitsIn", "(III)Z"⟩
abbrev cX5_unmap : ByteArray := prog_7_method_31_code
def yX5_unmap : MethodName := ⟨RX5, "unmap", "(III)I"⟩
abbrev cX5_resize : ByteArray := prog_7_method_32_code
def yX5_resize : MethodName := ⟨RX5, "resize", "(II)I"⟩
abbrev cX5_discard : ByteArray := prog_7_method_33_code
def yX5_discard : MethodName := ⟨RX5, "discard", "(III)I"⟩
abbrev cX5_grow : ByteArray := prog_7_method_34_code
def yX5_grow : MethodName := ⟨RX5, "grow", "(I)I"⟩
abbrev cX5_shrink : ByteArray := prog_7_method_35_code
def yX5_shrink : MethodName := ⟨RX5, "shrink", "(I)I"⟩
abbrev cX5_back : ByteArray := prog_7_method_36_code
def yX5_back : MethodName := ⟨RX5, "back", "(II)I"⟩
abbrev cX5_quota : ByteArray := prog_7_method_37_code
def yX5_quota : MethodName := ⟨RX5, "quota", "(II)I"⟩
abbrev cX5_mark : ByteArray := prog_7_method_38_code
def yX5_mark : MethodName := ⟨RX5, "mark", "(II)Z"⟩
abbrev cX5_marked : ByteArray := prog_7_method_39_code
def yX5_marked : MethodName := ⟨RX5, "marked", "(I)I"⟩
abbrev cX5_commit : ByteArray := prog_7_method_40_code
def yX5_commit : MethodName := ⟨RX5, "commit", "()I"⟩
abbrev cX5_cut : ByteArray := prog_7_method_41_code
def yX5_cut : MethodName := ⟨RX5, "cut", "(I)I"⟩
abbrev cX5_hold : ByteArray := prog_7_method_42_code
def yX5_hold : MethodName := ⟨RX5, "hold", "()I"⟩
abbrev cX5_release : ByteArray := prog_7_method_43_code
def yX5_release : MethodName := ⟨RX5, "release", "()Z"⟩
abbrev cX5_patience : ByteArray := prog_7_method_44_code
def yX5_patience : MethodName := ⟨RX5, "patience", "(I)I"⟩
abbrev cX5_alarm : ByteArray := prog_7_method_45_code
def yX5_alarm : MethodName := ⟨RX5, "alarm", "(I)I"⟩
abbrev cX5_tick : ByteArray := prog_7_method_46_code
def yX5_tick : MethodName := ⟨RX5, "tick", "(I)I"⟩
abbrev cX5_map : ByteArray := prog_7_method_47_code
def yX5_map : MethodName := ⟨RX5, "map", "(III)I"⟩
abbrev cX5_volume : ByteArray := prog_7_method_48_code
def yX5_volume : MethodName := ⟨RX5, "volume", "(II)I"⟩
abbrev cX5_sortAt : ByteArray := prog_7_method_49_code
def yX5_sortAt : MethodName := ⟨RX5, "sortAt", "(III)I"⟩
abbrev cX5_differ : ByteArray := prog_7_method_50_code
def yX5_differ : MethodName := ⟨RX5, "differ", "(III)I"⟩
abbrev cX5_users : ByteArray := prog_7_method_51_code
def yX5_users : MethodName := ⟨RX5, "users", "(I)I"⟩
abbrev cX5_user : ByteArray := prog_7_method_52_code
def yX5_user : MethodName := ⟨RX5, "user", "(II)I"⟩
abbrev cX5_told : ByteArray := prog_7_method_53_code
def yX5_told : MethodName := ⟨RX5, "told", "(I)I"⟩
def RJ7 : String := "java/util/Arrays"
abbrev cJ7_fill_53178 : ByteArray := prog_16_method_103_code
def yJ7_fill_53178 : MethodName := ⟨RJ7, "fill", "([II)V"⟩
def RL : String := "ThinExtentsLaw"
abbrev cL_make : ByteArray := method_3_code
def yL_make : MethodName := ⟨RL, "make", "(LThinExtents;IIZ[J)I"⟩
abbrev cL_snap : ByteArray := method_4_code
def yL_snap : MethodName := ⟨RL, "snap", "(LThinExtents;II[J)I"⟩
abbrev cL_drop : ByteArray := method_5_code
def yL_drop : MethodName := ⟨RL, "drop", "(LThinExtents;I[J)I"⟩
abbrev cL_resize : ByteArray := method_6_code
def yL_resize : MethodName := ⟨RL, "resize", "(LThinExtents;II[J)I"⟩
abbrev cL_write : ByteArray := method_7_code
def yL_write : MethodName := ⟨RL, "write", "(LThinExtents;III[J)I"⟩
abbrev cL_read : ByteArray := method_8_code
def yL_read : MethodName := ⟨RL, "read", "(LThinExtents;II[J)I"⟩
abbrev cL_discard : ByteArray := method_9_code
def yL_discard : MethodName := ⟨RL, "discard", "(LThinExtents;III[J)I"⟩
abbrev cL_grow : ByteArray := method_10_code
def yL_grow : MethodName := ⟨RL, "grow", "(LThinExtents;I[J)I"⟩
abbrev cL_shrink : ByteArray := method_11_code
def yL_shrink : MethodName := ⟨RL, "shrink", "(LThinExtents;I[J)I"⟩
abbrev cL_back : ByteArray := method_12_code
def yL_back : MethodName := ⟨RL, "back", "(LThinExtents;II[J)I"⟩
abbrev cL_quota : ByteArray := method_13_code
def yL_quota : MethodName := ⟨RL, "quota", "(LThinExtents;II[J)I"⟩
abbrev cL_marked : ByteArray := method_14_code
def yL_marked : MethodName := ⟨RL, "marked", "(LThinExtents;I[J)I"⟩
abbrev cL_cut : ByteArray := method_15_code
def yL_cut : MethodName := ⟨RL, "cut", "(LThinExtents;I[J)I"⟩
abbrev cL_hold : ByteArray := method_16_code
def yL_hold : MethodName := ⟨RL, "hold", "(LThinExtents;[J)I"⟩
abbrev cL_patience : ByteArray := method_17_code
def yL_patience : MethodName := ⟨RL, "patience", "(LThinExtents;I[J)I"⟩
abbrev cL_alarm : ByteArray := method_18_code
def yL_alarm : MethodName := ⟨RL, "alarm", "(LThinExtents;I[J)I"⟩
abbrev cL_tick : ByteArray := method_19_code
def yL_tick : MethodName := ⟨RL, "tick", "(LThinExtents;I[J)I"⟩
abbrev cL_map : ByteArray := method_20_code
def yL_map : MethodName := ⟨RL, "map", "(LThinExtents;III[J)I"⟩
abbrev cL_volume : ByteArray := method_21_code
def yL_volume : MethodName := ⟨RL, "volume", "(LThinExtents;II[J)I"⟩
abbrev cL_differ : ByteArray := method_22_code
def yL_differ : MethodName := ⟨RL, "differ", "(LThinExtents;III[J)I"⟩
abbrev cL_users : ByteArray := method_23_code
def yL_users : MethodName := ⟨RL, "users", "(LThinExtents;I[J)I"⟩
abbrev cL_user : ByteArray := method_24_code
def yL_user : MethodName := ⟨RL, "user", "(LThinExtents;II[J)I"⟩
abbrev cL_told : ByteArray := method_25_code
def yL_told : MethodName := ⟨RL, "told", "(LThinExtents;I[J)I"⟩
abbrev cL_law : ByteArray := code
def yL_law : MethodName := ⟨RL, "law", "([I)Z"⟩
theorem dX0_init_0 : decode cX0_init 0 = .ok (.aload_n 0, 1) := by decide +kernel
theorem dX0_init_1 : decode cX0_init 1 = .ok (.invokespecial 3, 3) := by decide +kernel
theorem dX0_init_4 : decode cX0_init 4 = .ok (.aload_n 0, 1) := by decide +kernel
theorem dX0_init_5 : decode cX0_init 5 = .ok (.aload_n 1, 1) := by decide +kernel
theorem dX0_init_6 : decode cX0_init 6 = .ok (.putfield 9, 3) := by decide +kernel
theorem dX0_init_9 : decode cX0_init 9 = .ok (.aload_n 0, 1) := by decide +kernel
theorem dX0_init_10 : decode cX0_init 10 = .ok (.aload_n 2, 1) := by decide +kernel
theorem dX0_init_11 : decode cX0_init 11 = .ok (.putfield 15, 3) := by decide +kernel
theorem dX0_init_14 : decode cX0_init 14 = .ok (.aload_n 0, 1) := by decide +kernel
theorem dX0_init_15 : decode cX0_init 15 = .ok (.aload_n 3, 1) := by decide +kernel
theorem dX0_init_16 : decode cX0_init 16 = .ok (.putfield 18, 3) := by decide +kernel
theorem dX0_init_19 : decode cX0_init 19 = .ok (.aload_n 0, 1) := by decide +kernel
theorem dX0_init_20 : decode cX0_init 20 = .ok (.sipush 384, 3) := by decide +kernel
theorem dX0_init_23 : decode cX0_init 23 = .ok (.newarray .int, 2) := by decide +kernel
theorem dX0_init_25 : decode cX0_init 25 = .ok (.putfield 21, 3) := by decide +kernel
theorem dX0_init_28 : decode cX0_init 28 = .ok (.aload_n 0, 1) := by decide +kernel
theorem dX0_init_29 : decode cX0_init 29 = .ok (.bipush 8, 2) := by decide +kernel
theorem dX0_init_31 : decode cX0_init 31 = .ok (.putfield 25, 3) := by decide +kernel
theorem dX0_init_34 : decode cX0_init 34 = .ok (.return_, 1) := by decide +kernel
theorem dX0_isFree_0 : decode cX0_isFree 0 = .ok (.aload_n 0, 1) := by decide +kernel
theorem dX0_isFree_1 : decode cX0_isFree 1 = .ok (.getfield 9, 3) := by decide +kernel
theorem dX0_isFree_4 : decode cX0_isFree 4 = .ok (.iload_n 1, 1) := by decide +kernel
theorem dX0_isFree_5 : decode cX0_isFree 5 = .ok (.invokevirtual 29, 3) := by decide +kernel
theorem dX0_isFree_8 : decode cX0_isFree 8 = .ok (.aload_n 0, 1) := by decide +kernel
theorem dX0_isFree_9 : decode cX0_isFree 9 = .ok (.getfield 15, 3) := by decide +kernel
theorem dX0_isFree_12 : decode cX0_isFree 12 = .ok (.iload_n 1, 1) := by decide +kernel
theorem dX0_isFree_13 : decode cX0_isFree 13 = .ok (.invokevirtual 29, 3) := by decide +kernel
theorem dX0_isFree_16 : decode cX0_isFree 16 = .ok (.iadd, 1) := by decide +kernel
theorem dX0_isFree_17 : decode cX0_isFree 17 = .ok (.aload_n 0, 1) := by decide +kernel
theorem dX0_isFree_18 : decode cX0_isFree 18 = .ok (.getfield 18, 3) := by decide +kernel
theorem dX0_isFree_21 : decode cX0_isFree 21 = .ok (.iload_n 1, 1) := by decide +kernel
theorem dX0_isFree_22 : decode cX0_isFree 22 = .ok (.invokevirtual 29, 3) := by decide +kernel
theorem dX0_isFree_25 : decode cX0_isFree 25 = .ok (.iadd, 1) := by decide +kernel
theorem dX0_isFree_26 : decode cX0_isFree 26 = .ok (.ifCond .ne 7, 3) := by decide +kernel
theorem dX0_isFree_29 : decode cX0_isFree 29 = .ok (.iconst 1, 1) := by decide +kernel
theorem dX0_isFree_30 : decode cX0_isFree 30 = .ok (.goto 4, 3) := by decide +kernel
theorem dX0_isFree_33 : decode cX0_isFree 33 = .ok (.iconst 0, 1) := by decide +kernel
theorem dX0_isFree_34 : decode cX0_isFree 34 = .ok (.ireturn, 1) := by decide +kernel
theorem dX0_isSole_0 : decode cX0_isSole 0 = .ok (.aload_n 0, 1) := by decide +kernel
theorem dX0_isSole_1 : decode cX0_isSole 1 = .ok (.getfield 9, 3) := by decide +kernel
theorem dX0_isSole_4 : decode cX0_isSole 4 = .ok (.iload_n 1, 1) := by decide +kernel
theorem dX0_isSole_5 : decode cX0_isSole 5 = .ok (.invokevirtual 29, 3) := by decide +kernel
theorem dX0_isSole_8 : decode cX0_isSole 8 = .ok (.iconst 1, 1) := by decide +kernel
theorem dX0_isSole_9 : decode cX0_isSole 9 = .ok (.if_icmp .ne 27, 3) := by decide +kernel
theorem dX0_isSole_12 : decode cX0_isSole 12 = .ok (.aload_n 0, 1) := by decide +kernel
theorem dX0_isSole_13 : decode cX0_isSole 13 = .ok (.getfield 15, 3) := by decide +kernel
theorem dX0_isSole_16 : decode cX0_isSole 16 = .ok (.iload_n 1, 1) := by decide +kernel
theorem dX0_isSole_17 : decode cX0_isSole 17 = .ok (.invokevirtual 29, 3) := by decide +kernel
theorem dX0_isSole_20 : decode cX0_isSole 20 = .ok (.aload_n 0, 1) := by decide +kernel
theorem dX0_isSole_21 : decode cX0_isSole 21 = .ok (.getfield 18, 3) := by decide +kernel
theorem dX0_isSole_24 : decode cX0_isSole 24 = .ok (.iload_n 1, 1) := by decide +kernel
theorem dX0_isSole_25 : decode cX0_isSole 25 = .ok (.invokevirtual 29, 3) := by decide +kernel
theorem dX0_isSole_28 : decode cX0_isSole 28 = .ok (.iadd, 1) := by decide +kernel
theorem dX0_isSole_29 : decode cX0_isSole 29 = .ok (.ifCond .ne 7, 3) := by decide +kernel
theorem dX0_isSole_32 : decode cX0_isSole 32 = .ok (.iconst 1, 1) := by decide +kernel
theorem dX0_isSole_33 : decode cX0_isSole 33 = .ok (.goto 4, 3) := by decide +kernel
theorem dX0_isSole_36 : decode cX0_isSole 36 = .ok (.iconst 0, 1) := by decide +kernel
theorem dX0_isSole_37 : decode cX0_isSole 37 = .ok (.ireturn, 1) := by decide +kernel
theorem dX0_areFree_0 : decode cX0_areFree 0 = .ok (.iload_n 1, 1) := by decide +kernel
theorem dX0_areFree_1 : decode cX0_areFree 1 = .ok (.istore_n 3, 1) := by decide +kernel
theorem dX0_areFree_2 : decode cX0_areFree 2 = .ok (.iload_n 3, 1) := by decide +kernel
theorem dX0_areFree_3 : decode cX0_areFree 3 = .ok (.iload_n 2, 1) := by decide +kernel
theorem dX0_areFree_4 : decode cX0_areFree 4 = .ok (.if_icmp .ge 19, 3) := by decide +kernel
theorem dX0_areFree_7 : decode cX0_areFree 7 = .ok (.aload_n 0, 1) := by decide +kernel
theorem dX0_areFree_8 : decode cX0_areFree 8 = .ok (.iload_n 3, 1) := by decide +kernel
theorem dX0_areFree_9 : decode cX0_areFree 9 = .ok (.invokevirtual 35, 3) := by decide +kernel
theorem dX0_areFree_12 : decode cX0_areFree 12 = .ok (.ifCond .ne 5, 3) := by decide +kernel
theorem dX0_areFree_15 : decode cX0_areFree 15 = .ok (.iconst 0, 1) := by decide +kernel
theorem dX0_areFree_16 : decode cX0_areFree 16 = .ok (.ireturn, 1) := by decide +kernel
theorem dX0_areFree_17 : decode cX0_areFree 17 = .ok (.iinc 3 1, 3) := by decide +kernel
theorem dX0_areFree_20 : decode cX0_areFree 20 = .ok (.goto (-18), 3) := by decide +kernel
theorem dX0_areFree_23 : decode cX0_areFree 23 = .ok (.iconst 1, 1) := by decide +kernel
theorem dX0_areFree_24 : decode cX0_areFree 24 = .ok (.ireturn, 1) := by decide +kernel
theorem dX0_countFree_0 : decode cX0_countFree 0 = .ok (.iconst 0, 1) := by decide +kernel
theorem dX0_countFree_1 : decode cX0_countFree 1 = .ok (.istore_n 1, 1) := by decide +kernel
theorem dX0_countFree_2 : decode cX0_countFree 2 = .ok (.iconst 0, 1) := by decide +kernel
theorem dX0_countFree_3 : decode cX0_countFree 3 = .ok (.istore_n 2, 1) := by decide +kernel
theorem dX0_countFree_4 : decode cX0_countFree 4 = .ok (.iload_n 2, 1) := by decide +kernel
theorem dX0_countFree_5 : decode cX0_countFree 5 = .ok (.aload_n 0, 1) := by decide +kernel
theorem dX0_countFree_6 : decode cX0_countFree 6 = .ok (.getfield 25, 3) := by decide +kernel
theorem dX0_countFree_9 : decode cX0_countFree 9 = .ok (.if_icmp .ge 20, 3) := by decide +kernel
theorem dX0_countFree_12 : decode cX0_countFree 12 = .ok (.aload_n 0, 1) := by decide +kernel
theorem dX0_countFree_13 : decode cX0_countFree 13 = .ok (.iload_n 2, 1) := by decide +kernel
theorem dX0_countFree_14 : decode cX0_countFree 14 = .ok (.invokevirtual 35, 3) := by decide +kernel
theorem dX0_countFree_17 : decode cX0_countFree 17 = .ok (.ifCond .eq 6, 3) := by decide +kernel
theorem dX0_countFree_20 : decode cX0_countFree 20 = .ok (.iinc 1 1, 3) := by decide +kernel
theorem dX0_countFree_23 : decode cX0_countFree 23 = .ok (.iinc 2 1, 3) := by decide +kernel
theorem dX0_countFree_26 : decode cX0_countFree 26 = .ok (.goto (-22), 3) := by decide +kernel
theorem dX0_countFree_29 : decode cX0_countFree 29 = .ok (.iload_n 1, 1) := by decide +kernel
theorem dX0_countFree_30 : decode cX0_countFree 30 = .ok (.ireturn, 1) := by decide +kernel
theorem dX0_take_0 : decode cX0_take 0 = .ok (.aload_n 0, 1) := by decide +kernel
theorem dX0_take_1 : decode cX0_take 1 = .ok (.getfield 39, 3) := by decide +kernel
theorem dX0_take_4 : decode cX0_take 4 = .ok (.istore_n 1, 1) := by decide +kernel
theorem dX0_take_5 : decode cX0_take 5 = .ok (.iconst 0, 1) := by decide +kernel
theorem dX0_take_6 : decode cX0_take 6 = .ok (.istore_n 2, 1) := by decide +kernel
theorem dX0_take_7 : decode cX0_take 7 = .ok (.iload_n 2, 1) := by decide +kernel
theorem dX0_take_8 : decode cX0_take 8 = .ok (.aload_n 0, 1) := by decide +kernel
theorem dX0_take_9 : decode cX0_take 9 = .ok (.getfield 25, 3) := by decide +kernel
theorem dX0_take_12 : decode cX0_take 12 = .ok (.if_icmp .ge 54, 3) := by decide +kernel
theorem dX0_take_15 : decode cX0_take 15 = .ok (.iload_n 1, 1) := by decide +kernel
theorem dX0_take_16 : decode cX0_take 16 = .ok (.iconst 1, 1) := by decide +kernel
theorem dX0_take_17 : decode cX0_take 17 = .ok (.iadd, 1) := by decide +kernel
theorem dX0_take_18 : decode cX0_take 18 = .ok (.aload_n 0, 1) := by decide +kernel
theorem dX0_take_19 : decode cX0_take 19 = .ok (.getfield 25, 3) := by decide +kernel
theorem dX0_take_22 : decode cX0_take 22 = .ok (.if_icmp .ge 9, 3) := by decide +kernel
theorem dX0_take_25 : decode cX0_take 25 = .ok (.iload_n 1, 1) := by decide +kernel
theorem dX0_take_26 : decode cX0_take 26 = .ok (.iconst 1, 1) := by decide +kernel
theorem dX0_take_27 : decode cX0_take 27 = .ok (.iadd, 1) := by decide +kernel
theorem dX0_take_28 : decode cX0_take 28 = .ok (.goto 4, 3) := by decide +kernel
theorem dX0_take_31 : decode cX0_take 31 = .ok (.iconst 0, 1) := by decide +kernel
theorem dX0_take_32 : decode cX0_take 32 = .ok (.istore_n 3, 1) := by decide +kernel
theorem dX0_take_33 : decode cX0_take 33 = .ok (.aload_n 0, 1) := by decide +kernel
theorem dX0_take_34 : decode cX0_take 34 = .ok (.iload_n 1, 1) := by decide +kernel
theorem dX0_take_35 : decode cX0_take 35 = .ok (.invokevirtual 35, 3) := by decide +kernel
theorem dX0_take_38 : decode cX0_take 38 = .ok (.ifCond .eq 20, 3) := by decide +kernel
theorem dX0_take_41 : decode cX0_take 41 = .ok (.aload_n 0, 1) := by decide +kernel
theorem dX0_take_42 : decode cX0_take 42 = .ok (.iload_n 3, 1) := by decide +kernel
theorem dX0_take_43 : decode cX0_take 43 = .ok (.putfield 39, 3) := by decide +kernel
theorem dX0_take_46 : decode cX0_take 46 = .ok (.aload_n 0, 1) := by decide +kernel
theorem dX0_take_47 : decode cX0_take 47 = .ok (.dup, 1) := by decide +kernel
theorem dX0_take_48 : decode cX0_take 48 = .ok (.getfield 42, 3) := by decide +kernel
theorem dX0_take_51 : decode cX0_take 51 = .ok (.iconst 1, 1) := by decide +kernel
theorem dX0_take_52 : decode cX0_take 52 = .ok (.iadd, 1) := by decide +kernel
theorem dX0_take_53 : decode cX0_take 53 = .ok (.putfield 42, 3) := by decide +kernel
theorem dX0_take_56 : decode cX0_take 56 = .ok (.iload_n 1, 1) := by decide +kernel
theorem dX0_take_57 : decode cX0_take 57 = .ok (.ireturn, 1) := by decide +kernel
theorem dX0_take_58 : decode cX0_take 58 = .ok (.iload_n 3, 1) := by decide +kernel
theorem dX0_take_59 : decode cX0_take 59 = .ok (.istore_n 1, 1) := by decide +kernel
theorem dX0_take_60 : decode cX0_take 60 = .ok (.iinc 2 1, 3) := by decide +kernel
theorem dX0_take_63 : decode cX0_take 63 = .ok (.goto (-56), 3) := by decide +kernel
theorem dX0_take_66 : decode cX0_take 66 = .ok (.iconst (-1), 1) := by decide +kernel
theorem dX0_take_67 : decode cX0_take 67 = .ok (.ireturn, 1) := by decide +kernel
theorem dX0_wordAt_0 : decode cX0_wordAt 0 = .ok (.iload_n 1, 1) := by decide +kernel
theorem dX0_wordAt_1 : decode cX0_wordAt 1 = .ok (.iconst 4, 1) := by decide +kernel
theorem dX0_wordAt_2 : decode cX0_wordAt 2 = .ok (.imul, 1) := by decide +kernel
theorem dX0_wordAt_3 : decode cX0_wordAt 3 = .ok (.iload_n 2, 1) := by decide +kernel
theorem dX0_wordAt_4 : decode cX0_wordAt 4 = .ok (.iadd, 1) := by decide +kernel
theorem dX0_wordAt_5 : decode cX0_wordAt 5 = .ok (.istore_n 3, 1) := by decide +kernel
theorem dX0_wordAt_6 : decode cX0_wordAt 6 = .ok (.iload_n 3, 1) := by decide +kernel
theorem dX0_wordAt_7 : decode cX0_wordAt 7 = .ok (.ifCond .lt 21, 3) := by decide +kernel
theorem dX0_wordAt_10 : decode cX0_wordAt 10 = .ok (.iload_n 3, 1) := by decide +kernel
theorem dX0_wordAt_11 : decode cX0_wordAt 11 = .ok (.aload_n 0, 1) := by decide +kernel
theorem dX0_wordAt_12 : decode cX0_wordAt 12 = .ok (.getfield 21, 3) := by decide +kernel
theorem dX0_wordAt_15 : decode cX0_wordAt 15 = .ok (.arraylength, 1) := by decide +kernel
theorem dX0_wordAt_16 : decode cX0_wordAt 16 = .ok (.if_icmp .ge 12, 3) := by decide +kernel
theorem dX0_wordAt_19 : decode cX0_wordAt 19 = .ok (.aload_n 0, 1) := by decide +kernel
theorem dX0_wordAt_20 : decode cX0_wordAt 20 = .ok (.getfield 21, 3) := by decide +kernel
theorem dX0_wordAt_23 : decode cX0_wordAt 23 = .ok (.iload_n 3, 1) := by decide +kernel
theorem dX0_wordAt_24 : decode cX0_wordAt 24 = .ok (.iaload, 1) := by decide +kernel
theorem dX0_wordAt_25 : decode cX0_wordAt 25 = .ok (.goto 4, 3) := by decide +kernel
theorem dX0_wordAt_28 : decode cX0_wordAt 28 = .ok (.iconst 0, 1) := by decide +kernel
theorem dX0_wordAt_29 : decode cX0_wordAt 29 = .ok (.ireturn, 1) := by decide +kernel
theorem dX0_setWord_0 : decode cX0_setWord 0 = .ok (.iload_n 1, 1) := by decide +kernel
theorem dX0_setWord_1 : decode cX0_setWord 1 = .ok (.iconst 4, 1) := by decide +kernel
theorem dX0_setWord_2 : decode cX0_setWord 2 = .ok (.imul, 1) := by decide +kernel
theorem dX0_setWord_3 : decode cX0_setWord 3 = .ok (.iload_n 2, 1) := by decide +kernel
theorem dX0_setWord_4 : decode cX0_setWord 4 = .ok (.iadd, 1) := by decide +kernel
theorem dX0_setWord_5 : decode cX0_setWord 5 = .ok (.istore 4, 2) := by decide +kernel
theorem dX0_setWord_7 : decode cX0_setWord 7 = .ok (.iload 4, 2) := by decide +kernel
theorem dX0_setWord_9 : decode cX0_setWord 9 = .ok (.ifCond .lt 21, 3) := by decide +kernel
theorem dX0_setWord_12 : decode cX0_setWord 12 = .ok (.iload 4, 2) := by decide +kernel
theorem dX0_setWord_14 : decode cX0_setWord 14 = .ok (.aload_n 0, 1) := by decide +kernel
theorem dX0_setWord_15 : decode cX0_setWord 15 = .ok (.getfield 21, 3) := by decide +kernel
theorem dX0_setWord_18 : decode cX0_setWord 18 = .ok (.arraylength, 1) := by decide +kernel
theorem dX0_setWord_19 : decode cX0_setWord 19 = .ok (.if_icmp .ge 11, 3) := by decide +kernel
theorem dX0_setWord_22 : decode cX0_setWord 22 = .ok (.aload_n 0, 1) := by decide +kernel
theorem dX0_setWord_23 : decode cX0_setWord 23 = .ok (.getfield 21, 3) := by decide +kernel
theorem dX0_setWord_26 : decode cX0_setWord 26 = .ok (.iload 4, 2) := by decide +kernel
theorem dX0_setWord_28 : decode cX0_setWord 28 = .ok (.iload_n 3, 1) := by decide +kernel
theorem dX0_setWord_29 : decode cX0_setWord 29 = .ok (.iastore, 1) := by decide +kernel
theorem dX0_setWord_30 : decode cX0_setWord 30 = .ok (.return_, 1) := by decide +kernel
theorem dX1_init_0 : decode cX1_init 0 = .ok (.aload_n 0, 1) := by decide +kernel
theorem dX1_init_1 : decode cX1_init 1 = .ok (.invokespecial 3, 3) := by decide +kernel
theorem dX1_init_4 : decode cX1_init 4 = .ok (.aload_n 0, 1) := by decide +kernel
theorem dX1_init_5 : decode cX1_init 5 = .ok (.bipush 8, 2) := by decide +kernel
theorem dX1_init_7 : decode cX1_init 7 = .ok (.newarray .int, 2) := by decide +kernel
theorem dX1_init_9 : decode cX1_init 9 = .ok (.putfield 9, 3) := by decide +kernel
theorem dX1_init_12 : decode cX1_init 12 = .ok (.aload_n 0, 1) := by decide +kernel
theorem dX1_init_13 : decode cX1_init 13 = .ok (.bipush 8, 2) := by decide +kernel
theorem dX1_init_15 : decode cX1_init 15 = .ok (.newarray .int, 2) := by decide +kernel
theorem dX1_init_17 : decode cX1_init 17 = .ok (.putfield 15, 3) := by decide +kernel
theorem dX1_init_20 : decode cX1_init 20 = .ok (.aload_n 0, 1) := by decide +kernel
theorem dX1_init_21 : decode cX1_init 21 = .ok (.bipush 8, 2) := by decide +kernel
theorem dX1_init_23 : decode cX1_init 23 = .ok (.newarray .int, 2) := by decide +kernel
theorem dX1_init_25 : decode cX1_init 25 = .ok (.putfield 18, 3) := by decide +kernel
theorem dX1_init_28 : decode cX1_init 28 = .ok (.return_, 1) := by decide +kernel
theorem dX1_add_0 : decode cX1_add 0 = .ok (.aload_n 0, 1) := by decide +kernel
theorem dX1_add_1 : decode cX1_add 1 = .ok (.getfield 21, 3) := by decide +kernel
theorem dX1_add_4 : decode cX1_add 4 = .ok (.bipush 8, 2) := by decide +kernel
theorem dX1_add_6 : decode cX1_add 6 = .ok (.if_icmp .lt 5, 3) := by decide +kernel
theorem dX1_add_9 : decode cX1_add 9 = .ok (.iconst 0, 1) := by decide +kernel
theorem dX1_add_10 : decode cX1_add 10 = .ok (.ireturn, 1) := by decide +kernel
theorem dX1_add_11 : decode cX1_add 11 = .ok (.aload_n 0, 1) := by decide +kernel
theorem dX1_add_12 : decode cX1_add 12 = .ok (.aload_n 0, 1) := by decide +kernel
theorem dX1_add_13 : decode cX1_add 13 = .ok (.getfield 21, 3) := by decide +kernel
theorem dX1_add_16 : decode cX1_add 16 = .ok (.iload_n 1, 1) := by decide +kernel
theorem dX1_add_17 : decode cX1_add 17 = .ok (.iload_n 2, 1) := by decide +kernel
theorem dX1_add_18 : decode cX1_add 18 = .ok (.iload_n 3, 1) := by decide +kernel
theorem dX1_add_19 : decode cX1_add 19 = .ok (.invokevirtual 25, 3) := by decide +kernel
theorem dX1_add_22 : decode cX1_add 22 = .ok (.aload_n 0, 1) := by decide +kernel
theorem dX1_add_23 : decode cX1_add 23 = .ok (.dup, 1) := by decide +kernel
theorem dX1_add_24 : decode cX1_add 24 = .ok (.getfield 21, 3) := by decide +kernel
theorem dX1_add_27 : decode cX1_add 27 = .ok (.iconst 1, 1) := by decide +kernel
theorem dX1_add_28 : decode cX1_add 28 = .ok (.iadd, 1) := by decide +kernel
theorem dX1_add_29 : decode cX1_add 29 = .ok (.putfield 21, 3) := by decide +kernel
theorem dX1_add_32 : decode cX1_add 32 = .ok (.iconst 1, 1) := by decide +kernel
theorem dX1_add_33 : decode cX1_add 33 = .ok (.ireturn, 1) := by decide +kernel
theorem dX1_put_0 : decode cX1_put 0 = .ok (.iload_n 1, 1) := by decide +kernel
theorem dX1_put_1 : decode cX1_put 1 = .ok (.ifCond .lt 31, 3) := by decide +kernel
theorem dX1_put_4 : decode cX1_put 4 = .ok (.iload_n 1, 1) := by decide +kernel
theorem dX1_put_5 : decode cX1_put 5 = .ok (.bipush 8, 2) := by decide +kernel
theorem dX1_put_7 : decode cX1_put 7 = .ok (.if_icmp .ge 25, 3) := by decide +kernel
theorem dX1_put_10 : decode cX1_put 10 = .ok (.aload_n 0, 1) := by decide +kernel
theorem dX1_put_11 : decode cX1_put 11 = .ok (.getfield 9, 3) := by decide +kernel
theorem dX1_put_14 : decode cX1_put 14 = .ok (.iload_n 1, 1) := by decide +kernel
theorem dX1_put_15 : decode cX1_put 15 = .ok (.iload_n 2, 1) := by decide +kernel
theorem dX1_put_16 : decode cX1_put 16 = .ok (.iastore, 1) := by decide +kernel
theorem dX1_put_17 : decode cX1_put 17 = .ok (.aload_n 0, 1) := by decide +kernel
theorem dX1_put_18 : decode cX1_put 18 = .ok (.getfield 15, 3) := by decide +kernel
theorem dX1_put_21 : decode cX1_put 21 = .ok (.iload_n 1, 1) := by decide +kernel
theorem dX1_put_22 : decode cX1_put 22 = .ok (.iload_n 3, 1) := by decide +kernel
theorem dX1_put_23 : decode cX1_put 23 = .ok (.iastore, 1) := by decide +kernel
theorem dX1_put_24 : decode cX1_put 24 = .ok (.aload_n 0, 1) := by decide +kernel
theorem dX1_put_25 : decode cX1_put 25 = .ok (.getfield 18, 3) := by decide +kernel
theorem dX1_put_28 : decode cX1_put 28 = .ok (.iload_n 1, 1) := by decide +kernel
theorem dX1_put_29 : decode cX1_put 29 = .ok (.iload 4, 2) := by decide +kernel
theorem dX1_put_31 : decode cX1_put 31 = .ok (.iastore, 1) := by decide +kernel
theorem dX1_put_32 : decode cX1_put 32 = .ok (.return_, 1) := by decide +kernel
theorem dX1_volumeAt_0 : decode cX1_volumeAt 0 = .ok (.iload_n 1, 1) := by decide +kernel
theorem dX1_volumeAt_1 : decode cX1_volumeAt 1 = .ok (.ifCond .lt 20, 3) := by decide +kernel
theorem dX1_volumeAt_4 : decode cX1_volumeAt 4 = .ok (.iload_n 1, 1) := by decide +kernel
theorem dX1_volumeAt_5 : decode cX1_volumeAt 5 = .ok (.aload_n 0, 1) := by decide +kernel
theorem dX1_volumeAt_6 : decode cX1_volumeAt 6 = .ok (.getfield 21, 3) := by decide +kernel
theorem dX1_volumeAt_9 : decode cX1_volumeAt 9 = .ok (.if_icmp .ge 12, 3) := by decide +kernel
theorem dX1_volumeAt_12 : decode cX1_volumeAt 12 = .ok (.aload_n 0, 1) := by decide +kernel
theorem dX1_volumeAt_13 : decode cX1_volumeAt 13 = .ok (.getfield 9, 3) := by decide +kernel
theorem dX1_volumeAt_16 : decode cX1_volumeAt 16 = .ok (.iload_n 1, 1) := by decide +kernel
theorem dX1_volumeAt_17 : decode cX1_volumeAt 17 = .ok (.iaload, 1) := by decide +kernel
theorem dX1_volumeAt_18 : decode cX1_volumeAt 18 = .ok (.goto 4, 3) := by decide +kernel
theorem dX1_volumeAt_21 : decode cX1_volumeAt 21 = .ok (.iconst (-1), 1) := by decide +kernel
theorem dX1_volumeAt_22 : decode cX1_volumeAt 22 = .ok (.ireturn, 1) := by decide +kernel
theorem dX1_wordAt_0 : decode cX1_wordAt 0 = .ok (.iload_n 1, 1) := by decide +kernel
theorem dX1_wordAt_1 : decode cX1_wordAt 1 = .ok (.ifCond .lt 20, 3) := by decide +kernel
theorem dX1_wordAt_4 : decode cX1_wordAt 4 = .ok (.iload_n 1, 1) := by decide +kernel
theorem dX1_wordAt_5 : decode cX1_wordAt 5 = .ok (.aload_n 0, 1) := by decide +kernel
theorem dX1_wordAt_6 : decode cX1_wordAt 6 = .ok (.getfield 21, 3) := by decide +kernel
theorem dX1_wordAt_9 : decode cX1_wordAt 9 = .ok (.if_icmp .ge 12, 3) := by decide +kernel
theorem dX1_wordAt_12 : decode cX1_wordAt 12 = .ok (.aload_n 0, 1) := by decide +kernel
theorem dX1_wordAt_13 : decode cX1_wordAt 13 = .ok (.getfield 15, 3) := by decide +kernel
theorem dX1_wordAt_16 : decode cX1_wordAt 16 = .ok (.iload_n 1, 1) := by decide +kernel
theorem dX1_wordAt_17 : decode cX1_wordAt 17 = .ok (.iaload, 1) := by decide +kernel
theorem dX1_wordAt_18 : decode cX1_wordAt 18 = .ok (.goto 4, 3) := by decide +kernel
theorem dX1_wordAt_21 : decode cX1_wordAt 21 = .ok (.iconst 0, 1) := by decide +kernel
theorem dX1_wordAt_22 : decode cX1_wordAt 22 = .ok (.ireturn, 1) := by decide +kernel
theorem dX1_valueAt_0 : decode cX1_valueAt 0 = .ok (.iload_n 1, 1) := by decide +kernel
theorem dX1_valueAt_1 : decode cX1_valueAt 1 = .ok (.ifCond .lt 20, 3) := by decide +kernel
theorem dX1_valueAt_4 : decode cX1_valueAt 4 = .ok (.iload_n 1, 1) := by decide +kernel
theorem dX1_valueAt_5 : decode cX1_valueAt 5 = .ok (.aload_n 0, 1) := by decide +kernel
theorem dX1_valueAt_6 : decode cX1_valueAt 6 = .ok (.getfield 21, 3) := by decide +kernel
theorem dX1_valueAt_9 : decode cX1_valueAt 9 = .ok (.if_icmp .ge 12, 3) := by decide +kernel
theorem dX1_valueAt_12 : decode cX1_valueAt 12 = .ok (.aload_n 0, 1) := by decide +kernel
theorem dX1_valueAt_13 : decode cX1_valueAt 13 = .ok (.getfield 18, 3) := by decide +kernel
theorem dX1_valueAt_16 : decode cX1_valueAt 16 = .ok (.iload_n 1, 1) := by decide +kernel
theorem dX1_valueAt_17 : decode cX1_valueAt 17 = .ok (.iaload, 1) := by decide +kernel
theorem dX1_valueAt_18 : decode cX1_valueAt 18 = .ok (.goto 4, 3) := by decide +kernel
theorem dX1_valueAt_21 : decode cX1_valueAt 21 = .ok (.iconst 0, 1) := by decide +kernel
theorem dX1_valueAt_22 : decode cX1_valueAt 22 = .ok (.ireturn, 1) := by decide +kernel
theorem dX1_waitsIn_0 : decode cX1_waitsIn 0 = .ok (.iconst 0, 1) := by decide +kernel
theorem dX1_waitsIn_1 : decode cX1_waitsIn 1 = .ok (.istore 4, 2) := by decide +kernel
theorem dX1_waitsIn_3 : decode cX1_waitsIn 3 = .ok (.iload 4, 2) := by decide +kernel
theorem dX1_waitsIn_5 : decode cX1_waitsIn 5 = .ok (.aload_n 0, 1) := by decide +kernel
theorem dX1_waitsIn_6 : decode cX1_waitsIn 6 = .ok (.getfield 21, 3) := by decide +kernel
theorem dX1_waitsIn_9 : decode cX1_waitsIn 9 = .ok (.if_icmp .ge 43, 3) := by decide +kernel
theorem dX1_waitsIn_12 : decode cX1_waitsIn 12 = .ok (.aload_n 0, 1) := by decide +kernel
theorem dX1_waitsIn_13 : decode cX1_waitsIn 13 = .ok (.iload 4, 2) := by decide +kernel
theorem dX1_waitsIn_15 : decode cX1_waitsIn 15 = .ok (.invokevirtual 29, 3) := by decide +kernel
theorem dX1_waitsIn_18 : decode cX1_waitsIn 18 = .ok (.iconst 4, 1) := by decide +kernel
theorem dX1_waitsIn_19 : decode cX1_waitsIn 19 = .ok (.idiv, 1) := by decide +kernel
theorem dX1_waitsIn_20 : decode cX1_waitsIn 20 = .ok (.istore 5, 2) := by decide +kernel
theorem dX1_waitsIn_22 : decode cX1_waitsIn 22 = .ok (.aload_n 0, 1) := by decide +kernel
theorem dX1_waitsIn_23 : decode cX1_waitsIn 23 = .ok (.iload 4, 2) := by decide +kernel
theorem dX1_waitsIn_25 : decode cX1_waitsIn 25 = .ok (.invokevirtual 33, 3) := by decide +kernel
theorem dX1_waitsIn_28 : decode cX1_waitsIn 28 = .ok (.iload_n 1, 1) := by decide +kernel
theorem dX1_waitsIn_29 : decode cX1_waitsIn 29 = .ok (.if_icmp .ne 17, 3) := by decide +kernel
theorem dX1_waitsIn_32 : decode cX1_waitsIn 32 = .ok (.iload 5, 2) := by decide +kernel
theorem dX1_waitsIn_34 : decode cX1_waitsIn 34 = .ok (.iload_n 2, 1) := by decide +kernel
theorem dX1_waitsIn_35 : decode cX1_waitsIn 35 = .ok (.if_icmp .lt 11, 3) := by decide +kernel
theorem dX1_waitsIn_38 : decode cX1_waitsIn 38 = .ok (.iload 5, 2) := by decide +kernel
theorem dX1_waitsIn_40 : decode cX1_waitsIn 40 = .ok (.iload_n 3, 1) := by decide +kernel
theorem dX1_waitsIn_41 : decode cX1_waitsIn 41 = .ok (.if_icmp .ge 5, 3) := by decide +kernel
theorem dX1_waitsIn_44 : decode cX1_waitsIn 44 = .ok (.iconst 1, 1) := by decide +kernel
theorem dX1_waitsIn_45 : decode cX1_waitsIn 45 = .ok (.ireturn, 1) := by decide +kernel
theorem dX1_waitsIn_46 : decode cX1_waitsIn 46 = .ok (.iinc 4 1, 3) := by decide +kernel
theorem dX1_waitsIn_49 : decode cX1_waitsIn 49 = .ok (.goto (-46), 3) := by decide +kernel
theorem dX1_waitsIn_52 : decode cX1_waitsIn 52 = .ok (.iconst 0, 1) := by decide +kernel
theorem dX1_waitsIn_53 : decode cX1_waitsIn 53 = .ok (.ireturn, 1) := by decide +kernel
theorem dX1_countOf_0 : decode cX1_countOf 0 = .ok (.iconst 0, 1) := by decide +kernel
theorem dX1_countOf_1 : decode cX1_countOf 1 = .ok (.istore_n 2, 1) := by decide +kernel
theorem dX1_countOf_2 : decode cX1_countOf 2 = .ok (.iconst 0, 1) := by decide +kernel
theorem dX1_countOf_3 : decode cX1_countOf 3 = .ok (.istore_n 3, 1) := by decide +kernel
theorem dX1_countOf_4 : decode cX1_countOf 4 = .ok (.iload_n 3, 1) := by decide +kernel
theorem dX1_countOf_5 : decode cX1_countOf 5 = .ok (.aload_n 0, 1) := by decide +kernel
theorem dX1_countOf_6 : decode cX1_countOf 6 = .ok (.getfield 21, 3) := by decide +kernel
theorem dX1_countOf_9 : decode cX1_countOf 9 = .ok (.if_icmp .ge 21, 3) := by decide +kernel
theorem dX1_countOf_12 : decode cX1_countOf 12 = .ok (.aload_n 0, 1) := by decide +kernel
theorem dX1_countOf_13 : decode cX1_countOf 13 = .ok (.iload_n 3, 1) := by decide +kernel
theorem dX1_countOf_14 : decode cX1_countOf 14 = .ok (.invokevirtual 33, 3) := by decide +kernel
theorem dX1_countOf_17 : decode cX1_countOf 17 = .ok (.iload_n 1, 1) := by decide +kernel
theorem dX1_countOf_18 : decode cX1_countOf 18 = .ok (.if_icmp .ne 6, 3) := by decide +kernel
theorem dX1_countOf_21 : decode cX1_countOf 21 = .ok (.iinc 2 1, 3) := by decide +kernel
theorem dX1_countOf_24 : decode cX1_countOf 24 = .ok (.iinc 3 1, 3) := by decide +kernel
theorem dX1_countOf_27 : decode cX1_countOf 27 = .ok (.goto (-23), 3) := by decide +kernel
theorem dX1_countOf_30 : decode cX1_countOf 30 = .ok (.iload_n 2, 1) := by decide +kernel
theorem dX1_countOf_31 : decode cX1_countOf 31 = .ok (.ireturn, 1) := by decide +kernel
theorem dX1_removeFirst_0 : decode cX1_removeFirst 0 = .ok (.iconst 1, 1) := by decide +kernel
theorem dX1_removeFirst_1 : decode cX1_removeFirst 1 = .ok (.istore_n 1, 1) := by decide +kernel
theorem dX1_removeFirst_2 : decode cX1_removeFirst 2 = .ok (.iload_n 1, 1) := by decide +kernel
theorem dX1_removeFirst_3 : decode cX1_removeFirst 3 = .ok (.aload_n 0, 1) := by decide +kernel
theorem dX1_removeFirst_4 : decode cX1_removeFirst 4 = .ok (.getfield 21, 3) := by decide +kernel
theorem dX1_removeFirst_7 : decode cX1_removeFirst 7 = .ok (.if_icmp .ge 31, 3) := by decide +kernel
theorem dX1_removeFirst_10 : decode cX1_removeFirst 10 = .ok (.aload_n 0, 1) := by decide +kernel
theorem dX1_removeFirst_11 : decode cX1_removeFirst 11 = .ok (.iload_n 1, 1) := by decide +kernel
theorem dX1_removeFirst_12 : decode cX1_removeFirst 12 = .ok (.iconst 1, 1) := by decide +kernel
theorem dX1_removeFirst_13 : decode cX1_removeFirst 13 = .ok (.isub, 1) := by decide +kernel
theorem dX1_removeFirst_14 : decode cX1_removeFirst 14 = .ok (.aload_n 0, 1) := by decide +kernel
theorem dX1_removeFirst_15 : decode cX1_removeFirst 15 = .ok (.iload_n 1, 1) := by decide +kernel
theorem dX1_removeFirst_16 : decode cX1_removeFirst 16 = .ok (.invokevirtual 33, 3) := by decide +kernel
theorem dX1_removeFirst_19 : decode cX1_removeFirst 19 = .ok (.aload_n 0, 1) := by decide +kernel
theorem dX1_removeFirst_20 : decode cX1_removeFirst 20 = .ok (.iload_n 1, 1) := by decide +kernel
theorem dX1_removeFirst_21 : decode cX1_removeFirst 21 = .ok (.invokevirtual 29, 3) := by decide +kernel
theorem dX1_removeFirst_24 : decode cX1_removeFirst 24 = .ok (.aload_n 0, 1) := by decide +kernel
theorem dX1_removeFirst_25 : decode cX1_removeFirst 25 = .ok (.iload_n 1, 1) := by decide +kernel
theorem dX1_removeFirst_26 : decode cX1_removeFirst 26 = .ok (.invokevirtual 36, 3) := by decide +kernel
theorem dX1_removeFirst_29 : decode cX1_removeFirst 29 = .ok (.invokevirtual 25, 3) := by decide +kernel
theorem dX1_removeFirst_32 : decode cX1_removeFirst 32 = .ok (.iinc 1 1, 3) := by decide +kernel
theorem dX1_removeFirst_35 : decode cX1_removeFirst 35 = .ok (.goto (-33), 3) := by decide +kernel
theorem dX1_removeFirst_38 : decode cX1_removeFirst 38 = .ok (.aload_n 0, 1) := by decide +kernel
theorem dX1_removeFirst_39 : decode cX1_removeFirst 39 = .ok (.getfield 21, 3) := by decide +kernel
theorem dX1_removeFirst_42 : decode cX1_removeFirst 42 = .ok (.ifCond .le 13, 3) := by decide +kernel
theorem dX1_removeFirst_45 : decode cX1_removeFirst 45 = .ok (.aload_n 0, 1) := by decide +kernel
theorem dX1_removeFirst_46 : decode cX1_removeFirst 46 = .ok (.dup, 1) := by decide +kernel
theorem dX1_removeFirst_47 : decode cX1_removeFirst 47 = .ok (.getfield 21, 3) := by decide +kernel
theorem dX1_removeFirst_50 : decode cX1_removeFirst 50 = .ok (.iconst 1, 1) := by decide +kernel
theorem dX1_removeFirst_51 : decode cX1_removeFirst 51 = .ok (.isub, 1) := by decide +kernel
theorem dX1_removeFirst_52 : decode cX1_removeFirst 52 = .ok (.putfield 21, 3) := by decide +kernel
theorem dX1_removeFirst_55 : decode cX1_removeFirst 55 = .ok (.return_, 1) := by decide +kernel
theorem dX1_removeAllOf_0 : decode cX1_removeAllOf 0 = .ok (.iconst 0, 1) := by decide +kernel
theorem dX1_removeAllOf_1 : decode cX1_removeAllOf 1 = .ok (.istore_n 2, 1) := by decide +kernel
theorem dX1_removeAllOf_2 : decode cX1_removeAllOf 2 = .ok (.iconst 0, 1) := by decide +kernel
theorem dX1_removeAllOf_3 : decode cX1_removeAllOf 3 = .ok (.istore_n 3, 1) := by decide +kernel
theorem dX1_removeAllOf_4 : decode cX1_removeAllOf 4 = .ok (.iload_n 3, 1) := by decide +kernel
theorem dX1_removeAllOf_5 : decode cX1_removeAllOf 5 = .ok (.aload_n 0, 1) := by decide +kernel
theorem dX1_removeAllOf_6 : decode cX1_removeAllOf 6 = .ok (.getfield 21, 3) := by decide +kernel
theorem dX1_removeAllOf_9 : decode cX1_removeAllOf 9 = .ok (.if_icmp .ge 41, 3) := by decide +kernel
theorem dX1_removeAllOf_12 : decode cX1_removeAllOf 12 = .ok (.aload_n 0, 1) := by decide +kernel
theorem dX1_removeAllOf_13 : decode cX1_removeAllOf 13 = .ok (.iload_n 3, 1) := by decide +kernel
theorem dX1_removeAllOf_14 : decode cX1_removeAllOf 14 = .ok (.invokevirtual 33, 3) := by decide +kernel
theorem dX1_removeAllOf_17 : decode cX1_removeAllOf 17 = .ok (.iload_n 1, 1) := by decide +kernel
theorem dX1_removeAllOf_18 : decode cX1_removeAllOf 18 = .ok (.if_icmp .eq 26, 3) := by decide +kernel
theorem dX1_removeAllOf_21 : decode cX1_removeAllOf 21 = .ok (.aload_n 0, 1) := by decide +kernel
theorem dX1_removeAllOf_22 : decode cX1_removeAllOf 22 = .ok (.iload_n 2, 1) := by decide +kernel
theorem dX1_removeAllOf_23 : decode cX1_removeAllOf 23 = .ok (.aload_n 0, 1) := by decide +kernel
theorem dX1_removeAllOf_24 : decode cX1_removeAllOf 24 = .ok (.iload_n 3, 1) := by decide +kernel
theorem dX1_removeAllOf_25 : decode cX1_removeAllOf 25 = .ok (.invokevirtual 33, 3) := by decide +kernel
theorem dX1_removeAllOf_28 : decode cX1_removeAllOf 28 = .ok (.aload_n 0, 1) := by decide +kernel
theorem dX1_removeAllOf_29 : decode cX1_removeAllOf 29 = .ok (.iload_n 3, 1) := by decide +kernel
theorem dX1_removeAllOf_30 : decode cX1_removeAllOf 30 = .ok (.invokevirtual 29, 3) := by decide +kernel
theorem dX1_removeAllOf_33 : decode cX1_removeAllOf 33 = .ok (.aload_n 0, 1) := by decide +kernel
theorem dX1_removeAllOf_34 : decode cX1_removeAllOf 34 = .ok (.iload_n 3, 1) := by decide +kernel
theorem dX1_removeAllOf_35 : decode cX1_removeAllOf 35 = .ok (.invokevirtual 36, 3) := by decide +kernel
theorem dX1_removeAllOf_38 : decode cX1_removeAllOf 38 = .ok (.invokevirtual 25, 3) := by decide +kernel
theorem dX1_removeAllOf_41 : decode cX1_removeAllOf 41 = .ok (.iinc 2 1, 3) := by decide +kernel
theorem dX1_removeAllOf_44 : decode cX1_removeAllOf 44 = .ok (.iinc 3 1, 3) := by decide +kernel
theorem dX1_removeAllOf_47 : decode cX1_removeAllOf 47 = .ok (.goto (-43), 3) := by decide +kernel
theorem dX1_removeAllOf_50 : decode cX1_removeAllOf 50 = .ok (.aload_n 0, 1) := by decide +kernel
theorem dX1_removeAllOf_51 : decode cX1_removeAllOf 51 = .ok (.getfield 21, 3) := by decide +kernel
theorem dX1_removeAllOf_54 : decode cX1_removeAllOf 54 = .ok (.iload_n 2, 1) := by decide +kernel
theorem dX1_removeAllOf_55 : decode cX1_removeAllOf 55 = .ok (.isub, 1) := by decide +kernel
theorem dX1_removeAllOf_56 : decode cX1_removeAllOf 56 = .ok (.istore_n 3, 1) := by decide +kernel
theorem dX1_removeAllOf_57 : decode cX1_removeAllOf 57 = .ok (.aload_n 0, 1) := by decide +kernel
theorem dX1_removeAllOf_58 : decode cX1_removeAllOf 58 = .ok (.iload_n 2, 1) := by decide +kernel
theorem dX1_removeAllOf_59 : decode cX1_removeAllOf 59 = .ok (.putfield 21, 3) := by decide +kernel
theorem dX1_removeAllOf_62 : decode cX1_removeAllOf 62 = .ok (.iload_n 3, 1) := by decide +kernel
theorem dX1_removeAllOf_63 : decode cX1_removeAllOf 63 = .ok (.ireturn, 1) := by decide +kernel
theorem dX1_removeAll_0 : decode cX1_removeAll 0 = .ok (.aload_n 0, 1) := by decide +kernel
theorem dX1_removeAll_1 : decode cX1_removeAll 1 = .ok (.getfield 21, 3) := by decide +kernel
theorem dX1_removeAll_4 : decode cX1_removeAll 4 = .ok (.istore_n 1, 1) := by decide +kernel
theorem dX1_removeAll_5 : decode cX1_removeAll 5 = .ok (.aload_n 0, 1) := by decide +kernel
theorem dX1_removeAll_6 : decode cX1_removeAll 6 = .ok (.iconst 0, 1) := by decide +kernel
theorem dX1_removeAll_7 : decode cX1_removeAll 7 = .ok (.putfield 21, 3) := by decide +kernel
theorem dX1_removeAll_10 : decode cX1_removeAll 10 = .ok (.iload_n 1, 1) := by decide +kernel
theorem dX1_removeAll_11 : decode cX1_removeAll 11 = .ok (.ireturn, 1) := by decide +kernel
theorem dX2_init_0 : decode cX2_init 0 = .ok (.aload_n 0, 1) := by decide +kernel
theorem dX2_init_1 : decode cX2_init 1 = .ok (.invokespecial 3, 3) := by decide +kernel
theorem dX2_init_4 : decode cX2_init 4 = .ok (.aload_n 0, 1) := by decide +kernel
theorem dX2_init_5 : decode cX2_init 5 = .ok (.bipush 16, 2) := by decide +kernel
theorem dX2_init_7 : decode cX2_init 7 = .ok (.anewarray 9, 3) := by decide +kernel
theorem dX2_init_10 : decode cX2_init 10 = .ok (.putfield 11, 3) := by decide +kernel
theorem dX2_init_13 : decode cX2_init 13 = .ok (.iconst 0, 1) := by decide +kernel
theorem dX2_init_14 : decode cX2_init 14 = .ok (.istore_n 1, 1) := by decide +kernel
theorem dX2_init_15 : decode cX2_init 15 = .ok (.iload_n 1, 1) := by decide +kernel
theorem dX2_init_16 : decode cX2_init 16 = .ok (.bipush 16, 2) := by decide +kernel
theorem dX2_init_18 : decode cX2_init 18 = .ok (.if_icmp .ge 22, 3) := by decide +kernel
theorem dX2_init_21 : decode cX2_init 21 = .ok (.aload_n 0, 1) := by decide +kernel
theorem dX2_init_22 : decode cX2_init 22 = .ok (.getfield 11, 3) := by decide +kernel
theorem dX2_init_25 : decode cX2_init 25 = .ok (.iload_n 1, 1) := by decide +kernel
theorem dX2_init_26 : decode cX2_init 26 = .ok (.new 9, 3) := by decide +kernel
theorem dX2_init_29 : decode cX2_init 29 = .ok (.dup, 1) := by decide +kernel
theorem dX2_init_30 : decode cX2_init 30 = .ok (.invokespecial 17, 3) := by decide +kernel
theorem dX2_init_33 : decode cX2_init 33 = .ok (.aastore, 1) := by decide +kernel
theorem dX2_init_34 : decode cX2_init 34 = .ok (.iinc 1 1, 3) := by decide +kernel
theorem dX2_init_37 : decode cX2_init 37 = .ok (.goto (-22), 3) := by decide +kernel
theorem dX2_init_40 : decode cX2_init 40 = .ok (.aload_n 0, 1) := by decide +kernel
theorem dX2_init_41 : decode cX2_init 41 = .ok (.bipush 96, 2) := by decide +kernel
theorem dX2_init_43 : decode cX2_init 43 = .ok (.newarray .int, 2) := by decide +kernel
theorem dX2_init_45 : decode cX2_init 45 = .ok (.putfield 18, 3) := by decide +kernel
theorem dX2_init_48 : decode cX2_init 48 = .ok (.return_, 1) := by decide +kernel
theorem dX2_slot_0 : decode cX2_slot 0 = .ok (.iload_n 1, 1) := by decide +kernel
theorem dX2_slot_1 : decode cX2_slot 1 = .ok (.ifCond .lt 21, 3) := by decide +kernel
theorem dX2_slot_4 : decode cX2_slot 4 = .ok (.iload_n 1, 1) := by decide +kernel
theorem dX2_slot_5 : decode cX2_slot 5 = .ok (.aload_n 0, 1) := by decide +kernel
theorem dX2_slot_6 : decode cX2_slot 6 = .ok (.getfield 11, 3) := by decide +kernel
theorem dX2_slot_9 : decode cX2_slot 9 = .ok (.arraylength, 1) := by decide +kernel
theorem dX2_slot_10 : decode cX2_slot 10 = .ok (.if_icmp .ge 12, 3) := by decide +kernel
theorem dX2_slot_13 : decode cX2_slot 13 = .ok (.aload_n 0, 1) := by decide +kernel
theorem dX2_slot_14 : decode cX2_slot 14 = .ok (.getfield 11, 3) := by decide +kernel
theorem dX2_slot_17 : decode cX2_slot 17 = .ok (.iload_n 1, 1) := by decide +kernel
theorem dX2_slot_18 : decode cX2_slot 18 = .ok (.aaload, 1) := by decide +kernel
theorem dX2_slot_19 : decode cX2_slot 19 = .ok (.goto 4, 3) := by decide +kernel
theorem dX2_slot_22 : decode cX2_slot 22 = .ok (.aconst_null, 1) := by decide +kernel
theorem dX2_slot_23 : decode cX2_slot 23 = .ok (.areturn, 1) := by decide +kernel
theorem dX2_find_0 : decode cX2_find 0 = .ok (.aload_n 0, 1) := by decide +kernel
theorem dX2_find_1 : decode cX2_find 1 = .ok (.iload_n 1, 1) := by decide +kernel
theorem dX2_find_2 : decode cX2_find 2 = .ok (.invokevirtual 22, 3) := by decide +kernel
theorem dX2_find_5 : decode cX2_find 5 = .ok (.astore_n 2, 1) := by decide +kernel
theorem dX2_find_6 : decode cX2_find 6 = .ok (.aload_n 2, 1) := by decide +kernel
theorem dX2_find_7 : decode cX2_find 7 = .ok (.ifnull 14, 3) := by decide +kernel
theorem dX2_find_10 : decode cX2_find 10 = .ok (.aload_n 2, 1) := by decide +kernel
theorem dX2_find_11 : decode cX2_find 11 = .ok (.getfield 26, 3) := by decide +kernel
theorem dX2_find_14 : decode cX2_find 14 = .ok (.ifCond .eq 7, 3) := by decide +kernel
theorem dX2_find_17 : decode cX2_find 17 = .ok (.aload_n 2, 1) := by decide +kernel
theorem dX2_find_18 : decode cX2_find 18 = .ok (.goto 4, 3) := by decide +kernel
theorem dX2_find_21 : decode cX2_find 21 = .ok (.aconst_null, 1) := by decide +kernel
theorem dX2_find_22 : decode cX2_find 22 = .ok (.areturn, 1) := by decide +kernel
theorem dX2_add_0 : decode cX2_add 0 = .ok (.aload_n 1, 1) := by decide +kernel
theorem dX2_add_1 : decode cX2_add 1 = .ok (.iconst 1, 1) := by decide +kernel
theorem dX2_add_2 : decode cX2_add 2 = .ok (.putfield 26, 3) := by decide +kernel
theorem dX2_add_5 : decode cX2_add 5 = .ok (.aload_n 1, 1) := by decide +kernel
theorem dX2_add_6 : decode cX2_add 6 = .ok (.iload_n 2, 1) := by decide +kernel
theorem dX2_add_7 : decode cX2_add 7 = .ok (.putfield 30, 3) := by decide +kernel
theorem dX2_add_10 : decode cX2_add 10 = .ok (.aload_n 1, 1) := by decide +kernel
theorem dX2_add_11 : decode cX2_add 11 = .ok (.iload_n 3, 1) := by decide +kernel
theorem dX2_add_12 : decode cX2_add 12 = .ok (.putfield 34, 3) := by decide +kernel
theorem dX2_add_15 : decode cX2_add 15 = .ok (.aload_n 1, 1) := by decide +kernel
theorem dX2_add_16 : decode cX2_add 16 = .ok (.iload 4, 2) := by decide +kernel
theorem dX2_add_18 : decode cX2_add 18 = .ok (.putfield 37, 3) := by decide +kernel
theorem dX2_add_21 : decode cX2_add 21 = .ok (.aload_n 1, 1) := by decide +kernel
theorem dX2_add_22 : decode cX2_add 22 = .ok (.iload 5, 2) := by decide +kernel
theorem dX2_add_24 : decode cX2_add 24 = .ok (.putfield 40, 3) := by decide +kernel
theorem dX2_add_27 : decode cX2_add 27 = .ok (.aload_n 0, 1) := by decide +kernel
theorem dX2_add_28 : decode cX2_add 28 = .ok (.dup, 1) := by decide +kernel
theorem dX2_add_29 : decode cX2_add 29 = .ok (.getfield 43, 3) := by decide +kernel
theorem dX2_add_32 : decode cX2_add 32 = .ok (.iconst 1, 1) := by decide +kernel
theorem dX2_add_33 : decode cX2_add 33 = .ok (.iadd, 1) := by decide +kernel
theorem dX2_add_34 : decode cX2_add 34 = .ok (.putfield 43, 3) := by decide +kernel
theorem dX2_add_37 : decode cX2_add 37 = .ok (.return_, 1) := by decide +kernel
theorem dX2_remove_0 : decode cX2_remove 0 = .ok (.aload_n 1, 1) := by decide +kernel
theorem dX2_remove_1 : decode cX2_remove 1 = .ok (.invokevirtual 46, 3) := by decide +kernel
theorem dX2_remove_4 : decode cX2_remove 4 = .ok (.aload_n 0, 1) := by decide +kernel
theorem dX2_remove_5 : decode cX2_remove 5 = .ok (.dup, 1) := by decide +kernel
theorem dX2_remove_6 : decode cX2_remove 6 = .ok (.getfield 43, 3) := by decide +kernel
theorem dX2_remove_9 : decode cX2_remove 9 = .ok (.iconst 1, 1) := by decide +kernel
theorem dX2_remove_10 : decode cX2_remove 10 = .ok (.isub, 1) := by decide +kernel
theorem dX2_remove_11 : decode cX2_remove 11 = .ok (.putfield 43, 3) := by decide +kernel
theorem dX2_remove_14 : decode cX2_remove 14 = .ok (.return_, 1) := by decide +kernel
theorem dX2_usesOf_0 : decode cX2_usesOf 0 = .ok (.iload_n 1, 1) := by decide +kernel
theorem dX2_usesOf_1 : decode cX2_usesOf 1 = .ok (.ifCond .lt 21, 3) := by decide +kernel
theorem dX2_usesOf_4 : decode cX2_usesOf 4 = .ok (.iload_n 1, 1) := by decide +kernel
theorem dX2_usesOf_5 : decode cX2_usesOf 5 = .ok (.aload_n 0, 1) := by decide +kernel
theorem dX2_usesOf_6 : decode cX2_usesOf 6 = .ok (.getfield 18, 3) := by decide +kernel
theorem dX2_usesOf_9 : decode cX2_usesOf 9 = .ok (.arraylength, 1) := by decide +kernel
theorem dX2_usesOf_10 : decode cX2_usesOf 10 = .ok (.if_icmp .ge 12, 3) := by decide +kernel
theorem dX2_usesOf_13 : decode cX2_usesOf 13 = .ok (.aload_n 0, 1) := by decide +kernel
theorem dX2_usesOf_14 : decode cX2_usesOf 14 = .ok (.getfield 18, 3) := by decide +kernel
theorem dX2_usesOf_17 : decode cX2_usesOf 17 = .ok (.iload_n 1, 1) := by decide +kernel
theorem dX2_usesOf_18 : decode cX2_usesOf 18 = .ok (.iaload, 1) := by decide +kernel
theorem dX2_usesOf_19 : decode cX2_usesOf 19 = .ok (.goto 4, 3) := by decide +kernel
theorem dX2_usesOf_22 : decode cX2_usesOf 22 = .ok (.iconst 0, 1) := by decide +kernel
theorem dX2_usesOf_23 : decode cX2_usesOf 23 = .ok (.ireturn, 1) := by decide +kernel
theorem dX2_setExtent_0 : decode cX2_setExtent 0 = .ok (.aload_n 1, 1) := by decide +kernel
theorem dX2_setExtent_1 : decode cX2_setExtent 1 = .ok (.iload_n 2, 1) := by decide +kernel
theorem dX2_setExtent_2 : decode cX2_setExtent 2 = .ok (.invokevirtual 49, 3) := by decide +kernel
theorem dX2_setExtent_5 : decode cX2_setExtent 5 = .ok (.istore 4, 2) := by decide +kernel
theorem dX2_setExtent_7 : decode cX2_setExtent 7 = .ok (.iload 4, 2) := by decide +kernel
theorem dX2_setExtent_9 : decode cX2_setExtent 9 = .ok (.ifCond .lt 34, 3) := by decide +kernel
theorem dX2_setExtent_12 : decode cX2_setExtent 12 = .ok (.iload 4, 2) := by decide +kernel
theorem dX2_setExtent_14 : decode cX2_setExtent 14 = .ok (.aload_n 0, 1) := by decide +kernel
theorem dX2_setExtent_15 : decode cX2_setExtent 15 = .ok (.getfield 18, 3) := by decide +kernel
theorem dX2_setExtent_18 : decode cX2_setExtent 18 = .ok (.arraylength, 1) := by decide +kernel
theorem dX2_setExtent_19 : decode cX2_setExtent 19 = .ok (.if_icmp .ge 24, 3) := by decide +kernel
theorem dX2_setExtent_22 : decode cX2_setExtent 22 = .ok (.aload_n 0, 1) := by decide +kernel
theorem dX2_setExtent_23 : decode cX2_setExtent 23 = .ok (.getfield 18, 3) := by decide +kernel
theorem dX2_setExtent_26 : decode cX2_setExtent 26 = .ok (.iload 4, 2) := by decide +kernel
theorem dX2_setExtent_28 : decode cX2_setExtent 28 = .ok (.dup2, 1) := by decide +kernel
theorem dX2_setExtent_29 : decode cX2_setExtent 29 = .ok (.iaload, 1) := by decide +kernel
theorem dX2_setExtent_30 : decode cX2_setExtent 30 = .ok (.iconst 1, 1) := by decide +kernel
theorem dX2_setExtent_31 : decode cX2_setExtent 31 = .ok (.isub, 1) := by decide +kernel
theorem dX2_setExtent_32 : decode cX2_setExtent 32 = .ok (.iastore, 1) := by decide +kernel
theorem dX2_setExtent_33 : decode cX2_setExtent 33 = .ok (.aload_n 1, 1) := by decide +kernel
theorem dX2_setExtent_34 : decode cX2_setExtent 34 = .ok (.dup, 1) := by decide +kernel
theorem dX2_setExtent_35 : decode cX2_setExtent 35 = .ok (.getfield 53, 3) := by decide +kernel
theorem dX2_setExtent_38 : decode cX2_setExtent 38 = .ok (.iconst 1, 1) := by decide +kernel
theorem dX2_setExtent_39 : decode cX2_setExtent 39 = .ok (.isub, 1) := by decide +kernel
theorem dX2_setExtent_40 : decode cX2_setExtent 40 = .ok (.putfield 53, 3) := by decide +kernel
theorem dX2_setExtent_43 : decode cX2_setExtent 43 = .ok (.iload_n 3, 1) := by decide +kernel
theorem dX2_setExtent_44 : decode cX2_setExtent 44 = .ok (.ifCond .lt 32, 3) := by decide +kernel
theorem dX2_setExtent_47 : decode cX2_setExtent 47 = .ok (.iload_n 3, 1) := by decide +kernel
theorem dX2_setExtent_48 : decode cX2_setExtent 48 = .ok (.aload_n 0, 1) := by decide +kernel
theorem dX2_setExtent_49 : decode cX2_setExtent 49 = .ok (.getfield 18, 3) := by decide +kernel
theorem dX2_setExtent_52 : decode cX2_setExtent 52 = .ok (.arraylength, 1) := by decide +kernel
theorem dX2_setExtent_53 : decode cX2_setExtent 53 = .ok (.if_icmp .ge 23, 3) := by decide +kernel
theorem dX2_setExtent_56 : decode cX2_setExtent 56 = .ok (.aload_n 0, 1) := by decide +kernel
theorem dX2_setExtent_57 : decode cX2_setExtent 57 = .ok (.getfield 18, 3) := by decide +kernel
theorem dX2_setExtent_60 : decode cX2_setExtent 60 = .ok (.iload_n 3, 1) := by decide +kernel
theorem dX2_setExtent_61 : decode cX2_setExtent 61 = .ok (.dup2, 1) := by decide +kernel
theorem dX2_setExtent_62 : decode cX2_setExtent 62 = .ok (.iaload, 1) := by decide +kernel
theorem dX2_setExtent_63 : decode cX2_setExtent 63 = .ok (.iconst 1, 1) := by decide +kernel
theorem dX2_setExtent_64 : decode cX2_setExtent 64 = .ok (.iadd, 1) := by decide +kernel
theorem dX2_setExtent_65 : decode cX2_setExtent 65 = .ok (.iastore, 1) := by decide +kernel
theorem dX2_setExtent_66 : decode cX2_setExtent 66 = .ok (.aload_n 1, 1) := by decide +kernel
theorem dX2_setExtent_67 : decode cX2_setExtent 67 = .ok (.dup, 1) := by decide +kernel
theorem dX2_setExtent_68 : decode cX2_setExtent 68 = .ok (.getfield 53, 3) := by decide +kernel
theorem dX2_setExtent_71 : decode cX2_setExtent 71 = .ok (.iconst 1, 1) := by decide +kernel
theorem dX2_setExtent_72 : decode cX2_setExtent 72 = .ok (.iadd, 1) := by decide +kernel
theorem dX2_setExtent_73 : decode cX2_setExtent 73 = .ok (.putfield 53, 3) := by decide +kernel
theorem dX2_setExtent_76 : decode cX2_setExtent 76 = .ok (.aload_n 1, 1) := by decide +kernel
theorem dX2_setExtent_77 : decode cX2_setExtent 77 = .ok (.iload_n 2, 1) := by decide +kernel
theorem dX2_setExtent_78 : decode cX2_setExtent 78 = .ok (.iload_n 3, 1) := by decide +kernel
theorem dX2_setExtent_79 : decode cX2_setExtent 79 = .ok (.invokevirtual 56, 3) := by decide +kernel
theorem dX2_setExtent_82 : decode cX2_setExtent 82 = .ok (.return_, 1) := by decide +kernel
theorem dX2_unmap_0 : decode cX2_unmap 0 = .ok (.aload_n 1, 1) := by decide +kernel
theorem dX2_unmap_1 : decode cX2_unmap 1 = .ok (.getfield 53, 3) := by decide +kernel
theorem dX2_unmap_4 : decode cX2_unmap 4 = .ok (.istore 4, 2) := by decide +kernel
theorem dX2_unmap_6 : decode cX2_unmap 6 = .ok (.iload_n 2, 1) := by decide +kernel
theorem dX2_unmap_7 : decode cX2_unmap 7 = .ok (.istore 5, 2) := by decide +kernel
theorem dX2_unmap_9 : decode cX2_unmap 9 = .ok (.iload 5, 2) := by decide +kernel
theorem dX2_unmap_11 : decode cX2_unmap 11 = .ok (.iload_n 3, 1) := by decide +kernel
theorem dX2_unmap_12 : decode cX2_unmap 12 = .ok (.if_icmp .ge 17, 3) := by decide +kernel
theorem dX2_unmap_15 : decode cX2_unmap 15 = .ok (.aload_n 0, 1) := by decide +kernel
theorem dX2_unmap_16 : decode cX2_unmap 16 = .ok (.aload_n 1, 1) := by decide +kernel
theorem dX2_unmap_17 : decode cX2_unmap 17 = .ok (.iload 5, 2) := by decide +kernel
theorem dX2_unmap_19 : decode cX2_unmap 19 = .ok (.iconst (-1), 1) := by decide +kernel
theorem dX2_unmap_20 : decode cX2_unmap 20 = .ok (.invokevirtual 60, 3) := by decide +kernel
theorem dX2_unmap_23 : decode cX2_unmap 23 = .ok (.iinc 5 1, 3) := by decide +kernel
theorem dX2_unmap_26 : decode cX2_unmap 26 = .ok (.goto (-17), 3) := by decide +kernel
theorem dX2_unmap_29 : decode cX2_unmap 29 = .ok (.iload 4, 2) := by decide +kernel
theorem dX2_unmap_31 : decode cX2_unmap 31 = .ok (.aload_n 1, 1) := by decide +kernel
theorem dX2_unmap_32 : decode cX2_unmap 32 = .ok (.getfield 53, 3) := by decide +kernel
theorem dX2_unmap_35 : decode cX2_unmap 35 = .ok (.isub, 1) := by decide +kernel
theorem dX2_unmap_36 : decode cX2_unmap 36 = .ok (.ireturn, 1) := by decide +kernel
theorem dX2_userOf_0 : decode cX2_userOf 0 = .ok (.iconst 0, 1) := by decide +kernel
theorem dX2_userOf_1 : decode cX2_userOf 1 = .ok (.istore_n 3, 1) := by decide +kernel
theorem dX2_userOf_2 : decode cX2_userOf 2 = .ok (.iconst 0, 1) := by decide +kernel
theorem dX2_userOf_3 : decode cX2_userOf 3 = .ok (.istore 4, 2) := by decide +kernel
theorem dX2_userOf_5 : decode cX2_userOf 5 = .ok (.iload 4, 2) := by decide +kernel
theorem dX2_userOf_7 : decode cX2_userOf 7 = .ok (.sipush 640, 3) := by decide +kernel
theorem dX2_userOf_10 : decode cX2_userOf 10 = .ok (.if_icmp .ge 62, 3) := by decide +kernel
theorem dX2_userOf_13 : decode cX2_userOf 13 = .ok (.aload_n 0, 1) := by decide +kernel
theorem dX2_userOf_14 : decode cX2_userOf 14 = .ok (.iload 4, 2) := by decide +kernel
theorem dX2_userOf_16 : decode cX2_userOf 16 = .ok (.bipush 40, 2) := by decide +kernel
theorem dX2_userOf_18 : decode cX2_userOf 18 = .ok (.idiv, 1) := by decide +kernel
theorem dX2_userOf_19 : decode cX2_userOf 19 = .ok (.invokevirtual 22, 3) := by decide +kernel
theorem dX2_userOf_22 : decode cX2_userOf 22 = .ok (.astore 5, 2) := by decide +kernel
theorem dX2_userOf_24 : decode cX2_userOf 24 = .ok (.aload 5, 2) := by decide +kernel
theorem dX2_userOf_26 : decode cX2_userOf 26 = .ok (.ifnull 40, 3) := by decide +kernel
theorem dX2_userOf_29 : decode cX2_userOf 29 = .ok (.aload 5, 2) := by decide +kernel
theorem dX2_userOf_31 : decode cX2_userOf 31 = .ok (.iload 4, 2) := by decide +kernel
theorem dX2_userOf_33 : decode cX2_userOf 33 = .ok (.bipush 40, 2) := by decide +kernel
theorem dX2_userOf_35 : decode cX2_userOf 35 = .ok (.irem, 1) := by decide +kernel
theorem dX2_userOf_36 : decode cX2_userOf 36 = .ok (.invokevirtual 49, 3) := by decide +kernel
theorem dX2_userOf_39 : decode cX2_userOf 39 = .ok (.iload_n 1, 1) := by decide +kernel
theorem dX2_userOf_40 : decode cX2_userOf 40 = .ok (.if_icmp .ne 26, 3) := by decide +kernel
theorem dX2_userOf_43 : decode cX2_userOf 43 = .ok (.iload_n 3, 1) := by decide +kernel
theorem dX2_userOf_44 : decode cX2_userOf 44 = .ok (.iload_n 2, 1) := by decide +kernel
theorem dX2_userOf_45 : decode cX2_userOf 45 = .ok (.if_icmp .ne 18, 3) := by decide +kernel
theorem dX2_userOf_48 : decode cX2_userOf 48 = .ok (.bipush 64, 2) := by decide +kernel
theorem dX2_userOf_50 : decode cX2_userOf 50 = .ok (.iload 4, 2) := by decide +kernel
theorem dX2_userOf_52 : decode cX2_userOf 52 = .ok (.bipush 40, 2) := by decide +kernel
theorem dX2_userOf_54 : decode cX2_userOf 54 = .ok (.idiv, 1) := by decide +kernel
theorem dX2_userOf_55 : decode cX2_userOf 55 = .ok (.imul, 1) := by decide +kernel
theorem dX2_userOf_56 : decode cX2_userOf 56 = .ok (.iload 4, 2) := by decide +kernel
theorem dX2_userOf_58 : decode cX2_userOf 58 = .ok (.bipush 40, 2) := by decide +kernel
theorem dX2_userOf_60 : decode cX2_userOf 60 = .ok (.irem, 1) := by decide +kernel
theorem dX2_userOf_61 : decode cX2_userOf 61 = .ok (.iadd, 1) := by decide +kernel
theorem dX2_userOf_62 : decode cX2_userOf 62 = .ok (.ireturn, 1) := by decide +kernel
theorem dX2_userOf_63 : decode cX2_userOf 63 = .ok (.iinc 3 1, 3) := by decide +kernel
theorem dX2_userOf_66 : decode cX2_userOf 66 = .ok (.iinc 4 1, 3) := by decide +kernel
theorem dX2_userOf_69 : decode cX2_userOf 69 = .ok (.goto (-64), 3) := by decide +kernel
theorem dX2_userOf_72 : decode cX2_userOf 72 = .ok (.iconst (-1), 1) := by decide +kernel
theorem dX2_userOf_73 : decode cX2_userOf 73 = .ok (.ireturn, 1) := by decide +kernel
theorem dX2_hasBacked_0 : decode cX2_hasBacked 0 = .ok (.aload_n 0, 1) := by decide +kernel
theorem dX2_hasBacked_1 : decode cX2_hasBacked 1 = .ok (.getfield 11, 3) := by decide +kernel
theorem dX2_hasBacked_4 : decode cX2_hasBacked 4 = .ok (.astore_n 1, 1) := by decide +kernel
theorem dX2_hasBacked_5 : decode cX2_hasBacked 5 = .ok (.aload_n 1, 1) := by decide +kernel
theorem dX2_hasBacked_6 : decode cX2_hasBacked 6 = .ok (.arraylength, 1) := by decide +kernel
theorem dX2_hasBacked_7 : decode cX2_hasBacked 7 = .ok (.istore_n 2, 1) := by decide +kernel
theorem dX2_hasBacked_8 : decode cX2_hasBacked 8 = .ok (.iconst 0, 1) := by decide +kernel
theorem dX2_hasBacked_9 : decode cX2_hasBacked 9 = .ok (.istore_n 3, 1) := by decide +kernel
theorem dX2_hasBacked_10 : decode cX2_hasBacked 10 = .ok (.iload_n 3, 1) := by decide +kernel
theorem dX2_hasBacked_11 : decode cX2_hasBacked 11 = .ok (.iload_n 2, 1) := by decide +kernel
theorem dX2_hasBacked_12 : decode cX2_hasBacked 12 = .ok (.if_icmp .ge 32, 3) := by decide +kernel
theorem dX2_hasBacked_15 : decode cX2_hasBacked 15 = .ok (.aload_n 1, 1) := by decide +kernel
theorem dX2_hasBacked_16 : decode cX2_hasBacked 16 = .ok (.iload_n 3, 1) := by decide +kernel
theorem dX2_hasBacked_17 : decode cX2_hasBacked 17 = .ok (.aaload, 1) := by decide +kernel
theorem dX2_hasBacked_18 : decode cX2_hasBacked 18 = .ok (.astore 4, 2) := by decide +kernel
theorem dX2_hasBacked_20 : decode cX2_hasBacked 20 = .ok (.aload 4, 2) := by decide +kernel
theorem dX2_hasBacked_22 : decode cX2_hasBacked 22 = .ok (.getfield 26, 3) := by decide +kernel
theorem dX2_hasBacked_25 : decode cX2_hasBacked 25 = .ok (.ifCond .eq 13, 3) := by decide +kernel
theorem dX2_hasBacked_28 : decode cX2_hasBacked 28 = .ok (.aload 4, 2) := by decide +kernel
theorem dX2_hasBacked_30 : decode cX2_hasBacked 30 = .ok (.getfield 34, 3) := by decide +kernel
theorem dX2_hasBacked_33 : decode cX2_hasBacked 33 = .ok (.ifCond .eq 5, 3) := by decide +kernel
theorem dX2_hasBacked_36 : decode cX2_hasBacked 36 = .ok (.iconst 1, 1) := by decide +kernel
theorem dX2_hasBacked_37 : decode cX2_hasBacked 37 = .ok (.ireturn, 1) := by decide +kernel
theorem dX2_hasBacked_38 : decode cX2_hasBacked 38 = .ok (.iinc 3 1, 3) := by decide +kernel
theorem dX2_hasBacked_41 : decode cX2_hasBacked 41 = .ok (.goto (-31), 3) := by decide +kernel
theorem dX2_hasBacked_44 : decode cX2_hasBacked 44 = .ok (.iconst 0, 1) := by decide +kernel
theorem dX2_hasBacked_45 : decode cX2_hasBacked 45 = .ok (.ireturn, 1) := by decide +kernel
theorem dX2_copy_0 : decode cX2_copy 0 = .ok (.aload_n 0, 1) := by decide +kernel
theorem dX2_copy_1 : decode cX2_copy 1 = .ok (.aload_n 1, 1) := by decide +kernel
theorem dX2_copy_2 : decode cX2_copy 2 = .ok (.getfield 63, 3) := by decide +kernel
theorem dX2_copy_5 : decode cX2_copy 5 = .ok (.putfield 63, 3) := by decide +kernel
theorem dX2_copy_8 : decode cX2_copy 8 = .ok (.aload_n 0, 1) := by decide +kernel
theorem dX2_copy_9 : decode cX2_copy 9 = .ok (.aload_n 1, 1) := by decide +kernel
theorem dX2_copy_10 : decode cX2_copy 10 = .ok (.getfield 43, 3) := by decide +kernel
theorem dX2_copy_13 : decode cX2_copy 13 = .ok (.putfield 43, 3) := by decide +kernel
theorem dX2_copy_16 : decode cX2_copy 16 = .ok (.iconst 0, 1) := by decide +kernel
theorem dX2_copy_17 : decode cX2_copy 17 = .ok (.istore_n 2, 1) := by decide +kernel
theorem dX2_copy_18 : decode cX2_copy 18 = .ok (.iload_n 2, 1) := by decide +kernel
theorem dX2_copy_19 : decode cX2_copy 19 = .ok (.bipush 16, 2) := by decide +kernel
theorem dX2_copy_21 : decode cX2_copy 21 = .ok (.if_icmp .ge 24, 3) := by decide +kernel
theorem dX2_copy_24 : decode cX2_copy 24 = .ok (.aload_n 0, 1) := by decide +kernel
theorem dX2_copy_25 : decode cX2_copy 25 = .ok (.getfield 11, 3) := by decide +kernel
theorem dX2_copy_28 : decode cX2_copy 28 = .ok (.iload_n 2, 1) := by decide +kernel
theorem dX2_copy_29 : decode cX2_copy 29 = .ok (.aaload, 1) := by decide +kernel
theorem dX2_copy_30 : decode cX2_copy 30 = .ok (.aload_n 1, 1) := by decide +kernel
theorem dX2_copy_31 : decode cX2_copy 31 = .ok (.getfield 11, 3) := by decide +kernel
theorem dX2_copy_34 : decode cX2_copy 34 = .ok (.iload_n 2, 1) := by decide +kernel
theorem dX2_copy_35 : decode cX2_copy 35 = .ok (.aaload, 1) := by decide +kernel
theorem dX2_copy_36 : decode cX2_copy 36 = .ok (.invokevirtual 66, 3) := by decide +kernel
theorem dX2_copy_39 : decode cX2_copy 39 = .ok (.iinc 2 1, 3) := by decide +kernel
theorem dX2_copy_42 : decode cX2_copy 42 = .ok (.goto (-24), 3) := by decide +kernel
theorem dX2_copy_45 : decode cX2_copy 45 = .ok (.aload_n 1, 1) := by decide +kernel
theorem dX2_copy_46 : decode cX2_copy 46 = .ok (.getfield 18, 3) := by decide +kernel
theorem dX2_copy_49 : decode cX2_copy 49 = .ok (.iconst 0, 1) := by decide +kernel
theorem dX2_copy_50 : decode cX2_copy 50 = .ok (.aload_n 0, 1) := by decide +kernel
theorem dX2_copy_51 : decode cX2_copy 51 = .ok (.getfield 18, 3) := by decide +kernel
theorem dX2_copy_54 : decode cX2_copy 54 = .ok (.iconst 0, 1) := by decide +kernel
theorem dX2_copy_55 : decode cX2_copy 55 = .ok (.bipush 96, 2) := by decide +kernel
theorem dX2_copy_57 : decode cX2_copy 57 = .ok (.invokestatic 70, 3) := by decide +kernel
theorem dX2_copy_60 : decode cX2_copy 60 = .ok (.return_, 1) := by decide +kernel
theorem dX2_clear_0 : decode cX2_clear 0 = .ok (.aload_n 0, 1) := by decide +kernel
theorem dX2_clear_1 : decode cX2_clear 1 = .ok (.iconst 0, 1) := by decide +kernel
theorem dX2_clear_2 : decode cX2_clear 2 = .ok (.putfield 63, 3) := by decide +kernel
theorem dX2_clear_5 : decode cX2_clear 5 = .ok (.aload_n 0, 1) := by decide +kernel
theorem dX2_clear_6 : decode cX2_clear 6 = .ok (.iconst 0, 1) := by decide +kernel
theorem dX2_clear_7 : decode cX2_clear 7 = .ok (.putfield 43, 3) := by decide +kernel
theorem dX2_clear_10 : decode cX2_clear 10 = .ok (.aload_n 0, 1) := by decide +kernel
theorem dX2_clear_11 : decode cX2_clear 11 = .ok (.getfield 11, 3) := by decide +kernel
theorem dX2_clear_14 : decode cX2_clear 14 = .ok (.astore_n 1, 1) := by decide +kernel
theorem dX2_clear_15 : decode cX2_clear 15 = .ok (.aload_n 1, 1) := by decide +kernel
theorem dX2_clear_16 : decode cX2_clear 16 = .ok (.arraylength, 1) := by decide +kernel
theorem dX2_clear_17 : decode cX2_clear 17 = .ok (.istore_n 2, 1) := by decide +kernel
theorem dX2_clear_18 : decode cX2_clear 18 = .ok (.iconst 0, 1) := by decide +kernel
theorem dX2_clear_19 : decode cX2_clear 19 = .ok (.istore_n 3, 1) := by decide +kernel
theorem dX2_clear_20 : decode cX2_clear 20 = .ok (.iload_n 3, 1) := by decide +kernel
theorem dX2_clear_21 : decode cX2_clear 21 = .ok (.iload_n 2, 1) := by decide +kernel
theorem dX2_clear_22 : decode cX2_clear 22 = .ok (.if_icmp .ge 19, 3) := by decide +kernel
theorem dX2_clear_25 : decode cX2_clear 25 = .ok (.aload_n 1, 1) := by decide +kernel
theorem dX2_clear_26 : decode cX2_clear 26 = .ok (.iload_n 3, 1) := by decide +kernel
theorem dX2_clear_27 : decode cX2_clear 27 = .ok (.aaload, 1) := by decide +kernel
theorem dX2_clear_28 : decode cX2_clear 28 = .ok (.astore 4, 2) := by decide +kernel
theorem dX2_clear_30 : decode cX2_clear 30 = .ok (.aload 4, 2) := by decide +kernel
theorem dX2_clear_32 : decode cX2_clear 32 = .ok (.invokevirtual 46, 3) := by decide +kernel
theorem dX2_clear_35 : decode cX2_clear 35 = .ok (.iinc 3 1, 3) := by decide +kernel
theorem dX2_clear_38 : decode cX2_clear 38 = .ok (.goto (-18), 3) := by decide +kernel
theorem dX2_clear_41 : decode cX2_clear 41 = .ok (.aload_n 0, 1) := by decide +kernel
theorem dX2_clear_42 : decode cX2_clear 42 = .ok (.getfield 18, 3) := by decide +kernel
theorem dX2_clear_45 : decode cX2_clear 45 = .ok (.iconst 0, 1) := by decide +kernel
theorem dX2_clear_46 : decode cX2_clear 46 = .ok (.invokestatic 76, 3) := by decide +kernel
theorem dX2_clear_49 : decode cX2_clear 49 = .ok (.return_, 1) := by decide +kernel
theorem dX3_init_0 : decode cX3_init 0 = .ok (.aload_n 0, 1) := by decide +kernel
theorem dX3_init_1 : decode cX3_init 1 = .ok (.invokespecial 3, 3) := by decide +kernel
theorem dX3_init_4 : decode cX3_init 4 = .ok (.aload_n 0, 1) := by decide +kernel
theorem dX3_init_5 : decode cX3_init 5 = .ok (.bipush 40, 2) := by decide +kernel
theorem dX3_init_7 : decode cX3_init 7 = .ok (.newarray .int, 2) := by decide +kernel
theorem dX3_init_9 : decode cX3_init 9 = .ok (.putfield 9, 3) := by decide +kernel
theorem dX3_init_12 : decode cX3_init 12 = .ok (.aload_n 0, 1) := by decide +kernel
theorem dX3_init_13 : decode cX3_init 13 = .ok (.getfield 9, 3) := by decide +kernel
theorem dX3_init_16 : decode cX3_init 16 = .ok (.iconst (-1), 1) := by decide +kernel
theorem dX3_init_17 : decode cX3_init 17 = .ok (.invokestatic 15, 3) := by decide +kernel
theorem dX3_init_20 : decode cX3_init 20 = .ok (.aload_n 0, 1) := by decide +kernel
theorem dX3_init_21 : decode cX3_init 21 = .ok (.iconst (-1), 1) := by decide +kernel
theorem dX3_init_22 : decode cX3_init 22 = .ok (.putfield 21, 3) := by decide +kernel
theorem dX3_init_25 : decode cX3_init 25 = .ok (.aload_n 0, 1) := by decide +kernel
theorem dX3_init_26 : decode cX3_init 26 = .ok (.iconst (-1), 1) := by decide +kernel
theorem dX3_init_27 : decode cX3_init 27 = .ok (.putfield 25, 3) := by decide +kernel
theorem dX3_init_30 : decode cX3_init 30 = .ok (.return_, 1) := by decide +kernel
theorem dX3_extentOf_0 : decode cX3_extentOf 0 = .ok (.iload_n 1, 1) := by decide +kernel
theorem dX3_extentOf_1 : decode cX3_extentOf 1 = .ok (.ifCond .lt 21, 3) := by decide +kernel
theorem dX3_extentOf_4 : decode cX3_extentOf 4 = .ok (.iload_n 1, 1) := by decide +kernel
theorem dX3_extentOf_5 : decode cX3_extentOf 5 = .ok (.aload_n 0, 1) := by decide +kernel
theorem dX3_extentOf_6 : decode cX3_extentOf 6 = .ok (.getfield 9, 3) := by decide +kernel
theorem dX3_extentOf_9 : decode cX3_extentOf 9 = .ok (.arraylength, 1) := by decide +kernel
theorem dX3_extentOf_10 : decode cX3_extentOf 10 = .ok (.if_icmp .ge 12, 3) := by decide +kernel
theorem dX3_extentOf_13 : decode cX3_extentOf 13 = .ok (.aload_n 0, 1) := by decide +kernel
theorem dX3_extentOf_14 : decode cX3_extentOf 14 = .ok (.getfield 9, 3) := by decide +kernel
theorem dX3_extentOf_17 : decode cX3_extentOf 17 = .ok (.iload_n 1, 1) := by decide +kernel
theorem dX3_extentOf_18 : decode cX3_extentOf 18 = .ok (.iaload, 1) := by decide +kernel
theorem dX3_extentOf_19 : decode cX3_extentOf 19 = .ok (.goto 4, 3) := by decide +kernel
theorem dX3_extentOf_22 : decode cX3_extentOf 22 = .ok (.iconst (-1), 1) := by decide +kernel
theorem dX3_extentOf_23 : decode cX3_extentOf 23 = .ok (.ireturn, 1) := by decide +kernel
theorem dX3_setExtent_0 : decode cX3_setExtent 0 = .ok (.iload_n 1, 1) := by decide +kernel
theorem dX3_setExtent_1 : decode cX3_setExtent 1 = .ok (.ifCond .lt 19, 3) := by decide +kernel
theorem dX3_setExtent_4 : decode cX3_setExtent 4 = .ok (.iload_n 1, 1) := by decide +kernel
theorem dX3_setExtent_5 : decode cX3_setExtent 5 = .ok (.aload_n 0, 1) := by decide +kernel
theorem dX3_setExtent_6 : decode cX3_setExtent 6 = .ok (.getfield 9, 3) := by decide +kernel
theorem dX3_setExtent_9 : decode cX3_setExtent 9 = .ok (.arraylength, 1) := by decide +kernel
theorem dX3_setExtent_10 : decode cX3_setExtent 10 = .ok (.if_icmp .ge 10, 3) := by decide +kernel
theorem dX3_setExtent_13 : decode cX3_setExtent 13 = .ok (.aload_n 0, 1) := by decide +kernel
theorem dX3_setExtent_14 : decode cX3_setExtent 14 = .ok (.getfield 9, 3) := by decide +kernel
theorem dX3_setExtent_17 : decode cX3_setExtent 17 = .ok (.iload_n 1, 1) := by decide +kernel
theorem dX3_setExtent_18 : decode cX3_setExtent 18 = .ok (.iload_n 2, 1) := by decide +kernel
theorem dX3_setExtent_19 : decode cX3_setExtent 19 = .ok (.iastore, 1) := by decide +kernel
theorem dX3_setExtent_20 : decode cX3_setExtent 20 = .ok (.return_, 1) := by decide +kernel
theorem dX3_lastMapped_0 : decode cX3_lastMapped 0 = .ok (.aload_n 0, 1) := by decide +kernel
theorem dX3_lastMapped_1 : decode cX3_lastMapped 1 = .ok (.getfield 9, 3) := by decide +kernel
theorem dX3_lastMapped_4 : decode cX3_lastMapped 4 = .ok (.arraylength, 1) := by decide +kernel
theorem dX3_lastMapped_5 : decode cX3_lastMapped 5 = .ok (.iconst 1, 1) := by decide +kernel
theorem dX3_lastMapped_6 : decode cX3_lastMapped 6 = .ok (.isub, 1) := by decide +kernel
theorem dX3_lastMapped_7 : decode cX3_lastMapped 7 = .ok (.istore_n 1, 1) := by decide +kernel
theorem dX3_lastMapped_8 : decode cX3_lastMapped 8 = .ok (.iload_n 1, 1) := by decide +kernel
theorem dX3_lastMapped_9 : decode cX3_lastMapped 9 = .ok (.ifCond .lt 21, 3) := by decide +kernel
theorem dX3_lastMapped_12 : decode cX3_lastMapped 12 = .ok (.aload_n 0, 1) := by decide +kernel
theorem dX3_lastMapped_13 : decode cX3_lastMapped 13 = .ok (.getfield 9, 3) := by decide +kernel
theorem dX3_lastMapped_16 : decode cX3_lastMapped 16 = .ok (.iload_n 1, 1) := by decide +kernel
theorem dX3_lastMapped_17 : decode cX3_lastMapped 17 = .ok (.iaload, 1) := by decide +kernel
theorem dX3_lastMapped_18 : decode cX3_lastMapped 18 = .ok (.iconst (-1), 1) := by decide +kernel
theorem dX3_lastMapped_19 : decode cX3_lastMapped 19 = .ok (.if_icmp .eq 5, 3) := by decide +kernel
theorem dX3_lastMapped_22 : decode cX3_lastMapped 22 = .ok (.iload_n 1, 1) := by decide +kernel
theorem dX3_lastMapped_23 : decode cX3_lastMapped 23 = .ok (.ireturn, 1) := by decide +kernel
theorem dX3_lastMapped_24 : decode cX3_lastMapped 24 = .ok (.iinc 1 (-1), 3) := by decide +kernel
theorem dX3_lastMapped_27 : decode cX3_lastMapped 27 = .ok (.goto (-19), 3) := by decide +kernel
theorem dX3_lastMapped_30 : decode cX3_lastMapped 30 = .ok (.iconst (-1), 1) := by decide +kernel
theorem dX3_lastMapped_31 : decode cX3_lastMapped 31 = .ok (.ireturn, 1) := by decide +kernel
theorem dX3_copy_0 : decode cX3_copy 0 = .ok (.aload_n 0, 1) := by decide +kernel
theorem dX3_copy_1 : decode cX3_copy 1 = .ok (.aload_n 1, 1) := by decide +kernel
theorem dX3_copy_2 : decode cX3_copy 2 = .ok (.getfield 28, 3) := by decide +kernel
theorem dX3_copy_5 : decode cX3_copy 5 = .ok (.putfield 28, 3) := by decide +kernel
theorem dX3_copy_8 : decode cX3_copy 8 = .ok (.aload_n 0, 1) := by decide +kernel
theorem dX3_copy_9 : decode cX3_copy 9 = .ok (.aload_n 1, 1) := by decide +kernel
theorem dX3_copy_10 : decode cX3_copy 10 = .ok (.getfield 32, 3) := by decide +kernel
theorem dX3_copy_13 : decode cX3_copy 13 = .ok (.putfield 32, 3) := by decide +kernel
theorem dX3_copy_16 : decode cX3_copy 16 = .ok (.aload_n 0, 1) := by decide +kernel
theorem dX3_copy_17 : decode cX3_copy 17 = .ok (.aload_n 1, 1) := by decide +kernel
theorem dX3_copy_18 : decode cX3_copy 18 = .ok (.getfield 35, 3) := by decide +kernel
theorem dX3_copy_21 : decode cX3_copy 21 = .ok (.putfield 35, 3) := by decide +kernel
theorem dX3_copy_24 : decode cX3_copy 24 = .ok (.aload_n 0, 1) := by decide +kernel
theorem dX3_copy_25 : decode cX3_copy 25 = .ok (.aload_n 1, 1) := by decide +kernel
theorem dX3_copy_26 : decode cX3_copy 26 = .ok (.getfield 21, 3) := by decide +kernel
theorem dX3_copy_29 : decode cX3_copy 29 = .ok (.putfield 21, 3) := by decide +kernel
theorem dX3_copy_32 : decode cX3_copy 32 = .ok (.aload_n 0, 1) := by decide +kernel
theorem dX3_copy_33 : decode cX3_copy 33 = .ok (.aload_n 1, 1) := by decide +kernel
theorem dX3_copy_34 : decode cX3_copy 34 = .ok (.getfield 25, 3) := by decide +kernel
theorem dX3_copy_37 : decode cX3_copy 37 = .ok (.putfield 25, 3) := by decide +kernel
theorem dX3_copy_40 : decode cX3_copy 40 = .ok (.aload_n 0, 1) := by decide +kernel
theorem dX3_copy_41 : decode cX3_copy 41 = .ok (.aload_n 1, 1) := by decide +kernel
theorem dX3_copy_42 : decode cX3_copy 42 = .ok (.getfield 38, 3) := by decide +kernel
theorem dX3_copy_45 : decode cX3_copy 45 = .ok (.putfield 38, 3) := by decide +kernel
theorem dX3_copy_48 : decode cX3_copy 48 = .ok (.aload_n 1, 1) := by decide +kernel
theorem dX3_copy_49 : decode cX3_copy 49 = .ok (.getfield 9, 3) := by decide +kernel
theorem dX3_copy_52 : decode cX3_copy 52 = .ok (.iconst 0, 1) := by decide +kernel
theorem dX3_copy_53 : decode cX3_copy 53 = .ok (.aload_n 0, 1) := by decide +kernel
theorem dX3_copy_54 : decode cX3_copy 54 = .ok (.getfield 9, 3) := by decide +kernel
theorem dX3_copy_57 : decode cX3_copy 57 = .ok (.iconst 0, 1) := by decide +kernel
theorem dX3_copy_58 : decode cX3_copy 58 = .ok (.bipush 40, 2) := by decide +kernel
theorem dX3_copy_60 : decode cX3_copy 60 = .ok (.invokestatic 41, 3) := by decide +kernel
theorem dX3_copy_63 : decode cX3_copy 63 = .ok (.return_, 1) := by decide +kernel
theorem dX3_clear_0 : decode cX3_clear 0 = .ok (.aload_n 0, 1) := by decide +kernel
theorem dX3_clear_1 : decode cX3_clear 1 = .ok (.iconst 0, 1) := by decide +kernel
theorem dX3_clear_2 : decode cX3_clear 2 = .ok (.putfield 28, 3) := by decide +kernel
theorem dX3_clear_5 : decode cX3_clear 5 = .ok (.aload_n 0, 1) := by decide +kernel
theorem dX3_clear_6 : decode cX3_clear 6 = .ok (.iconst 0, 1) := by decide +kernel
theorem dX3_clear_7 : decode cX3_clear 7 = .ok (.putfield 32, 3) := by decide +kernel
theorem dX3_clear_10 : decode cX3_clear 10 = .ok (.aload_n 0, 1) := by decide +kernel
theorem dX3_clear_11 : decode cX3_clear 11 = .ok (.iconst 0, 1) := by decide +kernel
theorem dX3_clear_12 : decode cX3_clear 12 = .ok (.putfield 38, 3) := by decide +kernel
theorem dX3_clear_15 : decode cX3_clear 15 = .ok (.aload_n 0, 1) := by decide +kernel
theorem dX3_clear_16 : decode cX3_clear 16 = .ok (.getfield 9, 3) := by decide +kernel
theorem dX3_clear_19 : decode cX3_clear 19 = .ok (.iconst (-1), 1) := by decide +kernel
theorem dX3_clear_20 : decode cX3_clear 20 = .ok (.invokestatic 15, 3) := by decide +kernel
theorem dX3_clear_23 : decode cX3_clear 23 = .ok (.return_, 1) := by decide +kernel
theorem dX4_init_0 : decode cX4_init 0 = .ok (.aload_n 0, 1) := by decide +kernel
theorem dX4_init_1 : decode cX4_init 1 = .ok (.invokespecial 1, 3) := by decide +kernel
theorem dX4_init_4 : decode cX4_init 4 = .ok (.aload_n 0, 1) := by decide +kernel
theorem dX4_init_5 : decode cX4_init 5 = .ok (.new 7, 3) := by decide +kernel
theorem dX4_init_8 : decode cX4_init 8 = .ok (.dup, 1) := by decide +kernel
theorem dX4_init_9 : decode cX4_init 9 = .ok (.invokespecial 9, 3) := by decide +kernel
theorem dX4_init_12 : decode cX4_init 12 = .ok (.putfield 10, 3) := by decide +kernel
theorem dX4_init_15 : decode cX4_init 15 = .ok (.aload_n 0, 1) := by decide +kernel
theorem dX4_init_16 : decode cX4_init 16 = .ok (.new 7, 3) := by decide +kernel
theorem dX4_init_19 : decode cX4_init 19 = .ok (.dup, 1) := by decide +kernel
theorem dX4_init_20 : decode cX4_init 20 = .ok (.invokespecial 9, 3) := by decide +kernel
theorem dX4_init_23 : decode cX4_init 23 = .ok (.putfield 16, 3) := by decide +kernel
theorem dX4_init_26 : decode cX4_init 26 = .ok (.aload_n 0, 1) := by decide +kernel
theorem dX4_init_27 : decode cX4_init 27 = .ok (.new 7, 3) := by decide +kernel
theorem dX4_init_30 : decode cX4_init 30 = .ok (.dup, 1) := by decide +kernel
theorem dX4_init_31 : decode cX4_init 31 = .ok (.invokespecial 9, 3) := by decide +kernel
theorem dX4_init_34 : decode cX4_init 34 = .ok (.putfield 19, 3) := by decide +kernel
theorem dX4_init_37 : decode cX4_init 37 = .ok (.aload_n 0, 1) := by decide +kernel
theorem dX4_init_38 : decode cX4_init 38 = .ok (.new 22, 3) := by decide +kernel
theorem dX4_init_41 : decode cX4_init 41 = .ok (.dup, 1) := by decide +kernel
theorem dX4_init_42 : decode cX4_init 42 = .ok (.aload_n 0, 1) := by decide +kernel
theorem dX4_init_43 : decode cX4_init 43 = .ok (.getfield 10, 3) := by decide +kernel
theorem dX4_init_46 : decode cX4_init 46 = .ok (.aload_n 0, 1) := by decide +kernel
theorem dX4_init_47 : decode cX4_init 47 = .ok (.getfield 16, 3) := by decide +kernel
theorem dX4_init_50 : decode cX4_init 50 = .ok (.aload_n 0, 1) := by decide +kernel
theorem dX4_init_51 : decode cX4_init 51 = .ok (.getfield 19, 3) := by decide +kernel
theorem dX4_init_54 : decode cX4_init 54 = .ok (.invokespecial 24, 3) := by decide +kernel
theorem dX4_init_57 : decode cX4_init 57 = .ok (.putfield 27, 3) := by decide +kernel
theorem dX4_init_60 : decode cX4_init 60 = .ok (.aload_n 0, 1) := by decide +kernel
theorem dX4_init_61 : decode cX4_init 61 = .ok (.new 31, 3) := by decide +kernel
theorem dX4_init_64 : decode cX4_init 64 = .ok (.dup, 1) := by decide +kernel
theorem dX4_init_65 : decode cX4_init 65 = .ok (.invokespecial 33, 3) := by decide +kernel
theorem dX4_init_68 : decode cX4_init 68 = .ok (.putfield 34, 3) := by decide +kernel
theorem dX4_init_71 : decode cX4_init 71 = .ok (.aload_n 0, 1) := by decide +kernel
theorem dX4_init_72 : decode cX4_init 72 = .ok (.sipush 160, 3) := by decide +kernel
theorem dX4_init_75 : decode cX4_init 75 = .ok (.newarray .int, 2) := by decide +kernel
theorem dX4_init_77 : decode cX4_init 77 = .ok (.putfield 38, 3) := by decide +kernel
theorem dX4_init_80 : decode cX4_init 80 = .ok (.return_, 1) := by decide +kernel
theorem dX4_make_0 : decode cX4_make 0 = .ok (.aload_n 0, 1) := by decide +kernel
theorem dX4_make_1 : decode cX4_make 1 = .ok (.iload_n 1, 1) := by decide +kernel
theorem dX4_make_2 : decode cX4_make 2 = .ok (.invokevirtual 42, 3) := by decide +kernel
theorem dX4_make_5 : decode cX4_make 5 = .ok (.astore 4, 2) := by decide +kernel
theorem dX4_make_7 : decode cX4_make 7 = .ok (.aload_n 0, 1) := by decide +kernel
theorem dX4_make_8 : decode cX4_make 8 = .ok (.iload_n 2, 1) := by decide +kernel
theorem dX4_make_9 : decode cX4_make 9 = .ok (.invokevirtual 46, 3) := by decide +kernel
theorem dX4_make_12 : decode cX4_make 12 = .ok (.aload 4, 2) := by decide +kernel
theorem dX4_make_14 : decode cX4_make 14 = .ok (.getfield 50, 3) := by decide +kernel
theorem dX4_make_17 : decode cX4_make 17 = .ok (.ifCond .eq 13, 3) := by decide +kernel
theorem dX4_make_20 : decode cX4_make 20 = .ok (.new 56, 3) := by decide +kernel
theorem dX4_make_23 : decode cX4_make 23 = .ok (.dup, 1) := by decide +kernel
theorem dX4_make_24 : decode cX4_make 24 = .ok (.ldc 58, 2) := by decide +kernel
theorem dX4_make_26 : decode cX4_make 26 = .ok (.invokespecial 60, 3) := by decide +kernel
theorem dX4_make_29 : decode cX4_make 29 = .ok (.athrow, 1) := by decide +kernel
theorem dX4_make_30 : decode cX4_make 30 = .ok (.aload_n 0, 1) := by decide +kernel
theorem dX4_make_31 : decode cX4_make 31 = .ok (.getfield 10, 3) := by decide +kernel
theorem dX4_make_34 : decode cX4_make 34 = .ok (.aload 4, 2) := by decide +kernel
theorem dX4_make_36 : decode cX4_make 36 = .ok (.iload_n 2, 1) := by decide +kernel
theorem dX4_make_37 : decode cX4_make 37 = .ok (.iload_n 3, 1) := by decide +kernel
theorem dX4_make_38 : decode cX4_make 38 = .ok (.iconst (-1), 1) := by decide +kernel
theorem dX4_make_39 : decode cX4_make 39 = .ok (.iconst (-1), 1) := by decide +kernel
theorem dX4_make_40 : decode cX4_make 40 = .ok (.invokevirtual 63, 3) := by decide +kernel
theorem dX4_make_43 : decode cX4_make 43 = .ok (.aload_n 0, 1) := by decide +kernel
theorem dX4_make_44 : decode cX4_make 44 = .ok (.getfield 10, 3) := by decide +kernel
theorem dX4_make_47 : decode cX4_make 47 = .ok (.getfield 67, 3) := by decide +kernel
theorem dX4_make_50 : decode cX4_make 50 = .ok (.ireturn, 1) := by decide +kernel
theorem dX4_snap_0 : decode cX4_snap 0 = .ok (.aload_n 0, 1) := by decide +kernel
theorem dX4_snap_1 : decode cX4_snap 1 = .ok (.iload_n 2, 1) := by decide +kernel
theorem dX4_snap_2 : decode cX4_snap 2 = .ok (.invokevirtual 42, 3) := by decide +kernel
theorem dX4_snap_5 : decode cX4_snap 5 = .ok (.astore_n 3, 1) := by decide +kernel
theorem dX4_snap_6 : decode cX4_snap 6 = .ok (.aload_n 0, 1) := by decide +kernel
theorem dX4_snap_7 : decode cX4_snap 7 = .ok (.iload_n 1, 1) := by decide +kernel
theorem dX4_snap_8 : decode cX4_snap 8 = .ok (.invokevirtual 71, 3) := by decide +kernel
theorem dX4_snap_11 : decode cX4_snap 11 = .ok (.astore 4, 2) := by decide +kernel
theorem dX4_snap_13 : decode cX4_snap 13 = .ok (.aload_n 3, 1) := by decide +kernel
theorem dX4_snap_14 : decode cX4_snap 14 = .ok (.getfield 50, 3) := by decide +kernel
theorem dX4_snap_17 : decode cX4_snap 17 = .ok (.ifCond .eq 13, 3) := by decide +kernel
theorem dX4_snap_20 : decode cX4_snap 20 = .ok (.new 56, 3) := by decide +kernel
theorem dX4_snap_23 : decode cX4_snap 23 = .ok (.dup, 1) := by decide +kernel
theorem dX4_snap_24 : decode cX4_snap 24 = .ok (.ldc 58, 2) := by decide +kernel
theorem dX4_snap_26 : decode cX4_snap 26 = .ok (.invokespecial 60, 3) := by decide +kernel
theorem dX4_snap_29 : decode cX4_snap 29 = .ok (.athrow, 1) := by decide +kernel
theorem dX4_snap_30 : decode cX4_snap 30 = .ok (.aload_n 0, 1) := by decide +kernel
theorem dX4_snap_31 : decode cX4_snap 31 = .ok (.getfield 10, 3) := by decide +kernel
theorem dX4_snap_34 : decode cX4_snap 34 = .ok (.aload_n 3, 1) := by decide +kernel
theorem dX4_snap_35 : decode cX4_snap 35 = .ok (.aload 4, 2) := by decide +kernel
theorem dX4_snap_37 : decode cX4_snap 37 = .ok (.getfield 74, 3) := by decide +kernel
theorem dX4_snap_40 : decode cX4_snap 40 = .ok (.aload 4, 2) := by decide +kernel
theorem dX4_snap_42 : decode cX4_snap 42 = .ok (.getfield 77, 3) := by decide +kernel
theorem dX4_snap_45 : decode cX4_snap 45 = .ok (.aload 4, 2) := by decide +kernel
theorem dX4_snap_47 : decode cX4_snap 47 = .ok (.getfield 80, 3) := by decide +kernel
theorem dX4_snap_50 : decode cX4_snap 50 = .ok (.iload_n 1, 1) := by decide +kernel
theorem dX4_snap_51 : decode cX4_snap 51 = .ok (.invokevirtual 63, 3) := by decide +kernel
theorem dX4_snap_54 : decode cX4_snap 54 = .ok (.iconst 0, 1) := by decide +kernel
theorem dX4_snap_55 : decode cX4_snap 55 = .ok (.istore 5, 2) := by decide +kernel
theorem dX4_snap_57 : decode cX4_snap 57 = .ok (.iload 5, 2) := by decide +kernel
theorem dX4_snap_59 : decode cX4_snap 59 = .ok (.bipush 40, 2) := by decide +kernel
theorem dX4_snap_61 : decode cX4_snap 61 = .ok (.if_icmp .ge 26, 3) := by decide +kernel
theorem dX4_snap_64 : decode cX4_snap 64 = .ok (.aload_n 0, 1) := by decide +kernel
theorem dX4_snap_65 : decode cX4_snap 65 = .ok (.getfield 10, 3) := by decide +kernel
theorem dX4_snap_68 : decode cX4_snap 68 = .ok (.aload_n 3, 1) := by decide +kernel
theorem dX4_snap_69 : decode cX4_snap 69 = .ok (.iload 5, 2) := by decide +kernel
theorem dX4_snap_71 : decode cX4_snap 71 = .ok (.aload 4, 2) := by decide +kernel
theorem dX4_snap_73 : decode cX4_snap 73 = .ok (.iload 5, 2) := by decide +kernel
theorem dX4_snap_75 : decode cX4_snap 75 = .ok (.invokevirtual 83, 3) := by decide +kernel
theorem dX4_snap_78 : decode cX4_snap 78 = .ok (.invokevirtual 87, 3) := by decide +kernel
theorem dX4_snap_81 : decode cX4_snap 81 = .ok (.iinc 5 1, 3) := by decide +kernel
theorem dX4_snap_84 : decode cX4_snap 84 = .ok (.goto (-27), 3) := by decide +kernel
theorem dX4_snap_87 : decode cX4_snap 87 = .ok (.aload_n 3, 1) := by decide +kernel
theorem dX4_snap_88 : decode cX4_snap 88 = .ok (.getfield 91, 3) := by decide +kernel
theorem dX4_snap_91 : decode cX4_snap 91 = .ok (.ireturn, 1) := by decide +kernel
theorem dX4_drop_0 : decode cX4_drop 0 = .ok (.aload_n 0, 1) := by decide +kernel
theorem dX4_drop_1 : decode cX4_drop 1 = .ok (.iload_n 1, 1) := by decide +kernel
theorem dX4_drop_2 : decode cX4_drop 2 = .ok (.invokevirtual 71, 3) := by decide +kernel
theorem dX4_drop_5 : decode cX4_drop 5 = .ok (.astore_n 2, 1) := by decide +kernel
theorem dX4_drop_6 : decode cX4_drop 6 = .ok (.aload_n 0, 1) := by decide +kernel
theorem dX4_drop_7 : decode cX4_drop 7 = .ok (.dup, 1) := by decide +kernel
theorem dX4_drop_8 : decode cX4_drop 8 = .ok (.getfield 94, 3) := by decide +kernel
theorem dX4_drop_11 : decode cX4_drop 11 = .ok (.aload_n 0, 1) := by decide +kernel
theorem dX4_drop_12 : decode cX4_drop 12 = .ok (.getfield 34, 3) := by decide +kernel
theorem dX4_drop_15 : decode cX4_drop 15 = .ok (.iload_n 1, 1) := by decide +kernel
theorem dX4_drop_16 : decode cX4_drop 16 = .ok (.invokevirtual 97, 3) := by decide +kernel
theorem dX4_drop_19 : decode cX4_drop 19 = .ok (.iadd, 1) := by decide +kernel
theorem dX4_drop_20 : decode cX4_drop 20 = .ok (.putfield 94, 3) := by decide +kernel
theorem dX4_drop_23 : decode cX4_drop 23 = .ok (.aload_n 0, 1) := by decide +kernel
theorem dX4_drop_24 : decode cX4_drop 24 = .ok (.getfield 10, 3) := by decide +kernel
theorem dX4_drop_27 : decode cX4_drop 27 = .ok (.aload_n 2, 1) := by decide +kernel
theorem dX4_drop_28 : decode cX4_drop 28 = .ok (.iconst 0, 1) := by decide +kernel
theorem dX4_drop_29 : decode cX4_drop 29 = .ok (.bipush 40, 2) := by decide +kernel
theorem dX4_drop_31 : decode cX4_drop 31 = .ok (.invokevirtual 100, 3) := by decide +kernel
theorem dX4_drop_34 : decode cX4_drop 34 = .ok (.istore_n 3, 1) := by decide +kernel
theorem dX4_drop_35 : decode cX4_drop 35 = .ok (.aload_n 0, 1) := by decide +kernel
theorem dX4_drop_36 : decode cX4_drop 36 = .ok (.getfield 10, 3) := by decide +kernel
theorem dX4_drop_39 : decode cX4_drop 39 = .ok (.aload_n 2, 1) := by decide +kernel
theorem dX4_drop_40 : decode cX4_drop 40 = .ok (.invokevirtual 104, 3) := by decide +kernel
theorem dX4_drop_43 : decode cX4_drop 43 = .ok (.aload_n 0, 1) := by decide +kernel
theorem dX4_drop_44 : decode cX4_drop 44 = .ok (.invokevirtual 108, 3) := by decide +kernel
theorem dX4_drop_47 : decode cX4_drop 47 = .ok (.iload_n 3, 1) := by decide +kernel
theorem dX4_drop_48 : decode cX4_drop 48 = .ok (.ireturn, 1) := by decide +kernel
theorem dX4_resize_0 : decode cX4_resize 0 = .ok (.aload_n 0, 1) := by decide +kernel
theorem dX4_resize_1 : decode cX4_resize 1 = .ok (.iload_n 1, 1) := by decide +kernel
theorem dX4_resize_2 : decode cX4_resize 2 = .ok (.invokevirtual 71, 3) := by decide +kernel
theorem dX4_resize_5 : decode cX4_resize 5 = .ok (.astore_n 3, 1) := by decide +kernel
theorem dX4_resize_6 : decode cX4_resize 6 = .ok (.aload_n 0, 1) := by decide +kernel
theorem dX4_resize_7 : decode cX4_resize 7 = .ok (.iload_n 2, 1) := by decide +kernel
theorem dX4_resize_8 : decode cX4_resize 8 = .ok (.invokevirtual 46, 3) := by decide +kernel
theorem dX4_resize_11 : decode cX4_resize 11 = .ok (.aload_n 0, 1) := by decide +kernel
theorem dX4_resize_12 : decode cX4_resize 12 = .ok (.iload_n 1, 1) := by decide +kernel
theorem dX4_resize_13 : decode cX4_resize 13 = .ok (.iload_n 2, 1) := by decide +kernel
theorem dX4_resize_14 : decode cX4_resize 14 = .ok (.bipush 40, 2) := by decide +kernel
theorem dX4_resize_16 : decode cX4_resize 16 = .ok (.invokevirtual 111, 3) := by decide +kernel
theorem dX4_resize_19 : decode cX4_resize 19 = .ok (.aload_n 0, 1) := by decide +kernel
theorem dX4_resize_20 : decode cX4_resize 20 = .ok (.getfield 10, 3) := by decide +kernel
theorem dX4_resize_23 : decode cX4_resize 23 = .ok (.aload_n 3, 1) := by decide +kernel
theorem dX4_resize_24 : decode cX4_resize 24 = .ok (.iload_n 2, 1) := by decide +kernel
theorem dX4_resize_25 : decode cX4_resize 25 = .ok (.bipush 40, 2) := by decide +kernel
theorem dX4_resize_27 : decode cX4_resize 27 = .ok (.invokevirtual 100, 3) := by decide +kernel
theorem dX4_resize_30 : decode cX4_resize 30 = .ok (.istore 4, 2) := by decide +kernel
theorem dX4_resize_32 : decode cX4_resize 32 = .ok (.aload_n 3, 1) := by decide +kernel
theorem dX4_resize_33 : decode cX4_resize 33 = .ok (.iload_n 2, 1) := by decide +kernel
theorem dX4_resize_34 : decode cX4_resize 34 = .ok (.putfield 74, 3) := by decide +kernel
theorem dX4_resize_37 : decode cX4_resize 37 = .ok (.aload_n 0, 1) := by decide +kernel
theorem dX4_resize_38 : decode cX4_resize 38 = .ok (.invokevirtual 108, 3) := by decide +kernel
theorem dX4_resize_41 : decode cX4_resize 41 = .ok (.iload 4, 2) := by decide +kernel
theorem dX4_resize_43 : decode cX4_resize 43 = .ok (.ireturn, 1) := by decide +kernel
theorem dX4_write_0 : decode cX4_write 0 = .ok (.aload_n 0, 1) := by decide +kernel
theorem dX4_write_1 : decode cX4_write 1 = .ok (.iload_n 1, 1) := by decide +kernel
theorem dX4_write_2 : decode cX4_write 2 = .ok (.invokevirtual 71, 3) := by decide +kernel
theorem dX4_write_5 : decode cX4_write 5 = .ok (.astore 4, 2) := by decide +kernel
theorem dX4_write_7 : decode cX4_write 7 = .ok (.aload_n 0, 1) := by decide +kernel
theorem dX4_write_8 : decode cX4_write 8 = .ok (.aload 4, 2) := by decide +kernel
theorem dX4_write_10 : decode cX4_write 10 = .ok (.iload_n 2, 1) := by decide +kernel
theorem dX4_write_11 : decode cX4_write 11 = .ok (.invokevirtual 115, 3) := by decide +kernel
theorem dX4_write_14 : decode cX4_write 14 = .ok (.iload_n 2, 1) := by decide +kernel
theorem dX4_write_15 : decode cX4_write 15 = .ok (.iconst 4, 1) := by decide +kernel
theorem dX4_write_16 : decode cX4_write 16 = .ok (.idiv, 1) := by decide +kernel
theorem dX4_write_17 : decode cX4_write 17 = .ok (.istore 5, 2) := by decide +kernel
theorem dX4_write_19 : decode cX4_write 19 = .ok (.aload_n 0, 1) := by decide +kernel
theorem dX4_write_20 : decode cX4_write 20 = .ok (.getfield 119, 3) := by decide +kernel
theorem dX4_write_23 : decode cX4_write 23 = .ok (.iconst 1, 1) := by decide +kernel
theorem dX4_write_24 : decode cX4_write 24 = .ok (.if_icmp .ne 28, 3) := by decide +kernel
theorem dX4_write_27 : decode cX4_write 27 = .ok (.aload_n 0, 1) := by decide +kernel
theorem dX4_write_28 : decode cX4_write 28 = .ok (.getfield 34, 3) := by decide +kernel
theorem dX4_write_31 : decode cX4_write 31 = .ok (.iload_n 1, 1) := by decide +kernel
theorem dX4_write_32 : decode cX4_write 32 = .ok (.iload 5, 2) := by decide +kernel
theorem dX4_write_34 : decode cX4_write 34 = .ok (.iload 5, 2) := by decide +kernel
theorem dX4_write_36 : decode cX4_write 36 = .ok (.iconst 1, 1) := by decide +kernel
theorem dX4_write_37 : decode cX4_write 37 = .ok (.iadd, 1) := by decide +kernel
theorem dX4_write_38 : decode cX4_write 38 = .ok (.invokevirtual 122, 3) := by decide +kernel
theorem dX4_write_41 : decode cX4_write 41 = .ok (.ifCond .eq 11, 3) := by decide +kernel
theorem dX4_write_44 : decode cX4_write 44 = .ok (.aload_n 0, 1) := by decide +kernel
theorem dX4_write_45 : decode cX4_write 45 = .ok (.iload_n 1, 1) := by decide +kernel
theorem dX4_write_46 : decode cX4_write 46 = .ok (.iload_n 2, 1) := by decide +kernel
theorem dX4_write_47 : decode cX4_write 47 = .ok (.iload_n 3, 1) := by decide +kernel
theorem dX4_write_48 : decode cX4_write 48 = .ok (.invokevirtual 126, 3) := by decide +kernel
theorem dX4_write_51 : decode cX4_write 51 = .ok (.ireturn, 1) := by decide +kernel
theorem dX4_write_52 : decode cX4_write 52 = .ok (.aload_n 0, 1) := by decide +kernel
theorem dX4_write_53 : decode cX4_write 53 = .ok (.aload 4, 2) := by decide +kernel
theorem dX4_write_55 : decode cX4_write 55 = .ok (.iload 5, 2) := by decide +kernel
theorem dX4_write_57 : decode cX4_write 57 = .ok (.invokevirtual 130, 3) := by decide +kernel
theorem dX4_write_60 : decode cX4_write 60 = .ok (.ifCond .ne 12, 3) := by decide +kernel
theorem dX4_write_63 : decode cX4_write 63 = .ok (.aload_n 0, 1) := by decide +kernel
theorem dX4_write_64 : decode cX4_write 64 = .ok (.aload 4, 2) := by decide +kernel
theorem dX4_write_66 : decode cX4_write 66 = .ok (.iload_n 2, 1) := by decide +kernel
theorem dX4_write_67 : decode cX4_write 67 = .ok (.iload_n 3, 1) := by decide +kernel
theorem dX4_write_68 : decode cX4_write 68 = .ok (.invokevirtual 134, 3) := by decide +kernel
theorem dX4_write_71 : decode cX4_write 71 = .ok (.ireturn, 1) := by decide +kernel
theorem dX4_write_72 : decode cX4_write 72 = .ok (.aload_n 0, 1) := by decide +kernel
theorem dX4_write_73 : decode cX4_write 73 = .ok (.aload 4, 2) := by decide +kernel
theorem dX4_write_75 : decode cX4_write 75 = .ok (.iload 5, 2) := by decide +kernel
theorem dX4_write_77 : decode cX4_write 77 = .ok (.invokevirtual 137, 3) := by decide +kernel
theorem dX4_write_80 : decode cX4_write 80 = .ok (.ifCond .eq 5, 3) := by decide +kernel
theorem dX4_write_83 : decode cX4_write 83 = .ok (.iconst (-1), 1) := by decide +kernel
theorem dX4_write_84 : decode cX4_write 84 = .ok (.ireturn, 1) := by decide +kernel
theorem dX4_write_85 : decode cX4_write 85 = .ok (.aload_n 0, 1) := by decide +kernel
theorem dX4_write_86 : decode cX4_write 86 = .ok (.aload 4, 2) := by decide +kernel
theorem dX4_write_88 : decode cX4_write 88 = .ok (.iload_n 1, 1) := by decide +kernel
theorem dX4_write_89 : decode cX4_write 89 = .ok (.iload_n 2, 1) := by decide +kernel
theorem dX4_write_90 : decode cX4_write 90 = .ok (.iload_n 3, 1) := by decide +kernel
theorem dX4_write_91 : decode cX4_write 91 = .ok (.invokevirtual 140, 3) := by decide +kernel
theorem dX4_write_94 : decode cX4_write 94 = .ok (.ireturn, 1) := by decide +kernel
theorem dX4_read_0 : decode cX4_read 0 = .ok (.aload_n 0, 1) := by decide +kernel
theorem dX4_read_1 : decode cX4_read 1 = .ok (.iload_n 1, 1) := by decide +kernel
theorem dX4_read_2 : decode cX4_read 2 = .ok (.invokevirtual 71, 3) := by decide +kernel
theorem dX4_read_5 : decode cX4_read 5 = .ok (.astore_n 3, 1) := by decide +kernel
theorem dX4_read_6 : decode cX4_read 6 = .ok (.aload_n 0, 1) := by decide +kernel
theorem dX4_read_7 : decode cX4_read 7 = .ok (.aload_n 3, 1) := by decide +kernel
theorem dX4_read_8 : decode cX4_read 8 = .ok (.iload_n 2, 1) := by decide +kernel
theorem dX4_read_9 : decode cX4_read 9 = .ok (.invokevirtual 115, 3) := by decide +kernel
theorem dX4_read_12 : decode cX4_read 12 = .ok (.aload_n 0, 1) := by decide +kernel
theorem dX4_read_13 : decode cX4_read 13 = .ok (.aload_n 3, 1) := by decide +kernel
theorem dX4_read_14 : decode cX4_read 14 = .ok (.iload_n 2, 1) := by decide +kernel
theorem dX4_read_15 : decode cX4_read 15 = .ok (.invokevirtual 144, 3) := by decide +kernel
theorem dX4_read_18 : decode cX4_read 18 = .ok (.ireturn, 1) := by decide +kernel
theorem dX4_discard_0 : decode cX4_discard 0 = .ok (.aload_n 0, 1) := by decide +kernel
theorem dX4_discard_1 : decode cX4_discard 1 = .ok (.iload_n 1, 1) := by decide +kernel
theorem dX4_discard_2 : decode cX4_discard 2 = .ok (.invokevirtual 71, 3) := by decide +kernel
theorem dX4_discard_5 : decode cX4_discard 5 = .ok (.astore 4, 2) := by decide +kernel
theorem dX4_discard_7 : decode cX4_discard 7 = .ok (.iload_n 2, 1) := by decide +kernel
theorem dX4_discard_8 : decode cX4_discard 8 = .ok (.ifCond .lt 27, 3) := by decide +kernel
theorem dX4_discard_11 : decode cX4_discard 11 = .ok (.iload_n 3, 1) := by decide +kernel
theorem dX4_discard_12 : decode cX4_discard 12 = .ok (.ifCond .lt 23, 3) := by decide +kernel
theorem dX4_discard_15 : decode cX4_discard 15 = .ok (.iload_n 2, 1) := by decide +kernel
theorem dX4_discard_16 : decode cX4_discard 16 = .ok (.aload 4, 2) := by decide +kernel
theorem dX4_discard_18 : decode cX4_discard 18 = .ok (.getfield 74, 3) := by decide +kernel
theorem dX4_discard_21 : decode cX4_discard 21 = .ok (.if_icmp .gt 14, 3) := by decide +kernel
theorem dX4_discard_24 : decode cX4_discard 24 = .ok (.iload_n 3, 1) := by decide +kernel
theorem dX4_discard_25 : decode cX4_discard 25 = .ok (.aload 4, 2) := by decide +kernel
theorem dX4_discard_27 : decode cX4_discard 27 = .ok (.getfield 74, 3) := by decide +kernel
theorem dX4_discard_30 : decode cX4_discard 30 = .ok (.iload_n 2, 1) := by decide +kernel
theorem dX4_discard_31 : decode cX4_discard 31 = .ok (.isub, 1) := by decide +kernel
theorem dX4_discard_32 : decode cX4_discard 32 = .ok (.if_icmp .le 13, 3) := by decide +kernel
theorem dX4_discard_35 : decode cX4_discard 35 = .ok (.new 148, 3) := by decide +kernel
theorem dX4_discard_38 : decode cX4_discard 38 = .ok (.dup, 1) := by decide +kernel
theorem dX4_discard_39 : decode cX4_discard 39 = .ok (.ldc 150, 2) := by decide +kernel
theorem dX4_discard_41 : decode cX4_discard 41 = .ok (.invokespecial 152, 3) := by decide +kernel
theorem dX4_discard_44 : decode cX4_discard 44 = .ok (.athrow, 1) := by decide +kernel
theorem dX4_discard_45 : decode cX4_discard 45 = .ok (.aload_n 0, 1) := by decide +kernel
theorem dX4_discard_46 : decode cX4_discard 46 = .ok (.iload_n 1, 1) := by decide +kernel
theorem dX4_discard_47 : decode cX4_discard 47 = .ok (.iload_n 2, 1) := by decide +kernel
theorem dX4_discard_48 : decode cX4_discard 48 = .ok (.iload_n 2, 1) := by decide +kernel
theorem dX4_discard_49 : decode cX4_discard 49 = .ok (.iload_n 3, 1) := by decide +kernel
theorem dX4_discard_50 : decode cX4_discard 50 = .ok (.iadd, 1) := by decide +kernel
theorem dX4_discard_51 : decode cX4_discard 51 = .ok (.invokevirtual 111, 3) := by decide +kernel
theorem dX4_discard_54 : decode cX4_discard 54 = .ok (.aload_n 0, 1) := by decide +kernel
theorem dX4_discard_55 : decode cX4_discard 55 = .ok (.getfield 10, 3) := by decide +kernel
theorem dX4_discard_58 : decode cX4_discard 58 = .ok (.aload 4, 2) := by decide +kernel
theorem dX4_discard_60 : decode cX4_discard 60 = .ok (.iload_n 2, 1) := by decide +kernel
theorem dX4_discard_61 : decode cX4_discard 61 = .ok (.iload_n 2, 1) := by decide +kernel
theorem dX4_discard_62 : decode cX4_discard 62 = .ok (.iload_n 3, 1) := by decide +kernel
theorem dX4_discard_63 : decode cX4_discard 63 = .ok (.iadd, 1) := by decide +kernel
theorem dX4_discard_64 : decode cX4_discard 64 = .ok (.invokevirtual 100, 3) := by decide +kernel
theorem dX4_discard_67 : decode cX4_discard 67 = .ok (.istore 5, 2) := by decide +kernel
theorem dX4_discard_69 : decode cX4_discard 69 = .ok (.aload_n 0, 1) := by decide +kernel
theorem dX4_discard_70 : decode cX4_discard 70 = .ok (.invokevirtual 108, 3) := by decide +kernel
theorem dX4_discard_73 : decode cX4_discard 73 = .ok (.iload 5, 2) := by decide +kernel
theorem dX4_discard_75 : decode cX4_discard 75 = .ok (.ireturn, 1) := by decide +kernel
theorem dX4_grow_0 : decode cX4_grow 0 = .ok (.aload_n 0, 1) := by decide +kernel
theorem dX4_grow_1 : decode cX4_grow 1 = .ok (.iload_n 1, 1) := by decide +kernel
theorem dX4_grow_2 : decode cX4_grow 2 = .ok (.invokevirtual 153, 3) := by decide +kernel
theorem dX4_grow_5 : decode cX4_grow 5 = .ok (.iload_n 1, 1) := by decide +kernel
theorem dX4_grow_6 : decode cX4_grow 6 = .ok (.bipush 96, 2) := by decide +kernel
theorem dX4_grow_8 : decode cX4_grow 8 = .ok (.aload_n 0, 1) := by decide +kernel
theorem dX4_grow_9 : decode cX4_grow 9 = .ok (.getfield 27, 3) := by decide +kernel
theorem dX4_grow_12 : decode cX4_grow 12 = .ok (.getfield 156, 3) := by decide +kernel
theorem dX4_grow_15 : decode cX4_grow 15 = .ok (.isub, 1) := by decide +kernel
theorem dX4_grow_16 : decode cX4_grow 16 = .ok (.if_icmp .le 5, 3) := by decide +kernel
theorem dX4_grow_19 : decode cX4_grow 19 = .ok (.iconst (-1), 1) := by decide +kernel
theorem dX4_grow_20 : decode cX4_grow 20 = .ok (.ireturn, 1) := by decide +kernel
theorem dX4_grow_21 : decode cX4_grow 21 = .ok (.aload_n 0, 1) := by decide +kernel
theorem dX4_grow_22 : decode cX4_grow 22 = .ok (.getfield 27, 3) := by decide +kernel
theorem dX4_grow_25 : decode cX4_grow 25 = .ok (.dup, 1) := by decide +kernel
theorem dX4_grow_26 : decode cX4_grow 26 = .ok (.getfield 156, 3) := by decide +kernel
theorem dX4_grow_29 : decode cX4_grow 29 = .ok (.iload_n 1, 1) := by decide +kernel
theorem dX4_grow_30 : decode cX4_grow 30 = .ok (.iadd, 1) := by decide +kernel
theorem dX4_grow_31 : decode cX4_grow 31 = .ok (.putfield 156, 3) := by decide +kernel
theorem dX4_grow_34 : decode cX4_grow 34 = .ok (.aload_n 0, 1) := by decide +kernel
theorem dX4_grow_35 : decode cX4_grow 35 = .ok (.invokevirtual 108, 3) := by decide +kernel
theorem dX4_grow_38 : decode cX4_grow 38 = .ok (.aload_n 0, 1) := by decide +kernel
theorem dX4_grow_39 : decode cX4_grow 39 = .ok (.getfield 27, 3) := by decide +kernel
theorem dX4_grow_42 : decode cX4_grow 42 = .ok (.getfield 156, 3) := by decide +kernel
theorem dX4_grow_45 : decode cX4_grow 45 = .ok (.ireturn, 1) := by decide +kernel
theorem dX4_shrink_0 : decode cX4_shrink 0 = .ok (.aload_n 0, 1) := by decide +kernel
theorem dX4_shrink_1 : decode cX4_shrink 1 = .ok (.iload_n 1, 1) := by decide +kernel
theorem dX4_shrink_2 : decode cX4_shrink 2 = .ok (.invokevirtual 153, 3) := by decide +kernel
theorem dX4_shrink_5 : decode cX4_shrink 5 = .ok (.iload_n 1, 1) := by decide +kernel
theorem dX4_shrink_6 : decode cX4_shrink 6 = .ok (.aload_n 0, 1) := by decide +kernel
theorem dX4_shrink_7 : decode cX4_shrink 7 = .ok (.getfield 27, 3) := by decide +kernel
theorem dX4_shrink_10 : decode cX4_shrink 10 = .ok (.getfield 156, 3) := by decide +kernel
theorem dX4_shrink_13 : decode cX4_shrink 13 = .ok (.if_icmp .ge 29, 3) := by decide +kernel
theorem dX4_shrink_16 : decode cX4_shrink 16 = .ok (.aload_n 0, 1) := by decide +kernel
theorem dX4_shrink_17 : decode cX4_shrink 17 = .ok (.getfield 27, 3) := by decide +kernel
theorem dX4_shrink_20 : decode cX4_shrink 20 = .ok (.aload_n 0, 1) := by decide +kernel
theorem dX4_shrink_21 : decode cX4_shrink 21 = .ok (.getfield 27, 3) := by decide +kernel
theorem dX4_shrink_24 : decode cX4_shrink 24 = .ok (.getfield 156, 3) := by decide +kernel
theorem dX4_shrink_27 : decode cX4_shrink 27 = .ok (.iload_n 1, 1) := by decide +kernel
theorem dX4_shrink_28 : decode cX4_shrink 28 = .ok (.isub, 1) := by decide +kernel
theorem dX4_shrink_29 : decode cX4_shrink 29 = .ok (.aload_n 0, 1) := by decide +kernel
theorem dX4_shrink_30 : decode cX4_shrink 30 = .ok (.getfield 27, 3) := by decide +kernel
theorem dX4_shrink_33 : decode cX4_shrink 33 = .ok (.getfield 156, 3) := by decide +kernel
theorem dX4_shrink_36 : decode cX4_shrink 36 = .ok (.invokevirtual 157, 3) := by decide +kernel
theorem dX4_shrink_39 : decode cX4_shrink 39 = .ok (.ifCond .ne 5, 3) := by decide +kernel
theorem dX4_shrink_42 : decode cX4_shrink 42 = .ok (.iconst (-1), 1) := by decide +kernel
theorem dX4_shrink_43 : decode cX4_shrink 43 = .ok (.ireturn, 1) := by decide +kernel
theorem dX4_shrink_44 : decode cX4_shrink 44 = .ok (.aload_n 0, 1) := by decide +kernel
theorem dX4_shrink_45 : decode cX4_shrink 45 = .ok (.getfield 27, 3) := by decide +kernel
theorem dX4_shrink_48 : decode cX4_shrink 48 = .ok (.dup, 1) := by decide +kernel
theorem dX4_shrink_49 : decode cX4_shrink 49 = .ok (.getfield 156, 3) := by decide +kernel
theorem dX4_shrink_52 : decode cX4_shrink 52 = .ok (.iload_n 1, 1) := by decide +kernel
theorem dX4_shrink_53 : decode cX4_shrink 53 = .ok (.isub, 1) := by decide +kernel
theorem dX4_shrink_54 : decode cX4_shrink 54 = .ok (.putfield 156, 3) := by decide +kernel
theorem dX4_shrink_57 : decode cX4_shrink 57 = .ok (.aload_n 0, 1) := by decide +kernel
theorem dX4_shrink_58 : decode cX4_shrink 58 = .ok (.getfield 27, 3) := by decide +kernel
theorem dX4_shrink_61 : decode cX4_shrink 61 = .ok (.getfield 161, 3) := by decide +kernel
theorem dX4_shrink_64 : decode cX4_shrink 64 = .ok (.aload_n 0, 1) := by decide +kernel
theorem dX4_shrink_65 : decode cX4_shrink 65 = .ok (.getfield 27, 3) := by decide +kernel
theorem dX4_shrink_68 : decode cX4_shrink 68 = .ok (.getfield 156, 3) := by decide +kernel
theorem dX4_shrink_71 : decode cX4_shrink 71 = .ok (.if_icmp .lt 11, 3) := by decide +kernel
theorem dX4_shrink_74 : decode cX4_shrink 74 = .ok (.aload_n 0, 1) := by decide +kernel
theorem dX4_shrink_75 : decode cX4_shrink 75 = .ok (.getfield 27, 3) := by decide +kernel
theorem dX4_shrink_78 : decode cX4_shrink 78 = .ok (.iconst 0, 1) := by decide +kernel
theorem dX4_shrink_79 : decode cX4_shrink 79 = .ok (.putfield 161, 3) := by decide +kernel
theorem dX4_shrink_82 : decode cX4_shrink 82 = .ok (.aload_n 0, 1) := by decide +kernel
theorem dX4_shrink_83 : decode cX4_shrink 83 = .ok (.getfield 27, 3) := by decide +kernel
theorem dX4_shrink_86 : decode cX4_shrink 86 = .ok (.getfield 156, 3) := by decide +kernel
theorem dX4_shrink_89 : decode cX4_shrink 89 = .ok (.ireturn, 1) := by decide +kernel
theorem dX4_back_0 : decode cX4_back 0 = .ok (.iload_n 1, 1) := by decide +kernel
theorem dX4_back_1 : decode cX4_back 1 = .ok (.ifCond .lt 12, 3) := by decide +kernel
theorem dX4_back_4 : decode cX4_back 4 = .ok (.iload_n 1, 1) := by decide +kernel
theorem dX4_back_5 : decode cX4_back 5 = .ok (.aload_n 0, 1) := by decide +kernel
theorem dX4_back_6 : decode cX4_back 6 = .ok (.getfield 38, 3) := by decide +kernel
theorem dX4_back_9 : decode cX4_back 9 = .ok (.arraylength, 1) := by decide +kernel
theorem dX4_back_10 : decode cX4_back 10 = .ok (.if_icmp .lt 13, 3) := by decide +kernel
theorem dX4_back_13 : decode cX4_back 13 = .ok (.new 148, 3) := by decide +kernel
theorem dX4_back_16 : decode cX4_back 16 = .ok (.dup, 1) := by decide +kernel
theorem dX4_back_17 : decode cX4_back 17 = .ok (.ldc 164, 2) := by decide +kernel
theorem dX4_back_19 : decode cX4_back 19 = .ok (.invokespecial 152, 3) := by decide +kernel
theorem dX4_back_22 : decode cX4_back 22 = .ok (.athrow, 1) := by decide +kernel
theorem dX4_back_23 : decode cX4_back 23 = .ok (.aload_n 0, 1) := by decide +kernel
theorem dX4_back_24 : decode cX4_back 24 = .ok (.getfield 10, 3) := by decide +kernel
theorem dX4_back_27 : decode cX4_back 27 = .ok (.invokevirtual 166, 3) := by decide +kernel
theorem dX4_back_30 : decode cX4_back 30 = .ok (.ifCond .ne 23, 3) := by decide +kernel
theorem dX4_back_33 : decode cX4_back 33 = .ok (.aload_n 0, 1) := by decide +kernel
theorem dX4_back_34 : decode cX4_back 34 = .ok (.getfield 16, 3) := by decide +kernel
theorem dX4_back_37 : decode cX4_back 37 = .ok (.invokevirtual 166, 3) := by decide +kernel
theorem dX4_back_40 : decode cX4_back 40 = .ok (.ifCond .ne 13, 3) := by decide +kernel
theorem dX4_back_43 : decode cX4_back 43 = .ok (.aload_n 0, 1) := by decide +kernel
theorem dX4_back_44 : decode cX4_back 44 = .ok (.getfield 19, 3) := by decide +kernel
theorem dX4_back_47 : decode cX4_back 47 = .ok (.invokevirtual 166, 3) := by decide +kernel
theorem dX4_back_50 : decode cX4_back 50 = .ok (.ifCond .eq 13, 3) := by decide +kernel
theorem dX4_back_53 : decode cX4_back 53 = .ok (.new 56, 3) := by decide +kernel
theorem dX4_back_56 : decode cX4_back 56 = .ok (.dup, 1) := by decide +kernel
theorem dX4_back_57 : decode cX4_back 57 = .ok (.ldc 170, 2) := by decide +kernel
theorem dX4_back_59 : decode cX4_back 59 = .ok (.invokespecial 60, 3) := by decide +kernel
theorem dX4_back_62 : decode cX4_back 62 = .ok (.athrow, 1) := by decide +kernel
theorem dX4_back_63 : decode cX4_back 63 = .ok (.aload_n 0, 1) := by decide +kernel
theorem dX4_back_64 : decode cX4_back 64 = .ok (.getfield 38, 3) := by decide +kernel
theorem dX4_back_67 : decode cX4_back 67 = .ok (.iload_n 1, 1) := by decide +kernel
theorem dX4_back_68 : decode cX4_back 68 = .ok (.iaload, 1) := by decide +kernel
theorem dX4_back_69 : decode cX4_back 69 = .ok (.istore_n 3, 1) := by decide +kernel
theorem dX4_back_70 : decode cX4_back 70 = .ok (.aload_n 0, 1) := by decide +kernel
theorem dX4_back_71 : decode cX4_back 71 = .ok (.getfield 38, 3) := by decide +kernel
theorem dX4_back_74 : decode cX4_back 74 = .ok (.iload_n 1, 1) := by decide +kernel
theorem dX4_back_75 : decode cX4_back 75 = .ok (.iload_n 2, 1) := by decide +kernel
theorem dX4_back_76 : decode cX4_back 76 = .ok (.iastore, 1) := by decide +kernel
theorem dX4_back_77 : decode cX4_back 77 = .ok (.iload_n 3, 1) := by decide +kernel
theorem dX4_back_78 : decode cX4_back 78 = .ok (.ireturn, 1) := by decide +kernel
theorem dX4_quota_0 : decode cX4_quota 0 = .ok (.aload_n 0, 1) := by decide +kernel
theorem dX4_quota_1 : decode cX4_quota 1 = .ok (.iload_n 1, 1) := by decide +kernel
theorem dX4_quota_2 : decode cX4_quota 2 = .ok (.invokevirtual 71, 3) := by decide +kernel
theorem dX4_quota_5 : decode cX4_quota 5 = .ok (.astore_n 3, 1) := by decide +kernel
theorem dX4_quota_6 : decode cX4_quota 6 = .ok (.iload_n 2, 1) := by decide +kernel
theorem dX4_quota_7 : decode cX4_quota 7 = .ok (.iconst (-1), 1) := by decide +kernel
theorem dX4_quota_8 : decode cX4_quota 8 = .ok (.if_icmp .lt 9, 3) := by decide +kernel
theorem dX4_quota_11 : decode cX4_quota 11 = .ok (.iload_n 2, 1) := by decide +kernel
theorem dX4_quota_12 : decode cX4_quota 12 = .ok (.bipush 40, 2) := by decide +kernel
theorem dX4_quota_14 : decode cX4_quota 14 = .ok (.if_icmp .le 13, 3) := by decide +kernel
theorem dX4_quota_17 : decode cX4_quota 17 = .ok (.new 172, 3) := by decide +kernel
theorem dX4_quota_20 : decode cX4_quota 20 = .ok (.dup, 1) := by decide +kernel
theorem dX4_quota_21 : decode cX4_quota 21 = .ok (.ldc 174, 2) := by decide +kernel
theorem dX4_quota_23 : decode cX4_quota 23 = .ok (.invokespecial 176, 3) := by decide +kernel
theorem dX4_quota_26 : decode cX4_quota 26 = .ok (.athrow, 1) := by decide +kernel
theorem dX4_quota_27 : decode cX4_quota 27 = .ok (.aload_n 3, 1) := by decide +kernel
theorem dX4_quota_28 : decode cX4_quota 28 = .ok (.getfield 80, 3) := by decide +kernel
theorem dX4_quota_31 : decode cX4_quota 31 = .ok (.istore 4, 2) := by decide +kernel
theorem dX4_quota_33 : decode cX4_quota 33 = .ok (.aload_n 3, 1) := by decide +kernel
theorem dX4_quota_34 : decode cX4_quota 34 = .ok (.iload_n 2, 1) := by decide +kernel
theorem dX4_quota_35 : decode cX4_quota 35 = .ok (.putfield 80, 3) := by decide +kernel
theorem dX4_quota_38 : decode cX4_quota 38 = .ok (.aload_n 0, 1) := by decide +kernel
theorem dX4_quota_39 : decode cX4_quota 39 = .ok (.invokevirtual 108, 3) := by decide +kernel
theorem dX4_quota_42 : decode cX4_quota 42 = .ok (.iload 4, 2) := by decide +kernel
theorem dX4_quota_44 : decode cX4_quota 44 = .ok (.ireturn, 1) := by decide +kernel
theorem dX4_mark_0 : decode cX4_mark 0 = .ok (.aload_n 0, 1) := by decide +kernel
theorem dX4_mark_1 : decode cX4_mark 1 = .ok (.getfield 10, 3) := by decide +kernel
theorem dX4_mark_4 : decode cX4_mark 4 = .ok (.getfield 177, 3) := by decide +kernel
theorem dX4_mark_7 : decode cX4_mark 7 = .ok (.iload_n 1, 1) := by decide +kernel
theorem dX4_mark_8 : decode cX4_mark 8 = .ok (.if_icmp .eq 5, 3) := by decide +kernel
theorem dX4_mark_11 : decode cX4_mark 11 = .ok (.iconst 0, 1) := by decide +kernel
theorem dX4_mark_12 : decode cX4_mark 12 = .ok (.ireturn, 1) := by decide +kernel
theorem dX4_mark_13 : decode cX4_mark 13 = .ok (.aload_n 0, 1) := by decide +kernel
theorem dX4_mark_14 : decode cX4_mark 14 = .ok (.getfield 10, 3) := by decide +kernel
theorem dX4_mark_17 : decode cX4_mark 17 = .ok (.iload_n 2, 1) := by decide +kernel
theorem dX4_mark_18 : decode cX4_mark 18 = .ok (.putfield 177, 3) := by decide +kernel
theorem dX4_mark_21 : decode cX4_mark 21 = .ok (.iconst 1, 1) := by decide +kernel
theorem dX4_mark_22 : decode cX4_mark 22 = .ok (.ireturn, 1) := by decide +kernel
theorem dX4_marked_0 : decode cX4_marked 0 = .ok (.aload_n 0, 1) := by decide +kernel
theorem dX4_marked_1 : decode cX4_marked 1 = .ok (.iload_n 1, 1) := by decide +kernel
theorem dX4_marked_2 : decode cX4_marked 2 = .ok (.invokevirtual 180, 3) := by decide +kernel
theorem dX4_marked_5 : decode cX4_marked 5 = .ok (.getfield 177, 3) := by decide +kernel
theorem dX4_marked_8 : decode cX4_marked 8 = .ok (.ireturn, 1) := by decide +kernel
theorem dX4_commit_0 : decode cX4_commit 0 = .ok (.aload_n 0, 1) := by decide +kernel
theorem dX4_commit_1 : decode cX4_commit 1 = .ok (.invokevirtual 184, 3) := by decide +kernel
theorem dX4_commit_4 : decode cX4_commit 4 = .ok (.aload_n 0, 1) := by decide +kernel
theorem dX4_commit_5 : decode cX4_commit 5 = .ok (.invokevirtual 108, 3) := by decide +kernel
theorem dX4_commit_8 : decode cX4_commit 8 = .ok (.aload_n 0, 1) := by decide +kernel
theorem dX4_commit_9 : decode cX4_commit 9 = .ok (.getfield 187, 3) := by decide +kernel
theorem dX4_commit_12 : decode cX4_commit 12 = .ok (.ireturn, 1) := by decide +kernel
theorem dX4_cut_0 : decode cX4_cut 0 = .ok (.iload_n 1, 1) := by decide +kernel
theorem dX4_cut_1 : decode cX4_cut 1 = .ok (.ifCond .lt 8, 3) := by decide +kernel
theorem dX4_cut_4 : decode cX4_cut 4 = .ok (.iload_n 1, 1) := by decide +kernel
theorem dX4_cut_5 : decode cX4_cut 5 = .ok (.iconst 2, 1) := by decide +kernel
theorem dX4_cut_6 : decode cX4_cut 6 = .ok (.if_icmp .le 13, 3) := by decide +kernel
theorem dX4_cut_9 : decode cX4_cut 9 = .ok (.new 172, 3) := by decide +kernel
theorem dX4_cut_12 : decode cX4_cut 12 = .ok (.dup, 1) := by decide +kernel
theorem dX4_cut_13 : decode cX4_cut 13 = .ok (.ldc 190, 2) := by decide +kernel
theorem dX4_cut_15 : decode cX4_cut 15 = .ok (.invokespecial 176, 3) := by decide +kernel
theorem dX4_cut_18 : decode cX4_cut 18 = .ok (.athrow, 1) := by decide +kernel
theorem dX4_cut_19 : decode cX4_cut 19 = .ok (.iload_n 1, 1) := by decide +kernel
theorem dX4_cut_20 : decode cX4_cut 20 = .ok (.iconst 2, 1) := by decide +kernel
theorem dX4_cut_21 : decode cX4_cut 21 = .ok (.if_icmp .ne 7, 3) := by decide +kernel
theorem dX4_cut_24 : decode cX4_cut 24 = .ok (.aload_n 0, 1) := by decide +kernel
theorem dX4_cut_25 : decode cX4_cut 25 = .ok (.invokevirtual 184, 3) := by decide +kernel
theorem dX4_cut_28 : decode cX4_cut 28 = .ok (.aload_n 0, 1) := by decide +kernel
theorem dX4_cut_29 : decode cX4_cut 29 = .ok (.getfield 10, 3) := by decide +kernel
theorem dX4_cut_32 : decode cX4_cut 32 = .ok (.aload_n 0, 1) := by decide +kernel
theorem dX4_cut_33 : decode cX4_cut 33 = .ok (.getfield 16, 3) := by decide +kernel
theorem dX4_cut_36 : decode cX4_cut 36 = .ok (.invokevirtual 192, 3) := by decide +kernel
theorem dX4_cut_39 : decode cX4_cut 39 = .ok (.aload_n 0, 1) := by decide +kernel
theorem dX4_cut_40 : decode cX4_cut 40 = .ok (.dup, 1) := by decide +kernel
theorem dX4_cut_41 : decode cX4_cut 41 = .ok (.getfield 94, 3) := by decide +kernel
theorem dX4_cut_44 : decode cX4_cut 44 = .ok (.aload_n 0, 1) := by decide +kernel
theorem dX4_cut_45 : decode cX4_cut 45 = .ok (.getfield 34, 3) := by decide +kernel
theorem dX4_cut_48 : decode cX4_cut 48 = .ok (.invokevirtual 196, 3) := by decide +kernel
theorem dX4_cut_51 : decode cX4_cut 51 = .ok (.iadd, 1) := by decide +kernel
theorem dX4_cut_52 : decode cX4_cut 52 = .ok (.putfield 94, 3) := by decide +kernel
theorem dX4_cut_55 : decode cX4_cut 55 = .ok (.aload_n 0, 1) := by decide +kernel
theorem dX4_cut_56 : decode cX4_cut 56 = .ok (.iconst 0, 1) := by decide +kernel
theorem dX4_cut_57 : decode cX4_cut 57 = .ok (.putfield 119, 3) := by decide +kernel
theorem dX4_cut_60 : decode cX4_cut 60 = .ok (.aload_n 0, 1) := by decide +kernel
theorem dX4_cut_61 : decode cX4_cut 61 = .ok (.getfield 27, 3) := by decide +kernel
theorem dX4_cut_64 : decode cX4_cut 64 = .ok (.iconst 0, 1) := by decide +kernel
theorem dX4_cut_65 : decode cX4_cut 65 = .ok (.putfield 161, 3) := by decide +kernel
theorem dX4_cut_68 : decode cX4_cut 68 = .ok (.aload_n 0, 1) := by decide +kernel
theorem dX4_cut_69 : decode cX4_cut 69 = .ok (.getfield 10, 3) := by decide +kernel
theorem dX4_cut_72 : decode cX4_cut 72 = .ok (.getfield 67, 3) := by decide +kernel
theorem dX4_cut_75 : decode cX4_cut 75 = .ok (.ireturn, 1) := by decide +kernel
theorem dX4_hold_0 : decode cX4_hold 0 = .ok (.aload_n 0, 1) := by decide +kernel
theorem dX4_hold_1 : decode cX4_hold 1 = .ok (.getfield 200, 3) := by decide +kernel
theorem dX4_hold_4 : decode cX4_hold 4 = .ok (.ifCond .eq 13, 3) := by decide +kernel
theorem dX4_hold_7 : decode cX4_hold 7 = .ok (.new 56, 3) := by decide +kernel
theorem dX4_hold_10 : decode cX4_hold 10 = .ok (.dup, 1) := by decide +kernel
theorem dX4_hold_11 : decode cX4_hold 11 = .ok (.ldc 203, 2) := by decide +kernel
theorem dX4_hold_13 : decode cX4_hold 13 = .ok (.invokespecial 60, 3) := by decide +kernel
theorem dX4_hold_16 : decode cX4_hold 16 = .ok (.athrow, 1) := by decide +kernel
theorem dX4_hold_17 : decode cX4_hold 17 = .ok (.aload_n 0, 1) := by decide +kernel
theorem dX4_hold_18 : decode cX4_hold 18 = .ok (.getfield 19, 3) := by decide +kernel
theorem dX4_hold_21 : decode cX4_hold 21 = .ok (.aload_n 0, 1) := by decide +kernel
theorem dX4_hold_22 : decode cX4_hold 22 = .ok (.getfield 16, 3) := by decide +kernel
theorem dX4_hold_25 : decode cX4_hold 25 = .ok (.invokevirtual 192, 3) := by decide +kernel
theorem dX4_hold_28 : decode cX4_hold 28 = .ok (.aload_n 0, 1) := by decide +kernel
theorem dX4_hold_29 : decode cX4_hold 29 = .ok (.iconst 1, 1) := by decide +kernel
theorem dX4_hold_30 : decode cX4_hold 30 = .ok (.putfield 200, 3) := by decide +kernel
theorem dX4_hold_33 : decode cX4_hold 33 = .ok (.aload_n 0, 1) := by decide +kernel
theorem dX4_hold_34 : decode cX4_hold 34 = .ok (.getfield 19, 3) := by decide +kernel
theorem dX4_hold_37 : decode cX4_hold 37 = .ok (.getfield 67, 3) := by decide +kernel
theorem dX4_hold_40 : decode cX4_hold 40 = .ok (.ireturn, 1) := by decide +kernel
theorem dX4_release_0 : decode cX4_release 0 = .ok (.aload_n 0, 1) := by decide +kernel
theorem dX4_release_1 : decode cX4_release 1 = .ok (.getfield 200, 3) := by decide +kernel
theorem dX4_release_4 : decode cX4_release 4 = .ok (.istore_n 1, 1) := by decide +kernel
theorem dX4_release_5 : decode cX4_release 5 = .ok (.aload_n 0, 1) := by decide +kernel
theorem dX4_release_6 : decode cX4_release 6 = .ok (.getfield 19, 3) := by decide +kernel
theorem dX4_release_9 : decode cX4_release 9 = .ok (.invokevirtual 205, 3) := by decide +kernel
theorem dX4_release_12 : decode cX4_release 12 = .ok (.aload_n 0, 1) := by decide +kernel
theorem dX4_release_13 : decode cX4_release 13 = .ok (.iconst 0, 1) := by decide +kernel
theorem dX4_release_14 : decode cX4_release 14 = .ok (.putfield 200, 3) := by decide +kernel
theorem dX4_release_17 : decode cX4_release 17 = .ok (.aload_n 0, 1) := by decide +kernel
theorem dX4_release_18 : decode cX4_release 18 = .ok (.invokevirtual 108, 3) := by decide +kernel
theorem dX4_release_21 : decode cX4_release 21 = .ok (.iload_n 1, 1) := by decide +kernel
theorem dX4_release_22 : decode cX4_release 22 = .ok (.ireturn, 1) := by decide +kernel
theorem dX4_patience_0 : decode cX4_patience 0 = .ok (.iload_n 1, 1) := by decide +kernel
theorem dX4_patience_1 : decode cX4_patience 1 = .ok (.ifCond .lt 10, 3) := by decide +kernel
theorem dX4_patience_4 : decode cX4_patience 4 = .ok (.iload_n 1, 1) := by decide +kernel
theorem dX4_patience_5 : decode cX4_patience 5 = .ok (.sipush 1000, 3) := by decide +kernel
theorem dX4_patience_8 : decode cX4_patience 8 = .ok (.if_icmp .le 13, 3) := by decide +kernel
theorem dX4_patience_11 : decode cX4_patience 11 = .ok (.new 172, 3) := by decide +kernel
theorem dX4_patience_14 : decode cX4_patience 14 = .ok (.dup, 1) := by decide +kernel
theorem dX4_patience_15 : decode cX4_patience 15 = .ok (.ldc 208, 2) := by decide +kernel
theorem dX4_patience_17 : decode cX4_patience 17 = .ok (.invokespecial 176, 3) := by decide +kernel
theorem dX4_patience_20 : decode cX4_patience 20 = .ok (.athrow, 1) := by decide +kernel
theorem dX4_patience_21 : decode cX4_patience 21 = .ok (.aload_n 0, 1) := by decide +kernel
theorem dX4_patience_22 : decode cX4_patience 22 = .ok (.getfield 210, 3) := by decide +kernel
theorem dX4_patience_25 : decode cX4_patience 25 = .ok (.istore_n 2, 1) := by decide +kernel
theorem dX4_patience_26 : decode cX4_patience 26 = .ok (.aload_n 0, 1) := by decide +kernel
theorem dX4_patience_27 : decode cX4_patience 27 = .ok (.iload_n 1, 1) := by decide +kernel
theorem dX4_patience_28 : decode cX4_patience 28 = .ok (.putfield 210, 3) := by decide +kernel
theorem dX4_patience_31 : decode cX4_patience 31 = .ok (.iload_n 2, 1) := by decide +kernel
theorem dX4_patience_32 : decode cX4_patience 32 = .ok (.ireturn, 1) := by decide +kernel
theorem dX4_alarm_0 : decode cX4_alarm 0 = .ok (.iload_n 1, 1) := by decide +kernel
theorem dX4_alarm_1 : decode cX4_alarm 1 = .ok (.ifCond .lt 9, 3) := by decide +kernel
theorem dX4_alarm_4 : decode cX4_alarm 4 = .ok (.iload_n 1, 1) := by decide +kernel
theorem dX4_alarm_5 : decode cX4_alarm 5 = .ok (.bipush 96, 2) := by decide +kernel
theorem dX4_alarm_7 : decode cX4_alarm 7 = .ok (.if_icmp .le 13, 3) := by decide +kernel
theorem dX4_alarm_10 : decode cX4_alarm 10 = .ok (.new 172, 3) := by decide +kernel
theorem dX4_alarm_13 : decode cX4_alarm 13 = .ok (.dup, 1) := by decide +kernel
theorem dX4_alarm_14 : decode cX4_alarm 14 = .ok (.ldc 213, 2) := by decide +kernel
theorem dX4_alarm_16 : decode cX4_alarm 16 = .ok (.invokespecial 176, 3) := by decide +kernel
theorem dX4_alarm_19 : decode cX4_alarm 19 = .ok (.athrow, 1) := by decide +kernel
theorem dX4_alarm_20 : decode cX4_alarm 20 = .ok (.aload_n 0, 1) := by decide +kernel
theorem dX4_alarm_21 : decode cX4_alarm 21 = .ok (.getfield 27, 3) := by decide +kernel
theorem dX4_alarm_24 : decode cX4_alarm 24 = .ok (.getfield 215, 3) := by decide +kernel
theorem dX4_alarm_27 : decode cX4_alarm 27 = .ok (.istore_n 2, 1) := by decide +kernel
theorem dX4_alarm_28 : decode cX4_alarm 28 = .ok (.aload_n 0, 1) := by decide +kernel
theorem dX4_alarm_29 : decode cX4_alarm 29 = .ok (.getfield 27, 3) := by decide +kernel
theorem dX4_alarm_32 : decode cX4_alarm 32 = .ok (.iload_n 1, 1) := by decide +kernel
theorem dX4_alarm_33 : decode cX4_alarm 33 = .ok (.putfield 215, 3) := by decide +kernel
theorem dX4_alarm_36 : decode cX4_alarm 36 = .ok (.iload_n 2, 1) := by decide +kernel
theorem dX4_alarm_37 : decode cX4_alarm 37 = .ok (.ireturn, 1) := by decide +kernel
theorem dX4_tick_0 : decode cX4_tick 0 = .ok (.iload_n 1, 1) := by decide +kernel
theorem dX4_tick_1 : decode cX4_tick 1 = .ok (.ifCond .lt 10, 3) := by decide +kernel
theorem dX4_tick_4 : decode cX4_tick 4 = .ok (.iload_n 1, 1) := by decide +kernel
theorem dX4_tick_5 : decode cX4_tick 5 = .ok (.sipush 10000, 3) := by decide +kernel
theorem dX4_tick_8 : decode cX4_tick 8 = .ok (.if_icmp .le 13, 3) := by decide +kernel
theorem dX4_tick_11 : decode cX4_tick 11 = .ok (.new 172, 3) := by decide +kernel
theorem dX4_tick_14 : decode cX4_tick 14 = .ok (.dup, 1) := by decide +kernel
theorem dX4_tick_15 : decode cX4_tick 15 = .ok (.ldc 218, 2) := by decide +kernel
theorem dX4_tick_17 : decode cX4_tick 17 = .ok (.invokespecial 176, 3) := by decide +kernel
theorem dX4_tick_20 : decode cX4_tick 20 = .ok (.athrow, 1) := by decide +kernel
theorem dX4_tick_21 : decode cX4_tick 21 = .ok (.aload_n 0, 1) := by decide +kernel
theorem dX4_tick_22 : decode cX4_tick 22 = .ok (.dup, 1) := by decide +kernel
theorem dX4_tick_23 : decode cX4_tick 23 = .ok (.getfield 220, 3) := by decide +kernel
theorem dX4_tick_26 : decode cX4_tick 26 = .ok (.iload_n 1, 1) := by decide +kernel
theorem dX4_tick_27 : decode cX4_tick 27 = .ok (.iadd, 1) := by decide +kernel
theorem dX4_tick_28 : decode cX4_tick 28 = .ok (.putfield 220, 3) := by decide +kernel
theorem dX4_tick_31 : decode cX4_tick 31 = .ok (.aload_n 0, 1) := by decide +kernel
theorem dX4_tick_32 : decode cX4_tick 32 = .ok (.getfield 119, 3) := by decide +kernel
theorem dX4_tick_35 : decode cX4_tick 35 = .ok (.iconst 1, 1) := by decide +kernel
theorem dX4_tick_36 : decode cX4_tick 36 = .ok (.if_icmp .ne 14, 3) := by decide +kernel
theorem dX4_tick_39 : decode cX4_tick 39 = .ok (.aload_n 0, 1) := by decide +kernel
theorem dX4_tick_40 : decode cX4_tick 40 = .ok (.getfield 220, 3) := by decide +kernel
theorem dX4_tick_43 : decode cX4_tick 43 = .ok (.aload_n 0, 1) := by decide +kernel
theorem dX4_tick_44 : decode cX4_tick 44 = .ok (.getfield 223, 3) := by decide +kernel
theorem dX4_tick_47 : decode cX4_tick 47 = .ok (.if_icmp .ge 5, 3) := by decide +kernel
theorem dX4_tick_50 : decode cX4_tick 50 = .ok (.iconst 0, 1) := by decide +kernel
theorem dX4_tick_51 : decode cX4_tick 51 = .ok (.ireturn, 1) := by decide +kernel
theorem dX4_tick_52 : decode cX4_tick 52 = .ok (.aload_n 0, 1) := by decide +kernel
theorem dX4_tick_53 : decode cX4_tick 53 = .ok (.getfield 34, 3) := by decide +kernel
theorem dX4_tick_56 : decode cX4_tick 56 = .ok (.invokevirtual 196, 3) := by decide +kernel
theorem dX4_tick_59 : decode cX4_tick 59 = .ok (.istore_n 2, 1) := by decide +kernel
theorem dX4_tick_60 : decode cX4_tick 60 = .ok (.aload_n 0, 1) := by decide +kernel
theorem dX4_tick_61 : decode cX4_tick 61 = .ok (.dup, 1) := by decide +kernel
theorem dX4_tick_62 : decode cX4_tick 62 = .ok (.getfield 94, 3) := by decide +kernel
theorem dX4_tick_65 : decode cX4_tick 65 = .ok (.iload_n 2, 1) := by decide +kernel
theorem dX4_tick_66 : decode cX4_tick 66 = .ok (.iadd, 1) := by decide +kernel
theorem dX4_tick_67 : decode cX4_tick 67 = .ok (.putfield 94, 3) := by decide +kernel
theorem dX4_tick_70 : decode cX4_tick 70 = .ok (.aload_n 0, 1) := by decide +kernel
theorem dX4_tick_71 : decode cX4_tick 71 = .ok (.iconst 2, 1) := by decide +kernel
theorem dX4_tick_72 : decode cX4_tick 72 = .ok (.putfield 119, 3) := by decide +kernel
theorem dX4_tick_75 : decode cX4_tick 75 = .ok (.iload_n 2, 1) := by decide +kernel
theorem dX4_tick_76 : decode cX4_tick 76 = .ok (.ireturn, 1) := by decide +kernel
theorem dX4_map_0 : decode cX4_map 0 = .ok (.aload_n 0, 1) := by decide +kernel
theorem dX4_map_1 : decode cX4_map 1 = .ok (.iload_n 1, 1) := by decide +kernel
theorem dX4_map_2 : decode cX4_map 2 = .ok (.invokevirtual 180, 3) := by decide +kernel
theorem dX4_map_5 : decode cX4_map 5 = .ok (.astore 4, 2) := by decide +kernel
theorem dX4_map_7 : decode cX4_map 7 = .ok (.aload 4, 2) := by decide +kernel
theorem dX4_map_9 : decode cX4_map 9 = .ok (.iload_n 2, 1) := by decide +kernel
theorem dX4_map_10 : decode cX4_map 10 = .ok (.invokevirtual 226, 3) := by decide +kernel
theorem dX4_map_13 : decode cX4_map 13 = .ok (.astore 5, 2) := by decide +kernel
theorem dX4_map_15 : decode cX4_map 15 = .ok (.aload 5, 2) := by decide +kernel
theorem dX4_map_17 : decode cX4_map 17 = .ok (.ifnull 13, 3) := by decide +kernel
theorem dX4_map_20 : decode cX4_map 20 = .ok (.iload_n 3, 1) := by decide +kernel
theorem dX4_map_21 : decode cX4_map 21 = .ok (.ifCond .lt 9, 3) := by decide +kernel
theorem dX4_map_24 : decode cX4_map 24 = .ok (.iload_n 3, 1) := by decide +kernel
theorem dX4_map_25 : decode cX4_map 25 = .ok (.bipush 40, 2) := by decide +kernel
theorem dX4_map_27 : decode cX4_map 27 = .ok (.if_icmp .lt 13, 3) := by decide +kernel
theorem dX4_map_30 : decode cX4_map 30 = .ok (.new 148, 3) := by decide +kernel
theorem dX4_map_33 : decode cX4_map 33 = .ok (.dup, 1) := by decide +kernel
theorem dX4_map_34 : decode cX4_map 34 = .ok (.ldc 229, 2) := by decide +kernel
theorem dX4_map_36 : decode cX4_map 36 = .ok (.invokespecial 152, 3) := by decide +kernel
theorem dX4_map_39 : decode cX4_map 39 = .ok (.athrow, 1) := by decide +kernel
theorem dX4_map_40 : decode cX4_map 40 = .ok (.aload 5, 2) := by decide +kernel
theorem dX4_map_42 : decode cX4_map 42 = .ok (.iload_n 3, 1) := by decide +kernel
theorem dX4_map_43 : decode cX4_map 43 = .ok (.invokevirtual 83, 3) := by decide +kernel
theorem dX4_map_46 : decode cX4_map 46 = .ok (.ireturn, 1) := by decide +kernel
theorem dX4_volume_0 : decode cX4_volume 0 = .ok (.aload_n 0, 1) := by decide +kernel
theorem dX4_volume_1 : decode cX4_volume 1 = .ok (.iload_n 1, 1) := by decide +kernel
theorem dX4_volume_2 : decode cX4_volume 2 = .ok (.invokevirtual 71, 3) := by decide +kernel
theorem dX4_volume_5 : decode cX4_volume 5 = .ok (.astore_n 3, 1) := by decide +kernel
theorem dX4_volume_6 : decode cX4_volume 6 = .ok (.iload_n 2, 1) := by decide +kernel
theorem dX4_volume_7 : decode cX4_volume 7 = .ok (.tableswitch 98 0 7 #[45, 50, 55, 60, 66, 71, 80, 93], 45) := by decide +kernel
theorem dX4_volume_52 : decode cX4_volume 52 = .ok (.aload_n 3, 1) := by decide +kernel
theorem dX4_volume_53 : decode cX4_volume 53 = .ok (.getfield 74, 3) := by decide +kernel
theorem dX4_volume_56 : decode cX4_volume 56 = .ok (.ireturn, 1) := by decide +kernel
theorem dX4_volume_57 : decode cX4_volume 57 = .ok (.aload_n 3, 1) := by decide +kernel
theorem dX4_volume_58 : decode cX4_volume 58 = .ok (.getfield 91, 3) := by decide +kernel
theorem dX4_volume_61 : decode cX4_volume 61 = .ok (.ireturn, 1) := by decide +kernel
theorem dX4_volume_62 : decode cX4_volume 62 = .ok (.aload_n 3, 1) := by decide +kernel
theorem dX4_volume_63 : decode cX4_volume 63 = .ok (.invokevirtual 231, 3) := by decide +kernel
theorem dX4_volume_66 : decode cX4_volume 66 = .ok (.ireturn, 1) := by decide +kernel
theorem dX4_volume_67 : decode cX4_volume 67 = .ok (.aload_n 0, 1) := by decide +kernel
theorem dX4_volume_68 : decode cX4_volume 68 = .ok (.aload_n 3, 1) := by decide +kernel
theorem dX4_volume_69 : decode cX4_volume 69 = .ok (.invokevirtual 234, 3) := by decide +kernel
theorem dX4_volume_72 : decode cX4_volume 72 = .ok (.ireturn, 1) := by decide +kernel
theorem dX4_volume_73 : decode cX4_volume 73 = .ok (.aload_n 3, 1) := by decide +kernel
theorem dX4_volume_74 : decode cX4_volume 74 = .ok (.getfield 238, 3) := by decide +kernel
theorem dX4_volume_77 : decode cX4_volume 77 = .ok (.ireturn, 1) := by decide +kernel
theorem dX4_volume_78 : decode cX4_volume 78 = .ok (.aload_n 0, 1) := by decide +kernel
theorem dX4_volume_79 : decode cX4_volume 79 = .ok (.getfield 34, 3) := by decide +kernel
theorem dX4_volume_82 : decode cX4_volume 82 = .ok (.iload_n 1, 1) := by decide +kernel
theorem dX4_volume_83 : decode cX4_volume 83 = .ok (.invokevirtual 241, 3) := by decide +kernel
theorem dX4_volume_86 : decode cX4_volume 86 = .ok (.ireturn, 1) := by decide +kernel
theorem dX4_volume_87 : decode cX4_volume 87 = .ok (.aload_n 3, 1) := by decide +kernel
theorem dX4_volume_88 : decode cX4_volume 88 = .ok (.getfield 77, 3) := by decide +kernel
theorem dX4_volume_91 : decode cX4_volume 91 = .ok (.ifCond .eq 7, 3) := by decide +kernel
theorem dX4_volume_94 : decode cX4_volume 94 = .ok (.iconst 1, 1) := by decide +kernel
theorem dX4_volume_95 : decode cX4_volume 95 = .ok (.goto 4, 3) := by decide +kernel
theorem dX4_volume_98 : decode cX4_volume 98 = .ok (.iconst 0, 1) := by decide +kernel
theorem dX4_volume_99 : decode cX4_volume 99 = .ok (.ireturn, 1) := by decide +kernel
theorem dX4_volume_100 : decode cX4_volume 100 = .ok (.aload_n 3, 1) := by decide +kernel
theorem dX4_volume_101 : decode cX4_volume 101 = .ok (.getfield 80, 3) := by decide +kernel
theorem dX4_volume_104 : decode cX4_volume 104 = .ok (.ireturn, 1) := by decide +kernel
theorem dX4_volume_105 : decode cX4_volume 105 = .ok (.new 148, 3) := by decide +kernel
theorem dX4_volume_108 : decode cX4_volume 108 = .ok (.dup, 1) := by decide +kernel
theorem dX4_volume_109 : decode cX4_volume 109 = .ok (.ldc 244, 2) := by decide +kernel
theorem dX4_volume_111 : decode cX4_volume 111 = .ok (.invokespecial 152, 3) := by decide +kernel
theorem dX4_volume_114 : decode cX4_volume 114 = .ok (.athrow, 1) := by decide +kernel
theorem dX4_differ_0 : decode cX4_differ 0 = .ok (.aload_n 0, 1) := by decide +kernel
theorem dX4_differ_1 : decode cX4_differ 1 = .ok (.iload_n 1, 1) := by decide +kernel
theorem dX4_differ_2 : decode cX4_differ 2 = .ok (.invokevirtual 71, 3) := by decide +kernel
theorem dX4_differ_5 : decode cX4_differ 5 = .ok (.astore 4, 2) := by decide +kernel
theorem dX4_differ_7 : decode cX4_differ 7 = .ok (.aload_n 0, 1) := by decide +kernel
theorem dX4_differ_8 : decode cX4_differ 8 = .ok (.iload_n 2, 1) := by decide +kernel
theorem dX4_differ_9 : decode cX4_differ 9 = .ok (.invokevirtual 71, 3) := by decide +kernel
theorem dX4_differ_12 : decode cX4_differ 12 = .ok (.astore 5, 2) := by decide +kernel
theorem dX4_differ_14 : decode cX4_differ 14 = .ok (.iload_n 3, 1) := by decide +kernel
theorem dX4_differ_15 : decode cX4_differ 15 = .ok (.ifCond .lt 8, 3) := by decide +kernel
theorem dX4_differ_18 : decode cX4_differ 18 = .ok (.iload_n 3, 1) := by decide +kernel
theorem dX4_differ_19 : decode cX4_differ 19 = .ok (.iconst 4, 1) := by decide +kernel
theorem dX4_differ_20 : decode cX4_differ 20 = .ok (.if_icmp .le 13, 3) := by decide +kernel
theorem dX4_differ_23 : decode cX4_differ 23 = .ok (.new 148, 3) := by decide +kernel
theorem dX4_differ_26 : decode cX4_differ 26 = .ok (.dup, 1) := by decide +kernel
theorem dX4_differ_27 : decode cX4_differ 27 = .ok (.ldc 244, 2) := by decide +kernel
theorem dX4_differ_29 : decode cX4_differ 29 = .ok (.invokespecial 152, 3) := by decide +kernel
theorem dX4_differ_32 : decode cX4_differ 32 = .ok (.athrow, 1) := by decide +kernel
theorem dX4_differ_33 : decode cX4_differ 33 = .ok (.iload_n 3, 1) := by decide +kernel
theorem dX4_differ_34 : decode cX4_differ 34 = .ok (.iconst 4, 1) := by decide +kernel
theorem dX4_differ_35 : decode cX4_differ 35 = .ok (.if_icmp .ne 14, 3) := by decide +kernel
theorem dX4_differ_38 : decode cX4_differ 38 = .ok (.aload_n 0, 1) := by decide +kernel
theorem dX4_differ_39 : decode cX4_differ 39 = .ok (.aload 4, 2) := by decide +kernel
theorem dX4_differ_41 : decode cX4_differ 41 = .ok (.aload 5, 2) := by decide +kernel
theorem dX4_differ_43 : decode cX4_differ 43 = .ok (.invokevirtual 246, 3) := by decide +kernel
theorem dX4_differ_46 : decode cX4_differ 46 = .ok (.goto 12, 3) := by decide +kernel
theorem dX4_differ_49 : decode cX4_differ 49 = .ok (.aload_n 0, 1) := by decide +kernel
theorem dX4_differ_50 : decode cX4_differ 50 = .ok (.aload 4, 2) := by decide +kernel
theorem dX4_differ_52 : decode cX4_differ 52 = .ok (.aload 5, 2) := by decide +kernel
theorem dX4_differ_54 : decode cX4_differ 54 = .ok (.iload_n 3, 1) := by decide +kernel
theorem dX4_differ_55 : decode cX4_differ 55 = .ok (.invokevirtual 250, 3) := by decide +kernel
theorem dX4_differ_58 : decode cX4_differ 58 = .ok (.ireturn, 1) := by decide +kernel
theorem dX4_users_0 : decode cX4_users 0 = .ok (.aload_n 0, 1) := by decide +kernel
theorem dX4_users_1 : decode cX4_users 1 = .ok (.iload_n 1, 1) := by decide +kernel
theorem dX4_users_2 : decode cX4_users 2 = .ok (.invokevirtual 254, 3) := by decide +kernel
theorem dX4_users_5 : decode cX4_users 5 = .ok (.aload_n 0, 1) := by decide +kernel
theorem dX4_users_6 : decode cX4_users 6 = .ok (.getfield 10, 3) := by decide +kernel
theorem dX4_users_9 : decode cX4_users 9 = .ok (.iload_n 1, 1) := by decide +kernel
theorem dX4_users_10 : decode cX4_users 10 = .ok (.invokevirtual 257, 3) := by decide +kernel
theorem dX4_users_13 : decode cX4_users 13 = .ok (.ireturn, 1) := by decide +kernel
theorem dX4_user_0 : decode cX4_user 0 = .ok (.aload_n 0, 1) := by decide +kernel
theorem dX4_user_1 : decode cX4_user 1 = .ok (.iload_n 1, 1) := by decide +kernel
theorem dX4_user_2 : decode cX4_user 2 = .ok (.invokevirtual 254, 3) := by decide +kernel
theorem dX4_user_5 : decode cX4_user 5 = .ok (.aload_n 0, 1) := by decide +kernel
theorem dX4_user_6 : decode cX4_user 6 = .ok (.getfield 10, 3) := by decide +kernel
theorem dX4_user_9 : decode cX4_user 9 = .ok (.iload_n 1, 1) := by decide +kernel
theorem dX4_user_10 : decode cX4_user 10 = .ok (.iload_n 2, 1) := by decide +kernel
theorem dX4_user_11 : decode cX4_user 11 = .ok (.invokevirtual 260, 3) := by decide +kernel
theorem dX4_user_14 : decode cX4_user 14 = .ok (.ireturn, 1) := by decide +kernel
theorem dX4_told_0 : decode cX4_told 0 = .ok (.iload_n 1, 1) := by decide +kernel
theorem dX4_told_1 : decode cX4_told 1 = .ok (.tableswitch 193 0 13 #[71, 79, 87, 92, 100, 105, 113, 121, 129, 137, 145, 153, 166, 171], 71) := by decide +kernel
theorem dX4_told_72 : decode cX4_told 72 = .ok (.aload_n 0, 1) := by decide +kernel
theorem dX4_told_73 : decode cX4_told 73 = .ok (.getfield 27, 3) := by decide +kernel
theorem dX4_told_76 : decode cX4_told 76 = .ok (.getfield 156, 3) := by decide +kernel
theorem dX4_told_79 : decode cX4_told 79 = .ok (.ireturn, 1) := by decide +kernel
theorem dX4_told_80 : decode cX4_told 80 = .ok (.aload_n 0, 1) := by decide +kernel
theorem dX4_told_81 : decode cX4_told 81 = .ok (.getfield 27, 3) := by decide +kernel
theorem dX4_told_84 : decode cX4_told 84 = .ok (.invokevirtual 264, 3) := by decide +kernel
theorem dX4_told_87 : decode cX4_told 87 = .ok (.ireturn, 1) := by decide +kernel
theorem dX4_told_88 : decode cX4_told 88 = .ok (.aload_n 0, 1) := by decide +kernel
theorem dX4_told_89 : decode cX4_told 89 = .ok (.getfield 119, 3) := by decide +kernel
theorem dX4_told_92 : decode cX4_told 92 = .ok (.ireturn, 1) := by decide +kernel
theorem dX4_told_93 : decode cX4_told 93 = .ok (.aload_n 0, 1) := by decide +kernel
theorem dX4_told_94 : decode cX4_told 94 = .ok (.getfield 34, 3) := by decide +kernel
theorem dX4_told_97 : decode cX4_told 97 = .ok (.getfield 267, 3) := by decide +kernel
theorem dX4_told_100 : decode cX4_told 100 = .ok (.ireturn, 1) := by decide +kernel
theorem dX4_told_101 : decode cX4_told 101 = .ok (.aload_n 0, 1) := by decide +kernel
theorem dX4_told_102 : decode cX4_told 102 = .ok (.getfield 94, 3) := by decide +kernel
theorem dX4_told_105 : decode cX4_told 105 = .ok (.ireturn, 1) := by decide +kernel
theorem dX4_told_106 : decode cX4_told 106 = .ok (.aload_n 0, 1) := by decide +kernel
theorem dX4_told_107 : decode cX4_told 107 = .ok (.getfield 27, 3) := by decide +kernel
theorem dX4_told_110 : decode cX4_told 110 = .ok (.getfield 268, 3) := by decide +kernel
theorem dX4_told_113 : decode cX4_told 113 = .ok (.ireturn, 1) := by decide +kernel
theorem dX4_told_114 : decode cX4_told 114 = .ok (.aload_n 0, 1) := by decide +kernel
theorem dX4_told_115 : decode cX4_told 115 = .ok (.getfield 27, 3) := by decide +kernel
theorem dX4_told_118 : decode cX4_told 118 = .ok (.getfield 161, 3) := by decide +kernel
theorem dX4_told_121 : decode cX4_told 121 = .ok (.ireturn, 1) := by decide +kernel
theorem dX4_told_122 : decode cX4_told 122 = .ok (.aload_n 0, 1) := by decide +kernel
theorem dX4_told_123 : decode cX4_told 123 = .ok (.getfield 27, 3) := by decide +kernel
theorem dX4_told_126 : decode cX4_told 126 = .ok (.getfield 271, 3) := by decide +kernel
theorem dX4_told_129 : decode cX4_told 129 = .ok (.ireturn, 1) := by decide +kernel
theorem dX4_told_130 : decode cX4_told 130 = .ok (.aload_n 0, 1) := by decide +kernel
theorem dX4_told_131 : decode cX4_told 131 = .ok (.getfield 10, 3) := by decide +kernel
theorem dX4_told_134 : decode cX4_told 134 = .ok (.getfield 67, 3) := by decide +kernel
theorem dX4_told_137 : decode cX4_told 137 = .ok (.ireturn, 1) := by decide +kernel
theorem dX4_told_138 : decode cX4_told 138 = .ok (.aload_n 0, 1) := by decide +kernel
theorem dX4_told_139 : decode cX4_told 139 = .ok (.getfield 16, 3) := by decide +kernel
theorem dX4_told_142 : decode cX4_told 142 = .ok (.getfield 67, 3) := by decide +kernel
theorem dX4_told_145 : decode cX4_told 145 = .ok (.ireturn, 1) := by decide +kernel
theorem dX4_told_146 : decode cX4_told 146 = .ok (.aload_n 0, 1) := by decide +kernel
theorem dX4_told_147 : decode cX4_told 147 = .ok (.getfield 19, 3) := by decide +kernel
theorem dX4_told_150 : decode cX4_told 150 = .ok (.getfield 67, 3) := by decide +kernel
theorem dX4_told_153 : decode cX4_told 153 = .ok (.ireturn, 1) := by decide +kernel
theorem dX4_told_154 : decode cX4_told 154 = .ok (.aload_n 0, 1) := by decide +kernel
theorem dX4_told_155 : decode cX4_told 155 = .ok (.getfield 200, 3) := by decide +kernel
theorem dX4_told_158 : decode cX4_told 158 = .ok (.ifCond .eq 7, 3) := by decide +kernel
theorem dX4_told_161 : decode cX4_told 161 = .ok (.iconst 1, 1) := by decide +kernel
theorem dX4_told_162 : decode cX4_told 162 = .ok (.goto 4, 3) := by decide +kernel
theorem dX4_told_165 : decode cX4_told 165 = .ok (.iconst 0, 1) := by decide +kernel
theorem dX4_told_166 : decode cX4_told 166 = .ok (.ireturn, 1) := by decide +kernel
theorem dX4_told_167 : decode cX4_told 167 = .ok (.aload_n 0, 1) := by decide +kernel
theorem dX4_told_168 : decode cX4_told 168 = .ok (.getfield 220, 3) := by decide +kernel
theorem dX4_told_171 : decode cX4_told 171 = .ok (.ireturn, 1) := by decide +kernel
theorem dX4_told_172 : decode cX4_told 172 = .ok (.aload_n 0, 1) := by decide +kernel
theorem dX4_told_173 : decode cX4_told 173 = .ok (.getfield 119, 3) := by decide +kernel
theorem dX4_told_176 : decode cX4_told 176 = .ok (.iconst 1, 1) := by decide +kernel
theorem dX4_told_177 : decode cX4_told 177 = .ok (.if_icmp .ne 15, 3) := by decide +kernel
theorem dX4_told_180 : decode cX4_told 180 = .ok (.aload_n 0, 1) := by decide +kernel
theorem dX4_told_181 : decode cX4_told 181 = .ok (.getfield 223, 3) := by decide +kernel
theorem dX4_told_184 : decode cX4_told 184 = .ok (.aload_n 0, 1) := by decide +kernel
theorem dX4_told_185 : decode cX4_told 185 = .ok (.getfield 220, 3) := by decide +kernel
theorem dX4_told_188 : decode cX4_told 188 = .ok (.isub, 1) := by decide +kernel
theorem dX4_told_189 : decode cX4_told 189 = .ok (.goto 4, 3) := by decide +kernel
theorem dX4_told_192 : decode cX4_told 192 = .ok (.iconst 0, 1) := by decide +kernel
theorem dX4_told_193 : decode cX4_told 193 = .ok (.ireturn, 1) := by decide +kernel
theorem dX4_told_194 : decode cX4_told 194 = .ok (.new 148, 3) := by decide +kernel
theorem dX4_told_197 : decode cX4_told 197 = .ok (.dup, 1) := by decide +kernel
theorem dX4_told_198 : decode cX4_told 198 = .ok (.ldc 244, 2) := by decide +kernel
theorem dX4_told_200 : decode cX4_told 200 = .ok (.invokespecial 152, 3) := by decide +kernel
theorem dX4_told_203 : decode cX4_told 203 = .ok (.athrow, 1) := by decide +kernel
theorem dX4_numbered_0 : decode cX4_numbered 0 = .ok (.aload_n 0, 1) := by decide +kernel
theorem dX4_numbered_1 : decode cX4_numbered 1 = .ok (.getfield 10, 3) := by decide +kernel
theorem dX4_numbered_4 : decode cX4_numbered 4 = .ok (.iload_n 1, 1) := by decide +kernel
theorem dX4_numbered_5 : decode cX4_numbered 5 = .ok (.invokevirtual 226, 3) := by decide +kernel
theorem dX4_numbered_8 : decode cX4_numbered 8 = .ok (.astore_n 2, 1) := by decide +kernel
theorem dX4_numbered_9 : decode cX4_numbered 9 = .ok (.aload_n 2, 1) := by decide +kernel
theorem dX4_numbered_10 : decode cX4_numbered 10 = .ok (.ifnonnull 14, 3) := by decide +kernel
theorem dX4_numbered_13 : decode cX4_numbered 13 = .ok (.new 148, 3) := by decide +kernel
theorem dX4_numbered_16 : decode cX4_numbered 16 = .ok (.dup, 1) := by decide +kernel
theorem dX4_numbered_17 : decode cX4_numbered 17 = .ok (.ldc_w 274, 3) := by decide +kernel
theorem dX4_numbered_20 : decode cX4_numbered 20 = .ok (.invokespecial 152, 3) := by decide +kernel
theorem dX4_numbered_23 : decode cX4_numbered 23 = .ok (.athrow, 1) := by decide +kernel
theorem dX4_numbered_24 : decode cX4_numbered 24 = .ok (.aload_n 2, 1) := by decide +kernel
theorem dX4_numbered_25 : decode cX4_numbered 25 = .ok (.areturn, 1) := by decide +kernel
theorem dX4_existing_0 : decode cX4_existing 0 = .ok (.aload_n 0, 1) := by decide +kernel
theorem dX4_existing_1 : decode cX4_existing 1 = .ok (.getfield 10, 3) := by decide +kernel
theorem dX4_existing_4 : decode cX4_existing 4 = .ok (.iload_n 1, 1) := by decide +kernel
theorem dX4_existing_5 : decode cX4_existing 5 = .ok (.invokevirtual 276, 3) := by decide +kernel
theorem dX4_existing_8 : decode cX4_existing 8 = .ok (.astore_n 2, 1) := by decide +kernel
theorem dX4_existing_9 : decode cX4_existing 9 = .ok (.aload_n 2, 1) := by decide +kernel
theorem dX4_existing_10 : decode cX4_existing 10 = .ok (.ifnonnull 14, 3) := by decide +kernel
theorem dX4_existing_13 : decode cX4_existing 13 = .ok (.new 148, 3) := by decide +kernel
theorem dX4_existing_16 : decode cX4_existing 16 = .ok (.dup, 1) := by decide +kernel
theorem dX4_existing_17 : decode cX4_existing 17 = .ok (.ldc_w 279, 3) := by decide +kernel
theorem dX4_existing_20 : decode cX4_existing 20 = .ok (.invokespecial 152, 3) := by decide +kernel
theorem dX4_existing_23 : decode cX4_existing 23 = .ok (.athrow, 1) := by decide +kernel
theorem dX4_existing_24 : decode cX4_existing 24 = .ok (.aload_n 2, 1) := by decide +kernel
theorem dX4_existing_25 : decode cX4_existing 25 = .ok (.areturn, 1) := by decide +kernel
theorem dX4_requireSize_0 : decode cX4_requireSize 0 = .ok (.iload_n 1, 1) := by decide +kernel
theorem dX4_requireSize_1 : decode cX4_requireSize 1 = .ok (.iconst 1, 1) := by decide +kernel
theorem dX4_requireSize_2 : decode cX4_requireSize 2 = .ok (.if_icmp .lt 9, 3) := by decide +kernel
theorem dX4_requireSize_5 : decode cX4_requireSize 5 = .ok (.iload_n 1, 1) := by decide +kernel
theorem dX4_requireSize_6 : decode cX4_requireSize 6 = .ok (.bipush 40, 2) := by decide +kernel
theorem dX4_requireSize_8 : decode cX4_requireSize 8 = .ok (.if_icmp .le 14, 3) := by decide +kernel
theorem dX4_requireSize_11 : decode cX4_requireSize 11 = .ok (.new 172, 3) := by decide +kernel
theorem dX4_requireSize_14 : decode cX4_requireSize 14 = .ok (.dup, 1) := by decide +kernel
theorem dX4_requireSize_15 : decode cX4_requireSize 15 = .ok (.ldc_w 281, 3) := by decide +kernel
theorem dX4_requireSize_18 : decode cX4_requireSize 18 = .ok (.invokespecial 176, 3) := by decide +kernel
theorem dX4_requireSize_21 : decode cX4_requireSize 21 = .ok (.athrow, 1) := by decide +kernel
theorem dX4_requireSize_22 : decode cX4_requireSize 22 = .ok (.return_, 1) := by decide +kernel
theorem dX4_requireWord_0 : decode cX4_requireWord 0 = .ok (.iload_n 2, 1) := by decide +kernel
theorem dX4_requireWord_1 : decode cX4_requireWord 1 = .ok (.ifCond .lt 13, 3) := by decide +kernel
theorem dX4_requireWord_4 : decode cX4_requireWord 4 = .ok (.iload_n 2, 1) := by decide +kernel
theorem dX4_requireWord_5 : decode cX4_requireWord 5 = .ok (.aload_n 1, 1) := by decide +kernel
theorem dX4_requireWord_6 : decode cX4_requireWord 6 = .ok (.getfield 74, 3) := by decide +kernel
theorem dX4_requireWord_9 : decode cX4_requireWord 9 = .ok (.iconst 4, 1) := by decide +kernel
theorem dX4_requireWord_10 : decode cX4_requireWord 10 = .ok (.imul, 1) := by decide +kernel
theorem dX4_requireWord_11 : decode cX4_requireWord 11 = .ok (.if_icmp .lt 14, 3) := by decide +kernel
theorem dX4_requireWord_14 : decode cX4_requireWord 14 = .ok (.new 148, 3) := by decide +kernel
theorem dX4_requireWord_17 : decode cX4_requireWord 17 = .ok (.dup, 1) := by decide +kernel
theorem dX4_requireWord_18 : decode cX4_requireWord 18 = .ok (.ldc_w 283, 3) := by decide +kernel
theorem dX4_requireWord_21 : decode cX4_requireWord 21 = .ok (.invokespecial 152, 3) := by decide +kernel
theorem dX4_requireWord_24 : decode cX4_requireWord 24 = .ok (.athrow, 1) := by decide +kernel
theorem dX4_requireWord_25 : decode cX4_requireWord 25 = .ok (.return_, 1) := by decide +kernel
theorem dX4_requireNoneWaits_0 : decode cX4_requireNoneWaits 0 = .ok (.aload_n 0, 1) := by decide +kernel
theorem dX4_requireNoneWaits_1 : decode cX4_requireNoneWaits 1 = .ok (.getfield 34, 3) := by decide +kernel
theorem dX4_requireNoneWaits_4 : decode cX4_requireNoneWaits 4 = .ok (.iload_n 1, 1) := by decide +kernel
theorem dX4_requireNoneWaits_5 : decode cX4_requireNoneWaits 5 = .ok (.iload_n 2, 1) := by decide +kernel
theorem dX4_requireNoneWaits_6 : decode cX4_requireNoneWaits 6 = .ok (.iload_n 3, 1) := by decide +kernel
theorem dX4_requireNoneWaits_7 : decode cX4_requireNoneWaits 7 = .ok (.invokevirtual 122, 3) := by decide +kernel
theorem dX4_requireNoneWaits_10 : decode cX4_requireNoneWaits 10 = .ok (.ifCond .eq 14, 3) := by decide +kernel
theorem dX4_requireNoneWaits_13 : decode cX4_requireNoneWaits 13 = .ok (.new 56, 3) := by decide +kernel
theorem dX4_requireNoneWaits_16 : decode cX4_requireNoneWaits 16 = .ok (.dup, 1) := by decide +kernel
theorem dX4_requireNoneWaits_17 : decode cX4_requireNoneWaits 17 = .ok (.ldc_w 285, 3) := by decide +kernel
theorem dX4_requireNoneWaits_20 : decode cX4_requireNoneWaits 20 = .ok (.invokespecial 60, 3) := by decide +kernel
theorem dX4_requireNoneWaits_23 : decode cX4_requireNoneWaits 23 = .ok (.athrow, 1) := by decide +kernel
theorem dX4_requireNoneWaits_24 : decode cX4_requireNoneWaits 24 = .ok (.return_, 1) := by decide +kernel
theorem dX4_requireNotNegative_0 : decode cX4_requireNotNegative 0 = .ok (.iload_n 1, 1) := by decide +kernel
theorem dX4_requireNotNegative_1 : decode cX4_requireNotNegative 1 = .ok (.ifCond .ge 14, 3) := by decide +kernel
theorem dX4_requireNotNegative_4 : decode cX4_requireNotNegative 4 = .ok (.new 172, 3) := by decide +kernel
theorem dX4_requireNotNegative_7 : decode cX4_requireNotNegative 7 = .ok (.dup, 1) := by decide +kernel
theorem dX4_requireNotNegative_8 : decode cX4_requireNotNegative 8 = .ok (.ldc_w 287, 3) := by decide +kernel
theorem dX4_requireNotNegative_11 : decode cX4_requireNotNegative 11 = .ok (.invokespecial 176, 3) := by decide +kernel
theorem dX4_requireNotNegative_14 : decode cX4_requireNotNegative 14 = .ok (.athrow, 1) := by decide +kernel
theorem dX4_requireNotNegative_15 : decode cX4_requireNotNegative 15 = .ok (.return_, 1) := by decide +kernel
theorem dX4_requireExtent_0 : decode cX4_requireExtent 0 = .ok (.iload_n 1, 1) := by decide +kernel
theorem dX4_requireExtent_1 : decode cX4_requireExtent 1 = .ok (.ifCond .lt 14, 3) := by decide +kernel
theorem dX4_requireExtent_4 : decode cX4_requireExtent 4 = .ok (.iload_n 1, 1) := by decide +kernel
theorem dX4_requireExtent_5 : decode cX4_requireExtent 5 = .ok (.aload_n 0, 1) := by decide +kernel
theorem dX4_requireExtent_6 : decode cX4_requireExtent 6 = .ok (.getfield 27, 3) := by decide +kernel
theorem dX4_requireExtent_9 : decode cX4_requireExtent 9 = .ok (.getfield 156, 3) := by decide +kernel
theorem dX4_requireExtent_12 : decode cX4_requireExtent 12 = .ok (.if_icmp .lt 14, 3) := by decide +kernel
theorem dX4_requireExtent_15 : decode cX4_requireExtent 15 = .ok (.new 148, 3) := by decide +kernel
theorem dX4_requireExtent_18 : decode cX4_requireExtent 18 = .ok (.dup, 1) := by decide +kernel
theorem dX4_requireExtent_19 : decode cX4_requireExtent 19 = .ok (.ldc_w 289, 3) := by decide +kernel
theorem dX4_requireExtent_22 : decode cX4_requireExtent 22 = .ok (.invokespecial 152, 3) := by decide +kernel
theorem dX4_requireExtent_25 : decode cX4_requireExtent 25 = .ok (.athrow, 1) := by decide +kernel
theorem dX4_requireExtent_26 : decode cX4_requireExtent 26 = .ok (.return_, 1) := by decide +kernel
theorem dX4_stateOf_0 : decode cX4_stateOf 0 = .ok (.iload_n 1, 1) := by decide +kernel
theorem dX4_stateOf_1 : decode cX4_stateOf 1 = .ok (.tableswitch 42 0 2 #[27, 32, 37], 27) := by decide +kernel
theorem dX4_stateOf_28 : decode cX4_stateOf 28 = .ok (.aload_n 0, 1) := by decide +kernel
theorem dX4_stateOf_29 : decode cX4_stateOf 29 = .ok (.getfield 10, 3) := by decide +kernel
theorem dX4_stateOf_32 : decode cX4_stateOf 32 = .ok (.areturn, 1) := by decide +kernel
theorem dX4_stateOf_33 : decode cX4_stateOf 33 = .ok (.aload_n 0, 1) := by decide +kernel
theorem dX4_stateOf_34 : decode cX4_stateOf 34 = .ok (.getfield 16, 3) := by decide +kernel
theorem dX4_stateOf_37 : decode cX4_stateOf 37 = .ok (.areturn, 1) := by decide +kernel
theorem dX4_stateOf_38 : decode cX4_stateOf 38 = .ok (.aload_n 0, 1) := by decide +kernel
theorem dX4_stateOf_39 : decode cX4_stateOf 39 = .ok (.getfield 19, 3) := by decide +kernel
theorem dX4_stateOf_42 : decode cX4_stateOf 42 = .ok (.areturn, 1) := by decide +kernel
theorem dX4_stateOf_43 : decode cX4_stateOf 43 = .ok (.new 172, 3) := by decide +kernel
theorem dX4_stateOf_46 : decode cX4_stateOf 46 = .ok (.dup, 1) := by decide +kernel
theorem dX4_stateOf_47 : decode cX4_stateOf 47 = .ok (.ldc_w 291, 3) := by decide +kernel
theorem dX4_stateOf_50 : decode cX4_stateOf 50 = .ok (.invokespecial 176, 3) := by decide +kernel
theorem dX4_stateOf_53 : decode cX4_stateOf 53 = .ok (.athrow, 1) := by decide +kernel
theorem dX4_needsExtent_0 : decode cX4_needsExtent 0 = .ok (.aload_n 0, 1) := by decide +kernel
theorem dX4_needsExtent_1 : decode cX4_needsExtent 1 = .ok (.getfield 27, 3) := by decide +kernel
theorem dX4_needsExtent_4 : decode cX4_needsExtent 4 = .ok (.aload_n 1, 1) := by decide +kernel
theorem dX4_needsExtent_5 : decode cX4_needsExtent 5 = .ok (.iload_n 2, 1) := by decide +kernel
theorem dX4_needsExtent_6 : decode cX4_needsExtent 6 = .ok (.invokevirtual 83, 3) := by decide +kernel
theorem dX4_needsExtent_9 : decode cX4_needsExtent 9 = .ok (.invokevirtual 293, 3) := by decide +kernel
theorem dX4_needsExtent_12 : decode cX4_needsExtent 12 = .ok (.ifCond .ne 7, 3) := by decide +kernel
theorem dX4_needsExtent_15 : decode cX4_needsExtent 15 = .ok (.iconst 1, 1) := by decide +kernel
theorem dX4_needsExtent_16 : decode cX4_needsExtent 16 = .ok (.goto 4, 3) := by decide +kernel
theorem dX4_needsExtent_19 : decode cX4_needsExtent 19 = .ok (.iconst 0, 1) := by decide +kernel
theorem dX4_needsExtent_20 : decode cX4_needsExtent 20 = .ok (.ireturn, 1) := by decide +kernel
theorem dX4_isOver_0 : decode cX4_isOver 0 = .ok (.aload_n 1, 1) := by decide +kernel
theorem dX4_isOver_1 : decode cX4_isOver 1 = .ok (.iload_n 2, 1) := by decide +kernel
theorem dX4_isOver_2 : decode cX4_isOver 2 = .ok (.invokevirtual 83, 3) := by decide +kernel
theorem dX4_isOver_5 : decode cX4_isOver 5 = .ok (.iconst (-1), 1) := by decide +kernel
theorem dX4_isOver_6 : decode cX4_isOver 6 = .ok (.if_icmp .ne 26, 3) := by decide +kernel
theorem dX4_isOver_9 : decode cX4_isOver 9 = .ok (.aload_n 1, 1) := by decide +kernel
theorem dX4_isOver_10 : decode cX4_isOver 10 = .ok (.getfield 80, 3) := by decide +kernel
theorem dX4_isOver_13 : decode cX4_isOver 13 = .ok (.iconst (-1), 1) := by decide +kernel
theorem dX4_isOver_14 : decode cX4_isOver 14 = .ok (.if_icmp .eq 18, 3) := by decide +kernel
theorem dX4_isOver_17 : decode cX4_isOver 17 = .ok (.aload_n 1, 1) := by decide +kernel
theorem dX4_isOver_18 : decode cX4_isOver 18 = .ok (.getfield 91, 3) := by decide +kernel
theorem dX4_isOver_21 : decode cX4_isOver 21 = .ok (.aload_n 1, 1) := by decide +kernel
theorem dX4_isOver_22 : decode cX4_isOver 22 = .ok (.getfield 80, 3) := by decide +kernel
theorem dX4_isOver_25 : decode cX4_isOver 25 = .ok (.if_icmp .lt 7, 3) := by decide +kernel
theorem dX4_isOver_28 : decode cX4_isOver 28 = .ok (.iconst 1, 1) := by decide +kernel
theorem dX4_isOver_29 : decode cX4_isOver 29 = .ok (.goto 4, 3) := by decide +kernel
theorem dX4_isOver_32 : decode cX4_isOver 32 = .ok (.iconst 0, 1) := by decide +kernel
theorem dX4_isOver_33 : decode cX4_isOver 33 = .ok (.ireturn, 1) := by decide +kernel
theorem dX4_writeNeeding_0 : decode cX4_writeNeeding 0 = .ok (.aload_n 0, 1) := by decide +kernel
theorem dX4_writeNeeding_1 : decode cX4_writeNeeding 1 = .ok (.getfield 119, 3) := by decide +kernel
theorem dX4_writeNeeding_4 : decode cX4_writeNeeding 4 = .ok (.iconst 1, 1) := by decide +kernel
theorem dX4_writeNeeding_5 : decode cX4_writeNeeding 5 = .ok (.if_icmp .ne 12, 3) := by decide +kernel
theorem dX4_writeNeeding_8 : decode cX4_writeNeeding 8 = .ok (.aload_n 0, 1) := by decide +kernel
theorem dX4_writeNeeding_9 : decode cX4_writeNeeding 9 = .ok (.iload_n 2, 1) := by decide +kernel
theorem dX4_writeNeeding_10 : decode cX4_writeNeeding 10 = .ok (.iload_n 3, 1) := by decide +kernel
theorem dX4_writeNeeding_11 : decode cX4_writeNeeding 11 = .ok (.iload 4, 2) := by decide +kernel
theorem dX4_writeNeeding_13 : decode cX4_writeNeeding 13 = .ok (.invokevirtual 126, 3) := by decide +kernel
theorem dX4_writeNeeding_16 : decode cX4_writeNeeding 16 = .ok (.ireturn, 1) := by decide +kernel
theorem dX4_writeNeeding_17 : decode cX4_writeNeeding 17 = .ok (.aload_n 0, 1) := by decide +kernel
theorem dX4_writeNeeding_18 : decode cX4_writeNeeding 18 = .ok (.getfield 27, 3) := by decide +kernel
theorem dX4_writeNeeding_21 : decode cX4_writeNeeding 21 = .ok (.invokevirtual 264, 3) := by decide +kernel
theorem dX4_writeNeeding_24 : decode cX4_writeNeeding 24 = .ok (.ifCond .le 17, 3) := by decide +kernel
theorem dX4_writeNeeding_27 : decode cX4_writeNeeding 27 = .ok (.aload_n 0, 1) := by decide +kernel
theorem dX4_writeNeeding_28 : decode cX4_writeNeeding 28 = .ok (.iconst 0, 1) := by decide +kernel
theorem dX4_writeNeeding_29 : decode cX4_writeNeeding 29 = .ok (.putfield 119, 3) := by decide +kernel
theorem dX4_writeNeeding_32 : decode cX4_writeNeeding 32 = .ok (.aload_n 0, 1) := by decide +kernel
theorem dX4_writeNeeding_33 : decode cX4_writeNeeding 33 = .ok (.aload_n 1, 1) := by decide +kernel
theorem dX4_writeNeeding_34 : decode cX4_writeNeeding 34 = .ok (.iload_n 3, 1) := by decide +kernel
theorem dX4_writeNeeding_35 : decode cX4_writeNeeding 35 = .ok (.iload 4, 2) := by decide +kernel
theorem dX4_writeNeeding_37 : decode cX4_writeNeeding 37 = .ok (.invokevirtual 134, 3) := by decide +kernel
theorem dX4_writeNeeding_40 : decode cX4_writeNeeding 40 = .ok (.ireturn, 1) := by decide +kernel
theorem dX4_writeNeeding_41 : decode cX4_writeNeeding 41 = .ok (.aload_n 0, 1) := by decide +kernel
theorem dX4_writeNeeding_42 : decode cX4_writeNeeding 42 = .ok (.getfield 119, 3) := by decide +kernel
theorem dX4_writeNeeding_45 : decode cX4_writeNeeding 45 = .ok (.ifCond .ne 37, 3) := by decide +kernel
theorem dX4_writeNeeding_48 : decode cX4_writeNeeding 48 = .ok (.aload_n 0, 1) := by decide +kernel
theorem dX4_writeNeeding_49 : decode cX4_writeNeeding 49 = .ok (.getfield 210, 3) := by decide +kernel
theorem dX4_writeNeeding_52 : decode cX4_writeNeeding 52 = .ok (.ifCond .le 30, 3) := by decide +kernel
theorem dX4_writeNeeding_55 : decode cX4_writeNeeding 55 = .ok (.aload_n 0, 1) := by decide +kernel
theorem dX4_writeNeeding_56 : decode cX4_writeNeeding 56 = .ok (.iconst 1, 1) := by decide +kernel
theorem dX4_writeNeeding_57 : decode cX4_writeNeeding 57 = .ok (.putfield 119, 3) := by decide +kernel
theorem dX4_writeNeeding_60 : decode cX4_writeNeeding 60 = .ok (.aload_n 0, 1) := by decide +kernel
theorem dX4_writeNeeding_61 : decode cX4_writeNeeding 61 = .ok (.aload_n 0, 1) := by decide +kernel
theorem dX4_writeNeeding_62 : decode cX4_writeNeeding 62 = .ok (.getfield 220, 3) := by decide +kernel
theorem dX4_writeNeeding_65 : decode cX4_writeNeeding 65 = .ok (.aload_n 0, 1) := by decide +kernel
theorem dX4_writeNeeding_66 : decode cX4_writeNeeding 66 = .ok (.getfield 210, 3) := by decide +kernel
theorem dX4_writeNeeding_69 : decode cX4_writeNeeding 69 = .ok (.iadd, 1) := by decide +kernel
theorem dX4_writeNeeding_70 : decode cX4_writeNeeding 70 = .ok (.putfield 223, 3) := by decide +kernel
theorem dX4_writeNeeding_73 : decode cX4_writeNeeding 73 = .ok (.aload_n 0, 1) := by decide +kernel
theorem dX4_writeNeeding_74 : decode cX4_writeNeeding 74 = .ok (.iload_n 2, 1) := by decide +kernel
theorem dX4_writeNeeding_75 : decode cX4_writeNeeding 75 = .ok (.iload_n 3, 1) := by decide +kernel
theorem dX4_writeNeeding_76 : decode cX4_writeNeeding 76 = .ok (.iload 4, 2) := by decide +kernel
theorem dX4_writeNeeding_78 : decode cX4_writeNeeding 78 = .ok (.invokevirtual 126, 3) := by decide +kernel
theorem dX4_writeNeeding_81 : decode cX4_writeNeeding 81 = .ok (.ireturn, 1) := by decide +kernel
theorem dX4_writeNeeding_82 : decode cX4_writeNeeding 82 = .ok (.aload_n 0, 1) := by decide +kernel
theorem dX4_writeNeeding_83 : decode cX4_writeNeeding 83 = .ok (.iconst 2, 1) := by decide +kernel
theorem dX4_writeNeeding_84 : decode cX4_writeNeeding 84 = .ok (.putfield 119, 3) := by decide +kernel
theorem dX4_writeNeeding_87 : decode cX4_writeNeeding 87 = .ok (.iconst (-1), 1) := by decide +kernel
theorem dX4_writeNeeding_88 : decode cX4_writeNeeding 88 = .ok (.ireturn, 1) := by decide +kernel
theorem dX4_enqueue_0 : decode cX4_enqueue 0 = .ok (.aload_n 0, 1) := by decide +kernel
theorem dX4_enqueue_1 : decode cX4_enqueue 1 = .ok (.getfield 34, 3) := by decide +kernel
theorem dX4_enqueue_4 : decode cX4_enqueue 4 = .ok (.iload_n 1, 1) := by decide +kernel
theorem dX4_enqueue_5 : decode cX4_enqueue 5 = .ok (.iload_n 2, 1) := by decide +kernel
theorem dX4_enqueue_6 : decode cX4_enqueue 6 = .ok (.iload_n 3, 1) := by decide +kernel
theorem dX4_enqueue_7 : decode cX4_enqueue 7 = .ok (.invokevirtual 297, 3) := by decide +kernel
theorem dX4_enqueue_10 : decode cX4_enqueue 10 = .ok (.ifCond .eq 7, 3) := by decide +kernel
theorem dX4_enqueue_13 : decode cX4_enqueue 13 = .ok (.iconst 3, 1) := by decide +kernel
theorem dX4_enqueue_14 : decode cX4_enqueue 14 = .ok (.goto 4, 3) := by decide +kernel
theorem dX4_enqueue_17 : decode cX4_enqueue 17 = .ok (.iconst (-1), 1) := by decide +kernel
theorem dX4_enqueue_18 : decode cX4_enqueue 18 = .ok (.ireturn, 1) := by decide +kernel
theorem dX4_perform_0 : decode cX4_perform 0 = .ok (.iload_n 2, 1) := by decide +kernel
theorem dX4_perform_1 : decode cX4_perform 1 = .ok (.iconst 4, 1) := by decide +kernel
theorem dX4_perform_2 : decode cX4_perform 2 = .ok (.idiv, 1) := by decide +kernel
theorem dX4_perform_3 : decode cX4_perform 3 = .ok (.istore 4, 2) := by decide +kernel
theorem dX4_perform_5 : decode cX4_perform 5 = .ok (.aload_n 1, 1) := by decide +kernel
theorem dX4_perform_6 : decode cX4_perform 6 = .ok (.iload 4, 2) := by decide +kernel
theorem dX4_perform_8 : decode cX4_perform 8 = .ok (.invokevirtual 83, 3) := by decide +kernel
theorem dX4_perform_11 : decode cX4_perform 11 = .ok (.istore 5, 2) := by decide +kernel
theorem dX4_perform_13 : decode cX4_perform 13 = .ok (.aload_n 0, 1) := by decide +kernel
theorem dX4_perform_14 : decode cX4_perform 14 = .ok (.getfield 27, 3) := by decide +kernel
theorem dX4_perform_17 : decode cX4_perform 17 = .ok (.iload 5, 2) := by decide +kernel
theorem dX4_perform_19 : decode cX4_perform 19 = .ok (.invokevirtual 293, 3) := by decide +kernel
theorem dX4_perform_22 : decode cX4_perform 22 = .ok (.ifCond .eq 18, 3) := by decide +kernel
theorem dX4_perform_25 : decode cX4_perform 25 = .ok (.aload_n 0, 1) := by decide +kernel
theorem dX4_perform_26 : decode cX4_perform 26 = .ok (.getfield 27, 3) := by decide +kernel
theorem dX4_perform_29 : decode cX4_perform 29 = .ok (.iload 5, 2) := by decide +kernel
theorem dX4_perform_31 : decode cX4_perform 31 = .ok (.iload_n 2, 1) := by decide +kernel
theorem dX4_perform_32 : decode cX4_perform 32 = .ok (.iconst 4, 1) := by decide +kernel
theorem dX4_perform_33 : decode cX4_perform 33 = .ok (.irem, 1) := by decide +kernel
theorem dX4_perform_34 : decode cX4_perform 34 = .ok (.iload_n 3, 1) := by decide +kernel
theorem dX4_perform_35 : decode cX4_perform 35 = .ok (.invokevirtual 299, 3) := by decide +kernel
theorem dX4_perform_38 : decode cX4_perform 38 = .ok (.iconst 0, 1) := by decide +kernel
theorem dX4_perform_39 : decode cX4_perform 39 = .ok (.ireturn, 1) := by decide +kernel
theorem dX4_perform_40 : decode cX4_perform 40 = .ok (.aload_n 0, 1) := by decide +kernel
theorem dX4_perform_41 : decode cX4_perform 41 = .ok (.getfield 27, 3) := by decide +kernel
theorem dX4_perform_44 : decode cX4_perform 44 = .ok (.invokevirtual 302, 3) := by decide +kernel
theorem dX4_perform_47 : decode cX4_perform 47 = .ok (.istore 6, 2) := by decide +kernel
theorem dX4_perform_49 : decode cX4_perform 49 = .ok (.iload 6, 2) := by decide +kernel
theorem dX4_perform_51 : decode cX4_perform 51 = .ok (.iconst (-1), 1) := by decide +kernel
theorem dX4_perform_52 : decode cX4_perform 52 = .ok (.if_icmp .ne 5, 3) := by decide +kernel
theorem dX4_perform_55 : decode cX4_perform 55 = .ok (.iconst (-1), 1) := by decide +kernel
theorem dX4_perform_56 : decode cX4_perform 56 = .ok (.ireturn, 1) := by decide +kernel
theorem dX4_perform_57 : decode cX4_perform 57 = .ok (.iconst 0, 1) := by decide +kernel
theorem dX4_perform_58 : decode cX4_perform 58 = .ok (.istore 7, 2) := by decide +kernel
theorem dX4_perform_60 : decode cX4_perform 60 = .ok (.iload 7, 2) := by decide +kernel
theorem dX4_perform_62 : decode cX4_perform 62 = .ok (.iconst 4, 1) := by decide +kernel
theorem dX4_perform_63 : decode cX4_perform 63 = .ok (.if_icmp .ge 32, 3) := by decide +kernel
theorem dX4_perform_66 : decode cX4_perform 66 = .ok (.aload_n 0, 1) := by decide +kernel
theorem dX4_perform_67 : decode cX4_perform 67 = .ok (.getfield 27, 3) := by decide +kernel
theorem dX4_perform_70 : decode cX4_perform 70 = .ok (.iload 6, 2) := by decide +kernel
theorem dX4_perform_72 : decode cX4_perform 72 = .ok (.iload 7, 2) := by decide +kernel
theorem dX4_perform_74 : decode cX4_perform 74 = .ok (.aload_n 0, 1) := by decide +kernel
theorem dX4_perform_75 : decode cX4_perform 75 = .ok (.aload_n 1, 1) := by decide +kernel
theorem dX4_perform_76 : decode cX4_perform 76 = .ok (.iload 4, 2) := by decide +kernel
theorem dX4_perform_78 : decode cX4_perform 78 = .ok (.iconst 4, 1) := by decide +kernel
theorem dX4_perform_79 : decode cX4_perform 79 = .ok (.imul, 1) := by decide +kernel
theorem dX4_perform_80 : decode cX4_perform 80 = .ok (.iload 7, 2) := by decide +kernel
theorem dX4_perform_82 : decode cX4_perform 82 = .ok (.iadd, 1) := by decide +kernel
theorem dX4_perform_83 : decode cX4_perform 83 = .ok (.invokevirtual 144, 3) := by decide +kernel
theorem dX4_perform_86 : decode cX4_perform 86 = .ok (.invokevirtual 299, 3) := by decide +kernel
theorem dX4_perform_89 : decode cX4_perform 89 = .ok (.iinc 7 1, 3) := by decide +kernel
theorem dX4_perform_92 : decode cX4_perform 92 = .ok (.goto (-32), 3) := by decide +kernel
theorem dX4_perform_95 : decode cX4_perform 95 = .ok (.aload_n 0, 1) := by decide +kernel
theorem dX4_perform_96 : decode cX4_perform 96 = .ok (.getfield 27, 3) := by decide +kernel
theorem dX4_perform_99 : decode cX4_perform 99 = .ok (.iload 6, 2) := by decide +kernel
theorem dX4_perform_101 : decode cX4_perform 101 = .ok (.iload_n 2, 1) := by decide +kernel
theorem dX4_perform_102 : decode cX4_perform 102 = .ok (.iconst 4, 1) := by decide +kernel
theorem dX4_perform_103 : decode cX4_perform 103 = .ok (.irem, 1) := by decide +kernel
theorem dX4_perform_104 : decode cX4_perform 104 = .ok (.iload_n 3, 1) := by decide +kernel
theorem dX4_perform_105 : decode cX4_perform 105 = .ok (.invokevirtual 299, 3) := by decide +kernel
theorem dX4_perform_108 : decode cX4_perform 108 = .ok (.aload_n 0, 1) := by decide +kernel
theorem dX4_perform_109 : decode cX4_perform 109 = .ok (.getfield 10, 3) := by decide +kernel
theorem dX4_perform_112 : decode cX4_perform 112 = .ok (.aload_n 1, 1) := by decide +kernel
theorem dX4_perform_113 : decode cX4_perform 113 = .ok (.iload 4, 2) := by decide +kernel
theorem dX4_perform_115 : decode cX4_perform 115 = .ok (.iload 6, 2) := by decide +kernel
theorem dX4_perform_117 : decode cX4_perform 117 = .ok (.invokevirtual 87, 3) := by decide +kernel
theorem dX4_perform_120 : decode cX4_perform 120 = .ok (.aload_n 0, 1) := by decide +kernel
theorem dX4_perform_121 : decode cX4_perform 121 = .ok (.getfield 27, 3) := by decide +kernel
theorem dX4_perform_124 : decode cX4_perform 124 = .ok (.invokevirtual 264, 3) := by decide +kernel
theorem dX4_perform_127 : decode cX4_perform 127 = .ok (.aload_n 0, 1) := by decide +kernel
theorem dX4_perform_128 : decode cX4_perform 128 = .ok (.getfield 27, 3) := by decide +kernel
theorem dX4_perform_131 : decode cX4_perform 131 = .ok (.getfield 215, 3) := by decide +kernel
theorem dX4_perform_134 : decode cX4_perform 134 = .ok (.if_icmp .ne 16, 3) := by decide +kernel
theorem dX4_perform_137 : decode cX4_perform 137 = .ok (.aload_n 0, 1) := by decide +kernel
theorem dX4_perform_138 : decode cX4_perform 138 = .ok (.getfield 27, 3) := by decide +kernel
theorem dX4_perform_141 : decode cX4_perform 141 = .ok (.dup, 1) := by decide +kernel
theorem dX4_perform_142 : decode cX4_perform 142 = .ok (.getfield 268, 3) := by decide +kernel
theorem dX4_perform_145 : decode cX4_perform 145 = .ok (.iconst 1, 1) := by decide +kernel
theorem dX4_perform_146 : decode cX4_perform 146 = .ok (.iadd, 1) := by decide +kernel
theorem dX4_perform_147 : decode cX4_perform 147 = .ok (.putfield 268, 3) := by decide +kernel
theorem dX4_perform_150 : decode cX4_perform 150 = .ok (.iload 5, 2) := by decide +kernel
theorem dX4_perform_152 : decode cX4_perform 152 = .ok (.iconst (-1), 1) := by decide +kernel
theorem dX4_perform_153 : decode cX4_perform 153 = .ok (.if_icmp .ne 7, 3) := by decide +kernel
theorem dX4_perform_156 : decode cX4_perform 156 = .ok (.iconst 1, 1) := by decide +kernel
theorem dX4_perform_157 : decode cX4_perform 157 = .ok (.goto 4, 3) := by decide +kernel
theorem dX4_perform_160 : decode cX4_perform 160 = .ok (.iconst 2, 1) := by decide +kernel
theorem dX4_perform_161 : decode cX4_perform 161 = .ok (.ireturn, 1) := by decide +kernel
theorem dX4_wordOf_0 : decode cX4_wordOf 0 = .ok (.aload_n 1, 1) := by decide +kernel
theorem dX4_wordOf_1 : decode cX4_wordOf 1 = .ok (.iload_n 2, 1) := by decide +kernel
theorem dX4_wordOf_2 : decode cX4_wordOf 2 = .ok (.iconst 4, 1) := by decide +kernel
theorem dX4_wordOf_3 : decode cX4_wordOf 3 = .ok (.idiv, 1) := by decide +kernel
theorem dX4_wordOf_4 : decode cX4_wordOf 4 = .ok (.invokevirtual 83, 3) := by decide +kernel
theorem dX4_wordOf_7 : decode cX4_wordOf 7 = .ok (.istore_n 3, 1) := by decide +kernel
theorem dX4_wordOf_8 : decode cX4_wordOf 8 = .ok (.iload_n 3, 1) := by decide +kernel
theorem dX4_wordOf_9 : decode cX4_wordOf 9 = .ok (.iconst (-1), 1) := by decide +kernel
theorem dX4_wordOf_10 : decode cX4_wordOf 10 = .ok (.if_icmp .eq 15, 3) := by decide +kernel
theorem dX4_wordOf_13 : decode cX4_wordOf 13 = .ok (.aload_n 0, 1) := by decide +kernel
theorem dX4_wordOf_14 : decode cX4_wordOf 14 = .ok (.getfield 27, 3) := by decide +kernel
theorem dX4_wordOf_17 : decode cX4_wordOf 17 = .ok (.iload_n 3, 1) := by decide +kernel
theorem dX4_wordOf_18 : decode cX4_wordOf 18 = .ok (.iload_n 2, 1) := by decide +kernel
theorem dX4_wordOf_19 : decode cX4_wordOf 19 = .ok (.iconst 4, 1) := by decide +kernel
theorem dX4_wordOf_20 : decode cX4_wordOf 20 = .ok (.irem, 1) := by decide +kernel
theorem dX4_wordOf_21 : decode cX4_wordOf 21 = .ok (.invokevirtual 305, 3) := by decide +kernel
theorem dX4_wordOf_24 : decode cX4_wordOf 24 = .ok (.ireturn, 1) := by decide +kernel
theorem dX4_wordOf_25 : decode cX4_wordOf 25 = .ok (.aload_n 1, 1) := by decide +kernel
theorem dX4_wordOf_26 : decode cX4_wordOf 26 = .ok (.getfield 77, 3) := by decide +kernel
theorem dX4_wordOf_29 : decode cX4_wordOf 29 = .ok (.ifCond .eq 25, 3) := by decide +kernel
theorem dX4_wordOf_32 : decode cX4_wordOf 32 = .ok (.iload_n 2, 1) := by decide +kernel
theorem dX4_wordOf_33 : decode cX4_wordOf 33 = .ok (.ifCond .lt 21, 3) := by decide +kernel
theorem dX4_wordOf_36 : decode cX4_wordOf 36 = .ok (.iload_n 2, 1) := by decide +kernel
theorem dX4_wordOf_37 : decode cX4_wordOf 37 = .ok (.aload_n 0, 1) := by decide +kernel
theorem dX4_wordOf_38 : decode cX4_wordOf 38 = .ok (.getfield 38, 3) := by decide +kernel
theorem dX4_wordOf_41 : decode cX4_wordOf 41 = .ok (.arraylength, 1) := by decide +kernel
theorem dX4_wordOf_42 : decode cX4_wordOf 42 = .ok (.if_icmp .ge 12, 3) := by decide +kernel
theorem dX4_wordOf_45 : decode cX4_wordOf 45 = .ok (.aload_n 0, 1) := by decide +kernel
theorem dX4_wordOf_46 : decode cX4_wordOf 46 = .ok (.getfield 38, 3) := by decide +kernel
theorem dX4_wordOf_49 : decode cX4_wordOf 49 = .ok (.iload_n 2, 1) := by decide +kernel
theorem dX4_wordOf_50 : decode cX4_wordOf 50 = .ok (.iaload, 1) := by decide +kernel
theorem dX4_wordOf_51 : decode cX4_wordOf 51 = .ok (.goto 4, 3) := by decide +kernel
theorem dX4_wordOf_54 : decode cX4_wordOf 54 = .ok (.iconst 0, 1) := by decide +kernel
theorem dX4_wordOf_55 : decode cX4_wordOf 55 = .ok (.ireturn, 1) := by decide +kernel
theorem dX4_writeHead_0 : decode cX4_writeHead 0 = .ok (.aload_n 0, 1) := by decide +kernel
theorem dX4_writeHead_1 : decode cX4_writeHead 1 = .ok (.getfield 16, 3) := by decide +kernel
theorem dX4_writeHead_4 : decode cX4_writeHead 4 = .ok (.aload_n 0, 1) := by decide +kernel
theorem dX4_writeHead_5 : decode cX4_writeHead 5 = .ok (.getfield 10, 3) := by decide +kernel
theorem dX4_writeHead_8 : decode cX4_writeHead 8 = .ok (.invokevirtual 192, 3) := by decide +kernel
theorem dX4_writeHead_11 : decode cX4_writeHead 11 = .ok (.aload_n 0, 1) := by decide +kernel
theorem dX4_writeHead_12 : decode cX4_writeHead 12 = .ok (.dup, 1) := by decide +kernel
theorem dX4_writeHead_13 : decode cX4_writeHead 13 = .ok (.getfield 187, 3) := by decide +kernel
theorem dX4_writeHead_16 : decode cX4_writeHead 16 = .ok (.iconst 1, 1) := by decide +kernel
theorem dX4_writeHead_17 : decode cX4_writeHead 17 = .ok (.iadd, 1) := by decide +kernel
theorem dX4_writeHead_18 : decode cX4_writeHead 18 = .ok (.putfield 187, 3) := by decide +kernel
theorem dX4_writeHead_21 : decode cX4_writeHead 21 = .ok (.return_, 1) := by decide +kernel
theorem dX4_serveQueue_0 : decode cX4_serveQueue 0 = .ok (.aload_n 0, 1) := by decide +kernel
theorem dX4_serveQueue_1 : decode cX4_serveQueue 1 = .ok (.getfield 119, 3) := by decide +kernel
theorem dX4_serveQueue_4 : decode cX4_serveQueue 4 = .ok (.iconst 1, 1) := by decide +kernel
theorem dX4_serveQueue_5 : decode cX4_serveQueue 5 = .ok (.if_icmp .eq 4, 3) := by decide +kernel
theorem dX4_serveQueue_8 : decode cX4_serveQueue 8 = .ok (.return_, 1) := by decide +kernel
theorem dX4_serveQueue_9 : decode cX4_serveQueue 9 = .ok (.iconst 0, 1) := by decide +kernel
theorem dX4_serveQueue_10 : decode cX4_serveQueue 10 = .ok (.istore_n 1, 1) := by decide +kernel
theorem dX4_serveQueue_11 : decode cX4_serveQueue 11 = .ok (.iload_n 1, 1) := by decide +kernel
theorem dX4_serveQueue_12 : decode cX4_serveQueue 12 = .ok (.bipush 8, 2) := by decide +kernel
theorem dX4_serveQueue_14 : decode cX4_serveQueue 14 = .ok (.if_icmp .ge 33, 3) := by decide +kernel
theorem dX4_serveQueue_17 : decode cX4_serveQueue 17 = .ok (.aload_n 0, 1) := by decide +kernel
theorem dX4_serveQueue_18 : decode cX4_serveQueue 18 = .ok (.getfield 34, 3) := by decide +kernel
theorem dX4_serveQueue_21 : decode cX4_serveQueue 21 = .ok (.getfield 267, 3) := by decide +kernel
theorem dX4_serveQueue_24 : decode cX4_serveQueue 24 = .ok (.ifCond .le 23, 3) := by decide +kernel
theorem dX4_serveQueue_27 : decode cX4_serveQueue 27 = .ok (.aload_n 0, 1) := by decide +kernel
theorem dX4_serveQueue_28 : decode cX4_serveQueue 28 = .ok (.invokevirtual 308, 3) := by decide +kernel
theorem dX4_serveQueue_31 : decode cX4_serveQueue 31 = .ok (.ifCond .eq 16, 3) := by decide +kernel
theorem dX4_serveQueue_34 : decode cX4_serveQueue 34 = .ok (.aload_n 0, 1) := by decide +kernel
theorem dX4_serveQueue_35 : decode cX4_serveQueue 35 = .ok (.getfield 34, 3) := by decide +kernel
theorem dX4_serveQueue_38 : decode cX4_serveQueue 38 = .ok (.invokevirtual 311, 3) := by decide +kernel
theorem dX4_serveQueue_41 : decode cX4_serveQueue 41 = .ok (.iinc 1 1, 3) := by decide +kernel
theorem dX4_serveQueue_44 : decode cX4_serveQueue 44 = .ok (.goto (-33), 3) := by decide +kernel
theorem dX4_serveQueue_47 : decode cX4_serveQueue 47 = .ok (.aload_n 0, 1) := by decide +kernel
theorem dX4_serveQueue_48 : decode cX4_serveQueue 48 = .ok (.getfield 34, 3) := by decide +kernel
theorem dX4_serveQueue_51 : decode cX4_serveQueue 51 = .ok (.getfield 267, 3) := by decide +kernel
theorem dX4_serveQueue_54 : decode cX4_serveQueue 54 = .ok (.ifCond .ne 8, 3) := by decide +kernel
theorem dX4_serveQueue_57 : decode cX4_serveQueue 57 = .ok (.aload_n 0, 1) := by decide +kernel
theorem dX4_serveQueue_58 : decode cX4_serveQueue 58 = .ok (.iconst 0, 1) := by decide +kernel
theorem dX4_serveQueue_59 : decode cX4_serveQueue 59 = .ok (.putfield 119, 3) := by decide +kernel
theorem dX4_serveQueue_62 : decode cX4_serveQueue 62 = .ok (.return_, 1) := by decide +kernel
theorem dX4_serveFirst_0 : decode cX4_serveFirst 0 = .ok (.aload_n 0, 1) := by decide +kernel
theorem dX4_serveFirst_1 : decode cX4_serveFirst 1 = .ok (.getfield 10, 3) := by decide +kernel
theorem dX4_serveFirst_4 : decode cX4_serveFirst 4 = .ok (.aload_n 0, 1) := by decide +kernel
theorem dX4_serveFirst_5 : decode cX4_serveFirst 5 = .ok (.getfield 34, 3) := by decide +kernel
theorem dX4_serveFirst_8 : decode cX4_serveFirst 8 = .ok (.iconst 0, 1) := by decide +kernel
theorem dX4_serveFirst_9 : decode cX4_serveFirst 9 = .ok (.invokevirtual 314, 3) := by decide +kernel
theorem dX4_serveFirst_12 : decode cX4_serveFirst 12 = .ok (.invokevirtual 276, 3) := by decide +kernel
theorem dX4_serveFirst_15 : decode cX4_serveFirst 15 = .ok (.astore_n 1, 1) := by decide +kernel
theorem dX4_serveFirst_16 : decode cX4_serveFirst 16 = .ok (.aload_n 0, 1) := by decide +kernel
theorem dX4_serveFirst_17 : decode cX4_serveFirst 17 = .ok (.getfield 34, 3) := by decide +kernel
theorem dX4_serveFirst_20 : decode cX4_serveFirst 20 = .ok (.iconst 0, 1) := by decide +kernel
theorem dX4_serveFirst_21 : decode cX4_serveFirst 21 = .ok (.invokevirtual 317, 3) := by decide +kernel
theorem dX4_serveFirst_24 : decode cX4_serveFirst 24 = .ok (.istore_n 2, 1) := by decide +kernel
theorem dX4_serveFirst_25 : decode cX4_serveFirst 25 = .ok (.aload_n 1, 1) := by decide +kernel
theorem dX4_serveFirst_26 : decode cX4_serveFirst 26 = .ok (.ifnull 14, 3) := by decide +kernel
theorem dX4_serveFirst_29 : decode cX4_serveFirst 29 = .ok (.aload_n 0, 1) := by decide +kernel
theorem dX4_serveFirst_30 : decode cX4_serveFirst 30 = .ok (.aload_n 1, 1) := by decide +kernel
theorem dX4_serveFirst_31 : decode cX4_serveFirst 31 = .ok (.iload_n 2, 1) := by decide +kernel
theorem dX4_serveFirst_32 : decode cX4_serveFirst 32 = .ok (.iconst 4, 1) := by decide +kernel
theorem dX4_serveFirst_33 : decode cX4_serveFirst 33 = .ok (.idiv, 1) := by decide +kernel
theorem dX4_serveFirst_34 : decode cX4_serveFirst 34 = .ok (.invokevirtual 137, 3) := by decide +kernel
theorem dX4_serveFirst_37 : decode cX4_serveFirst 37 = .ok (.ifCond .eq 15, 3) := by decide +kernel
theorem dX4_serveFirst_40 : decode cX4_serveFirst 40 = .ok (.aload_n 0, 1) := by decide +kernel
theorem dX4_serveFirst_41 : decode cX4_serveFirst 41 = .ok (.dup, 1) := by decide +kernel
theorem dX4_serveFirst_42 : decode cX4_serveFirst 42 = .ok (.getfield 94, 3) := by decide +kernel
theorem dX4_serveFirst_45 : decode cX4_serveFirst 45 = .ok (.iconst 1, 1) := by decide +kernel
theorem dX4_serveFirst_46 : decode cX4_serveFirst 46 = .ok (.iadd, 1) := by decide +kernel
theorem dX4_serveFirst_47 : decode cX4_serveFirst 47 = .ok (.putfield 94, 3) := by decide +kernel
theorem dX4_serveFirst_50 : decode cX4_serveFirst 50 = .ok (.iconst 1, 1) := by decide +kernel
theorem dX4_serveFirst_51 : decode cX4_serveFirst 51 = .ok (.ireturn, 1) := by decide +kernel
theorem dX4_serveFirst_52 : decode cX4_serveFirst 52 = .ok (.aload_n 0, 1) := by decide +kernel
theorem dX4_serveFirst_53 : decode cX4_serveFirst 53 = .ok (.aload_n 1, 1) := by decide +kernel
theorem dX4_serveFirst_54 : decode cX4_serveFirst 54 = .ok (.iload_n 2, 1) := by decide +kernel
theorem dX4_serveFirst_55 : decode cX4_serveFirst 55 = .ok (.iconst 4, 1) := by decide +kernel
theorem dX4_serveFirst_56 : decode cX4_serveFirst 56 = .ok (.idiv, 1) := by decide +kernel
theorem dX4_serveFirst_57 : decode cX4_serveFirst 57 = .ok (.invokevirtual 130, 3) := by decide +kernel
theorem dX4_serveFirst_60 : decode cX4_serveFirst 60 = .ok (.ifCond .eq 15, 3) := by decide +kernel
theorem dX4_serveFirst_63 : decode cX4_serveFirst 63 = .ok (.aload_n 0, 1) := by decide +kernel
theorem dX4_serveFirst_64 : decode cX4_serveFirst 64 = .ok (.getfield 27, 3) := by decide +kernel
theorem dX4_serveFirst_67 : decode cX4_serveFirst 67 = .ok (.invokevirtual 264, 3) := by decide +kernel
theorem dX4_serveFirst_70 : decode cX4_serveFirst 70 = .ok (.ifCond .ne 5, 3) := by decide +kernel
theorem dX4_serveFirst_73 : decode cX4_serveFirst 73 = .ok (.iconst 0, 1) := by decide +kernel
theorem dX4_serveFirst_74 : decode cX4_serveFirst 74 = .ok (.ireturn, 1) := by decide +kernel
theorem dX4_serveFirst_75 : decode cX4_serveFirst 75 = .ok (.aload_n 0, 1) := by decide +kernel
theorem dX4_serveFirst_76 : decode cX4_serveFirst 76 = .ok (.aload_n 1, 1) := by decide +kernel
theorem dX4_serveFirst_77 : decode cX4_serveFirst 77 = .ok (.iload_n 2, 1) := by decide +kernel
theorem dX4_serveFirst_78 : decode cX4_serveFirst 78 = .ok (.aload_n 0, 1) := by decide +kernel
theorem dX4_serveFirst_79 : decode cX4_serveFirst 79 = .ok (.getfield 34, 3) := by decide +kernel
theorem dX4_serveFirst_82 : decode cX4_serveFirst 82 = .ok (.iconst 0, 1) := by decide +kernel
theorem dX4_serveFirst_83 : decode cX4_serveFirst 83 = .ok (.invokevirtual 319, 3) := by decide +kernel
theorem dX4_serveFirst_86 : decode cX4_serveFirst 86 = .ok (.invokevirtual 134, 3) := by decide +kernel
theorem dX4_serveFirst_89 : decode cX4_serveFirst 89 = .ok (.pop, 1) := by decide +kernel
theorem dX4_serveFirst_90 : decode cX4_serveFirst 90 = .ok (.iconst 1, 1) := by decide +kernel
theorem dX4_serveFirst_91 : decode cX4_serveFirst 91 = .ok (.ireturn, 1) := by decide +kernel
theorem dX4_countShared_0 : decode cX4_countShared 0 = .ok (.iconst 0, 1) := by decide +kernel
theorem dX4_countShared_1 : decode cX4_countShared 1 = .ok (.istore_n 2, 1) := by decide +kernel
theorem dX4_countShared_2 : decode cX4_countShared 2 = .ok (.iconst 0, 1) := by decide +kernel
theorem dX4_countShared_3 : decode cX4_countShared 3 = .ok (.istore_n 3, 1) := by decide +kernel
theorem dX4_countShared_4 : decode cX4_countShared 4 = .ok (.iload_n 3, 1) := by decide +kernel
theorem dX4_countShared_5 : decode cX4_countShared 5 = .ok (.bipush 40, 2) := by decide +kernel
theorem dX4_countShared_7 : decode cX4_countShared 7 = .ok (.if_icmp .ge 37, 3) := by decide +kernel
theorem dX4_countShared_10 : decode cX4_countShared 10 = .ok (.aload_n 1, 1) := by decide +kernel
theorem dX4_countShared_11 : decode cX4_countShared 11 = .ok (.iload_n 3, 1) := by decide +kernel
theorem dX4_countShared_12 : decode cX4_countShared 12 = .ok (.invokevirtual 83, 3) := by decide +kernel
theorem dX4_countShared_15 : decode cX4_countShared 15 = .ok (.istore 4, 2) := by decide +kernel
theorem dX4_countShared_17 : decode cX4_countShared 17 = .ok (.iload 4, 2) := by decide +kernel
theorem dX4_countShared_19 : decode cX4_countShared 19 = .ok (.iconst (-1), 1) := by decide +kernel
theorem dX4_countShared_20 : decode cX4_countShared 20 = .ok (.if_icmp .eq 18, 3) := by decide +kernel
theorem dX4_countShared_23 : decode cX4_countShared 23 = .ok (.aload_n 0, 1) := by decide +kernel
theorem dX4_countShared_24 : decode cX4_countShared 24 = .ok (.getfield 27, 3) := by decide +kernel
theorem dX4_countShared_27 : decode cX4_countShared 27 = .ok (.iload 4, 2) := by decide +kernel
theorem dX4_countShared_29 : decode cX4_countShared 29 = .ok (.invokevirtual 293, 3) := by decide +kernel
theorem dX4_countShared_32 : decode cX4_countShared 32 = .ok (.ifCond .ne 6, 3) := by decide +kernel
theorem dX4_countShared_35 : decode cX4_countShared 35 = .ok (.iinc 2 1, 3) := by decide +kernel
theorem dX4_countShared_38 : decode cX4_countShared 38 = .ok (.iinc 3 1, 3) := by decide +kernel
theorem dX4_countShared_41 : decode cX4_countShared 41 = .ok (.goto (-37), 3) := by decide +kernel
theorem dX4_countShared_44 : decode cX4_countShared 44 = .ok (.iload_n 2, 1) := by decide +kernel
theorem dX4_countShared_45 : decode cX4_countShared 45 = .ok (.ireturn, 1) := by decide +kernel
theorem dX4_sortOf_0 : decode cX4_sortOf 0 = .ok (.aload_n 1, 1) := by decide +kernel
theorem dX4_sortOf_1 : decode cX4_sortOf 1 = .ok (.iload_n 3, 1) := by decide +kernel
theorem dX4_sortOf_2 : decode cX4_sortOf 2 = .ok (.invokevirtual 83, 3) := by decide +kernel
theorem dX4_sortOf_5 : decode cX4_sortOf 5 = .ok (.istore 4, 2) := by decide +kernel
theorem dX4_sortOf_7 : decode cX4_sortOf 7 = .ok (.aload_n 2, 1) := by decide +kernel
theorem dX4_sortOf_8 : decode cX4_sortOf 8 = .ok (.iload_n 3, 1) := by decide +kernel
theorem dX4_sortOf_9 : decode cX4_sortOf 9 = .ok (.invokevirtual 83, 3) := by decide +kernel
theorem dX4_sortOf_12 : decode cX4_sortOf 12 = .ok (.istore 5, 2) := by decide +kernel
theorem dX4_sortOf_14 : decode cX4_sortOf 14 = .ok (.iload 4, 2) := by decide +kernel
theorem dX4_sortOf_16 : decode cX4_sortOf 16 = .ok (.iconst (-1), 1) := by decide +kernel
theorem dX4_sortOf_17 : decode cX4_sortOf 17 = .ok (.if_icmp .ne 15, 3) := by decide +kernel
theorem dX4_sortOf_20 : decode cX4_sortOf 20 = .ok (.iload 5, 2) := by decide +kernel
theorem dX4_sortOf_22 : decode cX4_sortOf 22 = .ok (.iconst (-1), 1) := by decide +kernel
theorem dX4_sortOf_23 : decode cX4_sortOf 23 = .ok (.if_icmp .ne 7, 3) := by decide +kernel
theorem dX4_sortOf_26 : decode cX4_sortOf 26 = .ok (.iconst (-1), 1) := by decide +kernel
theorem dX4_sortOf_27 : decode cX4_sortOf 27 = .ok (.goto 4, 3) := by decide +kernel
theorem dX4_sortOf_30 : decode cX4_sortOf 30 = .ok (.iconst 3, 1) := by decide +kernel
theorem dX4_sortOf_31 : decode cX4_sortOf 31 = .ok (.ireturn, 1) := by decide +kernel
theorem dX4_sortOf_32 : decode cX4_sortOf 32 = .ok (.iload 5, 2) := by decide +kernel
theorem dX4_sortOf_34 : decode cX4_sortOf 34 = .ok (.iconst (-1), 1) := by decide +kernel
theorem dX4_sortOf_35 : decode cX4_sortOf 35 = .ok (.if_icmp .ne 5, 3) := by decide +kernel
theorem dX4_sortOf_38 : decode cX4_sortOf 38 = .ok (.iconst 2, 1) := by decide +kernel
theorem dX4_sortOf_39 : decode cX4_sortOf 39 = .ok (.ireturn, 1) := by decide +kernel
theorem dX4_sortOf_40 : decode cX4_sortOf 40 = .ok (.iload 4, 2) := by decide +kernel
theorem dX4_sortOf_42 : decode cX4_sortOf 42 = .ok (.iload 5, 2) := by decide +kernel
theorem dX4_sortOf_44 : decode cX4_sortOf 44 = .ok (.if_icmp .ne 7, 3) := by decide +kernel
theorem dX4_sortOf_47 : decode cX4_sortOf 47 = .ok (.iconst 0, 1) := by decide +kernel
theorem dX4_sortOf_48 : decode cX4_sortOf 48 = .ok (.goto 4, 3) := by decide +kernel
theorem dX4_sortOf_51 : decode cX4_sortOf 51 = .ok (.iconst 1, 1) := by decide +kernel
theorem dX4_sortOf_52 : decode cX4_sortOf 52 = .ok (.ireturn, 1) := by decide +kernel
theorem dX4_countSort_0 : decode cX4_countSort 0 = .ok (.iconst 0, 1) := by decide +kernel
theorem dX4_countSort_1 : decode cX4_countSort 1 = .ok (.istore 4, 2) := by decide +kernel
theorem dX4_countSort_3 : decode cX4_countSort 3 = .ok (.iconst 0, 1) := by decide +kernel
theorem dX4_countSort_4 : decode cX4_countSort 4 = .ok (.istore 5, 2) := by decide +kernel
theorem dX4_countSort_6 : decode cX4_countSort 6 = .ok (.iload 5, 2) := by decide +kernel
theorem dX4_countSort_8 : decode cX4_countSort 8 = .ok (.bipush 40, 2) := by decide +kernel
theorem dX4_countSort_10 : decode cX4_countSort 10 = .ok (.if_icmp .ge 24, 3) := by decide +kernel
theorem dX4_countSort_13 : decode cX4_countSort 13 = .ok (.aload_n 0, 1) := by decide +kernel
theorem dX4_countSort_14 : decode cX4_countSort 14 = .ok (.aload_n 1, 1) := by decide +kernel
theorem dX4_countSort_15 : decode cX4_countSort 15 = .ok (.aload_n 2, 1) := by decide +kernel
theorem dX4_countSort_16 : decode cX4_countSort 16 = .ok (.iload 5, 2) := by decide +kernel
theorem dX4_countSort_18 : decode cX4_countSort 18 = .ok (.invokevirtual 322, 3) := by decide +kernel
theorem dX4_countSort_21 : decode cX4_countSort 21 = .ok (.iload_n 3, 1) := by decide +kernel
theorem dX4_countSort_22 : decode cX4_countSort 22 = .ok (.if_icmp .ne 6, 3) := by decide +kernel
theorem dX4_countSort_25 : decode cX4_countSort 25 = .ok (.iinc 4 1, 3) := by decide +kernel
theorem dX4_countSort_28 : decode cX4_countSort 28 = .ok (.iinc 5 1, 3) := by decide +kernel
theorem dX4_countSort_31 : decode cX4_countSort 31 = .ok (.goto (-25), 3) := by decide +kernel
theorem dX4_countSort_34 : decode cX4_countSort 34 = .ok (.iload 4, 2) := by decide +kernel
theorem dX4_countSort_36 : decode cX4_countSort 36 = .ok (.ireturn, 1) := by decide +kernel
theorem dX4_countRuns_0 : decode cX4_countRuns 0 = .ok (.iconst 0, 1) := by decide +kernel
theorem dX4_countRuns_1 : decode cX4_countRuns 1 = .ok (.istore_n 3, 1) := by decide +kernel
theorem dX4_countRuns_2 : decode cX4_countRuns 2 = .ok (.iconst (-1), 1) := by decide +kernel
theorem dX4_countRuns_3 : decode cX4_countRuns 3 = .ok (.istore 4, 2) := by decide +kernel
theorem dX4_countRuns_5 : decode cX4_countRuns 5 = .ok (.iconst 0, 1) := by decide +kernel
theorem dX4_countRuns_6 : decode cX4_countRuns 6 = .ok (.istore 5, 2) := by decide +kernel
theorem dX4_countRuns_8 : decode cX4_countRuns 8 = .ok (.iload 5, 2) := by decide +kernel
theorem dX4_countRuns_10 : decode cX4_countRuns 10 = .ok (.bipush 40, 2) := by decide +kernel
theorem dX4_countRuns_12 : decode cX4_countRuns 12 = .ok (.if_icmp .ge 39, 3) := by decide +kernel
theorem dX4_countRuns_15 : decode cX4_countRuns 15 = .ok (.aload_n 0, 1) := by decide +kernel
theorem dX4_countRuns_16 : decode cX4_countRuns 16 = .ok (.aload_n 1, 1) := by decide +kernel
theorem dX4_countRuns_17 : decode cX4_countRuns 17 = .ok (.aload_n 2, 1) := by decide +kernel
theorem dX4_countRuns_18 : decode cX4_countRuns 18 = .ok (.iload 5, 2) := by decide +kernel
theorem dX4_countRuns_20 : decode cX4_countRuns 20 = .ok (.invokevirtual 322, 3) := by decide +kernel
theorem dX4_countRuns_23 : decode cX4_countRuns 23 = .ok (.istore 6, 2) := by decide +kernel
theorem dX4_countRuns_25 : decode cX4_countRuns 25 = .ok (.iload 6, 2) := by decide +kernel
theorem dX4_countRuns_27 : decode cX4_countRuns 27 = .ok (.iconst (-1), 1) := by decide +kernel
theorem dX4_countRuns_28 : decode cX4_countRuns 28 = .ok (.if_icmp .eq 13, 3) := by decide +kernel
theorem dX4_countRuns_31 : decode cX4_countRuns 31 = .ok (.iload 6, 2) := by decide +kernel
theorem dX4_countRuns_33 : decode cX4_countRuns 33 = .ok (.iload 4, 2) := by decide +kernel
theorem dX4_countRuns_35 : decode cX4_countRuns 35 = .ok (.if_icmp .eq 6, 3) := by decide +kernel
theorem dX4_countRuns_38 : decode cX4_countRuns 38 = .ok (.iinc 3 1, 3) := by decide +kernel
theorem dX4_countRuns_41 : decode cX4_countRuns 41 = .ok (.iload 6, 2) := by decide +kernel
theorem dX4_countRuns_43 : decode cX4_countRuns 43 = .ok (.istore 4, 2) := by decide +kernel
theorem dX4_countRuns_45 : decode cX4_countRuns 45 = .ok (.iinc 5 1, 3) := by decide +kernel
theorem dX4_countRuns_48 : decode cX4_countRuns 48 = .ok (.goto (-40), 3) := by decide +kernel
theorem dX4_countRuns_51 : decode cX4_countRuns 51 = .ok (.iload_n 3, 1) := by decide +kernel
theorem dX4_countRuns_52 : decode cX4_countRuns 52 = .ok (.ireturn, 1) := by decide +kernel
theorem dX5_init_0 : decode cX5_init 0 = .ok (.aload_n 0, 1) := by decide +kernel
theorem dX5_init_1 : decode cX5_init 1 = .ok (.invokespecial 1, 3) := by decide +kernel
theorem dX5_init_4 : decode cX5_init 4 = .ok (.aload_n 0, 1) := by decide +kernel
theorem dX5_init_5 : decode cX5_init 5 = .ok (.bipush 48, 2) := by decide +kernel
theorem dX5_init_7 : decode cX5_init 7 = .ok (.newarray .boolean, 2) := by decide +kernel
theorem dX5_init_9 : decode cX5_init 9 = .ok (.putfield 7, 3) := by decide +kernel
theorem dX5_init_12 : decode cX5_init 12 = .ok (.aload_n 0, 1) := by decide +kernel
theorem dX5_init_13 : decode cX5_init 13 = .ok (.bipush 48, 2) := by decide +kernel
theorem dX5_init_15 : decode cX5_init 15 = .ok (.newarray .int, 2) := by decide +kernel
theorem dX5_init_17 : decode cX5_init 17 = .ok (.putfield 13, 3) := by decide +kernel
theorem dX5_init_20 : decode cX5_init 20 = .ok (.aload_n 0, 1) := by decide +kernel
theorem dX5_init_21 : decode cX5_init 21 = .ok (.bipush 48, 2) := by decide +kernel
theorem dX5_init_23 : decode cX5_init 23 = .ok (.newarray .boolean, 2) := by decide +kernel
theorem dX5_init_25 : decode cX5_init 25 = .ok (.putfield 17, 3) := by decide +kernel
theorem dX5_init_28 : decode cX5_init 28 = .ok (.aload_n 0, 1) := by decide +kernel
theorem dX5_init_29 : decode cX5_init 29 = .ok (.bipush 48, 2) := by decide +kernel
theorem dX5_init_31 : decode cX5_init 31 = .ok (.newarray .int, 2) := by decide +kernel
theorem dX5_init_33 : decode cX5_init 33 = .ok (.putfield 20, 3) := by decide +kernel
theorem dX5_init_36 : decode cX5_init 36 = .ok (.aload_n 0, 1) := by decide +kernel
theorem dX5_init_37 : decode cX5_init 37 = .ok (.bipush 48, 2) := by decide +kernel
theorem dX5_init_39 : decode cX5_init 39 = .ok (.newarray .int, 2) := by decide +kernel
theorem dX5_init_41 : decode cX5_init 41 = .ok (.putfield 23, 3) := by decide +kernel
theorem dX5_init_44 : decode cX5_init 44 = .ok (.aload_n 0, 1) := by decide +kernel
theorem dX5_init_45 : decode cX5_init 45 = .ok (.sipush 1920, 3) := by decide +kernel
theorem dX5_init_48 : decode cX5_init 48 = .ok (.newarray .int, 2) := by decide +kernel
theorem dX5_init_50 : decode cX5_init 50 = .ok (.putfield 26, 3) := by decide +kernel
theorem dX5_init_53 : decode cX5_init 53 = .ok (.aload_n 0, 1) := by decide +kernel
theorem dX5_init_54 : decode cX5_init 54 = .ok (.iconst 3, 1) := by decide +kernel
theorem dX5_init_55 : decode cX5_init 55 = .ok (.newarray .int, 2) := by decide +kernel
theorem dX5_init_57 : decode cX5_init 57 = .ok (.putfield 29, 3) := by decide +kernel
theorem dX5_init_60 : decode cX5_init 60 = .ok (.aload_n 0, 1) := by decide +kernel
theorem dX5_init_61 : decode cX5_init 61 = .ok (.bipush 8, 2) := by decide +kernel
theorem dX5_init_63 : decode cX5_init 63 = .ok (.putfield 32, 3) := by decide +kernel
theorem dX5_init_66 : decode cX5_init 66 = .ok (.aload_n 0, 1) := by decide +kernel
theorem dX5_init_67 : decode cX5_init 67 = .ok (.sipush 384, 3) := by decide +kernel
theorem dX5_init_70 : decode cX5_init 70 = .ok (.newarray .int, 2) := by decide +kernel
theorem dX5_init_72 : decode cX5_init 72 = .ok (.putfield 36, 3) := by decide +kernel
theorem dX5_init_75 : decode cX5_init 75 = .ok (.aload_n 0, 1) := by decide +kernel
theorem dX5_init_76 : decode cX5_init 76 = .ok (.sipush 160, 3) := by decide +kernel
theorem dX5_init_79 : decode cX5_init 79 = .ok (.newarray .int, 2) := by decide +kernel
theorem dX5_init_81 : decode cX5_init 81 = .ok (.putfield 39, 3) := by decide +kernel
theorem dX5_init_84 : decode cX5_init 84 = .ok (.aload_n 0, 1) := by decide +kernel
theorem dX5_init_85 : decode cX5_init 85 = .ok (.bipush 8, 2) := by decide +kernel
theorem dX5_init_87 : decode cX5_init 87 = .ok (.newarray .int, 2) := by decide +kernel
theorem dX5_init_89 : decode cX5_init 89 = .ok (.putfield 42, 3) := by decide +kernel
theorem dX5_init_92 : decode cX5_init 92 = .ok (.aload_n 0, 1) := by decide +kernel
theorem dX5_init_93 : decode cX5_init 93 = .ok (.bipush 8, 2) := by decide +kernel
theorem dX5_init_95 : decode cX5_init 95 = .ok (.newarray .int, 2) := by decide +kernel
theorem dX5_init_97 : decode cX5_init 97 = .ok (.putfield 45, 3) := by decide +kernel
theorem dX5_init_100 : decode cX5_init 100 = .ok (.aload_n 0, 1) := by decide +kernel
theorem dX5_init_101 : decode cX5_init 101 = .ok (.bipush 8, 2) := by decide +kernel
theorem dX5_init_103 : decode cX5_init 103 = .ok (.newarray .int, 2) := by decide +kernel
theorem dX5_init_105 : decode cX5_init 105 = .ok (.putfield 48, 3) := by decide +kernel
theorem dX5_init_108 : decode cX5_init 108 = .ok (.return_, 1) := by decide +kernel
theorem dX5_thrown_0 : decode cX5_thrown 0 = .ok (.aload_n 0, 1) := by decide +kernel
theorem dX5_thrown_1 : decode cX5_thrown 1 = .ok (.getfield 51, 3) := by decide +kernel
theorem dX5_thrown_4 : decode cX5_thrown 4 = .ok (.ireturn, 1) := by decide +kernel
theorem dX5_isNumber_0 : decode cX5_isNumber 0 = .ok (.iload_n 0, 1) := by decide +kernel
theorem dX5_isNumber_1 : decode cX5_isNumber 1 = .ok (.ifCond .lt 13, 3) := by decide +kernel
theorem dX5_isNumber_4 : decode cX5_isNumber 4 = .ok (.iload_n 0, 1) := by decide +kernel
theorem dX5_isNumber_5 : decode cX5_isNumber 5 = .ok (.bipush 16, 2) := by decide +kernel
theorem dX5_isNumber_7 : decode cX5_isNumber 7 = .ok (.if_icmp .ge 7, 3) := by decide +kernel
theorem dX5_isNumber_10 : decode cX5_isNumber 10 = .ok (.iconst 1, 1) := by decide +kernel
theorem dX5_isNumber_11 : decode cX5_isNumber 11 = .ok (.goto 4, 3) := by decide +kernel
theorem dX5_isNumber_14 : decode cX5_isNumber 14 = .ok (.iconst 0, 1) := by decide +kernel
theorem dX5_isNumber_15 : decode cX5_isNumber 15 = .ok (.ireturn, 1) := by decide +kernel
theorem dX5_isVolume_0 : decode cX5_isVolume 0 = .ok (.iload_n 1, 1) := by decide +kernel
theorem dX5_isVolume_1 : decode cX5_isVolume 1 = .ok (.invokestatic 54, 3) := by decide +kernel
theorem dX5_isVolume_4 : decode cX5_isVolume 4 = .ok (.ifCond .eq 16, 3) := by decide +kernel
theorem dX5_isVolume_7 : decode cX5_isVolume 7 = .ok (.aload_n 0, 1) := by decide +kernel
theorem dX5_isVolume_8 : decode cX5_isVolume 8 = .ok (.getfield 7, 3) := by decide +kernel
theorem dX5_isVolume_11 : decode cX5_isVolume 11 = .ok (.iload_n 1, 1) := by decide +kernel
theorem dX5_isVolume_12 : decode cX5_isVolume 12 = .ok (.baload, 1) := by decide +kernel
theorem dX5_isVolume_13 : decode cX5_isVolume 13 = .ok (.ifCond .eq 7, 3) := by decide +kernel
theorem dX5_isVolume_16 : decode cX5_isVolume 16 = .ok (.iconst 1, 1) := by decide +kernel
theorem dX5_isVolume_17 : decode cX5_isVolume 17 = .ok (.goto 4, 3) := by decide +kernel
theorem dX5_isVolume_20 : decode cX5_isVolume 20 = .ok (.iconst 0, 1) := by decide +kernel
theorem dX5_isVolume_21 : decode cX5_isVolume 21 = .ok (.ireturn, 1) := by decide +kernel
theorem dX5_isSize_0 : decode cX5_isSize 0 = .ok (.iload_n 0, 1) := by decide +kernel
theorem dX5_isSize_1 : decode cX5_isSize 1 = .ok (.iconst 1, 1) := by decide +kernel
theorem dX5_isSize_2 : decode cX5_isSize 2 = .ok (.if_icmp .lt 13, 3) := by decide +kernel
theorem dX5_isSize_5 : decode cX5_isSize 5 = .ok (.iload_n 0, 1) := by decide +kernel
theorem dX5_isSize_6 : decode cX5_isSize 6 = .ok (.bipush 40, 2) := by decide +kernel
theorem dX5_isSize_8 : decode cX5_isSize 8 = .ok (.if_icmp .gt 7, 3) := by decide +kernel
theorem dX5_isSize_11 : decode cX5_isSize 11 = .ok (.iconst 1, 1) := by decide +kernel
theorem dX5_isSize_12 : decode cX5_isSize 12 = .ok (.goto 4, 3) := by decide +kernel
theorem dX5_isSize_15 : decode cX5_isSize 15 = .ok (.iconst 0, 1) := by decide +kernel
theorem dX5_isSize_16 : decode cX5_isSize 16 = .ok (.ireturn, 1) := by decide +kernel
theorem dX5_at_0 : decode cX5_at 0 = .ok (.bipush 40, 2) := by decide +kernel
theorem dX5_at_2 : decode cX5_at 2 = .ok (.bipush 16, 2) := by decide +kernel
theorem dX5_at_4 : decode cX5_at 4 = .ok (.iload_n 0, 1) := by decide +kernel
theorem dX5_at_5 : decode cX5_at 5 = .ok (.imul, 1) := by decide +kernel
theorem dX5_at_6 : decode cX5_at 6 = .ok (.iload_n 1, 1) := by decide +kernel
theorem dX5_at_7 : decode cX5_at 7 = .ok (.iadd, 1) := by decide +kernel
theorem dX5_at_8 : decode cX5_at 8 = .ok (.imul, 1) := by decide +kernel
theorem dX5_at_9 : decode cX5_at 9 = .ok (.iload_n 2, 1) := by decide +kernel
theorem dX5_at_10 : decode cX5_at 10 = .ok (.iadd, 1) := by decide +kernel
theorem dX5_at_11 : decode cX5_at 11 = .ok (.ireturn, 1) := by decide +kernel
theorem dX5_usersOf_0 : decode cX5_usersOf 0 = .ok (.iconst 0, 1) := by decide +kernel
theorem dX5_usersOf_1 : decode cX5_usersOf 1 = .ok (.istore_n 3, 1) := by decide +kernel
theorem dX5_usersOf_2 : decode cX5_usersOf 2 = .ok (.iconst 0, 1) := by decide +kernel
theorem dX5_usersOf_3 : decode cX5_usersOf 3 = .ok (.istore 4, 2) := by decide +kernel
theorem dX5_usersOf_5 : decode cX5_usersOf 5 = .ok (.iload 4, 2) := by decide +kernel
theorem dX5_usersOf_7 : decode cX5_usersOf 7 = .ok (.bipush 16, 2) := by decide +kernel
theorem dX5_usersOf_9 : decode cX5_usersOf 9 = .ok (.if_icmp .ge 65, 3) := by decide +kernel
theorem dX5_usersOf_12 : decode cX5_usersOf 12 = .ok (.iconst 0, 1) := by decide +kernel
theorem dX5_usersOf_13 : decode cX5_usersOf 13 = .ok (.istore 5, 2) := by decide +kernel
theorem dX5_usersOf_15 : decode cX5_usersOf 15 = .ok (.iload 5, 2) := by decide +kernel
theorem dX5_usersOf_17 : decode cX5_usersOf 17 = .ok (.bipush 40, 2) := by decide +kernel
theorem dX5_usersOf_19 : decode cX5_usersOf 19 = .ok (.if_icmp .ge 49, 3) := by decide +kernel
theorem dX5_usersOf_22 : decode cX5_usersOf 22 = .ok (.aload_n 0, 1) := by decide +kernel
theorem dX5_usersOf_23 : decode cX5_usersOf 23 = .ok (.getfield 7, 3) := by decide +kernel
theorem dX5_usersOf_26 : decode cX5_usersOf 26 = .ok (.bipush 16, 2) := by decide +kernel
theorem dX5_usersOf_28 : decode cX5_usersOf 28 = .ok (.iload_n 1, 1) := by decide +kernel
theorem dX5_usersOf_29 : decode cX5_usersOf 29 = .ok (.imul, 1) := by decide +kernel
theorem dX5_usersOf_30 : decode cX5_usersOf 30 = .ok (.iload 4, 2) := by decide +kernel
theorem dX5_usersOf_32 : decode cX5_usersOf 32 = .ok (.iadd, 1) := by decide +kernel
theorem dX5_usersOf_33 : decode cX5_usersOf 33 = .ok (.baload, 1) := by decide +kernel
theorem dX5_usersOf_34 : decode cX5_usersOf 34 = .ok (.ifCond .eq 34, 3) := by decide +kernel
theorem dX5_usersOf_37 : decode cX5_usersOf 37 = .ok (.iload_n 3, 1) := by decide +kernel
theorem dX5_usersOf_38 : decode cX5_usersOf 38 = .ok (.aload_n 0, 1) := by decide +kernel
theorem dX5_usersOf_39 : decode cX5_usersOf 39 = .ok (.getfield 26, 3) := by decide +kernel
theorem dX5_usersOf_42 : decode cX5_usersOf 42 = .ok (.iload_n 1, 1) := by decide +kernel
theorem dX5_usersOf_43 : decode cX5_usersOf 43 = .ok (.iload 4, 2) := by decide +kernel
theorem dX5_usersOf_45 : decode cX5_usersOf 45 = .ok (.iload 5, 2) := by decide +kernel
theorem dX5_usersOf_47 : decode cX5_usersOf 47 = .ok (.invokestatic 58, 3) := by decide +kernel
theorem dX5_usersOf_50 : decode cX5_usersOf 50 = .ok (.iaload, 1) := by decide +kernel
theorem dX5_usersOf_51 : decode cX5_usersOf 51 = .ok (.iload_n 2, 1) := by decide +kernel
theorem dX5_usersOf_52 : decode cX5_usersOf 52 = .ok (.if_icmp .ne 7, 3) := by decide +kernel
theorem dX5_usersOf_55 : decode cX5_usersOf 55 = .ok (.iconst 1, 1) := by decide +kernel
theorem dX5_usersOf_56 : decode cX5_usersOf 56 = .ok (.goto 4, 3) := by decide +kernel
theorem dX5_usersOf_59 : decode cX5_usersOf 59 = .ok (.iconst 0, 1) := by decide +kernel
theorem dX5_usersOf_60 : decode cX5_usersOf 60 = .ok (.iadd, 1) := by decide +kernel
theorem dX5_usersOf_61 : decode cX5_usersOf 61 = .ok (.istore_n 3, 1) := by decide +kernel
theorem dX5_usersOf_62 : decode cX5_usersOf 62 = .ok (.iinc 5 1, 3) := by decide +kernel
theorem dX5_usersOf_65 : decode cX5_usersOf 65 = .ok (.goto (-50), 3) := by decide +kernel
theorem dX5_usersOf_68 : decode cX5_usersOf 68 = .ok (.iinc 4 1, 3) := by decide +kernel
theorem dX5_usersOf_71 : decode cX5_usersOf 71 = .ok (.goto (-66), 3) := by decide +kernel
theorem dX5_usersOf_74 : decode cX5_usersOf 74 = .ok (.iload_n 3, 1) := by decide +kernel
theorem dX5_usersOf_75 : decode cX5_usersOf 75 = .ok (.ireturn, 1) := by decide +kernel
theorem dX5_isFree_0 : decode cX5_isFree 0 = .ok (.aload_n 0, 1) := by decide +kernel
theorem dX5_isFree_1 : decode cX5_isFree 1 = .ok (.iconst 0, 1) := by decide +kernel
theorem dX5_isFree_2 : decode cX5_isFree 2 = .ok (.iload_n 1, 1) := by decide +kernel
theorem dX5_isFree_3 : decode cX5_isFree 3 = .ok (.invokevirtual 62, 3) := by decide +kernel
theorem dX5_isFree_6 : decode cX5_isFree 6 = .ok (.aload_n 0, 1) := by decide +kernel
theorem dX5_isFree_7 : decode cX5_isFree 7 = .ok (.iconst 1, 1) := by decide +kernel
theorem dX5_isFree_8 : decode cX5_isFree 8 = .ok (.iload_n 1, 1) := by decide +kernel
theorem dX5_isFree_9 : decode cX5_isFree 9 = .ok (.invokevirtual 62, 3) := by decide +kernel
theorem dX5_isFree_12 : decode cX5_isFree 12 = .ok (.iadd, 1) := by decide +kernel
theorem dX5_isFree_13 : decode cX5_isFree 13 = .ok (.aload_n 0, 1) := by decide +kernel
theorem dX5_isFree_14 : decode cX5_isFree 14 = .ok (.iconst 2, 1) := by decide +kernel
theorem dX5_isFree_15 : decode cX5_isFree 15 = .ok (.iload_n 1, 1) := by decide +kernel
theorem dX5_isFree_16 : decode cX5_isFree 16 = .ok (.invokevirtual 62, 3) := by decide +kernel
theorem dX5_isFree_19 : decode cX5_isFree 19 = .ok (.iadd, 1) := by decide +kernel
theorem dX5_isFree_20 : decode cX5_isFree 20 = .ok (.ifCond .ne 7, 3) := by decide +kernel
theorem dX5_isFree_23 : decode cX5_isFree 23 = .ok (.iconst 1, 1) := by decide +kernel
theorem dX5_isFree_24 : decode cX5_isFree 24 = .ok (.goto 4, 3) := by decide +kernel
theorem dX5_isFree_27 : decode cX5_isFree 27 = .ok (.iconst 0, 1) := by decide +kernel
theorem dX5_isFree_28 : decode cX5_isFree 28 = .ok (.ireturn, 1) := by decide +kernel
theorem dX5_isSole_0 : decode cX5_isSole 0 = .ok (.aload_n 0, 1) := by decide +kernel
theorem dX5_isSole_1 : decode cX5_isSole 1 = .ok (.iconst 0, 1) := by decide +kernel
theorem dX5_isSole_2 : decode cX5_isSole 2 = .ok (.iload_n 1, 1) := by decide +kernel
theorem dX5_isSole_3 : decode cX5_isSole 3 = .ok (.invokevirtual 62, 3) := by decide +kernel
theorem dX5_isSole_6 : decode cX5_isSole 6 = .ok (.iconst 1, 1) := by decide +kernel
theorem dX5_isSole_7 : decode cX5_isSole 7 = .ok (.if_icmp .ne 23, 3) := by decide +kernel
theorem dX5_isSole_10 : decode cX5_isSole 10 = .ok (.aload_n 0, 1) := by decide +kernel
theorem dX5_isSole_11 : decode cX5_isSole 11 = .ok (.iconst 1, 1) := by decide +kernel
theorem dX5_isSole_12 : decode cX5_isSole 12 = .ok (.iload_n 1, 1) := by decide +kernel
theorem dX5_isSole_13 : decode cX5_isSole 13 = .ok (.invokevirtual 62, 3) := by decide +kernel
theorem dX5_isSole_16 : decode cX5_isSole 16 = .ok (.aload_n 0, 1) := by decide +kernel
theorem dX5_isSole_17 : decode cX5_isSole 17 = .ok (.iconst 2, 1) := by decide +kernel
theorem dX5_isSole_18 : decode cX5_isSole 18 = .ok (.iload_n 1, 1) := by decide +kernel
theorem dX5_isSole_19 : decode cX5_isSole 19 = .ok (.invokevirtual 62, 3) := by decide +kernel
theorem dX5_isSole_22 : decode cX5_isSole 22 = .ok (.iadd, 1) := by decide +kernel
theorem dX5_isSole_23 : decode cX5_isSole 23 = .ok (.ifCond .ne 7, 3) := by decide +kernel
theorem dX5_isSole_26 : decode cX5_isSole 26 = .ok (.iconst 1, 1) := by decide +kernel
theorem dX5_isSole_27 : decode cX5_isSole 27 = .ok (.goto 4, 3) := by decide +kernel
theorem dX5_isSole_30 : decode cX5_isSole 30 = .ok (.iconst 0, 1) := by decide +kernel
theorem dX5_isSole_31 : decode cX5_isSole 31 = .ok (.ireturn, 1) := by decide +kernel
theorem dX5_freeMany_0 : decode cX5_freeMany 0 = .ok (.iconst 0, 1) := by decide +kernel
theorem dX5_freeMany_1 : decode cX5_freeMany 1 = .ok (.istore_n 1, 1) := by decide +kernel
theorem dX5_freeMany_2 : decode cX5_freeMany 2 = .ok (.iconst 0, 1) := by decide +kernel
theorem dX5_freeMany_3 : decode cX5_freeMany 3 = .ok (.istore_n 2, 1) := by decide +kernel
theorem dX5_freeMany_4 : decode cX5_freeMany 4 = .ok (.iload_n 2, 1) := by decide +kernel
theorem dX5_freeMany_5 : decode cX5_freeMany 5 = .ok (.aload_n 0, 1) := by decide +kernel
theorem dX5_freeMany_6 : decode cX5_freeMany 6 = .ok (.getfield 32, 3) := by decide +kernel
theorem dX5_freeMany_9 : decode cX5_freeMany 9 = .ok (.if_icmp .ge 25, 3) := by decide +kernel
theorem dX5_freeMany_12 : decode cX5_freeMany 12 = .ok (.iload_n 1, 1) := by decide +kernel
theorem dX5_freeMany_13 : decode cX5_freeMany 13 = .ok (.aload_n 0, 1) := by decide +kernel
theorem dX5_freeMany_14 : decode cX5_freeMany 14 = .ok (.iload_n 2, 1) := by decide +kernel
theorem dX5_freeMany_15 : decode cX5_freeMany 15 = .ok (.invokevirtual 66, 3) := by decide +kernel
theorem dX5_freeMany_18 : decode cX5_freeMany 18 = .ok (.ifCond .eq 7, 3) := by decide +kernel
theorem dX5_freeMany_21 : decode cX5_freeMany 21 = .ok (.iconst 1, 1) := by decide +kernel
theorem dX5_freeMany_22 : decode cX5_freeMany 22 = .ok (.goto 4, 3) := by decide +kernel
theorem dX5_freeMany_25 : decode cX5_freeMany 25 = .ok (.iconst 0, 1) := by decide +kernel
theorem dX5_freeMany_26 : decode cX5_freeMany 26 = .ok (.iadd, 1) := by decide +kernel
theorem dX5_freeMany_27 : decode cX5_freeMany 27 = .ok (.istore_n 1, 1) := by decide +kernel
theorem dX5_freeMany_28 : decode cX5_freeMany 28 = .ok (.iinc 2 1, 3) := by decide +kernel
theorem dX5_freeMany_31 : decode cX5_freeMany 31 = .ok (.goto (-27), 3) := by decide +kernel
theorem dX5_freeMany_34 : decode cX5_freeMany 34 = .ok (.iload_n 1, 1) := by decide +kernel
theorem dX5_freeMany_35 : decode cX5_freeMany 35 = .ok (.ireturn, 1) := by decide +kernel
theorem dX5_mapped_0 : decode cX5_mapped 0 = .ok (.iconst 0, 1) := by decide +kernel
theorem dX5_mapped_1 : decode cX5_mapped 1 = .ok (.istore_n 2, 1) := by decide +kernel
theorem dX5_mapped_2 : decode cX5_mapped 2 = .ok (.iconst 0, 1) := by decide +kernel
theorem dX5_mapped_3 : decode cX5_mapped 3 = .ok (.istore_n 3, 1) := by decide +kernel
theorem dX5_mapped_4 : decode cX5_mapped 4 = .ok (.iload_n 3, 1) := by decide +kernel
theorem dX5_mapped_5 : decode cX5_mapped 5 = .ok (.bipush 40, 2) := by decide +kernel
theorem dX5_mapped_7 : decode cX5_mapped 7 = .ok (.if_icmp .ge 32, 3) := by decide +kernel
theorem dX5_mapped_10 : decode cX5_mapped 10 = .ok (.iload_n 2, 1) := by decide +kernel
theorem dX5_mapped_11 : decode cX5_mapped 11 = .ok (.aload_n 0, 1) := by decide +kernel
theorem dX5_mapped_12 : decode cX5_mapped 12 = .ok (.getfield 26, 3) := by decide +kernel
theorem dX5_mapped_15 : decode cX5_mapped 15 = .ok (.iconst 0, 1) := by decide +kernel
theorem dX5_mapped_16 : decode cX5_mapped 16 = .ok (.iload_n 1, 1) := by decide +kernel
theorem dX5_mapped_17 : decode cX5_mapped 17 = .ok (.iload_n 3, 1) := by decide +kernel
theorem dX5_mapped_18 : decode cX5_mapped 18 = .ok (.invokestatic 58, 3) := by decide +kernel
theorem dX5_mapped_21 : decode cX5_mapped 21 = .ok (.iaload, 1) := by decide +kernel
theorem dX5_mapped_22 : decode cX5_mapped 22 = .ok (.iconst (-1), 1) := by decide +kernel
theorem dX5_mapped_23 : decode cX5_mapped 23 = .ok (.if_icmp .eq 7, 3) := by decide +kernel
theorem dX5_mapped_26 : decode cX5_mapped 26 = .ok (.iconst 1, 1) := by decide +kernel
theorem dX5_mapped_27 : decode cX5_mapped 27 = .ok (.goto 4, 3) := by decide +kernel
theorem dX5_mapped_30 : decode cX5_mapped 30 = .ok (.iconst 0, 1) := by decide +kernel
theorem dX5_mapped_31 : decode cX5_mapped 31 = .ok (.iadd, 1) := by decide +kernel
theorem dX5_mapped_32 : decode cX5_mapped 32 = .ok (.istore_n 2, 1) := by decide +kernel
theorem dX5_mapped_33 : decode cX5_mapped 33 = .ok (.iinc 3 1, 3) := by decide +kernel
theorem dX5_mapped_36 : decode cX5_mapped 36 = .ok (.goto (-32), 3) := by decide +kernel
theorem dX5_mapped_39 : decode cX5_mapped 39 = .ok (.iload_n 2, 1) := by decide +kernel
theorem dX5_mapped_40 : decode cX5_mapped 40 = .ok (.ireturn, 1) := by decide +kernel
theorem dX5_volumes_0 : decode cX5_volumes 0 = .ok (.iconst 0, 1) := by decide +kernel
theorem dX5_volumes_1 : decode cX5_volumes 1 = .ok (.istore_n 2, 1) := by decide +kernel
theorem dX5_volumes_2 : decode cX5_volumes 2 = .ok (.iconst 0, 1) := by decide +kernel
theorem dX5_volumes_3 : decode cX5_volumes 3 = .ok (.istore_n 3, 1) := by decide +kernel
theorem dX5_volumes_4 : decode cX5_volumes 4 = .ok (.iload_n 3, 1) := by decide +kernel
theorem dX5_volumes_5 : decode cX5_volumes 5 = .ok (.bipush 16, 2) := by decide +kernel
theorem dX5_volumes_7 : decode cX5_volumes 7 = .ok (.if_icmp .ge 31, 3) := by decide +kernel
theorem dX5_volumes_10 : decode cX5_volumes 10 = .ok (.iload_n 2, 1) := by decide +kernel
theorem dX5_volumes_11 : decode cX5_volumes 11 = .ok (.aload_n 0, 1) := by decide +kernel
theorem dX5_volumes_12 : decode cX5_volumes 12 = .ok (.getfield 7, 3) := by decide +kernel
theorem dX5_volumes_15 : decode cX5_volumes 15 = .ok (.bipush 16, 2) := by decide +kernel
theorem dX5_volumes_17 : decode cX5_volumes 17 = .ok (.iload_n 1, 1) := by decide +kernel
theorem dX5_volumes_18 : decode cX5_volumes 18 = .ok (.imul, 1) := by decide +kernel
theorem dX5_volumes_19 : decode cX5_volumes 19 = .ok (.iload_n 3, 1) := by decide +kernel
theorem dX5_volumes_20 : decode cX5_volumes 20 = .ok (.iadd, 1) := by decide +kernel
theorem dX5_volumes_21 : decode cX5_volumes 21 = .ok (.baload, 1) := by decide +kernel
theorem dX5_volumes_22 : decode cX5_volumes 22 = .ok (.ifCond .eq 7, 3) := by decide +kernel
theorem dX5_volumes_25 : decode cX5_volumes 25 = .ok (.iconst 1, 1) := by decide +kernel
theorem dX5_volumes_26 : decode cX5_volumes 26 = .ok (.goto 4, 3) := by decide +kernel
theorem dX5_volumes_29 : decode cX5_volumes 29 = .ok (.iconst 0, 1) := by decide +kernel
theorem dX5_volumes_30 : decode cX5_volumes 30 = .ok (.iadd, 1) := by decide +kernel
theorem dX5_volumes_31 : decode cX5_volumes 31 = .ok (.istore_n 2, 1) := by decide +kernel
theorem dX5_volumes_32 : decode cX5_volumes 32 = .ok (.iinc 3 1, 3) := by decide +kernel
theorem dX5_volumes_35 : decode cX5_volumes 35 = .ok (.goto (-31), 3) := by decide +kernel
theorem dX5_volumes_38 : decode cX5_volumes 38 = .ok (.iload_n 2, 1) := by decide +kernel
theorem dX5_volumes_39 : decode cX5_volumes 39 = .ok (.ireturn, 1) := by decide +kernel
theorem dX5_clearState_0 : decode cX5_clearState 0 = .ok (.bipush 16, 2) := by decide +kernel
theorem dX5_clearState_2 : decode cX5_clearState 2 = .ok (.iload_n 1, 1) := by decide +kernel
theorem dX5_clearState_3 : decode cX5_clearState 3 = .ok (.imul, 1) := by decide +kernel
theorem dX5_clearState_4 : decode cX5_clearState 4 = .ok (.istore_n 2, 1) := by decide +kernel
theorem dX5_clearState_5 : decode cX5_clearState 5 = .ok (.iload_n 2, 1) := by decide +kernel
theorem dX5_clearState_6 : decode cX5_clearState 6 = .ok (.bipush 16, 2) := by decide +kernel
theorem dX5_clearState_8 : decode cX5_clearState 8 = .ok (.iload_n 1, 1) := by decide +kernel
theorem dX5_clearState_9 : decode cX5_clearState 9 = .ok (.imul, 1) := by decide +kernel
theorem dX5_clearState_10 : decode cX5_clearState 10 = .ok (.bipush 16, 2) := by decide +kernel
theorem dX5_clearState_12 : decode cX5_clearState 12 = .ok (.iadd, 1) := by decide +kernel
theorem dX5_clearState_13 : decode cX5_clearState 13 = .ok (.if_icmp .ge 16, 3) := by decide +kernel
theorem dX5_clearState_16 : decode cX5_clearState 16 = .ok (.aload_n 0, 1) := by decide +kernel
theorem dX5_clearState_17 : decode cX5_clearState 17 = .ok (.getfield 7, 3) := by decide +kernel
theorem dX5_clearState_20 : decode cX5_clearState 20 = .ok (.iload_n 2, 1) := by decide +kernel
theorem dX5_clearState_21 : decode cX5_clearState 21 = .ok (.iconst 0, 1) := by decide +kernel
theorem dX5_clearState_22 : decode cX5_clearState 22 = .ok (.bastore, 1) := by decide +kernel
theorem dX5_clearState_23 : decode cX5_clearState 23 = .ok (.iinc 2 1, 3) := by decide +kernel
theorem dX5_clearState_26 : decode cX5_clearState 26 = .ok (.goto (-21), 3) := by decide +kernel
theorem dX5_clearState_29 : decode cX5_clearState 29 = .ok (.aload_n 0, 1) := by decide +kernel
theorem dX5_clearState_30 : decode cX5_clearState 30 = .ok (.getfield 29, 3) := by decide +kernel
theorem dX5_clearState_33 : decode cX5_clearState 33 = .ok (.iload_n 1, 1) := by decide +kernel
theorem dX5_clearState_34 : decode cX5_clearState 34 = .ok (.iconst 0, 1) := by decide +kernel
theorem dX5_clearState_35 : decode cX5_clearState 35 = .ok (.iastore, 1) := by decide +kernel
theorem dX5_clearState_36 : decode cX5_clearState 36 = .ok (.return_, 1) := by decide +kernel
theorem dX5_copy_0 : decode cX5_copy 0 = .ok (.iconst 0, 1) := by decide +kernel
theorem dX5_copy_1 : decode cX5_copy 1 = .ok (.istore_n 3, 1) := by decide +kernel
theorem dX5_copy_2 : decode cX5_copy 2 = .ok (.iload_n 3, 1) := by decide +kernel
theorem dX5_copy_3 : decode cX5_copy 3 = .ok (.bipush 16, 2) := by decide +kernel
theorem dX5_copy_5 : decode cX5_copy 5 = .ok (.if_icmp .ge 39, 3) := by decide +kernel
theorem dX5_copy_8 : decode cX5_copy 8 = .ok (.aload_n 0, 1) := by decide +kernel
theorem dX5_copy_9 : decode cX5_copy 9 = .ok (.iload_n 1, 1) := by decide +kernel
theorem dX5_copy_10 : decode cX5_copy 10 = .ok (.iload_n 3, 1) := by decide +kernel
theorem dX5_copy_11 : decode cX5_copy 11 = .ok (.iload_n 2, 1) := by decide +kernel
theorem dX5_copy_12 : decode cX5_copy 12 = .ok (.iload_n 3, 1) := by decide +kernel
theorem dX5_copy_13 : decode cX5_copy 13 = .ok (.invokevirtual 69, 3) := by decide +kernel
theorem dX5_copy_16 : decode cX5_copy 16 = .ok (.aload_n 0, 1) := by decide +kernel
theorem dX5_copy_17 : decode cX5_copy 17 = .ok (.getfield 23, 3) := by decide +kernel
theorem dX5_copy_20 : decode cX5_copy 20 = .ok (.bipush 16, 2) := by decide +kernel
theorem dX5_copy_22 : decode cX5_copy 22 = .ok (.iload_n 2, 1) := by decide +kernel
theorem dX5_copy_23 : decode cX5_copy 23 = .ok (.imul, 1) := by decide +kernel
theorem dX5_copy_24 : decode cX5_copy 24 = .ok (.iload_n 3, 1) := by decide +kernel
theorem dX5_copy_25 : decode cX5_copy 25 = .ok (.iadd, 1) := by decide +kernel
theorem dX5_copy_26 : decode cX5_copy 26 = .ok (.aload_n 0, 1) := by decide +kernel
theorem dX5_copy_27 : decode cX5_copy 27 = .ok (.getfield 23, 3) := by decide +kernel
theorem dX5_copy_30 : decode cX5_copy 30 = .ok (.bipush 16, 2) := by decide +kernel
theorem dX5_copy_32 : decode cX5_copy 32 = .ok (.iload_n 1, 1) := by decide +kernel
theorem dX5_copy_33 : decode cX5_copy 33 = .ok (.imul, 1) := by decide +kernel
theorem dX5_copy_34 : decode cX5_copy 34 = .ok (.iload_n 3, 1) := by decide +kernel
theorem dX5_copy_35 : decode cX5_copy 35 = .ok (.iadd, 1) := by decide +kernel
theorem dX5_copy_36 : decode cX5_copy 36 = .ok (.iaload, 1) := by decide +kernel
theorem dX5_copy_37 : decode cX5_copy 37 = .ok (.iastore, 1) := by decide +kernel
theorem dX5_copy_38 : decode cX5_copy 38 = .ok (.iinc 3 1, 3) := by decide +kernel
theorem dX5_copy_41 : decode cX5_copy 41 = .ok (.goto (-39), 3) := by decide +kernel
theorem dX5_copy_44 : decode cX5_copy 44 = .ok (.aload_n 0, 1) := by decide +kernel
theorem dX5_copy_45 : decode cX5_copy 45 = .ok (.getfield 29, 3) := by decide +kernel
theorem dX5_copy_48 : decode cX5_copy 48 = .ok (.iload_n 2, 1) := by decide +kernel
theorem dX5_copy_49 : decode cX5_copy 49 = .ok (.aload_n 0, 1) := by decide +kernel
theorem dX5_copy_50 : decode cX5_copy 50 = .ok (.getfield 29, 3) := by decide +kernel
theorem dX5_copy_53 : decode cX5_copy 53 = .ok (.iload_n 1, 1) := by decide +kernel
theorem dX5_copy_54 : decode cX5_copy 54 = .ok (.iaload, 1) := by decide +kernel
theorem dX5_copy_55 : decode cX5_copy 55 = .ok (.iastore, 1) := by decide +kernel
theorem dX5_copy_56 : decode cX5_copy 56 = .ok (.return_, 1) := by decide +kernel
theorem dX5_copyVolume_0 : decode cX5_copyVolume 0 = .ok (.bipush 16, 2) := by decide +kernel
theorem dX5_copyVolume_2 : decode cX5_copyVolume 2 = .ok (.iload_n 1, 1) := by decide +kernel
theorem dX5_copyVolume_3 : decode cX5_copyVolume 3 = .ok (.imul, 1) := by decide +kernel
theorem dX5_copyVolume_4 : decode cX5_copyVolume 4 = .ok (.iload_n 2, 1) := by decide +kernel
theorem dX5_copyVolume_5 : decode cX5_copyVolume 5 = .ok (.iadd, 1) := by decide +kernel
theorem dX5_copyVolume_6 : decode cX5_copyVolume 6 = .ok (.istore 5, 2) := by decide +kernel
theorem dX5_copyVolume_8 : decode cX5_copyVolume 8 = .ok (.bipush 16, 2) := by decide +kernel
theorem dX5_copyVolume_10 : decode cX5_copyVolume 10 = .ok (.iload_n 3, 1) := by decide +kernel
theorem dX5_copyVolume_11 : decode cX5_copyVolume 11 = .ok (.imul, 1) := by decide +kernel
theorem dX5_copyVolume_12 : decode cX5_copyVolume 12 = .ok (.iload 4, 2) := by decide +kernel
theorem dX5_copyVolume_14 : decode cX5_copyVolume 14 = .ok (.iadd, 1) := by decide +kernel
theorem dX5_copyVolume_15 : decode cX5_copyVolume 15 = .ok (.istore 6, 2) := by decide +kernel
theorem dX5_copyVolume_17 : decode cX5_copyVolume 17 = .ok (.aload_n 0, 1) := by decide +kernel
theorem dX5_copyVolume_18 : decode cX5_copyVolume 18 = .ok (.getfield 7, 3) := by decide +kernel
theorem dX5_copyVolume_21 : decode cX5_copyVolume 21 = .ok (.iload 6, 2) := by decide +kernel
theorem dX5_copyVolume_23 : decode cX5_copyVolume 23 = .ok (.aload_n 0, 1) := by decide +kernel
theorem dX5_copyVolume_24 : decode cX5_copyVolume 24 = .ok (.getfield 7, 3) := by decide +kernel
theorem dX5_copyVolume_27 : decode cX5_copyVolume 27 = .ok (.iload 5, 2) := by decide +kernel
theorem dX5_copyVolume_29 : decode cX5_copyVolume 29 = .ok (.baload, 1) := by decide +kernel
theorem dX5_copyVolume_30 : decode cX5_copyVolume 30 = .ok (.bastore, 1) := by decide +kernel
theorem dX5_copyVolume_31 : decode cX5_copyVolume 31 = .ok (.aload_n 0, 1) := by decide +kernel
theorem dX5_copyVolume_32 : decode cX5_copyVolume 32 = .ok (.getfield 13, 3) := by decide +kernel
theorem dX5_copyVolume_35 : decode cX5_copyVolume 35 = .ok (.iload 6, 2) := by decide +kernel
theorem dX5_copyVolume_37 : decode cX5_copyVolume 37 = .ok (.aload_n 0, 1) := by decide +kernel
theorem dX5_copyVolume_38 : decode cX5_copyVolume 38 = .ok (.getfield 13, 3) := by decide +kernel
theorem dX5_copyVolume_41 : decode cX5_copyVolume 41 = .ok (.iload 5, 2) := by decide +kernel
theorem dX5_copyVolume_43 : decode cX5_copyVolume 43 = .ok (.iaload, 1) := by decide +kernel
theorem dX5_copyVolume_44 : decode cX5_copyVolume 44 = .ok (.iastore, 1) := by decide +kernel
theorem dX5_copyVolume_45 : decode cX5_copyVolume 45 = .ok (.aload_n 0, 1) := by decide +kernel
theorem dX5_copyVolume_46 : decode cX5_copyVolume 46 = .ok (.getfield 17, 3) := by decide +kernel
theorem dX5_copyVolume_49 : decode cX5_copyVolume 49 = .ok (.iload 6, 2) := by decide +kernel
theorem dX5_copyVolume_51 : decode cX5_copyVolume 51 = .ok (.aload_n 0, 1) := by decide +kernel
theorem dX5_copyVolume_52 : decode cX5_copyVolume 52 = .ok (.getfield 17, 3) := by decide +kernel
theorem dX5_copyVolume_55 : decode cX5_copyVolume 55 = .ok (.iload 5, 2) := by decide +kernel
theorem dX5_copyVolume_57 : decode cX5_copyVolume 57 = .ok (.baload, 1) := by decide +kernel
theorem dX5_copyVolume_58 : decode cX5_copyVolume 58 = .ok (.bastore, 1) := by decide +kernel
theorem dX5_copyVolume_59 : decode cX5_copyVolume 59 = .ok (.aload_n 0, 1) := by decide +kernel
theorem dX5_copyVolume_60 : decode cX5_copyVolume 60 = .ok (.getfield 20, 3) := by decide +kernel
theorem dX5_copyVolume_63 : decode cX5_copyVolume 63 = .ok (.iload 6, 2) := by decide +kernel
theorem dX5_copyVolume_65 : decode cX5_copyVolume 65 = .ok (.aload_n 0, 1) := by decide +kernel
theorem dX5_copyVolume_66 : decode cX5_copyVolume 66 = .ok (.getfield 20, 3) := by decide +kernel
theorem dX5_copyVolume_69 : decode cX5_copyVolume 69 = .ok (.iload 5, 2) := by decide +kernel
theorem dX5_copyVolume_71 : decode cX5_copyVolume 71 = .ok (.iaload, 1) := by decide +kernel
theorem dX5_copyVolume_72 : decode cX5_copyVolume 72 = .ok (.iastore, 1) := by decide +kernel
theorem dX5_copyVolume_73 : decode cX5_copyVolume 73 = .ok (.iconst 0, 1) := by decide +kernel
theorem dX5_copyVolume_74 : decode cX5_copyVolume 74 = .ok (.istore 7, 2) := by decide +kernel
theorem dX5_copyVolume_76 : decode cX5_copyVolume 76 = .ok (.iload 7, 2) := by decide +kernel
theorem dX5_copyVolume_78 : decode cX5_copyVolume 78 = .ok (.bipush 40, 2) := by decide +kernel
theorem dX5_copyVolume_80 : decode cX5_copyVolume 80 = .ok (.if_icmp .ge 35, 3) := by decide +kernel
theorem dX5_copyVolume_83 : decode cX5_copyVolume 83 = .ok (.aload_n 0, 1) := by decide +kernel
theorem dX5_copyVolume_84 : decode cX5_copyVolume 84 = .ok (.getfield 26, 3) := by decide +kernel
theorem dX5_copyVolume_87 : decode cX5_copyVolume 87 = .ok (.bipush 40, 2) := by decide +kernel
theorem dX5_copyVolume_89 : decode cX5_copyVolume 89 = .ok (.iload 6, 2) := by decide +kernel
theorem dX5_copyVolume_91 : decode cX5_copyVolume 91 = .ok (.imul, 1) := by decide +kernel
theorem dX5_copyVolume_92 : decode cX5_copyVolume 92 = .ok (.iload 7, 2) := by decide +kernel
theorem dX5_copyVolume_94 : decode cX5_copyVolume 94 = .ok (.iadd, 1) := by decide +kernel
theorem dX5_copyVolume_95 : decode cX5_copyVolume 95 = .ok (.aload_n 0, 1) := by decide +kernel
theorem dX5_copyVolume_96 : decode cX5_copyVolume 96 = .ok (.getfield 26, 3) := by decide +kernel
theorem dX5_copyVolume_99 : decode cX5_copyVolume 99 = .ok (.bipush 40, 2) := by decide +kernel
theorem dX5_copyVolume_101 : decode cX5_copyVolume 101 = .ok (.iload 5, 2) := by decide +kernel
theorem dX5_copyVolume_103 : decode cX5_copyVolume 103 = .ok (.imul, 1) := by decide +kernel
theorem dX5_copyVolume_104 : decode cX5_copyVolume 104 = .ok (.iload 7, 2) := by decide +kernel
theorem dX5_copyVolume_106 : decode cX5_copyVolume 106 = .ok (.iadd, 1) := by decide +kernel
theorem dX5_copyVolume_107 : decode cX5_copyVolume 107 = .ok (.iaload, 1) := by decide +kernel
theorem dX5_copyVolume_108 : decode cX5_copyVolume 108 = .ok (.iastore, 1) := by decide +kernel
theorem dX5_copyVolume_109 : decode cX5_copyVolume 109 = .ok (.iinc 7 1, 3) := by decide +kernel
theorem dX5_copyVolume_112 : decode cX5_copyVolume 112 = .ok (.goto (-36), 3) := by decide +kernel
theorem dX5_copyVolume_115 : decode cX5_copyVolume 115 = .ok (.return_, 1) := by decide +kernel
theorem dX5_needs_0 : decode cX5_needs 0 = .ok (.aload_n 0, 1) := by decide +kernel
theorem dX5_needs_1 : decode cX5_needs 1 = .ok (.getfield 26, 3) := by decide +kernel
theorem dX5_needs_4 : decode cX5_needs 4 = .ok (.iconst 0, 1) := by decide +kernel
theorem dX5_needs_5 : decode cX5_needs 5 = .ok (.iload_n 1, 1) := by decide +kernel
theorem dX5_needs_6 : decode cX5_needs 6 = .ok (.iload_n 2, 1) := by decide +kernel
theorem dX5_needs_7 : decode cX5_needs 7 = .ok (.invokestatic 58, 3) := by decide +kernel
theorem dX5_needs_10 : decode cX5_needs 10 = .ok (.iaload, 1) := by decide +kernel
theorem dX5_needs_11 : decode cX5_needs 11 = .ok (.istore_n 3, 1) := by decide +kernel
theorem dX5_needs_12 : decode cX5_needs 12 = .ok (.iload_n 3, 1) := by decide +kernel
theorem dX5_needs_13 : decode cX5_needs 13 = .ok (.iconst (-1), 1) := by decide +kernel
theorem dX5_needs_14 : decode cX5_needs 14 = .ok (.if_icmp .eq 11, 3) := by decide +kernel
theorem dX5_needs_17 : decode cX5_needs 17 = .ok (.aload_n 0, 1) := by decide +kernel
theorem dX5_needs_18 : decode cX5_needs 18 = .ok (.iload_n 3, 1) := by decide +kernel
theorem dX5_needs_19 : decode cX5_needs 19 = .ok (.invokevirtual 73, 3) := by decide +kernel
theorem dX5_needs_22 : decode cX5_needs 22 = .ok (.ifCond .ne 7, 3) := by decide +kernel
theorem dX5_needs_25 : decode cX5_needs 25 = .ok (.iconst 1, 1) := by decide +kernel
theorem dX5_needs_26 : decode cX5_needs 26 = .ok (.goto 4, 3) := by decide +kernel
theorem dX5_needs_29 : decode cX5_needs 29 = .ok (.iconst 0, 1) := by decide +kernel
theorem dX5_needs_30 : decode cX5_needs 30 = .ok (.ireturn, 1) := by decide +kernel
theorem dX5_isOver_0 : decode cX5_isOver 0 = .ok (.aload_n 0, 1) := by decide +kernel
theorem dX5_isOver_1 : decode cX5_isOver 1 = .ok (.getfield 26, 3) := by decide +kernel
theorem dX5_isOver_4 : decode cX5_isOver 4 = .ok (.iconst 0, 1) := by decide +kernel
theorem dX5_isOver_5 : decode cX5_isOver 5 = .ok (.iload_n 1, 1) := by decide +kernel
theorem dX5_isOver_6 : decode cX5_isOver 6 = .ok (.iload_n 2, 1) := by decide +kernel
theorem dX5_isOver_7 : decode cX5_isOver 7 = .ok (.invokestatic 58, 3) := by decide +kernel
theorem dX5_isOver_10 : decode cX5_isOver 10 = .ok (.iaload, 1) := by decide +kernel
theorem dX5_isOver_11 : decode cX5_isOver 11 = .ok (.iconst (-1), 1) := by decide +kernel
theorem dX5_isOver_12 : decode cX5_isOver 12 = .ok (.if_icmp .ne 31, 3) := by decide +kernel
theorem dX5_isOver_15 : decode cX5_isOver 15 = .ok (.aload_n 0, 1) := by decide +kernel
theorem dX5_isOver_16 : decode cX5_isOver 16 = .ok (.getfield 20, 3) := by decide +kernel
theorem dX5_isOver_19 : decode cX5_isOver 19 = .ok (.iload_n 1, 1) := by decide +kernel
theorem dX5_isOver_20 : decode cX5_isOver 20 = .ok (.iaload, 1) := by decide +kernel
theorem dX5_isOver_21 : decode cX5_isOver 21 = .ok (.iconst (-1), 1) := by decide +kernel
theorem dX5_isOver_22 : decode cX5_isOver 22 = .ok (.if_icmp .eq 21, 3) := by decide +kernel
theorem dX5_isOver_25 : decode cX5_isOver 25 = .ok (.aload_n 0, 1) := by decide +kernel
theorem dX5_isOver_26 : decode cX5_isOver 26 = .ok (.iload_n 1, 1) := by decide +kernel
theorem dX5_isOver_27 : decode cX5_isOver 27 = .ok (.invokevirtual 76, 3) := by decide +kernel
theorem dX5_isOver_30 : decode cX5_isOver 30 = .ok (.aload_n 0, 1) := by decide +kernel
theorem dX5_isOver_31 : decode cX5_isOver 31 = .ok (.getfield 20, 3) := by decide +kernel
theorem dX5_isOver_34 : decode cX5_isOver 34 = .ok (.iload_n 1, 1) := by decide +kernel
theorem dX5_isOver_35 : decode cX5_isOver 35 = .ok (.iaload, 1) := by decide +kernel
theorem dX5_isOver_36 : decode cX5_isOver 36 = .ok (.if_icmp .lt 7, 3) := by decide +kernel
theorem dX5_isOver_39 : decode cX5_isOver 39 = .ok (.iconst 1, 1) := by decide +kernel
theorem dX5_isOver_40 : decode cX5_isOver 40 = .ok (.goto 4, 3) := by decide +kernel
theorem dX5_isOver_43 : decode cX5_isOver 43 = .ok (.iconst 0, 1) := by decide +kernel
theorem dX5_isOver_44 : decode cX5_isOver 44 = .ok (.ireturn, 1) := by decide +kernel
theorem dX5_wordOf_0 : decode cX5_wordOf 0 = .ok (.aload_n 0, 1) := by decide +kernel
theorem dX5_wordOf_1 : decode cX5_wordOf 1 = .ok (.getfield 26, 3) := by decide +kernel
theorem dX5_wordOf_4 : decode cX5_wordOf 4 = .ok (.iconst 0, 1) := by decide +kernel
theorem dX5_wordOf_5 : decode cX5_wordOf 5 = .ok (.iload_n 1, 1) := by decide +kernel
theorem dX5_wordOf_6 : decode cX5_wordOf 6 = .ok (.iload_n 2, 1) := by decide +kernel
theorem dX5_wordOf_7 : decode cX5_wordOf 7 = .ok (.iconst 4, 1) := by decide +kernel
theorem dX5_wordOf_8 : decode cX5_wordOf 8 = .ok (.idiv, 1) := by decide +kernel
theorem dX5_wordOf_9 : decode cX5_wordOf 9 = .ok (.invokestatic 58, 3) := by decide +kernel
theorem dX5_wordOf_12 : decode cX5_wordOf 12 = .ok (.iaload, 1) := by decide +kernel
theorem dX5_wordOf_13 : decode cX5_wordOf 13 = .ok (.istore_n 3, 1) := by decide +kernel
theorem dX5_wordOf_14 : decode cX5_wordOf 14 = .ok (.iload_n 3, 1) := by decide +kernel
theorem dX5_wordOf_15 : decode cX5_wordOf 15 = .ok (.iconst (-1), 1) := by decide +kernel
theorem dX5_wordOf_16 : decode cX5_wordOf 16 = .ok (.if_icmp .eq 18, 3) := by decide +kernel
theorem dX5_wordOf_19 : decode cX5_wordOf 19 = .ok (.aload_n 0, 1) := by decide +kernel
theorem dX5_wordOf_20 : decode cX5_wordOf 20 = .ok (.getfield 36, 3) := by decide +kernel
theorem dX5_wordOf_23 : decode cX5_wordOf 23 = .ok (.iconst 4, 1) := by decide +kernel
theorem dX5_wordOf_24 : decode cX5_wordOf 24 = .ok (.iload_n 3, 1) := by decide +kernel
theorem dX5_wordOf_25 : decode cX5_wordOf 25 = .ok (.imul, 1) := by decide +kernel
theorem dX5_wordOf_26 : decode cX5_wordOf 26 = .ok (.iload_n 2, 1) := by decide +kernel
theorem dX5_wordOf_27 : decode cX5_wordOf 27 = .ok (.iconst 4, 1) := by decide +kernel
theorem dX5_wordOf_28 : decode cX5_wordOf 28 = .ok (.irem, 1) := by decide +kernel
theorem dX5_wordOf_29 : decode cX5_wordOf 29 = .ok (.iadd, 1) := by decide +kernel
theorem dX5_wordOf_30 : decode cX5_wordOf 30 = .ok (.iaload, 1) := by decide +kernel
theorem dX5_wordOf_31 : decode cX5_wordOf 31 = .ok (.goto 22, 3) := by decide +kernel
theorem dX5_wordOf_34 : decode cX5_wordOf 34 = .ok (.aload_n 0, 1) := by decide +kernel
theorem dX5_wordOf_35 : decode cX5_wordOf 35 = .ok (.getfield 17, 3) := by decide +kernel
theorem dX5_wordOf_38 : decode cX5_wordOf 38 = .ok (.iload_n 1, 1) := by decide +kernel
theorem dX5_wordOf_39 : decode cX5_wordOf 39 = .ok (.baload, 1) := by decide +kernel
theorem dX5_wordOf_40 : decode cX5_wordOf 40 = .ok (.ifCond .eq 12, 3) := by decide +kernel
theorem dX5_wordOf_43 : decode cX5_wordOf 43 = .ok (.aload_n 0, 1) := by decide +kernel
theorem dX5_wordOf_44 : decode cX5_wordOf 44 = .ok (.getfield 39, 3) := by decide +kernel
theorem dX5_wordOf_47 : decode cX5_wordOf 47 = .ok (.iload_n 2, 1) := by decide +kernel
theorem dX5_wordOf_48 : decode cX5_wordOf 48 = .ok (.iaload, 1) := by decide +kernel
theorem dX5_wordOf_49 : decode cX5_wordOf 49 = .ok (.goto 4, 3) := by decide +kernel
theorem dX5_wordOf_52 : decode cX5_wordOf 52 = .ok (.iconst 0, 1) := by decide +kernel
theorem dX5_wordOf_53 : decode cX5_wordOf 53 = .ok (.ireturn, 1) := by decide +kernel
theorem dX5_take_0 : decode cX5_take 0 = .ok (.aload_n 0, 1) := by decide +kernel
theorem dX5_take_1 : decode cX5_take 1 = .ok (.getfield 80, 3) := by decide +kernel
theorem dX5_take_4 : decode cX5_take 4 = .ok (.aload_n 0, 1) := by decide +kernel
theorem dX5_take_5 : decode cX5_take 5 = .ok (.getfield 32, 3) := by decide +kernel
theorem dX5_take_8 : decode cX5_take 8 = .ok (.if_icmp .ge 10, 3) := by decide +kernel
theorem dX5_take_11 : decode cX5_take 11 = .ok (.aload_n 0, 1) := by decide +kernel
theorem dX5_take_12 : decode cX5_take 12 = .ok (.getfield 80, 3) := by decide +kernel
theorem dX5_take_15 : decode cX5_take 15 = .ok (.goto 4, 3) := by decide +kernel
theorem dX5_take_18 : decode cX5_take 18 = .ok (.iconst 0, 1) := by decide +kernel
theorem dX5_take_19 : decode cX5_take 19 = .ok (.istore_n 3, 1) := by decide +kernel
theorem dX5_take_20 : decode cX5_take 20 = .ok (.aload_n 0, 1) := by decide +kernel
theorem dX5_take_21 : decode cX5_take 21 = .ok (.iload_n 3, 1) := by decide +kernel
theorem dX5_take_22 : decode cX5_take 22 = .ok (.invokevirtual 66, 3) := by decide +kernel
theorem dX5_take_25 : decode cX5_take 25 = .ok (.ifCond .ne 24, 3) := by decide +kernel
theorem dX5_take_28 : decode cX5_take 28 = .ok (.iload_n 3, 1) := by decide +kernel
theorem dX5_take_29 : decode cX5_take 29 = .ok (.iconst 1, 1) := by decide +kernel
theorem dX5_take_30 : decode cX5_take 30 = .ok (.iadd, 1) := by decide +kernel
theorem dX5_take_31 : decode cX5_take 31 = .ok (.aload_n 0, 1) := by decide +kernel
theorem dX5_take_32 : decode cX5_take 32 = .ok (.getfield 32, 3) := by decide +kernel
theorem dX5_take_35 : decode cX5_take 35 = .ok (.if_icmp .ne 7, 3) := by decide +kernel
theorem dX5_take_38 : decode cX5_take 38 = .ok (.iconst 0, 1) := by decide +kernel
theorem dX5_take_39 : decode cX5_take 39 = .ok (.goto 6, 3) := by decide +kernel
theorem dX5_take_42 : decode cX5_take 42 = .ok (.iload_n 3, 1) := by decide +kernel
theorem dX5_take_43 : decode cX5_take 43 = .ok (.iconst 1, 1) := by decide +kernel
theorem dX5_take_44 : decode cX5_take 44 = .ok (.iadd, 1) := by decide +kernel
theorem dX5_take_45 : decode cX5_take 45 = .ok (.istore_n 3, 1) := by decide +kernel
theorem dX5_take_46 : decode cX5_take 46 = .ok (.goto (-26), 3) := by decide +kernel
theorem dX5_take_49 : decode cX5_take 49 = .ok (.iconst 0, 1) := by decide +kernel
theorem dX5_take_50 : decode cX5_take 50 = .ok (.istore 4, 2) := by decide +kernel
theorem dX5_take_52 : decode cX5_take 52 = .ok (.iload 4, 2) := by decide +kernel
theorem dX5_take_54 : decode cX5_take 54 = .ok (.iconst 4, 1) := by decide +kernel
theorem dX5_take_55 : decode cX5_take 55 = .ok (.if_icmp .ge 31, 3) := by decide +kernel
theorem dX5_take_58 : decode cX5_take 58 = .ok (.aload_n 0, 1) := by decide +kernel
theorem dX5_take_59 : decode cX5_take 59 = .ok (.getfield 36, 3) := by decide +kernel
theorem dX5_take_62 : decode cX5_take 62 = .ok (.iconst 4, 1) := by decide +kernel
theorem dX5_take_63 : decode cX5_take 63 = .ok (.iload_n 3, 1) := by decide +kernel
theorem dX5_take_64 : decode cX5_take 64 = .ok (.imul, 1) := by decide +kernel
theorem dX5_take_65 : decode cX5_take 65 = .ok (.iload 4, 2) := by decide +kernel
theorem dX5_take_67 : decode cX5_take 67 = .ok (.iadd, 1) := by decide +kernel
theorem dX5_take_68 : decode cX5_take 68 = .ok (.aload_n 0, 1) := by decide +kernel
theorem dX5_take_69 : decode cX5_take 69 = .ok (.iload_n 1, 1) := by decide +kernel
theorem dX5_take_70 : decode cX5_take 70 = .ok (.iconst 4, 1) := by decide +kernel
theorem dX5_take_71 : decode cX5_take 71 = .ok (.iload_n 2, 1) := by decide +kernel
theorem dX5_take_72 : decode cX5_take 72 = .ok (.imul, 1) := by decide +kernel
theorem dX5_take_73 : decode cX5_take 73 = .ok (.iload 4, 2) := by decide +kernel
theorem dX5_take_75 : decode cX5_take 75 = .ok (.iadd, 1) := by decide +kernel
theorem dX5_take_76 : decode cX5_take 76 = .ok (.invokevirtual 83, 3) := by decide +kernel
theorem dX5_take_79 : decode cX5_take 79 = .ok (.iastore, 1) := by decide +kernel
theorem dX5_take_80 : decode cX5_take 80 = .ok (.iinc 4 1, 3) := by decide +kernel
theorem dX5_take_83 : decode cX5_take 83 = .ok (.goto (-31), 3) := by decide +kernel
theorem dX5_take_86 : decode cX5_take 86 = .ok (.aload_n 0, 1) := by decide +kernel
theorem dX5_take_87 : decode cX5_take 87 = .ok (.getfield 26, 3) := by decide +kernel
theorem dX5_take_90 : decode cX5_take 90 = .ok (.iconst 0, 1) := by decide +kernel
theorem dX5_take_91 : decode cX5_take 91 = .ok (.iload_n 1, 1) := by decide +kernel
theorem dX5_take_92 : decode cX5_take 92 = .ok (.iload_n 2, 1) := by decide +kernel
theorem dX5_take_93 : decode cX5_take 93 = .ok (.invokestatic 58, 3) := by decide +kernel
theorem dX5_take_96 : decode cX5_take 96 = .ok (.iload_n 3, 1) := by decide +kernel
theorem dX5_take_97 : decode cX5_take 97 = .ok (.iastore, 1) := by decide +kernel
theorem dX5_take_98 : decode cX5_take 98 = .ok (.aload_n 0, 1) := by decide +kernel
theorem dX5_take_99 : decode cX5_take 99 = .ok (.iload_n 3, 1) := by decide +kernel
theorem dX5_take_100 : decode cX5_take 100 = .ok (.iconst 1, 1) := by decide +kernel
theorem dX5_take_101 : decode cX5_take 101 = .ok (.iadd, 1) := by decide +kernel
theorem dX5_take_102 : decode cX5_take 102 = .ok (.aload_n 0, 1) := by decide +kernel
theorem dX5_take_103 : decode cX5_take 103 = .ok (.getfield 32, 3) := by decide +kernel
theorem dX5_take_106 : decode cX5_take 106 = .ok (.if_icmp .ne 7, 3) := by decide +kernel
theorem dX5_take_109 : decode cX5_take 109 = .ok (.iconst 0, 1) := by decide +kernel
theorem dX5_take_110 : decode cX5_take 110 = .ok (.goto 6, 3) := by decide +kernel
theorem dX5_take_113 : decode cX5_take 113 = .ok (.iload_n 3, 1) := by decide +kernel
theorem dX5_take_114 : decode cX5_take 114 = .ok (.iconst 1, 1) := by decide +kernel
theorem dX5_take_115 : decode cX5_take 115 = .ok (.iadd, 1) := by decide +kernel
theorem dX5_take_116 : decode cX5_take 116 = .ok (.putfield 80, 3) := by decide +kernel
theorem dX5_take_119 : decode cX5_take 119 = .ok (.aload_n 0, 1) := by decide +kernel
theorem dX5_take_120 : decode cX5_take 120 = .ok (.dup, 1) := by decide +kernel
theorem dX5_take_121 : decode cX5_take 121 = .ok (.getfield 86, 3) := by decide +kernel
theorem dX5_take_124 : decode cX5_take 124 = .ok (.iconst 1, 1) := by decide +kernel
theorem dX5_take_125 : decode cX5_take 125 = .ok (.iadd, 1) := by decide +kernel
theorem dX5_take_126 : decode cX5_take 126 = .ok (.putfield 86, 3) := by decide +kernel
theorem dX5_take_129 : decode cX5_take 129 = .ok (.aload_n 0, 1) := by decide +kernel
theorem dX5_take_130 : decode cX5_take 130 = .ok (.dup, 1) := by decide +kernel
theorem dX5_take_131 : decode cX5_take 131 = .ok (.getfield 89, 3) := by decide +kernel
theorem dX5_take_134 : decode cX5_take 134 = .ok (.aload_n 0, 1) := by decide +kernel
theorem dX5_take_135 : decode cX5_take 135 = .ok (.invokevirtual 92, 3) := by decide +kernel
theorem dX5_take_138 : decode cX5_take 138 = .ok (.aload_n 0, 1) := by decide +kernel
theorem dX5_take_139 : decode cX5_take 139 = .ok (.getfield 96, 3) := by decide +kernel
theorem dX5_take_142 : decode cX5_take 142 = .ok (.if_icmp .ne 7, 3) := by decide +kernel
theorem dX5_take_145 : decode cX5_take 145 = .ok (.iconst 1, 1) := by decide +kernel
theorem dX5_take_146 : decode cX5_take 146 = .ok (.goto 4, 3) := by decide +kernel
theorem dX5_take_149 : decode cX5_take 149 = .ok (.iconst 0, 1) := by decide +kernel
theorem dX5_take_150 : decode cX5_take 150 = .ok (.iadd, 1) := by decide +kernel
theorem dX5_take_151 : decode cX5_take 151 = .ok (.putfield 89, 3) := by decide +kernel
theorem dX5_take_154 : decode cX5_take 154 = .ok (.return_, 1) := by decide +kernel
theorem dX5_perform_0 : decode cX5_perform 0 = .ok (.iload_n 2, 1) := by decide +kernel
theorem dX5_perform_1 : decode cX5_perform 1 = .ok (.iconst 4, 1) := by decide +kernel
theorem dX5_perform_2 : decode cX5_perform 2 = .ok (.idiv, 1) := by decide +kernel
theorem dX5_perform_3 : decode cX5_perform 3 = .ok (.istore 4, 2) := by decide +kernel
theorem dX5_perform_5 : decode cX5_perform 5 = .ok (.aload_n 0, 1) := by decide +kernel
theorem dX5_perform_6 : decode cX5_perform 6 = .ok (.getfield 26, 3) := by decide +kernel
theorem dX5_perform_9 : decode cX5_perform 9 = .ok (.iconst 0, 1) := by decide +kernel
theorem dX5_perform_10 : decode cX5_perform 10 = .ok (.iload_n 1, 1) := by decide +kernel
theorem dX5_perform_11 : decode cX5_perform 11 = .ok (.iload 4, 2) := by decide +kernel
theorem dX5_perform_13 : decode cX5_perform 13 = .ok (.invokestatic 58, 3) := by decide +kernel
theorem dX5_perform_16 : decode cX5_perform 16 = .ok (.iaload, 1) := by decide +kernel
theorem dX5_perform_17 : decode cX5_perform 17 = .ok (.istore 5, 2) := by decide +kernel
theorem dX5_perform_19 : decode cX5_perform 19 = .ok (.aload_n 0, 1) := by decide +kernel
theorem dX5_perform_20 : decode cX5_perform 20 = .ok (.iload_n 1, 1) := by decide +kernel
theorem dX5_perform_21 : decode cX5_perform 21 = .ok (.iload 4, 2) := by decide +kernel
theorem dX5_perform_23 : decode cX5_perform 23 = .ok (.invokevirtual 99, 3) := by decide +kernel
theorem dX5_perform_26 : decode cX5_perform 26 = .ok (.istore 6, 2) := by decide +kernel
theorem dX5_perform_28 : decode cX5_perform 28 = .ok (.iload 6, 2) := by decide +kernel
theorem dX5_perform_30 : decode cX5_perform 30 = .ok (.ifCond .eq 10, 3) := by decide +kernel
theorem dX5_perform_33 : decode cX5_perform 33 = .ok (.aload_n 0, 1) := by decide +kernel
theorem dX5_perform_34 : decode cX5_perform 34 = .ok (.iload_n 1, 1) := by decide +kernel
theorem dX5_perform_35 : decode cX5_perform 35 = .ok (.iload 4, 2) := by decide +kernel
theorem dX5_perform_37 : decode cX5_perform 37 = .ok (.invokevirtual 103, 3) := by decide +kernel
theorem dX5_perform_40 : decode cX5_perform 40 = .ok (.aload_n 0, 1) := by decide +kernel
theorem dX5_perform_41 : decode cX5_perform 41 = .ok (.getfield 36, 3) := by decide +kernel
theorem dX5_perform_44 : decode cX5_perform 44 = .ok (.iconst 4, 1) := by decide +kernel
theorem dX5_perform_45 : decode cX5_perform 45 = .ok (.aload_n 0, 1) := by decide +kernel
theorem dX5_perform_46 : decode cX5_perform 46 = .ok (.getfield 26, 3) := by decide +kernel
theorem dX5_perform_49 : decode cX5_perform 49 = .ok (.iconst 0, 1) := by decide +kernel
theorem dX5_perform_50 : decode cX5_perform 50 = .ok (.iload_n 1, 1) := by decide +kernel
theorem dX5_perform_51 : decode cX5_perform 51 = .ok (.iload 4, 2) := by decide +kernel
theorem dX5_perform_53 : decode cX5_perform 53 = .ok (.invokestatic 58, 3) := by decide +kernel
theorem dX5_perform_56 : decode cX5_perform 56 = .ok (.iaload, 1) := by decide +kernel
theorem dX5_perform_57 : decode cX5_perform 57 = .ok (.imul, 1) := by decide +kernel
theorem dX5_perform_58 : decode cX5_perform 58 = .ok (.iload_n 2, 1) := by decide +kernel
theorem dX5_perform_59 : decode cX5_perform 59 = .ok (.iconst 4, 1) := by decide +kernel
theorem dX5_perform_60 : decode cX5_perform 60 = .ok (.irem, 1) := by decide +kernel
theorem dX5_perform_61 : decode cX5_perform 61 = .ok (.iadd, 1) := by decide +kernel
theorem dX5_perform_62 : decode cX5_perform 62 = .ok (.iload_n 3, 1) := by decide +kernel
theorem dX5_perform_63 : decode cX5_perform 63 = .ok (.iastore, 1) := by decide +kernel
theorem dX5_perform_64 : decode cX5_perform 64 = .ok (.iload 6, 2) := by decide +kernel
theorem dX5_perform_66 : decode cX5_perform 66 = .ok (.ifCond .ne 7, 3) := by decide +kernel
theorem dX5_perform_69 : decode cX5_perform 69 = .ok (.iconst 0, 1) := by decide +kernel
theorem dX5_perform_70 : decode cX5_perform 70 = .ok (.goto 14, 3) := by decide +kernel
theorem dX5_perform_73 : decode cX5_perform 73 = .ok (.iload 5, 2) := by decide +kernel
theorem dX5_perform_75 : decode cX5_perform 75 = .ok (.iconst (-1), 1) := by decide +kernel
theorem dX5_perform_76 : decode cX5_perform 76 = .ok (.if_icmp .ne 7, 3) := by decide +kernel
theorem dX5_perform_79 : decode cX5_perform 79 = .ok (.iconst 1, 1) := by decide +kernel
theorem dX5_perform_80 : decode cX5_perform 80 = .ok (.goto 4, 3) := by decide +kernel
theorem dX5_perform_83 : decode cX5_perform 83 = .ok (.iconst 2, 1) := by decide +kernel
theorem dX5_perform_84 : decode cX5_perform 84 = .ok (.ireturn, 1) := by decide +kernel
theorem dX5_waits_0 : decode cX5_waits 0 = .ok (.iconst 0, 1) := by decide +kernel
theorem dX5_waits_1 : decode cX5_waits 1 = .ok (.istore_n 3, 1) := by decide +kernel
theorem dX5_waits_2 : decode cX5_waits 2 = .ok (.iconst 0, 1) := by decide +kernel
theorem dX5_waits_3 : decode cX5_waits 3 = .ok (.istore 4, 2) := by decide +kernel
theorem dX5_waits_5 : decode cX5_waits 5 = .ok (.iload 4, 2) := by decide +kernel
theorem dX5_waits_7 : decode cX5_waits 7 = .ok (.aload_n 0, 1) := by decide +kernel
theorem dX5_waits_8 : decode cX5_waits 8 = .ok (.getfield 107, 3) := by decide +kernel
theorem dX5_waits_11 : decode cX5_waits 11 = .ok (.if_icmp .ge 43, 3) := by decide +kernel
theorem dX5_waits_14 : decode cX5_waits 14 = .ok (.iload_n 3, 1) := by decide +kernel
theorem dX5_waits_15 : decode cX5_waits 15 = .ok (.ifCond .ne 27, 3) := by decide +kernel
theorem dX5_waits_18 : decode cX5_waits 18 = .ok (.aload_n 0, 1) := by decide +kernel
theorem dX5_waits_19 : decode cX5_waits 19 = .ok (.getfield 42, 3) := by decide +kernel
theorem dX5_waits_22 : decode cX5_waits 22 = .ok (.iload 4, 2) := by decide +kernel
theorem dX5_waits_24 : decode cX5_waits 24 = .ok (.iaload, 1) := by decide +kernel
theorem dX5_waits_25 : decode cX5_waits 25 = .ok (.iload_n 1, 1) := by decide +kernel
theorem dX5_waits_26 : decode cX5_waits 26 = .ok (.if_icmp .ne 20, 3) := by decide +kernel
theorem dX5_waits_29 : decode cX5_waits 29 = .ok (.aload_n 0, 1) := by decide +kernel
theorem dX5_waits_30 : decode cX5_waits 30 = .ok (.getfield 45, 3) := by decide +kernel
theorem dX5_waits_33 : decode cX5_waits 33 = .ok (.iload 4, 2) := by decide +kernel
theorem dX5_waits_35 : decode cX5_waits 35 = .ok (.iaload, 1) := by decide +kernel
theorem dX5_waits_36 : decode cX5_waits 36 = .ok (.iconst 4, 1) := by decide +kernel
theorem dX5_waits_37 : decode cX5_waits 37 = .ok (.idiv, 1) := by decide +kernel
theorem dX5_waits_38 : decode cX5_waits 38 = .ok (.iload_n 2, 1) := by decide +kernel
theorem dX5_waits_39 : decode cX5_waits 39 = .ok (.if_icmp .ne 7, 3) := by decide +kernel
theorem dX5_waits_42 : decode cX5_waits 42 = .ok (.iconst 1, 1) := by decide +kernel
theorem dX5_waits_43 : decode cX5_waits 43 = .ok (.goto 4, 3) := by decide +kernel
theorem dX5_waits_46 : decode cX5_waits 46 = .ok (.iconst 0, 1) := by decide +kernel
theorem dX5_waits_47 : decode cX5_waits 47 = .ok (.istore_n 3, 1) := by decide +kernel
theorem dX5_waits_48 : decode cX5_waits 48 = .ok (.iinc 4 1, 3) := by decide +kernel
theorem dX5_waits_51 : decode cX5_waits 51 = .ok (.goto (-46), 3) := by decide +kernel
theorem dX5_waits_54 : decode cX5_waits 54 = .ok (.iload_n 3, 1) := by decide +kernel
theorem dX5_waits_55 : decode cX5_waits 55 = .ok (.ireturn, 1) := by decide +kernel
theorem dX5_enqueue_0 : decode cX5_enqueue 0 = .ok (.aload_n 0, 1) := by decide +kernel
theorem dX5_enqueue_1 : decode cX5_enqueue 1 = .ok (.getfield 107, 3) := by decide +kernel
theorem dX5_enqueue_4 : decode cX5_enqueue 4 = .ok (.bipush 8, 2) := by decide +kernel
theorem dX5_enqueue_6 : decode cX5_enqueue 6 = .ok (.if_icmp .ne 5, 3) := by decide +kernel
theorem dX5_enqueue_9 : decode cX5_enqueue 9 = .ok (.iconst (-1), 1) := by decide +kernel
theorem dX5_enqueue_10 : decode cX5_enqueue 10 = .ok (.ireturn, 1) := by decide +kernel
theorem dX5_enqueue_11 : decode cX5_enqueue 11 = .ok (.aload_n 0, 1) := by decide +kernel
theorem dX5_enqueue_12 : decode cX5_enqueue 12 = .ok (.getfield 42, 3) := by decide +kernel
theorem dX5_enqueue_15 : decode cX5_enqueue 15 = .ok (.aload_n 0, 1) := by decide +kernel
theorem dX5_enqueue_16 : decode cX5_enqueue 16 = .ok (.getfield 107, 3) := by decide +kernel
theorem dX5_enqueue_19 : decode cX5_enqueue 19 = .ok (.iload_n 1, 1) := by decide +kernel
theorem dX5_enqueue_20 : decode cX5_enqueue 20 = .ok (.iastore, 1) := by decide +kernel
theorem dX5_enqueue_21 : decode cX5_enqueue 21 = .ok (.aload_n 0, 1) := by decide +kernel
theorem dX5_enqueue_22 : decode cX5_enqueue 22 = .ok (.getfield 45, 3) := by decide +kernel
theorem dX5_enqueue_25 : decode cX5_enqueue 25 = .ok (.aload_n 0, 1) := by decide +kernel
theorem dX5_enqueue_26 : decode cX5_enqueue 26 = .ok (.getfield 107, 3) := by decide +kernel
theorem dX5_enqueue_29 : decode cX5_enqueue 29 = .ok (.iload_n 2, 1) := by decide +kernel
theorem dX5_enqueue_30 : decode cX5_enqueue 30 = .ok (.iastore, 1) := by decide +kernel
theorem dX5_enqueue_31 : decode cX5_enqueue 31 = .ok (.aload_n 0, 1) := by decide +kernel
theorem dX5_enqueue_32 : decode cX5_enqueue 32 = .ok (.getfield 48, 3) := by decide +kernel
theorem dX5_enqueue_35 : decode cX5_enqueue 35 = .ok (.aload_n 0, 1) := by decide +kernel
theorem dX5_enqueue_36 : decode cX5_enqueue 36 = .ok (.getfield 107, 3) := by decide +kernel
theorem dX5_enqueue_39 : decode cX5_enqueue 39 = .ok (.iload_n 3, 1) := by decide +kernel
theorem dX5_enqueue_40 : decode cX5_enqueue 40 = .ok (.iastore, 1) := by decide +kernel
theorem dX5_enqueue_41 : decode cX5_enqueue 41 = .ok (.aload_n 0, 1) := by decide +kernel
theorem dX5_enqueue_42 : decode cX5_enqueue 42 = .ok (.dup, 1) := by decide +kernel
theorem dX5_enqueue_43 : decode cX5_enqueue 43 = .ok (.getfield 107, 3) := by decide +kernel
theorem dX5_enqueue_46 : decode cX5_enqueue 46 = .ok (.iconst 1, 1) := by decide +kernel
theorem dX5_enqueue_47 : decode cX5_enqueue 47 = .ok (.iadd, 1) := by decide +kernel
theorem dX5_enqueue_48 : decode cX5_enqueue 48 = .ok (.putfield 107, 3) := by decide +kernel
theorem dX5_enqueue_51 : decode cX5_enqueue 51 = .ok (.iconst 3, 1) := by decide +kernel
theorem dX5_enqueue_52 : decode cX5_enqueue 52 = .ok (.ireturn, 1) := by decide +kernel
theorem dX5_unqueue_0 : decode cX5_unqueue 0 = .ok (.aload_n 0, 1) := by decide +kernel
theorem dX5_unqueue_1 : decode cX5_unqueue 1 = .ok (.dup, 1) := by decide +kernel
theorem dX5_unqueue_2 : decode cX5_unqueue 2 = .ok (.getfield 107, 3) := by decide +kernel
theorem dX5_unqueue_5 : decode cX5_unqueue 5 = .ok (.iconst 1, 1) := by decide +kernel
theorem dX5_unqueue_6 : decode cX5_unqueue 6 = .ok (.isub, 1) := by decide +kernel
theorem dX5_unqueue_7 : decode cX5_unqueue 7 = .ok (.putfield 107, 3) := by decide +kernel
theorem dX5_unqueue_10 : decode cX5_unqueue 10 = .ok (.iload_n 1, 1) := by decide +kernel
theorem dX5_unqueue_11 : decode cX5_unqueue 11 = .ok (.istore_n 2, 1) := by decide +kernel
theorem dX5_unqueue_12 : decode cX5_unqueue 12 = .ok (.iload_n 2, 1) := by decide +kernel
theorem dX5_unqueue_13 : decode cX5_unqueue 13 = .ok (.aload_n 0, 1) := by decide +kernel
theorem dX5_unqueue_14 : decode cX5_unqueue 14 = .ok (.getfield 107, 3) := by decide +kernel
theorem dX5_unqueue_17 : decode cX5_unqueue 17 = .ok (.if_icmp .ge 51, 3) := by decide +kernel
theorem dX5_unqueue_20 : decode cX5_unqueue 20 = .ok (.aload_n 0, 1) := by decide +kernel
theorem dX5_unqueue_21 : decode cX5_unqueue 21 = .ok (.getfield 42, 3) := by decide +kernel
theorem dX5_unqueue_24 : decode cX5_unqueue 24 = .ok (.iload_n 2, 1) := by decide +kernel
theorem dX5_unqueue_25 : decode cX5_unqueue 25 = .ok (.aload_n 0, 1) := by decide +kernel
theorem dX5_unqueue_26 : decode cX5_unqueue 26 = .ok (.getfield 42, 3) := by decide +kernel
theorem dX5_unqueue_29 : decode cX5_unqueue 29 = .ok (.iload_n 2, 1) := by decide +kernel
theorem dX5_unqueue_30 : decode cX5_unqueue 30 = .ok (.iconst 1, 1) := by decide +kernel
theorem dX5_unqueue_31 : decode cX5_unqueue 31 = .ok (.iadd, 1) := by decide +kernel
theorem dX5_unqueue_32 : decode cX5_unqueue 32 = .ok (.iaload, 1) := by decide +kernel
theorem dX5_unqueue_33 : decode cX5_unqueue 33 = .ok (.iastore, 1) := by decide +kernel
theorem dX5_unqueue_34 : decode cX5_unqueue 34 = .ok (.aload_n 0, 1) := by decide +kernel
theorem dX5_unqueue_35 : decode cX5_unqueue 35 = .ok (.getfield 45, 3) := by decide +kernel
theorem dX5_unqueue_38 : decode cX5_unqueue 38 = .ok (.iload_n 2, 1) := by decide +kernel
theorem dX5_unqueue_39 : decode cX5_unqueue 39 = .ok (.aload_n 0, 1) := by decide +kernel
theorem dX5_unqueue_40 : decode cX5_unqueue 40 = .ok (.getfield 45, 3) := by decide +kernel
theorem dX5_unqueue_43 : decode cX5_unqueue 43 = .ok (.iload_n 2, 1) := by decide +kernel
theorem dX5_unqueue_44 : decode cX5_unqueue 44 = .ok (.iconst 1, 1) := by decide +kernel
theorem dX5_unqueue_45 : decode cX5_unqueue 45 = .ok (.iadd, 1) := by decide +kernel
theorem dX5_unqueue_46 : decode cX5_unqueue 46 = .ok (.iaload, 1) := by decide +kernel
theorem dX5_unqueue_47 : decode cX5_unqueue 47 = .ok (.iastore, 1) := by decide +kernel
theorem dX5_unqueue_48 : decode cX5_unqueue 48 = .ok (.aload_n 0, 1) := by decide +kernel
theorem dX5_unqueue_49 : decode cX5_unqueue 49 = .ok (.getfield 48, 3) := by decide +kernel
theorem dX5_unqueue_52 : decode cX5_unqueue 52 = .ok (.iload_n 2, 1) := by decide +kernel
theorem dX5_unqueue_53 : decode cX5_unqueue 53 = .ok (.aload_n 0, 1) := by decide +kernel
theorem dX5_unqueue_54 : decode cX5_unqueue 54 = .ok (.getfield 48, 3) := by decide +kernel
theorem dX5_unqueue_57 : decode cX5_unqueue 57 = .ok (.iload_n 2, 1) := by decide +kernel
theorem dX5_unqueue_58 : decode cX5_unqueue 58 = .ok (.iconst 1, 1) := by decide +kernel
theorem dX5_unqueue_59 : decode cX5_unqueue 59 = .ok (.iadd, 1) := by decide +kernel
theorem dX5_unqueue_60 : decode cX5_unqueue 60 = .ok (.iaload, 1) := by decide +kernel
theorem dX5_unqueue_61 : decode cX5_unqueue 61 = .ok (.iastore, 1) := by decide +kernel
theorem dX5_unqueue_62 : decode cX5_unqueue 62 = .ok (.iinc 2 1, 3) := by decide +kernel
theorem dX5_unqueue_65 : decode cX5_unqueue 65 = .ok (.goto (-53), 3) := by decide +kernel
theorem dX5_unqueue_68 : decode cX5_unqueue 68 = .ok (.return_, 1) := by decide +kernel
theorem dX5_drain_0 : decode cX5_drain 0 = .ok (.aload_n 0, 1) := by decide +kernel
theorem dX5_drain_1 : decode cX5_drain 1 = .ok (.getfield 110, 3) := by decide +kernel
theorem dX5_drain_4 : decode cX5_drain 4 = .ok (.iconst 1, 1) := by decide +kernel
theorem dX5_drain_5 : decode cX5_drain 5 = .ok (.if_icmp .ne 7, 3) := by decide +kernel
theorem dX5_drain_8 : decode cX5_drain 8 = .ok (.iconst 1, 1) := by decide +kernel
theorem dX5_drain_9 : decode cX5_drain 9 = .ok (.goto 4, 3) := by decide +kernel
theorem dX5_drain_12 : decode cX5_drain 12 = .ok (.iconst 0, 1) := by decide +kernel
theorem dX5_drain_13 : decode cX5_drain 13 = .ok (.istore_n 1, 1) := by decide +kernel
theorem dX5_drain_14 : decode cX5_drain 14 = .ok (.iload_n 1, 1) := by decide +kernel
theorem dX5_drain_15 : decode cX5_drain 15 = .ok (.ifCond .eq 102, 3) := by decide +kernel
theorem dX5_drain_18 : decode cX5_drain 18 = .ok (.aload_n 0, 1) := by decide +kernel
theorem dX5_drain_19 : decode cX5_drain 19 = .ok (.getfield 107, 3) := by decide +kernel
theorem dX5_drain_22 : decode cX5_drain 22 = .ok (.ifCond .le 95, 3) := by decide +kernel
theorem dX5_drain_25 : decode cX5_drain 25 = .ok (.aload_n 0, 1) := by decide +kernel
theorem dX5_drain_26 : decode cX5_drain 26 = .ok (.getfield 42, 3) := by decide +kernel
theorem dX5_drain_29 : decode cX5_drain 29 = .ok (.iconst 0, 1) := by decide +kernel
theorem dX5_drain_30 : decode cX5_drain 30 = .ok (.iaload, 1) := by decide +kernel
theorem dX5_drain_31 : decode cX5_drain 31 = .ok (.istore_n 2, 1) := by decide +kernel
theorem dX5_drain_32 : decode cX5_drain 32 = .ok (.aload_n 0, 1) := by decide +kernel
theorem dX5_drain_33 : decode cX5_drain 33 = .ok (.getfield 45, 3) := by decide +kernel
theorem dX5_drain_36 : decode cX5_drain 36 = .ok (.iconst 0, 1) := by decide +kernel
theorem dX5_drain_37 : decode cX5_drain 37 = .ok (.iaload, 1) := by decide +kernel
theorem dX5_drain_38 : decode cX5_drain 38 = .ok (.istore_n 3, 1) := by decide +kernel
theorem dX5_drain_39 : decode cX5_drain 39 = .ok (.aload_n 0, 1) := by decide +kernel
theorem dX5_drain_40 : decode cX5_drain 40 = .ok (.getfield 48, 3) := by decide +kernel
theorem dX5_drain_43 : decode cX5_drain 43 = .ok (.iconst 0, 1) := by decide +kernel
theorem dX5_drain_44 : decode cX5_drain 44 = .ok (.iaload, 1) := by decide +kernel
theorem dX5_drain_45 : decode cX5_drain 45 = .ok (.istore 4, 2) := by decide +kernel
theorem dX5_drain_47 : decode cX5_drain 47 = .ok (.aload_n 0, 1) := by decide +kernel
theorem dX5_drain_48 : decode cX5_drain 48 = .ok (.iload_n 2, 1) := by decide +kernel
theorem dX5_drain_49 : decode cX5_drain 49 = .ok (.iload_n 3, 1) := by decide +kernel
theorem dX5_drain_50 : decode cX5_drain 50 = .ok (.iconst 4, 1) := by decide +kernel
theorem dX5_drain_51 : decode cX5_drain 51 = .ok (.idiv, 1) := by decide +kernel
theorem dX5_drain_52 : decode cX5_drain 52 = .ok (.invokevirtual 113, 3) := by decide +kernel
theorem dX5_drain_55 : decode cX5_drain 55 = .ok (.ifCond .eq 21, 3) := by decide +kernel
theorem dX5_drain_58 : decode cX5_drain 58 = .ok (.aload_n 0, 1) := by decide +kernel
theorem dX5_drain_59 : decode cX5_drain 59 = .ok (.dup, 1) := by decide +kernel
theorem dX5_drain_60 : decode cX5_drain 60 = .ok (.getfield 116, 3) := by decide +kernel
theorem dX5_drain_63 : decode cX5_drain 63 = .ok (.iconst 1, 1) := by decide +kernel
theorem dX5_drain_64 : decode cX5_drain 64 = .ok (.iadd, 1) := by decide +kernel
theorem dX5_drain_65 : decode cX5_drain 65 = .ok (.putfield 116, 3) := by decide +kernel
theorem dX5_drain_68 : decode cX5_drain 68 = .ok (.aload_n 0, 1) := by decide +kernel
theorem dX5_drain_69 : decode cX5_drain 69 = .ok (.iconst 0, 1) := by decide +kernel
theorem dX5_drain_70 : decode cX5_drain 70 = .ok (.invokevirtual 119, 3) := by decide +kernel
theorem dX5_drain_73 : decode cX5_drain 73 = .ok (.goto 41, 3) := by decide +kernel
theorem dX5_drain_76 : decode cX5_drain 76 = .ok (.aload_n 0, 1) := by decide +kernel
theorem dX5_drain_77 : decode cX5_drain 77 = .ok (.iload_n 2, 1) := by decide +kernel
theorem dX5_drain_78 : decode cX5_drain 78 = .ok (.iload_n 3, 1) := by decide +kernel
theorem dX5_drain_79 : decode cX5_drain 79 = .ok (.iconst 4, 1) := by decide +kernel
theorem dX5_drain_80 : decode cX5_drain 80 = .ok (.idiv, 1) := by decide +kernel
theorem dX5_drain_81 : decode cX5_drain 81 = .ok (.invokevirtual 99, 3) := by decide +kernel
theorem dX5_drain_84 : decode cX5_drain 84 = .ok (.ifCond .eq 15, 3) := by decide +kernel
theorem dX5_drain_87 : decode cX5_drain 87 = .ok (.aload_n 0, 1) := by decide +kernel
theorem dX5_drain_88 : decode cX5_drain 88 = .ok (.invokevirtual 92, 3) := by decide +kernel
theorem dX5_drain_91 : decode cX5_drain 91 = .ok (.ifCond .ne 8, 3) := by decide +kernel
theorem dX5_drain_94 : decode cX5_drain 94 = .ok (.iconst 0, 1) := by decide +kernel
theorem dX5_drain_95 : decode cX5_drain 95 = .ok (.istore_n 1, 1) := by decide +kernel
theorem dX5_drain_96 : decode cX5_drain 96 = .ok (.goto 18, 3) := by decide +kernel
theorem dX5_drain_99 : decode cX5_drain 99 = .ok (.aload_n 0, 1) := by decide +kernel
theorem dX5_drain_100 : decode cX5_drain 100 = .ok (.iload_n 2, 1) := by decide +kernel
theorem dX5_drain_101 : decode cX5_drain 101 = .ok (.iload_n 3, 1) := by decide +kernel
theorem dX5_drain_102 : decode cX5_drain 102 = .ok (.iload 4, 2) := by decide +kernel
theorem dX5_drain_104 : decode cX5_drain 104 = .ok (.invokevirtual 123, 3) := by decide +kernel
theorem dX5_drain_107 : decode cX5_drain 107 = .ok (.istore 5, 2) := by decide +kernel
theorem dX5_drain_109 : decode cX5_drain 109 = .ok (.aload_n 0, 1) := by decide +kernel
theorem dX5_drain_110 : decode cX5_drain 110 = .ok (.iconst 0, 1) := by decide +kernel
theorem dX5_drain_111 : decode cX5_drain 111 = .ok (.invokevirtual 119, 3) := by decide +kernel
theorem dX5_drain_114 : decode cX5_drain 114 = .ok (.goto (-100), 3) := by decide +kernel
theorem dX5_drain_117 : decode cX5_drain 117 = .ok (.aload_n 0, 1) := by decide +kernel
theorem dX5_drain_118 : decode cX5_drain 118 = .ok (.iload_n 1, 1) := by decide +kernel
theorem dX5_drain_119 : decode cX5_drain 119 = .ok (.ifCond .eq 7, 3) := by decide +kernel
theorem dX5_drain_122 : decode cX5_drain 122 = .ok (.iconst 0, 1) := by decide +kernel
theorem dX5_drain_123 : decode cX5_drain 123 = .ok (.goto 7, 3) := by decide +kernel
theorem dX5_drain_126 : decode cX5_drain 126 = .ok (.aload_n 0, 1) := by decide +kernel
theorem dX5_drain_127 : decode cX5_drain 127 = .ok (.getfield 110, 3) := by decide +kernel
theorem dX5_drain_130 : decode cX5_drain 130 = .ok (.putfield 110, 3) := by decide +kernel
theorem dX5_drain_133 : decode cX5_drain 133 = .ok (.return_, 1) := by decide +kernel
theorem dX5_write_0 : decode cX5_write 0 = .ok (.aload_n 0, 1) := by decide +kernel
theorem dX5_write_1 : decode cX5_write 1 = .ok (.aload_n 0, 1) := by decide +kernel
theorem dX5_write_2 : decode cX5_write 2 = .ok (.iload_n 1, 1) := by decide +kernel
theorem dX5_write_3 : decode cX5_write 3 = .ok (.invokevirtual 126, 3) := by decide +kernel
theorem dX5_write_6 : decode cX5_write 6 = .ok (.ifCond .eq 19, 3) := by decide +kernel
theorem dX5_write_9 : decode cX5_write 9 = .ok (.iload_n 2, 1) := by decide +kernel
theorem dX5_write_10 : decode cX5_write 10 = .ok (.ifCond .lt 15, 3) := by decide +kernel
theorem dX5_write_13 : decode cX5_write 13 = .ok (.iload_n 2, 1) := by decide +kernel
theorem dX5_write_14 : decode cX5_write 14 = .ok (.iconst 4, 1) := by decide +kernel
theorem dX5_write_15 : decode cX5_write 15 = .ok (.aload_n 0, 1) := by decide +kernel
theorem dX5_write_16 : decode cX5_write 16 = .ok (.getfield 13, 3) := by decide +kernel
theorem dX5_write_19 : decode cX5_write 19 = .ok (.iload_n 1, 1) := by decide +kernel
theorem dX5_write_20 : decode cX5_write 20 = .ok (.iaload, 1) := by decide +kernel
theorem dX5_write_21 : decode cX5_write 21 = .ok (.imul, 1) := by decide +kernel
theorem dX5_write_22 : decode cX5_write 22 = .ok (.if_icmp .lt 7, 3) := by decide +kernel
theorem dX5_write_25 : decode cX5_write 25 = .ok (.iconst 1, 1) := by decide +kernel
theorem dX5_write_26 : decode cX5_write 26 = .ok (.goto 4, 3) := by decide +kernel
theorem dX5_write_29 : decode cX5_write 29 = .ok (.iconst 0, 1) := by decide +kernel
theorem dX5_write_30 : decode cX5_write 30 = .ok (.putfield 51, 3) := by decide +kernel
theorem dX5_write_33 : decode cX5_write 33 = .ok (.aload_n 0, 1) := by decide +kernel
theorem dX5_write_34 : decode cX5_write 34 = .ok (.getfield 51, 3) := by decide +kernel
theorem dX5_write_37 : decode cX5_write 37 = .ok (.ifCond .le 5, 3) := by decide +kernel
theorem dX5_write_40 : decode cX5_write 40 = .ok (.iconst 0, 1) := by decide +kernel
theorem dX5_write_41 : decode cX5_write 41 = .ok (.ireturn, 1) := by decide +kernel
theorem dX5_write_42 : decode cX5_write 42 = .ok (.iload_n 2, 1) := by decide +kernel
theorem dX5_write_43 : decode cX5_write 43 = .ok (.iconst 4, 1) := by decide +kernel
theorem dX5_write_44 : decode cX5_write 44 = .ok (.idiv, 1) := by decide +kernel
theorem dX5_write_45 : decode cX5_write 45 = .ok (.istore 4, 2) := by decide +kernel
theorem dX5_write_47 : decode cX5_write 47 = .ok (.aload_n 0, 1) := by decide +kernel
theorem dX5_write_48 : decode cX5_write 48 = .ok (.getfield 110, 3) := by decide +kernel
theorem dX5_write_51 : decode cX5_write 51 = .ok (.iconst 1, 1) := by decide +kernel
theorem dX5_write_52 : decode cX5_write 52 = .ok (.if_icmp .ne 21, 3) := by decide +kernel
theorem dX5_write_55 : decode cX5_write 55 = .ok (.aload_n 0, 1) := by decide +kernel
theorem dX5_write_56 : decode cX5_write 56 = .ok (.iload_n 1, 1) := by decide +kernel
theorem dX5_write_57 : decode cX5_write 57 = .ok (.iload 4, 2) := by decide +kernel
theorem dX5_write_59 : decode cX5_write 59 = .ok (.invokevirtual 129, 3) := by decide +kernel
theorem dX5_write_62 : decode cX5_write 62 = .ok (.ifCond .eq 11, 3) := by decide +kernel
theorem dX5_write_65 : decode cX5_write 65 = .ok (.aload_n 0, 1) := by decide +kernel
theorem dX5_write_66 : decode cX5_write 66 = .ok (.iload_n 1, 1) := by decide +kernel
theorem dX5_write_67 : decode cX5_write 67 = .ok (.iload_n 2, 1) := by decide +kernel
theorem dX5_write_68 : decode cX5_write 68 = .ok (.iload_n 3, 1) := by decide +kernel
theorem dX5_write_69 : decode cX5_write 69 = .ok (.invokevirtual 132, 3) := by decide +kernel
theorem dX5_write_72 : decode cX5_write 72 = .ok (.ireturn, 1) := by decide +kernel
theorem dX5_write_73 : decode cX5_write 73 = .ok (.aload_n 0, 1) := by decide +kernel
theorem dX5_write_74 : decode cX5_write 74 = .ok (.iload_n 1, 1) := by decide +kernel
theorem dX5_write_75 : decode cX5_write 75 = .ok (.iload 4, 2) := by decide +kernel
theorem dX5_write_77 : decode cX5_write 77 = .ok (.invokevirtual 113, 3) := by decide +kernel
theorem dX5_write_80 : decode cX5_write 80 = .ok (.ifCond .eq 5, 3) := by decide +kernel
theorem dX5_write_83 : decode cX5_write 83 = .ok (.iconst (-1), 1) := by decide +kernel
theorem dX5_write_84 : decode cX5_write 84 = .ok (.ireturn, 1) := by decide +kernel
theorem dX5_write_85 : decode cX5_write 85 = .ok (.aload_n 0, 1) := by decide +kernel
theorem dX5_write_86 : decode cX5_write 86 = .ok (.iload_n 1, 1) := by decide +kernel
theorem dX5_write_87 : decode cX5_write 87 = .ok (.iload 4, 2) := by decide +kernel
theorem dX5_write_89 : decode cX5_write 89 = .ok (.invokevirtual 99, 3) := by decide +kernel
theorem dX5_write_92 : decode cX5_write 92 = .ok (.ifCond .ne 11, 3) := by decide +kernel
theorem dX5_write_95 : decode cX5_write 95 = .ok (.aload_n 0, 1) := by decide +kernel
theorem dX5_write_96 : decode cX5_write 96 = .ok (.iload_n 1, 1) := by decide +kernel
theorem dX5_write_97 : decode cX5_write 97 = .ok (.iload_n 2, 1) := by decide +kernel
theorem dX5_write_98 : decode cX5_write 98 = .ok (.iload_n 3, 1) := by decide +kernel
theorem dX5_write_99 : decode cX5_write 99 = .ok (.invokevirtual 123, 3) := by decide +kernel
theorem dX5_write_102 : decode cX5_write 102 = .ok (.ireturn, 1) := by decide +kernel
theorem dX5_write_103 : decode cX5_write 103 = .ok (.aload_n 0, 1) := by decide +kernel
theorem dX5_write_104 : decode cX5_write 104 = .ok (.invokevirtual 92, 3) := by decide +kernel
theorem dX5_write_107 : decode cX5_write 107 = .ok (.ifCond .le 7, 3) := by decide +kernel
theorem dX5_write_110 : decode cX5_write 110 = .ok (.iconst 1, 1) := by decide +kernel
theorem dX5_write_111 : decode cX5_write 111 = .ok (.goto 4, 3) := by decide +kernel
theorem dX5_write_114 : decode cX5_write 114 = .ok (.iconst 0, 1) := by decide +kernel
theorem dX5_write_115 : decode cX5_write 115 = .ok (.istore 5, 2) := by decide +kernel
theorem dX5_write_117 : decode cX5_write 117 = .ok (.aload_n 0, 1) := by decide +kernel
theorem dX5_write_118 : decode cX5_write 118 = .ok (.getfield 110, 3) := by decide +kernel
theorem dX5_write_121 : decode cX5_write 121 = .ok (.ifCond .ne 37, 3) := by decide +kernel
theorem dX5_write_124 : decode cX5_write 124 = .ok (.iload 5, 2) := by decide +kernel
theorem dX5_write_126 : decode cX5_write 126 = .ok (.ifCond .ne 32, 3) := by decide +kernel
theorem dX5_write_129 : decode cX5_write 129 = .ok (.aload_n 0, 1) := by decide +kernel
theorem dX5_write_130 : decode cX5_write 130 = .ok (.aload_n 0, 1) := by decide +kernel
theorem dX5_write_131 : decode cX5_write 131 = .ok (.getfield 135, 3) := by decide +kernel
theorem dX5_write_134 : decode cX5_write 134 = .ok (.ifCond .le 7, 3) := by decide +kernel
theorem dX5_write_137 : decode cX5_write 137 = .ok (.iconst 1, 1) := by decide +kernel
theorem dX5_write_138 : decode cX5_write 138 = .ok (.goto 4, 3) := by decide +kernel
theorem dX5_write_141 : decode cX5_write 141 = .ok (.iconst 2, 1) := by decide +kernel
theorem dX5_write_142 : decode cX5_write 142 = .ok (.putfield 110, 3) := by decide +kernel
theorem dX5_write_145 : decode cX5_write 145 = .ok (.aload_n 0, 1) := by decide +kernel
theorem dX5_write_146 : decode cX5_write 146 = .ok (.aload_n 0, 1) := by decide +kernel
theorem dX5_write_147 : decode cX5_write 147 = .ok (.getfield 135, 3) := by decide +kernel
theorem dX5_write_150 : decode cX5_write 150 = .ok (.putfield 138, 3) := by decide +kernel
theorem dX5_write_153 : decode cX5_write 153 = .ok (.aload_n 0, 1) := by decide +kernel
theorem dX5_write_154 : decode cX5_write 154 = .ok (.iconst 0, 1) := by decide +kernel
theorem dX5_write_155 : decode cX5_write 155 = .ok (.putfield 141, 3) := by decide +kernel
theorem dX5_write_158 : decode cX5_write 158 = .ok (.aload_n 0, 1) := by decide +kernel
theorem dX5_write_159 : decode cX5_write 159 = .ok (.getfield 110, 3) := by decide +kernel
theorem dX5_write_162 : decode cX5_write 162 = .ok (.iconst 1, 1) := by decide +kernel
theorem dX5_write_163 : decode cX5_write 163 = .ok (.if_icmp .ne 11, 3) := by decide +kernel
theorem dX5_write_166 : decode cX5_write 166 = .ok (.aload_n 0, 1) := by decide +kernel
theorem dX5_write_167 : decode cX5_write 167 = .ok (.iload_n 1, 1) := by decide +kernel
theorem dX5_write_168 : decode cX5_write 168 = .ok (.iload_n 2, 1) := by decide +kernel
theorem dX5_write_169 : decode cX5_write 169 = .ok (.iload_n 3, 1) := by decide +kernel
theorem dX5_write_170 : decode cX5_write 170 = .ok (.invokevirtual 132, 3) := by decide +kernel
theorem dX5_write_173 : decode cX5_write 173 = .ok (.ireturn, 1) := by decide +kernel
theorem dX5_write_174 : decode cX5_write 174 = .ok (.iload 5, 2) := by decide +kernel
theorem dX5_write_176 : decode cX5_write 176 = .ok (.ifCond .ne 5, 3) := by decide +kernel
theorem dX5_write_179 : decode cX5_write 179 = .ok (.iconst (-1), 1) := by decide +kernel
theorem dX5_write_180 : decode cX5_write 180 = .ok (.ireturn, 1) := by decide +kernel
theorem dX5_write_181 : decode cX5_write 181 = .ok (.aload_n 0, 1) := by decide +kernel
theorem dX5_write_182 : decode cX5_write 182 = .ok (.iconst 0, 1) := by decide +kernel
theorem dX5_write_183 : decode cX5_write 183 = .ok (.putfield 110, 3) := by decide +kernel
theorem dX5_write_186 : decode cX5_write 186 = .ok (.aload_n 0, 1) := by decide +kernel
theorem dX5_write_187 : decode cX5_write 187 = .ok (.iload_n 1, 1) := by decide +kernel
theorem dX5_write_188 : decode cX5_write 188 = .ok (.iload_n 2, 1) := by decide +kernel
theorem dX5_write_189 : decode cX5_write 189 = .ok (.iload_n 3, 1) := by decide +kernel
theorem dX5_write_190 : decode cX5_write 190 = .ok (.invokevirtual 123, 3) := by decide +kernel
theorem dX5_write_193 : decode cX5_write 193 = .ok (.ireturn, 1) := by decide +kernel
theorem dX5_read_0 : decode cX5_read 0 = .ok (.aload_n 0, 1) := by decide +kernel
theorem dX5_read_1 : decode cX5_read 1 = .ok (.aload_n 0, 1) := by decide +kernel
theorem dX5_read_2 : decode cX5_read 2 = .ok (.iload_n 1, 1) := by decide +kernel
theorem dX5_read_3 : decode cX5_read 3 = .ok (.invokevirtual 126, 3) := by decide +kernel
theorem dX5_read_6 : decode cX5_read 6 = .ok (.ifCond .eq 19, 3) := by decide +kernel
theorem dX5_read_9 : decode cX5_read 9 = .ok (.iload_n 2, 1) := by decide +kernel
theorem dX5_read_10 : decode cX5_read 10 = .ok (.ifCond .lt 15, 3) := by decide +kernel
theorem dX5_read_13 : decode cX5_read 13 = .ok (.iload_n 2, 1) := by decide +kernel
theorem dX5_read_14 : decode cX5_read 14 = .ok (.iconst 4, 1) := by decide +kernel
theorem dX5_read_15 : decode cX5_read 15 = .ok (.aload_n 0, 1) := by decide +kernel
theorem dX5_read_16 : decode cX5_read 16 = .ok (.getfield 13, 3) := by decide +kernel
theorem dX5_read_19 : decode cX5_read 19 = .ok (.iload_n 1, 1) := by decide +kernel
theorem dX5_read_20 : decode cX5_read 20 = .ok (.iaload, 1) := by decide +kernel
theorem dX5_read_21 : decode cX5_read 21 = .ok (.imul, 1) := by decide +kernel
theorem dX5_read_22 : decode cX5_read 22 = .ok (.if_icmp .lt 7, 3) := by decide +kernel
theorem dX5_read_25 : decode cX5_read 25 = .ok (.iconst 1, 1) := by decide +kernel
theorem dX5_read_26 : decode cX5_read 26 = .ok (.goto 4, 3) := by decide +kernel
theorem dX5_read_29 : decode cX5_read 29 = .ok (.iconst 0, 1) := by decide +kernel
theorem dX5_read_30 : decode cX5_read 30 = .ok (.putfield 51, 3) := by decide +kernel
theorem dX5_read_33 : decode cX5_read 33 = .ok (.aload_n 0, 1) := by decide +kernel
theorem dX5_read_34 : decode cX5_read 34 = .ok (.getfield 51, 3) := by decide +kernel
theorem dX5_read_37 : decode cX5_read 37 = .ok (.ifCond .ne 12, 3) := by decide +kernel
theorem dX5_read_40 : decode cX5_read 40 = .ok (.aload_n 0, 1) := by decide +kernel
theorem dX5_read_41 : decode cX5_read 41 = .ok (.iload_n 1, 1) := by decide +kernel
theorem dX5_read_42 : decode cX5_read 42 = .ok (.iload_n 2, 1) := by decide +kernel
theorem dX5_read_43 : decode cX5_read 43 = .ok (.invokevirtual 83, 3) := by decide +kernel
theorem dX5_read_46 : decode cX5_read 46 = .ok (.goto 4, 3) := by decide +kernel
theorem dX5_read_49 : decode cX5_read 49 = .ok (.iconst 0, 1) := by decide +kernel
theorem dX5_read_50 : decode cX5_read 50 = .ok (.ireturn, 1) := by decide +kernel
theorem dX5_make_0 : decode cX5_make 0 = .ok (.aload_n 0, 1) := by decide +kernel
theorem dX5_make_1 : decode cX5_make 1 = .ok (.iload_n 1, 1) := by decide +kernel
theorem dX5_make_2 : decode cX5_make 2 = .ok (.invokestatic 54, 3) := by decide +kernel
theorem dX5_make_5 : decode cX5_make 5 = .ok (.ifCond .ne 7, 3) := by decide +kernel
theorem dX5_make_8 : decode cX5_make 8 = .ok (.iconst 1, 1) := by decide +kernel
theorem dX5_make_9 : decode cX5_make 9 = .ok (.goto 28, 3) := by decide +kernel
theorem dX5_make_12 : decode cX5_make 12 = .ok (.iload_n 2, 1) := by decide +kernel
theorem dX5_make_13 : decode cX5_make 13 = .ok (.invokestatic 144, 3) := by decide +kernel
theorem dX5_make_16 : decode cX5_make 16 = .ok (.ifCond .ne 7, 3) := by decide +kernel
theorem dX5_make_19 : decode cX5_make 19 = .ok (.iconst 2, 1) := by decide +kernel
theorem dX5_make_20 : decode cX5_make 20 = .ok (.goto 17, 3) := by decide +kernel
theorem dX5_make_23 : decode cX5_make 23 = .ok (.aload_n 0, 1) := by decide +kernel
theorem dX5_make_24 : decode cX5_make 24 = .ok (.getfield 7, 3) := by decide +kernel
theorem dX5_make_27 : decode cX5_make 27 = .ok (.iload_n 1, 1) := by decide +kernel
theorem dX5_make_28 : decode cX5_make 28 = .ok (.baload, 1) := by decide +kernel
theorem dX5_make_29 : decode cX5_make 29 = .ok (.ifCond .eq 7, 3) := by decide +kernel
theorem dX5_make_32 : decode cX5_make 32 = .ok (.iconst 3, 1) := by decide +kernel
theorem dX5_make_33 : decode cX5_make 33 = .ok (.goto 4, 3) := by decide +kernel
theorem dX5_make_36 : decode cX5_make 36 = .ok (.iconst 0, 1) := by decide +kernel
theorem dX5_make_37 : decode cX5_make 37 = .ok (.putfield 51, 3) := by decide +kernel
theorem dX5_make_40 : decode cX5_make 40 = .ok (.aload_n 0, 1) := by decide +kernel
theorem dX5_make_41 : decode cX5_make 41 = .ok (.getfield 51, 3) := by decide +kernel
theorem dX5_make_44 : decode cX5_make 44 = .ok (.ifCond .le 5, 3) := by decide +kernel
theorem dX5_make_47 : decode cX5_make 47 = .ok (.iconst 0, 1) := by decide +kernel
theorem dX5_make_48 : decode cX5_make 48 = .ok (.ireturn, 1) := by decide +kernel
theorem dX5_make_49 : decode cX5_make 49 = .ok (.aload_n 0, 1) := by decide +kernel
theorem dX5_make_50 : decode cX5_make 50 = .ok (.getfield 7, 3) := by decide +kernel
theorem dX5_make_53 : decode cX5_make 53 = .ok (.iload_n 1, 1) := by decide +kernel
theorem dX5_make_54 : decode cX5_make 54 = .ok (.iconst 1, 1) := by decide +kernel
theorem dX5_make_55 : decode cX5_make 55 = .ok (.bastore, 1) := by decide +kernel
theorem dX5_make_56 : decode cX5_make 56 = .ok (.aload_n 0, 1) := by decide +kernel
theorem dX5_make_57 : decode cX5_make 57 = .ok (.getfield 13, 3) := by decide +kernel
theorem dX5_make_60 : decode cX5_make 60 = .ok (.iload_n 1, 1) := by decide +kernel
theorem dX5_make_61 : decode cX5_make 61 = .ok (.iload_n 2, 1) := by decide +kernel
theorem dX5_make_62 : decode cX5_make 62 = .ok (.iastore, 1) := by decide +kernel
theorem dX5_make_63 : decode cX5_make 63 = .ok (.aload_n 0, 1) := by decide +kernel
theorem dX5_make_64 : decode cX5_make 64 = .ok (.getfield 17, 3) := by decide +kernel
theorem dX5_make_67 : decode cX5_make 67 = .ok (.iload_n 1, 1) := by decide +kernel
theorem dX5_make_68 : decode cX5_make 68 = .ok (.iload_n 3, 1) := by decide +kernel
theorem dX5_make_69 : decode cX5_make 69 = .ok (.bastore, 1) := by decide +kernel
theorem dX5_make_70 : decode cX5_make 70 = .ok (.aload_n 0, 1) := by decide +kernel
theorem dX5_make_71 : decode cX5_make 71 = .ok (.getfield 20, 3) := by decide +kernel
theorem dX5_make_74 : decode cX5_make 74 = .ok (.iload_n 1, 1) := by decide +kernel
theorem dX5_make_75 : decode cX5_make 75 = .ok (.iconst (-1), 1) := by decide +kernel
theorem dX5_make_76 : decode cX5_make 76 = .ok (.iastore, 1) := by decide +kernel
theorem dX5_make_77 : decode cX5_make 77 = .ok (.aload_n 0, 1) := by decide +kernel
theorem dX5_make_78 : decode cX5_make 78 = .ok (.getfield 23, 3) := by decide +kernel
theorem dX5_make_81 : decode cX5_make 81 = .ok (.iload_n 1, 1) := by decide +kernel
theorem dX5_make_82 : decode cX5_make 82 = .ok (.iconst (-1), 1) := by decide +kernel
theorem dX5_make_83 : decode cX5_make 83 = .ok (.iastore, 1) := by decide +kernel
theorem dX5_make_84 : decode cX5_make 84 = .ok (.iconst 0, 1) := by decide +kernel
theorem dX5_make_85 : decode cX5_make 85 = .ok (.istore 4, 2) := by decide +kernel
theorem dX5_make_87 : decode cX5_make 87 = .ok (.iload 4, 2) := by decide +kernel
theorem dX5_make_89 : decode cX5_make 89 = .ok (.bipush 40, 2) := by decide +kernel
theorem dX5_make_91 : decode cX5_make 91 = .ok (.if_icmp .ge 22, 3) := by decide +kernel
theorem dX5_make_94 : decode cX5_make 94 = .ok (.aload_n 0, 1) := by decide +kernel
theorem dX5_make_95 : decode cX5_make 95 = .ok (.getfield 26, 3) := by decide +kernel
theorem dX5_make_98 : decode cX5_make 98 = .ok (.iconst 0, 1) := by decide +kernel
theorem dX5_make_99 : decode cX5_make 99 = .ok (.iload_n 1, 1) := by decide +kernel
theorem dX5_make_100 : decode cX5_make 100 = .ok (.iload 4, 2) := by decide +kernel
theorem dX5_make_102 : decode cX5_make 102 = .ok (.invokestatic 58, 3) := by decide +kernel
theorem dX5_make_105 : decode cX5_make 105 = .ok (.iconst (-1), 1) := by decide +kernel
theorem dX5_make_106 : decode cX5_make 106 = .ok (.iastore, 1) := by decide +kernel
theorem dX5_make_107 : decode cX5_make 107 = .ok (.iinc 4 1, 3) := by decide +kernel
theorem dX5_make_110 : decode cX5_make 110 = .ok (.goto (-23), 3) := by decide +kernel
theorem dX5_make_113 : decode cX5_make 113 = .ok (.aload_n 0, 1) := by decide +kernel
theorem dX5_make_114 : decode cX5_make 114 = .ok (.iconst 0, 1) := by decide +kernel
theorem dX5_make_115 : decode cX5_make 115 = .ok (.invokevirtual 147, 3) := by decide +kernel
theorem dX5_make_118 : decode cX5_make 118 = .ok (.ireturn, 1) := by decide +kernel
theorem dX5_snap_0 : decode cX5_snap 0 = .ok (.aload_n 0, 1) := by decide +kernel
theorem dX5_snap_1 : decode cX5_snap 1 = .ok (.iload_n 2, 1) := by decide +kernel
theorem dX5_snap_2 : decode cX5_snap 2 = .ok (.invokestatic 54, 3) := by decide +kernel
theorem dX5_snap_5 : decode cX5_snap 5 = .ok (.ifCond .eq 11, 3) := by decide +kernel
theorem dX5_snap_8 : decode cX5_snap 8 = .ok (.aload_n 0, 1) := by decide +kernel
theorem dX5_snap_9 : decode cX5_snap 9 = .ok (.iload_n 1, 1) := by decide +kernel
theorem dX5_snap_10 : decode cX5_snap 10 = .ok (.invokevirtual 126, 3) := by decide +kernel
theorem dX5_snap_13 : decode cX5_snap 13 = .ok (.ifCond .ne 7, 3) := by decide +kernel
theorem dX5_snap_16 : decode cX5_snap 16 = .ok (.iconst 1, 1) := by decide +kernel
theorem dX5_snap_17 : decode cX5_snap 17 = .ok (.goto 17, 3) := by decide +kernel
theorem dX5_snap_20 : decode cX5_snap 20 = .ok (.aload_n 0, 1) := by decide +kernel
theorem dX5_snap_21 : decode cX5_snap 21 = .ok (.getfield 7, 3) := by decide +kernel
theorem dX5_snap_24 : decode cX5_snap 24 = .ok (.iload_n 2, 1) := by decide +kernel
theorem dX5_snap_25 : decode cX5_snap 25 = .ok (.baload, 1) := by decide +kernel
theorem dX5_snap_26 : decode cX5_snap 26 = .ok (.ifCond .eq 7, 3) := by decide +kernel
theorem dX5_snap_29 : decode cX5_snap 29 = .ok (.iconst 2, 1) := by decide +kernel
theorem dX5_snap_30 : decode cX5_snap 30 = .ok (.goto 4, 3) := by decide +kernel
theorem dX5_snap_33 : decode cX5_snap 33 = .ok (.iconst 0, 1) := by decide +kernel
theorem dX5_snap_34 : decode cX5_snap 34 = .ok (.putfield 51, 3) := by decide +kernel
theorem dX5_snap_37 : decode cX5_snap 37 = .ok (.aload_n 0, 1) := by decide +kernel
theorem dX5_snap_38 : decode cX5_snap 38 = .ok (.getfield 51, 3) := by decide +kernel
theorem dX5_snap_41 : decode cX5_snap 41 = .ok (.ifCond .le 5, 3) := by decide +kernel
theorem dX5_snap_44 : decode cX5_snap 44 = .ok (.iconst 0, 1) := by decide +kernel
theorem dX5_snap_45 : decode cX5_snap 45 = .ok (.ireturn, 1) := by decide +kernel
theorem dX5_snap_46 : decode cX5_snap 46 = .ok (.aload_n 0, 1) := by decide +kernel
theorem dX5_snap_47 : decode cX5_snap 47 = .ok (.iconst 0, 1) := by decide +kernel
theorem dX5_snap_48 : decode cX5_snap 48 = .ok (.iload_n 1, 1) := by decide +kernel
theorem dX5_snap_49 : decode cX5_snap 49 = .ok (.iconst 0, 1) := by decide +kernel
theorem dX5_snap_50 : decode cX5_snap 50 = .ok (.iload_n 2, 1) := by decide +kernel
theorem dX5_snap_51 : decode cX5_snap 51 = .ok (.invokevirtual 69, 3) := by decide +kernel
theorem dX5_snap_54 : decode cX5_snap 54 = .ok (.aload_n 0, 1) := by decide +kernel
theorem dX5_snap_55 : decode cX5_snap 55 = .ok (.getfield 23, 3) := by decide +kernel
theorem dX5_snap_58 : decode cX5_snap 58 = .ok (.iload_n 2, 1) := by decide +kernel
theorem dX5_snap_59 : decode cX5_snap 59 = .ok (.iload_n 1, 1) := by decide +kernel
theorem dX5_snap_60 : decode cX5_snap 60 = .ok (.iastore, 1) := by decide +kernel
theorem dX5_snap_61 : decode cX5_snap 61 = .ok (.aload_n 0, 1) := by decide +kernel
theorem dX5_snap_62 : decode cX5_snap 62 = .ok (.iload_n 2, 1) := by decide +kernel
theorem dX5_snap_63 : decode cX5_snap 63 = .ok (.invokevirtual 76, 3) := by decide +kernel
theorem dX5_snap_66 : decode cX5_snap 66 = .ok (.ireturn, 1) := by decide +kernel
theorem dX5_drop_0 : decode cX5_drop 0 = .ok (.aload_n 0, 1) := by decide +kernel
theorem dX5_drop_1 : decode cX5_drop 1 = .ok (.aload_n 0, 1) := by decide +kernel
theorem dX5_drop_2 : decode cX5_drop 2 = .ok (.iload_n 1, 1) := by decide +kernel
theorem dX5_drop_3 : decode cX5_drop 3 = .ok (.invokevirtual 126, 3) := by decide +kernel
theorem dX5_drop_6 : decode cX5_drop 6 = .ok (.ifCond .ne 7, 3) := by decide +kernel
theorem dX5_drop_9 : decode cX5_drop 9 = .ok (.iconst 1, 1) := by decide +kernel
theorem dX5_drop_10 : decode cX5_drop 10 = .ok (.goto 4, 3) := by decide +kernel
theorem dX5_drop_13 : decode cX5_drop 13 = .ok (.iconst 0, 1) := by decide +kernel
theorem dX5_drop_14 : decode cX5_drop 14 = .ok (.putfield 51, 3) := by decide +kernel
theorem dX5_drop_17 : decode cX5_drop 17 = .ok (.aload_n 0, 1) := by decide +kernel
theorem dX5_drop_18 : decode cX5_drop 18 = .ok (.getfield 51, 3) := by decide +kernel
theorem dX5_drop_21 : decode cX5_drop 21 = .ok (.ifCond .le 5, 3) := by decide +kernel
theorem dX5_drop_24 : decode cX5_drop 24 = .ok (.iconst 0, 1) := by decide +kernel
theorem dX5_drop_25 : decode cX5_drop 25 = .ok (.ireturn, 1) := by decide +kernel
theorem dX5_drop_26 : decode cX5_drop 26 = .ok (.aload_n 0, 1) := by decide +kernel
theorem dX5_drop_27 : decode cX5_drop 27 = .ok (.iload_n 1, 1) := by decide +kernel
theorem dX5_drop_28 : decode cX5_drop 28 = .ok (.invokevirtual 76, 3) := by decide +kernel
theorem dX5_drop_31 : decode cX5_drop 31 = .ok (.istore_n 2, 1) := by decide +kernel
theorem dX5_drop_32 : decode cX5_drop 32 = .ok (.iconst 0, 1) := by decide +kernel
theorem dX5_drop_33 : decode cX5_drop 33 = .ok (.istore_n 3, 1) := by decide +kernel
theorem dX5_drop_34 : decode cX5_drop 34 = .ok (.iload_n 3, 1) := by decide +kernel
theorem dX5_drop_35 : decode cX5_drop 35 = .ok (.aload_n 0, 1) := by decide +kernel
theorem dX5_drop_36 : decode cX5_drop 36 = .ok (.getfield 107, 3) := by decide +kernel
theorem dX5_drop_39 : decode cX5_drop 39 = .ok (.if_icmp .ge 37, 3) := by decide +kernel
theorem dX5_drop_42 : decode cX5_drop 42 = .ok (.aload_n 0, 1) := by decide +kernel
theorem dX5_drop_43 : decode cX5_drop 43 = .ok (.getfield 42, 3) := by decide +kernel
theorem dX5_drop_46 : decode cX5_drop 46 = .ok (.iload_n 3, 1) := by decide +kernel
theorem dX5_drop_47 : decode cX5_drop 47 = .ok (.iaload, 1) := by decide +kernel
theorem dX5_drop_48 : decode cX5_drop 48 = .ok (.iload_n 1, 1) := by decide +kernel
theorem dX5_drop_49 : decode cX5_drop 49 = .ok (.if_icmp .ne 21, 3) := by decide +kernel
theorem dX5_drop_52 : decode cX5_drop 52 = .ok (.aload_n 0, 1) := by decide +kernel
theorem dX5_drop_53 : decode cX5_drop 53 = .ok (.dup, 1) := by decide +kernel
theorem dX5_drop_54 : decode cX5_drop 54 = .ok (.getfield 116, 3) := by decide +kernel
theorem dX5_drop_57 : decode cX5_drop 57 = .ok (.iconst 1, 1) := by decide +kernel
theorem dX5_drop_58 : decode cX5_drop 58 = .ok (.iadd, 1) := by decide +kernel
theorem dX5_drop_59 : decode cX5_drop 59 = .ok (.putfield 116, 3) := by decide +kernel
theorem dX5_drop_62 : decode cX5_drop 62 = .ok (.aload_n 0, 1) := by decide +kernel
theorem dX5_drop_63 : decode cX5_drop 63 = .ok (.iload_n 3, 1) := by decide +kernel
theorem dX5_drop_64 : decode cX5_drop 64 = .ok (.invokevirtual 119, 3) := by decide +kernel
theorem dX5_drop_67 : decode cX5_drop 67 = .ok (.goto (-33), 3) := by decide +kernel
theorem dX5_drop_70 : decode cX5_drop 70 = .ok (.iinc 3 1, 3) := by decide +kernel
theorem dX5_drop_73 : decode cX5_drop 73 = .ok (.goto (-39), 3) := by decide +kernel
theorem dX5_drop_76 : decode cX5_drop 76 = .ok (.aload_n 0, 1) := by decide +kernel
theorem dX5_drop_77 : decode cX5_drop 77 = .ok (.getfield 7, 3) := by decide +kernel
theorem dX5_drop_80 : decode cX5_drop 80 = .ok (.iload_n 1, 1) := by decide +kernel
theorem dX5_drop_81 : decode cX5_drop 81 = .ok (.iconst 0, 1) := by decide +kernel
theorem dX5_drop_82 : decode cX5_drop 82 = .ok (.bastore, 1) := by decide +kernel
theorem dX5_drop_83 : decode cX5_drop 83 = .ok (.aload_n 0, 1) := by decide +kernel
theorem dX5_drop_84 : decode cX5_drop 84 = .ok (.invokevirtual 150, 3) := by decide +kernel
theorem dX5_drop_87 : decode cX5_drop 87 = .ok (.iload_n 2, 1) := by decide +kernel
theorem dX5_drop_88 : decode cX5_drop 88 = .ok (.ireturn, 1) := by decide +kernel
theorem dX5_waitsIn_0 : decode cX5_waitsIn 0 = .ok (.iconst 0, 1) := by decide +kernel
theorem dX5_waitsIn_1 : decode cX5_waitsIn 1 = .ok (.istore 4, 2) := by decide +kernel
theorem dX5_waitsIn_3 : decode cX5_waitsIn 3 = .ok (.iload_n 2, 1) := by decide +kernel
theorem dX5_waitsIn_4 : decode cX5_waitsIn 4 = .ok (.istore 5, 2) := by decide +kernel
theorem dX5_waitsIn_6 : decode cX5_waitsIn 6 = .ok (.iload 5, 2) := by decide +kernel
theorem dX5_waitsIn_8 : decode cX5_waitsIn 8 = .ok (.iload_n 3, 1) := by decide +kernel
theorem dX5_waitsIn_9 : decode cX5_waitsIn 9 = .ok (.if_icmp .ge 31, 3) := by decide +kernel
theorem dX5_waitsIn_12 : decode cX5_waitsIn 12 = .ok (.iload 4, 2) := by decide +kernel
theorem dX5_waitsIn_14 : decode cX5_waitsIn 14 = .ok (.ifCond .ne 13, 3) := by decide +kernel
theorem dX5_waitsIn_17 : decode cX5_waitsIn 17 = .ok (.aload_n 0, 1) := by decide +kernel
theorem dX5_waitsIn_18 : decode cX5_waitsIn 18 = .ok (.iload_n 1, 1) := by decide +kernel
theorem dX5_waitsIn_19 : decode cX5_waitsIn 19 = .ok (.iload 5, 2) := by decide +kernel
theorem dX5_waitsIn_21 : decode cX5_waitsIn 21 = .ok (.invokevirtual 129, 3) := by decide +kernel
theorem dX5_waitsIn_24 : decode cX5_waitsIn 24 = .ok (.ifCond .eq 7, 3) := by decide +kernel
theorem dX5_waitsIn_27 : decode cX5_waitsIn 27 = .ok (.iconst 1, 1) := by decide +kernel
theorem dX5_waitsIn_28 : decode cX5_waitsIn 28 = .ok (.goto 4, 3) := by decide +kernel
theorem dX5_waitsIn_31 : decode cX5_waitsIn 31 = .ok (.iconst 0, 1) := by decide +kernel
theorem dX5_waitsIn_32 : decode cX5_waitsIn 32 = .ok (.istore 4, 2) := by decide +kernel
theorem dX5_waitsIn_34 : decode cX5_waitsIn 34 = .ok (.iinc 5 1, 3) := by decide +kernel
theorem dX5_waitsIn_37 : decode cX5_waitsIn 37 = .ok (.goto (-31), 3) := by decide +kernel
theorem dX5_waitsIn_40 : decode cX5_waitsIn 40 = .ok (.iload 4, 2) := by decide +kernel
theorem dX5_waitsIn_42 : decode cX5_waitsIn 42 = .ok (.ireturn, 1) := by decide +kernel
theorem dX5_unmap_0 : decode cX5_unmap 0 = .ok (.iconst 0, 1) := by decide +kernel
theorem dX5_unmap_1 : decode cX5_unmap 1 = .ok (.istore 4, 2) := by decide +kernel
theorem dX5_unmap_3 : decode cX5_unmap 3 = .ok (.iload_n 2, 1) := by decide +kernel
theorem dX5_unmap_4 : decode cX5_unmap 4 = .ok (.istore 5, 2) := by decide +kernel
theorem dX5_unmap_6 : decode cX5_unmap 6 = .ok (.iload 5, 2) := by decide +kernel
theorem dX5_unmap_8 : decode cX5_unmap 8 = .ok (.iload_n 3, 1) := by decide +kernel
theorem dX5_unmap_9 : decode cX5_unmap 9 = .ok (.if_icmp .ge 48, 3) := by decide +kernel
theorem dX5_unmap_12 : decode cX5_unmap 12 = .ok (.iload 4, 2) := by decide +kernel
theorem dX5_unmap_14 : decode cX5_unmap 14 = .ok (.aload_n 0, 1) := by decide +kernel
theorem dX5_unmap_15 : decode cX5_unmap 15 = .ok (.getfield 26, 3) := by decide +kernel
theorem dX5_unmap_18 : decode cX5_unmap 18 = .ok (.iconst 0, 1) := by decide +kernel
theorem dX5_unmap_19 : decode cX5_unmap 19 = .ok (.iload_n 1, 1) := by decide +kernel
theorem dX5_unmap_20 : decode cX5_unmap 20 = .ok (.iload 5, 2) := by decide +kernel
theorem dX5_unmap_22 : decode cX5_unmap 22 = .ok (.invokestatic 58, 3) := by decide +kernel
theorem dX5_unmap_25 : decode cX5_unmap 25 = .ok (.iaload, 1) := by decide +kernel
theorem dX5_unmap_26 : decode cX5_unmap 26 = .ok (.iconst (-1), 1) := by decide +kernel
theorem dX5_unmap_27 : decode cX5_unmap 27 = .ok (.if_icmp .eq 7, 3) := by decide +kernel
theorem dX5_unmap_30 : decode cX5_unmap 30 = .ok (.iconst 1, 1) := by decide +kernel
theorem dX5_unmap_31 : decode cX5_unmap 31 = .ok (.goto 4, 3) := by decide +kernel
theorem dX5_unmap_34 : decode cX5_unmap 34 = .ok (.iconst 0, 1) := by decide +kernel
theorem dX5_unmap_35 : decode cX5_unmap 35 = .ok (.iadd, 1) := by decide +kernel
theorem dX5_unmap_36 : decode cX5_unmap 36 = .ok (.istore 4, 2) := by decide +kernel
theorem dX5_unmap_38 : decode cX5_unmap 38 = .ok (.aload_n 0, 1) := by decide +kernel
theorem dX5_unmap_39 : decode cX5_unmap 39 = .ok (.getfield 26, 3) := by decide +kernel
theorem dX5_unmap_42 : decode cX5_unmap 42 = .ok (.iconst 0, 1) := by decide +kernel
theorem dX5_unmap_43 : decode cX5_unmap 43 = .ok (.iload_n 1, 1) := by decide +kernel
theorem dX5_unmap_44 : decode cX5_unmap 44 = .ok (.iload 5, 2) := by decide +kernel
theorem dX5_unmap_46 : decode cX5_unmap 46 = .ok (.invokestatic 58, 3) := by decide +kernel
theorem dX5_unmap_49 : decode cX5_unmap 49 = .ok (.iconst (-1), 1) := by decide +kernel
theorem dX5_unmap_50 : decode cX5_unmap 50 = .ok (.iastore, 1) := by decide +kernel
theorem dX5_unmap_51 : decode cX5_unmap 51 = .ok (.iinc 5 1, 3) := by decide +kernel
theorem dX5_unmap_54 : decode cX5_unmap 54 = .ok (.goto (-48), 3) := by decide +kernel
theorem dX5_unmap_57 : decode cX5_unmap 57 = .ok (.iload 4, 2) := by decide +kernel
theorem dX5_unmap_59 : decode cX5_unmap 59 = .ok (.ireturn, 1) := by decide +kernel
theorem dX5_resize_0 : decode cX5_resize 0 = .ok (.aload_n 0, 1) := by decide +kernel
theorem dX5_resize_1 : decode cX5_resize 1 = .ok (.aload_n 0, 1) := by decide +kernel
theorem dX5_resize_2 : decode cX5_resize 2 = .ok (.iload_n 1, 1) := by decide +kernel
theorem dX5_resize_3 : decode cX5_resize 3 = .ok (.invokevirtual 126, 3) := by decide +kernel
theorem dX5_resize_6 : decode cX5_resize 6 = .ok (.ifCond .ne 7, 3) := by decide +kernel
theorem dX5_resize_9 : decode cX5_resize 9 = .ok (.iconst 1, 1) := by decide +kernel
theorem dX5_resize_10 : decode cX5_resize 10 = .ok (.goto 34, 3) := by decide +kernel
theorem dX5_resize_13 : decode cX5_resize 13 = .ok (.iload_n 2, 1) := by decide +kernel
theorem dX5_resize_14 : decode cX5_resize 14 = .ok (.invokestatic 144, 3) := by decide +kernel
theorem dX5_resize_17 : decode cX5_resize 17 = .ok (.ifCond .ne 7, 3) := by decide +kernel
theorem dX5_resize_20 : decode cX5_resize 20 = .ok (.iconst 2, 1) := by decide +kernel
theorem dX5_resize_21 : decode cX5_resize 21 = .ok (.goto 23, 3) := by decide +kernel
theorem dX5_resize_24 : decode cX5_resize 24 = .ok (.aload_n 0, 1) := by decide +kernel
theorem dX5_resize_25 : decode cX5_resize 25 = .ok (.iload_n 1, 1) := by decide +kernel
theorem dX5_resize_26 : decode cX5_resize 26 = .ok (.iload_n 2, 1) := by decide +kernel
theorem dX5_resize_27 : decode cX5_resize 27 = .ok (.aload_n 0, 1) := by decide +kernel
theorem dX5_resize_28 : decode cX5_resize 28 = .ok (.getfield 13, 3) := by decide +kernel
theorem dX5_resize_31 : decode cX5_resize 31 = .ok (.iload_n 1, 1) := by decide +kernel
theorem dX5_resize_32 : decode cX5_resize 32 = .ok (.iaload, 1) := by decide +kernel
theorem dX5_resize_33 : decode cX5_resize 33 = .ok (.invokevirtual 153, 3) := by decide +kernel
theorem dX5_resize_36 : decode cX5_resize 36 = .ok (.ifCond .eq 7, 3) := by decide +kernel
theorem dX5_resize_39 : decode cX5_resize 39 = .ok (.iconst 3, 1) := by decide +kernel
theorem dX5_resize_40 : decode cX5_resize 40 = .ok (.goto 4, 3) := by decide +kernel
theorem dX5_resize_43 : decode cX5_resize 43 = .ok (.iconst 0, 1) := by decide +kernel
theorem dX5_resize_44 : decode cX5_resize 44 = .ok (.putfield 51, 3) := by decide +kernel
theorem dX5_resize_47 : decode cX5_resize 47 = .ok (.aload_n 0, 1) := by decide +kernel
theorem dX5_resize_48 : decode cX5_resize 48 = .ok (.getfield 51, 3) := by decide +kernel
theorem dX5_resize_51 : decode cX5_resize 51 = .ok (.ifCond .le 5, 3) := by decide +kernel
theorem dX5_resize_54 : decode cX5_resize 54 = .ok (.iconst 0, 1) := by decide +kernel
theorem dX5_resize_55 : decode cX5_resize 55 = .ok (.ireturn, 1) := by decide +kernel
theorem dX5_resize_56 : decode cX5_resize 56 = .ok (.aload_n 0, 1) := by decide +kernel
theorem dX5_resize_57 : decode cX5_resize 57 = .ok (.iload_n 1, 1) := by decide +kernel
theorem dX5_resize_58 : decode cX5_resize 58 = .ok (.iload_n 2, 1) := by decide +kernel
theorem dX5_resize_59 : decode cX5_resize 59 = .ok (.aload_n 0, 1) := by decide +kernel
theorem dX5_resize_60 : decode cX5_resize 60 = .ok (.getfield 13, 3) := by decide +kernel
theorem dX5_resize_63 : decode cX5_resize 63 = .ok (.iload_n 1, 1) := by decide +kernel
theorem dX5_resize_64 : decode cX5_resize 64 = .ok (.iaload, 1) := by decide +kernel
theorem dX5_resize_65 : decode cX5_resize 65 = .ok (.invokevirtual 157, 3) := by decide +kernel
theorem dX5_resize_68 : decode cX5_resize 68 = .ok (.istore_n 3, 1) := by decide +kernel
theorem dX5_resize_69 : decode cX5_resize 69 = .ok (.aload_n 0, 1) := by decide +kernel
theorem dX5_resize_70 : decode cX5_resize 70 = .ok (.getfield 13, 3) := by decide +kernel
theorem dX5_resize_73 : decode cX5_resize 73 = .ok (.iload_n 1, 1) := by decide +kernel
theorem dX5_resize_74 : decode cX5_resize 74 = .ok (.iload_n 2, 1) := by decide +kernel
theorem dX5_resize_75 : decode cX5_resize 75 = .ok (.iastore, 1) := by decide +kernel
theorem dX5_resize_76 : decode cX5_resize 76 = .ok (.aload_n 0, 1) := by decide +kernel
theorem dX5_resize_77 : decode cX5_resize 77 = .ok (.invokevirtual 150, 3) := by decide +kernel
theorem dX5_resize_80 : decode cX5_resize 80 = .ok (.iload_n 3, 1) := by decide +kernel
theorem dX5_resize_81 : decode cX5_resize 81 = .ok (.ireturn, 1) := by decide +kernel
theorem dX5_discard_0 : decode cX5_discard 0 = .ok (.aload_n 0, 1) := by decide +kernel
theorem dX5_discard_1 : decode cX5_discard 1 = .ok (.aload_n 0, 1) := by decide +kernel
theorem dX5_discard_2 : decode cX5_discard 2 = .ok (.iload_n 1, 1) := by decide +kernel
theorem dX5_discard_3 : decode cX5_discard 3 = .ok (.invokevirtual 126, 3) := by decide +kernel
theorem dX5_discard_6 : decode cX5_discard 6 = .ok (.ifCond .eq 33, 3) := by decide +kernel
theorem dX5_discard_9 : decode cX5_discard 9 = .ok (.iload_n 2, 1) := by decide +kernel
theorem dX5_discard_10 : decode cX5_discard 10 = .ok (.ifCond .lt 29, 3) := by decide +kernel
theorem dX5_discard_13 : decode cX5_discard 13 = .ok (.iload_n 3, 1) := by decide +kernel
theorem dX5_discard_14 : decode cX5_discard 14 = .ok (.ifCond .lt 25, 3) := by decide +kernel
theorem dX5_discard_17 : decode cX5_discard 17 = .ok (.iload_n 2, 1) := by decide +kernel
theorem dX5_discard_18 : decode cX5_discard 18 = .ok (.aload_n 0, 1) := by decide +kernel
theorem dX5_discard_19 : decode cX5_discard 19 = .ok (.getfield 13, 3) := by decide +kernel
theorem dX5_discard_22 : decode cX5_discard 22 = .ok (.iload_n 1, 1) := by decide +kernel
theorem dX5_discard_23 : decode cX5_discard 23 = .ok (.iaload, 1) := by decide +kernel
theorem dX5_discard_24 : decode cX5_discard 24 = .ok (.if_icmp .gt 15, 3) := by decide +kernel
theorem dX5_discard_27 : decode cX5_discard 27 = .ok (.iload_n 3, 1) := by decide +kernel
theorem dX5_discard_28 : decode cX5_discard 28 = .ok (.aload_n 0, 1) := by decide +kernel
theorem dX5_discard_29 : decode cX5_discard 29 = .ok (.getfield 13, 3) := by decide +kernel
theorem dX5_discard_32 : decode cX5_discard 32 = .ok (.iload_n 1, 1) := by decide +kernel
theorem dX5_discard_33 : decode cX5_discard 33 = .ok (.iaload, 1) := by decide +kernel
theorem dX5_discard_34 : decode cX5_discard 34 = .ok (.iload_n 2, 1) := by decide +kernel
theorem dX5_discard_35 : decode cX5_discard 35 = .ok (.isub, 1) := by decide +kernel
theorem dX5_discard_36 : decode cX5_discard 36 = .ok (.if_icmp .le 7, 3) := by decide +kernel
theorem dX5_discard_39 : decode cX5_discard 39 = .ok (.iconst 1, 1) := by decide +kernel
theorem dX5_discard_40 : decode cX5_discard 40 = .ok (.goto 20, 3) := by decide +kernel
theorem dX5_discard_43 : decode cX5_discard 43 = .ok (.aload_n 0, 1) := by decide +kernel
theorem dX5_discard_44 : decode cX5_discard 44 = .ok (.iload_n 1, 1) := by decide +kernel
theorem dX5_discard_45 : decode cX5_discard 45 = .ok (.iload_n 2, 1) := by decide +kernel
theorem dX5_discard_46 : decode cX5_discard 46 = .ok (.iload_n 2, 1) := by decide +kernel
theorem dX5_discard_47 : decode cX5_discard 47 = .ok (.iload_n 3, 1) := by decide +kernel
theorem dX5_discard_48 : decode cX5_discard 48 = .ok (.iadd, 1) := by decide +kernel
theorem dX5_discard_49 : decode cX5_discard 49 = .ok (.invokevirtual 153, 3) := by decide +kernel
theorem dX5_discard_52 : decode cX5_discard 52 = .ok (.ifCond .eq 7, 3) := by decide +kernel
theorem dX5_discard_55 : decode cX5_discard 55 = .ok (.iconst 2, 1) := by decide +kernel
theorem dX5_discard_56 : decode cX5_discard 56 = .ok (.goto 4, 3) := by decide +kernel
theorem dX5_discard_59 : decode cX5_discard 59 = .ok (.iconst 0, 1) := by decide +kernel
theorem dX5_discard_60 : decode cX5_discard 60 = .ok (.putfield 51, 3) := by decide +kernel
theorem dX5_discard_63 : decode cX5_discard 63 = .ok (.aload_n 0, 1) := by decide +kernel
theorem dX5_discard_64 : decode cX5_discard 64 = .ok (.getfield 51, 3) := by decide +kernel
theorem dX5_discard_67 : decode cX5_discard 67 = .ok (.ifCond .le 5, 3) := by decide +kernel
theorem dX5_discard_70 : decode cX5_discard 70 = .ok (.iconst 0, 1) := by decide +kernel
theorem dX5_discard_71 : decode cX5_discard 71 = .ok (.ireturn, 1) := by decide +kernel
theorem dX5_discard_72 : decode cX5_discard 72 = .ok (.aload_n 0, 1) := by decide +kernel
theorem dX5_discard_73 : decode cX5_discard 73 = .ok (.iload_n 1, 1) := by decide +kernel
theorem dX5_discard_74 : decode cX5_discard 74 = .ok (.iload_n 2, 1) := by decide +kernel
theorem dX5_discard_75 : decode cX5_discard 75 = .ok (.iload_n 2, 1) := by decide +kernel
theorem dX5_discard_76 : decode cX5_discard 76 = .ok (.iload_n 3, 1) := by decide +kernel
theorem dX5_discard_77 : decode cX5_discard 77 = .ok (.iadd, 1) := by decide +kernel
theorem dX5_discard_78 : decode cX5_discard 78 = .ok (.invokevirtual 157, 3) := by decide +kernel
theorem dX5_discard_81 : decode cX5_discard 81 = .ok (.istore 4, 2) := by decide +kernel
theorem dX5_discard_83 : decode cX5_discard 83 = .ok (.aload_n 0, 1) := by decide +kernel
theorem dX5_discard_84 : decode cX5_discard 84 = .ok (.invokevirtual 150, 3) := by decide +kernel
theorem dX5_discard_87 : decode cX5_discard 87 = .ok (.iload 4, 2) := by decide +kernel
theorem dX5_discard_89 : decode cX5_discard 89 = .ok (.ireturn, 1) := by decide +kernel
theorem dX5_grow_0 : decode cX5_grow 0 = .ok (.aload_n 0, 1) := by decide +kernel
theorem dX5_grow_1 : decode cX5_grow 1 = .ok (.iload_n 1, 1) := by decide +kernel
theorem dX5_grow_2 : decode cX5_grow 2 = .ok (.ifCond .ge 7, 3) := by decide +kernel
theorem dX5_grow_5 : decode cX5_grow 5 = .ok (.iconst 1, 1) := by decide +kernel
theorem dX5_grow_6 : decode cX5_grow 6 = .ok (.goto 4, 3) := by decide +kernel
theorem dX5_grow_9 : decode cX5_grow 9 = .ok (.iconst 0, 1) := by decide +kernel
theorem dX5_grow_10 : decode cX5_grow 10 = .ok (.putfield 51, 3) := by decide +kernel
theorem dX5_grow_13 : decode cX5_grow 13 = .ok (.aload_n 0, 1) := by decide +kernel
theorem dX5_grow_14 : decode cX5_grow 14 = .ok (.getfield 51, 3) := by decide +kernel
theorem dX5_grow_17 : decode cX5_grow 17 = .ok (.ifCond .le 5, 3) := by decide +kernel
theorem dX5_grow_20 : decode cX5_grow 20 = .ok (.iconst 0, 1) := by decide +kernel
theorem dX5_grow_21 : decode cX5_grow 21 = .ok (.ireturn, 1) := by decide +kernel
theorem dX5_grow_22 : decode cX5_grow 22 = .ok (.iload_n 1, 1) := by decide +kernel
theorem dX5_grow_23 : decode cX5_grow 23 = .ok (.bipush 96, 2) := by decide +kernel
theorem dX5_grow_25 : decode cX5_grow 25 = .ok (.aload_n 0, 1) := by decide +kernel
theorem dX5_grow_26 : decode cX5_grow 26 = .ok (.getfield 32, 3) := by decide +kernel
theorem dX5_grow_29 : decode cX5_grow 29 = .ok (.isub, 1) := by decide +kernel
theorem dX5_grow_30 : decode cX5_grow 30 = .ok (.if_icmp .le 5, 3) := by decide +kernel
theorem dX5_grow_33 : decode cX5_grow 33 = .ok (.iconst (-1), 1) := by decide +kernel
theorem dX5_grow_34 : decode cX5_grow 34 = .ok (.ireturn, 1) := by decide +kernel
theorem dX5_grow_35 : decode cX5_grow 35 = .ok (.aload_n 0, 1) := by decide +kernel
theorem dX5_grow_36 : decode cX5_grow 36 = .ok (.dup, 1) := by decide +kernel
theorem dX5_grow_37 : decode cX5_grow 37 = .ok (.getfield 32, 3) := by decide +kernel
theorem dX5_grow_40 : decode cX5_grow 40 = .ok (.iload_n 1, 1) := by decide +kernel
theorem dX5_grow_41 : decode cX5_grow 41 = .ok (.iadd, 1) := by decide +kernel
theorem dX5_grow_42 : decode cX5_grow 42 = .ok (.putfield 32, 3) := by decide +kernel
theorem dX5_grow_45 : decode cX5_grow 45 = .ok (.aload_n 0, 1) := by decide +kernel
theorem dX5_grow_46 : decode cX5_grow 46 = .ok (.invokevirtual 150, 3) := by decide +kernel
theorem dX5_grow_49 : decode cX5_grow 49 = .ok (.aload_n 0, 1) := by decide +kernel
theorem dX5_grow_50 : decode cX5_grow 50 = .ok (.getfield 32, 3) := by decide +kernel
theorem dX5_grow_53 : decode cX5_grow 53 = .ok (.ireturn, 1) := by decide +kernel
theorem dX5_shrink_0 : decode cX5_shrink 0 = .ok (.aload_n 0, 1) := by decide +kernel
theorem dX5_shrink_1 : decode cX5_shrink 1 = .ok (.iload_n 1, 1) := by decide +kernel
theorem dX5_shrink_2 : decode cX5_shrink 2 = .ok (.ifCond .ge 7, 3) := by decide +kernel
theorem dX5_shrink_5 : decode cX5_shrink 5 = .ok (.iconst 1, 1) := by decide +kernel
theorem dX5_shrink_6 : decode cX5_shrink 6 = .ok (.goto 4, 3) := by decide +kernel
theorem dX5_shrink_9 : decode cX5_shrink 9 = .ok (.iconst 0, 1) := by decide +kernel
theorem dX5_shrink_10 : decode cX5_shrink 10 = .ok (.putfield 51, 3) := by decide +kernel
theorem dX5_shrink_13 : decode cX5_shrink 13 = .ok (.aload_n 0, 1) := by decide +kernel
theorem dX5_shrink_14 : decode cX5_shrink 14 = .ok (.getfield 51, 3) := by decide +kernel
theorem dX5_shrink_17 : decode cX5_shrink 17 = .ok (.ifCond .le 5, 3) := by decide +kernel
theorem dX5_shrink_20 : decode cX5_shrink 20 = .ok (.iconst 0, 1) := by decide +kernel
theorem dX5_shrink_21 : decode cX5_shrink 21 = .ok (.ireturn, 1) := by decide +kernel
theorem dX5_shrink_22 : decode cX5_shrink 22 = .ok (.iload_n 1, 1) := by decide +kernel
theorem dX5_shrink_23 : decode cX5_shrink 23 = .ok (.aload_n 0, 1) := by decide +kernel
theorem dX5_shrink_24 : decode cX5_shrink 24 = .ok (.getfield 32, 3) := by decide +kernel
theorem dX5_shrink_27 : decode cX5_shrink 27 = .ok (.if_icmp .lt 5, 3) := by decide +kernel
theorem dX5_shrink_30 : decode cX5_shrink 30 = .ok (.iconst (-1), 1) := by decide +kernel
theorem dX5_shrink_31 : decode cX5_shrink 31 = .ok (.ireturn, 1) := by decide +kernel
theorem dX5_shrink_32 : decode cX5_shrink 32 = .ok (.aload_n 0, 1) := by decide +kernel
theorem dX5_shrink_33 : decode cX5_shrink 33 = .ok (.getfield 32, 3) := by decide +kernel
theorem dX5_shrink_36 : decode cX5_shrink 36 = .ok (.iload_n 1, 1) := by decide +kernel
theorem dX5_shrink_37 : decode cX5_shrink 37 = .ok (.isub, 1) := by decide +kernel
theorem dX5_shrink_38 : decode cX5_shrink 38 = .ok (.istore_n 2, 1) := by decide +kernel
theorem dX5_shrink_39 : decode cX5_shrink 39 = .ok (.iload_n 2, 1) := by decide +kernel
theorem dX5_shrink_40 : decode cX5_shrink 40 = .ok (.aload_n 0, 1) := by decide +kernel
theorem dX5_shrink_41 : decode cX5_shrink 41 = .ok (.getfield 32, 3) := by decide +kernel
theorem dX5_shrink_44 : decode cX5_shrink 44 = .ok (.if_icmp .ge 19, 3) := by decide +kernel
theorem dX5_shrink_47 : decode cX5_shrink 47 = .ok (.aload_n 0, 1) := by decide +kernel
theorem dX5_shrink_48 : decode cX5_shrink 48 = .ok (.iload_n 2, 1) := by decide +kernel
theorem dX5_shrink_49 : decode cX5_shrink 49 = .ok (.invokevirtual 66, 3) := by decide +kernel
theorem dX5_shrink_52 : decode cX5_shrink 52 = .ok (.ifCond .ne 5, 3) := by decide +kernel
theorem dX5_shrink_55 : decode cX5_shrink 55 = .ok (.iconst (-1), 1) := by decide +kernel
theorem dX5_shrink_56 : decode cX5_shrink 56 = .ok (.ireturn, 1) := by decide +kernel
theorem dX5_shrink_57 : decode cX5_shrink 57 = .ok (.iinc 2 1, 3) := by decide +kernel
theorem dX5_shrink_60 : decode cX5_shrink 60 = .ok (.goto (-21), 3) := by decide +kernel
theorem dX5_shrink_63 : decode cX5_shrink 63 = .ok (.aload_n 0, 1) := by decide +kernel
theorem dX5_shrink_64 : decode cX5_shrink 64 = .ok (.dup, 1) := by decide +kernel
theorem dX5_shrink_65 : decode cX5_shrink 65 = .ok (.getfield 32, 3) := by decide +kernel
theorem dX5_shrink_68 : decode cX5_shrink 68 = .ok (.iload_n 1, 1) := by decide +kernel
theorem dX5_shrink_69 : decode cX5_shrink 69 = .ok (.isub, 1) := by decide +kernel
theorem dX5_shrink_70 : decode cX5_shrink 70 = .ok (.putfield 32, 3) := by decide +kernel
theorem dX5_shrink_73 : decode cX5_shrink 73 = .ok (.aload_n 0, 1) := by decide +kernel
theorem dX5_shrink_74 : decode cX5_shrink 74 = .ok (.aload_n 0, 1) := by decide +kernel
theorem dX5_shrink_75 : decode cX5_shrink 75 = .ok (.getfield 80, 3) := by decide +kernel
theorem dX5_shrink_78 : decode cX5_shrink 78 = .ok (.aload_n 0, 1) := by decide +kernel
theorem dX5_shrink_79 : decode cX5_shrink 79 = .ok (.getfield 32, 3) := by decide +kernel
theorem dX5_shrink_82 : decode cX5_shrink 82 = .ok (.if_icmp .lt 7, 3) := by decide +kernel
theorem dX5_shrink_85 : decode cX5_shrink 85 = .ok (.iconst 0, 1) := by decide +kernel
theorem dX5_shrink_86 : decode cX5_shrink 86 = .ok (.goto 7, 3) := by decide +kernel
theorem dX5_shrink_89 : decode cX5_shrink 89 = .ok (.aload_n 0, 1) := by decide +kernel
theorem dX5_shrink_90 : decode cX5_shrink 90 = .ok (.getfield 80, 3) := by decide +kernel
theorem dX5_shrink_93 : decode cX5_shrink 93 = .ok (.putfield 80, 3) := by decide +kernel
theorem dX5_shrink_96 : decode cX5_shrink 96 = .ok (.aload_n 0, 1) := by decide +kernel
theorem dX5_shrink_97 : decode cX5_shrink 97 = .ok (.getfield 32, 3) := by decide +kernel
theorem dX5_shrink_100 : decode cX5_shrink 100 = .ok (.ireturn, 1) := by decide +kernel
theorem dX5_back_0 : decode cX5_back 0 = .ok (.aload_n 0, 1) := by decide +kernel
theorem dX5_back_1 : decode cX5_back 1 = .ok (.iload_n 1, 1) := by decide +kernel
theorem dX5_back_2 : decode cX5_back 2 = .ok (.ifCond .lt 10, 3) := by decide +kernel
theorem dX5_back_5 : decode cX5_back 5 = .ok (.iload_n 1, 1) := by decide +kernel
theorem dX5_back_6 : decode cX5_back 6 = .ok (.sipush 159, 3) := by decide +kernel
theorem dX5_back_9 : decode cX5_back 9 = .ok (.if_icmp .le 7, 3) := by decide +kernel
theorem dX5_back_12 : decode cX5_back 12 = .ok (.iconst 1, 1) := by decide +kernel
theorem dX5_back_13 : decode cX5_back 13 = .ok (.goto 4, 3) := by decide +kernel
theorem dX5_back_16 : decode cX5_back 16 = .ok (.iconst 0, 1) := by decide +kernel
theorem dX5_back_17 : decode cX5_back 17 = .ok (.putfield 51, 3) := by decide +kernel
theorem dX5_back_20 : decode cX5_back 20 = .ok (.iconst 0, 1) := by decide +kernel
theorem dX5_back_21 : decode cX5_back 21 = .ok (.istore_n 3, 1) := by decide +kernel
theorem dX5_back_22 : decode cX5_back 22 = .ok (.iload_n 3, 1) := by decide +kernel
theorem dX5_back_23 : decode cX5_back 23 = .ok (.bipush 48, 2) := by decide +kernel
theorem dX5_back_25 : decode cX5_back 25 = .ok (.if_icmp .ge 43, 3) := by decide +kernel
theorem dX5_back_28 : decode cX5_back 28 = .ok (.aload_n 0, 1) := by decide +kernel
theorem dX5_back_29 : decode cX5_back 29 = .ok (.getfield 51, 3) := by decide +kernel
theorem dX5_back_32 : decode cX5_back 32 = .ok (.ifCond .ne 36, 3) := by decide +kernel
theorem dX5_back_35 : decode cX5_back 35 = .ok (.aload_n 0, 1) := by decide +kernel
theorem dX5_back_36 : decode cX5_back 36 = .ok (.aload_n 0, 1) := by decide +kernel
theorem dX5_back_37 : decode cX5_back 37 = .ok (.getfield 7, 3) := by decide +kernel
theorem dX5_back_40 : decode cX5_back 40 = .ok (.iload_n 3, 1) := by decide +kernel
theorem dX5_back_41 : decode cX5_back 41 = .ok (.baload, 1) := by decide +kernel
theorem dX5_back_42 : decode cX5_back 42 = .ok (.ifCond .eq 16, 3) := by decide +kernel
theorem dX5_back_45 : decode cX5_back 45 = .ok (.aload_n 0, 1) := by decide +kernel
theorem dX5_back_46 : decode cX5_back 46 = .ok (.getfield 17, 3) := by decide +kernel
theorem dX5_back_49 : decode cX5_back 49 = .ok (.iload_n 3, 1) := by decide +kernel
theorem dX5_back_50 : decode cX5_back 50 = .ok (.baload, 1) := by decide +kernel
theorem dX5_back_51 : decode cX5_back 51 = .ok (.ifCond .eq 7, 3) := by decide +kernel
theorem dX5_back_54 : decode cX5_back 54 = .ok (.iconst 2, 1) := by decide +kernel
theorem dX5_back_55 : decode cX5_back 55 = .ok (.goto 4, 3) := by decide +kernel
theorem dX5_back_58 : decode cX5_back 58 = .ok (.iconst 0, 1) := by decide +kernel
theorem dX5_back_59 : decode cX5_back 59 = .ok (.putfield 51, 3) := by decide +kernel
theorem dX5_back_62 : decode cX5_back 62 = .ok (.iinc 3 1, 3) := by decide +kernel
theorem dX5_back_65 : decode cX5_back 65 = .ok (.goto (-43), 3) := by decide +kernel
theorem dX5_back_68 : decode cX5_back 68 = .ok (.aload_n 0, 1) := by decide +kernel
theorem dX5_back_69 : decode cX5_back 69 = .ok (.getfield 51, 3) := by decide +kernel
theorem dX5_back_72 : decode cX5_back 72 = .ok (.ifCond .le 5, 3) := by decide +kernel
theorem dX5_back_75 : decode cX5_back 75 = .ok (.iconst 0, 1) := by decide +kernel
theorem dX5_back_76 : decode cX5_back 76 = .ok (.ireturn, 1) := by decide +kernel
theorem dX5_back_77 : decode cX5_back 77 = .ok (.aload_n 0, 1) := by decide +kernel
theorem dX5_back_78 : decode cX5_back 78 = .ok (.getfield 39, 3) := by decide +kernel
theorem dX5_back_81 : decode cX5_back 81 = .ok (.iload_n 1, 1) := by decide +kernel
theorem dX5_back_82 : decode cX5_back 82 = .ok (.iaload, 1) := by decide +kernel
theorem dX5_back_83 : decode cX5_back 83 = .ok (.istore_n 3, 1) := by decide +kernel
theorem dX5_back_84 : decode cX5_back 84 = .ok (.aload_n 0, 1) := by decide +kernel
theorem dX5_back_85 : decode cX5_back 85 = .ok (.getfield 39, 3) := by decide +kernel
theorem dX5_back_88 : decode cX5_back 88 = .ok (.iload_n 1, 1) := by decide +kernel
theorem dX5_back_89 : decode cX5_back 89 = .ok (.iload_n 2, 1) := by decide +kernel
theorem dX5_back_90 : decode cX5_back 90 = .ok (.iastore, 1) := by decide +kernel
theorem dX5_back_91 : decode cX5_back 91 = .ok (.iload_n 3, 1) := by decide +kernel
theorem dX5_back_92 : decode cX5_back 92 = .ok (.ireturn, 1) := by decide +kernel
theorem dX5_quota_0 : decode cX5_quota 0 = .ok (.aload_n 0, 1) := by decide +kernel
theorem dX5_quota_1 : decode cX5_quota 1 = .ok (.aload_n 0, 1) := by decide +kernel
theorem dX5_quota_2 : decode cX5_quota 2 = .ok (.iload_n 1, 1) := by decide +kernel
theorem dX5_quota_3 : decode cX5_quota 3 = .ok (.invokevirtual 126, 3) := by decide +kernel
theorem dX5_quota_6 : decode cX5_quota 6 = .ok (.ifCond .ne 7, 3) := by decide +kernel
theorem dX5_quota_9 : decode cX5_quota 9 = .ok (.iconst 1, 1) := by decide +kernel
theorem dX5_quota_10 : decode cX5_quota 10 = .ok (.goto 19, 3) := by decide +kernel
theorem dX5_quota_13 : decode cX5_quota 13 = .ok (.iload_n 2, 1) := by decide +kernel
theorem dX5_quota_14 : decode cX5_quota 14 = .ok (.iconst (-1), 1) := by decide +kernel
theorem dX5_quota_15 : decode cX5_quota 15 = .ok (.if_icmp .lt 9, 3) := by decide +kernel
theorem dX5_quota_18 : decode cX5_quota 18 = .ok (.iload_n 2, 1) := by decide +kernel
theorem dX5_quota_19 : decode cX5_quota 19 = .ok (.bipush 40, 2) := by decide +kernel
theorem dX5_quota_21 : decode cX5_quota 21 = .ok (.if_icmp .le 7, 3) := by decide +kernel
theorem dX5_quota_24 : decode cX5_quota 24 = .ok (.iconst 2, 1) := by decide +kernel
theorem dX5_quota_25 : decode cX5_quota 25 = .ok (.goto 4, 3) := by decide +kernel
theorem dX5_quota_28 : decode cX5_quota 28 = .ok (.iconst 0, 1) := by decide +kernel
theorem dX5_quota_29 : decode cX5_quota 29 = .ok (.putfield 51, 3) := by decide +kernel
theorem dX5_quota_32 : decode cX5_quota 32 = .ok (.aload_n 0, 1) := by decide +kernel
theorem dX5_quota_33 : decode cX5_quota 33 = .ok (.getfield 51, 3) := by decide +kernel
theorem dX5_quota_36 : decode cX5_quota 36 = .ok (.ifCond .le 5, 3) := by decide +kernel
theorem dX5_quota_39 : decode cX5_quota 39 = .ok (.iconst 0, 1) := by decide +kernel
theorem dX5_quota_40 : decode cX5_quota 40 = .ok (.ireturn, 1) := by decide +kernel
theorem dX5_quota_41 : decode cX5_quota 41 = .ok (.aload_n 0, 1) := by decide +kernel
theorem dX5_quota_42 : decode cX5_quota 42 = .ok (.getfield 20, 3) := by decide +kernel
theorem dX5_quota_45 : decode cX5_quota 45 = .ok (.iload_n 1, 1) := by decide +kernel
theorem dX5_quota_46 : decode cX5_quota 46 = .ok (.iaload, 1) := by decide +kernel
theorem dX5_quota_47 : decode cX5_quota 47 = .ok (.istore_n 3, 1) := by decide +kernel
theorem dX5_quota_48 : decode cX5_quota 48 = .ok (.aload_n 0, 1) := by decide +kernel
theorem dX5_quota_49 : decode cX5_quota 49 = .ok (.getfield 20, 3) := by decide +kernel
theorem dX5_quota_52 : decode cX5_quota 52 = .ok (.iload_n 1, 1) := by decide +kernel
theorem dX5_quota_53 : decode cX5_quota 53 = .ok (.iload_n 2, 1) := by decide +kernel
theorem dX5_quota_54 : decode cX5_quota 54 = .ok (.iastore, 1) := by decide +kernel
theorem dX5_quota_55 : decode cX5_quota 55 = .ok (.aload_n 0, 1) := by decide +kernel
theorem dX5_quota_56 : decode cX5_quota 56 = .ok (.invokevirtual 150, 3) := by decide +kernel
theorem dX5_quota_59 : decode cX5_quota 59 = .ok (.iload_n 3, 1) := by decide +kernel
theorem dX5_quota_60 : decode cX5_quota 60 = .ok (.ireturn, 1) := by decide +kernel
theorem dX5_mark_0 : decode cX5_mark 0 = .ok (.aload_n 0, 1) := by decide +kernel
theorem dX5_mark_1 : decode cX5_mark 1 = .ok (.iconst 0, 1) := by decide +kernel
theorem dX5_mark_2 : decode cX5_mark 2 = .ok (.putfield 51, 3) := by decide +kernel
theorem dX5_mark_5 : decode cX5_mark 5 = .ok (.aload_n 0, 1) := by decide +kernel
theorem dX5_mark_6 : decode cX5_mark 6 = .ok (.getfield 29, 3) := by decide +kernel
theorem dX5_mark_9 : decode cX5_mark 9 = .ok (.iconst 0, 1) := by decide +kernel
theorem dX5_mark_10 : decode cX5_mark 10 = .ok (.iaload, 1) := by decide +kernel
theorem dX5_mark_11 : decode cX5_mark 11 = .ok (.iload_n 1, 1) := by decide +kernel
theorem dX5_mark_12 : decode cX5_mark 12 = .ok (.if_icmp .eq 5, 3) := by decide +kernel
theorem dX5_mark_15 : decode cX5_mark 15 = .ok (.iconst 0, 1) := by decide +kernel
theorem dX5_mark_16 : decode cX5_mark 16 = .ok (.ireturn, 1) := by decide +kernel
theorem dX5_mark_17 : decode cX5_mark 17 = .ok (.aload_n 0, 1) := by decide +kernel
theorem dX5_mark_18 : decode cX5_mark 18 = .ok (.getfield 29, 3) := by decide +kernel
theorem dX5_mark_21 : decode cX5_mark 21 = .ok (.iconst 0, 1) := by decide +kernel
theorem dX5_mark_22 : decode cX5_mark 22 = .ok (.iload_n 2, 1) := by decide +kernel
theorem dX5_mark_23 : decode cX5_mark 23 = .ok (.iastore, 1) := by decide +kernel
theorem dX5_mark_24 : decode cX5_mark 24 = .ok (.iconst 1, 1) := by decide +kernel
theorem dX5_mark_25 : decode cX5_mark 25 = .ok (.ireturn, 1) := by decide +kernel
theorem dX5_marked_0 : decode cX5_marked 0 = .ok (.aload_n 0, 1) := by decide +kernel
theorem dX5_marked_1 : decode cX5_marked 1 = .ok (.iload_n 1, 1) := by decide +kernel
theorem dX5_marked_2 : decode cX5_marked 2 = .ok (.ifCond .lt 8, 3) := by decide +kernel
theorem dX5_marked_5 : decode cX5_marked 5 = .ok (.iload_n 1, 1) := by decide +kernel
theorem dX5_marked_6 : decode cX5_marked 6 = .ok (.iconst 2, 1) := by decide +kernel
theorem dX5_marked_7 : decode cX5_marked 7 = .ok (.if_icmp .le 7, 3) := by decide +kernel
theorem dX5_marked_10 : decode cX5_marked 10 = .ok (.iconst 1, 1) := by decide +kernel
theorem dX5_marked_11 : decode cX5_marked 11 = .ok (.goto 4, 3) := by decide +kernel
theorem dX5_marked_14 : decode cX5_marked 14 = .ok (.iconst 0, 1) := by decide +kernel
theorem dX5_marked_15 : decode cX5_marked 15 = .ok (.putfield 51, 3) := by decide +kernel
theorem dX5_marked_18 : decode cX5_marked 18 = .ok (.aload_n 0, 1) := by decide +kernel
theorem dX5_marked_19 : decode cX5_marked 19 = .ok (.getfield 51, 3) := by decide +kernel
theorem dX5_marked_22 : decode cX5_marked 22 = .ok (.ifCond .ne 12, 3) := by decide +kernel
theorem dX5_marked_25 : decode cX5_marked 25 = .ok (.aload_n 0, 1) := by decide +kernel
theorem dX5_marked_26 : decode cX5_marked 26 = .ok (.getfield 29, 3) := by decide +kernel
theorem dX5_marked_29 : decode cX5_marked 29 = .ok (.iload_n 1, 1) := by decide +kernel
theorem dX5_marked_30 : decode cX5_marked 30 = .ok (.iaload, 1) := by decide +kernel
theorem dX5_marked_31 : decode cX5_marked 31 = .ok (.goto 4, 3) := by decide +kernel
theorem dX5_marked_34 : decode cX5_marked 34 = .ok (.iconst 0, 1) := by decide +kernel
theorem dX5_marked_35 : decode cX5_marked 35 = .ok (.ireturn, 1) := by decide +kernel
theorem dX5_commit_0 : decode cX5_commit 0 = .ok (.aload_n 0, 1) := by decide +kernel
theorem dX5_commit_1 : decode cX5_commit 1 = .ok (.iconst 0, 1) := by decide +kernel
theorem dX5_commit_2 : decode cX5_commit 2 = .ok (.putfield 51, 3) := by decide +kernel
theorem dX5_commit_5 : decode cX5_commit 5 = .ok (.aload_n 0, 1) := by decide +kernel
theorem dX5_commit_6 : decode cX5_commit 6 = .ok (.iconst 0, 1) := by decide +kernel
theorem dX5_commit_7 : decode cX5_commit 7 = .ok (.iconst 1, 1) := by decide +kernel
theorem dX5_commit_8 : decode cX5_commit 8 = .ok (.invokevirtual 160, 3) := by decide +kernel
theorem dX5_commit_11 : decode cX5_commit 11 = .ok (.aload_n 0, 1) := by decide +kernel
theorem dX5_commit_12 : decode cX5_commit 12 = .ok (.dup, 1) := by decide +kernel
theorem dX5_commit_13 : decode cX5_commit 13 = .ok (.getfield 163, 3) := by decide +kernel
theorem dX5_commit_16 : decode cX5_commit 16 = .ok (.iconst 1, 1) := by decide +kernel
theorem dX5_commit_17 : decode cX5_commit 17 = .ok (.iadd, 1) := by decide +kernel
theorem dX5_commit_18 : decode cX5_commit 18 = .ok (.putfield 163, 3) := by decide +kernel
theorem dX5_commit_21 : decode cX5_commit 21 = .ok (.aload_n 0, 1) := by decide +kernel
theorem dX5_commit_22 : decode cX5_commit 22 = .ok (.invokevirtual 150, 3) := by decide +kernel
theorem dX5_commit_25 : decode cX5_commit 25 = .ok (.aload_n 0, 1) := by decide +kernel
theorem dX5_commit_26 : decode cX5_commit 26 = .ok (.getfield 163, 3) := by decide +kernel
theorem dX5_commit_29 : decode cX5_commit 29 = .ok (.ireturn, 1) := by decide +kernel
theorem dX5_cut_0 : decode cX5_cut 0 = .ok (.aload_n 0, 1) := by decide +kernel
theorem dX5_cut_1 : decode cX5_cut 1 = .ok (.iload_n 1, 1) := by decide +kernel
theorem dX5_cut_2 : decode cX5_cut 2 = .ok (.ifCond .lt 8, 3) := by decide +kernel
theorem dX5_cut_5 : decode cX5_cut 5 = .ok (.iload_n 1, 1) := by decide +kernel
theorem dX5_cut_6 : decode cX5_cut 6 = .ok (.iconst 2, 1) := by decide +kernel
theorem dX5_cut_7 : decode cX5_cut 7 = .ok (.if_icmp .le 7, 3) := by decide +kernel
theorem dX5_cut_10 : decode cX5_cut 10 = .ok (.iconst 1, 1) := by decide +kernel
theorem dX5_cut_11 : decode cX5_cut 11 = .ok (.goto 4, 3) := by decide +kernel
theorem dX5_cut_14 : decode cX5_cut 14 = .ok (.iconst 0, 1) := by decide +kernel
theorem dX5_cut_15 : decode cX5_cut 15 = .ok (.putfield 51, 3) := by decide +kernel
theorem dX5_cut_18 : decode cX5_cut 18 = .ok (.aload_n 0, 1) := by decide +kernel
theorem dX5_cut_19 : decode cX5_cut 19 = .ok (.getfield 51, 3) := by decide +kernel
theorem dX5_cut_22 : decode cX5_cut 22 = .ok (.ifCond .le 5, 3) := by decide +kernel
theorem dX5_cut_25 : decode cX5_cut 25 = .ok (.iconst 0, 1) := by decide +kernel
theorem dX5_cut_26 : decode cX5_cut 26 = .ok (.ireturn, 1) := by decide +kernel
theorem dX5_cut_27 : decode cX5_cut 27 = .ok (.iload_n 1, 1) := by decide +kernel
theorem dX5_cut_28 : decode cX5_cut 28 = .ok (.iconst 2, 1) := by decide +kernel
theorem dX5_cut_29 : decode cX5_cut 29 = .ok (.if_icmp .ne 19, 3) := by decide +kernel
theorem dX5_cut_32 : decode cX5_cut 32 = .ok (.aload_n 0, 1) := by decide +kernel
theorem dX5_cut_33 : decode cX5_cut 33 = .ok (.iconst 0, 1) := by decide +kernel
theorem dX5_cut_34 : decode cX5_cut 34 = .ok (.iconst 1, 1) := by decide +kernel
theorem dX5_cut_35 : decode cX5_cut 35 = .ok (.invokevirtual 160, 3) := by decide +kernel
theorem dX5_cut_38 : decode cX5_cut 38 = .ok (.aload_n 0, 1) := by decide +kernel
theorem dX5_cut_39 : decode cX5_cut 39 = .ok (.dup, 1) := by decide +kernel
theorem dX5_cut_40 : decode cX5_cut 40 = .ok (.getfield 163, 3) := by decide +kernel
theorem dX5_cut_43 : decode cX5_cut 43 = .ok (.iconst 1, 1) := by decide +kernel
theorem dX5_cut_44 : decode cX5_cut 44 = .ok (.iadd, 1) := by decide +kernel
theorem dX5_cut_45 : decode cX5_cut 45 = .ok (.putfield 163, 3) := by decide +kernel
theorem dX5_cut_48 : decode cX5_cut 48 = .ok (.aload_n 0, 1) := by decide +kernel
theorem dX5_cut_49 : decode cX5_cut 49 = .ok (.iconst 1, 1) := by decide +kernel
theorem dX5_cut_50 : decode cX5_cut 50 = .ok (.iconst 0, 1) := by decide +kernel
theorem dX5_cut_51 : decode cX5_cut 51 = .ok (.invokevirtual 160, 3) := by decide +kernel
theorem dX5_cut_54 : decode cX5_cut 54 = .ok (.aload_n 0, 1) := by decide +kernel
theorem dX5_cut_55 : decode cX5_cut 55 = .ok (.dup, 1) := by decide +kernel
theorem dX5_cut_56 : decode cX5_cut 56 = .ok (.getfield 116, 3) := by decide +kernel
theorem dX5_cut_59 : decode cX5_cut 59 = .ok (.aload_n 0, 1) := by decide +kernel
theorem dX5_cut_60 : decode cX5_cut 60 = .ok (.getfield 107, 3) := by decide +kernel
theorem dX5_cut_63 : decode cX5_cut 63 = .ok (.iadd, 1) := by decide +kernel
theorem dX5_cut_64 : decode cX5_cut 64 = .ok (.putfield 116, 3) := by decide +kernel
theorem dX5_cut_67 : decode cX5_cut 67 = .ok (.aload_n 0, 1) := by decide +kernel
theorem dX5_cut_68 : decode cX5_cut 68 = .ok (.iconst 0, 1) := by decide +kernel
theorem dX5_cut_69 : decode cX5_cut 69 = .ok (.putfield 107, 3) := by decide +kernel
theorem dX5_cut_72 : decode cX5_cut 72 = .ok (.aload_n 0, 1) := by decide +kernel
theorem dX5_cut_73 : decode cX5_cut 73 = .ok (.iconst 0, 1) := by decide +kernel
theorem dX5_cut_74 : decode cX5_cut 74 = .ok (.putfield 110, 3) := by decide +kernel
theorem dX5_cut_77 : decode cX5_cut 77 = .ok (.aload_n 0, 1) := by decide +kernel
theorem dX5_cut_78 : decode cX5_cut 78 = .ok (.iconst 0, 1) := by decide +kernel
theorem dX5_cut_79 : decode cX5_cut 79 = .ok (.putfield 80, 3) := by decide +kernel
theorem dX5_cut_82 : decode cX5_cut 82 = .ok (.aload_n 0, 1) := by decide +kernel
theorem dX5_cut_83 : decode cX5_cut 83 = .ok (.iconst 0, 1) := by decide +kernel
theorem dX5_cut_84 : decode cX5_cut 84 = .ok (.invokevirtual 147, 3) := by decide +kernel
theorem dX5_cut_87 : decode cX5_cut 87 = .ok (.ireturn, 1) := by decide +kernel
theorem dX5_hold_0 : decode cX5_hold 0 = .ok (.aload_n 0, 1) := by decide +kernel
theorem dX5_hold_1 : decode cX5_hold 1 = .ok (.aload_n 0, 1) := by decide +kernel
theorem dX5_hold_2 : decode cX5_hold 2 = .ok (.getfield 166, 3) := by decide +kernel
theorem dX5_hold_5 : decode cX5_hold 5 = .ok (.ifCond .eq 7, 3) := by decide +kernel
theorem dX5_hold_8 : decode cX5_hold 8 = .ok (.iconst 1, 1) := by decide +kernel
theorem dX5_hold_9 : decode cX5_hold 9 = .ok (.goto 4, 3) := by decide +kernel
theorem dX5_hold_12 : decode cX5_hold 12 = .ok (.iconst 0, 1) := by decide +kernel
theorem dX5_hold_13 : decode cX5_hold 13 = .ok (.putfield 51, 3) := by decide +kernel
theorem dX5_hold_16 : decode cX5_hold 16 = .ok (.aload_n 0, 1) := by decide +kernel
theorem dX5_hold_17 : decode cX5_hold 17 = .ok (.getfield 51, 3) := by decide +kernel
theorem dX5_hold_20 : decode cX5_hold 20 = .ok (.ifCond .le 5, 3) := by decide +kernel
theorem dX5_hold_23 : decode cX5_hold 23 = .ok (.iconst 0, 1) := by decide +kernel
theorem dX5_hold_24 : decode cX5_hold 24 = .ok (.ireturn, 1) := by decide +kernel
theorem dX5_hold_25 : decode cX5_hold 25 = .ok (.aload_n 0, 1) := by decide +kernel
theorem dX5_hold_26 : decode cX5_hold 26 = .ok (.iconst 1, 1) := by decide +kernel
theorem dX5_hold_27 : decode cX5_hold 27 = .ok (.putfield 166, 3) := by decide +kernel
theorem dX5_hold_30 : decode cX5_hold 30 = .ok (.aload_n 0, 1) := by decide +kernel
theorem dX5_hold_31 : decode cX5_hold 31 = .ok (.iconst 1, 1) := by decide +kernel
theorem dX5_hold_32 : decode cX5_hold 32 = .ok (.iconst 2, 1) := by decide +kernel
theorem dX5_hold_33 : decode cX5_hold 33 = .ok (.invokevirtual 160, 3) := by decide +kernel
theorem dX5_hold_36 : decode cX5_hold 36 = .ok (.aload_n 0, 1) := by decide +kernel
theorem dX5_hold_37 : decode cX5_hold 37 = .ok (.iconst 2, 1) := by decide +kernel
theorem dX5_hold_38 : decode cX5_hold 38 = .ok (.invokevirtual 147, 3) := by decide +kernel
theorem dX5_hold_41 : decode cX5_hold 41 = .ok (.ireturn, 1) := by decide +kernel
theorem dX5_release_0 : decode cX5_release 0 = .ok (.aload_n 0, 1) := by decide +kernel
theorem dX5_release_1 : decode cX5_release 1 = .ok (.iconst 0, 1) := by decide +kernel
theorem dX5_release_2 : decode cX5_release 2 = .ok (.putfield 51, 3) := by decide +kernel
theorem dX5_release_5 : decode cX5_release 5 = .ok (.aload_n 0, 1) := by decide +kernel
theorem dX5_release_6 : decode cX5_release 6 = .ok (.getfield 166, 3) := by decide +kernel
theorem dX5_release_9 : decode cX5_release 9 = .ok (.istore_n 1, 1) := by decide +kernel
theorem dX5_release_10 : decode cX5_release 10 = .ok (.aload_n 0, 1) := by decide +kernel
theorem dX5_release_11 : decode cX5_release 11 = .ok (.iconst 0, 1) := by decide +kernel
theorem dX5_release_12 : decode cX5_release 12 = .ok (.putfield 166, 3) := by decide +kernel
theorem dX5_release_15 : decode cX5_release 15 = .ok (.aload_n 0, 1) := by decide +kernel
theorem dX5_release_16 : decode cX5_release 16 = .ok (.iconst 2, 1) := by decide +kernel
theorem dX5_release_17 : decode cX5_release 17 = .ok (.invokevirtual 170, 3) := by decide +kernel
theorem dX5_release_20 : decode cX5_release 20 = .ok (.aload_n 0, 1) := by decide +kernel
theorem dX5_release_21 : decode cX5_release 21 = .ok (.invokevirtual 150, 3) := by decide +kernel
theorem dX5_release_24 : decode cX5_release 24 = .ok (.iload_n 1, 1) := by decide +kernel
theorem dX5_release_25 : decode cX5_release 25 = .ok (.ireturn, 1) := by decide +kernel
theorem dX5_patience_0 : decode cX5_patience 0 = .ok (.aload_n 0, 1) := by decide +kernel
theorem dX5_patience_1 : decode cX5_patience 1 = .ok (.iload_n 1, 1) := by decide +kernel
theorem dX5_patience_2 : decode cX5_patience 2 = .ok (.ifCond .lt 10, 3) := by decide +kernel
theorem dX5_patience_5 : decode cX5_patience 5 = .ok (.iload_n 1, 1) := by decide +kernel
theorem dX5_patience_6 : decode cX5_patience 6 = .ok (.sipush 1000, 3) := by decide +kernel
theorem dX5_patience_9 : decode cX5_patience 9 = .ok (.if_icmp .le 7, 3) := by decide +kernel
theorem dX5_patience_12 : decode cX5_patience 12 = .ok (.iconst 1, 1) := by decide +kernel
theorem dX5_patience_13 : decode cX5_patience 13 = .ok (.goto 4, 3) := by decide +kernel
theorem dX5_patience_16 : decode cX5_patience 16 = .ok (.iconst 0, 1) := by decide +kernel
theorem dX5_patience_17 : decode cX5_patience 17 = .ok (.putfield 51, 3) := by decide +kernel
theorem dX5_patience_20 : decode cX5_patience 20 = .ok (.aload_n 0, 1) := by decide +kernel
theorem dX5_patience_21 : decode cX5_patience 21 = .ok (.getfield 51, 3) := by decide +kernel
theorem dX5_patience_24 : decode cX5_patience 24 = .ok (.ifCond .le 5, 3) := by decide +kernel
theorem dX5_patience_27 : decode cX5_patience 27 = .ok (.iconst 0, 1) := by decide +kernel
theorem dX5_patience_28 : decode cX5_patience 28 = .ok (.ireturn, 1) := by decide +kernel
theorem dX5_patience_29 : decode cX5_patience 29 = .ok (.aload_n 0, 1) := by decide +kernel
theorem dX5_patience_30 : decode cX5_patience 30 = .ok (.getfield 135, 3) := by decide +kernel
theorem dX5_patience_33 : decode cX5_patience 33 = .ok (.istore_n 2, 1) := by decide +kernel
theorem dX5_patience_34 : decode cX5_patience 34 = .ok (.aload_n 0, 1) := by decide +kernel
theorem dX5_patience_35 : decode cX5_patience 35 = .ok (.iload_n 1, 1) := by decide +kernel
theorem dX5_patience_36 : decode cX5_patience 36 = .ok (.putfield 135, 3) := by decide +kernel
theorem dX5_patience_39 : decode cX5_patience 39 = .ok (.iload_n 2, 1) := by decide +kernel
theorem dX5_patience_40 : decode cX5_patience 40 = .ok (.ireturn, 1) := by decide +kernel
theorem dX5_alarm_0 : decode cX5_alarm 0 = .ok (.aload_n 0, 1) := by decide +kernel
theorem dX5_alarm_1 : decode cX5_alarm 1 = .ok (.iload_n 1, 1) := by decide +kernel
theorem dX5_alarm_2 : decode cX5_alarm 2 = .ok (.ifCond .lt 9, 3) := by decide +kernel
theorem dX5_alarm_5 : decode cX5_alarm 5 = .ok (.iload_n 1, 1) := by decide +kernel
theorem dX5_alarm_6 : decode cX5_alarm 6 = .ok (.bipush 96, 2) := by decide +kernel
theorem dX5_alarm_8 : decode cX5_alarm 8 = .ok (.if_icmp .le 7, 3) := by decide +kernel
theorem dX5_alarm_11 : decode cX5_alarm 11 = .ok (.iconst 1, 1) := by decide +kernel
theorem dX5_alarm_12 : decode cX5_alarm 12 = .ok (.goto 4, 3) := by decide +kernel
theorem dX5_alarm_15 : decode cX5_alarm 15 = .ok (.iconst 0, 1) := by decide +kernel
theorem dX5_alarm_16 : decode cX5_alarm 16 = .ok (.putfield 51, 3) := by decide +kernel
theorem dX5_alarm_19 : decode cX5_alarm 19 = .ok (.aload_n 0, 1) := by decide +kernel
theorem dX5_alarm_20 : decode cX5_alarm 20 = .ok (.getfield 51, 3) := by decide +kernel
theorem dX5_alarm_23 : decode cX5_alarm 23 = .ok (.ifCond .le 5, 3) := by decide +kernel
theorem dX5_alarm_26 : decode cX5_alarm 26 = .ok (.iconst 0, 1) := by decide +kernel
theorem dX5_alarm_27 : decode cX5_alarm 27 = .ok (.ireturn, 1) := by decide +kernel
theorem dX5_alarm_28 : decode cX5_alarm 28 = .ok (.aload_n 0, 1) := by decide +kernel
theorem dX5_alarm_29 : decode cX5_alarm 29 = .ok (.getfield 96, 3) := by decide +kernel
theorem dX5_alarm_32 : decode cX5_alarm 32 = .ok (.istore_n 2, 1) := by decide +kernel
theorem dX5_alarm_33 : decode cX5_alarm 33 = .ok (.aload_n 0, 1) := by decide +kernel
theorem dX5_alarm_34 : decode cX5_alarm 34 = .ok (.iload_n 1, 1) := by decide +kernel
theorem dX5_alarm_35 : decode cX5_alarm 35 = .ok (.putfield 96, 3) := by decide +kernel
theorem dX5_alarm_38 : decode cX5_alarm 38 = .ok (.iload_n 2, 1) := by decide +kernel
theorem dX5_alarm_39 : decode cX5_alarm 39 = .ok (.ireturn, 1) := by decide +kernel
theorem dX5_tick_0 : decode cX5_tick 0 = .ok (.aload_n 0, 1) := by decide +kernel
theorem dX5_tick_1 : decode cX5_tick 1 = .ok (.iload_n 1, 1) := by decide +kernel
theorem dX5_tick_2 : decode cX5_tick 2 = .ok (.ifCond .lt 10, 3) := by decide +kernel
theorem dX5_tick_5 : decode cX5_tick 5 = .ok (.iload_n 1, 1) := by decide +kernel
theorem dX5_tick_6 : decode cX5_tick 6 = .ok (.sipush 10000, 3) := by decide +kernel
theorem dX5_tick_9 : decode cX5_tick 9 = .ok (.if_icmp .le 7, 3) := by decide +kernel
theorem dX5_tick_12 : decode cX5_tick 12 = .ok (.iconst 1, 1) := by decide +kernel
theorem dX5_tick_13 : decode cX5_tick 13 = .ok (.goto 4, 3) := by decide +kernel
theorem dX5_tick_16 : decode cX5_tick 16 = .ok (.iconst 0, 1) := by decide +kernel
theorem dX5_tick_17 : decode cX5_tick 17 = .ok (.putfield 51, 3) := by decide +kernel
theorem dX5_tick_20 : decode cX5_tick 20 = .ok (.aload_n 0, 1) := by decide +kernel
theorem dX5_tick_21 : decode cX5_tick 21 = .ok (.getfield 51, 3) := by decide +kernel
theorem dX5_tick_24 : decode cX5_tick 24 = .ok (.ifCond .le 5, 3) := by decide +kernel
theorem dX5_tick_27 : decode cX5_tick 27 = .ok (.iconst 0, 1) := by decide +kernel
theorem dX5_tick_28 : decode cX5_tick 28 = .ok (.ireturn, 1) := by decide +kernel
theorem dX5_tick_29 : decode cX5_tick 29 = .ok (.aload_n 0, 1) := by decide +kernel
theorem dX5_tick_30 : decode cX5_tick 30 = .ok (.dup, 1) := by decide +kernel
theorem dX5_tick_31 : decode cX5_tick 31 = .ok (.getfield 173, 3) := by decide +kernel
theorem dX5_tick_34 : decode cX5_tick 34 = .ok (.iload_n 1, 1) := by decide +kernel
theorem dX5_tick_35 : decode cX5_tick 35 = .ok (.iadd, 1) := by decide +kernel
theorem dX5_tick_36 : decode cX5_tick 36 = .ok (.putfield 173, 3) := by decide +kernel
theorem dX5_tick_39 : decode cX5_tick 39 = .ok (.aload_n 0, 1) := by decide +kernel
theorem dX5_tick_40 : decode cX5_tick 40 = .ok (.dup, 1) := by decide +kernel
theorem dX5_tick_41 : decode cX5_tick 41 = .ok (.getfield 141, 3) := by decide +kernel
theorem dX5_tick_44 : decode cX5_tick 44 = .ok (.aload_n 0, 1) := by decide +kernel
theorem dX5_tick_45 : decode cX5_tick 45 = .ok (.getfield 110, 3) := by decide +kernel
theorem dX5_tick_48 : decode cX5_tick 48 = .ok (.iconst 1, 1) := by decide +kernel
theorem dX5_tick_49 : decode cX5_tick 49 = .ok (.if_icmp .ne 7, 3) := by decide +kernel
theorem dX5_tick_52 : decode cX5_tick 52 = .ok (.iload_n 1, 1) := by decide +kernel
theorem dX5_tick_53 : decode cX5_tick 53 = .ok (.goto 4, 3) := by decide +kernel
theorem dX5_tick_56 : decode cX5_tick 56 = .ok (.iconst 0, 1) := by decide +kernel
theorem dX5_tick_57 : decode cX5_tick 57 = .ok (.iadd, 1) := by decide +kernel
theorem dX5_tick_58 : decode cX5_tick 58 = .ok (.putfield 141, 3) := by decide +kernel
theorem dX5_tick_61 : decode cX5_tick 61 = .ok (.aload_n 0, 1) := by decide +kernel
theorem dX5_tick_62 : decode cX5_tick 62 = .ok (.getfield 110, 3) := by decide +kernel
theorem dX5_tick_65 : decode cX5_tick 65 = .ok (.iconst 1, 1) := by decide +kernel
theorem dX5_tick_66 : decode cX5_tick 66 = .ok (.if_icmp .ne 14, 3) := by decide +kernel
theorem dX5_tick_69 : decode cX5_tick 69 = .ok (.aload_n 0, 1) := by decide +kernel
theorem dX5_tick_70 : decode cX5_tick 70 = .ok (.getfield 141, 3) := by decide +kernel
theorem dX5_tick_73 : decode cX5_tick 73 = .ok (.aload_n 0, 1) := by decide +kernel
theorem dX5_tick_74 : decode cX5_tick 74 = .ok (.getfield 138, 3) := by decide +kernel
theorem dX5_tick_77 : decode cX5_tick 77 = .ok (.if_icmp .ge 5, 3) := by decide +kernel
theorem dX5_tick_80 : decode cX5_tick 80 = .ok (.iconst 0, 1) := by decide +kernel
theorem dX5_tick_81 : decode cX5_tick 81 = .ok (.ireturn, 1) := by decide +kernel
theorem dX5_tick_82 : decode cX5_tick 82 = .ok (.aload_n 0, 1) := by decide +kernel
theorem dX5_tick_83 : decode cX5_tick 83 = .ok (.getfield 107, 3) := by decide +kernel
theorem dX5_tick_86 : decode cX5_tick 86 = .ok (.istore_n 2, 1) := by decide +kernel
theorem dX5_tick_87 : decode cX5_tick 87 = .ok (.aload_n 0, 1) := by decide +kernel
theorem dX5_tick_88 : decode cX5_tick 88 = .ok (.dup, 1) := by decide +kernel
theorem dX5_tick_89 : decode cX5_tick 89 = .ok (.getfield 116, 3) := by decide +kernel
theorem dX5_tick_92 : decode cX5_tick 92 = .ok (.iload_n 2, 1) := by decide +kernel
theorem dX5_tick_93 : decode cX5_tick 93 = .ok (.iadd, 1) := by decide +kernel
theorem dX5_tick_94 : decode cX5_tick 94 = .ok (.putfield 116, 3) := by decide +kernel
theorem dX5_tick_97 : decode cX5_tick 97 = .ok (.aload_n 0, 1) := by decide +kernel
theorem dX5_tick_98 : decode cX5_tick 98 = .ok (.iconst 0, 1) := by decide +kernel
theorem dX5_tick_99 : decode cX5_tick 99 = .ok (.putfield 107, 3) := by decide +kernel
theorem dX5_tick_102 : decode cX5_tick 102 = .ok (.aload_n 0, 1) := by decide +kernel
theorem dX5_tick_103 : decode cX5_tick 103 = .ok (.iconst 2, 1) := by decide +kernel
theorem dX5_tick_104 : decode cX5_tick 104 = .ok (.putfield 110, 3) := by decide +kernel
theorem dX5_tick_107 : decode cX5_tick 107 = .ok (.iload_n 2, 1) := by decide +kernel
theorem dX5_tick_108 : decode cX5_tick 108 = .ok (.ireturn, 1) := by decide +kernel
theorem dX5_map_0 : decode cX5_map 0 = .ok (.aload_n 0, 1) := by decide +kernel
theorem dX5_map_1 : decode cX5_map 1 = .ok (.iload_n 1, 1) := by decide +kernel
theorem dX5_map_2 : decode cX5_map 2 = .ok (.ifCond .lt 8, 3) := by decide +kernel
theorem dX5_map_5 : decode cX5_map 5 = .ok (.iload_n 1, 1) := by decide +kernel
theorem dX5_map_6 : decode cX5_map 6 = .ok (.iconst 2, 1) := by decide +kernel
theorem dX5_map_7 : decode cX5_map 7 = .ok (.if_icmp .le 7, 3) := by decide +kernel
theorem dX5_map_10 : decode cX5_map 10 = .ok (.iconst 1, 1) := by decide +kernel
theorem dX5_map_11 : decode cX5_map 11 = .ok (.goto 25, 3) := by decide +kernel
theorem dX5_map_14 : decode cX5_map 14 = .ok (.iload_n 2, 1) := by decide +kernel
theorem dX5_map_15 : decode cX5_map 15 = .ok (.invokestatic 54, 3) := by decide +kernel
theorem dX5_map_18 : decode cX5_map 18 = .ok (.ifCond .eq 13, 3) := by decide +kernel
theorem dX5_map_21 : decode cX5_map 21 = .ok (.iload_n 3, 1) := by decide +kernel
theorem dX5_map_22 : decode cX5_map 22 = .ok (.ifCond .lt 9, 3) := by decide +kernel
theorem dX5_map_25 : decode cX5_map 25 = .ok (.iload_n 3, 1) := by decide +kernel
theorem dX5_map_26 : decode cX5_map 26 = .ok (.bipush 40, 2) := by decide +kernel
theorem dX5_map_28 : decode cX5_map 28 = .ok (.if_icmp .lt 7, 3) := by decide +kernel
theorem dX5_map_31 : decode cX5_map 31 = .ok (.iconst 2, 1) := by decide +kernel
theorem dX5_map_32 : decode cX5_map 32 = .ok (.goto 4, 3) := by decide +kernel
theorem dX5_map_35 : decode cX5_map 35 = .ok (.iconst 0, 1) := by decide +kernel
theorem dX5_map_36 : decode cX5_map 36 = .ok (.putfield 51, 3) := by decide +kernel
theorem dX5_map_39 : decode cX5_map 39 = .ok (.aload_n 0, 1) := by decide +kernel
theorem dX5_map_40 : decode cX5_map 40 = .ok (.getfield 51, 3) := by decide +kernel
theorem dX5_map_43 : decode cX5_map 43 = .ok (.ifCond .le 7, 3) := by decide +kernel
theorem dX5_map_46 : decode cX5_map 46 = .ok (.iconst 0, 1) := by decide +kernel
theorem dX5_map_47 : decode cX5_map 47 = .ok (.goto 32, 3) := by decide +kernel
theorem dX5_map_50 : decode cX5_map 50 = .ok (.aload_n 0, 1) := by decide +kernel
theorem dX5_map_51 : decode cX5_map 51 = .ok (.getfield 7, 3) := by decide +kernel
theorem dX5_map_54 : decode cX5_map 54 = .ok (.bipush 16, 2) := by decide +kernel
theorem dX5_map_56 : decode cX5_map 56 = .ok (.iload_n 1, 1) := by decide +kernel
theorem dX5_map_57 : decode cX5_map 57 = .ok (.imul, 1) := by decide +kernel
theorem dX5_map_58 : decode cX5_map 58 = .ok (.iload_n 2, 1) := by decide +kernel
theorem dX5_map_59 : decode cX5_map 59 = .ok (.iadd, 1) := by decide +kernel
theorem dX5_map_60 : decode cX5_map 60 = .ok (.baload, 1) := by decide +kernel
theorem dX5_map_61 : decode cX5_map 61 = .ok (.ifCond .eq 17, 3) := by decide +kernel
theorem dX5_map_64 : decode cX5_map 64 = .ok (.aload_n 0, 1) := by decide +kernel
theorem dX5_map_65 : decode cX5_map 65 = .ok (.getfield 26, 3) := by decide +kernel
theorem dX5_map_68 : decode cX5_map 68 = .ok (.iload_n 1, 1) := by decide +kernel
theorem dX5_map_69 : decode cX5_map 69 = .ok (.iload_n 2, 1) := by decide +kernel
theorem dX5_map_70 : decode cX5_map 70 = .ok (.iload_n 3, 1) := by decide +kernel
theorem dX5_map_71 : decode cX5_map 71 = .ok (.invokestatic 58, 3) := by decide +kernel
theorem dX5_map_74 : decode cX5_map 74 = .ok (.iaload, 1) := by decide +kernel
theorem dX5_map_75 : decode cX5_map 75 = .ok (.goto 4, 3) := by decide +kernel
theorem dX5_map_78 : decode cX5_map 78 = .ok (.iconst (-1), 1) := by decide +kernel
theorem dX5_map_79 : decode cX5_map 79 = .ok (.ireturn, 1) := by decide +kernel
theorem dX5_volume_0 : decode cX5_volume 0 = .ok (.aload_n 0, 1) := by decide +kernel
theorem dX5_volume_1 : decode cX5_volume 1 = .ok (.aload_n 0, 1) := by decide +kernel
theorem dX5_volume_2 : decode cX5_volume 2 = .ok (.iload_n 1, 1) := by decide +kernel
theorem dX5_volume_3 : decode cX5_volume 3 = .ok (.invokevirtual 126, 3) := by decide +kernel
theorem dX5_volume_6 : decode cX5_volume 6 = .ok (.ifCond .eq 13, 3) := by decide +kernel
theorem dX5_volume_9 : decode cX5_volume 9 = .ok (.iload_n 2, 1) := by decide +kernel
theorem dX5_volume_10 : decode cX5_volume 10 = .ok (.ifCond .lt 9, 3) := by decide +kernel
theorem dX5_volume_13 : decode cX5_volume 13 = .ok (.iload_n 2, 1) := by decide +kernel
theorem dX5_volume_14 : decode cX5_volume 14 = .ok (.bipush 7, 2) := by decide +kernel
theorem dX5_volume_16 : decode cX5_volume 16 = .ok (.if_icmp .le 7, 3) := by decide +kernel
theorem dX5_volume_19 : decode cX5_volume 19 = .ok (.iconst 1, 1) := by decide +kernel
theorem dX5_volume_20 : decode cX5_volume 20 = .ok (.goto 4, 3) := by decide +kernel
theorem dX5_volume_23 : decode cX5_volume 23 = .ok (.iconst 0, 1) := by decide +kernel
theorem dX5_volume_24 : decode cX5_volume 24 = .ok (.putfield 51, 3) := by decide +kernel
theorem dX5_volume_27 : decode cX5_volume 27 = .ok (.aload_n 0, 1) := by decide +kernel
theorem dX5_volume_28 : decode cX5_volume 28 = .ok (.getfield 51, 3) := by decide +kernel
theorem dX5_volume_31 : decode cX5_volume 31 = .ok (.ifCond .le 5, 3) := by decide +kernel
theorem dX5_volume_34 : decode cX5_volume 34 = .ok (.iconst 0, 1) := by decide +kernel
theorem dX5_volume_35 : decode cX5_volume 35 = .ok (.ireturn, 1) := by decide +kernel
theorem dX5_volume_36 : decode cX5_volume 36 = .ok (.iconst (-1), 1) := by decide +kernel
theorem dX5_volume_37 : decode cX5_volume 37 = .ok (.istore_n 3, 1) := by decide +kernel
theorem dX5_volume_38 : decode cX5_volume 38 = .ok (.iconst 0, 1) := by decide +kernel
theorem dX5_volume_39 : decode cX5_volume 39 = .ok (.istore 4, 2) := by decide +kernel
theorem dX5_volume_41 : decode cX5_volume 41 = .ok (.iconst 0, 1) := by decide +kernel
theorem dX5_volume_42 : decode cX5_volume 42 = .ok (.istore 5, 2) := by decide +kernel
theorem dX5_volume_44 : decode cX5_volume 44 = .ok (.iconst 0, 1) := by decide +kernel
theorem dX5_volume_45 : decode cX5_volume 45 = .ok (.istore 6, 2) := by decide +kernel
theorem dX5_volume_47 : decode cX5_volume 47 = .ok (.iload 6, 2) := by decide +kernel
theorem dX5_volume_49 : decode cX5_volume 49 = .ok (.bipush 40, 2) := by decide +kernel
theorem dX5_volume_51 : decode cX5_volume 51 = .ok (.if_icmp .ge 61, 3) := by decide +kernel
theorem dX5_volume_54 : decode cX5_volume 54 = .ok (.aload_n 0, 1) := by decide +kernel
theorem dX5_volume_55 : decode cX5_volume 55 = .ok (.getfield 26, 3) := by decide +kernel
theorem dX5_volume_58 : decode cX5_volume 58 = .ok (.iconst 0, 1) := by decide +kernel
theorem dX5_volume_59 : decode cX5_volume 59 = .ok (.iload_n 1, 1) := by decide +kernel
theorem dX5_volume_60 : decode cX5_volume 60 = .ok (.iload 6, 2) := by decide +kernel
theorem dX5_volume_62 : decode cX5_volume 62 = .ok (.invokestatic 58, 3) := by decide +kernel
theorem dX5_volume_65 : decode cX5_volume 65 = .ok (.iaload, 1) := by decide +kernel
theorem dX5_volume_66 : decode cX5_volume 66 = .ok (.istore 7, 2) := by decide +kernel
theorem dX5_volume_68 : decode cX5_volume 68 = .ok (.iload 7, 2) := by decide +kernel
theorem dX5_volume_70 : decode cX5_volume 70 = .ok (.iconst (-1), 1) := by decide +kernel
theorem dX5_volume_71 : decode cX5_volume 71 = .ok (.if_icmp .eq 8, 3) := by decide +kernel
theorem dX5_volume_74 : decode cX5_volume 74 = .ok (.iload 6, 2) := by decide +kernel
theorem dX5_volume_76 : decode cX5_volume 76 = .ok (.goto 4, 3) := by decide +kernel
theorem dX5_volume_79 : decode cX5_volume 79 = .ok (.iload_n 3, 1) := by decide +kernel
theorem dX5_volume_80 : decode cX5_volume 80 = .ok (.istore_n 3, 1) := by decide +kernel
theorem dX5_volume_81 : decode cX5_volume 81 = .ok (.iload 4, 2) := by decide +kernel
theorem dX5_volume_83 : decode cX5_volume 83 = .ok (.iload 7, 2) := by decide +kernel
theorem dX5_volume_85 : decode cX5_volume 85 = .ok (.iconst (-1), 1) := by decide +kernel
theorem dX5_volume_86 : decode cX5_volume 86 = .ok (.if_icmp .eq 16, 3) := by decide +kernel
theorem dX5_volume_89 : decode cX5_volume 89 = .ok (.aload_n 0, 1) := by decide +kernel
theorem dX5_volume_90 : decode cX5_volume 90 = .ok (.iload 7, 2) := by decide +kernel
theorem dX5_volume_92 : decode cX5_volume 92 = .ok (.invokevirtual 73, 3) := by decide +kernel
theorem dX5_volume_95 : decode cX5_volume 95 = .ok (.ifCond .ne 7, 3) := by decide +kernel
theorem dX5_volume_98 : decode cX5_volume 98 = .ok (.iconst 1, 1) := by decide +kernel
theorem dX5_volume_99 : decode cX5_volume 99 = .ok (.goto 4, 3) := by decide +kernel
theorem dX5_volume_102 : decode cX5_volume 102 = .ok (.iconst 0, 1) := by decide +kernel
theorem dX5_volume_103 : decode cX5_volume 103 = .ok (.iadd, 1) := by decide +kernel
theorem dX5_volume_104 : decode cX5_volume 104 = .ok (.istore 4, 2) := by decide +kernel
theorem dX5_volume_106 : decode cX5_volume 106 = .ok (.iinc 6 1, 3) := by decide +kernel
theorem dX5_volume_109 : decode cX5_volume 109 = .ok (.goto (-62), 3) := by decide +kernel
theorem dX5_volume_112 : decode cX5_volume 112 = .ok (.iconst 0, 1) := by decide +kernel
theorem dX5_volume_113 : decode cX5_volume 113 = .ok (.istore 6, 2) := by decide +kernel
theorem dX5_volume_115 : decode cX5_volume 115 = .ok (.iload 6, 2) := by decide +kernel
theorem dX5_volume_117 : decode cX5_volume 117 = .ok (.aload_n 0, 1) := by decide +kernel
theorem dX5_volume_118 : decode cX5_volume 118 = .ok (.getfield 107, 3) := by decide +kernel
theorem dX5_volume_121 : decode cX5_volume 121 = .ok (.if_icmp .ge 30, 3) := by decide +kernel
theorem dX5_volume_124 : decode cX5_volume 124 = .ok (.iload 5, 2) := by decide +kernel
theorem dX5_volume_126 : decode cX5_volume 126 = .ok (.aload_n 0, 1) := by decide +kernel
theorem dX5_volume_127 : decode cX5_volume 127 = .ok (.getfield 42, 3) := by decide +kernel
theorem dX5_volume_130 : decode cX5_volume 130 = .ok (.iload 6, 2) := by decide +kernel
theorem dX5_volume_132 : decode cX5_volume 132 = .ok (.iaload, 1) := by decide +kernel
theorem dX5_volume_133 : decode cX5_volume 133 = .ok (.iload_n 1, 1) := by decide +kernel
theorem dX5_volume_134 : decode cX5_volume 134 = .ok (.if_icmp .ne 7, 3) := by decide +kernel
theorem dX5_volume_137 : decode cX5_volume 137 = .ok (.iconst 1, 1) := by decide +kernel
theorem dX5_volume_138 : decode cX5_volume 138 = .ok (.goto 4, 3) := by decide +kernel
theorem dX5_volume_141 : decode cX5_volume 141 = .ok (.iconst 0, 1) := by decide +kernel
theorem dX5_volume_142 : decode cX5_volume 142 = .ok (.iadd, 1) := by decide +kernel
theorem dX5_volume_143 : decode cX5_volume 143 = .ok (.istore 5, 2) := by decide +kernel
theorem dX5_volume_145 : decode cX5_volume 145 = .ok (.iinc 6 1, 3) := by decide +kernel
theorem dX5_volume_148 : decode cX5_volume 148 = .ok (.goto (-33), 3) := by decide +kernel
theorem dX5_volume_151 : decode cX5_volume 151 = .ok (.iload_n 2, 1) := by decide +kernel
theorem dX5_volume_152 : decode cX5_volume 152 = .ok (.ifCond .ne 12, 3) := by decide +kernel
theorem dX5_volume_155 : decode cX5_volume 155 = .ok (.aload_n 0, 1) := by decide +kernel
theorem dX5_volume_156 : decode cX5_volume 156 = .ok (.getfield 13, 3) := by decide +kernel
theorem dX5_volume_159 : decode cX5_volume 159 = .ok (.iload_n 1, 1) := by decide +kernel
theorem dX5_volume_160 : decode cX5_volume 160 = .ok (.iaload, 1) := by decide +kernel
theorem dX5_volume_161 : decode cX5_volume 161 = .ok (.goto 88, 3) := by decide +kernel
theorem dX5_volume_164 : decode cX5_volume 164 = .ok (.iload_n 2, 1) := by decide +kernel
theorem dX5_volume_165 : decode cX5_volume 165 = .ok (.iconst 1, 1) := by decide +kernel
theorem dX5_volume_166 : decode cX5_volume 166 = .ok (.if_icmp .ne 11, 3) := by decide +kernel
theorem dX5_volume_169 : decode cX5_volume 169 = .ok (.aload_n 0, 1) := by decide +kernel
theorem dX5_volume_170 : decode cX5_volume 170 = .ok (.iload_n 1, 1) := by decide +kernel
theorem dX5_volume_171 : decode cX5_volume 171 = .ok (.invokevirtual 76, 3) := by decide +kernel
theorem dX5_volume_174 : decode cX5_volume 174 = .ok (.goto 75, 3) := by decide +kernel
theorem dX5_volume_177 : decode cX5_volume 177 = .ok (.iload_n 2, 1) := by decide +kernel
theorem dX5_volume_178 : decode cX5_volume 178 = .ok (.iconst 2, 1) := by decide +kernel
theorem dX5_volume_179 : decode cX5_volume 179 = .ok (.if_icmp .ne 7, 3) := by decide +kernel
theorem dX5_volume_182 : decode cX5_volume 182 = .ok (.iload_n 3, 1) := by decide +kernel
theorem dX5_volume_183 : decode cX5_volume 183 = .ok (.goto 66, 3) := by decide +kernel
theorem dX5_volume_186 : decode cX5_volume 186 = .ok (.iload_n 2, 1) := by decide +kernel
theorem dX5_volume_187 : decode cX5_volume 187 = .ok (.iconst 3, 1) := by decide +kernel
theorem dX5_volume_188 : decode cX5_volume 188 = .ok (.if_icmp .ne 8, 3) := by decide +kernel
theorem dX5_volume_191 : decode cX5_volume 191 = .ok (.iload 4, 2) := by decide +kernel
theorem dX5_volume_193 : decode cX5_volume 193 = .ok (.goto 56, 3) := by decide +kernel
theorem dX5_volume_196 : decode cX5_volume 196 = .ok (.iload_n 2, 1) := by decide +kernel
theorem dX5_volume_197 : decode cX5_volume 197 = .ok (.iconst 4, 1) := by decide +kernel
theorem dX5_volume_198 : decode cX5_volume 198 = .ok (.if_icmp .ne 12, 3) := by decide +kernel
theorem dX5_volume_201 : decode cX5_volume 201 = .ok (.aload_n 0, 1) := by decide +kernel
theorem dX5_volume_202 : decode cX5_volume 202 = .ok (.getfield 23, 3) := by decide +kernel
theorem dX5_volume_205 : decode cX5_volume 205 = .ok (.iload_n 1, 1) := by decide +kernel
theorem dX5_volume_206 : decode cX5_volume 206 = .ok (.iaload, 1) := by decide +kernel
theorem dX5_volume_207 : decode cX5_volume 207 = .ok (.goto 42, 3) := by decide +kernel
theorem dX5_volume_210 : decode cX5_volume 210 = .ok (.iload_n 2, 1) := by decide +kernel
theorem dX5_volume_211 : decode cX5_volume 211 = .ok (.iconst 5, 1) := by decide +kernel
theorem dX5_volume_212 : decode cX5_volume 212 = .ok (.if_icmp .ne 8, 3) := by decide +kernel
theorem dX5_volume_215 : decode cX5_volume 215 = .ok (.iload 5, 2) := by decide +kernel
theorem dX5_volume_217 : decode cX5_volume 217 = .ok (.goto 32, 3) := by decide +kernel
theorem dX5_volume_220 : decode cX5_volume 220 = .ok (.iload_n 2, 1) := by decide +kernel
theorem dX5_volume_221 : decode cX5_volume 221 = .ok (.bipush 6, 2) := by decide +kernel
theorem dX5_volume_223 : decode cX5_volume 223 = .ok (.if_icmp .ne 20, 3) := by decide +kernel
theorem dX5_volume_226 : decode cX5_volume 226 = .ok (.aload_n 0, 1) := by decide +kernel
theorem dX5_volume_227 : decode cX5_volume 227 = .ok (.getfield 17, 3) := by decide +kernel
theorem dX5_volume_230 : decode cX5_volume 230 = .ok (.iload_n 1, 1) := by decide +kernel
theorem dX5_volume_231 : decode cX5_volume 231 = .ok (.baload, 1) := by decide +kernel
theorem dX5_volume_232 : decode cX5_volume 232 = .ok (.ifCond .eq 7, 3) := by decide +kernel
theorem dX5_volume_235 : decode cX5_volume 235 = .ok (.iconst 1, 1) := by decide +kernel
theorem dX5_volume_236 : decode cX5_volume 236 = .ok (.goto 13, 3) := by decide +kernel
theorem dX5_volume_239 : decode cX5_volume 239 = .ok (.iconst 0, 1) := by decide +kernel
theorem dX5_volume_240 : decode cX5_volume 240 = .ok (.goto 9, 3) := by decide +kernel
theorem dX5_volume_243 : decode cX5_volume 243 = .ok (.aload_n 0, 1) := by decide +kernel
theorem dX5_volume_244 : decode cX5_volume 244 = .ok (.getfield 20, 3) := by decide +kernel
theorem dX5_volume_247 : decode cX5_volume 247 = .ok (.iload_n 1, 1) := by decide +kernel
theorem dX5_volume_248 : decode cX5_volume 248 = .ok (.iaload, 1) := by decide +kernel
theorem dX5_volume_249 : decode cX5_volume 249 = .ok (.ireturn, 1) := by decide +kernel
theorem dX5_sortAt_0 : decode cX5_sortAt 0 = .ok (.aload_n 0, 1) := by decide +kernel
theorem dX5_sortAt_1 : decode cX5_sortAt 1 = .ok (.getfield 26, 3) := by decide +kernel
theorem dX5_sortAt_4 : decode cX5_sortAt 4 = .ok (.iconst 0, 1) := by decide +kernel
theorem dX5_sortAt_5 : decode cX5_sortAt 5 = .ok (.iload_n 1, 1) := by decide +kernel
theorem dX5_sortAt_6 : decode cX5_sortAt 6 = .ok (.iload_n 3, 1) := by decide +kernel
theorem dX5_sortAt_7 : decode cX5_sortAt 7 = .ok (.invokestatic 58, 3) := by decide +kernel
theorem dX5_sortAt_10 : decode cX5_sortAt 10 = .ok (.iaload, 1) := by decide +kernel
theorem dX5_sortAt_11 : decode cX5_sortAt 11 = .ok (.istore 4, 2) := by decide +kernel
theorem dX5_sortAt_13 : decode cX5_sortAt 13 = .ok (.aload_n 0, 1) := by decide +kernel
theorem dX5_sortAt_14 : decode cX5_sortAt 14 = .ok (.getfield 26, 3) := by decide +kernel
theorem dX5_sortAt_17 : decode cX5_sortAt 17 = .ok (.iconst 0, 1) := by decide +kernel
theorem dX5_sortAt_18 : decode cX5_sortAt 18 = .ok (.iload_n 2, 1) := by decide +kernel
theorem dX5_sortAt_19 : decode cX5_sortAt 19 = .ok (.iload_n 3, 1) := by decide +kernel
theorem dX5_sortAt_20 : decode cX5_sortAt 20 = .ok (.invokestatic 58, 3) := by decide +kernel
theorem dX5_sortAt_23 : decode cX5_sortAt 23 = .ok (.iaload, 1) := by decide +kernel
theorem dX5_sortAt_24 : decode cX5_sortAt 24 = .ok (.istore 5, 2) := by decide +kernel
theorem dX5_sortAt_26 : decode cX5_sortAt 26 = .ok (.iload 4, 2) := by decide +kernel
theorem dX5_sortAt_28 : decode cX5_sortAt 28 = .ok (.iconst (-1), 1) := by decide +kernel
theorem dX5_sortAt_29 : decode cX5_sortAt 29 = .ok (.if_icmp .ne 17, 3) := by decide +kernel
theorem dX5_sortAt_32 : decode cX5_sortAt 32 = .ok (.iload 5, 2) := by decide +kernel
theorem dX5_sortAt_34 : decode cX5_sortAt 34 = .ok (.iconst (-1), 1) := by decide +kernel
theorem dX5_sortAt_35 : decode cX5_sortAt 35 = .ok (.if_icmp .ne 7, 3) := by decide +kernel
theorem dX5_sortAt_38 : decode cX5_sortAt 38 = .ok (.iconst (-1), 1) := by decide +kernel
theorem dX5_sortAt_39 : decode cX5_sortAt 39 = .ok (.goto 29, 3) := by decide +kernel
theorem dX5_sortAt_42 : decode cX5_sortAt 42 = .ok (.iconst 3, 1) := by decide +kernel
theorem dX5_sortAt_43 : decode cX5_sortAt 43 = .ok (.goto 25, 3) := by decide +kernel
theorem dX5_sortAt_46 : decode cX5_sortAt 46 = .ok (.iload 5, 2) := by decide +kernel
theorem dX5_sortAt_48 : decode cX5_sortAt 48 = .ok (.iconst (-1), 1) := by decide +kernel
theorem dX5_sortAt_49 : decode cX5_sortAt 49 = .ok (.if_icmp .ne 7, 3) := by decide +kernel
theorem dX5_sortAt_52 : decode cX5_sortAt 52 = .ok (.iconst 2, 1) := by decide +kernel
theorem dX5_sortAt_53 : decode cX5_sortAt 53 = .ok (.goto 15, 3) := by decide +kernel
theorem dX5_sortAt_56 : decode cX5_sortAt 56 = .ok (.iload 4, 2) := by decide +kernel
theorem dX5_sortAt_58 : decode cX5_sortAt 58 = .ok (.iload 5, 2) := by decide +kernel
theorem dX5_sortAt_60 : decode cX5_sortAt 60 = .ok (.if_icmp .ne 7, 3) := by decide +kernel
theorem dX5_sortAt_63 : decode cX5_sortAt 63 = .ok (.iconst 0, 1) := by decide +kernel
theorem dX5_sortAt_64 : decode cX5_sortAt 64 = .ok (.goto 4, 3) := by decide +kernel
theorem dX5_sortAt_67 : decode cX5_sortAt 67 = .ok (.iconst 1, 1) := by decide +kernel
theorem dX5_sortAt_68 : decode cX5_sortAt 68 = .ok (.ireturn, 1) := by decide +kernel
theorem dX5_differ_0 : decode cX5_differ 0 = .ok (.aload_n 0, 1) := by decide +kernel
theorem dX5_differ_1 : decode cX5_differ 1 = .ok (.aload_n 0, 1) := by decide +kernel
theorem dX5_differ_2 : decode cX5_differ 2 = .ok (.iload_n 1, 1) := by decide +kernel
theorem dX5_differ_3 : decode cX5_differ 3 = .ok (.invokevirtual 126, 3) := by decide +kernel
theorem dX5_differ_6 : decode cX5_differ 6 = .ok (.ifCond .eq 20, 3) := by decide +kernel
theorem dX5_differ_9 : decode cX5_differ 9 = .ok (.aload_n 0, 1) := by decide +kernel
theorem dX5_differ_10 : decode cX5_differ 10 = .ok (.iload_n 2, 1) := by decide +kernel
theorem dX5_differ_11 : decode cX5_differ 11 = .ok (.invokevirtual 126, 3) := by decide +kernel
theorem dX5_differ_14 : decode cX5_differ 14 = .ok (.ifCond .eq 12, 3) := by decide +kernel
theorem dX5_differ_17 : decode cX5_differ 17 = .ok (.iload_n 3, 1) := by decide +kernel
theorem dX5_differ_18 : decode cX5_differ 18 = .ok (.ifCond .lt 8, 3) := by decide +kernel
theorem dX5_differ_21 : decode cX5_differ 21 = .ok (.iload_n 3, 1) := by decide +kernel
theorem dX5_differ_22 : decode cX5_differ 22 = .ok (.iconst 4, 1) := by decide +kernel
theorem dX5_differ_23 : decode cX5_differ 23 = .ok (.if_icmp .le 7, 3) := by decide +kernel
theorem dX5_differ_26 : decode cX5_differ 26 = .ok (.iconst 1, 1) := by decide +kernel
theorem dX5_differ_27 : decode cX5_differ 27 = .ok (.goto 4, 3) := by decide +kernel
theorem dX5_differ_30 : decode cX5_differ 30 = .ok (.iconst 0, 1) := by decide +kernel
theorem dX5_differ_31 : decode cX5_differ 31 = .ok (.putfield 51, 3) := by decide +kernel
theorem dX5_differ_34 : decode cX5_differ 34 = .ok (.iconst 0, 1) := by decide +kernel
theorem dX5_differ_35 : decode cX5_differ 35 = .ok (.istore 4, 2) := by decide +kernel
theorem dX5_differ_37 : decode cX5_differ 37 = .ok (.iconst 0, 1) := by decide +kernel
theorem dX5_differ_38 : decode cX5_differ 38 = .ok (.istore 5, 2) := by decide +kernel
theorem dX5_differ_40 : decode cX5_differ 40 = .ok (.iload 5, 2) := by decide +kernel
theorem dX5_differ_42 : decode cX5_differ 42 = .ok (.bipush 40, 2) := by decide +kernel
theorem dX5_differ_44 : decode cX5_differ 44 = .ok (.if_icmp .ge 93, 3) := by decide +kernel
theorem dX5_differ_47 : decode cX5_differ 47 = .ok (.aload_n 0, 1) := by decide +kernel
theorem dX5_differ_48 : decode cX5_differ 48 = .ok (.getfield 51, 3) := by decide +kernel
theorem dX5_differ_51 : decode cX5_differ 51 = .ok (.ifCond .ne 86, 3) := by decide +kernel
theorem dX5_differ_54 : decode cX5_differ 54 = .ok (.aload_n 0, 1) := by decide +kernel
theorem dX5_differ_55 : decode cX5_differ 55 = .ok (.iload_n 1, 1) := by decide +kernel
theorem dX5_differ_56 : decode cX5_differ 56 = .ok (.iload_n 2, 1) := by decide +kernel
theorem dX5_differ_57 : decode cX5_differ 57 = .ok (.iload 5, 2) := by decide +kernel
theorem dX5_differ_59 : decode cX5_differ 59 = .ok (.invokevirtual 176, 3) := by decide +kernel
theorem dX5_differ_62 : decode cX5_differ 62 = .ok (.istore 6, 2) := by decide +kernel
theorem dX5_differ_64 : decode cX5_differ 64 = .ok (.iload 6, 2) := by decide +kernel
theorem dX5_differ_66 : decode cX5_differ 66 = .ok (.iconst (-1), 1) := by decide +kernel
theorem dX5_differ_67 : decode cX5_differ 67 = .ok (.if_icmp .eq 27, 3) := by decide +kernel
theorem dX5_differ_70 : decode cX5_differ 70 = .ok (.iload 5, 2) := by decide +kernel
theorem dX5_differ_72 : decode cX5_differ 72 = .ok (.ifCond .eq 18, 3) := by decide +kernel
theorem dX5_differ_75 : decode cX5_differ 75 = .ok (.aload_n 0, 1) := by decide +kernel
theorem dX5_differ_76 : decode cX5_differ 76 = .ok (.iload_n 1, 1) := by decide +kernel
theorem dX5_differ_77 : decode cX5_differ 77 = .ok (.iload_n 2, 1) := by decide +kernel
theorem dX5_differ_78 : decode cX5_differ 78 = .ok (.iload 5, 2) := by decide +kernel
theorem dX5_differ_80 : decode cX5_differ 80 = .ok (.iconst 1, 1) := by decide +kernel
theorem dX5_differ_81 : decode cX5_differ 81 = .ok (.isub, 1) := by decide +kernel
theorem dX5_differ_82 : decode cX5_differ 82 = .ok (.invokevirtual 176, 3) := by decide +kernel
theorem dX5_differ_85 : decode cX5_differ 85 = .ok (.iload 6, 2) := by decide +kernel
theorem dX5_differ_87 : decode cX5_differ 87 = .ok (.if_icmp .eq 7, 3) := by decide +kernel
theorem dX5_differ_90 : decode cX5_differ 90 = .ok (.iconst 1, 1) := by decide +kernel
theorem dX5_differ_91 : decode cX5_differ 91 = .ok (.goto 4, 3) := by decide +kernel
theorem dX5_differ_94 : decode cX5_differ 94 = .ok (.iconst 0, 1) := by decide +kernel
theorem dX5_differ_95 : decode cX5_differ 95 = .ok (.istore 7, 2) := by decide +kernel
theorem dX5_differ_97 : decode cX5_differ 97 = .ok (.iload 4, 2) := by decide +kernel
theorem dX5_differ_99 : decode cX5_differ 99 = .ok (.iload_n 3, 1) := by decide +kernel
theorem dX5_differ_100 : decode cX5_differ 100 = .ok (.iconst 4, 1) := by decide +kernel
theorem dX5_differ_101 : decode cX5_differ 101 = .ok (.if_icmp .ne 16, 3) := by decide +kernel
theorem dX5_differ_104 : decode cX5_differ 104 = .ok (.iload 7, 2) := by decide +kernel
theorem dX5_differ_106 : decode cX5_differ 106 = .ok (.ifCond .eq 7, 3) := by decide +kernel
theorem dX5_differ_109 : decode cX5_differ 109 = .ok (.iconst 1, 1) := by decide +kernel
theorem dX5_differ_110 : decode cX5_differ 110 = .ok (.goto 18, 3) := by decide +kernel
theorem dX5_differ_113 : decode cX5_differ 113 = .ok (.iconst 0, 1) := by decide +kernel
theorem dX5_differ_114 : decode cX5_differ 114 = .ok (.goto 14, 3) := by decide +kernel
theorem dX5_differ_117 : decode cX5_differ 117 = .ok (.iload 6, 2) := by decide +kernel
theorem dX5_differ_119 : decode cX5_differ 119 = .ok (.iload_n 3, 1) := by decide +kernel
theorem dX5_differ_120 : decode cX5_differ 120 = .ok (.if_icmp .ne 7, 3) := by decide +kernel
theorem dX5_differ_123 : decode cX5_differ 123 = .ok (.iconst 1, 1) := by decide +kernel
theorem dX5_differ_124 : decode cX5_differ 124 = .ok (.goto 4, 3) := by decide +kernel
theorem dX5_differ_127 : decode cX5_differ 127 = .ok (.iconst 0, 1) := by decide +kernel
theorem dX5_differ_128 : decode cX5_differ 128 = .ok (.iadd, 1) := by decide +kernel
theorem dX5_differ_129 : decode cX5_differ 129 = .ok (.istore 4, 2) := by decide +kernel
theorem dX5_differ_131 : decode cX5_differ 131 = .ok (.iinc 5 1, 3) := by decide +kernel
theorem dX5_differ_134 : decode cX5_differ 134 = .ok (.goto (-94), 3) := by decide +kernel
theorem dX5_differ_137 : decode cX5_differ 137 = .ok (.iload 4, 2) := by decide +kernel
theorem dX5_differ_139 : decode cX5_differ 139 = .ok (.ireturn, 1) := by decide +kernel
theorem dX5_users_0 : decode cX5_users 0 = .ok (.aload_n 0, 1) := by decide +kernel
theorem dX5_users_1 : decode cX5_users 1 = .ok (.iload_n 1, 1) := by decide +kernel
theorem dX5_users_2 : decode cX5_users 2 = .ok (.ifCond .lt 11, 3) := by decide +kernel
theorem dX5_users_5 : decode cX5_users 5 = .ok (.iload_n 1, 1) := by decide +kernel
theorem dX5_users_6 : decode cX5_users 6 = .ok (.aload_n 0, 1) := by decide +kernel
theorem dX5_users_7 : decode cX5_users 7 = .ok (.getfield 32, 3) := by decide +kernel
theorem dX5_users_10 : decode cX5_users 10 = .ok (.if_icmp .lt 7, 3) := by decide +kernel
theorem dX5_users_13 : decode cX5_users 13 = .ok (.iconst 1, 1) := by decide +kernel
theorem dX5_users_14 : decode cX5_users 14 = .ok (.goto 4, 3) := by decide +kernel
theorem dX5_users_17 : decode cX5_users 17 = .ok (.iconst 0, 1) := by decide +kernel
theorem dX5_users_18 : decode cX5_users 18 = .ok (.putfield 51, 3) := by decide +kernel
theorem dX5_users_21 : decode cX5_users 21 = .ok (.aload_n 0, 1) := by decide +kernel
theorem dX5_users_22 : decode cX5_users 22 = .ok (.getfield 51, 3) := by decide +kernel
theorem dX5_users_25 : decode cX5_users 25 = .ok (.ifCond .ne 12, 3) := by decide +kernel
theorem dX5_users_28 : decode cX5_users 28 = .ok (.aload_n 0, 1) := by decide +kernel
theorem dX5_users_29 : decode cX5_users 29 = .ok (.iconst 0, 1) := by decide +kernel
theorem dX5_users_30 : decode cX5_users 30 = .ok (.iload_n 1, 1) := by decide +kernel
theorem dX5_users_31 : decode cX5_users 31 = .ok (.invokevirtual 62, 3) := by decide +kernel
theorem dX5_users_34 : decode cX5_users 34 = .ok (.goto 4, 3) := by decide +kernel
theorem dX5_users_37 : decode cX5_users 37 = .ok (.iconst 0, 1) := by decide +kernel
theorem dX5_users_38 : decode cX5_users 38 = .ok (.ireturn, 1) := by decide +kernel
theorem dX5_user_0 : decode cX5_user 0 = .ok (.aload_n 0, 1) := by decide +kernel
theorem dX5_user_1 : decode cX5_user 1 = .ok (.iload_n 1, 1) := by decide +kernel
theorem dX5_user_2 : decode cX5_user 2 = .ok (.ifCond .lt 11, 3) := by decide +kernel
theorem dX5_user_5 : decode cX5_user 5 = .ok (.iload_n 1, 1) := by decide +kernel
theorem dX5_user_6 : decode cX5_user 6 = .ok (.aload_n 0, 1) := by decide +kernel
theorem dX5_user_7 : decode cX5_user 7 = .ok (.getfield 32, 3) := by decide +kernel
theorem dX5_user_10 : decode cX5_user 10 = .ok (.if_icmp .lt 7, 3) := by decide +kernel
theorem dX5_user_13 : decode cX5_user 13 = .ok (.iconst 1, 1) := by decide +kernel
theorem dX5_user_14 : decode cX5_user 14 = .ok (.goto 4, 3) := by decide +kernel
theorem dX5_user_17 : decode cX5_user 17 = .ok (.iconst 0, 1) := by decide +kernel
theorem dX5_user_18 : decode cX5_user 18 = .ok (.putfield 51, 3) := by decide +kernel
theorem dX5_user_21 : decode cX5_user 21 = .ok (.iconst 0, 1) := by decide +kernel
theorem dX5_user_22 : decode cX5_user 22 = .ok (.istore_n 3, 1) := by decide +kernel
theorem dX5_user_23 : decode cX5_user 23 = .ok (.iconst 0, 1) := by decide +kernel
theorem dX5_user_24 : decode cX5_user 24 = .ok (.istore 4, 2) := by decide +kernel
theorem dX5_user_26 : decode cX5_user 26 = .ok (.iload 4, 2) := by decide +kernel
theorem dX5_user_28 : decode cX5_user 28 = .ok (.bipush 16, 2) := by decide +kernel
theorem dX5_user_30 : decode cX5_user 30 = .ok (.if_icmp .ge 76, 3) := by decide +kernel
theorem dX5_user_33 : decode cX5_user 33 = .ok (.iconst 0, 1) := by decide +kernel
theorem dX5_user_34 : decode cX5_user 34 = .ok (.istore 5, 2) := by decide +kernel
theorem dX5_user_36 : decode cX5_user 36 = .ok (.iload 5, 2) := by decide +kernel
theorem dX5_user_38 : decode cX5_user 38 = .ok (.bipush 40, 2) := by decide +kernel
theorem dX5_user_40 : decode cX5_user 40 = .ok (.if_icmp .ge 60, 3) := by decide +kernel
theorem dX5_user_43 : decode cX5_user 43 = .ok (.aload_n 0, 1) := by decide +kernel
theorem dX5_user_44 : decode cX5_user 44 = .ok (.getfield 51, 3) := by decide +kernel
theorem dX5_user_47 : decode cX5_user 47 = .ok (.ifCond .ne 53, 3) := by decide +kernel
theorem dX5_user_50 : decode cX5_user 50 = .ok (.aload_n 0, 1) := by decide +kernel
theorem dX5_user_51 : decode cX5_user 51 = .ok (.getfield 7, 3) := by decide +kernel
theorem dX5_user_54 : decode cX5_user 54 = .ok (.iload 4, 2) := by decide +kernel
theorem dX5_user_56 : decode cX5_user 56 = .ok (.baload, 1) := by decide +kernel
theorem dX5_user_57 : decode cX5_user 57 = .ok (.ifCond .eq 43, 3) := by decide +kernel
theorem dX5_user_60 : decode cX5_user 60 = .ok (.aload_n 0, 1) := by decide +kernel
theorem dX5_user_61 : decode cX5_user 61 = .ok (.getfield 26, 3) := by decide +kernel
theorem dX5_user_64 : decode cX5_user 64 = .ok (.iconst 0, 1) := by decide +kernel
theorem dX5_user_65 : decode cX5_user 65 = .ok (.iload 4, 2) := by decide +kernel
theorem dX5_user_67 : decode cX5_user 67 = .ok (.iload 5, 2) := by decide +kernel
theorem dX5_user_69 : decode cX5_user 69 = .ok (.invokestatic 58, 3) := by decide +kernel
theorem dX5_user_72 : decode cX5_user 72 = .ok (.iaload, 1) := by decide +kernel
theorem dX5_user_73 : decode cX5_user 73 = .ok (.iload_n 1, 1) := by decide +kernel
theorem dX5_user_74 : decode cX5_user 74 = .ok (.if_icmp .ne 20, 3) := by decide +kernel
theorem dX5_user_77 : decode cX5_user 77 = .ok (.iload_n 3, 1) := by decide +kernel
theorem dX5_user_78 : decode cX5_user 78 = .ok (.iload_n 2, 1) := by decide +kernel
theorem dX5_user_79 : decode cX5_user 79 = .ok (.if_icmp .ne 12, 3) := by decide +kernel
theorem dX5_user_82 : decode cX5_user 82 = .ok (.bipush 64, 2) := by decide +kernel
theorem dX5_user_84 : decode cX5_user 84 = .ok (.iload 4, 2) := by decide +kernel
theorem dX5_user_86 : decode cX5_user 86 = .ok (.imul, 1) := by decide +kernel
theorem dX5_user_87 : decode cX5_user 87 = .ok (.iload 5, 2) := by decide +kernel
theorem dX5_user_89 : decode cX5_user 89 = .ok (.iadd, 1) := by decide +kernel
theorem dX5_user_90 : decode cX5_user 90 = .ok (.ireturn, 1) := by decide +kernel
theorem dX5_user_91 : decode cX5_user 91 = .ok (.iinc 3 1, 3) := by decide +kernel
theorem dX5_user_94 : decode cX5_user 94 = .ok (.iinc 5 1, 3) := by decide +kernel
theorem dX5_user_97 : decode cX5_user 97 = .ok (.goto (-61), 3) := by decide +kernel
theorem dX5_user_100 : decode cX5_user 100 = .ok (.iinc 4 1, 3) := by decide +kernel
theorem dX5_user_103 : decode cX5_user 103 = .ok (.goto (-77), 3) := by decide +kernel
theorem dX5_user_106 : decode cX5_user 106 = .ok (.aload_n 0, 1) := by decide +kernel
theorem dX5_user_107 : decode cX5_user 107 = .ok (.getfield 51, 3) := by decide +kernel
theorem dX5_user_110 : decode cX5_user 110 = .ok (.ifCond .ne 7, 3) := by decide +kernel
theorem dX5_user_113 : decode cX5_user 113 = .ok (.iconst (-1), 1) := by decide +kernel
theorem dX5_user_114 : decode cX5_user 114 = .ok (.goto 4, 3) := by decide +kernel
theorem dX5_user_117 : decode cX5_user 117 = .ok (.iconst 0, 1) := by decide +kernel
theorem dX5_user_118 : decode cX5_user 118 = .ok (.ireturn, 1) := by decide +kernel
theorem dX5_told_0 : decode cX5_told 0 = .ok (.aload_n 0, 1) := by decide +kernel
theorem dX5_told_1 : decode cX5_told 1 = .ok (.iload_n 1, 1) := by decide +kernel
theorem dX5_told_2 : decode cX5_told 2 = .ok (.ifCond .lt 9, 3) := by decide +kernel
theorem dX5_told_5 : decode cX5_told 5 = .ok (.iload_n 1, 1) := by decide +kernel
theorem dX5_told_6 : decode cX5_told 6 = .ok (.bipush 13, 2) := by decide +kernel
theorem dX5_told_8 : decode cX5_told 8 = .ok (.if_icmp .le 7, 3) := by decide +kernel
theorem dX5_told_11 : decode cX5_told 11 = .ok (.iconst 1, 1) := by decide +kernel
theorem dX5_told_12 : decode cX5_told 12 = .ok (.goto 4, 3) := by decide +kernel
theorem dX5_told_15 : decode cX5_told 15 = .ok (.iconst 0, 1) := by decide +kernel
theorem dX5_told_16 : decode cX5_told 16 = .ok (.putfield 51, 3) := by decide +kernel
theorem dX5_told_19 : decode cX5_told 19 = .ok (.iload_n 1, 1) := by decide +kernel
theorem dX5_told_20 : decode cX5_told 20 = .ok (.tableswitch 170 0 13 #[72, 77, 82, 87, 92, 97, 102, 107, 112, 118, 124, 130, 143, 148], 72) := by decide +kernel
theorem dX5_told_92 : decode cX5_told 92 = .ok (.aload_n 0, 1) := by decide +kernel
theorem dX5_told_93 : decode cX5_told 93 = .ok (.getfield 32, 3) := by decide +kernel
theorem dX5_told_96 : decode cX5_told 96 = .ok (.ireturn, 1) := by decide +kernel
theorem dX5_told_97 : decode cX5_told 97 = .ok (.aload_n 0, 1) := by decide +kernel
theorem dX5_told_98 : decode cX5_told 98 = .ok (.invokevirtual 92, 3) := by decide +kernel
theorem dX5_told_101 : decode cX5_told 101 = .ok (.ireturn, 1) := by decide +kernel
theorem dX5_told_102 : decode cX5_told 102 = .ok (.aload_n 0, 1) := by decide +kernel
theorem dX5_told_103 : decode cX5_told 103 = .ok (.getfield 110, 3) := by decide +kernel
theorem dX5_told_106 : decode cX5_told 106 = .ok (.ireturn, 1) := by decide +kernel
theorem dX5_told_107 : decode cX5_told 107 = .ok (.aload_n 0, 1) := by decide +kernel
theorem dX5_told_108 : decode cX5_told 108 = .ok (.getfield 107, 3) := by decide +kernel
theorem dX5_told_111 : decode cX5_told 111 = .ok (.ireturn, 1) := by decide +kernel
theorem dX5_told_112 : decode cX5_told 112 = .ok (.aload_n 0, 1) := by decide +kernel
theorem dX5_told_113 : decode cX5_told 113 = .ok (.getfield 116, 3) := by decide +kernel
theorem dX5_told_116 : decode cX5_told 116 = .ok (.ireturn, 1) := by decide +kernel
theorem dX5_told_117 : decode cX5_told 117 = .ok (.aload_n 0, 1) := by decide +kernel
theorem dX5_told_118 : decode cX5_told 118 = .ok (.getfield 89, 3) := by decide +kernel
theorem dX5_told_121 : decode cX5_told 121 = .ok (.ireturn, 1) := by decide +kernel
theorem dX5_told_122 : decode cX5_told 122 = .ok (.aload_n 0, 1) := by decide +kernel
theorem dX5_told_123 : decode cX5_told 123 = .ok (.getfield 80, 3) := by decide +kernel
theorem dX5_told_126 : decode cX5_told 126 = .ok (.ireturn, 1) := by decide +kernel
theorem dX5_told_127 : decode cX5_told 127 = .ok (.aload_n 0, 1) := by decide +kernel
theorem dX5_told_128 : decode cX5_told 128 = .ok (.getfield 86, 3) := by decide +kernel
theorem dX5_told_131 : decode cX5_told 131 = .ok (.ireturn, 1) := by decide +kernel
theorem dX5_told_132 : decode cX5_told 132 = .ok (.aload_n 0, 1) := by decide +kernel
theorem dX5_told_133 : decode cX5_told 133 = .ok (.iconst 0, 1) := by decide +kernel
theorem dX5_told_134 : decode cX5_told 134 = .ok (.invokevirtual 147, 3) := by decide +kernel
theorem dX5_told_137 : decode cX5_told 137 = .ok (.ireturn, 1) := by decide +kernel
theorem dX5_told_138 : decode cX5_told 138 = .ok (.aload_n 0, 1) := by decide +kernel
theorem dX5_told_139 : decode cX5_told 139 = .ok (.iconst 1, 1) := by decide +kernel
theorem dX5_told_140 : decode cX5_told 140 = .ok (.invokevirtual 147, 3) := by decide +kernel
theorem dX5_told_143 : decode cX5_told 143 = .ok (.ireturn, 1) := by decide +kernel
theorem dX5_told_144 : decode cX5_told 144 = .ok (.aload_n 0, 1) := by decide +kernel
theorem dX5_told_145 : decode cX5_told 145 = .ok (.iconst 2, 1) := by decide +kernel
theorem dX5_told_146 : decode cX5_told 146 = .ok (.invokevirtual 147, 3) := by decide +kernel
theorem dX5_told_149 : decode cX5_told 149 = .ok (.ireturn, 1) := by decide +kernel
theorem dX5_told_150 : decode cX5_told 150 = .ok (.aload_n 0, 1) := by decide +kernel
theorem dX5_told_151 : decode cX5_told 151 = .ok (.getfield 166, 3) := by decide +kernel
theorem dX5_told_154 : decode cX5_told 154 = .ok (.ifCond .eq 7, 3) := by decide +kernel
theorem dX5_told_157 : decode cX5_told 157 = .ok (.iconst 1, 1) := by decide +kernel
theorem dX5_told_158 : decode cX5_told 158 = .ok (.goto 4, 3) := by decide +kernel
theorem dX5_told_161 : decode cX5_told 161 = .ok (.iconst 0, 1) := by decide +kernel
theorem dX5_told_162 : decode cX5_told 162 = .ok (.ireturn, 1) := by decide +kernel
theorem dX5_told_163 : decode cX5_told 163 = .ok (.aload_n 0, 1) := by decide +kernel
theorem dX5_told_164 : decode cX5_told 164 = .ok (.getfield 173, 3) := by decide +kernel
theorem dX5_told_167 : decode cX5_told 167 = .ok (.ireturn, 1) := by decide +kernel
theorem dX5_told_168 : decode cX5_told 168 = .ok (.aload_n 0, 1) := by decide +kernel
theorem dX5_told_169 : decode cX5_told 169 = .ok (.getfield 110, 3) := by decide +kernel
theorem dX5_told_172 : decode cX5_told 172 = .ok (.iconst 1, 1) := by decide +kernel
theorem dX5_told_173 : decode cX5_told 173 = .ok (.if_icmp .ne 15, 3) := by decide +kernel
theorem dX5_told_176 : decode cX5_told 176 = .ok (.aload_n 0, 1) := by decide +kernel
theorem dX5_told_177 : decode cX5_told 177 = .ok (.getfield 138, 3) := by decide +kernel
theorem dX5_told_180 : decode cX5_told 180 = .ok (.aload_n 0, 1) := by decide +kernel
theorem dX5_told_181 : decode cX5_told 181 = .ok (.getfield 141, 3) := by decide +kernel
theorem dX5_told_184 : decode cX5_told 184 = .ok (.isub, 1) := by decide +kernel
theorem dX5_told_185 : decode cX5_told 185 = .ok (.goto 4, 3) := by decide +kernel
theorem dX5_told_188 : decode cX5_told 188 = .ok (.iconst 0, 1) := by decide +kernel
theorem dX5_told_189 : decode cX5_told 189 = .ok (.ireturn, 1) := by decide +kernel
theorem dX5_told_190 : decode cX5_told 190 = .ok (.iconst 0, 1) := by decide +kernel
theorem dX5_told_191 : decode cX5_told 191 = .ok (.ireturn, 1) := by decide +kernel
theorem dJ7_fill_53178_0 : decode cJ7_fill_53178 0 = .ok (.iconst 0, 1) := by decide +kernel
theorem dJ7_fill_53178_1 : decode cJ7_fill_53178 1 = .ok (.istore_n 2, 1) := by decide +kernel
theorem dJ7_fill_53178_2 : decode cJ7_fill_53178 2 = .ok (.aload_n 0, 1) := by decide +kernel
theorem dJ7_fill_53178_3 : decode cJ7_fill_53178 3 = .ok (.arraylength, 1) := by decide +kernel
theorem dJ7_fill_53178_4 : decode cJ7_fill_53178 4 = .ok (.istore_n 3, 1) := by decide +kernel
theorem dJ7_fill_53178_5 : decode cJ7_fill_53178 5 = .ok (.iload_n 2, 1) := by decide +kernel
theorem dJ7_fill_53178_6 : decode cJ7_fill_53178 6 = .ok (.iload_n 3, 1) := by decide +kernel
theorem dJ7_fill_53178_7 : decode cJ7_fill_53178 7 = .ok (.if_icmp .ge 13, 3) := by decide +kernel
theorem dJ7_fill_53178_10 : decode cJ7_fill_53178 10 = .ok (.aload_n 0, 1) := by decide +kernel
theorem dJ7_fill_53178_11 : decode cJ7_fill_53178 11 = .ok (.iload_n 2, 1) := by decide +kernel
theorem dJ7_fill_53178_12 : decode cJ7_fill_53178 12 = .ok (.iload_n 1, 1) := by decide +kernel
theorem dJ7_fill_53178_13 : decode cJ7_fill_53178 13 = .ok (.iastore, 1) := by decide +kernel
theorem dJ7_fill_53178_14 : decode cJ7_fill_53178 14 = .ok (.iinc 2 1, 3) := by decide +kernel
theorem dJ7_fill_53178_17 : decode cJ7_fill_53178 17 = .ok (.goto (-12), 3) := by decide +kernel
theorem dJ7_fill_53178_20 : decode cJ7_fill_53178 20 = .ok (.return_, 1) := by decide +kernel
abbrev vwCl : List vw_C := [(RX0, TX0, 9), (RX1, TX1, 4), (RX2, TX2, 4), (RX3, TX3, 7), (RX4, TX4, 13), (RX5, TX5, 27)]
end
section
/-! words of the tables that a callee may be given -/
def tb : List Cond := lw_tbl.filter goodWord
theorem tbm {w : Cond} (i : Nat) (h : lw_tbl[i]? = some w) (g : goodWord w = true) : w ∈ tb := List.mem_filter.mpr ⟨List.mem_of_getElem? h, g⟩
theorem tb_in {w : Cond} (h : w ∈ tb) : w ∈ lw_tbl := (List.mem_filter.mp h).1
theorem tb_good {w : Cond} (h : w ∈ tb) : (w.onTables && w.keeps) = true ∨ ∃ ty, w = .arrayClass ty := good_of_word (List.mem_filter.mp h).2
theorem tb_goodIn {ws : List Cond} (h : ∀ w ∈ ws, w ∈ tb) : GoodIn tb ws := fun w hw => ⟨h w hw, tb_good (h w hw)⟩
/-! the world by places: cell k lies at n0 + k; 0 ThinExtents, 1 .. 35, 36 .. 70, 71 .. 105 the states, 106 the pool, 107 its words, 108 the queue, 109 .. 111 its rows, 112 the backing, 113 the model, 114 .. 125 its rows, 126 the law's out -/
abbrev KH : Type := Nat → Nat → Int32
abbrev ST : Type := KH × KH × Int64
abbrev DD : Type := va_G × (ClassId × ClassId × ClassId × ClassId)
def up (κ : KH) (k i : Nat) (x : Int32) : KH := fun k' i' => if k' = k ∧ i' = i then x else κ k' i'
theorem up_cell {κ : KH} {k i j : Nat} {x : Int32} (h : j ≠ k) : up κ k i x j = κ j := funext fun i' => if_neg (fun q => h q.1)
theorem up_self {κ : KH} {k i : Nat} {x : Int32} : up κ k i x k i = x := if_pos ⟨rfl, rfl⟩
theorem up_ix {κ : KH} {k i j i' : Nat} {x : Int32} (h : i' ≠ i) : up κ k i x j i' = κ j i' := if_neg (fun q => h q.2)
theorem up_upd {κ : KH} {k i : Nat} {x : Int32} : up κ k i x k = upd (κ k) i x := funext fun i' => by
  by_cases h : i' = i
  · subst h; exact up_self.trans (if_pos rfl).symm
  · exact (up_ix h).trans (if_neg h).symm
def mlen (j : Nat) : Nat := if j = 119 then 1920 else if j = 120 then 3 else if j = 121 then 384 else if j = 122 then 160 else if j < 119 then 48 else 8
def encR (D : DD) (n0 j : Nat) (r mr : Nat → Int32) (o : Int64) : va_E :=
  if j = 0 then .inr (4, [.ref (n0 + 1), .ref (n0 + 36), .ref (n0 + 71), .ref (n0 + 106), .ref (n0 + 108), .ref (n0 + 112), .int (r 6), .int (r 7), .int (r 8), .int (r 9), .int (r 10), .int (r 11), .int (r 12)])
  else if j < 106 then
    (if (j - 1) % 35 = 0 then .inr (2, [.int (r 0), .int (r 1), .ref (n0 + (j + 1)), .ref (n0 + (j + 34))])
    else if (j - 1) % 35 = 1 then .inl (D.2.2.2.1, 16, .inr (.inr (.inr (.inr (fun v => some (n0 + (j + 1 + 2 * v)))))))
    else if (j - 1) % 35 = 34 then .inl (D.2.1, 96, .inl r)
    else if (j - 1) % 35 % 2 = 0 then .inr (3, [.int (r 0), .int (r 1), .int (r 2), .int (r 3), .int (r 4), .int (r 5), .ref (n0 + (j + 1))])
    else .inl (D.2.1, 40, .inl r))
  else if j = 106 then .inr (0, [.int (r 0), .int (r 1), .int (r 2), .int (r 3), .int (r 4), .ref (n0 + 1), .ref (n0 + 36), .ref (n0 + 71), .ref (n0 + 107)])
  else if j = 107 then .inl (D.2.1, 384, .inl r)
  else if j = 108 then .inr (1, [.int (r 0), .ref (n0 + 109), .ref (n0 + 110), .ref (n0 + 111)])
  else if j < 112 then .inl (D.2.1, 8, .inl r)
  else if j = 112 then .inl (D.2.1, 160, .inl r)
  else if j = 113 then .inr (5, [.int (mr 0), .ref (n0 + 114), .ref (n0 + 115), .ref (n0 + 116), .ref (n0 + 117), .ref (n0 + 118), .ref (n0 + 119), .ref (n0 + 120), .int (mr 8), .int (mr 9), .ref (n0 + 121), .ref (n0 + 122), .int (mr 12), .int (mr 13), .int (mr 14), .int (mr 15), .int (mr 16), .int (mr 17), .int (mr 18), .int (mr 19), .int (mr 20), .int (mr 21), .int (mr 22), .int (mr 23), .ref (n0 + 123), .ref (n0 + 124), .ref (n0 + 125)])
  else if j = 126 then .inl (D.2.2.2.2, 1, .inr (.inl (vp_updL (fun _ => 0) 0 o)))
  else if j = 114 ∨ j = 116 then .inl (D.2.2.1, 48, .inl mr)
  else .inl (D.2.1, mlen j, .inl mr)
def enc (D : DD) (n0 : Nat) (σ : ST) (j : Nat) : va_E := encR D n0 j (σ.1 j) (σ.2.1 (j - 113)) σ.2.2
def wl (D : DD) (n0 N : Nat) (σ : ST) : va_W := (List.range N).map (fun k => (n0 + k, enc D n0 σ k))
def tyl (D : DD) : List (ClassId × FieldType) := [(D.2.1, .int), (D.2.2.1, .boolean), (D.2.2.2.1, .object "ThinExtents$Volume"), (D.2.2.2.2, .long)]
theorem wl_len {D : DD} {n0 N : Nat} {σ : ST} : (wl D n0 N σ).length = N := by simp [wl]
theorem wl_get {D : DD} {n0 N k : Nat} {σ : ST} (h : k < N) : (wl D n0 N σ)[k]? = some (n0 + k, enc D n0 σ k) := by
  simp [wl, List.getElem?_map, List.getElem?_range h]
theorem wl_at {D : DD} {n0 N k : Nat} {σ : ST} {q : Nat × va_E} (h : (wl D n0 N σ)[k]? = some q) : k < N ∧ q = (n0 + k, enc D n0 σ k) := by
  have hk : k < N := by have := (List.getElem?_eq_some_iff.mp h).1; rwa [wl_len] at this
  exact ⟨hk, Option.some.inj (h.symm.trans (wl_get hk))⟩
theorem wl_D {D : DD} {n0 N : Nat} {σ : ST} : va_D (fun q => n0 ≤ q) (wl D n0 N σ) := by
  refine ⟨fun i j p q hp hq h => ?_, fun k q hq => ?_⟩
  · obtain ⟨-, rfl⟩ := wl_at hp; obtain ⟨-, rfl⟩ := wl_at hq; dsimp only at h; omega
  · obtain ⟨-, rfl⟩ := wl_at hq; exact Nat.le_add_right _ _
theorem wl_set {D : DD} {n0 N k : Nat} {σ σ' : ST} {x : va_E} (he : enc D n0 σ' k = x) (hne : ∀ j, j ≠ k → enc D n0 σ' j = enc D n0 σ j) : (wl D n0 N σ).set k (n0 + k, x) = wl D n0 N σ' := by
  apply List.ext_getElem?
  intro i
  rw [List.getElem?_set, wl_len]
  by_cases h : k = i
  · subst h
    rw [if_pos rfl]
    by_cases hk : k < N
    · rw [if_pos hk, wl_get hk, he]
    · rw [if_neg hk]; exact (List.getElem?_eq_none (by rw [wl_len]; omega)).symm
  · rw [if_neg h]
    by_cases hi : i < N
    · rw [wl_get hi, wl_get hi, hne i (fun q => h q.symm)]
    · rw [List.getElem?_eq_none (by rw [wl_len]; omega), List.getElem?_eq_none (by rw [wl_len]; omega)]
theorem wl_congr {D : DD} {n0 N : Nat} {σ σ' : ST} (h : ∀ j, j < N → enc D n0 σ' j = enc D n0 σ j) : wl D n0 N σ = wl D n0 N σ' := by
  apply List.ext_getElem?
  intro i
  by_cases hi : i < N
  · rw [wl_get hi, wl_get hi, h i hi]
  · rw [List.getElem?_eq_none (by rw [wl_len]; omega), List.getElem?_eq_none (by rw [wl_len]; omega)]
theorem wl_push {D : DD} {n0 N : Nat} {σ : ST} : wl D n0 (N + 1) σ = wl D n0 N σ ++ [(n0 + N, enc D n0 σ N)] := by
  simp [wl, List.range_succ]
theorem enc_up {D : DD} {n0 k i j : Nat} {κ μ : KH} {o : Int64} {x : Int32} (h : j ≠ k) : enc D n0 (up κ k i x, μ, o) j = enc D n0 (κ, μ, o) j := by
  show encR D n0 j (up κ k i x j) _ _ = encR D n0 j (κ j) _ _
  rw [up_cell h]
theorem encR_cls {D : DD} {n0 j : Nat} {r mr mr' : Nat → Int32} {o o' : Int64} (h : j < 113) : encR D n0 j r mr o = encR D n0 j r mr' o' := by
  unfold encR
  by_cases h0 : j = 0
  · rw [if_pos h0, if_pos h0]
  rw [if_neg h0, if_neg h0]
  by_cases h1 : j < 106
  · rw [if_pos h1, if_pos h1]
  rw [if_neg h1, if_neg h1]
  by_cases h2 : j = 106
  · rw [if_pos h2, if_pos h2]
  rw [if_neg h2, if_neg h2]
  by_cases h3 : j = 107
  · rw [if_pos h3, if_pos h3]
  rw [if_neg h3, if_neg h3]
  by_cases h4 : j = 108
  · rw [if_pos h4, if_pos h4]
  rw [if_neg h4, if_neg h4]
  by_cases h5 : j < 112
  · rw [if_pos h5, if_pos h5]
  rw [if_neg h5, if_neg h5, if_pos (by omega), if_pos (by omega)]
theorem enc_um {D : DD} {n0 k i j : Nat} {κ μ : KH} {o : Int64} {x : Int32} (h : j ≠ k + 113) : enc D n0 (κ, up μ k i x, o) j = enc D n0 (κ, μ, o) j := by
  unfold enc
  by_cases hj : j < 113
  · exact encR_cls hj
  · show encR D n0 j (κ j) (up μ k i x (j - 113)) o = _
    rw [up_cell (by omega)]
theorem enc_uo {D : DD} {n0 j : Nat} {κ μ : KH} {o o' : Int64} (h : j ≠ 126) : enc D n0 (κ, μ, o') j = enc D n0 (κ, μ, o) j := by
  unfold enc
  by_cases hj : j < 113
  · exact encR_cls hj
  · show encR D n0 j (κ j) _ o' = encR D n0 j (κ j) _ o
    unfold encR
    rw [if_neg (show ¬ j = 0 by omega), if_neg (show ¬ j = 0 by omega), if_neg (show ¬ j < 106 by omega), if_neg (show ¬ j < 106 by omega), if_neg (show ¬ j = 106 by omega), if_neg (show ¬ j = 106 by omega), if_neg (show ¬ j = 107 by omega), if_neg (show ¬ j = 107 by omega), if_neg (show ¬ j = 108 by omega), if_neg (show ¬ j = 108 by omega), if_neg (show ¬ j < 112 by omega), if_neg (show ¬ j < 112 by omega), if_neg (show ¬ j = 112 by omega), if_neg (show ¬ j = 112 by omega)]
    by_cases h7 : j = 113
    · rw [if_pos h7, if_pos h7]
    rw [if_neg h7, if_neg h7, if_neg h, if_neg h]


def isS (b : Nat) : Prop := b = 1 ∨ b = 36 ∨ b = 71
def isV (k : Nat) : Prop := 1 ≤ k ∧ k < 106 ∧ 2 ≤ (k - 1) % 35 ∧ (k - 1) % 35 < 34 ∧ (k - 1) % 35 % 2 = 0
theorem isV_of {b v : Nat} (hb : isS b) (hv : v < 16) : isV (b + 2 + 2 * v) := by
  have h : (b + 2 + 2 * v - 1) % 35 = 2 * v + 2 := by
    rcases hb with rfl | rfl | rfl
    · rw [show 1 + 2 + 2 * v - 1 = 2 * v + 2 by omega]; omega
    · rw [show 36 + 2 + 2 * v - 1 = 2 * v + 2 + 35 by omega]; omega
    · rw [show 71 + 2 + 2 * v - 1 = 2 * v + 2 + 70 by omega]; omega
  refine ⟨?_, ?_, ?_, ?_, ?_⟩
  · rcases hb with rfl | rfl | rfl <;> omega
  · rcases hb with rfl | rfl | rfl <;> omega
  · omega
  · omega
  · omega
section ENC
variable {D : DD} {n0 : Nat} {κ μ : KH} {o : Int64}
theorem enc_0 : enc D n0 (κ, μ, o) 0 = .inr (4, [.ref (n0 + 1), .ref (n0 + 36), .ref (n0 + 71), .ref (n0 + 106), .ref (n0 + 108), .ref (n0 + 112), .int (κ 0 6), .int (κ 0 7), .int (κ 0 8), .int (κ 0 9), .int (κ 0 10), .int (κ 0 11), .int (κ 0 12)]) := rfl
theorem enc_S {b : Nat} (hb : isS b) : enc D n0 (κ, μ, o) b = .inr (2, [.int (κ b 0), .int (κ b 1), .ref (n0 + (b + 1)), .ref (n0 + (b + 34))]) := by
  rcases hb with rfl | rfl | rfl <;> rfl
theorem enc_SV {b : Nat} (hb : isS b) : enc D n0 (κ, μ, o) (b + 1) = .inl (D.2.2.2.1, 16, .inr (.inr (.inr (.inr (fun v => some (n0 + (b + 2 + 2 * v))))))) := by
  rcases hb with rfl | rfl | rfl <;> rfl
theorem enc_SU {b : Nat} (hb : isS b) : enc D n0 (κ, μ, o) (b + 34) = .inl (D.2.1, 96, .inl (κ (b + 34))) := by
  rcases hb with rfl | rfl | rfl <;> rfl
theorem enc_V {k : Nat} (hk : isV k) : enc D n0 (κ, μ, o) k = .inr (3, [.int (κ k 0), .int (κ k 1), .int (κ k 2), .int (κ k 3), .int (κ k 4), .int (κ k 5), .ref (n0 + (k + 1))]) := by
  obtain ⟨h1, h2, h3, h4, h5⟩ := hk
  unfold enc encR
  rw [if_neg (by omega), if_pos h2, if_neg (by omega), if_neg (by omega), if_neg (by omega), if_pos h5]
theorem enc_E {k : Nat} (hk : isV k) : enc D n0 (κ, μ, o) (k + 1) = .inl (D.2.1, 40, .inl (κ (k + 1))) := by
  obtain ⟨h1, h2, h3, h4, h5⟩ := hk
  obtain ⟨q, rfl⟩ : ∃ q, k = q + 1 := ⟨k - 1, by omega⟩
  rw [Nat.add_sub_cancel] at h3 h4 h5
  have h6 : (q + 1) % 35 = q % 35 + 1 := by omega
  unfold enc encR
  rw [if_neg (by omega), if_pos (by omega), if_neg (by rw [Nat.add_sub_cancel]; omega), if_neg (by rw [Nat.add_sub_cancel]; omega), if_neg (by rw [Nat.add_sub_cancel]; omega), if_neg (by rw [Nat.add_sub_cancel]; omega)]
theorem enc_P : enc D n0 (κ, μ, o) 106 = .inr (0, [.int (κ 106 0), .int (κ 106 1), .int (κ 106 2), .int (κ 106 3), .int (κ 106 4), .ref (n0 + 1), .ref (n0 + 36), .ref (n0 + 71), .ref (n0 + 107)]) := rfl
theorem enc_Q : enc D n0 (κ, μ, o) 108 = .inr (1, [.int (κ 108 0), .ref (n0 + 109), .ref (n0 + 110), .ref (n0 + 111)]) := rfl
theorem enc_M : enc D n0 (κ, μ, o) 113 = .inr (5, [.int (μ 0 0), .ref (n0 + 114), .ref (n0 + 115), .ref (n0 + 116), .ref (n0 + 117), .ref (n0 + 118), .ref (n0 + 119), .ref (n0 + 120), .int (μ 0 8), .int (μ 0 9), .ref (n0 + 121), .ref (n0 + 122), .int (μ 0 12), .int (μ 0 13), .int (μ 0 14), .int (μ 0 15), .int (μ 0 16), .int (μ 0 17), .int (μ 0 18), .int (μ 0 19), .int (μ 0 20), .int (μ 0 21), .int (μ 0 22), .int (μ 0 23), .ref (n0 + 123), .ref (n0 + 124), .ref (n0 + 125)]) := rfl
theorem enc_126 : enc D n0 (κ, μ, o) 126 = .inl (D.2.2.2.2, 1, .inr (.inl (vp_updL (fun _ => 0) 0 o))) := rfl

theorem enc_107 : enc D n0 (κ, μ, o) 107 = .inl (D.2.1, 384, .inl (κ 107)) := rfl
theorem enc_109 : enc D n0 (κ, μ, o) 109 = .inl (D.2.1, 8, .inl (κ 109)) := rfl
theorem enc_110 : enc D n0 (κ, μ, o) 110 = .inl (D.2.1, 8, .inl (κ 110)) := rfl
theorem enc_111 : enc D n0 (κ, μ, o) 111 = .inl (D.2.1, 8, .inl (κ 111)) := rfl
theorem enc_112 : enc D n0 (κ, μ, o) 112 = .inl (D.2.1, 160, .inl (κ 112)) := rfl
theorem enc_114 : enc D n0 (κ, μ, o) 114 = .inl (D.2.2.1, 48, .inl (μ 1)) := rfl
theorem enc_115 : enc D n0 (κ, μ, o) 115 = .inl (D.2.1, 48, .inl (μ 2)) := rfl
theorem enc_116 : enc D n0 (κ, μ, o) 116 = .inl (D.2.2.1, 48, .inl (μ 3)) := rfl
theorem enc_117 : enc D n0 (κ, μ, o) 117 = .inl (D.2.1, 48, .inl (μ 4)) := rfl
theorem enc_118 : enc D n0 (κ, μ, o) 118 = .inl (D.2.1, 48, .inl (μ 5)) := rfl
theorem enc_119 : enc D n0 (κ, μ, o) 119 = .inl (D.2.1, 1920, .inl (μ 6)) := rfl
theorem enc_120 : enc D n0 (κ, μ, o) 120 = .inl (D.2.1, 3, .inl (μ 7)) := rfl
theorem enc_121 : enc D n0 (κ, μ, o) 121 = .inl (D.2.1, 384, .inl (μ 8)) := rfl
theorem enc_122 : enc D n0 (κ, μ, o) 122 = .inl (D.2.1, 160, .inl (μ 9)) := rfl
theorem enc_123 : enc D n0 (κ, μ, o) 123 = .inl (D.2.1, 8, .inl (μ 10)) := rfl
theorem enc_124 : enc D n0 (κ, μ, o) 124 = .inl (D.2.1, 8, .inl (μ 11)) := rfl
theorem enc_125 : enc D n0 (κ, μ, o) 125 = .inl (D.2.1, 8, .inl (μ 12)) := rfl
end ENC

/-! locals by places -/
def lh (lsA : Array Slot) (nL : Nat) (ls : List (Option Value)) : Prop := lsA.size = nL ∧ lv_wf lsA ∧ ∀ (i : Nat) (v : Value), ls[i]? = some (some v) → lsA[i]? = some (.val v) ∧ v.category = 1
def lhl (ls : List (Option Value)) : List (Nat × Value) := (List.range ls.length).filterMap (fun i => match ls[i]? with | some (some v) => some (i, v) | _ => none)
theorem lhl_mem {ls : List (Option Value)} {i : Nat} {v : Value} (h : ls[i]? = some (some v)) : (i, v) ∈ lhl ls := by
  refine List.mem_filterMap.mpr ⟨i, List.mem_range.mpr (List.getElem?_eq_some_iff.mp h).1, ?_⟩
  simp [h]
theorem lhl_of {ls : List (Option Value)} {q : Nat × Value} (h : q ∈ lhl ls) : ls[q.1]? = some (some q.2) := by
  obtain ⟨i, -, hi⟩ := List.mem_filterMap.mp h
  split at hi
  · cases hi; assumption
  · cases hi
theorem lh.has {lsA : Array Slot} {nL : Nat} {ls : List (Option Value)} (h : lh lsA nL ls) : lv_has lsA nL (lhl ls) := ⟨h.1, h.2.1, fun q hq => (h.2.2 q.1 q.2 (lhl_of hq)).1⟩
theorem lh.set {lsA lsA' : Array Slot} {nL i : Nat} {ls : List (Option Value)} {x : Value} (h : lh lsA nL ls) (hx : x.category = 1) (h' : lv_has lsA' nL ((i, x) :: (lhl ls).filter (fun q => !(q.1 == i) && !(q.1 + 1 == i && q.2.category == 2)))) : lh lsA' nL (ls.set i (some x)) := by
  refine ⟨h'.1, h'.2.1, fun j v hj => ?_⟩
  rw [List.getElem?_set] at hj
  by_cases hij : i = j
  · subst hij
    rw [if_pos rfl] at hj
    split at hj
    · cases hj
      exact ⟨h'.2.2 (i, x) List.mem_cons_self, hx⟩
    · cases hj
  · rw [if_neg hij] at hj
    obtain ⟨h1, h2⟩ := h.2.2 j v hj
    refine ⟨h'.2.2 (j, v) (List.mem_cons_of_mem _ (List.mem_filter.mpr ⟨lhl_mem hj, ?_⟩)), h2⟩
    have hji : ¬ j = i := fun q => hij q.symm
    simp [h2, hji]
def lle : List (Option Value) → List (Option Value) → Prop
  | [], _ => True
  | none :: a, _ :: b => lle a b
  | some x :: a, y :: b => y = some x ∧ lle a b
  | none :: a, [] => lle a []
  | some _ :: _, [] => False
theorem lle_at : ∀ (a b : List (Option Value)), lle a b → ∀ (i : Nat) (v : Value), a[i]? = some (some v) → b[i]? = some (some v)
  | [], _, _, i, v, h => by simp at h
  | none :: a, y :: b, hl, 0, v, h => by simp at h
  | none :: a, y :: b, hl, i + 1, v, h => by simpa using lle_at a b hl i v (by simpa using h)
  | none :: a, [], hl, 0, v, h => by simp at h
  | none :: a, [], hl, i + 1, v, h => by simpa using lle_at a [] hl i v (by simpa using h)
  | some x :: a, y :: b, hl, 0, v, h => by simp at h; subst h; simp [hl.1]
  | some x :: a, y :: b, hl, i + 1, v, h => by simpa using lle_at a b hl.2 i v (by simpa using h)
  | some _ :: _, [], hl, _, _, _ => hl.elim
theorem lh.fewer {lsA : Array Slot} {nL : Nat} {ls ls' : List (Option Value)} (h : lh lsA nL ls) (hl : lle ls' ls) : lh lsA nL ls' := ⟨h.1, h.2.1, fun i v hi => h.2.2 i v (lle_at _ _ hl i v hi)⟩
/-! the judgement: from these cells, at this place, with these locals and this stack -/
def Cx (p : Program) (l : Launch) (s : State) (m : MethodId) (args : Array Value) (meth : Method) (c : Code) (D : DD) (n0 : Nat) (own : String) (cc : ByteArray) (nL : Nat) : Prop :=
  p.tables.exec = Jvm.exec ∧ c.code = cc ∧ c.maxLocals = nL ∧ s.vm.findClass own = some m.cls ∧ (∀ w ∈ tb, w.before args s = true) ∧ va_K D.1 vwCl (tyl D) s ∧ n0 ≤ s.heap.size ∧ meth.locks = false

def ZZ (p : Program) (l : Launch) (e : Env) (R : Room) (s : State) (m : MethodId) (args : Array Value) (below : List Frame) (meth : Method) (c : Code) (D : DD) (n0 N nL cells slots : Nat) (Q : State → Prop) (σ : ST) (pc : Nat) (ls : List (Option Value)) (st : List Value) : Prop :=
  ∀ (H : Heap) (locs : List Loc) (lsA : Array Slot), va_P D.1 vwCl (wl D n0 N σ) H → va_S (fun q => n0 ≤ q) s.heap H locs → lh lsA nL ls → W p l e R s m args below meth c H locs cells slots Q (F0 m pc lsA st)
section ROWS
variable {p : Program} {l : Launch} {e : Env} {R : Room} {s : State} {m : MethodId} {args : Array Value} {below : List Frame} {meth : Method} {c : Code} {D : DD} {n0 N nL cells slots : Nat} {Q : State → Prop} {own : String} {cc : ByteArray} {σ σ1 : ST} {pc : Nat} {ls : List (Option Value)} {st : List Value}
theorem z_iconst (C : Cx p l s m args meth c D n0 own cc nL) {n : Int} {v : Int32} (hv : Int32.ofInt n = v) (hd : decode cc pc = .ok (.iconst n, 1)) (kk : ZZ p l e R s m args below meth c D n0 N nL cells slots Q σ (pc + 1) ls (.int v :: st)) : ZZ p l e R s m args below meth c D n0 N nL cells slots Q σ pc ls (st) := fun H locs lsA hP hS hl => lv_iconst C.1 C.2.1 hd hv (kk H locs lsA hP hS hl)
theorem z_bipush (C : Cx p l s m args meth c D n0 own cc nL) {n : Int} {v : Int32} (hv : (Int8.ofInt n).toInt32 = v) (hd : decode cc pc = .ok (.bipush n, 2)) (kk : ZZ p l e R s m args below meth c D n0 N nL cells slots Q σ (pc + 2) ls (.int v :: st)) : ZZ p l e R s m args below meth c D n0 N nL cells slots Q σ pc ls (st) := fun H locs lsA hP hS hl => lv_bipush C.1 C.2.1 hd hv (kk H locs lsA hP hS hl)
theorem z_sipush (C : Cx p l s m args meth c D n0 own cc nL) {n : Int} {v : Int32} (hv : (Int16.ofInt n).toInt32 = v) (hd : decode cc pc = .ok (.sipush n, 3)) (kk : ZZ p l e R s m args below meth c D n0 N nL cells slots Q σ (pc + 3) ls (.int v :: st)) : ZZ p l e R s m args below meth c D n0 N nL cells slots Q σ pc ls (st) := fun H locs lsA hP hS hl => lv_sipush C.1 C.2.1 hd hv (kk H locs lsA hP hS hl)
theorem z_null (C : Cx p l s m args meth c D n0 own cc nL)  (hd : decode cc pc = .ok (.aconst_null, 1)) (kk : ZZ p l e R s m args below meth c D n0 N nL cells slots Q σ (pc + 1) ls (.null :: st)) : ZZ p l e R s m args below meth c D n0 N nL cells slots Q σ pc ls (st) := fun H locs lsA hP hS hl => lv_null C.1 C.2.1 hd (kk H locs lsA hP hS hl)
theorem z_iload_n (C : Cx p l s m args meth c D n0 own cc nL) {i : Fin 4} {x : Int32} (hi : ls[(i : Nat)]? = some (some (.int x))) (hd : decode cc pc = .ok (.iload_n i, 1)) (kk : ZZ p l e R s m args below meth c D n0 N nL cells slots Q σ (pc + 1) ls (.int x :: st)) : ZZ p l e R s m args below meth c D n0 N nL cells slots Q σ pc ls (st) := fun H locs lsA hP hS hl => lv_iload_n C.1 C.2.1 hd rfl (hl.2.2 _ _ hi).1 (kk H locs lsA hP hS hl)
theorem z_iload (C : Cx p l s m args meth c D n0 own cc nL) {i : Nat} {x : Int32} (hi : ls[i]? = some (some (.int x))) (hd : decode cc pc = .ok (.iload i, 2)) (kk : ZZ p l e R s m args below meth c D n0 N nL cells slots Q σ (pc + 2) ls (.int x :: st)) : ZZ p l e R s m args below meth c D n0 N nL cells slots Q σ pc ls (st) := fun H locs lsA hP hS hl => lv_iload C.1 C.2.1 hd (hl.2.2 _ _ hi).1 (kk H locs lsA hP hS hl)
theorem z_aload_n (C : Cx p l s m args meth c D n0 own cc nL) {i : Fin 4} {x : Nat} (hi : ls[(i : Nat)]? = some (some (.ref x))) (hd : decode cc pc = .ok (.aload_n i, 1)) (kk : ZZ p l e R s m args below meth c D n0 N nL cells slots Q σ (pc + 1) ls (.ref x :: st)) : ZZ p l e R s m args below meth c D n0 N nL cells slots Q σ pc ls (st) := fun H locs lsA hP hS hl => lv_aload_n C.1 C.2.1 hd rfl (hl.2.2 _ _ hi).1 (kk H locs lsA hP hS hl)
theorem z_aload (C : Cx p l s m args meth c D n0 own cc nL) {i : Nat} {x : Nat} (hi : ls[i]? = some (some (.ref x))) (hd : decode cc pc = .ok (.aload i, 2)) (kk : ZZ p l e R s m args below meth c D n0 N nL cells slots Q σ (pc + 2) ls (.ref x :: st)) : ZZ p l e R s m args below meth c D n0 N nL cells slots Q σ pc ls (st) := fun H locs lsA hP hS hl => lv_aload C.1 C.2.1 hd (hl.2.2 _ _ hi).1 (kk H locs lsA hP hS hl)
theorem z_aload_nN (C : Cx p l s m args meth c D n0 own cc nL) {i : Fin 4} (hi : ls[(i : Nat)]? = some (some .null)) (hd : decode cc pc = .ok (.aload_n i, 1)) (kk : ZZ p l e R s m args below meth c D n0 N nL cells slots Q σ (pc + 1) ls (.null :: st)) : ZZ p l e R s m args below meth c D n0 N nL cells slots Q σ pc ls (st) := fun H locs lsA hP hS hl => lv_aload_nN C.1 C.2.1 hd rfl (hl.2.2 _ _ hi).1 (kk H locs lsA hP hS hl)
theorem z_iadd (C : Cx p l s m args meth c D n0 own cc nL) {x y : Int32} (hd : decode cc pc = .ok (.iadd, 1)) (kk : ZZ p l e R s m args below meth c D n0 N nL cells slots Q σ (pc + 1) ls (.int (x + y) :: st)) : ZZ p l e R s m args below meth c D n0 N nL cells slots Q σ pc ls (.int y :: .int x :: st) := fun H locs lsA hP hS hl => lv_iadd C.1 C.2.1 hd (kk H locs lsA hP hS hl)
theorem z_isub (C : Cx p l s m args meth c D n0 own cc nL) {x y : Int32} (hd : decode cc pc = .ok (.isub, 1)) (kk : ZZ p l e R s m args below meth c D n0 N nL cells slots Q σ (pc + 1) ls (.int (x - y) :: st)) : ZZ p l e R s m args below meth c D n0 N nL cells slots Q σ pc ls (.int y :: .int x :: st) := fun H locs lsA hP hS hl => lv_isub C.1 C.2.1 hd (kk H locs lsA hP hS hl)
theorem z_imul (C : Cx p l s m args meth c D n0 own cc nL) {x y : Int32} (hd : decode cc pc = .ok (.imul, 1)) (kk : ZZ p l e R s m args below meth c D n0 N nL cells slots Q σ (pc + 1) ls (.int (x * y) :: st)) : ZZ p l e R s m args below meth c D n0 N nL cells slots Q σ pc ls (.int y :: .int x :: st) := fun H locs lsA hP hS hl => lv_imul C.1 C.2.1 hd (kk H locs lsA hP hS hl)
theorem z_iand (C : Cx p l s m args meth c D n0 own cc nL) {x y : Int32} (hd : decode cc pc = .ok (.iand, 1)) (kk : ZZ p l e R s m args below meth c D n0 N nL cells slots Q σ (pc + 1) ls (.int (x &&& y) :: st)) : ZZ p l e R s m args below meth c D n0 N nL cells slots Q σ pc ls (.int y :: .int x :: st) := fun H locs lsA hP hS hl => lv_iand C.1 C.2.1 hd (kk H locs lsA hP hS hl)
theorem z_idiv (C : Cx p l s m args meth c D n0 own cc nL) {x y : Int32} (hne : ¬ y = 0) (hd : decode cc pc = .ok (.idiv, 1)) (kk : ZZ p l e R s m args below meth c D n0 N nL cells slots Q σ (pc + 1) ls (.int (x / y) :: st)) : ZZ p l e R s m args below meth c D n0 N nL cells slots Q σ pc ls (.int y :: .int x :: st) := fun H locs lsA hP hS hl => lv_idiv C.1 C.2.1 hd hne (kk H locs lsA hP hS hl)
theorem z_irem (C : Cx p l s m args meth c D n0 own cc nL) {x y : Int32} (hne : ¬ y = 0) (hd : decode cc pc = .ok (.irem, 1)) (kk : ZZ p l e R s m args below meth c D n0 N nL cells slots Q σ (pc + 1) ls (.int (x - x / y * y) :: st)) : ZZ p l e R s m args below meth c D n0 N nL cells slots Q σ pc ls (.int y :: .int x :: st) := fun H locs lsA hP hS hl => lv_irem C.1 C.2.1 hd hne (kk H locs lsA hP hS hl)
theorem z_i2l (C : Cx p l s m args meth c D n0 own cc nL) {x : Int32} (hd : decode cc pc = .ok (.i2l, 1)) (kk : ZZ p l e R s m args below meth c D n0 N nL cells slots Q σ (pc + 1) ls (.long x.toInt64 :: st)) : ZZ p l e R s m args below meth c D n0 N nL cells slots Q σ pc ls (.int x :: st) := fun H locs lsA hP hS hl => lv_i2l C.1 C.2.1 hd rfl (kk H locs lsA hP hS hl)
theorem z_dup (C : Cx p l s m args meth c D n0 own cc nL) {va : Value} (hva : va.category = 1) (hd : decode cc pc = .ok (.dup, 1)) (kk : ZZ p l e R s m args below meth c D n0 N nL cells slots Q σ (pc + 1) ls (va :: va :: st)) : ZZ p l e R s m args below meth c D n0 N nL cells slots Q σ pc ls (va :: st) := fun H locs lsA hP hS hl => lv_dup C.1 C.2.1 hd hva (kk H locs lsA hP hS hl)
theorem z_dup2 (C : Cx p l s m args meth c D n0 own cc nL) {va vb : Value} (hva : va.category = 1) (hvb : vb.category = 1) (hd : decode cc pc = .ok (.dup2, 1)) (kk : ZZ p l e R s m args below meth c D n0 N nL cells slots Q σ (pc + 1) ls (va :: vb :: va :: vb :: st)) : ZZ p l e R s m args below meth c D n0 N nL cells slots Q σ pc ls (va :: vb :: st) := fun H locs lsA hP hS hl => lv_dup2_11 C.1 C.2.1 hd hva hvb (kk H locs lsA hP hS hl)
theorem z_pop (C : Cx p l s m args meth c D n0 own cc nL) {va : Value} (hva : va.category = 1) (hd : decode cc pc = .ok (.pop, 1)) (kk : ZZ p l e R s m args below meth c D n0 N nL cells slots Q σ (pc + 1) ls (st)) : ZZ p l e R s m args below meth c D n0 N nL cells slots Q σ pc ls (va :: st) := fun H locs lsA hP hS hl => lv_pop C.1 C.2.1 hd hva (kk H locs lsA hP hS hl)
theorem z_istore_n (C : Cx p l s m args meth c D n0 own cc nL) {i : Fin 4} {x : Int32} {ls' : List (Option Value)} (hn : (i : Nat) < nL) (hl' : ls.set i (some (.int x)) = ls') (hd : decode cc pc = .ok (.istore_n i, 1)) (kk : ZZ p l e R s m args below meth c D n0 N nL cells slots Q σ (pc + 1) ls' (st)) : ZZ p l e R s m args below meth c D n0 N nL cells slots Q σ pc ls (.int x :: st) := fun H locs lsA hP hS hl => lv_istore_n C.1 C.2.1 hd rfl hl.has hn rfl (fun lsB hB => kk H locs lsB hP hS (hl' ▸ hl.set rfl hB))
theorem z_istore (C : Cx p l s m args meth c D n0 own cc nL) {i : Nat} {x : Int32} {ls' : List (Option Value)} (hn : (i : Nat) < nL) (hl' : ls.set i (some (.int x)) = ls') (hd : decode cc pc = .ok (.istore i, 2)) (kk : ZZ p l e R s m args below meth c D n0 N nL cells slots Q σ (pc + 2) ls' (st)) : ZZ p l e R s m args below meth c D n0 N nL cells slots Q σ pc ls (.int x :: st) := fun H locs lsA hP hS hl => lv_istore C.1 C.2.1 hd hl.has hn rfl (fun lsB hB => kk H locs lsB hP hS (hl' ▸ hl.set rfl hB))
theorem z_astore_n (C : Cx p l s m args meth c D n0 own cc nL) {i : Fin 4} {x : Nat} {ls' : List (Option Value)} (hn : (i : Nat) < nL) (hl' : ls.set i (some (.ref x)) = ls') (hd : decode cc pc = .ok (.astore_n i, 1)) (kk : ZZ p l e R s m args below meth c D n0 N nL cells slots Q σ (pc + 1) ls' (st)) : ZZ p l e R s m args below meth c D n0 N nL cells slots Q σ pc ls (.ref x :: st) := fun H locs lsA hP hS hl => lv_astore_n C.1 C.2.1 hd rfl hl.has hn rfl (fun lsB hB => kk H locs lsB hP hS (hl' ▸ hl.set rfl hB))
theorem z_astore (C : Cx p l s m args meth c D n0 own cc nL) {i : Nat} {x : Nat} {ls' : List (Option Value)} (hn : (i : Nat) < nL) (hl' : ls.set i (some (.ref x)) = ls') (hd : decode cc pc = .ok (.astore i, 2)) (kk : ZZ p l e R s m args below meth c D n0 N nL cells slots Q σ (pc + 2) ls' (st)) : ZZ p l e R s m args below meth c D n0 N nL cells slots Q σ pc ls (.ref x :: st) := fun H locs lsA hP hS hl => lv_astore C.1 C.2.1 hd hl.has hn rfl (fun lsB hB => kk H locs lsB hP hS (hl' ▸ hl.set rfl hB))
theorem z_astore_nN (C : Cx p l s m args meth c D n0 own cc nL) {i : Fin 4} {ls' : List (Option Value)} (hn : (i : Nat) < nL) (hl' : ls.set i (some (.null)) = ls') (hd : decode cc pc = .ok (.astore_n i, 1)) (kk : ZZ p l e R s m args below meth c D n0 N nL cells slots Q σ (pc + 1) ls' (st)) : ZZ p l e R s m args below meth c D n0 N nL cells slots Q σ pc ls (.null :: st) := fun H locs lsA hP hS hl => lv_astore_nN C.1 C.2.1 hd rfl hl.has hn rfl (fun lsB hB => kk H locs lsB hP hS (hl' ▸ hl.set rfl hB))
theorem z_iinc (C : Cx p l s m args meth c D n0 own cc nL) {i : Nat} {n : Int} {x v : Int32} {ls' : List (Option Value)} (hi : ls[i]? = some (some (.int x))) (hv : x + Int32.ofInt n = v) (hn : i < nL) (hl' : ls.set i (some (.int v)) = ls') (hd : decode cc pc = .ok (.iinc i n, 3)) (kk : ZZ p l e R s m args below meth c D n0 N nL cells slots Q σ (pc + 3) ls' st) : ZZ p l e R s m args below meth c D n0 N nL cells slots Q σ pc ls st := by
  intro H locs lsA hP hS hl
  obtain ⟨k, hk⟩ := List.getElem?_of_mem (lhl_mem hi)
  exact lv_iinc C.1 C.2.1 hd hl.has hk hv hn rfl (fun lsB hB => kk H locs lsB hP hS (hl' ▸ hl.set rfl hB))
theorem z_goto (C : Cx p l s m args meth c D n0 own cc nL) {off : Int} {tgt : Nat} (hd : decode cc pc = .ok (.goto off, 3)) (ht : (pc : Int) + off = (tgt : Int)) (kk : ZZ p l e R s m args below meth c D n0 N nL cells slots Q σ tgt ls st) : ZZ p l e R s m args below meth c D n0 N nL cells slots Q σ pc ls st := fun H locs lsA hP hS hl => lv_goto C.1 C.2.1 hd ht (kk H locs lsA hP hS hl)
theorem z_if_eq (C : Cx p l s m args meth c D n0 own cc nL) {x : Int32} {off : Int} {tgt : Nat} (hd : decode cc pc = .ok (.ifCond .eq off, 3)) (ht : (pc : Int) + off = (tgt : Int)) (kt : x = 0 → ZZ p l e R s m args below meth c D n0 N nL cells slots Q σ tgt ls st) (kf : ¬ x = 0 → ZZ p l e R s m args below meth c D n0 N nL cells slots Q σ (pc + 3) ls st) : ZZ p l e R s m args below meth c D n0 N nL cells slots Q σ pc ls (.int x :: st) := fun H locs lsA hP hS hl => lv_if_eq C.1 C.2.1 hd ht (fun q => kt q H locs lsA hP hS hl) (fun q => kf q H locs lsA hP hS hl)
theorem z_if_ne (C : Cx p l s m args meth c D n0 own cc nL) {x : Int32} {off : Int} {tgt : Nat} (hd : decode cc pc = .ok (.ifCond .ne off, 3)) (ht : (pc : Int) + off = (tgt : Int)) (kt : x ≠ 0 → ZZ p l e R s m args below meth c D n0 N nL cells slots Q σ tgt ls st) (kf : x = 0 → ZZ p l e R s m args below meth c D n0 N nL cells slots Q σ (pc + 3) ls st) : ZZ p l e R s m args below meth c D n0 N nL cells slots Q σ pc ls (.int x :: st) := fun H locs lsA hP hS hl => lv_if_ne C.1 C.2.1 hd ht (fun q => kt q H locs lsA hP hS hl) (fun q => kf q H locs lsA hP hS hl)
theorem z_if_lt (C : Cx p l s m args meth c D n0 own cc nL) {x : Int32} {off : Int} {tgt : Nat} (hd : decode cc pc = .ok (.ifCond .lt off, 3)) (ht : (pc : Int) + off = (tgt : Int)) (kt : x < 0 → ZZ p l e R s m args below meth c D n0 N nL cells slots Q σ tgt ls st) (kf : ¬ x < 0 → ZZ p l e R s m args below meth c D n0 N nL cells slots Q σ (pc + 3) ls st) : ZZ p l e R s m args below meth c D n0 N nL cells slots Q σ pc ls (.int x :: st) := fun H locs lsA hP hS hl => lv_if_lt C.1 C.2.1 hd ht (fun q => kt q H locs lsA hP hS hl) (fun q => kf q H locs lsA hP hS hl)
theorem z_if_ge (C : Cx p l s m args meth c D n0 own cc nL) {x : Int32} {off : Int} {tgt : Nat} (hd : decode cc pc = .ok (.ifCond .ge off, 3)) (ht : (pc : Int) + off = (tgt : Int)) (kt : 0 ≤ x → ZZ p l e R s m args below meth c D n0 N nL cells slots Q σ tgt ls st) (kf : ¬ 0 ≤ x → ZZ p l e R s m args below meth c D n0 N nL cells slots Q σ (pc + 3) ls st) : ZZ p l e R s m args below meth c D n0 N nL cells slots Q σ pc ls (.int x :: st) := fun H locs lsA hP hS hl => lv_if_ge C.1 C.2.1 hd ht (fun q => kt q H locs lsA hP hS hl) (fun q => kf q H locs lsA hP hS hl)
theorem z_if_gt (C : Cx p l s m args meth c D n0 own cc nL) {x : Int32} {off : Int} {tgt : Nat} (hd : decode cc pc = .ok (.ifCond .gt off, 3)) (ht : (pc : Int) + off = (tgt : Int)) (kt : 0 < x → ZZ p l e R s m args below meth c D n0 N nL cells slots Q σ tgt ls st) (kf : ¬ 0 < x → ZZ p l e R s m args below meth c D n0 N nL cells slots Q σ (pc + 3) ls st) : ZZ p l e R s m args below meth c D n0 N nL cells slots Q σ pc ls (.int x :: st) := fun H locs lsA hP hS hl => lv_if_gt C.1 C.2.1 hd ht (fun q => kt q H locs lsA hP hS hl) (fun q => kf q H locs lsA hP hS hl)
theorem z_if_le (C : Cx p l s m args meth c D n0 own cc nL) {x : Int32} {off : Int} {tgt : Nat} (hd : decode cc pc = .ok (.ifCond .le off, 3)) (ht : (pc : Int) + off = (tgt : Int)) (kt : x ≤ 0 → ZZ p l e R s m args below meth c D n0 N nL cells slots Q σ tgt ls st) (kf : ¬ x ≤ 0 → ZZ p l e R s m args below meth c D n0 N nL cells slots Q σ (pc + 3) ls st) : ZZ p l e R s m args below meth c D n0 N nL cells slots Q σ pc ls (.int x :: st) := fun H locs lsA hP hS hl => lv_if_le C.1 C.2.1 hd ht (fun q => kt q H locs lsA hP hS hl) (fun q => kf q H locs lsA hP hS hl)
theorem z_icmp_eq (C : Cx p l s m args meth c D n0 own cc nL) {x y : Int32} {off : Int} {tgt : Nat} (hd : decode cc pc = .ok (.if_icmp .eq off, 3)) (ht : (pc : Int) + off = (tgt : Int)) (kt : x = y → ZZ p l e R s m args below meth c D n0 N nL cells slots Q σ tgt ls st) (kf : ¬ x = y → ZZ p l e R s m args below meth c D n0 N nL cells slots Q σ (pc + 3) ls st) : ZZ p l e R s m args below meth c D n0 N nL cells slots Q σ pc ls (.int y :: .int x :: st) := fun H locs lsA hP hS hl => lv_icmp_eq C.1 C.2.1 hd ht (fun q => kt q H locs lsA hP hS hl) (fun q => kf q H locs lsA hP hS hl)
theorem z_icmp_ne (C : Cx p l s m args meth c D n0 own cc nL) {x y : Int32} {off : Int} {tgt : Nat} (hd : decode cc pc = .ok (.if_icmp .ne off, 3)) (ht : (pc : Int) + off = (tgt : Int)) (kt : x ≠ y → ZZ p l e R s m args below meth c D n0 N nL cells slots Q σ tgt ls st) (kf : x = y → ZZ p l e R s m args below meth c D n0 N nL cells slots Q σ (pc + 3) ls st) : ZZ p l e R s m args below meth c D n0 N nL cells slots Q σ pc ls (.int y :: .int x :: st) := fun H locs lsA hP hS hl => lv_icmp_ne C.1 C.2.1 hd ht (fun q => kt q H locs lsA hP hS hl) (fun q => kf q H locs lsA hP hS hl)
theorem z_icmp_lt (C : Cx p l s m args meth c D n0 own cc nL) {x y : Int32} {off : Int} {tgt : Nat} (hd : decode cc pc = .ok (.if_icmp .lt off, 3)) (ht : (pc : Int) + off = (tgt : Int)) (kt : x < y → ZZ p l e R s m args below meth c D n0 N nL cells slots Q σ tgt ls st) (kf : ¬ x < y → ZZ p l e R s m args below meth c D n0 N nL cells slots Q σ (pc + 3) ls st) : ZZ p l e R s m args below meth c D n0 N nL cells slots Q σ pc ls (.int y :: .int x :: st) := fun H locs lsA hP hS hl => lv_icmp_lt C.1 C.2.1 hd ht (fun q => kt q H locs lsA hP hS hl) (fun q => kf q H locs lsA hP hS hl)
theorem z_icmp_ge (C : Cx p l s m args meth c D n0 own cc nL) {x y : Int32} {off : Int} {tgt : Nat} (hd : decode cc pc = .ok (.if_icmp .ge off, 3)) (ht : (pc : Int) + off = (tgt : Int)) (kt : y ≤ x → ZZ p l e R s m args below meth c D n0 N nL cells slots Q σ tgt ls st) (kf : ¬ y ≤ x → ZZ p l e R s m args below meth c D n0 N nL cells slots Q σ (pc + 3) ls st) : ZZ p l e R s m args below meth c D n0 N nL cells slots Q σ pc ls (.int y :: .int x :: st) := fun H locs lsA hP hS hl => lv_icmp_ge C.1 C.2.1 hd ht (fun q => kt q H locs lsA hP hS hl) (fun q => kf q H locs lsA hP hS hl)
theorem z_icmp_gt (C : Cx p l s m args meth c D n0 own cc nL) {x y : Int32} {off : Int} {tgt : Nat} (hd : decode cc pc = .ok (.if_icmp .gt off, 3)) (ht : (pc : Int) + off = (tgt : Int)) (kt : y < x → ZZ p l e R s m args below meth c D n0 N nL cells slots Q σ tgt ls st) (kf : ¬ y < x → ZZ p l e R s m args below meth c D n0 N nL cells slots Q σ (pc + 3) ls st) : ZZ p l e R s m args below meth c D n0 N nL cells slots Q σ pc ls (.int y :: .int x :: st) := fun H locs lsA hP hS hl => lv_icmp_gt C.1 C.2.1 hd ht (fun q => kt q H locs lsA hP hS hl) (fun q => kf q H locs lsA hP hS hl)
theorem z_icmp_le (C : Cx p l s m args meth c D n0 own cc nL) {x y : Int32} {off : Int} {tgt : Nat} (hd : decode cc pc = .ok (.if_icmp .le off, 3)) (ht : (pc : Int) + off = (tgt : Int)) (kt : x ≤ y → ZZ p l e R s m args below meth c D n0 N nL cells slots Q σ tgt ls st) (kf : ¬ x ≤ y → ZZ p l e R s m args below meth c D n0 N nL cells slots Q σ (pc + 3) ls st) : ZZ p l e R s m args below meth c D n0 N nL cells slots Q σ pc ls (.int y :: .int x :: st) := fun H locs lsA hP hS hl => lv_icmp_le C.1 C.2.1 hd ht (fun q => kt q H locs lsA hP hS hl) (fun q => kf q H locs lsA hP hS hl)
theorem z_ifnonnull (C : Cx p l s m args meth c D n0 own cc nL) {x : Nat} {off : Int} {tgt : Nat} (hd : decode cc pc = .ok (.ifnonnull off, 3)) (ht : (pc : Int) + off = (tgt : Int)) (kk : ZZ p l e R s m args below meth c D n0 N nL cells slots Q σ tgt ls st) : ZZ p l e R s m args below meth c D n0 N nL cells slots Q σ pc ls (.ref x :: st) := fun H locs lsA hP hS hl => lv_ifnonnull C.1 C.2.1 hd ht (kk H locs lsA hP hS hl)
theorem z_ifnonnullN (C : Cx p l s m args meth c D n0 own cc nL) {off : Int} (hd : decode cc pc = .ok (.ifnonnull off, 3)) (kk : ZZ p l e R s m args below meth c D n0 N nL cells slots Q σ (pc + 3) ls st) : ZZ p l e R s m args below meth c D n0 N nL cells slots Q σ pc ls (.null :: st) := fun H locs lsA hP hS hl => lv_ifnonnullN C.1 C.2.1 hd (kk H locs lsA hP hS hl)
theorem z_ifnull (C : Cx p l s m args meth c D n0 own cc nL) {x : Nat} {off : Int} (hd : decode cc pc = .ok (.ifnull off, 3)) (kk : ZZ p l e R s m args below meth c D n0 N nL cells slots Q σ (pc + 3) ls st) : ZZ p l e R s m args below meth c D n0 N nL cells slots Q σ pc ls (.ref x :: st) := fun H locs lsA hP hS hl => lv_ifnull C.1 C.2.1 hd (kk H locs lsA hP hS hl)
theorem z_ifnullN (C : Cx p l s m args meth c D n0 own cc nL) {off : Int} {tgt : Nat} (hd : decode cc pc = .ok (.ifnull off, 3)) (ht : (pc : Int) + off = (tgt : Int)) (kk : ZZ p l e R s m args below meth c D n0 N nL cells slots Q σ tgt ls st) : ZZ p l e R s m args below meth c D n0 N nL cells slots Q σ pc ls (.null :: st) := fun H locs lsA hP hS hl => lv_ifnullN C.1 C.2.1 hd ht (kk H locs lsA hP hS hl)
theorem z_fewer {ls' : List (Option Value)} (hl' : lle ls' ls) (kk : ZZ p l e R s m args below meth c D n0 N nL cells slots Q σ pc ls' st) : ZZ p l e R s m args below meth c D n0 N nL cells slots Q σ pc ls st := fun H locs lsA hP hS hl => kk H locs lsA hP hS (hl.fewer hl')
theorem z_widen {k n : Nat} (h1 : cells ≤ k) (h2 : slots ≤ n) (kk : ZZ p l e R s m args below meth c D n0 N nL k n Q σ pc ls st) : ZZ p l e R s m args below meth c D n0 N nL cells slots Q σ pc ls st := fun H locs lsA hP hS hl => W.widen h1 h2 (kk H locs lsA hP hS hl)
theorem z_tableOut (C : Cx p l s m args meth c D n0 own cc nL) {dflt lo hi : Int} {offs : Array Int} {len : Nat} {x : Int32} {tgt : Nat} (hd : decode cc pc = .ok (.tableswitch dflt lo hi offs, len)) (h : x.toInt < lo ∨ hi < x.toInt) (ht : (pc : Int) + dflt = (tgt : Int)) (kk : ZZ p l e R s m args below meth c D n0 N nL cells slots Q σ tgt ls st) : ZZ p l e R s m args below meth c D n0 N nL cells slots Q σ pc ls (.int x :: st) := fun H locs lsA hP hS hl => lv_tableOut C.1 C.2.1 hd h ht (kk H locs lsA hP hS hl)
theorem z_tableIn (C : Cx p l s m args meth c D n0 own cc nL) {dflt lo hi : Int} {offs : Array Int} {len : Nat} {x : Int32} {off : Int} {tgt : Nat} (hd : decode cc pc = .ok (.tableswitch dflt lo hi offs, len)) (h1 : ¬ x.toInt < lo) (h2 : ¬ hi < x.toInt) (ho : offs[(x.toInt - lo).toNat]? = some off) (ht : (pc : Int) + off = (tgt : Int)) (kk : ZZ p l e R s m args below meth c D n0 N nL cells slots Q σ tgt ls st) : ZZ p l e R s m args below meth c D n0 N nL cells slots Q σ pc ls (.int x :: st) := fun H locs lsA hP hS hl => lv_tableIn C.1 C.2.1 hd h1 h2 ho ht (kk H locs lsA hP hS hl)
theorem z_getf (C : Cx p l s m args meth c D n0 own cc nL) {k ci idx : Nat} {ref Cn : String} {T : u_T} {NF : Nat} {fs : List Value} {v : Value} (f : Nat) (he : enc D n0 σ k = .inr (ci, fs)) (hk : k < N) (hc : vwCl[ci]? = some (Cn, T, NF)) (hin : ∀ w ∈ u_ws Cn T NF, w ∈ tb) (hf : f < NF) (hlink : Cond.fieldLink own idx ref (T f).2.1 (T f).2.2.1 ∈ tb) (href : (T f).1 = ref) (hv : fs[f]? = some v) (hd : decode cc pc = .ok (.getfield idx, 3)) (kk : ZZ p l e R s m args below meth c D n0 N nL cells slots Q σ (pc + 3) ls (v :: st)) : ZZ p l e R s m args below meth c D n0 N nL cells slots Q σ pc ls (.ref (n0 + k) :: st) := fun H locs lsA hP hS hl => va_get C.1 C.2.1 C.2.2.2.2.1 hin C.2.2.2.1 C.2.2.2.2.2.1 hP k (fs := fs) (by rw [wl_get hk, he]) hc f hf (C.2.2.2.2.1 _ hlink) (fun x h => by rw [← href]; exact h) hv hd (kk H locs lsA hP hS hl)
theorem z_putf (C : Cx p l s m args meth c D n0 own cc nL) {k ci idx : Nat} {ref Cn : String} {T : u_T} {NF : Nat} {fs : List Value} {v : Value} {ty : FieldType} (f : Nat) (ty0 : Nat → FieldType) (he : enc D n0 σ k = .inr (ci, fs)) (he' : enc D n0 σ1 k = .inr (ci, fs.set f v)) (hne : ∀ j, j ≠ k → enc D n0 σ1 j = enc D n0 σ j) (hk : k < N) (hc : vwCl[ci]? = some (Cn, T, NF)) (hin : ∀ w ∈ u_ws Cn T NF, w ∈ tb) (hty : ∀ k, k < NF → parseFieldDescriptor (T k).2.2.1 = some (ty0 k)) (hnm : ∀ a, a < NF → ∀ b, b < NF → a ≠ b → (T a).2.1 ≠ (T b).2.1) (hf : f < NF) (hlink : Cond.fieldLink own idx ref (T f).2.1 (T f).2.2.1 ∈ tb) (href : (T f).1 = ref) (hfin : (T f).2.2.2 = false) (hdesc : parseFieldDescriptor (T f).2.2.1 = some ty) (hn : narrow ty v = v) (hfit : fits ty v = true) (hlen : f < fs.length) (hd : decode cc pc = .ok (.putfield idx, 3)) (kk : ZZ p l e R s m args below meth c D n0 N nL cells slots Q σ1 (pc + 3) ls st) : ZZ p l e R s m args below meth c D n0 N nL cells slots Q σ pc ls (v :: .ref (n0 + k) :: st) := fun H locs lsA hP hS hl => va_put C.1 C.2.1 C.2.2.2.2.1 hin ty0 hty hnm C.2.2.2.1 C.2.2.2.2.2.1 hP wl_D hS k (fs := fs) (by rw [wl_get hk, he]) hc f hf (C.2.2.2.2.1 _ hlink) (fun x h => by rw [← href]; exact h) hfin hdesc hn hfit hlen hd (fun H1 locs1 hP1 hD1 hS1 => kk H1 locs1 lsA (by rw [← wl_set he' hne]; exact hP1) hS1 hl)
theorem z_iald (C : Cx p l s m args meth c D n0 own cc nL) {k n : Nat} {f : Nat → Int32} {i : Int32} (j : Nat) (he : enc D n0 σ k = .inl (D.2.1, n, .inl f)) (hk : k < N) (hij : i = nI j) (hj : j < n) (hn : n < 2 ^ 31) (hd : decode cc pc = .ok (.iaload, 1)) (kk : ZZ p l e R s m args below meth c D n0 N nL cells slots Q σ (pc + 1) ls (.int (f j) :: st)) : ZZ p l e R s m args below meth c D n0 N nL cells slots Q σ pc ls (.int i :: .ref (n0 + k) :: st) := fun H locs lsA hP hS hl => by
  subst hij
  refine va_iald C.1 C.2.1 C.2.2.2.2.2.1 hP k 0 (by rw [wl_get hk, he]) rfl (vp_in_nI hj hn) hd ?_
  rw [nI_clamp (Nat.lt_trans hj hn)]
  exact kk H locs lsA hP hS hl
theorem z_bald (C : Cx p l s m args meth c D n0 own cc nL) {k n : Nat} {f : Nat → Int32} {i : Int32} (j : Nat) (he : enc D n0 σ k = .inl (D.2.2.1, n, .inl f)) (hk : k < N) (hij : i = nI j) (hj : j < n) (hn : n < 2 ^ 31) (hd : decode cc pc = .ok (.baload, 1)) (kk : ZZ p l e R s m args below meth c D n0 N nL cells slots Q σ (pc + 1) ls (.int (f j) :: st)) : ZZ p l e R s m args below meth c D n0 N nL cells slots Q σ pc ls (.int i :: .ref (n0 + k) :: st) := fun H locs lsA hP hS hl => by
  subst hij
  refine va_zald C.1 C.2.1 C.2.2.2.2.2.1 hP k 1 (by rw [wl_get hk, he]) rfl (vp_in_nI hj hn) hd ?_
  rw [nI_clamp (Nat.lt_trans hj hn)]
  exact kk H locs lsA hP hS hl
theorem z_iast (C : Cx p l s m args meth c D n0 own cc nL) {k n : Nat} {f : Nat → Int32} {i x : Int32} (j : Nat) (he : enc D n0 σ k = .inl (D.2.1, n, .inl f)) (he' : enc D n0 σ1 k = .inl (D.2.1, n, .inl (upd f j x))) (hne : ∀ j, j ≠ k → enc D n0 σ1 j = enc D n0 σ j) (hk : k < N) (hij : i = nI j) (hj : j < n) (hn : n < 2 ^ 31) (hd : decode cc pc = .ok (.iastore, 1)) (kk : ZZ p l e R s m args below meth c D n0 N nL cells slots Q σ1 (pc + 1) ls st) : ZZ p l e R s m args below meth c D n0 N nL cells slots Q σ pc ls (.int x :: .int i :: .ref (n0 + k) :: st) := fun H locs lsA hP hS hl => by
  subst hij
  refine va_iast C.1 C.2.1 C.2.2.2.2.2.1 hP wl_D hS k 0 (by rw [wl_get hk, he]) rfl (vp_in_nI hj hn) hd ?_
  rw [nI_clamp (Nat.lt_trans hj hn)]
  exact fun H1 locs1 hP1 hD1 hS1 => kk H1 locs1 lsA (by rw [← wl_set he' hne]; exact hP1) hS1 hl
theorem z_bast (C : Cx p l s m args meth c D n0 own cc nL) {k n : Nat} {f : Nat → Int32} {i x : Int32} (j : Nat) (he : enc D n0 σ k = .inl (D.2.2.1, n, .inl f)) (he' : enc D n0 σ1 k = .inl (D.2.2.1, n, .inl (upd f j x))) (hne : ∀ j, j ≠ k → enc D n0 σ1 j = enc D n0 σ j) (hx : x = 0 ∨ x = 1) (hk : k < N) (hij : i = nI j) (hj : j < n) (hn : n < 2 ^ 31) (hd : decode cc pc = .ok (.bastore, 1)) (kk : ZZ p l e R s m args below meth c D n0 N nL cells slots Q σ1 (pc + 1) ls st) : ZZ p l e R s m args below meth c D n0 N nL cells slots Q σ pc ls (.int x :: .int i :: .ref (n0 + k) :: st) := fun H locs lsA hP hS hl => by
  subst hij
  have hx2 : vp_nar .boolean x = x := by rcases hx with rfl | rfl <;> decide +kernel
  refine va_zast C.1 C.2.1 C.2.2.2.2.2.1 hP wl_D hS k 1 (by rw [wl_get hk, he]) rfl (vp_in_nI hj hn) hd ?_
  rw [nI_clamp (Nat.lt_trans hj hn), hx2]
  exact fun H1 locs1 hP1 hD1 hS1 => kk H1 locs1 lsA (by rw [← wl_set he' hne]; exact hP1) hS1 hl
theorem z_lald (C : Cx p l s m args meth c D n0 own cc nL) {κ μ : KH} {o : Int64} (hN : 126 < N) (hd : decode cc pc = .ok (.laload, 1)) (kk : ZZ p l e R s m args below meth c D n0 N nL cells slots Q (κ, μ, o) (pc + 1) ls (.long o :: st)) : ZZ p l e R s m args below meth c D n0 N nL cells slots Q (κ, μ, o) pc ls (.int 0 :: .ref (n0 + 126) :: st) := fun H locs lsA hP hS hl => va_lald C.1 C.2.1 C.2.2.2.2.2.1 hP 126 3 (f := vp_updL (fun _ => 0) 0 o) (n := 1) (by rw [wl_get hN, enc_126]) rfl (by rw [← nI_0]; exact vp_in_nI (by decide) (by decide)) hd (kk H locs lsA hP hS hl)
theorem z_last (C : Cx p l s m args meth c D n0 own cc nL) {κ μ : KH} {o x : Int64} (hN : 126 < N) (hd : decode cc pc = .ok (.lastore, 1)) (kk : ZZ p l e R s m args below meth c D n0 N nL cells slots Q (κ, μ, x) (pc + 1) ls st) : ZZ p l e R s m args below meth c D n0 N nL cells slots Q (κ, μ, o) pc ls (.long x :: .int 0 :: .ref (n0 + 126) :: st) := fun H locs lsA hP hS hl => by
  refine va_last C.1 C.2.1 C.2.2.2.2.2.1 hP wl_D hS 126 3 (f := vp_updL (fun _ => 0) 0 o) (n := 1) (by rw [wl_get hN, enc_126]) rfl (by rw [← nI_0]; exact vp_in_nI (by decide) (by decide)) hd ?_
  refine fun H1 locs1 hP1 hD1 hS1 => kk H1 locs1 lsA ?_ hS1 hl
  rw [← wl_set (σ := (κ, μ, o)) (σ' := (κ, μ, x)) (k := 126) (x := .inl (D.2.2.2.2, 1, .inr (.inl (vp_updL (vp_updL (fun _ => 0) 0 o) 0 x)))) ?_ (fun j hj => enc_uo hj)]
  · exact hP1
  · rw [enc_126]
    have h3 : vp_updL (vp_updL (fun _ => 0) 0 o) 0 x = vp_updL (fun _ => 0) 0 x := by
      funext j
      unfold vp_updL
      by_cases hj : j = 0
      · rw [if_pos hj, if_pos hj]
      · rw [if_neg hj, if_neg hj, if_neg hj]
    rw [h3]
theorem z_alen (C : Cx p l s m args meth c D n0 own cc nL) {k : Nat} {cA : ClassId} {x : vp_A} {ty : FieldType} {v : Int32} (t0 : Nat) (he : enc D n0 σ k = .inl (cA, x)) (ht : (tyl D)[t0]? = some (cA, ty)) (hk : k < N) (hv : Int32.ofNat x.1 = v) (hd : decode cc pc = .ok (.arraylength, 1)) (kk : ZZ p l e R s m args below meth c D n0 N nL cells slots Q σ (pc + 1) ls (.int v :: st)) : ZZ p l e R s m args below meth c D n0 N nL cells slots Q σ pc ls (.ref (n0 + k) :: st) := fun H locs lsA hP hS hl => va_alen C.1 C.2.1 C.2.2.2.2.2.1 hP k t0 (by rw [wl_get hk, he]) ht hv hd (kk H locs lsA hP hS hl)
theorem z_aldV (C : Cx p l s m args meth c D n0 own cc nL) {b : Nat} {i : Int32} {κ μ : KH} {o : Int64} (j : Nat) (hb : isS b) (hk : b + 1 < N) (hij : i = nI j) (hj : j < 16) (hd : decode cc pc = .ok (.aaload, 1)) (kk : ZZ p l e R s m args below meth c D n0 N nL cells slots Q (κ, μ, o) (pc + 1) ls (.ref (n0 + (b + 2 + 2 * j)) :: st)) : ZZ p l e R s m args below meth c D n0 N nL cells slots Q (κ, μ, o) pc ls (.int i :: .ref (n0 + (b + 1)) :: st) := fun H locs lsA hP hS hl => by
  subst hij
  refine va_aldq C.1 C.2.1 C.2.2.2.2.2.1 hP (b + 1) 2 (by rw [wl_get hk, enc_SV hb]) rfl (vp_in_nI hj (by decide)) hd ?_
  rw [nI_clamp (by omega)]
  exact kk H locs lsA hP hS hl
end ROWS
end
