section
-- ===== PART A: goes FIRST, ahead of the names: the tables' words, and 'selects' of the private methods out of them =====
/-- a private method of a class that the tables say can be made, by its rows of tables_1 -/
def lw_okq (q : MethodName × Nat) : Prop := (q.1.cls ≠ "java/lang/invoke/MethodHandle" ∧ q.1.cls ≠ "java/lang/invoke/VarHandle") ∧ Cond.instantiable q.1.cls q.2 ∈ tables_1 ∧ Cond.privateMethod q.1 ∈ tables_1 ∧ Cond.instanceMethod q.1 ∈ tables_1
theorem lw_p0 : lw_okq (⟨"KeyRing", "isIdealMember", "(I)Z"⟩, 12) := ⟨⟨by decide +kernel, by decide +kernel⟩, List.mem_of_getElem? (i := 14) (by decide +kernel), List.mem_of_getElem? (i := 105) (by decide +kernel), List.mem_of_getElem? (i := 106) (by decide +kernel)⟩
theorem lw_p1 : lw_okq (⟨"KeyRing", "livePointInTurn", "(I)I"⟩, 12) := ⟨⟨by decide +kernel, by decide +kernel⟩, List.mem_of_getElem? (i := 14) (by decide +kernel), List.mem_of_getElem? (i := 109) (by decide +kernel), List.mem_of_getElem? (i := 110) (by decide +kernel)⟩
theorem lw_p2 : lw_okq (⟨"java/lang/Throwable", "fillInStackTrace", "(I)Ljava/lang/Throwable;"⟩, 6) := ⟨⟨by decide +kernel, by decide +kernel⟩, List.mem_of_getElem? (i := 163) (by decide +kernel), List.mem_of_getElem? (i := 161) (by decide +kernel), List.mem_of_getElem? (i := 162) (by decide +kernel)⟩
theorem lw_p3 : lw_okq (⟨"KeyRing", "requireRoomAt", "(I)V"⟩, 12) := ⟨⟨by decide +kernel, by decide +kernel⟩, List.mem_of_getElem? (i := 14) (by decide +kernel), List.mem_of_getElem? (i := 224) (by decide +kernel), List.mem_of_getElem? (i := 225) (by decide +kernel)⟩
theorem lw_p4 : lw_okq (⟨"KeyRing", "addMember", "(I)LKeyRing$Member;"⟩, 12) := ⟨⟨by decide +kernel, by decide +kernel⟩, List.mem_of_getElem? (i := 14) (by decide +kernel), List.mem_of_getElem? (i := 230) (by decide +kernel), List.mem_of_getElem? (i := 231) (by decide +kernel)⟩
theorem lw_p5 : lw_okq (⟨"KeyRing", "find", "(I)LKeyRing$Member;"⟩, 12) := ⟨⟨by decide +kernel, by decide +kernel⟩, List.mem_of_getElem? (i := 14) (by decide +kernel), List.mem_of_getElem? (i := 257) (by decide +kernel), List.mem_of_getElem? (i := 258) (by decide +kernel)⟩
theorem lw_p6 : lw_okq (⟨"KeyRing", "liveAt", "(I)LKeyRing$Member;"⟩, 12) := ⟨⟨by decide +kernel, by decide +kernel⟩, List.mem_of_getElem? (i := 14) (by decide +kernel), List.mem_of_getElem? (i := 261) (by decide +kernel), List.mem_of_getElem? (i := 262) (by decide +kernel)⟩
theorem lw_p7 : lw_okq (⟨"KeyRing", "lookFor", "(LKeyRing$Member;I)LKeyRing$Member;"⟩, 12) := ⟨⟨by decide +kernel, by decide +kernel⟩, List.mem_of_getElem? (i := 14) (by decide +kernel), List.mem_of_getElem? (i := 281) (by decide +kernel), List.mem_of_getElem? (i := 282) (by decide +kernel)⟩
theorem lw_p8 : lw_okq (⟨"KeyRing", "ownerKnownBy", "(LKeyRing$Member;I)LKeyRing$Member;"⟩, 12) := ⟨⟨by decide +kernel, by decide +kernel⟩, List.mem_of_getElem? (i := 14) (by decide +kernel), List.mem_of_getElem? (i := 285) (by decide +kernel), List.mem_of_getElem? (i := 286) (by decide +kernel)⟩
theorem lw_p9 : lw_okq (⟨"KeyRing", "successor", "(LKeyRing$Member;)LKeyRing$Member;"⟩, 12) := ⟨⟨by decide +kernel, by decide +kernel⟩, List.mem_of_getElem? (i := 14) (by decide +kernel), List.mem_of_getElem? (i := 289) (by decide +kernel), List.mem_of_getElem? (i := 290) (by decide +kernel)⟩
theorem lw_p10 : lw_okq (⟨"KeyRing", "lastKnownAheadOf", "(LKeyRing$Member;I)LKeyRing$Member;"⟩, 12) := ⟨⟨by decide +kernel, by decide +kernel⟩, List.mem_of_getElem? (i := 14) (by decide +kernel), List.mem_of_getElem? (i := 299) (by decide +kernel), List.mem_of_getElem? (i := 300) (by decide +kernel)⟩
theorem lw_p11 : lw_okq (⟨"KeyRing", "takeOver", "(LKeyRing$Member;LKeyRing$Member;)V"⟩, 12) := ⟨⟨by decide +kernel, by decide +kernel⟩, List.mem_of_getElem? (i := 14) (by decide +kernel), List.mem_of_getElem? (i := 303) (by decide +kernel), List.mem_of_getElem? (i := 304) (by decide +kernel)⟩
theorem lw_p12 : lw_okq (⟨"KeyRing", "knowsLiveOneBeside", "(LKeyRing$Member;LKeyRing$Member;)Z"⟩, 12) := ⟨⟨by decide +kernel, by decide +kernel⟩, List.mem_of_getElem? (i := 14) (by decide +kernel), List.mem_of_getElem? (i := 315) (by decide +kernel), List.mem_of_getElem? (i := 316) (by decide +kernel)⟩
theorem lw_p13 : lw_okq (⟨"KeyRing", "removeMember", "(LKeyRing$Member;)V"⟩, 12) := ⟨⟨by decide +kernel, by decide +kernel⟩, List.mem_of_getElem? (i := 14) (by decide +kernel), List.mem_of_getElem? (i := 320) (by decide +kernel), List.mem_of_getElem? (i := 321) (by decide +kernel)⟩
theorem lw_p14 : lw_okq (⟨"KeyRing", "stabiliseMember", "(LKeyRing$Member;)V"⟩, 12) := ⟨⟨by decide +kernel, by decide +kernel⟩, List.mem_of_getElem? (i := 14) (by decide +kernel), List.mem_of_getElem? (i := 331) (by decide +kernel), List.mem_of_getElem? (i := 332) (by decide +kernel)⟩
theorem lw_p15 : lw_okq (⟨"KeyRing", "tell", "(LKeyRing$Member;LKeyRing$Member;)V"⟩, 12) := ⟨⟨by decide +kernel, by decide +kernel⟩, List.mem_of_getElem? (i := 14) (by decide +kernel), List.mem_of_getElem? (i := 335) (by decide +kernel), List.mem_of_getElem? (i := 336) (by decide +kernel)⟩
def lw_privs_1 : List (MethodName × Nat) := [(⟨"KeyRing", "isIdealMember", "(I)Z"⟩, 12), (⟨"KeyRing", "livePointInTurn", "(I)I"⟩, 12), (⟨"java/lang/Throwable", "fillInStackTrace", "(I)Ljava/lang/Throwable;"⟩, 6), (⟨"KeyRing", "requireRoomAt", "(I)V"⟩, 12), (⟨"KeyRing", "addMember", "(I)LKeyRing$Member;"⟩, 12), (⟨"KeyRing", "find", "(I)LKeyRing$Member;"⟩, 12), (⟨"KeyRing", "liveAt", "(I)LKeyRing$Member;"⟩, 12), (⟨"KeyRing", "lookFor", "(LKeyRing$Member;I)LKeyRing$Member;"⟩, 12), (⟨"KeyRing", "ownerKnownBy", "(LKeyRing$Member;I)LKeyRing$Member;"⟩, 12), (⟨"KeyRing", "successor", "(LKeyRing$Member;)LKeyRing$Member;"⟩, 12), (⟨"KeyRing", "lastKnownAheadOf", "(LKeyRing$Member;I)LKeyRing$Member;"⟩, 12), (⟨"KeyRing", "takeOver", "(LKeyRing$Member;LKeyRing$Member;)V"⟩, 12), (⟨"KeyRing", "knowsLiveOneBeside", "(LKeyRing$Member;LKeyRing$Member;)Z"⟩, 12), (⟨"KeyRing", "removeMember", "(LKeyRing$Member;)V"⟩, 12), (⟨"KeyRing", "stabiliseMember", "(LKeyRing$Member;)V"⟩, 12), (⟨"KeyRing", "tell", "(LKeyRing$Member;LKeyRing$Member;)V"⟩, 12)]
theorem lw_r1 : ∀ q ∈ lw_privs_1, lw_okq q := List.forall_mem_cons.mpr ⟨lw_p0, List.forall_mem_cons.mpr ⟨lw_p1, List.forall_mem_cons.mpr ⟨lw_p2, List.forall_mem_cons.mpr ⟨lw_p3, List.forall_mem_cons.mpr ⟨lw_p4, List.forall_mem_cons.mpr ⟨lw_p5, List.forall_mem_cons.mpr ⟨lw_p6, List.forall_mem_cons.mpr ⟨lw_p7, List.forall_mem_cons.mpr ⟨lw_p8, List.forall_mem_cons.mpr ⟨lw_p9, List.forall_mem_cons.mpr ⟨lw_p10, List.forall_mem_cons.mpr ⟨lw_p11, List.forall_mem_cons.mpr ⟨lw_p12, List.forall_mem_cons.mpr ⟨lw_p13, List.forall_mem_cons.mpr ⟨lw_p14, List.forall_mem_cons.mpr ⟨lw_p15, fun _ h => absurd h List.not_mem_nil⟩⟩⟩⟩⟩⟩⟩⟩⟩⟩⟩⟩⟩⟩⟩⟩
theorem lw_p16 : lw_okq (⟨"KeyRing", "mendFinger", "(LKeyRing$Member;I)V"⟩, 12) := ⟨⟨by decide +kernel, by decide +kernel⟩, List.mem_of_getElem? (i := 14) (by decide +kernel), List.mem_of_getElem? (i := 347) (by decide +kernel), List.mem_of_getElem? (i := 348) (by decide +kernel)⟩
theorem lw_p17 : lw_okq (⟨"KeyRing", "takeFromSuccessor", "(LKeyRing$Member;)I"⟩, 12) := ⟨⟨by decide +kernel, by decide +kernel⟩, List.mem_of_getElem? (i := 14) (by decide +kernel), List.mem_of_getElem? (i := 361) (by decide +kernel), List.mem_of_getElem? (i := 362) (by decide +kernel)⟩
theorem lw_p18 : lw_okq (⟨"KeyRing", "spreadFrom", "(LKeyRing$Member;)I"⟩, 12) := ⟨⟨by decide +kernel, by decide +kernel⟩, List.mem_of_getElem? (i := 14) (by decide +kernel), List.mem_of_getElem? (i := 384) (by decide +kernel), List.mem_of_getElem? (i := 385) (by decide +kernel)⟩
theorem lw_p19 : lw_okq (⟨"KeyRing", "copyToList", "(LKeyRing$Member;I)I"⟩, 12) := ⟨⟨by decide +kernel, by decide +kernel⟩, List.mem_of_getElem? (i := 14) (by decide +kernel), List.mem_of_getElem? (i := 388) (by decide +kernel), List.mem_of_getElem? (i := 389) (by decide +kernel)⟩
theorem lw_p20 : lw_okq (⟨"KeyRing", "takeTurn", "(LKeyRing$Member;)I"⟩, 12) := ⟨⟨by decide +kernel, by decide +kernel⟩, List.mem_of_getElem? (i := 14) (by decide +kernel), List.mem_of_getElem? (i := 401) (by decide +kernel), List.mem_of_getElem? (i := 402) (by decide +kernel)⟩
theorem lw_p21 : lw_okq (⟨"KeyRing", "highestInList", "(LKeyRing$Member;I)LKeyRing$Member;"⟩, 12) := ⟨⟨by decide +kernel, by decide +kernel⟩, List.mem_of_getElem? (i := 14) (by decide +kernel), List.mem_of_getElem? (i := 442) (by decide +kernel), List.mem_of_getElem? (i := 443) (by decide +kernel)⟩
theorem lw_p22 : lw_okq (⟨"KeyRing", "trueOwner", "(I)I"⟩, 12) := ⟨⟨by decide +kernel, by decide +kernel⟩, List.mem_of_getElem? (i := 14) (by decide +kernel), List.mem_of_getElem? (i := 469) (by decide +kernel), List.mem_of_getElem? (i := 470) (by decide +kernel)⟩
theorem lw_p23 : lw_okq (⟨"KeyRing", "countPairs", "()I"⟩, 12) := ⟨⟨by decide +kernel, by decide +kernel⟩, List.mem_of_getElem? (i := 14) (by decide +kernel), List.mem_of_getElem? (i := 480) (by decide +kernel), List.mem_of_getElem? (i := 481) (by decide +kernel)⟩
theorem lw_p24 : lw_okq (⟨"KeyRing", "countTrueFingers", "()I"⟩, 12) := ⟨⟨by decide +kernel, by decide +kernel⟩, List.mem_of_getElem? (i := 14) (by decide +kernel), List.mem_of_getElem? (i := 484) (by decide +kernel), List.mem_of_getElem? (i := 485) (by decide +kernel)⟩
theorem lw_p25 : lw_okq (⟨"KeyRing", "countTrueSuccessors", "()I"⟩, 12) := ⟨⟨by decide +kernel, by decide +kernel⟩, List.mem_of_getElem? (i := 14) (by decide +kernel), List.mem_of_getElem? (i := 488) (by decide +kernel), List.mem_of_getElem? (i := 489) (by decide +kernel)⟩
theorem lw_p26 : lw_okq (⟨"KeyRingModel", "many", "()I"⟩, 17) := ⟨⟨by decide +kernel, by decide +kernel⟩, List.mem_of_getElem? (i := 493) (by decide +kernel), List.mem_of_getElem? (i := 559) (by decide +kernel), List.mem_of_getElem? (i := 560) (by decide +kernel)⟩
theorem lw_p27 : lw_okq (⟨"KeyRingModel", "goes", "(ZZZ)Z"⟩, 17) := ⟨⟨by decide +kernel, by decide +kernel⟩, List.mem_of_getElem? (i := 493) (by decide +kernel), List.mem_of_getElem? (i := 563) (by decide +kernel), List.mem_of_getElem? (i := 564) (by decide +kernel)⟩
theorem lw_p28 : lw_okq (⟨"KeyRingModel", "empty", "(I)V"⟩, 17) := ⟨⟨by decide +kernel, by decide +kernel⟩, List.mem_of_getElem? (i := 493) (by decide +kernel), List.mem_of_getElem? (i := 578) (by decide +kernel), List.mem_of_getElem? (i := 579) (by decide +kernel)⟩
theorem lw_p29 : lw_okq (⟨"KeyRingModel", "next", "(I)I"⟩, 17) := ⟨⟨by decide +kernel, by decide +kernel⟩, List.mem_of_getElem? (i := 493) (by decide +kernel), List.mem_of_getElem? (i := 582) (by decide +kernel), List.mem_of_getElem? (i := 583) (by decide +kernel)⟩
theorem lw_p30 : lw_okq (⟨"KeyRingModel", "last", "(I)I"⟩, 17) := ⟨⟨by decide +kernel, by decide +kernel⟩, List.mem_of_getElem? (i := 493) (by decide +kernel), List.mem_of_getElem? (i := 586) (by decide +kernel), List.mem_of_getElem? (i := 587) (by decide +kernel)⟩
theorem lw_p31 : lw_okq (⟨"KeyRingModel", "member", "(I)Z"⟩, 17) := ⟨⟨by decide +kernel, by decide +kernel⟩, List.mem_of_getElem? (i := 493) (by decide +kernel), List.mem_of_getElem? (i := 594) (by decide +kernel), List.mem_of_getElem? (i := 595) (by decide +kernel)⟩
def lw_privs_2 : List (MethodName × Nat) := [(⟨"KeyRing", "mendFinger", "(LKeyRing$Member;I)V"⟩, 12), (⟨"KeyRing", "takeFromSuccessor", "(LKeyRing$Member;)I"⟩, 12), (⟨"KeyRing", "spreadFrom", "(LKeyRing$Member;)I"⟩, 12), (⟨"KeyRing", "copyToList", "(LKeyRing$Member;I)I"⟩, 12), (⟨"KeyRing", "takeTurn", "(LKeyRing$Member;)I"⟩, 12), (⟨"KeyRing", "highestInList", "(LKeyRing$Member;I)LKeyRing$Member;"⟩, 12), (⟨"KeyRing", "trueOwner", "(I)I"⟩, 12), (⟨"KeyRing", "countPairs", "()I"⟩, 12), (⟨"KeyRing", "countTrueFingers", "()I"⟩, 12), (⟨"KeyRing", "countTrueSuccessors", "()I"⟩, 12), (⟨"KeyRingModel", "many", "()I"⟩, 17), (⟨"KeyRingModel", "goes", "(ZZZ)Z"⟩, 17), (⟨"KeyRingModel", "empty", "(I)V"⟩, 17), (⟨"KeyRingModel", "next", "(I)I"⟩, 17), (⟨"KeyRingModel", "last", "(I)I"⟩, 17), (⟨"KeyRingModel", "member", "(I)Z"⟩, 17)]
theorem lw_r2 : ∀ q ∈ lw_privs_2, lw_okq q := List.forall_mem_cons.mpr ⟨lw_p16, List.forall_mem_cons.mpr ⟨lw_p17, List.forall_mem_cons.mpr ⟨lw_p18, List.forall_mem_cons.mpr ⟨lw_p19, List.forall_mem_cons.mpr ⟨lw_p20, List.forall_mem_cons.mpr ⟨lw_p21, List.forall_mem_cons.mpr ⟨lw_p22, List.forall_mem_cons.mpr ⟨lw_p23, List.forall_mem_cons.mpr ⟨lw_p24, List.forall_mem_cons.mpr ⟨lw_p25, List.forall_mem_cons.mpr ⟨lw_p26, List.forall_mem_cons.mpr ⟨lw_p27, List.forall_mem_cons.mpr ⟨lw_p28, List.forall_mem_cons.mpr ⟨lw_p29, List.forall_mem_cons.mpr ⟨lw_p30, List.forall_mem_cons.mpr ⟨lw_p31, fun _ h => absurd h List.not_mem_nil⟩⟩⟩⟩⟩⟩⟩⟩⟩⟩⟩⟩⟩⟩⟩⟩
theorem lw_p32 : lw_okq (⟨"KeyRingModel", "live", "(I)Z"⟩, 17) := ⟨⟨by decide +kernel, by decide +kernel⟩, List.mem_of_getElem? (i := 493) (by decide +kernel), List.mem_of_getElem? (i := 598) (by decide +kernel), List.mem_of_getElem? (i := 599) (by decide +kernel)⟩
theorem lw_p33 : lw_okq (⟨"KeyRingModel", "lookFor", "(II)I"⟩, 17) := ⟨⟨by decide +kernel, by decide +kernel⟩, List.mem_of_getElem? (i := 493) (by decide +kernel), List.mem_of_getElem? (i := 602) (by decide +kernel), List.mem_of_getElem? (i := 603) (by decide +kernel)⟩
theorem lw_p34 : lw_okq (⟨"KeyRingModel", "successor", "(I)I"⟩, 17) := ⟨⟨by decide +kernel, by decide +kernel⟩, List.mem_of_getElem? (i := 493) (by decide +kernel), List.mem_of_getElem? (i := 606) (by decide +kernel), List.mem_of_getElem? (i := 607) (by decide +kernel)⟩
theorem lw_p35 : lw_okq (⟨"KeyRingModel", "later", "(IIII)I"⟩, 17) := ⟨⟨by decide +kernel, by decide +kernel⟩, List.mem_of_getElem? (i := 493) (by decide +kernel), List.mem_of_getElem? (i := 616) (by decide +kernel), List.mem_of_getElem? (i := 617) (by decide +kernel)⟩
theorem lw_p36 : lw_okq (⟨"KeyRingModel", "takeOver", "(II)V"⟩, 17) := ⟨⟨by decide +kernel, by decide +kernel⟩, List.mem_of_getElem? (i := 493) (by decide +kernel), List.mem_of_getElem? (i := 620) (by decide +kernel), List.mem_of_getElem? (i := 621) (by decide +kernel)⟩
theorem lw_p37 : lw_okq (⟨"KeyRingModel", "without", "(I)Z"⟩, 17) := ⟨⟨by decide +kernel, by decide +kernel⟩, List.mem_of_getElem? (i := 493) (by decide +kernel), List.mem_of_getElem? (i := 628) (by decide +kernel), List.mem_of_getElem? (i := 629) (by decide +kernel)⟩
theorem lw_p38 : lw_okq (⟨"KeyRingModel", "stable", "(I)I"⟩, 17) := ⟨⟨by decide +kernel, by decide +kernel⟩, List.mem_of_getElem? (i := 493) (by decide +kernel), List.mem_of_getElem? (i := 636) (by decide +kernel), List.mem_of_getElem? (i := 637) (by decide +kernel)⟩
theorem lw_p39 : lw_okq (⟨"KeyRingModel", "mended", "(II)I"⟩, 17) := ⟨⟨by decide +kernel, by decide +kernel⟩, List.mem_of_getElem? (i := 493) (by decide +kernel), List.mem_of_getElem? (i := 644) (by decide +kernel), List.mem_of_getElem? (i := 645) (by decide +kernel)⟩
theorem lw_p40 : lw_okq (⟨"KeyRingModel", "handed", "(I)I"⟩, 17) := ⟨⟨by decide +kernel, by decide +kernel⟩, List.mem_of_getElem? (i := 493) (by decide +kernel), List.mem_of_getElem? (i := 652) (by decide +kernel), List.mem_of_getElem? (i := 653) (by decide +kernel)⟩
theorem lw_p41 : lw_okq (⟨"KeyRingModel", "belongs", "(II)Z"⟩, 17) := ⟨⟨by decide +kernel, by decide +kernel⟩, List.mem_of_getElem? (i := 493) (by decide +kernel), List.mem_of_getElem? (i := 656) (by decide +kernel), List.mem_of_getElem? (i := 657) (by decide +kernel)⟩
theorem lw_p42 : lw_okq (⟨"KeyRingModel", "higher", "(II)Z"⟩, 17) := ⟨⟨by decide +kernel, by decide +kernel⟩, List.mem_of_getElem? (i := 493) (by decide +kernel), List.mem_of_getElem? (i := 663) (by decide +kernel), List.mem_of_getElem? (i := 664) (by decide +kernel)⟩
theorem lw_p43 : lw_okq (⟨"KeyRingModel", "copy", "(II)V"⟩, 17) := ⟨⟨by decide +kernel, by decide +kernel⟩, List.mem_of_getElem? (i := 493) (by decide +kernel), List.mem_of_getElem? (i := 667) (by decide +kernel), List.mem_of_getElem? (i := 668) (by decide +kernel)⟩
theorem lw_p44 : lw_okq (⟨"KeyRingModel", "spreadFrom", "(I)I"⟩, 17) := ⟨⟨by decide +kernel, by decide +kernel⟩, List.mem_of_getElem? (i := 493) (by decide +kernel), List.mem_of_getElem? (i := 675) (by decide +kernel), List.mem_of_getElem? (i := 676) (by decide +kernel)⟩
theorem lw_p45 : lw_okq (⟨"KeyRingModel", "give", "(II)I"⟩, 17) := ⟨⟨by decide +kernel, by decide +kernel⟩, List.mem_of_getElem? (i := 493) (by decide +kernel), List.mem_of_getElem? (i := 679) (by decide +kernel), List.mem_of_getElem? (i := 680) (by decide +kernel)⟩
theorem lw_p46 : lw_okq (⟨"KeyRingModel", "sum", "(I)I"⟩, 17) := ⟨⟨by decide +kernel, by decide +kernel⟩, List.mem_of_getElem? (i := 493) (by decide +kernel), List.mem_of_getElem? (i := 726) (by decide +kernel), List.mem_of_getElem? (i := 727) (by decide +kernel)⟩
def lw_privs_3 : List (MethodName × Nat) := [(⟨"KeyRingModel", "live", "(I)Z"⟩, 17), (⟨"KeyRingModel", "lookFor", "(II)I"⟩, 17), (⟨"KeyRingModel", "successor", "(I)I"⟩, 17), (⟨"KeyRingModel", "later", "(IIII)I"⟩, 17), (⟨"KeyRingModel", "takeOver", "(II)V"⟩, 17), (⟨"KeyRingModel", "without", "(I)Z"⟩, 17), (⟨"KeyRingModel", "stable", "(I)I"⟩, 17), (⟨"KeyRingModel", "mended", "(II)I"⟩, 17), (⟨"KeyRingModel", "handed", "(I)I"⟩, 17), (⟨"KeyRingModel", "belongs", "(II)Z"⟩, 17), (⟨"KeyRingModel", "higher", "(II)Z"⟩, 17), (⟨"KeyRingModel", "copy", "(II)V"⟩, 17), (⟨"KeyRingModel", "spreadFrom", "(I)I"⟩, 17), (⟨"KeyRingModel", "give", "(II)I"⟩, 17), (⟨"KeyRingModel", "sum", "(I)I"⟩, 17)]
theorem lw_r3 : ∀ q ∈ lw_privs_3, lw_okq q := List.forall_mem_cons.mpr ⟨lw_p32, List.forall_mem_cons.mpr ⟨lw_p33, List.forall_mem_cons.mpr ⟨lw_p34, List.forall_mem_cons.mpr ⟨lw_p35, List.forall_mem_cons.mpr ⟨lw_p36, List.forall_mem_cons.mpr ⟨lw_p37, List.forall_mem_cons.mpr ⟨lw_p38, List.forall_mem_cons.mpr ⟨lw_p39, List.forall_mem_cons.mpr ⟨lw_p40, List.forall_mem_cons.mpr ⟨lw_p41, List.forall_mem_cons.mpr ⟨lw_p42, List.forall_mem_cons.mpr ⟨lw_p43, List.forall_mem_cons.mpr ⟨lw_p44, List.forall_mem_cons.mpr ⟨lw_p45, List.forall_mem_cons.mpr ⟨lw_p46, fun _ h => absurd h List.not_mem_nil⟩⟩⟩⟩⟩⟩⟩⟩⟩⟩⟩⟩⟩⟩⟩
def lw_privs : List (MethodName × Nat) := lw_privs_1 ++ (lw_privs_2 ++ (lw_privs_3))
def lw_tbl : List Cond := k2_sels lw_privs ++ tables_1
theorem lw_privs_ok : ∀ q ∈ lw_privs, lw_okq q := by
  show ∀ q ∈ lw_privs_1 ++ (lw_privs_2 ++ (lw_privs_3)), lw_okq q
  exact List.forall_mem_append.mpr ⟨lw_r1, List.forall_mem_append.mpr ⟨lw_r2, lw_r3⟩⟩
-- ===== end of PART A; then your names; then what follows =====
end
section
/-! ===== BEGIN words of one list among another's, by their places ===== -/
theorem goodIn_r {big : List Cond} (ws : List Cond) (ps : List Nat) (hp : ws = ps.filterMap (fun i => big[i]?)) (h : ws.all goodWord = true) : GoodIn big ws := by
  intro w hw
  have h1 := List.all_eq_true.mp h w hw
  rw [hp] at hw
  obtain ⟨i, -, hi⟩ := List.mem_filterMap.mp hw
  have hm : w ∈ big := by first | exact List.mem_of_getElem? hi | exact List.getElem?_mem hi
  exact ⟨hm, good_of_word h1⟩
theorem goodIn_app {big a b : List Cond} (ha : GoodIn big a) (hb : GoodIn big b) : GoodIn big (a ++ b) := fun w h => (List.mem_append.mp h).elim (ha w) (hb w)
theorem goodIn_ca {big a b : List Cond} {c : Cond} (ha : GoodIn big (c :: a)) (hb : GoodIn big b) : GoodIn big (c :: (a ++ b)) := fun w h => (List.mem_cons.mp h).elim (fun e => ha w (List.mem_cons.mpr (Or.inl e))) (fun h => (List.mem_append.mp h).elim (fun h => ha w (List.mem_cons.mpr (Or.inr h))) (hb w))
theorem goodIn_sub {big ws : List Cond} (hm : ∀ w ∈ ws, w ∈ big) (h : ws.all goodWord = true) : GoodIn big ws := fun w hw => ⟨hm w hw, good_of_word (List.all_eq_true.mp h w hw)⟩
/-! ===== END ===== -/

/-! ===== BEGIN exceptions that leave a method, and their catching by the caller (launches without stack traces) ===== -/
section VXA
/-! The laws vx_back, vx_callV, vx_callS, vx_callSW, vx_throw0, vx_throwS follow proofs of the library, with one case more: JvmDerived/Free/Laws.lean (Back.of_free), Shelf42/LK1.lean (callV, callS), Shelf/KitTraced.lean (throwNew0V, throwNewS). -/
/-- where a method has thrown q: the class by its name, the cell, what was written, the world -/
def vx_T (XC : String → State → State → Prop) (st : State) (q : Addr) (t : State) (mc ms : Nat) (free : Addr → Prop) : Prop :=
  ∃ (E : String) (ce : Cell) (L : List Loc), XC E st t ∧ t.heap[q]? = some ce ∧ ce.vm = .none ∧ st.vm.findClass E = some ce.cls ∧ st.WarmedH t.vm ∧ st.sameButNew ({ t with vm := st.vm } : State) L mc ms ∧ ∀ z ∈ L, free z.base
def vx_Q (Qc : Array Value → State → Outcome → State → Prop) (XC : String → State → State → Prop) (mc ms : Nat) (free : Addr → Prop) : Array Value → State → Outcome → State → Prop := fun a st o t =>
  (Qc a st o t ∧ ∃ L, FrameEnd st o t L mc ms ∧ ∀ q ∈ L, free q.base) ∨ ∃ q, o = .threw q ∧ vx_T XC st q t mc ms free
/-- a callee that returns or throws -/
def vx_Met (l : Launch) (y : MethodName) (ws : List Cond) (rm : Room) (Pc : Array Value → State → Prop) (Qc : Array Value → State → Outcome → State → Prop) (XC : String → State → State → Prop) (mc ms : Nat) (free : Addr → Prop) : Prop :=
  MetFree l y (headSpec ws rm) Pc (fun _ _ _ _ _ => True) (vx_Q Qc XC mc ms free)
def vx_Post (XC : String → State → State → Prop) (mc ms : Nat) (free : Addr → Prop) : Pt → Array Value → Addr → Pt → Prop := fun A a q B =>
  ∃ (g : JFrame) (mk : MethodId) (t : State) (L : List Loc) (E : String) (ce : Cell), B.U.heap = t.heap ∧ B.U.vm = t.vm ∧ XC E (A.U.calling g mk a) t ∧ t.heap[q]? = some ce ∧ ce.vm = .none ∧ A.U.vm.findClass E = some ce.cls ∧ B.locs = A.locs ++ L ∧ (∀ z ∈ L, free z.base) ∧ B.cells = A.cells + mc ∧ B.slots = A.slots + ms
def vx_Back (l : Launch) (R : Room) (p : Program) (e : Env) (below : List Frame) (s : State) (sargs : Array Value) (y : MethodName) (len W9 : Nat)
    (Pre : Pt → Array Value → Prop) (Post : Pt → Array Value → Option Value → Pt → Prop) (PostX : Pt → Array Value → Addr → Pt → Prop) : Prop :=
  ∀ (m : MethodId) (meth : Method) (c : Code) (A : Pt) (g : JFrame) (ig : Instr) (mk : MethodId) (a : Array Value),
    Stand p l e R s m sargs below meth c A.U A.locs A.cells A.slots → g.method = m → g.locals.size = c.maxLocals → decode c.code g.pc = .ok (ig, len) →
    2 * g.monitorRoom + (g.stack.map fun v => v.category).sum ≤ W9 → A.U.methodNamed? y = some mk → Pre A a →
    (∃ (v : Option Value) (B : Pt), Stand p l e R s m sargs below meth c B.U B.locs B.cells B.slots ∧ Post A a v B ∧
      Steps p.tables e below (doInvoke e (A.U.setTop g) [] mk a).1 (B.U.setTop { g with pc := g.pc + len, stack := v.toList ++ g.stack })) ∨
    (∃ (q : Addr) (B : Pt), Stand p l e R s m sargs below meth c B.U B.locs B.cells B.slots ∧ PostX A a q B ∧
      Steps p.tables e below (doInvoke e (A.U.setTop g) [] mk a).1 ((B.U.setTop g).pushFrame (.throwing q)))
section Payer
variable {l : Launch} {R : Room} {p : Program} {e : Env} {below : List Frame} {s : State} {sargs : Array Value} {y : MethodName} {len W9 : Nat}
theorem vx_back {ws : List Cond} {rm : Room} {Pc : Array Value → State → Prop} {Qc : Array Value → State → Outcome → State → Prop} {XC : String → State → State → Prop} {mc ms : Nat} {free : Addr → Prop} {bytes : ByteArray} {maxL : Nat} {ret : Option FieldType}
    (hM : vx_Met l y ws rm Pc Qc XC mc ms free) (hblind : FrameBlind Pc) (hrc : rm.cells = mc) (hrs : rm.slots = ms)
    (hframes : rm.frames + 1 ≤ R.frames) (hlocals : W9 + (maxL + 11) + rm.locals ≤ R.locals)
    (hws : ∀ w ∈ ws, ∀ a' U, s.WarmedH U.vm → w.before a' U = true) (hcode : Cond.code y bytes maxL ret ∈ ws) (hinit : ∀ a' U, s.WarmedH U.vm → (Cond.initialized y.cls).before a' U = true) :
    vx_Back l R p e below s sargs y len W9 (PreOf R mc ms Pc) (PostOf Qc mc ms free) (vx_Post XC mc ms free) := by
  intro m meth c A g ig mk a X hg hsize hdg hW hn hp
  have h1 : (headSpec ws rm).pre.before a A.U = true := atoms_intro fun w hw => hws w hw _ _ X.warmed
  have h2 : (Cond.code y bytes maxL ret).before a A.U = true := hws _ hcode _ _ X.warmed
  have h3 : (Cond.initialized y.cls).before a A.U = true := hinit _ _ X.warmed
  have h4 : A.cells + (headSpec ws rm).room.cells ≤ R.cells := by rw [show (headSpec ws rm).room.cells = mc from hrc]; exact hp.1
  have h5 : A.slots + (headSpec ws rm).room.slots ≤ R.slots := by rw [show (headSpec ws rm).room.slots = ms from hrs]; exact hp.2.1
  have hPc : Pc a (A.U.calling g mk a) := hblind _ _ _ _ hp.2.2
  obtain ⟨U, Ls, c0, s0⟩ := A
  dsimp only [Pt.U, Pt.locs, Pt.cells, Pt.slots] at h1 h2 h3 h4 h5 X hn hPc ⊢
  obtain ⟨methY, cY, hmY, hcY, -, hlY, -, -, -, -⟩ := Cond.code_spec hn h2
  obtain ⟨kY, hkY, -⟩ := className_of_methodNamed hn
  have hinitY : kY.init = .initialized := Cond.initialized_spec (findClass_of_methodNamed hn) hkY h3
  have h : At U g.method c below := by rw [hg]; exact X.here
  have hlocals9 : W9 + (maxL + 11) + (headSpec ws rm).room.locals ≤ R.locals := hlocals
  have happ : (headSpec ws rm).appliesLoose y e.platform (U.calling g mk a) = true :=
    Spec.appliesLoose_calling (g := g) h hdg hn hkY hinitY
      (X.room_calling (g := g) (R' := (headSpec ws rm).room) hsize hmY hcY hframes (by rw [hlY]; omega) h4 h5) h1
  obtain ⟨mid, hmid⟩ := h.above
  have hfr : (U.setTop g).frames = (.java g :: mid) ++ below := by rw [State.frames_setTop' g h.top, hmid]; rfl
  obtain ⟨o, s₂, hsteps, -, hend, hq⟩ := Steps.callFree hM p X.admits X.cas X.clock (acts := []) hfr happ hPc trivial
  have hq' : vx_Q Qc XC mc ms free a (U.calling g mk a) o s₂ := hq
  rw [State.frames_setTop' g h.top] at hend
  obtain ⟨g₀, hg0⟩ := Option.isSome_iff_exists.mp h.top
  obtain ⟨r, hr⟩ := State.topJava?_eq_some.mp hg0
  have hr' : (({ U with heap := s₂.heap, slotsUsed := s₂.slotsUsed } : State).setVm s₂.vm).frames = .java g₀ :: r := hr
  rcases hq' with ⟨hqc, L, hfe, hL⟩ | ⟨q, rfl, E, ce, L, hx, hce, hcv, hcl, hW₂, hsm, hL⟩
  · obtain ⟨⟨v, rfl⟩, hW₂, e2, q2, q3, q4, q5, q6⟩ := id hfe
    have e3 : s₂ = ({ (U.calling g mk a).setFrames s₂.frames with heap := s₂.heap, slotsUsed := s₂.slotsUsed } : State).setVm s₂.vm := by
      have : s₂ = ({ s₂ with vm := (U.calling g mk a).vm } : State).setVm s₂.vm := rfl
      rw [e2] at this
      exact this
    obtain ⟨c₂, i₂, len₂, hc₂, hd₂, hf₂⟩ := hend
    have hW' : U.WarmedH s₂.vm := hW₂
    have hcc : c₂ = c := by
      have h1 : s₂.code? g.method = U.code? g.method := by
        rw [State.code?_eq, State.code?_eq, hW'.alike.method?]
      exact Option.some.inj (hc₂.symm.trans (h1.trans h.code))
    subst hcc
    have hlen : len₂ = len := by rw [hdg] at hd₂; cases hd₂; rfl
    subst hlen
    have hs₂ : s₂ = (({ U with heap := s₂.heap, slotsUsed := s₂.slotsUsed } : State).setVm s₂.vm).setTop { g with pc := g.pc + len₂, stack := v.toList ++ g.stack } := by
      refine e3.trans ?_
      rw [hf₂, State.calling_eq h.top, State.setFrames_setFrames, State.setTop_of_frames _ hr', hr]
      rfl
    have hsame : U.sameButNew ({ U with heap := s₂.heap, slotsUsed := s₂.slotsUsed } : State) L mc ms := by
      refine ⟨?_, q2, q3, q4, q5, q6⟩
      obtain ⟨t, ht, -⟩ := State.frames_cons hr
      show ({ U with heap := s₂.heap, slotsUsed := s₂.slotsUsed } : State) = { U.setFrames U.frames with heap := s₂.heap, slotsUsed := s₂.slotsUsed }
      rw [State.setFrames_self ht]
    subst hg
    refine Or.inl ⟨v, ⟨(({ U with heap := s₂.heap, slotsUsed := s₂.slotsUsed } : State).setVm s₂.vm), Ls ++ L, c0 + mc, s0 + ms⟩,
      ⟨X.admits, X.cas, X.clock, X.frames, X.room, X.hears, X.method, X.code, (X.here.setHeapUsed s₂.heap s₂.slotsUsed).setVm hW'.alike, X.tail, State.WarmedH.trans X.warmed hW', X.limits, X.bytes, X.same.trans (hsame.setVm s.vm)⟩,
      ⟨g, mk, s₂, L, rfl, rfl, hqc, rfl, hL, rfl, rfl⟩, ?_⟩
    show Steps p.tables e below _ ((({ U with heap := s₂.heap, slotsUsed := s₂.slotsUsed } : State).setVm s₂.vm).setTop { g with pc := g.pc + len₂, stack := v.toList ++ g.stack })
    rw [← hs₂]
    exact hsteps
  · obtain ⟨e2, q2, q3, q4, q5, q6⟩ := id hsm
    have e3 : s₂ = ({ (U.calling g mk a).setFrames s₂.frames with heap := s₂.heap, slotsUsed := s₂.slotsUsed } : State).setVm s₂.vm := by
      have : s₂ = ({ s₂ with vm := (U.calling g mk a).vm } : State).setVm s₂.vm := rfl
      rw [e2] at this
      exact this
    have hf₂ : s₂.frames = .throwing q :: .java g :: U.frames.tail := hend
    have hW' : U.WarmedH s₂.vm := hW₂
    have hs₂ : s₂ = ((({ U with heap := s₂.heap, slotsUsed := s₂.slotsUsed } : State).setVm s₂.vm).setTop g).pushFrame (.throwing q) := by
      refine e3.trans ?_
      rw [hf₂, State.calling_eq h.top, State.setFrames_setFrames, State.pushFrame, State.frames_setTop _ hr', State.setTop_of_frames _ hr', State.setFrames_setFrames, hr]
      rfl
    have hsame : U.sameButNew ({ U with heap := s₂.heap, slotsUsed := s₂.slotsUsed } : State) L mc ms := by
      refine ⟨?_, q2, q3, q4, q5, q6⟩
      obtain ⟨t, ht, -⟩ := State.frames_cons hr
      show ({ U with heap := s₂.heap, slotsUsed := s₂.slotsUsed } : State) = { U.setFrames U.frames with heap := s₂.heap, slotsUsed := s₂.slotsUsed }
      rw [State.setFrames_self ht]
    subst hg
    refine Or.inr ⟨q, ⟨(({ U with heap := s₂.heap, slotsUsed := s₂.slotsUsed } : State).setVm s₂.vm), Ls ++ L, c0 + mc, s0 + ms⟩,
      ⟨X.admits, X.cas, X.clock, X.frames, X.room, X.hears, X.method, X.code, (X.here.setHeapUsed s₂.heap s₂.slotsUsed).setVm hW'.alike, X.tail, State.WarmedH.trans X.warmed hW', X.limits, X.bytes, X.same.trans (hsame.setVm s.vm)⟩,
      ⟨g, mk, s₂, L, E, ce, rfl, rfl, hx, hce, hcv, hcl, rfl, hL, rfl, rfl⟩, ?_⟩
    show Steps p.tables e below _ (((({ U with heap := s₂.heap, slotsUsed := s₂.slotsUsed } : State).setVm s₂.vm).setTop g).pushFrame (.throwing q))
    rw [← hs₂]
    exact hsteps
end Payer
section Calls
variable {p : Program} {l : Launch} {e : Env} {R : Room} {s : State} {m : MethodId} {args : Array Value} {below : List Frame} {meth : Method} {c : Code} {T : State} {locs : List Loc} {cells slots : Nat}
theorem vx_callV (X : Stand p l e R s m args below meth c T locs cells slots) (hexec : p.tables.exec = Jvm.exec) {own C : String} {index : Nat} {y : MethodName} {bytes : ByteArray} {maxL : Nat} {ret : Option FieldType}
    (hown : s.vm.findClass own = some m.cls) (hlink : (Cond.methodLink own index y).before args s = true) (hinst : (Cond.instanceMethod y).before args s = true) (hsel : (Cond.selects C y y).before args s = true)
    (hcode : (Cond.code y bytes maxL ret).before args s = true) (hy : y.cls ≠ "java/lang/invoke/MethodHandle" ∧ y.cls ≠ "java/lang/invoke/VarHandle")
    {W9 : Nat} {Pre : Pt → Array Value → Prop} {Post : Pt → Array Value → Option Value → Pt → Prop} {PostX : Pt → Array Value → Addr → Pt → Prop} (hK : vx_Back l R p e below s args y 3 W9 Pre Post PostX)
    {b : Addr} {cellB : Cell} (hcell : T.heap[b]? = some cellB) (hobj : cellB.vm.isStatics = false) (hcls : s.vm.findClass C = some cellB.cls)
    {g : JFrame} (hg : g.method = m) (hsize : g.locals.size = c.maxLocals) {argsL rest : List Value} (hlen : ∀ sig, parseMethodDescriptor y.desc = some sig → argsL.length = sig.parameters.length)
    (hstack : g.stack = argsL.reverse ++ .ref b :: rest) (hW : 2 * g.monitorRoom + (rest.map fun v => v.category).sum ≤ W9) (hdg : decode c.code g.pc = .ok (.invokevirtual index, 3))
    (hpre : ∀ vm₁, s.WarmedH vm₁ → Pre ⟨T.setVm vm₁, locs, cells, slots⟩ (Value.ref b :: argsL).toArray) :
    (∃ (v : Option Value) (vm₁ : Vm) (B : Pt), s.WarmedH vm₁ ∧ Stand p l e R s m args below meth c B.U B.locs B.cells B.slots ∧ Post ⟨T.setVm vm₁, locs, cells, slots⟩ (Value.ref b :: argsL).toArray v B ∧
      ∀ target, Steps p.tables e below (B.U.setTop { g with pc := g.pc + 3, stack := v.toList ++ rest }) target → Steps p.tables e below (T.setTop g) target) ∨
    (∃ (q : Addr) (vm₁ : Vm) (B : Pt), s.WarmedH vm₁ ∧ Stand p l e R s m args below meth c B.U B.locs B.cells B.slots ∧ PostX ⟨T.setVm vm₁, locs, cells, slots⟩ (Value.ref b :: argsL).toArray q B ∧
      Steps p.tables e below (T.setTop g) ((B.U.setTop { g with stack := rest }).pushFrame (.throwing q))) := by
  obtain ⟨mk, methM, hnamed, hmethM, hstM, habM⟩ := Cond.instanceMethod_spec hinst
  obtain ⟨methM', cM, hmethM', -, -, -, -, -, -, hsigM⟩ := Cond.code_spec hnamed hcode
  cases hmethM.symm.trans hmethM'
  obtain ⟨c2, r2, m2, q1, q2, q3, q4, kP, hkP, hkPi⟩ := Cond.selects_spec hsel
  cases hcls.symm.trans q1
  cases (State.methodFound?_of_named hnamed hy).symm.trans q2
  cases hnamed.symm.trans q3
  have hselP : selectMethod e.platform s.vm cellB.cls mk = .method mk := by rw [Launch.admits_selectMethod X.admits]; exact q4
  obtain ⟨vm₁, X₁, hstep₁⟩ := X.invokevirtual hexec hown hlink hnamed hmethM hstM hkP hkPi hy (a := b) (cell := cellB) hcell
    (fun z h => by rw [h] at hobj; cases hobj) hselP hmethM habM hkP hkPi (g := g) hg (argsL := argsL) (rest := rest) (hlen _ hsigM) hstack hdg
  rcases hK m meth c ⟨T.setVm vm₁, locs, cells, slots⟩ { g with stack := rest } (.invokevirtual index) mk (Value.ref b :: argsL).toArray X₁ hg hsize hdg hW (X₁.named hnamed) (hpre vm₁ X₁.warmed) with ⟨v, B, X', hpost, hsteps⟩ | ⟨q, B, X', hpost, hsteps⟩
  · exact Or.inl ⟨v, vm₁, B, X₁.warmed, X', hpost, fun target h => hstep₁ _ fun acts => by rw [doInvoke_state]; exact hsteps.trans h⟩
  · exact Or.inr ⟨q, vm₁, B, X₁.warmed, X', hpost, hstep₁ _ fun acts => by rw [doInvoke_state]; exact hsteps⟩
theorem vx_callS (X : Stand p l e R s m args below meth c T locs cells slots) (hexec : p.tables.exec = Jvm.exec) {own : String} {index : Nat} {y : MethodName} {bytes : ByteArray} {maxL : Nat} {ret : Option FieldType}
    (hown : s.vm.findClass own = some m.cls) (hlink : (Cond.methodLink own index y).before args s = true) (hstat : (Cond.static y).before args s = true) (hinit : (Cond.initialized y.cls).before args s = true)
    (hcode : (Cond.code y bytes maxL ret).before args s = true) (hy : y.cls ≠ "java/lang/invoke/MethodHandle" ∧ y.cls ≠ "java/lang/invoke/VarHandle")
    {W9 : Nat} {Pre : Pt → Array Value → Prop} {Post : Pt → Array Value → Option Value → Pt → Prop} {PostX : Pt → Array Value → Addr → Pt → Prop} (hK : vx_Back l R p e below s args y 3 W9 Pre Post PostX)
    {g : JFrame} (hg : g.method = m) (hsize : g.locals.size = c.maxLocals) {argsL rest : List Value} (hlen : ∀ sig, parseMethodDescriptor y.desc = some sig → argsL.length = sig.parameters.length)
    (hstack : g.stack = argsL.reverse ++ rest) (hW : 2 * g.monitorRoom + (rest.map fun v => v.category).sum ≤ W9) (hdg : decode c.code g.pc = .ok (.invokestatic index, 3))
    (hpre : ∀ vm₁, s.WarmedH vm₁ → Pre ⟨T.setVm vm₁, locs, cells, slots⟩ argsL.toArray) :
    (∃ (v : Option Value) (vm₁ : Vm) (B : Pt), s.WarmedH vm₁ ∧ Stand p l e R s m args below meth c B.U B.locs B.cells B.slots ∧ Post ⟨T.setVm vm₁, locs, cells, slots⟩ argsL.toArray v B ∧
      ∀ target, Steps p.tables e below (B.U.setTop { g with pc := g.pc + 3, stack := v.toList ++ rest }) target → Steps p.tables e below (T.setTop g) target) ∨
    (∃ (q : Addr) (vm₁ : Vm) (B : Pt), s.WarmedH vm₁ ∧ Stand p l e R s m args below meth c B.U B.locs B.cells B.slots ∧ PostX ⟨T.setVm vm₁, locs, cells, slots⟩ argsL.toArray q B ∧
      Steps p.tables e below (T.setTop g) ((B.U.setTop { g with stack := rest }).pushFrame (.throwing q))) := by
  obtain ⟨mk, hnamed⟩ := Cond.code_named hcode
  obtain ⟨methM, cM, hmethM, -, -, -, -, -, -, hsigM⟩ := Cond.code_spec hnamed hcode
  have hstatic : methM.isStatic = true := Cond.static_spec hnamed hmethM hstat
  obtain ⟨kP, hkP, -⟩ := className_of_methodNamed hnamed
  have hinitP : kP.init = .initialized := Cond.initialized_spec (findClass_of_methodNamed hnamed) hkP hinit
  obtain ⟨vm₁, X₁, hstep₁⟩ := X.invokestatic hexec hown hlink hnamed hmethM hstatic hkP hinitP hy (g := g) hg (argsL := argsL) (rest := rest) (hlen _ hsigM) hstack hdg
  rcases hK m meth c ⟨T.setVm vm₁, locs, cells, slots⟩ { g with stack := rest } (.invokestatic index) mk argsL.toArray X₁ hg hsize hdg hW (X₁.named hnamed) (hpre vm₁ X₁.warmed) with ⟨v, B, X', hpost, hsteps⟩ | ⟨q, B, X', hpost, hsteps⟩
  · exact Or.inl ⟨v, vm₁, B, X₁.warmed, X', hpost, fun target h => hstep₁ _ fun acts => by rw [doInvoke_state]; exact hsteps.trans h⟩
  · exact Or.inr ⟨q, vm₁, B, X₁.warmed, X', hpost, hstep₁ _ fun acts => by rw [doInvoke_state]; exact hsteps⟩
end Calls
theorem vx_cls {s : State} {T : State} {vm₁ : Vm} {E : String} {k : ClassId} (hW : s.WarmedH vm₁) (h : (T.setVm vm₁).vm.findClass E = some k) : s.vm.findClass E = some k := by
  have h1 : vm₁.findClass E = some k := h
  rw [hW.alike.findClass] at h1
  exact h1
/-- the method's frame g, with q thrown over it -/
def vx_W (p : Program) (l : Launch) (e : Env) (R : Room) (s : State) (m : MethodId) (args : Array Value) (below : List Frame) (meth : Method) (c : Code) (H : Heap) (locs : List Loc) (cells slots : Nat) (Q : State → Prop) (g : JFrame) (q : Addr) : Prop :=
  ∀ T : State, T.heap = H → Stand p l e R s m args below meth c T locs cells slots → ∃ t, Steps p.tables e below ((T.setTop g).pushFrame (.throwing q)) t ∧ Q t
def vx_Run (p : Program) (l : Launch) (e : Env) (R : Room) (s : State) (m : MethodId) (args : Array Value) (below : List Frame) (meth : Method) (c : Code) (H : Heap) (locs : List Loc) (cells slots mc ms : Nat) (g : JFrame) (rest : List Value) (Qa : State → Outcome → State → Prop) (XC : String → State → State → Prop) (free : Addr → Prop) : Prop :=
  ∀ T : State, T.heap = H → Stand p l e R s m args below meth c T locs cells slots →
    (∃ (v : Option Value) (st₀ t T' : State) (L : List Loc), st₀.heap = H ∧ Stand p l e R s m args below meth c T' (locs ++ L) (cells + mc) (slots + ms) ∧ (∀ q ∈ L, free q.base) ∧ T'.heap = t.heap ∧ T'.vm = t.vm ∧ Qa st₀ (.returned v) t ∧
      Goes p e below T g T' { g with pc := g.pc + 3, stack := v.toList ++ rest }) ∨
    (∃ (q : Addr) (st₀ t T' : State) (L : List Loc) (E : String) (ce : Cell), st₀.heap = H ∧ Stand p l e R s m args below meth c T' (locs ++ L) (cells + mc) (slots + ms) ∧ (∀ z ∈ L, free z.base) ∧ T'.heap = t.heap ∧ T'.vm = t.vm ∧ XC E st₀ t ∧ t.heap[q]? = some ce ∧ ce.vm = .none ∧ s.vm.findClass E = some ce.cls ∧
      Steps p.tables e below (T.setTop g) ((T'.setTop { g with stack := rest }).pushFrame (.throwing q)))
def vx_X {S : Type} (px : S → Prop) (B : String → S → State → Prop) (A : Nat → Prop) : String → State → State → Prop := fun E st t => ∃ u : S, px u ∧ B E u t ∧ va_F A st t
section Runs
variable {p : Program} {l : Launch} {e : Env} {R : Room} {s : State} {m : MethodId} {args : Array Value} {below : List Frame} {meth : Method} {c : Code} {H : Heap} {locs : List Loc} {cells slots : Nat}
variable {y : MethodName} {bytes cc : ByteArray} {maxL nL mc ms n index : Nat} {ret : Option FieldType} {ws : List Cond} {rm : Room} {Pc : Array Value → State → Prop} {Qc : Array Value → State → Outcome → State → Prop} {XC : String → State → State → Prop} {free : Addr → Prop} {Ts : List Cond} {own C : String} {b : Addr} {As rest : List Value} {g : JFrame}
theorem vx_callBack (cb : CallB R s args own index y bytes maxL ret ws rm mc ms n) (hM : vx_Met l y ws rm Pc Qc XC mc ms free) (hbl : FrameBlind Pc) : vx_Back l R p e below s args y 3 8 (PreOf R mc ms Pc) (PostOf Qc mc ms free) (vx_Post XC mc ms free) := by
  obtain ⟨hrc, hrs, hfr, hlo, hws, hcw, -, hini, -⟩ := cb
  exact vx_back (bytes := bytes) (maxL := maxL) (ret := ret) hM hbl hrc hrs hfr hlo hws hcw (fun a' U hW => word_at hW (Or.inl (by first | rfl | simp [Cond.onTables, Cond.keeps, Cond.steady])) hini)
theorem vx_runV (S : CallFix p m c cc nL s args Ts own) (hM : vx_Met l y ws rm Pc Qc XC mc ms free) (cw : CallW R s args own C index y bytes maxL ret ws rm mc ms n) (hp : PreV s H C b Pc As)
    (hg : g.method = m) (hn : As.length = n) (hsize : g.locals.size = nL) (hstack : g.stack = As.reverse ++ .ref b :: rest) (hW : 2 * g.monitorRoom + (rest.map fun v => v.category).sum ≤ 8) (hdg : decode cc g.pc = .ok (.invokevirtual index, 3)) (hf : cells + mc ≤ R.cells ∧ slots + ms ≤ R.slots) :
    vx_Run p l e R s m args below meth c H locs cells slots mc ms g rest (Qc (Value.ref b :: As).toArray) XC free := by
  have hK : vx_Back l R p e below s args y 3 8 (PreOf R mc ms Pc) (PostOf Qc mc ms free) (vx_Post XC mc ms free) := vx_callBack cw.1 hM hp.1
  obtain ⟨⟨-, -, -, -, -, -, hcode, -, hy, hlen, hl⟩, hin, hse⟩ := cw
  obtain ⟨hx, hb, hml, ho, -⟩ := S
  obtain ⟨-, ⟨cellB, hcB, hoB, hclB⟩, hPc⟩ := hp
  intro T hT X
  rcases vx_callV X hx (C := C) (bytes := bytes) (maxL := maxL) (ret := ret) ho hl hin hse hcode hy hK (by rw [hT]; exact hcB) hoB hclB hg (hsize.trans hml.symm) (argsL := As) (rest := rest) (fun sig h => hn.trans (hlen sig h)) hstack hW (by rw [hb]; exact hdg)
    (fun vm₁ hW₁ => ⟨hf.1, hf.2, hPc (T.setVm vm₁) hT hW₁⟩) with ⟨v, vm₁, ⟨U', l2, c2, s2⟩, hW₁, X', ⟨g', mk, t, L, e1, e2, hq, h1, hL, h2, h3⟩, st⟩ | ⟨q, vm₁, ⟨U', l2, c2, s2⟩, hW₁, X', ⟨g', mk, t, L, E, ce, e1, e2, hq, hce, hcv, hcl, h1, hL, h2, h3⟩, st⟩
  · dsimp only [Pt.U, Pt.locs, Pt.cells, Pt.slots] at X' e1 e2 h1 h2 h3 st
    subst h1; subst h2; subst h3
    exact Or.inl ⟨v, (T.setVm vm₁).calling g' mk (Value.ref b :: As).toArray, t, U', L, hT, X', hL, e1, e2, hq, st⟩
  · dsimp only [Pt.U, Pt.locs, Pt.cells, Pt.slots] at X' e1 e2 h1 h2 h3 st hcl
    subst h1; subst h2; subst h3
    exact Or.inr ⟨q, (T.setVm vm₁).calling g' mk (Value.ref b :: As).toArray, t, U', L, E, ce, hT, X', hL, e1, e2, hq, hce, hcv, vx_cls hW₁ hcl, st⟩
theorem vx_runS (S : CallFix p m c cc nL s args Ts own) (hM : vx_Met l y ws rm Pc Qc XC mc ms free) (cw : CallB R s args own index y bytes maxL ret ws rm mc ms n ∧ (Cond.static y).before args s = true) (hp : PreS s H Pc As)
    (hg : g.method = m) (hn : As.length = n) (hsize : g.locals.size = nL) (hstack : g.stack = As.reverse ++ rest) (hW : 2 * g.monitorRoom + (rest.map fun v => v.category).sum ≤ 8) (hdg : decode cc g.pc = .ok (.invokestatic index, 3)) (hf : cells + mc ≤ R.cells ∧ slots + ms ≤ R.slots) :
    vx_Run p l e R s m args below meth c H locs cells slots mc ms g rest (Qc As.toArray) XC free := by
  have hK : vx_Back l R p e below s args y 3 8 (PreOf R mc ms Pc) (PostOf Qc mc ms free) (vx_Post XC mc ms free) := vx_callBack cw.1 hM hp.1
  obtain ⟨⟨-, -, -, -, -, -, hcode, hini, hy, hlen, hl⟩, hstt⟩ := cw
  obtain ⟨hx, hb, hml, ho, -⟩ := S
  intro T hT X
  rcases vx_callS X hx (bytes := bytes) (maxL := maxL) (ret := ret) ho hl hstt hini hcode hy hK hg (hsize.trans hml.symm) (argsL := As) (rest := rest) (fun sig h => hn.trans (hlen sig h)) hstack hW (by rw [hb]; exact hdg)
    (fun vm₁ hW₁ => ⟨hf.1, hf.2, hp.2 (T.setVm vm₁) hT hW₁⟩) with ⟨v, vm₁, ⟨U', l2, c2, s2⟩, hW₁, X', ⟨g', mk, t, L, e1, e2, hq, h1, hL, h2, h3⟩, st⟩ | ⟨q, vm₁, ⟨U', l2, c2, s2⟩, hW₁, X', ⟨g', mk, t, L, E, ce, e1, e2, hq, hce, hcv, hcl, h1, hL, h2, h3⟩, st⟩
  · dsimp only [Pt.U, Pt.locs, Pt.cells, Pt.slots] at X' e1 e2 h1 h2 h3 st
    subst h1; subst h2; subst h3
    exact Or.inl ⟨v, (T.setVm vm₁).calling g' mk As.toArray, t, U', L, hT, X', hL, e1, e2, hq, st⟩
  · dsimp only [Pt.U, Pt.locs, Pt.cells, Pt.slots] at X' e1 e2 h1 h2 h3 st hcl
    subst h1; subst h2; subst h3
    exact Or.inr ⟨q, (T.setVm vm₁).calling g' mk As.toArray, t, U', L, E, ce, hT, X', hL, e1, e2, hq, hce, hcv, vx_cls hW₁ hcl, st⟩
end Runs
section Rows
variable {p : Program} {l : Launch} {e : Env} {R : Room} {s : State} {m : MethodId} {args : Array Value} {below : List Frame} {meth : Method} {c : Code} {H : Heap} {locs : List Loc} {cells slots : Nat} {Q : State → Prop}
variable {mc ms : Nat} {free : Addr → Prop} {A0 A1 : Nat → Prop} {H0 : Heap} {a : Array Value} {pc : Nat} {ls : Array Slot} {st0 rest : List Value}
theorem vx_keep {st₀ t T' : State} {L : List Loc} (h0 : st₀.heap = H) (e1 : T'.heap = t.heap) (hS : va_S A0 H0 H locs) (hA : ∀ q, q < H.size → A1 q → A0 q) (hf : ∀ q, free q → A0 q) (hL : ∀ q ∈ L, free q.base) (hF : va_F A1 st₀ t) :
    H.size ≤ T'.heap.size ∧ (∀ q : Nat, q < H.size → ¬ A1 q → T'.heap[q]? = H[q]?) ∧ va_S A0 H0 T'.heap (locs ++ L) := by
  obtain ⟨hz, hk⟩ := hF
  rw [h0] at hz hk
  exact ⟨by rw [e1]; exact hz, fun q h1 h2 => by rw [e1]; exact hk q h1 h2,
    ⟨Nat.le_trans hS.1 (by rw [e1]; exact hz), fun q h1 h2 => by rw [e1, hk q (Nat.lt_of_lt_of_le h1 hS.1) (fun z => h2 (hA q (Nat.lt_of_lt_of_le h1 hS.1) z))]; exact hS.2.1 q h1 h2, fun q hq => by
      rcases List.mem_append.mp hq with h | h
      · exact hS.2.2 q h
      · exact hf _ (hL q h)⟩⟩
theorem vx_calli {S SX : Type} {post : Int32 → S → Prop} {px : SX → Prop} {B : S → State → Prop} {BX : String → SX → State → Prop} {AX : Nat → Prop} (hr : vx_Run p l e R s m args below meth c H locs cells slots mc ms (F0 m pc ls st0) rest (va_Qi post B A1 a) (vx_X px BX AX) free) (hS : va_S A0 H0 H locs) (hA : ∀ q, q < H.size → A1 q → A0 q) (hf : ∀ q, free q → A0 q) (hAX : ∀ q, q < H.size → AX q → A0 q)
    (kx : ∀ (E : String) (ce : Cell) (q9 : Addr) (u : SX) (t : State) (H1 : Heap) (locs1 : List Loc), t.heap = H1 → s.vm.Alike t.vm → px u → BX E u t → H.size ≤ H1.size → (∀ q : Nat, q < H.size → ¬ AX q → H1[q]? = H[q]?) → va_S A0 H0 H1 locs1 → H1[q9]? = some ce → ce.vm = .none → s.vm.findClass E = some ce.cls → vx_W p l e R s m args below meth c H1 locs1 (cells + mc) (slots + ms) Q (F0 m pc ls rest) q9)
    (kk : ∀ (r : Int32) (u : S) (t : State) (H1 : Heap) (locs1 : List Loc), t.heap = H1 → s.vm.Alike t.vm → post r u → B u t → H.size ≤ H1.size → (∀ q : Nat, q < H.size → ¬ A1 q → H1[q]? = H[q]?) → va_S A0 H0 H1 locs1 → W p l e R s m args below meth c H1 locs1 (cells + mc) (slots + ms) Q (F0 m (pc + 3) ls (.int r :: rest))) : W p l e R s m args below meth c H locs cells slots Q (F0 m pc ls st0) := by
  intro T hT X
  rcases hr T hT X with ⟨v, st₀, t, T', L, h0, X', hL, e1, e2, ⟨⟨r, u, hv, hp, hb⟩, hF⟩, st⟩ | ⟨q, st₀, t, T', L, E, ce, h0, X', hL, e1, e2, ⟨u, hp, hb, hF⟩, hce, hcv, hcl, st⟩
  · cases hv
    obtain ⟨k1, k2, k3⟩ := vx_keep h0 e1 hS hA hf hL hF
    obtain ⟨t2, a1, b1⟩ := kk r u t T'.heap (locs ++ L) e1.symm (by rw [← e2]; exact X'.warmed.alike) hp hb k1 k2 k3 T' rfl X'
    exact ⟨t2, st t2 a1, b1⟩
  · obtain ⟨k1, k2, k3⟩ := vx_keep h0 e1 hS hAX hf hL hF
    obtain ⟨t2, a1, b1⟩ := kx E ce q u t T'.heap (locs ++ L) e1.symm (by rw [← e2]; exact X'.warmed.alike) hp hb k1 k2 k3 (by rw [e1]; exact hce) hcv hcl T' rfl X'
    exact ⟨t2, st.trans a1, b1⟩
theorem vx_calll {S SX : Type} {post : Int64 → S → Prop} {px : SX → Prop} {B : S → State → Prop} {BX : String → SX → State → Prop} {AX : Nat → Prop} (hr : vx_Run p l e R s m args below meth c H locs cells slots mc ms (F0 m pc ls st0) rest (va_Ql post B A1 a) (vx_X px BX AX) free) (hS : va_S A0 H0 H locs) (hA : ∀ q, q < H.size → A1 q → A0 q) (hf : ∀ q, free q → A0 q) (hAX : ∀ q, q < H.size → AX q → A0 q)
    (kx : ∀ (E : String) (ce : Cell) (q9 : Addr) (u : SX) (t : State) (H1 : Heap) (locs1 : List Loc), t.heap = H1 → s.vm.Alike t.vm → px u → BX E u t → H.size ≤ H1.size → (∀ q : Nat, q < H.size → ¬ AX q → H1[q]? = H[q]?) → va_S A0 H0 H1 locs1 → H1[q9]? = some ce → ce.vm = .none → s.vm.findClass E = some ce.cls → vx_W p l e R s m args below meth c H1 locs1 (cells + mc) (slots + ms) Q (F0 m pc ls rest) q9)
    (kk : ∀ (r : Int64) (u : S) (t : State) (H1 : Heap) (locs1 : List Loc), t.heap = H1 → s.vm.Alike t.vm → post r u → B u t → H.size ≤ H1.size → (∀ q : Nat, q < H.size → ¬ A1 q → H1[q]? = H[q]?) → va_S A0 H0 H1 locs1 → W p l e R s m args below meth c H1 locs1 (cells + mc) (slots + ms) Q (F0 m (pc + 3) ls (.long r :: rest))) : W p l e R s m args below meth c H locs cells slots Q (F0 m pc ls st0) := by
  intro T hT X
  rcases hr T hT X with ⟨v, st₀, t, T', L, h0, X', hL, e1, e2, ⟨⟨r, u, hv, hp, hb⟩, hF⟩, st⟩ | ⟨q, st₀, t, T', L, E, ce, h0, X', hL, e1, e2, ⟨u, hp, hb, hF⟩, hce, hcv, hcl, st⟩
  · cases hv
    obtain ⟨k1, k2, k3⟩ := vx_keep h0 e1 hS hA hf hL hF
    obtain ⟨t2, a1, b1⟩ := kk r u t T'.heap (locs ++ L) e1.symm (by rw [← e2]; exact X'.warmed.alike) hp hb k1 k2 k3 T' rfl X'
    exact ⟨t2, st t2 a1, b1⟩
  · obtain ⟨k1, k2, k3⟩ := vx_keep h0 e1 hS hAX hf hL hF
    obtain ⟨t2, a1, b1⟩ := kx E ce q u t T'.heap (locs ++ L) e1.symm (by rw [← e2]; exact X'.warmed.alike) hp hb k1 k2 k3 (by rw [e1]; exact hce) hcv hcl T' rfl X'
    exact ⟨t2, st.trans a1, b1⟩
theorem vx_callf {S SX : Type} {post : UInt32 → S → Prop} {px : SX → Prop} {B : S → State → Prop} {BX : String → SX → State → Prop} {AX : Nat → Prop} (hr : vx_Run p l e R s m args below meth c H locs cells slots mc ms (F0 m pc ls st0) rest (va_Qf post B A1 a) (vx_X px BX AX) free) (hS : va_S A0 H0 H locs) (hA : ∀ q, q < H.size → A1 q → A0 q) (hf : ∀ q, free q → A0 q) (hAX : ∀ q, q < H.size → AX q → A0 q)
    (kx : ∀ (E : String) (ce : Cell) (q9 : Addr) (u : SX) (t : State) (H1 : Heap) (locs1 : List Loc), t.heap = H1 → s.vm.Alike t.vm → px u → BX E u t → H.size ≤ H1.size → (∀ q : Nat, q < H.size → ¬ AX q → H1[q]? = H[q]?) → va_S A0 H0 H1 locs1 → H1[q9]? = some ce → ce.vm = .none → s.vm.findClass E = some ce.cls → vx_W p l e R s m args below meth c H1 locs1 (cells + mc) (slots + ms) Q (F0 m pc ls rest) q9)
    (kk : ∀ (r : UInt32) (u : S) (t : State) (H1 : Heap) (locs1 : List Loc), t.heap = H1 → s.vm.Alike t.vm → post r u → B u t → H.size ≤ H1.size → (∀ q : Nat, q < H.size → ¬ A1 q → H1[q]? = H[q]?) → va_S A0 H0 H1 locs1 → W p l e R s m args below meth c H1 locs1 (cells + mc) (slots + ms) Q (F0 m (pc + 3) ls (.float r :: rest))) : W p l e R s m args below meth c H locs cells slots Q (F0 m pc ls st0) := by
  intro T hT X
  rcases hr T hT X with ⟨v, st₀, t, T', L, h0, X', hL, e1, e2, ⟨⟨r, u, hv, hp, hb⟩, hF⟩, st⟩ | ⟨q, st₀, t, T', L, E, ce, h0, X', hL, e1, e2, ⟨u, hp, hb, hF⟩, hce, hcv, hcl, st⟩
  · cases hv
    obtain ⟨k1, k2, k3⟩ := vx_keep h0 e1 hS hA hf hL hF
    obtain ⟨t2, a1, b1⟩ := kk r u t T'.heap (locs ++ L) e1.symm (by rw [← e2]; exact X'.warmed.alike) hp hb k1 k2 k3 T' rfl X'
    exact ⟨t2, st t2 a1, b1⟩
  · obtain ⟨k1, k2, k3⟩ := vx_keep h0 e1 hS hAX hf hL hF
    obtain ⟨t2, a1, b1⟩ := kx E ce q u t T'.heap (locs ++ L) e1.symm (by rw [← e2]; exact X'.warmed.alike) hp hb k1 k2 k3 (by rw [e1]; exact hce) hcv hcl T' rfl X'
    exact ⟨t2, st.trans a1, b1⟩
theorem vx_calld {S SX : Type} {post : UInt64 → S → Prop} {px : SX → Prop} {B : S → State → Prop} {BX : String → SX → State → Prop} {AX : Nat → Prop} (hr : vx_Run p l e R s m args below meth c H locs cells slots mc ms (F0 m pc ls st0) rest (va_Qd post B A1 a) (vx_X px BX AX) free) (hS : va_S A0 H0 H locs) (hA : ∀ q, q < H.size → A1 q → A0 q) (hf : ∀ q, free q → A0 q) (hAX : ∀ q, q < H.size → AX q → A0 q)
    (kx : ∀ (E : String) (ce : Cell) (q9 : Addr) (u : SX) (t : State) (H1 : Heap) (locs1 : List Loc), t.heap = H1 → s.vm.Alike t.vm → px u → BX E u t → H.size ≤ H1.size → (∀ q : Nat, q < H.size → ¬ AX q → H1[q]? = H[q]?) → va_S A0 H0 H1 locs1 → H1[q9]? = some ce → ce.vm = .none → s.vm.findClass E = some ce.cls → vx_W p l e R s m args below meth c H1 locs1 (cells + mc) (slots + ms) Q (F0 m pc ls rest) q9)
    (kk : ∀ (r : UInt64) (u : S) (t : State) (H1 : Heap) (locs1 : List Loc), t.heap = H1 → s.vm.Alike t.vm → post r u → B u t → H.size ≤ H1.size → (∀ q : Nat, q < H.size → ¬ A1 q → H1[q]? = H[q]?) → va_S A0 H0 H1 locs1 → W p l e R s m args below meth c H1 locs1 (cells + mc) (slots + ms) Q (F0 m (pc + 3) ls (.double r :: rest))) : W p l e R s m args below meth c H locs cells slots Q (F0 m pc ls st0) := by
  intro T hT X
  rcases hr T hT X with ⟨v, st₀, t, T', L, h0, X', hL, e1, e2, ⟨⟨r, u, hv, hp, hb⟩, hF⟩, st⟩ | ⟨q, st₀, t, T', L, E, ce, h0, X', hL, e1, e2, ⟨u, hp, hb, hF⟩, hce, hcv, hcl, st⟩
  · cases hv
    obtain ⟨k1, k2, k3⟩ := vx_keep h0 e1 hS hA hf hL hF
    obtain ⟨t2, a1, b1⟩ := kk r u t T'.heap (locs ++ L) e1.symm (by rw [← e2]; exact X'.warmed.alike) hp hb k1 k2 k3 T' rfl X'
    exact ⟨t2, st t2 a1, b1⟩
  · obtain ⟨k1, k2, k3⟩ := vx_keep h0 e1 hS hAX hf hL hF
    obtain ⟨t2, a1, b1⟩ := kx E ce q u t T'.heap (locs ++ L) e1.symm (by rw [← e2]; exact X'.warmed.alike) hp hb k1 k2 k3 (by rw [e1]; exact hce) hcv hcl T' rfl X'
    exact ⟨t2, st.trans a1, b1⟩
theorem vx_callv {S SX : Type} {post : S → Prop} {px : SX → Prop} {B : S → State → Prop} {BX : String → SX → State → Prop} {AX : Nat → Prop} (hr : vx_Run p l e R s m args below meth c H locs cells slots mc ms (F0 m pc ls st0) rest (va_Qv post B A1 a) (vx_X px BX AX) free) (hS : va_S A0 H0 H locs) (hA : ∀ q, q < H.size → A1 q → A0 q) (hf : ∀ q, free q → A0 q) (hAX : ∀ q, q < H.size → AX q → A0 q)
    (kx : ∀ (E : String) (ce : Cell) (q9 : Addr) (u : SX) (t : State) (H1 : Heap) (locs1 : List Loc), t.heap = H1 → s.vm.Alike t.vm → px u → BX E u t → H.size ≤ H1.size → (∀ q : Nat, q < H.size → ¬ AX q → H1[q]? = H[q]?) → va_S A0 H0 H1 locs1 → H1[q9]? = some ce → ce.vm = .none → s.vm.findClass E = some ce.cls → vx_W p l e R s m args below meth c H1 locs1 (cells + mc) (slots + ms) Q (F0 m pc ls rest) q9)
    (kk : ∀ (u : S) (t : State) (H1 : Heap) (locs1 : List Loc), t.heap = H1 → s.vm.Alike t.vm → post u → B u t → H.size ≤ H1.size → (∀ q : Nat, q < H.size → ¬ A1 q → H1[q]? = H[q]?) → va_S A0 H0 H1 locs1 → W p l e R s m args below meth c H1 locs1 (cells + mc) (slots + ms) Q (F0 m (pc + 3) ls (rest))) : W p l e R s m args below meth c H locs cells slots Q (F0 m pc ls st0) := by
  intro T hT X
  rcases hr T hT X with ⟨v, st₀, t, T', L, h0, X', hL, e1, e2, ⟨⟨u, hv, hp, hb⟩, hF⟩, st⟩ | ⟨q, st₀, t, T', L, E, ce, h0, X', hL, e1, e2, ⟨u, hp, hb, hF⟩, hce, hcv, hcl, st⟩
  · cases hv
    obtain ⟨k1, k2, k3⟩ := vx_keep h0 e1 hS hA hf hL hF
    obtain ⟨t2, a1, b1⟩ := kk u t T'.heap (locs ++ L) e1.symm (by rw [← e2]; exact X'.warmed.alike) hp hb k1 k2 k3 T' rfl X'
    exact ⟨t2, st t2 a1, b1⟩
  · obtain ⟨k1, k2, k3⟩ := vx_keep h0 e1 hS hAX hf hL hF
    obtain ⟨t2, a1, b1⟩ := kx E ce q u t T'.heap (locs ++ L) e1.symm (by rw [← e2]; exact X'.warmed.alike) hp hb k1 k2 k3 (by rw [e1]; exact hce) hcv hcl T' rfl X'
    exact ⟨t2, st.trans a1, b1⟩
end Rows
section Ends
variable {p : Program} {l : Launch} {e : Env} {R : Room} {s : State} {m : MethodId} {args : Array Value} {below : List Frame} {meth : Method} {c : Code} {H : Heap} {locs : List Loc} {cells slots : Nat} {Q : State → Prop}
variable {mc ms : Nat} {free : Addr → Prop} {A0 A1 : Nat → Prop} {H0 : Heap} {a : Array Value} {ls : Array Slot} {st0 rest : List Value}
variable {Qc : Array Value → State → Outcome → State → Prop} {XC : String → State → State → Prop}
/-- what a body that may throw owes at its end -/
def vx_MQ (below : List Frame) (Qc : Array Value → State → Outcome → State → Prop) (XC : String → State → State → Prop) (a : Array Value) (s : State) (mc ms : Nat) (free : Addr → Prop) : State → Prop := fun t =>
  ∃ o, t.status = .running ∧ Ended t below o ∧ vx_Q Qc XC mc ms free a s o t
theorem vx_ret {g : JFrame} {mc ms : Nat} (k : W p l e R s m args below meth c H locs cells slots (MQ below Qc args s mc ms free) g) : W p l e R s m args below meth c H locs cells slots (vx_MQ below Qc XC args s mc ms free) g := by
  intro T hT X
  obtain ⟨t, a1, o, b1, b2, b3, b4⟩ := k T hT X
  exact ⟨t, a1, o, b1, b2, Or.inl ⟨b3, b4⟩⟩
/-- not caught here: it goes on to the caller -/
theorem vx_widen {g : JFrame} {q : Addr} {k n : Nat} (h1 : cells ≤ k) (h2 : slots ≤ n) (kk : vx_W p l e R s m args below meth c H locs k n Q g q) : vx_W p l e R s m args below meth c H locs cells slots Q g q := fun T hT X => kk T hT (stand_widen X h1 h2)
theorem vx_out {pc : Nat} {E : String} {ce : Cell} {q : Addr} {mc ms : Nat} (hout : ∀ x ∈ c.exceptionTable.toList, covers x pc = false) (hlocks : meth.locks = false) (hcell : H[q]? = some ce) (hv : ce.vm = .none) (hcl : s.vm.findClass E = some ce.cls)
    (hx : ∀ t : State, t.heap = H → s.vm.Alike t.vm → XC E s t) (hf : ∀ z ∈ locs, free z.base) (hc : cells ≤ mc) (hs : slots ≤ ms) :
    vx_W p l e R s m args below meth c H locs cells slots (vx_MQ below Qc XC args s mc ms free) (F0 m pc ls rest) q := by
  intro T hT X
  obtain ⟨st1, hrun, hend, hW, hsm⟩ := X.leaveThrown q (g := F0 m pc ls rest) rfl rfl rfl hout hlocks
  have hcell9 : (T.setFrames (.throwing q :: below)).heap[q]? = some ce := by
    show T.heap[q]? = some ce
    rw [hT]; exact hcell
  exact ⟨_, st1, .threw q, hrun, hend, Or.inr ⟨q, rfl, E, ce, locs, hx _ hT hW.alike, hcell9, hv, hcl, hW, hsm.mono hc hs, hf⟩⟩
theorem vx_frame {U : State} {k n : Nat} (h : s.sameButNew ({ U with vm := s.vm } : State) locs k n) : s.heap.size ≤ U.heap.size ∧ ∀ q : Nat, q < s.heap.size → (∀ z ∈ locs, z.base ≠ q) → U.heap[q]? = s.heap[q]? := by
  obtain ⟨-, h2, -, -, -, h6⟩ := h
  refine ⟨h2, fun q hq hz => ?_⟩
  obtain ⟨c9, e1, e2, e3, e4⟩ := h6 q _ (Array.getElem?_eq_getElem hq)
  have hs : c9.slots = (s.heap[q]).slots := Array.ext_getElem? fun i => e4 i fun hm => hz _ hm rfl
  have h9 : c9 = s.heap[q] := by
    rw [hs] at e2
    exact e2
  have e5 : U.heap[q]? = some c9 := e1
  rw [e5, h9, Array.getElem?_eq_getElem hq]
/-- the words of a throw but the four that speak of the heap -/
def vx_no (w : Cond) : Bool := decide (w ≠ .isRef (.static Bundle.tN "UNASSIGNED_STACK" Bundle.steD)) && decide (w ≠ .isRef (.static Bundle.tN "SUPPRESSED_SENTINEL" Bundle.listD)) && decide (w ≠ .laysStatic Bundle.tN "UNASSIGNED_STACK" Bundle.steD) && decide (w ≠ .laysStatic Bundle.tN "SUPPRESSED_SENTINEL" Bundle.listD)
def vx_at0 (own : String) (ic : Nat) (X : String) (names : List String) : List Cond := (Bundle.ownAtoms0 own ic X names).filter vx_no
def vx_atS (own : String) (ic : Nat) (X : String) (names : List String) : List Cond := (Bundle.ownAtoms own ic X names).filter vx_no
/-- a word that the tables alone decide, or a good one -/
def vx_ot (w : Cond) : Bool := w.onTables || goodWord w
theorem vx_ot_at {args a' : Array Value} {s U : State} {w : Cond} (hW : s.WarmedH U.vm) (hvm : s.vm = U.vm) (hg : vx_ot w = true) (h : w.before args s = true) : w.before a' U = true := by
  simp only [vx_ot, Bool.or_eq_true] at hg
  rcases hg with hg | hg
  · exact va_tabs hg hvm h
  · exact word_at hW (good_of_word hg) h
/-- a list's words: the good ones out of the method's own list, the others by premises of their own -/
theorem vx_hat {args : Array Value} {s : State} {L B : List Cond} (h1 : ∀ w ∈ L.filter goodWord, w.before args s = true) (h2 : ∀ w ∈ L.filter (fun w => !goodWord w), w ∈ B) (h3 : ∀ w ∈ B, w.before args s = true) : ∀ w ∈ L, w.before args s = true := by
  intro w hw
  by_cases g : goodWord w = true
  · exact h1 w (List.mem_filter.mpr ⟨hw, g⟩)
  · refine h3 w (h2 w (List.mem_filter.mpr ⟨hw, ?_⟩))
    show (!goodWord w) = true
    cases hgw : goodWord w
    · rfl
    · exact absurd hgw g
theorem vx_c {args : Array Value} {s : State} {w : Cond} {B : List Cond} (h : w.before args s = true) (t : ∀ w ∈ B, w.before args s = true) : ∀ w' ∈ w :: B, w'.before args s = true := fun w' h' => (List.mem_cons.mp h').elim (fun e => by rw [e]; exact h) (t w')
theorem vx_n {args : Array Value} {s : State} : ∀ w ∈ ([] : List Cond), w.before args s = true := fun _ h => nomatch h
theorem vx_own {args : Array Value} {s : State} {L : List Cond} (h1 : ∀ w ∈ L.filter vx_no, w.before args s = true)
    (hU : (Cond.isRef (.static Bundle.tN "UNASSIGNED_STACK" Bundle.steD)).before args s = true) (hN : (Cond.isRef (.static Bundle.tN "SUPPRESSED_SENTINEL" Bundle.listD)).before args s = true)
    (lU : (Cond.laysStatic Bundle.tN "UNASSIGNED_STACK" Bundle.steD).before args s = true) (lN : (Cond.laysStatic Bundle.tN "SUPPRESSED_SENTINEL" Bundle.listD).before args s = true) : ∀ w ∈ L, w.before args s = true := by
  intro w hw
  by_cases e1 : w = .isRef (.static Bundle.tN "UNASSIGNED_STACK" Bundle.steD)
  · rw [e1]; exact hU
  · by_cases e2 : w = .isRef (.static Bundle.tN "SUPPRESSED_SENTINEL" Bundle.listD)
    · rw [e2]; exact hN
    · by_cases e3 : w = .laysStatic Bundle.tN "UNASSIGNED_STACK" Bundle.steD
      · rw [e3]; exact lU
      · by_cases e4 : w = .laysStatic Bundle.tN "SUPPRESSED_SENTINEL" Bundle.listD
        · rw [e4]; exact lN
        · exact h1 w (List.mem_filter.mpr ⟨hw, by unfold vx_no; rw [decide_eq_true e1, decide_eq_true e2, decide_eq_true e3, decide_eq_true e4]; rfl⟩)
/-- where a static field lies, its class's statics cell in H -/
def vx_L (C n d : String) (A : Nat → Prop) (U : State) (H : Heap) : Prop := ∃ (c : ClassId) (k : Class) (i : Nat) (f : Field) (a : Nat) (cell : Cell), U.vm.findClass C = some c ∧ U.fieldFound? C n d = some (c, k, i, f) ∧ f.isStatic = true ∧ k.statics = some a ∧ H[a]? = some cell ∧ cell.vm.isStatics = true ∧ cell.cls = c ∧ f.slot < cell.slots.size ∧ k.staticTypes[f.slot]? = some f.type ∧ ¬ A a
theorem vx_L.moved {C n d : String} {A : Nat → Prop} {u U : State} {H : Heap} (hvm : u.vm.Alike U.vm) (h : vx_L C n d A u H) : vx_L C n d A U H := by
  obtain ⟨c, k, i, f, a, cell, h1, h2, h3, h4, h5, h6, h7, h8, h9, h10⟩ := h
  obtain ⟨k', hi', he⟩ := State.fieldFound?_setVm hvm h2
  exact ⟨c, k', i, f, a, cell, by rw [hvm.findClass]; exact h1, hi', h3, by rw [he]; exact h4, h5, h6, h7, h8, by rw [he]; exact h9, h10⟩
theorem vx_L.kept {C n d : String} {A : Nat → Prop} {U : State} {H H1 : Heap} (h : vx_L C n d A U H) (hq : ∀ a : Nat, a < H.size → ¬ A a → H1[a]? = H[a]?) : vx_L C n d A U H1 := by
  obtain ⟨c, k, i, f, a, cell, h1, h2, h3, h4, h5, h6, h7, h8, h9, h10⟩ := h
  exact ⟨c, k, i, f, a, cell, h1, h2, h3, h4, by rw [hq a (Array.getElem?_eq_some_iff.mp h5).1 h10]; exact h5, h6, h7, h8, h9, h10⟩
theorem vx_L.narrow {C n d : String} {A B : Nat → Prop} {U : State} {H : Heap} (h : vx_L C n d A U H) (hAB : ∀ q, B q → A q) : vx_L C n d B U H := by
  obtain ⟨c, k, i, f, a, cell, h1, h2, h3, h4, h5, h6, h7, h8, h9, h10⟩ := h
  exact ⟨c, k, i, f, a, cell, h1, h2, h3, h4, h5, h6, h7, h8, h9, fun z => h10 (hAB _ z)⟩
theorem vx_L.word {C n d : String} {A : Nat → Prop} {s : State} {args : Array Value} (h : vx_L C n d A s s.heap) : (Cond.laysStatic C n d).before args s = true := by
  obtain ⟨c, k, i, f, a, cell, h1, h2, h3, h4, h5, h6, h7, h8, h9, -⟩ := h
  show (Cond.laysStatic C n d).holds args s none s [] = true
  exact Cond.laysStatic_of h1 h2 h3 h4 h5 h6 h7 h8 h9
/-- .. and what it holds: null or some reference -/
def vx_Zq (C n d : String) (A : Nat → Prop) (U : State) (H : Heap) : Prop := va_Zq C n d A U H ∧ vx_L C n d A U H
theorem vx_Zq.moved {C n d : String} {A : Nat → Prop} {u U : State} {H : Heap} (hvm : u.vm.Alike U.vm) (h : vx_Zq C n d A u H) : vx_Zq C n d A U H := ⟨va_Zq.moved hvm h.1, vx_L.moved hvm h.2⟩
theorem vx_Zq.kept {C n d : String} {A : Nat → Prop} {U : State} {H H1 : Heap} (h : vx_Zq C n d A U H) (hq : ∀ a : Nat, a < H.size → ¬ A a → H1[a]? = H[a]?) : vx_Zq C n d A U H1 := ⟨va_Zq.kept h.1 hq, vx_L.kept h.2 hq⟩
theorem vx_Zq.narrow {C n d : String} {A B : Nat → Prop} {U : State} {H : Heap} (h : vx_Zq C n d A U H) (hAB : ∀ q, B q → A q) : vx_Zq C n d B U H := ⟨va_Zq.narrow h.1 hAB, vx_L.narrow h.2 hAB⟩
theorem vx_Zqof {args : Array Value} {s : State} {C n d : String} {A : Nat → Prop} (hl : (Cond.laysStatic C n d).before args s = true) (hini : (Cond.initialized C).before args s = true) (h : (Cond.isRef (.static C n d)).before args s = true) (hA : ∀ a : Nat, a < s.heap.size → ¬ A a) : vx_Zq C n d A s s.heap := by
  refine ⟨va_Zqof hl hini h hA, ?_⟩
  obtain ⟨c, k, i, f, a, cell, h1, h2, h3, h4, h5, h6, h7, h8, h9⟩ := Cond.laysStatic_spec hl
  exact ⟨c, k, i, f, a, cell, h1, h2, h3, h4, h5, h6, h7, h8, h9, hA a (Array.getElem?_eq_some_iff.mp h5).1⟩
theorem vx_isRef {C n d : String} {v : Value} {A : Nat → Prop} {s : State} {args : Array Value} (h : va_Z C n d v A s s.heap) (hv : v.isRef = true) : (Cond.isRef (.static C n d)).before args s = true := by
  obtain ⟨cf, kf, fi, f, a, cell, h1, h2, h3, h4, h5, h6, h7, -⟩ := h
  have he : (Term.static C n d).eval args s none [] s = some v := by
    simp [Term.eval, State.fieldNamed?, h1, h2, h4, h5, h6, h7]
  simp only [Cond.before, Cond.holds, Cond.value, he]
  cases v <;> simp_all [Value.isRef]
theorem vx_isRefq {C n d : String} {A : Nat → Prop} {s : State} {args : Array Value} (h : va_Zq C n d A s s.heap) : (Cond.isRef (.static C n d)).before args s = true := by
  rcases h with h | ⟨t, h⟩
  · exact vx_isRef h rfl
  · exact vx_isRef h rfl
/-- the same frame, seen from here: as if the method were called anew in this heap -/
theorem vx_rebase {T : State} (X : Stand p l e R s m args below meth c T locs cells slots) {R' : Room} (hf : R'.frames ≤ R.frames) (hl : R'.locals ≤ R.locals) (hc : cells + R'.cells ≤ R.cells) (hs : slots + R'.slots ≤ R.slots) :
    Stand p l e R' ((T.setVm s.vm).setFrames (.invoking m args :: below)) m args below meth c T [] 0 0 := by
  have htop : (T.setVm s.vm).topJava?.isSome := X.here.top
  have hF : ((T.setVm s.vm).setFrames (.invoking m args :: below)).frames = .invoking m args :: below := State.frames_setFrames _ (State.cur_lt_of_top htop)
  obtain ⟨g₀, hg0⟩ := Option.isSome_iff_exists.mp htop
  obtain ⟨r, hr⟩ := State.topJava?_eq_some.mp hg0
  have hl9 : e.platform.stackLimits (T.setVm s.vm).me = e.platform.stackLimits s.me := X.limits
  have hb9 : (T.setVm s.vm).me.stackBytes = s.me.stackBytes := X.bytes
  refine ⟨X.admits, X.cas, X.clock, hF, ?_, X.hears, X.method, X.code, X.here, X.tail, X.warmed, ?_, ?_, ?_⟩
  · have h := X.room
    have hU : ((T.setVm s.vm).setFrames (.invoking m args :: below)).localsInUse = s.localsInUse := by
      rw [State.localsInUse_invoking hF (meth := meth) (c := c) X.method X.code, State.localsInUse_invoking X.frames X.method X.code]
    simp only [State.hasRoom, Bool.and_eq_true, decide_eq_true_eq] at h ⊢
    obtain ⟨⟨⟨⟨h1, h2, h3, h4, h5, h6⟩, h7⟩, h8⟩, h9⟩ := h
    rw [X.frames, List.length_cons] at h2 h3
    have q1 := X.heapSize
    have q2 := X.used
    simp only [hF, hU, List.length_cons, State.stackLimits_setFrames, State.stackBytes_setFrames, hl9, hb9]
    refine ⟨⟨⟨⟨by omega, by omega, by omega, by omega, by omega, h6⟩, ?_⟩, ?_⟩, X.book⟩
    · show T.heap.size + R'.cells ≤ e.platform.maxCells
      omega
    · show T.slotsUsed + R'.slots ≤ e.platform.maxSlots
      omega
  · rw [State.stackLimits_setFrames]; rfl
  · rw [State.stackBytes_setFrames]; rfl
  · refine ⟨?_, Nat.le_refl _, Nat.le_refl _, ?_, ?_, fun a c9 h9 => ⟨c9, h9, rfl, rfl, fun _ _ => rfl⟩⟩
    · obtain ⟨t, ht, -⟩ := State.frames_cons hr
      show T.setVm s.vm = { ((T.setVm s.vm).setFrames (.invoking m args :: below)).setFrames (T.setVm s.vm).frames with heap := T.heap, slotsUsed := T.slotsUsed }
      rw [State.setFrames_setFrames, State.setFrames_self ht]
      rfl
    · show T.slotsUsed = T.slotsUsed + ((T.heap.toList.drop T.heap.size).map (·.slots.size)).sum
      rw [List.drop_eq_nil_of_le (Nat.le_of_eq Array.length_toList)]
      rfl
    · show ((T.heap.toList.drop T.heap.size).map (·.slots.size)).sum ≤ 0
      rw [List.drop_eq_nil_of_le (Nat.le_of_eq Array.length_toList)]
      exact Nat.le_refl _
/-- 'throw new E()': new; dup; invokespecial; athrow -/
theorem vx_throw0 {cc : ByteArray} {pc : Nat} (hexec : p.tables.exec = Jvm.exec) (hb : c.code = cc) (hl : l.stackTraces = false) {own cls : String} {names : List String} {ik ic mc ms : Nat} {A : Nat → Prop}
    (hown : s.vm.findClass own = some m.cls) (hcls : Bundle.fit cls = true) (hnames : ∀ n ∈ names, Bundle.fit n = true)
    (hk : (Cond.classLink own ik cls).before args s = true) (hini : (Cond.initialized cls).before args s = true) (hat : ∀ w ∈ vx_at0 own ic cls names, w.before args s = true)
    (hgood : ∀ w ∈ Cond.classLink own ik cls :: Cond.initialized cls :: vx_at0 own ic cls names, vx_ot w = true)
    (hU : vx_Zq Bundle.tN "UNASSIGNED_STACK" Bundle.steD A s s.heap) (hN : vx_Zq Bundle.tN "SUPPRESSED_SENTINEL" Bundle.listD A s s.heap) (hS : va_S A s.heap H locs) (hsize : ls.size = c.maxLocals)
    (d0 : decode cc pc = .ok (.new ik, 3)) (d3 : decode cc (pc + 3) = .ok (.dup, 1)) (d4 : decode cc (pc + 4) = .ok (.invokespecial ic, 3)) (d7 : decode cc (pc + 7) = .ok (.athrow, 1))
    (hout : ∀ x ∈ c.exceptionTable.toList, covers x (pc + 7) = false)
    (hRframes : names.length + 3 < R.frames) (hRlocals : (rest.map fun v => v.category).sum + (13 * (names.length + 1) + 42) ≤ R.locals) (hRcells : cells + 1 ≤ R.cells) (hRslots : slots + 6 ≤ R.slots) (hlocks : meth.locks = false)
    (hx : ∀ t : State, s.vm.Alike t.vm → H.size ≤ t.heap.size → (∀ q : Nat, q < H.size → t.heap[q]? = H[q]?) → XC cls s t)
    (hf : ∀ z ∈ locs, free z.base) (hc : cells + 1 ≤ mc) (hs : slots + 6 ≤ ms) :
    W p l e R s m args below meth c H locs cells slots (vx_MQ below Qc XC args s mc ms free) (F0 m pc ls rest) := by
  intro T hT X
  have htr : e.platform.stackTraces = false := (show e.platform.stackTraces = l.stackTraces by rw [X.admits.platform]).trans hl
  have Y := vx_rebase X (R' := { frames := R.frames, locals := R.locals, cells := 1, slots := 6 }) (Nat.le_refl _) (Nat.le_refl _) hRcells hRslots
  obtain ⟨s', hA⟩ : ∃ z, z = (T.setVm s.vm).setFrames (.invoking m args :: below) := ⟨_, rfl⟩
  rw [← hA] at Y
  have hvm : s'.vm = s.vm := by rw [hA]; rfl
  have hhp : s'.heap = H := by rw [hA]; exact hT
  have hW0 : s.WarmedH s'.vm := by rw [hvm]; exact State.WarmedH.refl s
  have hat' : ∀ w ∈ vx_at0 own ic cls names, w.before args s' = true := fun w hw => vx_ot_at hW0 hvm.symm (hgood w (List.mem_cons_of_mem _ (List.mem_cons_of_mem _ hw))) (hat w hw)
  have hk' : (Cond.classLink own ik cls).before args s' = true := vx_ot_at hW0 hvm.symm (hgood _ List.mem_cons_self) hk
  have hini' : (Cond.initialized cls).before args s' = true := vx_ot_at hW0 hvm.symm (hgood _ (List.mem_cons_of_mem _ List.mem_cons_self)) hini
  have hU' : vx_Zq Bundle.tN "UNASSIGNED_STACK" Bundle.steD A s' s'.heap := by rw [hhp]; exact vx_Zq.moved hW0.alike (hU.kept hS.2.1)
  have hN' : vx_Zq Bundle.tN "SUPPRESSED_SENTINEL" Bundle.listD A s' s'.heap := by rw [hhp]; exact vx_Zq.moved hW0.alike (hN.kept hS.2.1)
  have h : ∀ w ∈ Bundle.ownAtoms0 own ic cls names, w.before args s' = true := vx_own hat' (vx_isRefq hU'.1) (vx_isRefq hN'.1) hU'.2.word hN'.2.word
  have hown' : s'.vm.findClass own = some m.cls := by rw [hvm]; exact hown
  have hins : (Cond.instantiable cls 6).before args s' = true := h _ (by simp [Bundle.ownAtoms0])
  obtain ⟨vm₁, cX, kX, hfX, hkX, -, -, X₁, st1⟩ := Y.newCold hexec (own := own) (C := cls) (index := ik) (n := 6) hown' hk' hins hini'
    (g := F0 m pc ls rest) rfl (by rw [hb]; exact d0) (Nat.le_refl _) (Nat.le_refl _)
  generalize hT1 : (T.setVm vm₁).pushCell { cls := cX, slots := kX.instanceTypes.map defaultValue, vm := .none } = T1 at X₁ st1
  have hcat : (Value.ref T.heap.size).category = 1 := rfl
  have hcellA : T1.heap[T.heap.size]? = some (freshCell cX kX) := by rw [← hT1]; exact State.heap_pushCell_size _ _
  have d3' : decode c.code (pc + 3) = .ok (.dup, 1) := by rw [hb]; exact d3
  obtain ⟨U, hsteps, hrun, hend, hW, hsame, ce, hce, hO⟩ := X₁.ctorThrow0 hexec htr (own := own) (cls := cls) (names := names) (ic := ic) hown' hcls hnames h (fun x hx => nomatch hx) hfX hkX hcellA (by rw [hhp, hT]; exact Nat.le_refl _)
    (g := { method := m, pc := pc + 4, locals := ls, stack := .ref T.heap.size :: .ref T.heap.size :: rest, locked := none }) rfl hsize rfl rfl (rest := rest) rfl
    (by rw [hb]; exact d4) (by rw [hb]; exact d7) hout hRframes (by simp only [List.map_cons, List.sum_cons, hcat]; omega) hlocks
  obtain ⟨f1, f2⟩ := vx_frame hsame
  rw [hhp] at f1 f2
  have hWs : s.WarmedH U.vm := State.WarmedH.trans hW0 hW
  have hcl : s.vm.findClass cls = some ce.cls := by
    have h9 := hO.cls
    rw [hvm] at h9
    exact h9
  have hall : s.sameButNew ({ U with vm := s.vm } : State) locs mc ms := by
    subst hA
    obtain ⟨e1, e2⟩ := hsame
    rw [State.setFrames_setFrames] at e1
    have h2 : (T.setVm s.vm).sameButNew ({ U with vm := s.vm } : State) [] (0 + 1) (0 + 6) := ⟨e1, e2⟩
    have h3 := X.same.trans h2
    rw [List.append_nil] at h3
    exact h3.mono hc hs
  refine ⟨U, ?_, .threw T.heap.size, hrun, hend, Or.inr ⟨T.heap.size, rfl, cls, ce, locs, hx U hWs.alike f1 (fun q hq => f2 q hq (fun z hz => nomatch hz)), hce, hO.vm, hcl, hWs, hall, hf⟩⟩
  refine st1 _ ?_
  show Steps p.tables e below (T1.setTop { method := m, pc := pc + 3, locals := ls, stack := .ref T.heap.size :: rest, locked := none }) _
  jvm_step X₁.here [X₁.here.top, hexec, d3', Value.category]
  exact hsteps
/-- 'throw new E("text")': new; dup; ldc; invokespecial; athrow -/
theorem vx_throwS {cc : ByteArray} {pc : Nat} (hexec : p.tables.exec = Jvm.exec) (hb : c.code = cc) (hl : l.stackTraces = false) {own cls text : String} {names : List String} {ik is ic mc ms sa : Nat} {A : Nat → Prop}
    (hown : s.vm.findClass own = some m.cls) (hcls : Bundle.fit cls = true) (hnames : ∀ n ∈ names, Bundle.fit n = true)
    (hk : (Cond.classLink own ik cls).before args s = true) (hini : (Cond.initialized cls).before args s = true) (hstr : vk_R own is text sa s) (hat : ∀ w ∈ vx_atS own ic cls names, w.before args s = true)
    (hgood : ∀ w ∈ Cond.classLink own ik cls :: Cond.initialized cls :: vx_atS own ic cls names, vx_ot w = true)
    (hU : vx_Zq Bundle.tN "UNASSIGNED_STACK" Bundle.steD A s s.heap) (hN : vx_Zq Bundle.tN "SUPPRESSED_SENTINEL" Bundle.listD A s s.heap) (hS : va_S A s.heap H locs) (hsize : ls.size = c.maxLocals)
    (d0 : decode cc pc = .ok (.new ik, 3)) (d3 : decode cc (pc + 3) = .ok (.dup, 1)) (d4 : decode cc (pc + 4) = .ok (.ldc is, 2)) (d6 : decode cc (pc + 6) = .ok (.invokespecial ic, 3)) (d9 : decode cc (pc + 9) = .ok (.athrow, 1))
    (hout : ∀ x ∈ c.exceptionTable.toList, covers x (pc + 9) = false)
    (hRframes : names.length + 3 < R.frames) (hRlocals : (rest.map fun v => v.category).sum + (13 * (names.length + 1) + 43) ≤ R.locals) (hRcells : cells + 1 ≤ R.cells) (hRslots : slots + 6 ≤ R.slots) (hlocks : meth.locks = false)
    (hx : ∀ t : State, s.vm.Alike t.vm → H.size ≤ t.heap.size → (∀ q : Nat, q < H.size → t.heap[q]? = H[q]?) → XC cls s t)
    (hf : ∀ z ∈ locs, free z.base) (hc : cells + 1 ≤ mc) (hs : slots + 6 ≤ ms) :
    W p l e R s m args below meth c H locs cells slots (vx_MQ below Qc XC args s mc ms free) (F0 m pc ls rest) := by
  intro T hT X
  have htr : e.platform.stackTraces = false := (show e.platform.stackTraces = l.stackTraces by rw [X.admits.platform]).trans hl
  have Y := vx_rebase X (R' := { frames := R.frames, locals := R.locals, cells := 1, slots := 6 }) (Nat.le_refl _) (Nat.le_refl _) hRcells hRslots
  obtain ⟨s', hA⟩ : ∃ z, z = (T.setVm s.vm).setFrames (.invoking m args :: below) := ⟨_, rfl⟩
  rw [← hA] at Y
  have hvm : s'.vm = s.vm := by rw [hA]; rfl
  have hhp : s'.heap = H := by rw [hA]; exact hT
  have hW0 : s.WarmedH s'.vm := by rw [hvm]; exact State.WarmedH.refl s
  have hat' : ∀ w ∈ vx_atS own ic cls names, w.before args s' = true := fun w hw => vx_ot_at hW0 hvm.symm (hgood w (List.mem_cons_of_mem _ (List.mem_cons_of_mem _ hw))) (hat w hw)
  have hk' : (Cond.classLink own ik cls).before args s' = true := vx_ot_at hW0 hvm.symm (hgood _ List.mem_cons_self) hk
  have hini' : (Cond.initialized cls).before args s' = true := vx_ot_at hW0 hvm.symm (hgood _ (List.mem_cons_of_mem _ List.mem_cons_self)) hini
  have hU' : vx_Zq Bundle.tN "UNASSIGNED_STACK" Bundle.steD A s' s'.heap := by rw [hhp]; exact vx_Zq.moved hW0.alike (hU.kept hS.2.1)
  have hN' : vx_Zq Bundle.tN "SUPPRESSED_SENTINEL" Bundle.listD A s' s'.heap := by rw [hhp]; exact vx_Zq.moved hW0.alike (hN.kept hS.2.1)
  have h : ∀ w ∈ Bundle.ownAtoms own ic cls names, w.before args s' = true := vx_own hat' (vx_isRefq hU'.1) (vx_isRefq hN'.1) hU'.2.word hN'.2.word
  have hown' : s'.vm.findClass own = some m.cls := by rw [hvm]; exact hown
  have hins : (Cond.instantiable cls 6).before args s' = true := h _ (by simp [Bundle.ownAtoms])
  obtain ⟨vm₁, cX, kX, hfX, hkX, -, -, X₁, st1⟩ := Y.newCold hexec (own := own) (C := cls) (index := ik) (n := 6) hown' hk' hins hini'
    (g := F0 m pc ls rest) rfl (by rw [hb]; exact d0) (Nat.le_refl _) (Nat.le_refl _)
  generalize hT1 : (T.setVm vm₁).pushCell { cls := cX, slots := kX.instanceTypes.map defaultValue, vm := .none } = T1 at X₁ st1
  have hcat : (Value.ref T.heap.size).category = 1 := rfl
  have hcellA : T1.heap[T.heap.size]? = some (freshCell cX kX) := by rw [← hT1]; exact State.heap_pushCell_size _ _
  have d3' : decode c.code (pc + 3) = .ok (.dup, 1) := by rw [hb]; exact d3
  have d4' : decode c.code (pc + 4) = .ok (.ldc is, 2) := by rw [hb]; exact d4
  have hstr' : vk_R own is text sa s' := vk_R.warm hW0 hstr
  obtain ⟨U, hsteps, hrun, hend, hW, hsame, ce, hce, hO⟩ := X₁.ctorThrowS hexec htr (own := own) (cls := cls) (names := names) (ic := ic) hown' hcls hnames h (fun x hx => nomatch hx) hfX hkX hcellA (by rw [hhp, hT]; exact Nat.le_refl _) (msg := .ref sa) rfl
    (g := { method := m, pc := pc + 6, locals := ls, stack := .ref sa :: .ref T.heap.size :: .ref T.heap.size :: rest, locked := none }) rfl hsize rfl rfl (rest := rest) rfl
    (by rw [hb]; exact d6) (by rw [hb]; exact d9) hout hRframes (by simp only [List.map_cons, List.sum_cons, hcat]; omega) hlocks
  obtain ⟨f1, f2⟩ := vx_frame hsame
  rw [hhp] at f1 f2
  have hWs : s.WarmedH U.vm := State.WarmedH.trans hW0 hW
  have hcl : s.vm.findClass cls = some ce.cls := by
    have h9 := hO.cls
    rw [hvm] at h9
    exact h9
  have hall : s.sameButNew ({ U with vm := s.vm } : State) locs mc ms := by
    subst hA
    obtain ⟨e1, e2⟩ := hsame
    rw [State.setFrames_setFrames] at e1
    have h2 : (T.setVm s.vm).sameButNew ({ U with vm := s.vm } : State) [] (0 + 1) (0 + 6) := ⟨e1, e2⟩
    have h3 := X.same.trans h2
    rw [List.append_nil] at h3
    exact h3.mono hc hs
  refine ⟨U, ?_, .threw T.heap.size, hrun, hend, Or.inr ⟨T.heap.size, rfl, cls, ce, locs, hx U hWs.alike f1 (fun q hq => f2 q hq (fun z hz => nomatch hz)), hce, hO.vm, hcl, hWs, hall, hf⟩⟩
  refine st1 _ ?_
  show Steps p.tables e below (T1.setTop { method := m, pc := pc + 3, locals := ls, stack := .ref T.heap.size :: rest, locked := none }) _
  jvm_step X₁.here [X₁.here.top, hexec, d3', Value.category]
  exact X₁.ldcString hexec (own := own) (text := text) (index := is) (a := sa) hown' hstr'.1 hstr'.2
    (g := { method := m, pc := pc + 4, locals := ls, stack := .ref T.heap.size :: .ref T.heap.size :: rest, locked := none }) rfl d4' _ hsteps
/-- 'throw new E("text")', the text by a wide index -/
theorem vx_throwSW {cc : ByteArray} {pc : Nat} (hexec : p.tables.exec = Jvm.exec) (hb : c.code = cc) (hl : l.stackTraces = false) {own cls text : String} {names : List String} {ik is ic mc ms sa : Nat} {A : Nat → Prop}
    (hown : s.vm.findClass own = some m.cls) (hcls : Bundle.fit cls = true) (hnames : ∀ n ∈ names, Bundle.fit n = true)
    (hk : (Cond.classLink own ik cls).before args s = true) (hini : (Cond.initialized cls).before args s = true) (hstr : vk_R own is text sa s) (hat : ∀ w ∈ vx_atS own ic cls names, w.before args s = true)
    (hgood : ∀ w ∈ Cond.classLink own ik cls :: Cond.initialized cls :: vx_atS own ic cls names, vx_ot w = true)
    (hU : vx_Zq Bundle.tN "UNASSIGNED_STACK" Bundle.steD A s s.heap) (hN : vx_Zq Bundle.tN "SUPPRESSED_SENTINEL" Bundle.listD A s s.heap) (hS : va_S A s.heap H locs) (hsize : ls.size = c.maxLocals)
    (d0 : decode cc pc = .ok (.new ik, 3)) (d3 : decode cc (pc + 3) = .ok (.dup, 1)) (d4 : decode cc (pc + 4) = .ok (.ldc_w is, 3)) (d7 : decode cc (pc + 7) = .ok (.invokespecial ic, 3)) (d10 : decode cc (pc + 10) = .ok (.athrow, 1))
    (hout : ∀ x ∈ c.exceptionTable.toList, covers x (pc + 10) = false)
    (hRframes : names.length + 3 < R.frames) (hRlocals : (rest.map fun v => v.category).sum + (13 * (names.length + 1) + 43) ≤ R.locals) (hRcells : cells + 1 ≤ R.cells) (hRslots : slots + 6 ≤ R.slots) (hlocks : meth.locks = false)
    (hx : ∀ t : State, s.vm.Alike t.vm → H.size ≤ t.heap.size → (∀ q : Nat, q < H.size → t.heap[q]? = H[q]?) → XC cls s t)
    (hf : ∀ z ∈ locs, free z.base) (hc : cells + 1 ≤ mc) (hs : slots + 6 ≤ ms) :
    W p l e R s m args below meth c H locs cells slots (vx_MQ below Qc XC args s mc ms free) (F0 m pc ls rest) := by
  intro T hT X
  have htr : e.platform.stackTraces = false := (show e.platform.stackTraces = l.stackTraces by rw [X.admits.platform]).trans hl
  have Y := vx_rebase X (R' := { frames := R.frames, locals := R.locals, cells := 1, slots := 6 }) (Nat.le_refl _) (Nat.le_refl _) hRcells hRslots
  obtain ⟨s', hA⟩ : ∃ z, z = (T.setVm s.vm).setFrames (.invoking m args :: below) := ⟨_, rfl⟩
  rw [← hA] at Y
  have hvm : s'.vm = s.vm := by rw [hA]; rfl
  have hhp : s'.heap = H := by rw [hA]; exact hT
  have hW0 : s.WarmedH s'.vm := by rw [hvm]; exact State.WarmedH.refl s
  have hat' : ∀ w ∈ vx_atS own ic cls names, w.before args s' = true := fun w hw => vx_ot_at hW0 hvm.symm (hgood w (List.mem_cons_of_mem _ (List.mem_cons_of_mem _ hw))) (hat w hw)
  have hk' : (Cond.classLink own ik cls).before args s' = true := vx_ot_at hW0 hvm.symm (hgood _ List.mem_cons_self) hk
  have hini' : (Cond.initialized cls).before args s' = true := vx_ot_at hW0 hvm.symm (hgood _ (List.mem_cons_of_mem _ List.mem_cons_self)) hini
  have hU' : vx_Zq Bundle.tN "UNASSIGNED_STACK" Bundle.steD A s' s'.heap := by rw [hhp]; exact vx_Zq.moved hW0.alike (hU.kept hS.2.1)
  have hN' : vx_Zq Bundle.tN "SUPPRESSED_SENTINEL" Bundle.listD A s' s'.heap := by rw [hhp]; exact vx_Zq.moved hW0.alike (hN.kept hS.2.1)
  have h : ∀ w ∈ Bundle.ownAtoms own ic cls names, w.before args s' = true := vx_own hat' (vx_isRefq hU'.1) (vx_isRefq hN'.1) hU'.2.word hN'.2.word
  have hown' : s'.vm.findClass own = some m.cls := by rw [hvm]; exact hown
  have hins : (Cond.instantiable cls 6).before args s' = true := h _ (by simp [Bundle.ownAtoms])
  obtain ⟨vm₁, cX, kX, hfX, hkX, -, -, X₁, st1⟩ := Y.newCold hexec (own := own) (C := cls) (index := ik) (n := 6) hown' hk' hins hini'
    (g := F0 m pc ls rest) rfl (by rw [hb]; exact d0) (Nat.le_refl _) (Nat.le_refl _)
  generalize hT1 : (T.setVm vm₁).pushCell { cls := cX, slots := kX.instanceTypes.map defaultValue, vm := .none } = T1 at X₁ st1
  have hcat : (Value.ref T.heap.size).category = 1 := rfl
  have hcellA : T1.heap[T.heap.size]? = some (freshCell cX kX) := by rw [← hT1]; exact State.heap_pushCell_size _ _
  have d3' : decode c.code (pc + 3) = .ok (.dup, 1) := by rw [hb]; exact d3
  have d4' : decode c.code (pc + 4) = .ok (.ldc_w is, 3) := by rw [hb]; exact d4
  have hstr' : vk_R own is text sa s' := vk_R.warm hW0 hstr
  obtain ⟨U, hsteps, hrun, hend, hW, hsame, ce, hce, hO⟩ := X₁.ctorThrowS hexec htr (own := own) (cls := cls) (names := names) (ic := ic) hown' hcls hnames h (fun x hx => nomatch hx) hfX hkX hcellA (by rw [hhp, hT]; exact Nat.le_refl _) (msg := .ref sa) rfl
    (g := { method := m, pc := pc + 7, locals := ls, stack := .ref sa :: .ref T.heap.size :: .ref T.heap.size :: rest, locked := none }) rfl hsize rfl rfl (rest := rest) rfl
    (by rw [hb]; exact d7) (by rw [hb]; exact d10) hout hRframes (by simp only [List.map_cons, List.sum_cons, hcat]; omega) hlocks
  obtain ⟨f1, f2⟩ := vx_frame hsame
  rw [hhp] at f1 f2
  have hWs : s.WarmedH U.vm := State.WarmedH.trans hW0 hW
  have hcl : s.vm.findClass cls = some ce.cls := by
    have h9 := hO.cls
    rw [hvm] at h9
    exact h9
  have hall : s.sameButNew ({ U with vm := s.vm } : State) locs mc ms := by
    subst hA
    obtain ⟨e1, e2⟩ := hsame
    rw [State.setFrames_setFrames] at e1
    have h2 : (T.setVm s.vm).sameButNew ({ U with vm := s.vm } : State) [] (0 + 1) (0 + 6) := ⟨e1, e2⟩
    have h3 := X.same.trans h2
    rw [List.append_nil] at h3
    exact h3.mono hc hs
  refine ⟨U, ?_, .threw T.heap.size, hrun, hend, Or.inr ⟨T.heap.size, rfl, cls, ce, locs, hx U hWs.alike f1 (fun q hq => f2 q hq (fun z hz => nomatch hz)), hce, hO.vm, hcl, hWs, hall, hf⟩⟩
  refine st1 _ ?_
  show Steps p.tables e below (T1.setTop { method := m, pc := pc + 3, locals := ls, stack := .ref T.heap.size :: rest, locked := none }) _
  jvm_step X₁.here [X₁.here.top, hexec, d3', Value.category]
  exact X₁.ldcStringW hexec (own := own) (text := text) (index := is) (a := sa) hown' hstr'.1 hstr'.2
    (g := { method := m, pc := pc + 4, locals := ls, stack := .ref T.heap.size :: .ref T.heap.size :: rest, locked := none }) rfl d4' _ hsteps
end Ends
section Bodies
variable {l : Launch}
theorem vx_ofW {y : MethodName} {ws ws' : List Cond} {rm : Room} {Pc : Array Value → State → Prop} {Qc : Array Value → State → Outcome → State → Prop} {XC : String → State → State → Prop} {mc ms : Nat} {free : Addr → Prop} {cc : ByteArray} {maxL : Nat} {ret : Option FieldType}
    (hy : plainName y.cls = true) (hw : ws = Cond.code y cc maxL ret :: ws')
    (body : ∀ p e s m args below meth c s₁, BodyLoose p l y (headSpec ws rm) cc maxL ret e s m args below meth c s₁ → c.maxLocals = maxL → (∀ x ∈ c.exceptionTable.toList, False) → Pc args s →
      W p l e (headSpec ws rm).room s m args below meth c s.heap [] 0 0 (vx_MQ below Qc XC args s mc ms free) (entryFrame m args maxL)) : vx_Met l y ws rm Pc Qc XC mc ms free := by
  refine MetFree.of_bodyS (code := cc) (maxLocals := maxL) (ret := ret) hy ?_ ?_
  · intro args s m h hn
    obtain ⟨meth, c, h1, h2, h3, h4, h5, h6, -, -⟩ := Cond.code_spec hn (atoms_spec (ws := ws) h _ (by rw [hw]; exact List.mem_cons_self))
    exact ⟨meth, c, h1, h2, h3, h4, h5, h6⟩
  · intro p e s m args below meth c s₁ B hml hP _
    have hh0 : s₁.heap = s.heap := by rw [B.state]; rfl
    have ht : ∀ x ∈ c.exceptionTable.toList, False := by
      obtain ⟨meth9, c9, h1, h2, -, -, -, -, h7, -⟩ := Cond.code_spec B.named (atoms_spec (ws := ws) B.pre _ (by rw [hw]; exact List.mem_cons_self))
      cases Option.some.inj (h1.symm.trans B.method)
      cases Option.some.inj (h2.symm.trans (Stand.of_body B).code)
      intro x hx
      rw [Array.isEmpty_iff.mp h7] at hx
      cases hx
    obtain ⟨t, a1, o, b1, b2, b3⟩ := body p e s m args below meth c s₁ B hml ht hP s₁ hh0 (Stand.of_body B)
    exact ⟨t, o, a1, b1, b2, b3⟩
/-- the table of a body with handlers -/
theorem vx_table {p : Program} {x y : MethodName} {S : Spec} {cc bytes : ByteArray} {maxL maxL' : Nat} {ret ret' : Option FieldType} {e : Env} {s s₁ : State} {m : MethodId} {args : Array Value} {below : List Frame} {meth : Method} {c : Code} {hh : List (Nat × Nat × Nat × Nat)}
    (B : BodyLoose p l y S cc maxL ret e s m args below meth c s₁) (h : (Cond.codeWith y bytes maxL' ret' hh).before args s = true) : c.exceptionTable.toList = tableOf hh := by
  obtain ⟨m9, meth9, c9, hn9, h1, h2, -, -, h6, -⟩ := Cond.codeWith_spec h
  cases Option.some.inj (hn9.symm.trans B.named)
  cases Option.some.inj (h1.symm.trans B.method)
  cases Option.some.inj (h2.symm.trans (Stand.of_body B).code)
  rw [← h6, table_eq]
end Bodies
end VXA
/-! ===== END ===== -/
/-! ===== BEGIN a static call of a method with an exception table ===== -/
section VXS
variable {p : Program} {l : Launch} {e : Env} {R : Room} {s : State} {m : MethodId} {args : Array Value} {below : List Frame} {meth : Method} {c : Code} {T : State} {H : Heap} {locs : List Loc} {cells slots : Nat}
abbrev vx_CSW (R : Room) (s : State) (args : Array Value) (own : String) (index : Nat) (y : MethodName) (bytes : ByteArray) (maxL : Nat) (ret : Option FieldType) (hh : List (Nat × Nat × Nat × Nat)) (ws : List Cond) (rm : Room) (mc ms n : Nat) : Prop :=
  (rm.cells = mc ∧ rm.slots = ms ∧ rm.frames + 1 ≤ R.frames ∧ 8 + (maxL + 11) + rm.locals ≤ R.locals ∧ (∀ w ∈ ws, ∀ (a' : Array Value) (U : State), s.WarmedH U.vm → w.before a' U = true) ∧ Cond.codeWith y bytes maxL ret hh ∈ ws) ∧
  (Cond.codeWith y bytes maxL ret hh).before args s = true ∧ (Cond.initialized y.cls).before args s = true ∧ (y.cls ≠ "java/lang/invoke/MethodHandle" ∧ y.cls ≠ "java/lang/invoke/VarHandle") ∧
  (∀ sig, parseMethodDescriptor y.desc = some sig → n = sig.parameters.length) ∧ (Cond.methodLink own index y).before args s = true ∧ (Cond.static y).before args s = true
theorem vx_cwSW {own : String} {index maxL mc ms : Nat} {y : MethodName} {bytes : ByteArray} {ret : Option FieldType} {hh : List (Nat × Nat × Nat × Nat)} {Ts ws ws' : List Cond} {rm : Room} (n : Nat) (ht : ∀ w ∈ Ts, w.before args s = true) (hT : GoodIn Ts (va_wsS own index y ws)) (hw : ws = Cond.codeWith y bytes maxL ret hh :: ws') (hrc : rm.cells = mc) (hrs : rm.slots = ms)
    (hd : y.cls ≠ "java/lang/invoke/MethodHandle" ∧ y.cls ≠ "java/lang/invoke/VarHandle" ∧ (parseMethodDescriptor y.desc).map (fun d => d.parameters.length) = some n) (hR : rm.frames + 1 ≤ R.frames ∧ 8 + (maxL + 11) + rm.locals ≤ R.locals) :
    vx_CSW R s args own index y bytes maxL ret hh ws rm mc ms n := by
  have ok : ∀ w ∈ va_wsS own index y ws, w.before args s = true := fun w h => ht w (hT w h).1
  have hG : GoodIn Ts ws := fun w h => hT w (by unfold va_wsS; exact List.mem_append_right _ h)
  have hc : Cond.codeWith y bytes maxL ret hh ∈ ws := by rw [hw]; exact List.mem_cons_self
  refine ⟨⟨hrc, hrs, hR.1, hR.2, pay_in ht hG, hc⟩, ht _ (hG _ hc).1, ok _ (by simp [va_wsS]), ⟨hd.1, hd.2.1⟩, fun sig h => ?_, ok _ (by simp [va_wsS]), ok _ (by simp [va_wsS])⟩
  have h2 := hd.2.2
  rw [h] at h2
  exact (Option.some.inj h2).symm
theorem vx_callSW (X : Stand p l e R s m args below meth c T locs cells slots) (hexec : p.tables.exec = Jvm.exec) {own : String} {index : Nat} {y : MethodName} {bytes : ByteArray} {maxL : Nat} {ret : Option FieldType} {hh : List (Nat × Nat × Nat × Nat)}
    (hown : s.vm.findClass own = some m.cls) (hlink : (Cond.methodLink own index y).before args s = true) (hstat : (Cond.static y).before args s = true) (hinit : (Cond.initialized y.cls).before args s = true)
    (hcode : (Cond.codeWith y bytes maxL ret hh).before args s = true) (hy : y.cls ≠ "java/lang/invoke/MethodHandle" ∧ y.cls ≠ "java/lang/invoke/VarHandle")
    {W9 : Nat} {Pre : Pt → Array Value → Prop} {Post : Pt → Array Value → Option Value → Pt → Prop} (hK : Back l R p e below s args y 3 W9 Pre Post)
    {g : JFrame} (hg : g.method = m) (hsize : g.locals.size = c.maxLocals) {argsL rest : List Value} (hlen : ∀ sig, parseMethodDescriptor y.desc = some sig → argsL.length = sig.parameters.length)
    (hstack : g.stack = argsL.reverse ++ rest) (hW : 2 * g.monitorRoom + (rest.map fun v => v.category).sum ≤ W9) (hdg : decode c.code g.pc = .ok (.invokestatic index, 3))
    (hpre : ∀ vm₁, s.WarmedH vm₁ → Pre ⟨T.setVm vm₁, locs, cells, slots⟩ argsL.toArray) :
    ∃ (v : Option Value) (vm₁ : Vm) (B : Pt), s.WarmedH vm₁ ∧ Stand p l e R s m args below meth c B.U B.locs B.cells B.slots ∧ Post ⟨T.setVm vm₁, locs, cells, slots⟩ argsL.toArray v B ∧
      ∀ target, Steps p.tables e below (B.U.setTop { g with pc := g.pc + 3, stack := v.toList ++ rest }) target → Steps p.tables e below (T.setTop g) target := by
  obtain ⟨mk, methM, cM, hnamed, hmethM, -, -, -, -, -, -, hsigM⟩ := Cond.codeWith_spec hcode
  have hstatic : methM.isStatic = true := Cond.static_spec hnamed hmethM hstat
  obtain ⟨kP, hkP, -⟩ := className_of_methodNamed hnamed
  have hinitP : kP.init = .initialized := Cond.initialized_spec (findClass_of_methodNamed hnamed) hkP hinit
  obtain ⟨vm₁, X₁, hstep₁⟩ := X.invokestatic hexec hown hlink hnamed hmethM hstatic hkP hinitP hy (g := g) hg (argsL := argsL) (rest := rest) (hlen _ hsigM) hstack hdg
  obtain ⟨v, B, X', hpost, hsteps⟩ := hK m meth c ⟨T.setVm vm₁, locs, cells, slots⟩ { g with stack := rest } (.invokestatic index) mk argsL.toArray X₁ hg hsize hdg hW (X₁.named hnamed) (hpre vm₁ X₁.warmed)
  exact ⟨v, vm₁, B, X₁.warmed, X', hpost, fun target h => hstep₁ _ fun acts => by rw [doInvoke_state]; exact hsteps.trans h⟩
theorem vx_runSW {y : MethodName} {bytes cc : ByteArray} {maxL nL mc ms n index : Nat} {ret : Option FieldType} {hh : List (Nat × Nat × Nat × Nat)} {ws : List Cond} {rm : Room} {Pc : Array Value → State → Prop} {Qc : Array Value → State → Outcome → State → Prop} {free : Addr → Prop} {Ts : List Cond} {own : String} {As rest : List Value} {g : JFrame}
    (S : CallFix p m c cc nL s args Ts own) (hM : Met l y ws rm Pc Qc mc ms free) (cw : vx_CSW R s args own index y bytes maxL ret hh ws rm mc ms n) (hp : PreS s H Pc As)
    (hg : g.method = m) (hn : As.length = n) (hsize : g.locals.size = nL) (hstack : g.stack = As.reverse ++ rest) (hW : 2 * g.monitorRoom + (rest.map fun v => v.category).sum ≤ 8) (hdg : decode cc g.pc = .ok (.invokestatic index, 3)) (hf : cells + mc ≤ R.cells ∧ slots + ms ≤ R.slots) :
    va_Run p l e R s m args below meth c H locs cells slots mc ms g rest (Qc As.toArray) (free) := by
  obtain ⟨⟨hrc, hrs, hfr, hlo, hws, hcw⟩, hcode, hini, hy, hlen, hl, hstt⟩ := cw
  have hK : Back l R p e below s args y 3 8 (PreOf R mc ms Pc) (PostOf Qc mc ms free) := va_backW (hh := hh) (bytes := bytes) (maxL := maxL) (ret := ret) hM hp.1 hrc hrs hfr hlo hws hcw (fun a' U hW => word_at hW (Or.inl (by first | rfl | simp [Cond.onTables, Cond.keeps, Cond.steady])) hini)
  obtain ⟨hx, hb, hml, ho, -⟩ := S
  intro T hT X
  obtain ⟨v, vm₁, ⟨U', l2, c2, s2⟩, hW₁, X', ⟨g', mk, t, L, e1, e2, hq, h1, hL, h2, h3⟩, st⟩ := vx_callSW X hx (hh := hh) (bytes := bytes) (maxL := maxL) (ret := ret) ho hl hstt hini hcode hy hK hg (hsize.trans hml.symm) (argsL := As) (rest := rest) (fun sig h => hn.trans (hlen sig h)) hstack hW (by rw [hb]; exact hdg)
    (fun vm₁ hW₁ => ⟨hf.1, hf.2, hp.2 (T.setVm vm₁) hT hW₁⟩)
  dsimp only [Pt.U, Pt.locs, Pt.cells, Pt.slots] at X' e1 e2 h1 h2 h3 st
  subst h1; subst h2; subst h3
  exact ⟨v, (T.setVm vm₁).calling g' mk As.toArray, t, U', L, hT, X', hL, e1, e2, hq, st⟩
/-- a thing of a world lies in the heap -/
theorem vx_lt {D : va_G} {cl : List vw_C} {ws : va_W} {H1 : Heap} (h : va_P D cl ws H1) {k : Nat} {q : Nat × va_E} (hk : ws[k]? = some q) : q.1 < H1.size := (h k q hk).lt
end VXS
/-! ===== END ===== -/
/-! ===== BEGIN methods with a table of their own: called by a name, returning or throwing ===== -/
section VXH
/-! vx_backW, vx_callVX, vx_callSX, vx_callVW, vx_runVW, vx_runVX, vx_runSX, vx_ofWH follow the same proofs as their sisters above (Free/Laws.lean, Shelf42/LK1.lean); vx_outP calls Shelf42/NT130.lean (outThrough). -/
section
variable {l : Launch} {R : Room} {p : Program} {e : Env} {below : List Frame} {s : State} {sargs : Array Value} {y : MethodName} {len W9 : Nat}
theorem vx_backW {ws : List Cond} {rm : Room} {Pc : Array Value → State → Prop} {Qc : Array Value → State → Outcome → State → Prop} {XC : String → State → State → Prop} {mc ms : Nat} {free : Addr → Prop} {bytes : ByteArray} {maxL : Nat} {ret : Option FieldType} {hh : List (Nat × Nat × Nat × Nat)}
    (hM : vx_Met l y ws rm Pc Qc XC mc ms free) (hblind : FrameBlind Pc) (hrc : rm.cells = mc) (hrs : rm.slots = ms)
    (hframes : rm.frames + 1 ≤ R.frames) (hlocals : W9 + (maxL + 11) + rm.locals ≤ R.locals)
    (hws : ∀ w ∈ ws, ∀ a' U, s.WarmedH U.vm → w.before a' U = true) (hcode : Cond.codeWith y bytes maxL ret hh ∈ ws) (hinit : ∀ a' U, s.WarmedH U.vm → (Cond.initialized y.cls).before a' U = true) :
    vx_Back l R p e below s sargs y len W9 (PreOf R mc ms Pc) (PostOf Qc mc ms free) (vx_Post XC mc ms free) := by
  intro m meth c A g ig mk a X hg hsize hdg hW hn hp
  have h1 : (headSpec ws rm).pre.before a A.U = true := atoms_intro fun w hw => hws w hw _ _ X.warmed
  have h2 : (Cond.codeWith y bytes maxL ret hh).before a A.U = true := hws _ hcode _ _ X.warmed
  have h3 : (Cond.initialized y.cls).before a A.U = true := hinit _ _ X.warmed
  have h4 : A.cells + (headSpec ws rm).room.cells ≤ R.cells := by rw [show (headSpec ws rm).room.cells = mc from hrc]; exact hp.1
  have h5 : A.slots + (headSpec ws rm).room.slots ≤ R.slots := by rw [show (headSpec ws rm).room.slots = ms from hrs]; exact hp.2.1
  have hPc : Pc a (A.U.calling g mk a) := hblind _ _ _ _ hp.2.2
  obtain ⟨U, Ls, c0, s0⟩ := A
  dsimp only [Pt.U, Pt.locs, Pt.cells, Pt.slots] at h1 h2 h3 h4 h5 X hn hPc ⊢
  obtain ⟨m9, methY, cY, hn9, hmY, hcY, -, hlY, -⟩ := Cond.codeWith_spec h2
  cases Option.some.inj (hn9.symm.trans hn)
  obtain ⟨kY, hkY, -⟩ := className_of_methodNamed hn
  have hinitY : kY.init = .initialized := Cond.initialized_spec (findClass_of_methodNamed hn) hkY h3
  have h : At U g.method c below := by rw [hg]; exact X.here
  have hlocals9 : W9 + (maxL + 11) + (headSpec ws rm).room.locals ≤ R.locals := hlocals
  have happ : (headSpec ws rm).appliesLoose y e.platform (U.calling g mk a) = true :=
    Spec.appliesLoose_calling (g := g) h hdg hn hkY hinitY
      (X.room_calling (g := g) (R' := (headSpec ws rm).room) hsize hmY hcY hframes (by rw [hlY]; omega) h4 h5) h1
  obtain ⟨mid, hmid⟩ := h.above
  have hfr : (U.setTop g).frames = (.java g :: mid) ++ below := by rw [State.frames_setTop' g h.top, hmid]; rfl
  obtain ⟨o, s₂, hsteps, -, hend, hq⟩ := Steps.callFree hM p X.admits X.cas X.clock (acts := []) hfr happ hPc trivial
  have hq' : vx_Q Qc XC mc ms free a (U.calling g mk a) o s₂ := hq
  rw [State.frames_setTop' g h.top] at hend
  obtain ⟨g₀, hg0⟩ := Option.isSome_iff_exists.mp h.top
  obtain ⟨r, hr⟩ := State.topJava?_eq_some.mp hg0
  have hr' : (({ U with heap := s₂.heap, slotsUsed := s₂.slotsUsed } : State).setVm s₂.vm).frames = .java g₀ :: r := hr
  rcases hq' with ⟨hqc, L, hfe, hL⟩ | ⟨q, rfl, E, ce, L, hx, hce, hcv, hcl, hW₂, hsm, hL⟩
  · obtain ⟨⟨v, rfl⟩, hW₂, e2, q2, q3, q4, q5, q6⟩ := id hfe
    have e3 : s₂ = ({ (U.calling g mk a).setFrames s₂.frames with heap := s₂.heap, slotsUsed := s₂.slotsUsed } : State).setVm s₂.vm := by
      have : s₂ = ({ s₂ with vm := (U.calling g mk a).vm } : State).setVm s₂.vm := rfl
      rw [e2] at this
      exact this
    obtain ⟨c₂, i₂, len₂, hc₂, hd₂, hf₂⟩ := hend
    have hW' : U.WarmedH s₂.vm := hW₂
    have hcc : c₂ = c := by
      have h1 : s₂.code? g.method = U.code? g.method := by
        rw [State.code?_eq, State.code?_eq, hW'.alike.method?]
      exact Option.some.inj (hc₂.symm.trans (h1.trans h.code))
    subst hcc
    have hlen : len₂ = len := by rw [hdg] at hd₂; cases hd₂; rfl
    subst hlen
    have hs₂ : s₂ = (({ U with heap := s₂.heap, slotsUsed := s₂.slotsUsed } : State).setVm s₂.vm).setTop { g with pc := g.pc + len₂, stack := v.toList ++ g.stack } := by
      refine e3.trans ?_
      rw [hf₂, State.calling_eq h.top, State.setFrames_setFrames, State.setTop_of_frames _ hr', hr]
      rfl
    have hsame : U.sameButNew ({ U with heap := s₂.heap, slotsUsed := s₂.slotsUsed } : State) L mc ms := by
      refine ⟨?_, q2, q3, q4, q5, q6⟩
      obtain ⟨t, ht, -⟩ := State.frames_cons hr
      show ({ U with heap := s₂.heap, slotsUsed := s₂.slotsUsed } : State) = { U.setFrames U.frames with heap := s₂.heap, slotsUsed := s₂.slotsUsed }
      rw [State.setFrames_self ht]
    subst hg
    refine Or.inl ⟨v, ⟨(({ U with heap := s₂.heap, slotsUsed := s₂.slotsUsed } : State).setVm s₂.vm), Ls ++ L, c0 + mc, s0 + ms⟩,
      ⟨X.admits, X.cas, X.clock, X.frames, X.room, X.hears, X.method, X.code, (X.here.setHeapUsed s₂.heap s₂.slotsUsed).setVm hW'.alike, X.tail, State.WarmedH.trans X.warmed hW', X.limits, X.bytes, X.same.trans (hsame.setVm s.vm)⟩,
      ⟨g, mk, s₂, L, rfl, rfl, hqc, rfl, hL, rfl, rfl⟩, ?_⟩
    show Steps p.tables e below _ ((({ U with heap := s₂.heap, slotsUsed := s₂.slotsUsed } : State).setVm s₂.vm).setTop { g with pc := g.pc + len₂, stack := v.toList ++ g.stack })
    rw [← hs₂]
    exact hsteps
  · obtain ⟨e2, q2, q3, q4, q5, q6⟩ := id hsm
    have e3 : s₂ = ({ (U.calling g mk a).setFrames s₂.frames with heap := s₂.heap, slotsUsed := s₂.slotsUsed } : State).setVm s₂.vm := by
      have : s₂ = ({ s₂ with vm := (U.calling g mk a).vm } : State).setVm s₂.vm := rfl
      rw [e2] at this
      exact this
    have hf₂ : s₂.frames = .throwing q :: .java g :: U.frames.tail := hend
    have hW' : U.WarmedH s₂.vm := hW₂
    have hs₂ : s₂ = ((({ U with heap := s₂.heap, slotsUsed := s₂.slotsUsed } : State).setVm s₂.vm).setTop g).pushFrame (.throwing q) := by
      refine e3.trans ?_
      rw [hf₂, State.calling_eq h.top, State.setFrames_setFrames, State.pushFrame, State.frames_setTop _ hr', State.setTop_of_frames _ hr', State.setFrames_setFrames, hr]
      rfl
    have hsame : U.sameButNew ({ U with heap := s₂.heap, slotsUsed := s₂.slotsUsed } : State) L mc ms := by
      refine ⟨?_, q2, q3, q4, q5, q6⟩
      obtain ⟨t, ht, -⟩ := State.frames_cons hr
      show ({ U with heap := s₂.heap, slotsUsed := s₂.slotsUsed } : State) = { U.setFrames U.frames with heap := s₂.heap, slotsUsed := s₂.slotsUsed }
      rw [State.setFrames_self ht]
    subst hg
    refine Or.inr ⟨q, ⟨(({ U with heap := s₂.heap, slotsUsed := s₂.slotsUsed } : State).setVm s₂.vm), Ls ++ L, c0 + mc, s0 + ms⟩,
      ⟨X.admits, X.cas, X.clock, X.frames, X.room, X.hears, X.method, X.code, (X.here.setHeapUsed s₂.heap s₂.slotsUsed).setVm hW'.alike, X.tail, State.WarmedH.trans X.warmed hW', X.limits, X.bytes, X.same.trans (hsame.setVm s.vm)⟩,
      ⟨g, mk, s₂, L, E, ce, rfl, rfl, hx, hce, hcv, hcl, rfl, hL, rfl, rfl⟩, ?_⟩
    show Steps p.tables e below _ (((({ U with heap := s₂.heap, slotsUsed := s₂.slotsUsed } : State).setVm s₂.vm).setTop g).pushFrame (.throwing q))
    rw [← hs₂]
    exact hsteps
end
variable {p : Program} {l : Launch} {e : Env} {R : Room} {s : State} {m : MethodId} {args : Array Value} {below : List Frame} {meth : Method} {c : Code} {T : State} {H : Heap} {locs : List Loc} {cells slots : Nat}
theorem vx_callVX (X : Stand p l e R s m args below meth c T locs cells slots) (hexec : p.tables.exec = Jvm.exec) {own C : String} {index : Nat} {y : MethodName} {bytes : ByteArray} {maxL : Nat} {ret : Option FieldType} {hh : List (Nat × Nat × Nat × Nat)}
    (hown : s.vm.findClass own = some m.cls) (hlink : (Cond.methodLink own index y).before args s = true) (hinst : (Cond.instanceMethod y).before args s = true) (hsel : (Cond.selects C y y).before args s = true)
    (hcode : (Cond.codeWith y bytes maxL ret hh).before args s = true) (hy : y.cls ≠ "java/lang/invoke/MethodHandle" ∧ y.cls ≠ "java/lang/invoke/VarHandle")
    {W9 : Nat} {Pre : Pt → Array Value → Prop} {Post : Pt → Array Value → Option Value → Pt → Prop} {PostX : Pt → Array Value → Addr → Pt → Prop} (hK : vx_Back l R p e below s args y 3 W9 Pre Post PostX)
    {b : Addr} {cellB : Cell} (hcell : T.heap[b]? = some cellB) (hobj : cellB.vm.isStatics = false) (hcls : s.vm.findClass C = some cellB.cls)
    {g : JFrame} (hg : g.method = m) (hsize : g.locals.size = c.maxLocals) {argsL rest : List Value} (hlen : ∀ sig, parseMethodDescriptor y.desc = some sig → argsL.length = sig.parameters.length)
    (hstack : g.stack = argsL.reverse ++ .ref b :: rest) (hW : 2 * g.monitorRoom + (rest.map fun v => v.category).sum ≤ W9) (hdg : decode c.code g.pc = .ok (.invokevirtual index, 3))
    (hpre : ∀ vm₁, s.WarmedH vm₁ → Pre ⟨T.setVm vm₁, locs, cells, slots⟩ (Value.ref b :: argsL).toArray) :
    (∃ (v : Option Value) (vm₁ : Vm) (B : Pt), s.WarmedH vm₁ ∧ Stand p l e R s m args below meth c B.U B.locs B.cells B.slots ∧ Post ⟨T.setVm vm₁, locs, cells, slots⟩ (Value.ref b :: argsL).toArray v B ∧
      ∀ target, Steps p.tables e below (B.U.setTop { g with pc := g.pc + 3, stack := v.toList ++ rest }) target → Steps p.tables e below (T.setTop g) target) ∨
    (∃ (q : Addr) (vm₁ : Vm) (B : Pt), s.WarmedH vm₁ ∧ Stand p l e R s m args below meth c B.U B.locs B.cells B.slots ∧ PostX ⟨T.setVm vm₁, locs, cells, slots⟩ (Value.ref b :: argsL).toArray q B ∧
      Steps p.tables e below (T.setTop g) ((B.U.setTop { g with stack := rest }).pushFrame (.throwing q))) := by
  obtain ⟨mk, methM, hnamed, hmethM, hstM, habM⟩ := Cond.instanceMethod_spec hinst
  obtain ⟨m8, methM', cM, hn8, hmethM', -, -, -, -, -, -, hsigM⟩ := Cond.codeWith_spec hcode
  cases Option.some.inj (hn8.symm.trans hnamed)
  cases hmethM.symm.trans hmethM'
  obtain ⟨c2, r2, m2, q1, q2, q3, q4, kP, hkP, hkPi⟩ := Cond.selects_spec hsel
  cases hcls.symm.trans q1
  cases (State.methodFound?_of_named hnamed hy).symm.trans q2
  cases hnamed.symm.trans q3
  have hselP : selectMethod e.platform s.vm cellB.cls mk = .method mk := by rw [Launch.admits_selectMethod X.admits]; exact q4
  obtain ⟨vm₁, X₁, hstep₁⟩ := X.invokevirtual hexec hown hlink hnamed hmethM hstM hkP hkPi hy (a := b) (cell := cellB) hcell
    (fun z h => by rw [h] at hobj; cases hobj) hselP hmethM habM hkP hkPi (g := g) hg (argsL := argsL) (rest := rest) (hlen _ hsigM) hstack hdg
  rcases hK m meth c ⟨T.setVm vm₁, locs, cells, slots⟩ { g with stack := rest } (.invokevirtual index) mk (Value.ref b :: argsL).toArray X₁ hg hsize hdg hW (X₁.named hnamed) (hpre vm₁ X₁.warmed) with ⟨v, B, X', hpost, hsteps⟩ | ⟨q, B, X', hpost, hsteps⟩
  · exact Or.inl ⟨v, vm₁, B, X₁.warmed, X', hpost, fun target h => hstep₁ _ fun acts => by rw [doInvoke_state]; exact hsteps.trans h⟩
  · exact Or.inr ⟨q, vm₁, B, X₁.warmed, X', hpost, hstep₁ _ fun acts => by rw [doInvoke_state]; exact hsteps⟩
theorem vx_callSX (X : Stand p l e R s m args below meth c T locs cells slots) (hexec : p.tables.exec = Jvm.exec) {own : String} {index : Nat} {y : MethodName} {bytes : ByteArray} {maxL : Nat} {ret : Option FieldType} {hh : List (Nat × Nat × Nat × Nat)}
    (hown : s.vm.findClass own = some m.cls) (hlink : (Cond.methodLink own index y).before args s = true) (hstat : (Cond.static y).before args s = true) (hinit : (Cond.initialized y.cls).before args s = true)
    (hcode : (Cond.codeWith y bytes maxL ret hh).before args s = true) (hy : y.cls ≠ "java/lang/invoke/MethodHandle" ∧ y.cls ≠ "java/lang/invoke/VarHandle")
    {W9 : Nat} {Pre : Pt → Array Value → Prop} {Post : Pt → Array Value → Option Value → Pt → Prop} {PostX : Pt → Array Value → Addr → Pt → Prop} (hK : vx_Back l R p e below s args y 3 W9 Pre Post PostX)
    {g : JFrame} (hg : g.method = m) (hsize : g.locals.size = c.maxLocals) {argsL rest : List Value} (hlen : ∀ sig, parseMethodDescriptor y.desc = some sig → argsL.length = sig.parameters.length)
    (hstack : g.stack = argsL.reverse ++ rest) (hW : 2 * g.monitorRoom + (rest.map fun v => v.category).sum ≤ W9) (hdg : decode c.code g.pc = .ok (.invokestatic index, 3))
    (hpre : ∀ vm₁, s.WarmedH vm₁ → Pre ⟨T.setVm vm₁, locs, cells, slots⟩ argsL.toArray) :
    (∃ (v : Option Value) (vm₁ : Vm) (B : Pt), s.WarmedH vm₁ ∧ Stand p l e R s m args below meth c B.U B.locs B.cells B.slots ∧ Post ⟨T.setVm vm₁, locs, cells, slots⟩ argsL.toArray v B ∧
      ∀ target, Steps p.tables e below (B.U.setTop { g with pc := g.pc + 3, stack := v.toList ++ rest }) target → Steps p.tables e below (T.setTop g) target) ∨
    (∃ (q : Addr) (vm₁ : Vm) (B : Pt), s.WarmedH vm₁ ∧ Stand p l e R s m args below meth c B.U B.locs B.cells B.slots ∧ PostX ⟨T.setVm vm₁, locs, cells, slots⟩ argsL.toArray q B ∧
      Steps p.tables e below (T.setTop g) ((B.U.setTop { g with stack := rest }).pushFrame (.throwing q))) := by
  obtain ⟨mk, methM, cM, hnamed, hmethM, -, -, -, -, -, -, hsigM⟩ := Cond.codeWith_spec hcode
  have hstatic : methM.isStatic = true := Cond.static_spec hnamed hmethM hstat
  obtain ⟨kP, hkP, -⟩ := className_of_methodNamed hnamed
  have hinitP : kP.init = .initialized := Cond.initialized_spec (findClass_of_methodNamed hnamed) hkP hinit
  obtain ⟨vm₁, X₁, hstep₁⟩ := X.invokestatic hexec hown hlink hnamed hmethM hstatic hkP hinitP hy (g := g) hg (argsL := argsL) (rest := rest) (hlen _ hsigM) hstack hdg
  rcases hK m meth c ⟨T.setVm vm₁, locs, cells, slots⟩ { g with stack := rest } (.invokestatic index) mk argsL.toArray X₁ hg hsize hdg hW (X₁.named hnamed) (hpre vm₁ X₁.warmed) with ⟨v, B, X', hpost, hsteps⟩ | ⟨q, B, X', hpost, hsteps⟩
  · exact Or.inl ⟨v, vm₁, B, X₁.warmed, X', hpost, fun target h => hstep₁ _ fun acts => by rw [doInvoke_state]; exact hsteps.trans h⟩
  · exact Or.inr ⟨q, vm₁, B, X₁.warmed, X', hpost, hstep₁ _ fun acts => by rw [doInvoke_state]; exact hsteps⟩
theorem vx_callVW (X : Stand p l e R s m args below meth c T locs cells slots) (hexec : p.tables.exec = Jvm.exec) {own C : String} {index : Nat} {y : MethodName} {bytes : ByteArray} {maxL : Nat} {ret : Option FieldType} {hh : List (Nat × Nat × Nat × Nat)}
    (hown : s.vm.findClass own = some m.cls) (hlink : (Cond.methodLink own index y).before args s = true) (hinst : (Cond.instanceMethod y).before args s = true) (hsel : (Cond.selects C y y).before args s = true)
    (hcode : (Cond.codeWith y bytes maxL ret hh).before args s = true) (hy : y.cls ≠ "java/lang/invoke/MethodHandle" ∧ y.cls ≠ "java/lang/invoke/VarHandle")
    {W9 : Nat} {Pre : Pt → Array Value → Prop} {Post : Pt → Array Value → Option Value → Pt → Prop} (hK : Back l R p e below s args y 3 W9 Pre Post)
    {b : Addr} {cellB : Cell} (hcell : T.heap[b]? = some cellB) (hobj : cellB.vm.isStatics = false) (hcls : s.vm.findClass C = some cellB.cls)
    {g : JFrame} (hg : g.method = m) (hsize : g.locals.size = c.maxLocals) {argsL rest : List Value} (hlen : ∀ sig, parseMethodDescriptor y.desc = some sig → argsL.length = sig.parameters.length)
    (hstack : g.stack = argsL.reverse ++ .ref b :: rest) (hW : 2 * g.monitorRoom + (rest.map fun v => v.category).sum ≤ W9) (hdg : decode c.code g.pc = .ok (.invokevirtual index, 3))
    (hpre : ∀ vm₁, s.WarmedH vm₁ → Pre ⟨T.setVm vm₁, locs, cells, slots⟩ (Value.ref b :: argsL).toArray) :
    ∃ (v : Option Value) (vm₁ : Vm) (B : Pt), s.WarmedH vm₁ ∧ Stand p l e R s m args below meth c B.U B.locs B.cells B.slots ∧ Post ⟨T.setVm vm₁, locs, cells, slots⟩ (Value.ref b :: argsL).toArray v B ∧
      ∀ target, Steps p.tables e below (B.U.setTop { g with pc := g.pc + 3, stack := v.toList ++ rest }) target → Steps p.tables e below (T.setTop g) target := by
  obtain ⟨mk, methM, hnamed, hmethM, hstM, habM⟩ := Cond.instanceMethod_spec hinst
  obtain ⟨m8, methM', cM, hn8, hmethM', -, -, -, -, -, -, hsigM⟩ := Cond.codeWith_spec hcode
  cases Option.some.inj (hn8.symm.trans hnamed)
  cases hmethM.symm.trans hmethM'
  obtain ⟨c2, r2, m2, q1, q2, q3, q4, kP, hkP, hkPi⟩ := Cond.selects_spec hsel
  cases hcls.symm.trans q1
  cases (State.methodFound?_of_named hnamed hy).symm.trans q2
  cases hnamed.symm.trans q3
  have hselP : selectMethod e.platform s.vm cellB.cls mk = .method mk := by rw [Launch.admits_selectMethod X.admits]; exact q4
  obtain ⟨vm₁, X₁, hstep₁⟩ := X.invokevirtual hexec hown hlink hnamed hmethM hstM hkP hkPi hy (a := b) (cell := cellB) hcell
    (fun z h => by rw [h] at hobj; cases hobj) hselP hmethM habM hkP hkPi (g := g) hg (argsL := argsL) (rest := rest) (hlen _ hsigM) hstack hdg
  obtain ⟨v, B, X', hpost, hsteps⟩ := hK m meth c ⟨T.setVm vm₁, locs, cells, slots⟩ { g with stack := rest } (.invokevirtual index) mk (Value.ref b :: argsL).toArray X₁ hg hsize hdg hW (X₁.named hnamed) (hpre vm₁ X₁.warmed)
  exact ⟨v, vm₁, B, X₁.warmed, X', hpost, fun target h => hstep₁ _ fun acts => by rw [doInvoke_state]; exact hsteps.trans h⟩
abbrev vx_CVW (R : Room) (s : State) (args : Array Value) (own C : String) (index : Nat) (y : MethodName) (bytes : ByteArray) (maxL : Nat) (ret : Option FieldType) (hh : List (Nat × Nat × Nat × Nat)) (ws : List Cond) (rm : Room) (mc ms n : Nat) : Prop :=
  (rm.cells = mc ∧ rm.slots = ms ∧ rm.frames + 1 ≤ R.frames ∧ 8 + (maxL + 11) + rm.locals ≤ R.locals ∧ (∀ w ∈ ws, ∀ (a' : Array Value) (U : State), s.WarmedH U.vm → w.before a' U = true) ∧ Cond.codeWith y bytes maxL ret hh ∈ ws) ∧
  (Cond.codeWith y bytes maxL ret hh).before args s = true ∧ (Cond.initialized y.cls).before args s = true ∧ (y.cls ≠ "java/lang/invoke/MethodHandle" ∧ y.cls ≠ "java/lang/invoke/VarHandle") ∧
  (∀ sig, parseMethodDescriptor y.desc = some sig → n = sig.parameters.length) ∧ (Cond.methodLink own index y).before args s = true ∧ (Cond.instanceMethod y).before args s = true ∧ (Cond.selects C y y).before args s = true
theorem vx_cwVW {own C : String} {index maxL mc ms : Nat} {y : MethodName} {bytes : ByteArray} {ret : Option FieldType} {hh : List (Nat × Nat × Nat × Nat)} {Ts ws ws' : List Cond} {rm : Room} (n : Nat) (ht : ∀ w ∈ Ts, w.before args s = true) (hT : GoodIn Ts (wsV own index C y ws)) (hw : ws = Cond.codeWith y bytes maxL ret hh :: ws') (hrc : rm.cells = mc) (hrs : rm.slots = ms)
    (hd : y.cls = C ∧ y.cls ≠ "java/lang/invoke/MethodHandle" ∧ y.cls ≠ "java/lang/invoke/VarHandle" ∧ (parseMethodDescriptor y.desc).map (fun d => d.parameters.length) = some n) (hR : rm.frames + 1 ≤ R.frames ∧ 8 + (maxL + 11) + rm.locals ≤ R.locals) :
    vx_CVW R s args own C index y bytes maxL ret hh ws rm mc ms n := by
  obtain ⟨hC, hd⟩ := hd
  subst hC
  have ok : ∀ w ∈ wsV own index y.cls y ws, w.before args s = true := fun w h => ht w (hT w h).1
  have hG : GoodIn Ts ws := fun w h => hT w (by unfold wsV; exact List.mem_append_right _ h)
  have hc : Cond.codeWith y bytes maxL ret hh ∈ ws := by rw [hw]; exact List.mem_cons_self
  refine ⟨⟨hrc, hrs, hR.1, hR.2, pay_in ht hG, hc⟩, ht _ (hG _ hc).1, ok _ (by simp [wsV]), ⟨hd.1, hd.2.1⟩, fun sig h => ?_, ok _ (by simp [wsV]), ok _ (by simp [wsV]), ok _ (by simp [wsV])⟩
  have h2 := hd.2.2
  rw [h] at h2
  exact (Option.some.inj h2).symm
theorem vx_runVW {y : MethodName} {bytes cc : ByteArray} {maxL nL mc ms n index : Nat} {ret : Option FieldType} {hh : List (Nat × Nat × Nat × Nat)} {ws : List Cond} {rm : Room} {Pc : Array Value → State → Prop} {Qc : Array Value → State → Outcome → State → Prop} {free : Addr → Prop} {Ts : List Cond} {own C : String} {b : Addr} {As rest : List Value} {g : JFrame}
    (S : CallFix p m c cc nL s args Ts own) (hM : Met l y ws rm Pc Qc mc ms free) (cw : vx_CVW R s args own C index y bytes maxL ret hh ws rm mc ms n) (hp : PreV s H C b Pc As)
    (hg : g.method = m) (hn : As.length = n) (hsize : g.locals.size = nL) (hstack : g.stack = As.reverse ++ .ref b :: rest) (hW : 2 * g.monitorRoom + (rest.map fun v => v.category).sum ≤ 8) (hdg : decode cc g.pc = .ok (.invokevirtual index, 3)) (hf : cells + mc ≤ R.cells ∧ slots + ms ≤ R.slots) :
    va_Run p l e R s m args below meth c H locs cells slots mc ms g rest (Qc (Value.ref b :: As).toArray) free := by
  obtain ⟨⟨hrc, hrs, hfr, hlo, hws, hcw⟩, hcode, hini, hy, hlen, hl, hin, hse⟩ := cw
  have hK : Back l R p e below s args y 3 8 (PreOf R mc ms Pc) (PostOf Qc mc ms free) := va_backW (hh := hh) (bytes := bytes) (maxL := maxL) (ret := ret) hM hp.1 hrc hrs hfr hlo hws hcw (fun a' U hW => word_at hW (Or.inl (by first | rfl | simp [Cond.onTables, Cond.keeps, Cond.steady])) hini)
  obtain ⟨hx, hb, hml, ho, -⟩ := S
  obtain ⟨-, ⟨cellB, hcB, hoB, hclB⟩, hPc⟩ := hp
  intro T hT X
  obtain ⟨v, vm₁, ⟨U', l2, c2, s2⟩, hW₁, X', ⟨g', mk, t, L, e1, e2, hq, h1, hL, h2, h3⟩, st⟩ := vx_callVW X hx (C := C) (hh := hh) (bytes := bytes) (maxL := maxL) (ret := ret) ho hl hin hse hcode hy hK (by rw [hT]; exact hcB) hoB hclB hg (hsize.trans hml.symm) (argsL := As) (rest := rest) (fun sig h => hn.trans (hlen sig h)) hstack hW (by rw [hb]; exact hdg)
    (fun vm₁ hW₁ => ⟨hf.1, hf.2, hPc (T.setVm vm₁) hT hW₁⟩)
  dsimp only [Pt.U, Pt.locs, Pt.cells, Pt.slots] at X' e1 e2 h1 h2 h3 st
  subst h1; subst h2; subst h3
  exact ⟨v, (T.setVm vm₁).calling g' mk (Value.ref b :: As).toArray, t, U', L, hT, X', hL, e1, e2, hq, st⟩
section
variable {y : MethodName} {bytes cc : ByteArray} {maxL nL mc ms n index : Nat} {ret : Option FieldType} {ws : List Cond} {rm : Room} {Pc : Array Value → State → Prop} {Qc : Array Value → State → Outcome → State → Prop} {XC : String → State → State → Prop} {free : Addr → Prop} {Ts : List Cond} {own C : String} {b : Addr} {As rest : List Value} {g : JFrame}
theorem vx_runVX {hh : List (Nat × Nat × Nat × Nat)} (S : CallFix p m c cc nL s args Ts own) (hM : vx_Met l y ws rm Pc Qc XC mc ms free) (cw : vx_CVW R s args own C index y bytes maxL ret hh ws rm mc ms n) (hp : PreV s H C b Pc As)
    (hg : g.method = m) (hn : As.length = n) (hsize : g.locals.size = nL) (hstack : g.stack = As.reverse ++ .ref b :: rest) (hW : 2 * g.monitorRoom + (rest.map fun v => v.category).sum ≤ 8) (hdg : decode cc g.pc = .ok (.invokevirtual index, 3)) (hf : cells + mc ≤ R.cells ∧ slots + ms ≤ R.slots) :
    vx_Run p l e R s m args below meth c H locs cells slots mc ms g rest (Qc (Value.ref b :: As).toArray) XC free := by
  obtain ⟨⟨hrc, hrs, hfr, hlo, hws, hcw⟩, hcode, hini, hy, hlen, hl, hin, hse⟩ := cw
  have hK : vx_Back l R p e below s args y 3 8 (PreOf R mc ms Pc) (PostOf Qc mc ms free) (vx_Post XC mc ms free) := vx_backW (hh := hh) (bytes := bytes) (maxL := maxL) (ret := ret) hM hp.1 hrc hrs hfr hlo hws hcw (fun a' U hW => word_at hW (Or.inl (by first | rfl | simp [Cond.onTables, Cond.keeps, Cond.steady])) hini)
  obtain ⟨hx, hb, hml, ho, -⟩ := S
  obtain ⟨-, ⟨cellB, hcB, hoB, hclB⟩, hPc⟩ := hp
  intro T hT X
  rcases vx_callVX X hx (C := C) (hh := hh) (bytes := bytes) (maxL := maxL) (ret := ret) ho hl hin hse hcode hy hK (by rw [hT]; exact hcB) hoB hclB hg (hsize.trans hml.symm) (argsL := As) (rest := rest) (fun sig h => hn.trans (hlen sig h)) hstack hW (by rw [hb]; exact hdg)
    (fun vm₁ hW₁ => ⟨hf.1, hf.2, hPc (T.setVm vm₁) hT hW₁⟩) with ⟨v, vm₁, ⟨U', l2, c2, s2⟩, hW₁, X', ⟨g', mk, t, L, e1, e2, hq, h1, hL, h2, h3⟩, st⟩ | ⟨q, vm₁, ⟨U', l2, c2, s2⟩, hW₁, X', ⟨g', mk, t, L, E, ce, e1, e2, hq, hce, hcv, hcl, h1, hL, h2, h3⟩, st⟩
  · dsimp only [Pt.U, Pt.locs, Pt.cells, Pt.slots] at X' e1 e2 h1 h2 h3 st
    subst h1; subst h2; subst h3
    exact Or.inl ⟨v, (T.setVm vm₁).calling g' mk (Value.ref b :: As).toArray, t, U', L, hT, X', hL, e1, e2, hq, st⟩
  · dsimp only [Pt.U, Pt.locs, Pt.cells, Pt.slots] at X' e1 e2 h1 h2 h3 st hcl
    subst h1; subst h2; subst h3
    exact Or.inr ⟨q, (T.setVm vm₁).calling g' mk (Value.ref b :: As).toArray, t, U', L, E, ce, hT, X', hL, e1, e2, hq, hce, hcv, vx_cls hW₁ hcl, st⟩
theorem vx_runSX {hh : List (Nat × Nat × Nat × Nat)} (S : CallFix p m c cc nL s args Ts own) (hM : vx_Met l y ws rm Pc Qc XC mc ms free) (cw : vx_CSW R s args own index y bytes maxL ret hh ws rm mc ms n) (hp : PreS s H Pc As)
    (hg : g.method = m) (hn : As.length = n) (hsize : g.locals.size = nL) (hstack : g.stack = As.reverse ++ rest) (hW : 2 * g.monitorRoom + (rest.map fun v => v.category).sum ≤ 8) (hdg : decode cc g.pc = .ok (.invokestatic index, 3)) (hf : cells + mc ≤ R.cells ∧ slots + ms ≤ R.slots) :
    vx_Run p l e R s m args below meth c H locs cells slots mc ms g rest (Qc As.toArray) XC free := by
  obtain ⟨⟨hrc, hrs, hfr, hlo, hws, hcw⟩, hcode, hini, hy, hlen, hl, hstt⟩ := cw
  have hK : vx_Back l R p e below s args y 3 8 (PreOf R mc ms Pc) (PostOf Qc mc ms free) (vx_Post XC mc ms free) := vx_backW (hh := hh) (bytes := bytes) (maxL := maxL) (ret := ret) hM hp.1 hrc hrs hfr hlo hws hcw (fun a' U hW => word_at hW (Or.inl (by first | rfl | simp [Cond.onTables, Cond.keeps, Cond.steady])) hini)
  obtain ⟨hx, hb, hml, ho, -⟩ := S
  intro T hT X
  rcases vx_callSX X hx (hh := hh) (bytes := bytes) (maxL := maxL) (ret := ret) ho hl hstt hini hcode hy hK hg (hsize.trans hml.symm) (argsL := As) (rest := rest) (fun sig h => hn.trans (hlen sig h)) hstack hW (by rw [hb]; exact hdg)
    (fun vm₁ hW₁ => ⟨hf.1, hf.2, hp.2 (T.setVm vm₁) hT hW₁⟩) with ⟨v, vm₁, ⟨U', l2, c2, s2⟩, hW₁, X', ⟨g', mk, t, L, e1, e2, hq, h1, hL, h2, h3⟩, st⟩ | ⟨q, vm₁, ⟨U', l2, c2, s2⟩, hW₁, X', ⟨g', mk, t, L, E, ce, e1, e2, hq, hce, hcv, hcl, h1, hL, h2, h3⟩, st⟩
  · dsimp only [Pt.U, Pt.locs, Pt.cells, Pt.slots] at X' e1 e2 h1 h2 h3 st
    subst h1; subst h2; subst h3
    exact Or.inl ⟨v, (T.setVm vm₁).calling g' mk As.toArray, t, U', L, hT, X', hL, e1, e2, hq, st⟩
  · dsimp only [Pt.U, Pt.locs, Pt.cells, Pt.slots] at X' e1 e2 h1 h2 h3 st hcl
    subst h1; subst h2; subst h3
    exact Or.inr ⟨q, (T.setVm vm₁).calling g' mk As.toArray, t, U', L, E, ce, hT, X', hL, e1, e2, hq, hce, hcv, vx_cls hW₁ hcl, st⟩
end
end VXH
theorem vx_ofWH {l : Launch} {y : MethodName} {ws ws' : List Cond} {rm : Room} {Pc : Array Value → State → Prop} {Qc : Array Value → State → Outcome → State → Prop} {XC : String → State → State → Prop} {mc ms : Nat} {free : Addr → Prop} {cc : ByteArray} {maxL : Nat} {ret : Option FieldType} {hh : List (Nat × Nat × Nat × Nat)}
    (hy : plainName y.cls = true) (hw : ws = Cond.codeWith y cc maxL ret hh :: ws')
    (body : ∀ p e s m args below meth c s₁, BodyLoose p l y (headSpec ws rm) cc maxL ret e s m args below meth c s₁ → c.maxLocals = maxL → Pc args s →
      W p l e (headSpec ws rm).room s m args below meth c s.heap [] 0 0 (vx_MQ below Qc XC args s mc ms free) (entryFrame m args maxL)) : vx_Met l y ws rm Pc Qc XC mc ms free := by
  refine MetFree.of_bodyS (code := cc) (maxLocals := maxL) (ret := ret) hy ?_ ?_
  · intro args s m h hn
    obtain ⟨m9, meth, c, hn9, h1, h2, h3, h4, -, h5, h6, -⟩ := Cond.codeWith_spec (atoms_spec (ws := ws) h _ (by rw [hw]; exact List.mem_cons_self))
    cases hn.symm.trans hn9
    exact ⟨meth, c, h1, h2, h3, h4, h5, h6⟩
  · intro p e s m args below meth c s₁ B hml hP _
    have hh0 : s₁.heap = s.heap := by rw [B.state]; rfl
    obtain ⟨t, a1, o, b1, b2, b3⟩ := body p e s m args below meth c s₁ B hml hP s₁ hh0 (Stand.of_body B)
    exact ⟨t, o, a1, b1, b2, b3⟩
/-! ===== END ===== -/
end
section
def RX0 : String := "KeyRing$Member"
def TX0 : u_T := fun k => match k with
  | 0 => ("KeyRing$Member", "list", "[I", true)
  | 1 => ("KeyRing$Member", "fingers", "[I", true)
  | 2 => ("KeyRing$Member", "versions", "[I", true)
  | 3 => ("KeyRing$Member", "owners", "[I", true)
  | 4 => ("KeyRing$Member", "values", "[I", true)
  | 5 => ("KeyRing$Member", "point", "I", false)
  | 6 => ("KeyRing$Member", "predecessor", "I", false)
  | _ => ("KeyRing$Member", "dueFinger", "I", false)
def tyX0 : Nat → FieldType := fun k => match k with
  | 0 => .array .int
  | 1 => .array .int
  | 2 => .array .int
  | 3 => .array .int
  | 4 => .array .int
  | 5 => .int
  | 6 => .int
  | _ => .int
theorem nmX0 : ∀ a, a < 8 → ∀ b, b < 8 → a ≠ b → (TX0 a).2.1 ≠ (TX0 b).2.1 := by decide +kernel
theorem tyX0_ok : ∀ k, k < 8 → parseFieldDescriptor (TX0 k).2.2.1 = some (tyX0 k) := by decide +kernel
abbrev cX0_init : ByteArray := prog_2_method_1_code
def yX0_init : MethodName := ⟨RX0, "<init>", "()V"⟩
abbrev cX0_begin : ByteArray := prog_2_method_2_code
def yX0_begin : MethodName := ⟨RX0, "begin", "(I)V"⟩
def RX1 : String := "KeyRing"
def TX1 : u_T := fun k => match k with
  | 0 => ("KeyRing", "rows", "[LKeyRing$Member;", true)
  | 1 => ("KeyRing", "byPoint", "[LKeyRing$Member;", true)
  | 2 => ("KeyRing", "taken", "[Z", true)
  | 3 => ("KeyRing", "trail", "[I", true)
  | 4 => ("KeyRing", "trailHops", "I", false)
  | 5 => ("KeyRing", "lookTrail", "[I", true)
  | 6 => ("KeyRing", "lookHops", "I", false)
  | 7 => ("KeyRing", "depth", "I", false)
  | 8 => ("KeyRing", "isOpen", "Z", false)
  | 9 => ("KeyRing", "live", "I", false)
  | 10 => ("KeyRing", "failed", "I", false)
  | _ => ("KeyRing", "allHops", "I", false)
def tyX1 : Nat → FieldType := fun k => match k with
  | 0 => .array (.object "KeyRing$Member")
  | 1 => .array (.object "KeyRing$Member")
  | 2 => .array .boolean
  | 3 => .array .int
  | 4 => .int
  | 5 => .array .int
  | 6 => .int
  | 7 => .int
  | 8 => .boolean
  | 9 => .int
  | 10 => .int
  | _ => .int
theorem nmX1 : ∀ a, a < 12 → ∀ b, b < 12 → a ≠ b → (TX1 a).2.1 ≠ (TX1 b).2.1 := by decide +kernel
theorem tyX1_ok : ∀ k, k < 12 → parseFieldDescriptor (TX1 k).2.2.1 = some (tyX1 k) := by decide +kernel
abbrev cX1_init : ByteArray := prog_1_method_1_code
def yX1_init : MethodName := ⟨RX1, "<init>", "()V"⟩
abbrev cX1_depth : ByteArray := prog_1_method_2_code
def yX1_depth : MethodName := ⟨RX1, "depth", "(I)I"⟩
abbrev cX1_found : ByteArray := prog_1_method_3_code
def yX1_found : MethodName := ⟨RX1, "found", "(I)I"⟩
abbrev cX1_open : ByteArray := prog_1_method_4_code
def yX1_open : MethodName := ⟨RX1, "open", "()I"⟩
abbrev cX1_join : ByteArray := prog_1_method_5_code
def yX1_join : MethodName := ⟨RX1, "join", "(II)I"⟩
abbrev cX1_fail : ByteArray := prog_1_method_6_code
def yX1_fail : MethodName := ⟨RX1, "fail", "(I)I"⟩
abbrev cX1_stabilise : ByteArray := prog_1_method_7_code
def yX1_stabilise : MethodName := ⟨RX1, "stabilise", "(I)I"⟩
abbrev cX1_mend : ByteArray := prog_1_method_8_code
def yX1_mend : MethodName := ⟨RX1, "mend", "(II)I"⟩
abbrev cX1_handOver : ByteArray := prog_1_method_9_code
def yX1_handOver : MethodName := ⟨RX1, "handOver", "(I)I"⟩
abbrev cX1_spread : ByteArray := prog_1_method_10_code
def yX1_spread : MethodName := ⟨RX1, "spread", "(I)I"⟩
abbrev cX1_rounds : ByteArray := prog_1_method_11_code
def yX1_rounds : MethodName := ⟨RX1, "rounds", "(I)I"⟩
abbrev cX1_look : ByteArray := prog_1_method_12_code
def yX1_look : MethodName := ⟨RX1, "look", "(II)I"⟩
abbrev cX1_hop : ByteArray := prog_1_method_13_code
def yX1_hop : MethodName := ⟨RX1, "hop", "(I)I"⟩
abbrev cX1_put : ByteArray := prog_1_method_14_code
def yX1_put : MethodName := ⟨RX1, "put", "(III)I"⟩
abbrev cX1_get : ByteArray := prog_1_method_15_code
def yX1_get : MethodName := ⟨RX1, "get", "(II)I"⟩
abbrev cX1_held : ByteArray := prog_1_method_16_code
def yX1_held : MethodName := ⟨RX1, "held", "(III)I"⟩
abbrev cX1_known : ByteArray := prog_1_method_17_code
def yX1_known : MethodName := ⟨RX1, "known", "(II)I"⟩
abbrev cX1_owner : ByteArray := prog_1_method_18_code
def yX1_owner : MethodName := ⟨RX1, "owner", "(I)I"⟩
abbrev cX1_ideal : ByteArray := prog_1_method_19_code
def yX1_ideal : MethodName := ⟨RX1, "ideal", "()Z"⟩
abbrev cX1_count : ByteArray := prog_1_method_20_code
def yX1_count : MethodName := ⟨RX1, "count", "(I)I"⟩
abbrev cX1_find : ByteArray := prog_1_method_21_code
def yX1_find : MethodName := ⟨RX1, "find", "(I)LKeyRing$Member;"⟩
abbrev cX1_requireKey : ByteArray := prog_1_method_22_code
def yX1_requireKey : MethodName := ⟨RX1, "requireKey", "(I)V"⟩
abbrev cX1_requirePoint : ByteArray := prog_1_method_23_code
def yX1_requirePoint : MethodName := ⟨RX1, "requirePoint", "(I)V"⟩
abbrev cX1_requireRoomAt : ByteArray := prog_1_method_24_code
def yX1_requireRoomAt : MethodName := ⟨RX1, "requireRoomAt", "(I)V"⟩
abbrev cX1_isPoint : ByteArray := prog_1_method_25_code
def yX1_isPoint : MethodName := ⟨RX1, "isPoint", "(I)Z"⟩
abbrev cX1_pointUp : ByteArray := prog_1_method_26_code
def yX1_pointUp : MethodName := ⟨RX1, "pointUp", "(II)I"⟩
abbrev cX1_stepsUp : ByteArray := prog_1_method_27_code
def yX1_stepsUp : MethodName := ⟨RX1, "stepsUp", "(II)I"⟩
abbrev cX1_isBetween : ByteArray := prog_1_method_28_code
def yX1_isBetween : MethodName := ⟨RX1, "isBetween", "(III)Z"⟩
abbrev cX1_pointOfKey : ByteArray := prog_1_method_29_code
def yX1_pointOfKey : MethodName := ⟨RX1, "pointOfKey", "(I)I"⟩
abbrev cX1_liveAt : ByteArray := prog_1_method_30_code
def yX1_liveAt : MethodName := ⟨RX1, "liveAt", "(I)LKeyRing$Member;"⟩
abbrev cX1_livePointInTurn : ByteArray := prog_1_method_31_code
def yX1_livePointInTurn : MethodName := ⟨RX1, "livePointInTurn", "(I)I"⟩
abbrev cX1_trueOwner : ByteArray := prog_1_method_32_code
def yX1_trueOwner : MethodName := ⟨RX1, "trueOwner", "(I)I"⟩
abbrev cX1_addMember : ByteArray := prog_1_method_33_code
def yX1_addMember : MethodName := ⟨RX1, "addMember", "(I)LKeyRing$Member;"⟩
abbrev cX1_removeMember : ByteArray := prog_1_method_34_code
def yX1_removeMember : MethodName := ⟨RX1, "removeMember", "(LKeyRing$Member;)V"⟩
abbrev cX1_knowsLiveOneBeside : ByteArray := prog_1_method_35_code
def yX1_knowsLiveOneBeside : MethodName := ⟨RX1, "knowsLiveOneBeside", "(LKeyRing$Member;LKeyRing$Member;)Z"⟩
abbrev cX1_successor : ByteArray := prog_1_method_36_code
def yX1_successor : MethodName := ⟨RX1, "successor", "(LKeyRing$Member;)LKeyRing$Member;"⟩
abbrev cX1_lookFor : ByteArray := prog_1_method_37_code
def yX1_lookFor : MethodName := ⟨RX1, "lookFor", "(LKeyRing$Member;I)LKeyRing$Member;"⟩
abbrev cX1_ownerKnownBy : ByteArray := prog_1_method_38_code
def yX1_ownerKnownBy : MethodName := ⟨RX1, "ownerKnownBy", "(LKeyRing$Member;I)LKeyRing$Member;"⟩
abbrev cX1_lastKnownAheadOf : ByteArray := prog_1_method_39_code
def yX1_lastKnownAheadOf : MethodName := ⟨RX1, "lastKnownAheadOf", "(LKeyRing$Member;I)LKeyRing$Member;"⟩
abbrev cX1_takeOver : ByteArray := prog_1_method_40_code
def yX1_takeOver : MethodName := ⟨RX1, "takeOver", "(LKeyRing$Member;LKeyRing$Member;)V"⟩
abbrev cX1_stabiliseMember : ByteArray := prog_1_method_41_code
def yX1_stabiliseMember : MethodName := ⟨RX1, "stabiliseMember", "(LKeyRing$Member;)V"⟩
abbrev cX1_tell : ByteArray := prog_1_method_42_code
def yX1_tell : MethodName := ⟨RX1, "tell", "(LKeyRing$Member;LKeyRing$Member;)V"⟩
abbrev cX1_mendFinger : ByteArray := prog_1_method_43_code
def yX1_mendFinger : MethodName := ⟨RX1, "mendFinger", "(LKeyRing$Member;I)V"⟩
abbrev cX1_takeTurn : ByteArray := prog_1_method_44_code
def yX1_takeTurn : MethodName := ⟨RX1, "takeTurn", "(LKeyRing$Member;)I"⟩
abbrev cX1_takeFromSuccessor : ByteArray := prog_1_method_45_code
def yX1_takeFromSuccessor : MethodName := ⟨RX1, "takeFromSuccessor", "(LKeyRing$Member;)I"⟩
abbrev cX1_spreadFrom : ByteArray := prog_1_method_46_code
def yX1_spreadFrom : MethodName := ⟨RX1, "spreadFrom", "(LKeyRing$Member;)I"⟩
abbrev cX1_isInCare : ByteArray := prog_1_method_47_code
def yX1_isInCare : MethodName := ⟨RX1, "isInCare", "(LKeyRing$Member;LKeyRing$Member;I)Z"⟩
abbrev cX1_copyToList : ByteArray := prog_1_method_48_code
def yX1_copyToList : MethodName := ⟨RX1, "copyToList", "(LKeyRing$Member;I)I"⟩
abbrev cX1_copyIfHigher : ByteArray := prog_1_method_49_code
def yX1_copyIfHigher : MethodName := ⟨RX1, "copyIfHigher", "(LKeyRing$Member;LKeyRing$Member;I)Z"⟩
abbrev cX1_isHigher : ByteArray := prog_1_method_50_code
def yX1_isHigher : MethodName := ⟨RX1, "isHigher", "(LKeyRing$Member;LKeyRing$Member;I)Z"⟩
abbrev cX1_highestInList : ByteArray := prog_1_method_51_code
def yX1_highestInList : MethodName := ⟨RX1, "highestInList", "(LKeyRing$Member;I)LKeyRing$Member;"⟩
abbrev cX1_isIdealMember : ByteArray := prog_1_method_52_code
def yX1_isIdealMember : MethodName := ⟨RX1, "isIdealMember", "(I)Z"⟩
abbrev cX1_countPairs : ByteArray := prog_1_method_53_code
def yX1_countPairs : MethodName := ⟨RX1, "countPairs", "()I"⟩
abbrev cX1_countTrueFingers : ByteArray := prog_1_method_54_code
def yX1_countTrueFingers : MethodName := ⟨RX1, "countTrueFingers", "()I"⟩
abbrev cX1_countTrueSuccessors : ByteArray := prog_1_method_55_code
def yX1_countTrueSuccessors : MethodName := ⟨RX1, "countTrueSuccessors", "()I"⟩
def RX2 : String := "KeyRingModel"
def TX2 : u_T := fun k => match k with
  | 0 => ("KeyRingModel", "thrown", "I", false)
  | 1 => ("KeyRingModel", "\x72", "I", false)
  | 2 => ("KeyRingModel", "isOpen", "Z", false)
  | 3 => ("KeyRingModel", "points", "[I", true)
  | 4 => ("KeyRingModel", "lists", "[I", true)
  | 5 => ("KeyRingModel", "predecessors", "[I", true)
  | 6 => ("KeyRingModel", "fingers", "[I", true)
  | 7 => ("KeyRingModel", "dues", "[I", true)
  | 8 => ("KeyRingModel", "versions", "[I", true)
  | 9 => ("KeyRingModel", "owners", "[I", true)
  | 10 => ("KeyRingModel", "values", "[I", true)
  | 11 => ("KeyRingModel", "taken", "[I", true)
  | 12 => ("KeyRingModel", "hopCount", "I", false)
  | 13 => ("KeyRingModel", "latest", "I", false)
  | 14 => ("KeyRingModel", "allHops", "I", false)
  | 15 => ("KeyRingModel", "hops", "[I", true)
  | _ => ("KeyRingModel", "lookHops", "[I", true)
def tyX2 : Nat → FieldType := fun k => match k with
  | 0 => .int
  | 1 => .int
  | 2 => .boolean
  | 3 => .array .int
  | 4 => .array .int
  | 5 => .array .int
  | 6 => .array .int
  | 7 => .array .int
  | 8 => .array .int
  | 9 => .array .int
  | 10 => .array .int
  | 11 => .array .int
  | 12 => .int
  | 13 => .int
  | 14 => .int
  | 15 => .array .int
  | _ => .array .int
theorem nmX2 : ∀ a, a < 17 → ∀ b, b < 17 → a ≠ b → (TX2 a).2.1 ≠ (TX2 b).2.1 := by decide +kernel
theorem tyX2_ok : ∀ k, k < 17 → parseFieldDescriptor (TX2 k).2.2.1 = some (tyX2 k) := by decide +kernel
abbrev cX2_init : ByteArray := prog_4_method_1_code
def yX2_init : MethodName := ⟨RX2, "<init>", "()V"⟩
abbrev cX2_thrown : ByteArray := prog_4_method_2_code
def yX2_thrown : MethodName := ⟨RX2, "thrown", "()I"⟩
abbrev cX2_goes : ByteArray := prog_4_method_3_code
def yX2_goes : MethodName := ⟨RX2, "goes", "(ZZZ)Z"⟩
abbrev cX2_isPoint : ByteArray := prog_4_method_4_code
def yX2_isPoint : MethodName := ⟨RX2, "isPoint", "(I)Z"⟩
abbrev cX2_isKey : ByteArray := prog_4_method_5_code
def yX2_isKey : MethodName := ⟨RX2, "isKey", "(I)Z"⟩
abbrev cX2_live : ByteArray := prog_4_method_6_code
def yX2_live : MethodName := ⟨RX2, "live", "(I)Z"⟩
abbrev cX2_member : ByteArray := prog_4_method_7_code
def yX2_member : MethodName := ⟨RX2, "member", "(I)Z"⟩
abbrev cX2_up : ByteArray := prog_4_method_8_code
def yX2_up : MethodName := ⟨RX2, "up", "(II)I"⟩
abbrev cX2_between : ByteArray := prog_4_method_9_code
def yX2_between : MethodName := ⟨RX2, "between", "(III)Z"⟩
abbrev cX2_pointOf : ByteArray := prog_4_method_10_code
def yX2_pointOf : MethodName := ⟨RX2, "pointOf", "(I)I"⟩
abbrev cX2_many : ByteArray := prog_4_method_11_code
def yX2_many : MethodName := ⟨RX2, "many", "()I"⟩
abbrev cX2_next : ByteArray := prog_4_method_12_code
def yX2_next : MethodName := ⟨RX2, "next", "(I)I"⟩
abbrev cX2_last : ByteArray := prog_4_method_13_code
def yX2_last : MethodName := ⟨RX2, "last", "(I)I"⟩
abbrev cX2_depth : ByteArray := prog_4_method_14_code
def yX2_depth : MethodName := ⟨RX2, "depth", "(I)I"⟩
abbrev cX2_found : ByteArray := prog_4_method_15_code
def yX2_found : MethodName := ⟨RX2, "found", "(I)I"⟩
abbrev cX2_empty : ByteArray := prog_4_method_16_code
def yX2_empty : MethodName := ⟨RX2, "empty", "(I)V"⟩
abbrev cX2_open : ByteArray := prog_4_method_17_code
def yX2_open : MethodName := ⟨RX2, "open", "()I"⟩
abbrev cX2_successor : ByteArray := prog_4_method_18_code
def yX2_successor : MethodName := ⟨RX2, "successor", "(I)I"⟩
abbrev cX2_takeOver : ByteArray := prog_4_method_19_code
def yX2_takeOver : MethodName := ⟨RX2, "takeOver", "(II)V"⟩
abbrev cX2_later : ByteArray := prog_4_method_20_code
def yX2_later : MethodName := ⟨RX2, "later", "(IIII)I"⟩
abbrev cX2_lookFor : ByteArray := prog_4_method_21_code
def yX2_lookFor : MethodName := ⟨RX2, "lookFor", "(II)I"⟩
abbrev cX2_join : ByteArray := prog_4_method_22_code
def yX2_join : MethodName := ⟨RX2, "join", "(II)I"⟩
abbrev cX2_without : ByteArray := prog_4_method_23_code
def yX2_without : MethodName := ⟨RX2, "without", "(I)Z"⟩
abbrev cX2_fail : ByteArray := prog_4_method_24_code
def yX2_fail : MethodName := ⟨RX2, "fail", "(I)I"⟩
abbrev cX2_stable : ByteArray := prog_4_method_25_code
def yX2_stable : MethodName := ⟨RX2, "stable", "(I)I"⟩
abbrev cX2_stabilise : ByteArray := prog_4_method_26_code
def yX2_stabilise : MethodName := ⟨RX2, "stabilise", "(I)I"⟩
abbrev cX2_mended : ByteArray := prog_4_method_27_code
def yX2_mended : MethodName := ⟨RX2, "mended", "(II)I"⟩
abbrev cX2_mend : ByteArray := prog_4_method_28_code
def yX2_mend : MethodName := ⟨RX2, "mend", "(II)I"⟩
abbrev cX2_higher : ByteArray := prog_4_method_29_code
def yX2_higher : MethodName := ⟨RX2, "higher", "(II)Z"⟩
abbrev cX2_copy : ByteArray := prog_4_method_30_code
def yX2_copy : MethodName := ⟨RX2, "copy", "(II)V"⟩
abbrev cX2_belongs : ByteArray := prog_4_method_31_code
def yX2_belongs : MethodName := ⟨RX2, "belongs", "(II)Z"⟩
abbrev cX2_handed : ByteArray := prog_4_method_32_code
def yX2_handed : MethodName := ⟨RX2, "handed", "(I)I"⟩
abbrev cX2_handOver : ByteArray := prog_4_method_33_code
def yX2_handOver : MethodName := ⟨RX2, "handOver", "(I)I"⟩
abbrev cX2_give : ByteArray := prog_4_method_34_code
def yX2_give : MethodName := ⟨RX2, "give", "(II)I"⟩
abbrev cX2_spreadFrom : ByteArray := prog_4_method_35_code
def yX2_spreadFrom : MethodName := ⟨RX2, "spreadFrom", "(I)I"⟩
abbrev cX2_spread : ByteArray := prog_4_method_36_code
def yX2_spread : MethodName := ⟨RX2, "spread", "(I)I"⟩
abbrev cX2_rounds : ByteArray := prog_4_method_37_code
def yX2_rounds : MethodName := ⟨RX2, "rounds", "(I)I"⟩
abbrev cX2_look : ByteArray := prog_4_method_38_code
def yX2_look : MethodName := ⟨RX2, "look", "(II)I"⟩
abbrev cX2_hop : ByteArray := prog_4_method_39_code
def yX2_hop : MethodName := ⟨RX2, "hop", "(I)I"⟩
abbrev cX2_put : ByteArray := prog_4_method_40_code
def yX2_put : MethodName := ⟨RX2, "put", "(III)I"⟩
abbrev cX2_get : ByteArray := prog_4_method_41_code
def yX2_get : MethodName := ⟨RX2, "get", "(II)I"⟩
abbrev cX2_held : ByteArray := prog_4_method_42_code
def yX2_held : MethodName := ⟨RX2, "held", "(III)I"⟩
abbrev cX2_known : ByteArray := prog_4_method_43_code
def yX2_known : MethodName := ⟨RX2, "known", "(II)I"⟩
abbrev cX2_owner : ByteArray := prog_4_method_44_code
def yX2_owner : MethodName := ⟨RX2, "owner", "(I)I"⟩
abbrev cX2_ideal : ByteArray := prog_4_method_45_code
def yX2_ideal : MethodName := ⟨RX2, "ideal", "()Z"⟩
abbrev cX2_sum : ByteArray := prog_4_method_46_code
def yX2_sum : MethodName := ⟨RX2, "sum", "(I)I"⟩
abbrev cX2_count : ByteArray := prog_4_method_47_code
def yX2_count : MethodName := ⟨RX2, "count", "(I)I"⟩
def RJ9 : String := "java/lang/Math"
def TJ9 : u_T := fun k => match k with
  | _ => ("", "", "", false)
def tyJ9 : Nat → FieldType := fun k => match k with
  | _ => .int
abbrev cJ9_floorMod_7cf53 : ByteArray := prog_8_method_50_code
def yJ9_floorMod_7cf53 : MethodName := ⟨RJ9, "floorMod", "(II)I"⟩
def RJ0 : String := "java/lang/String"
def TJ0 : u_T := fun k => match k with
  | _ => ("", "", "", false)
def tyJ0 : Nat → FieldType := fun k => match k with
  | _ => .int
def RJ10 : String := "java/lang/System"
def TJ10 : u_T := fun k => match k with
  | _ => ("", "", "", false)
def tyJ10 : Nat → FieldType := fun k => match k with
  | _ => .int
def RJ7 : String := "java/util/Arrays"
def TJ7 : u_T := fun k => match k with
  | _ => ("", "", "", false)
def tyJ7 : Nat → FieldType := fun k => match k with
  | _ => .int
abbrev cJ7_fill_53178 : ByteArray := prog_13_method_103_code
def yJ7_fill_53178 : MethodName := ⟨RJ7, "fill", "([II)V"⟩
def RL : String := "KeyRingLaw"
abbrev cL_depth : ByteArray := method_3_code
def yL_depth : MethodName := ⟨RL, "depth", "(LKeyRing;I[J)I"⟩
abbrev cL_found : ByteArray := method_4_code
def yL_found : MethodName := ⟨RL, "found", "(LKeyRing;I[J)I"⟩
abbrev cL_open : ByteArray := method_5_code
def yL_open : MethodName := ⟨RL, "open", "(LKeyRing;[J)I"⟩
abbrev cL_join : ByteArray := method_6_code
def yL_join : MethodName := ⟨RL, "join", "(LKeyRing;II[J)I"⟩
abbrev cL_fail : ByteArray := method_7_code
def yL_fail : MethodName := ⟨RL, "fail", "(LKeyRing;I[J)I"⟩
abbrev cL_stabilise : ByteArray := method_8_code
def yL_stabilise : MethodName := ⟨RL, "stabilise", "(LKeyRing;I[J)I"⟩
abbrev cL_mend : ByteArray := method_9_code
def yL_mend : MethodName := ⟨RL, "mend", "(LKeyRing;II[J)I"⟩
abbrev cL_handOver : ByteArray := method_10_code
def yL_handOver : MethodName := ⟨RL, "handOver", "(LKeyRing;I[J)I"⟩
abbrev cL_spread : ByteArray := method_11_code
def yL_spread : MethodName := ⟨RL, "spread", "(LKeyRing;I[J)I"⟩
abbrev cL_rounds : ByteArray := method_12_code
def yL_rounds : MethodName := ⟨RL, "rounds", "(LKeyRing;I[J)I"⟩
abbrev cL_look : ByteArray := method_13_code
def yL_look : MethodName := ⟨RL, "look", "(LKeyRing;II[J)I"⟩
abbrev cL_hop : ByteArray := method_14_code
def yL_hop : MethodName := ⟨RL, "hop", "(LKeyRing;I[J)I"⟩
abbrev cL_put : ByteArray := method_15_code
def yL_put : MethodName := ⟨RL, "put", "(LKeyRing;III[J)I"⟩
abbrev cL_get : ByteArray := method_16_code
def yL_get : MethodName := ⟨RL, "get", "(LKeyRing;II[J)I"⟩
abbrev cL_held : ByteArray := method_17_code
def yL_held : MethodName := ⟨RL, "held", "(LKeyRing;III[J)I"⟩
abbrev cL_known : ByteArray := method_18_code
def yL_known : MethodName := ⟨RL, "known", "(LKeyRing;II[J)I"⟩
abbrev cL_owner : ByteArray := method_19_code
def yL_owner : MethodName := ⟨RL, "owner", "(LKeyRing;I[J)I"⟩
abbrev cL_count : ByteArray := method_20_code
def yL_count : MethodName := ⟨RL, "count", "(LKeyRing;I[J)I"⟩
abbrev cL_law : ByteArray := code
def yL_law : MethodName := ⟨RL, "law", "([I)Z"⟩
abbrev vwCl : List vw_C := [(RX0, TX0, 8), (RX1, TX1, 12), (RX2, TX2, 17)]
end
section
theorem dX0_init_0 : decode cX0_init 0 = .ok (.aload_n 0, 1) := by decide +kernel
theorem dX0_init_1 : decode cX0_init 1 = .ok (.invokespecial 3, 3) := by decide +kernel
theorem dX0_init_4 : decode cX0_init 4 = .ok (.aload_n 0, 1) := by decide +kernel
theorem dX0_init_5 : decode cX0_init 5 = .ok (.iconst 4, 1) := by decide +kernel
theorem dX0_init_6 : decode cX0_init 6 = .ok (.newarray .int, 2) := by decide +kernel
theorem dX0_init_8 : decode cX0_init 8 = .ok (.putfield 9, 3) := by decide +kernel
theorem dX0_init_11 : decode cX0_init 11 = .ok (.aload_n 0, 1) := by decide +kernel
theorem dX0_init_12 : decode cX0_init 12 = .ok (.bipush 8, 2) := by decide +kernel
theorem dX0_init_14 : decode cX0_init 14 = .ok (.newarray .int, 2) := by decide +kernel
theorem dX0_init_16 : decode cX0_init 16 = .ok (.putfield 15, 3) := by decide +kernel
theorem dX0_init_19 : decode cX0_init 19 = .ok (.aload_n 0, 1) := by decide +kernel
theorem dX0_init_20 : decode cX0_init 20 = .ok (.bipush 64, 2) := by decide +kernel
theorem dX0_init_22 : decode cX0_init 22 = .ok (.newarray .int, 2) := by decide +kernel
theorem dX0_init_24 : decode cX0_init 24 = .ok (.putfield 18, 3) := by decide +kernel
theorem dX0_init_27 : decode cX0_init 27 = .ok (.aload_n 0, 1) := by decide +kernel
theorem dX0_init_28 : decode cX0_init 28 = .ok (.bipush 64, 2) := by decide +kernel
theorem dX0_init_30 : decode cX0_init 30 = .ok (.newarray .int, 2) := by decide +kernel
theorem dX0_init_32 : decode cX0_init 32 = .ok (.putfield 21, 3) := by decide +kernel
theorem dX0_init_35 : decode cX0_init 35 = .ok (.aload_n 0, 1) := by decide +kernel
theorem dX0_init_36 : decode cX0_init 36 = .ok (.bipush 64, 2) := by decide +kernel
theorem dX0_init_38 : decode cX0_init 38 = .ok (.newarray .int, 2) := by decide +kernel
theorem dX0_init_40 : decode cX0_init 40 = .ok (.putfield 24, 3) := by decide +kernel
theorem dX0_init_43 : decode cX0_init 43 = .ok (.aload_n 0, 1) := by decide +kernel
theorem dX0_init_44 : decode cX0_init 44 = .ok (.iconst (-1), 1) := by decide +kernel
theorem dX0_init_45 : decode cX0_init 45 = .ok (.putfield 27, 3) := by decide +kernel
theorem dX0_init_48 : decode cX0_init 48 = .ok (.aload_n 0, 1) := by decide +kernel
theorem dX0_init_49 : decode cX0_init 49 = .ok (.iconst (-1), 1) := by decide +kernel
theorem dX0_init_50 : decode cX0_init 50 = .ok (.putfield 31, 3) := by decide +kernel
theorem dX0_init_53 : decode cX0_init 53 = .ok (.return_, 1) := by decide +kernel
theorem dX0_begin_0 : decode cX0_begin 0 = .ok (.aload_n 0, 1) := by decide +kernel
theorem dX0_begin_1 : decode cX0_begin 1 = .ok (.iload_n 1, 1) := by decide +kernel
theorem dX0_begin_2 : decode cX0_begin 2 = .ok (.putfield 27, 3) := by decide +kernel
theorem dX0_begin_5 : decode cX0_begin 5 = .ok (.aload_n 0, 1) := by decide +kernel
theorem dX0_begin_6 : decode cX0_begin 6 = .ok (.iconst (-1), 1) := by decide +kernel
theorem dX0_begin_7 : decode cX0_begin 7 = .ok (.putfield 31, 3) := by decide +kernel
theorem dX0_begin_10 : decode cX0_begin 10 = .ok (.aload_n 0, 1) := by decide +kernel
theorem dX0_begin_11 : decode cX0_begin 11 = .ok (.iconst 0, 1) := by decide +kernel
theorem dX0_begin_12 : decode cX0_begin 12 = .ok (.putfield 34, 3) := by decide +kernel
theorem dX0_begin_15 : decode cX0_begin 15 = .ok (.aload_n 0, 1) := by decide +kernel
theorem dX0_begin_16 : decode cX0_begin 16 = .ok (.getfield 9, 3) := by decide +kernel
theorem dX0_begin_19 : decode cX0_begin 19 = .ok (.iconst (-1), 1) := by decide +kernel
theorem dX0_begin_20 : decode cX0_begin 20 = .ok (.invokestatic 37, 3) := by decide +kernel
theorem dX0_begin_23 : decode cX0_begin 23 = .ok (.aload_n 0, 1) := by decide +kernel
theorem dX0_begin_24 : decode cX0_begin 24 = .ok (.getfield 15, 3) := by decide +kernel
theorem dX0_begin_27 : decode cX0_begin 27 = .ok (.iconst (-1), 1) := by decide +kernel
theorem dX0_begin_28 : decode cX0_begin 28 = .ok (.invokestatic 37, 3) := by decide +kernel
theorem dX0_begin_31 : decode cX0_begin 31 = .ok (.aload_n 0, 1) := by decide +kernel
theorem dX0_begin_32 : decode cX0_begin 32 = .ok (.getfield 18, 3) := by decide +kernel
theorem dX0_begin_35 : decode cX0_begin 35 = .ok (.iconst 0, 1) := by decide +kernel
theorem dX0_begin_36 : decode cX0_begin 36 = .ok (.invokestatic 37, 3) := by decide +kernel
theorem dX0_begin_39 : decode cX0_begin 39 = .ok (.aload_n 0, 1) := by decide +kernel
theorem dX0_begin_40 : decode cX0_begin 40 = .ok (.getfield 21, 3) := by decide +kernel
theorem dX0_begin_43 : decode cX0_begin 43 = .ok (.iconst (-1), 1) := by decide +kernel
theorem dX0_begin_44 : decode cX0_begin 44 = .ok (.invokestatic 37, 3) := by decide +kernel
theorem dX0_begin_47 : decode cX0_begin 47 = .ok (.aload_n 0, 1) := by decide +kernel
theorem dX0_begin_48 : decode cX0_begin 48 = .ok (.getfield 24, 3) := by decide +kernel
theorem dX0_begin_51 : decode cX0_begin 51 = .ok (.iconst (-1), 1) := by decide +kernel
theorem dX0_begin_52 : decode cX0_begin 52 = .ok (.invokestatic 37, 3) := by decide +kernel
theorem dX0_begin_55 : decode cX0_begin 55 = .ok (.return_, 1) := by decide +kernel
theorem dX1_init_0 : decode cX1_init 0 = .ok (.aload_n 0, 1) := by decide +kernel
theorem dX1_init_1 : decode cX1_init 1 = .ok (.invokespecial 1, 3) := by decide +kernel
theorem dX1_init_4 : decode cX1_init 4 = .ok (.aload_n 0, 1) := by decide +kernel
theorem dX1_init_5 : decode cX1_init 5 = .ok (.bipush 20, 2) := by decide +kernel
theorem dX1_init_7 : decode cX1_init 7 = .ok (.anewarray 9, 3) := by decide +kernel
theorem dX1_init_10 : decode cX1_init 10 = .ok (.putfield 11, 3) := by decide +kernel
theorem dX1_init_13 : decode cX1_init 13 = .ok (.iconst 0, 1) := by decide +kernel
theorem dX1_init_14 : decode cX1_init 14 = .ok (.istore_n 1, 1) := by decide +kernel
theorem dX1_init_15 : decode cX1_init 15 = .ok (.iload_n 1, 1) := by decide +kernel
theorem dX1_init_16 : decode cX1_init 16 = .ok (.bipush 20, 2) := by decide +kernel
theorem dX1_init_18 : decode cX1_init 18 = .ok (.if_icmp .ge 22, 3) := by decide +kernel
theorem dX1_init_21 : decode cX1_init 21 = .ok (.aload_n 0, 1) := by decide +kernel
theorem dX1_init_22 : decode cX1_init 22 = .ok (.getfield 11, 3) := by decide +kernel
theorem dX1_init_25 : decode cX1_init 25 = .ok (.iload_n 1, 1) := by decide +kernel
theorem dX1_init_26 : decode cX1_init 26 = .ok (.new 9, 3) := by decide +kernel
theorem dX1_init_29 : decode cX1_init 29 = .ok (.dup, 1) := by decide +kernel
theorem dX1_init_30 : decode cX1_init 30 = .ok (.invokespecial 15, 3) := by decide +kernel
theorem dX1_init_33 : decode cX1_init 33 = .ok (.aastore, 1) := by decide +kernel
theorem dX1_init_34 : decode cX1_init 34 = .ok (.iinc 1 1, 3) := by decide +kernel
theorem dX1_init_37 : decode cX1_init 37 = .ok (.goto (-22), 3) := by decide +kernel
theorem dX1_init_40 : decode cX1_init 40 = .ok (.aload_n 0, 1) := by decide +kernel
theorem dX1_init_41 : decode cX1_init 41 = .ok (.sipush 256, 3) := by decide +kernel
theorem dX1_init_44 : decode cX1_init 44 = .ok (.anewarray 9, 3) := by decide +kernel
theorem dX1_init_47 : decode cX1_init 47 = .ok (.putfield 16, 3) := by decide +kernel
theorem dX1_init_50 : decode cX1_init 50 = .ok (.aload_n 0, 1) := by decide +kernel
theorem dX1_init_51 : decode cX1_init 51 = .ok (.sipush 256, 3) := by decide +kernel
theorem dX1_init_54 : decode cX1_init 54 = .ok (.newarray .boolean, 2) := by decide +kernel
theorem dX1_init_56 : decode cX1_init 56 = .ok (.putfield 19, 3) := by decide +kernel
theorem dX1_init_59 : decode cX1_init 59 = .ok (.aload_n 0, 1) := by decide +kernel
theorem dX1_init_60 : decode cX1_init 60 = .ok (.bipush 20, 2) := by decide +kernel
theorem dX1_init_62 : decode cX1_init 62 = .ok (.newarray .int, 2) := by decide +kernel
theorem dX1_init_64 : decode cX1_init 64 = .ok (.putfield 23, 3) := by decide +kernel
theorem dX1_init_67 : decode cX1_init 67 = .ok (.aload_n 0, 1) := by decide +kernel
theorem dX1_init_68 : decode cX1_init 68 = .ok (.bipush 20, 2) := by decide +kernel
theorem dX1_init_70 : decode cX1_init 70 = .ok (.newarray .int, 2) := by decide +kernel
theorem dX1_init_72 : decode cX1_init 72 = .ok (.putfield 27, 3) := by decide +kernel
theorem dX1_init_75 : decode cX1_init 75 = .ok (.aload_n 0, 1) := by decide +kernel
theorem dX1_init_76 : decode cX1_init 76 = .ok (.iconst 2, 1) := by decide +kernel
theorem dX1_init_77 : decode cX1_init 77 = .ok (.putfield 30, 3) := by decide +kernel
theorem dX1_init_80 : decode cX1_init 80 = .ok (.return_, 1) := by decide +kernel
theorem dX1_depth_0 : decode cX1_depth 0 = .ok (.iload_n 1, 1) := by decide +kernel
theorem dX1_depth_1 : decode cX1_depth 1 = .ok (.iconst 2, 1) := by decide +kernel
theorem dX1_depth_2 : decode cX1_depth 2 = .ok (.if_icmp .lt 8, 3) := by decide +kernel
theorem dX1_depth_5 : decode cX1_depth 5 = .ok (.iload_n 1, 1) := by decide +kernel
theorem dX1_depth_6 : decode cX1_depth 6 = .ok (.iconst 4, 1) := by decide +kernel
theorem dX1_depth_7 : decode cX1_depth 7 = .ok (.if_icmp .le 13, 3) := by decide +kernel
theorem dX1_depth_10 : decode cX1_depth 10 = .ok (.new 34, 3) := by decide +kernel
theorem dX1_depth_13 : decode cX1_depth 13 = .ok (.dup, 1) := by decide +kernel
theorem dX1_depth_14 : decode cX1_depth 14 = .ok (.ldc 36, 2) := by decide +kernel
theorem dX1_depth_16 : decode cX1_depth 16 = .ok (.invokespecial 38, 3) := by decide +kernel
theorem dX1_depth_19 : decode cX1_depth 19 = .ok (.athrow, 1) := by decide +kernel
theorem dX1_depth_20 : decode cX1_depth 20 = .ok (.aload_n 0, 1) := by decide +kernel
theorem dX1_depth_21 : decode cX1_depth 21 = .ok (.getfield 41, 3) := by decide +kernel
theorem dX1_depth_24 : decode cX1_depth 24 = .ok (.ifCond .le 13, 3) := by decide +kernel
theorem dX1_depth_27 : decode cX1_depth 27 = .ok (.new 44, 3) := by decide +kernel
theorem dX1_depth_30 : decode cX1_depth 30 = .ok (.dup, 1) := by decide +kernel
theorem dX1_depth_31 : decode cX1_depth 31 = .ok (.ldc 46, 2) := by decide +kernel
theorem dX1_depth_33 : decode cX1_depth 33 = .ok (.invokespecial 48, 3) := by decide +kernel
theorem dX1_depth_36 : decode cX1_depth 36 = .ok (.athrow, 1) := by decide +kernel
theorem dX1_depth_37 : decode cX1_depth 37 = .ok (.aload_n 0, 1) := by decide +kernel
theorem dX1_depth_38 : decode cX1_depth 38 = .ok (.getfield 30, 3) := by decide +kernel
theorem dX1_depth_41 : decode cX1_depth 41 = .ok (.istore_n 2, 1) := by decide +kernel
theorem dX1_depth_42 : decode cX1_depth 42 = .ok (.aload_n 0, 1) := by decide +kernel
theorem dX1_depth_43 : decode cX1_depth 43 = .ok (.iload_n 1, 1) := by decide +kernel
theorem dX1_depth_44 : decode cX1_depth 44 = .ok (.putfield 30, 3) := by decide +kernel
theorem dX1_depth_47 : decode cX1_depth 47 = .ok (.iload_n 2, 1) := by decide +kernel
theorem dX1_depth_48 : decode cX1_depth 48 = .ok (.ireturn, 1) := by decide +kernel
theorem dX1_found_0 : decode cX1_found 0 = .ok (.iload_n 1, 1) := by decide +kernel
theorem dX1_found_1 : decode cX1_found 1 = .ok (.invokestatic 49, 3) := by decide +kernel
theorem dX1_found_4 : decode cX1_found 4 = .ok (.aload_n 0, 1) := by decide +kernel
theorem dX1_found_5 : decode cX1_found 5 = .ok (.getfield 53, 3) := by decide +kernel
theorem dX1_found_8 : decode cX1_found 8 = .ok (.ifCond .eq 13, 3) := by decide +kernel
theorem dX1_found_11 : decode cX1_found 11 = .ok (.new 44, 3) := by decide +kernel
theorem dX1_found_14 : decode cX1_found 14 = .ok (.dup, 1) := by decide +kernel
theorem dX1_found_15 : decode cX1_found 15 = .ok (.ldc 57, 2) := by decide +kernel
theorem dX1_found_17 : decode cX1_found 17 = .ok (.invokespecial 48, 3) := by decide +kernel
theorem dX1_found_20 : decode cX1_found 20 = .ok (.athrow, 1) := by decide +kernel
theorem dX1_found_21 : decode cX1_found 21 = .ok (.aload_n 0, 1) := by decide +kernel
theorem dX1_found_22 : decode cX1_found 22 = .ok (.iload_n 1, 1) := by decide +kernel
theorem dX1_found_23 : decode cX1_found 23 = .ok (.invokevirtual 59, 3) := by decide +kernel
theorem dX1_found_26 : decode cX1_found 26 = .ok (.aload_n 0, 1) := by decide +kernel
theorem dX1_found_27 : decode cX1_found 27 = .ok (.iload_n 1, 1) := by decide +kernel
theorem dX1_found_28 : decode cX1_found 28 = .ok (.invokevirtual 62, 3) := by decide +kernel
theorem dX1_found_31 : decode cX1_found 31 = .ok (.pop, 1) := by decide +kernel
theorem dX1_found_32 : decode cX1_found 32 = .ok (.aload_n 0, 1) := by decide +kernel
theorem dX1_found_33 : decode cX1_found 33 = .ok (.getfield 41, 3) := by decide +kernel
theorem dX1_found_36 : decode cX1_found 36 = .ok (.ireturn, 1) := by decide +kernel
theorem dX1_open_0 : decode cX1_open 0 = .ok (.aload_n 0, 1) := by decide +kernel
theorem dX1_open_1 : decode cX1_open 1 = .ok (.getfield 53, 3) := by decide +kernel
theorem dX1_open_4 : decode cX1_open 4 = .ok (.ifCond .eq 13, 3) := by decide +kernel
theorem dX1_open_7 : decode cX1_open 7 = .ok (.new 44, 3) := by decide +kernel
theorem dX1_open_10 : decode cX1_open 10 = .ok (.dup, 1) := by decide +kernel
theorem dX1_open_11 : decode cX1_open 11 = .ok (.ldc 57, 2) := by decide +kernel
theorem dX1_open_13 : decode cX1_open 13 = .ok (.invokespecial 48, 3) := by decide +kernel
theorem dX1_open_16 : decode cX1_open 16 = .ok (.athrow, 1) := by decide +kernel
theorem dX1_open_17 : decode cX1_open 17 = .ok (.aload_n 0, 1) := by decide +kernel
theorem dX1_open_18 : decode cX1_open 18 = .ok (.getfield 41, 3) := by decide +kernel
theorem dX1_open_21 : decode cX1_open 21 = .ok (.aload_n 0, 1) := by decide +kernel
theorem dX1_open_22 : decode cX1_open 22 = .ok (.getfield 30, 3) := by decide +kernel
theorem dX1_open_25 : decode cX1_open 25 = .ok (.if_icmp .gt 13, 3) := by decide +kernel
theorem dX1_open_28 : decode cX1_open 28 = .ok (.new 44, 3) := by decide +kernel
theorem dX1_open_31 : decode cX1_open 31 = .ok (.dup, 1) := by decide +kernel
theorem dX1_open_32 : decode cX1_open 32 = .ok (.ldc 66, 2) := by decide +kernel
theorem dX1_open_34 : decode cX1_open 34 = .ok (.invokespecial 48, 3) := by decide +kernel
theorem dX1_open_37 : decode cX1_open 37 = .ok (.athrow, 1) := by decide +kernel
theorem dX1_open_38 : decode cX1_open 38 = .ok (.iconst 0, 1) := by decide +kernel
theorem dX1_open_39 : decode cX1_open 39 = .ok (.istore_n 1, 1) := by decide +kernel
theorem dX1_open_40 : decode cX1_open 40 = .ok (.iload_n 1, 1) := by decide +kernel
theorem dX1_open_41 : decode cX1_open 41 = .ok (.aload_n 0, 1) := by decide +kernel
theorem dX1_open_42 : decode cX1_open 42 = .ok (.getfield 41, 3) := by decide +kernel
theorem dX1_open_45 : decode cX1_open 45 = .ok (.if_icmp .ge 58, 3) := by decide +kernel
theorem dX1_open_48 : decode cX1_open 48 = .ok (.aload_n 0, 1) := by decide +kernel
theorem dX1_open_49 : decode cX1_open 49 = .ok (.getfield 11, 3) := by decide +kernel
theorem dX1_open_52 : decode cX1_open 52 = .ok (.iload_n 1, 1) := by decide +kernel
theorem dX1_open_53 : decode cX1_open 53 = .ok (.aaload, 1) := by decide +kernel
theorem dX1_open_54 : decode cX1_open 54 = .ok (.astore_n 2, 1) := by decide +kernel
theorem dX1_open_55 : decode cX1_open 55 = .ok (.iconst 0, 1) := by decide +kernel
theorem dX1_open_56 : decode cX1_open 56 = .ok (.istore_n 3, 1) := by decide +kernel
theorem dX1_open_57 : decode cX1_open 57 = .ok (.iload_n 3, 1) := by decide +kernel
theorem dX1_open_58 : decode cX1_open 58 = .ok (.aload_n 0, 1) := by decide +kernel
theorem dX1_open_59 : decode cX1_open 59 = .ok (.getfield 30, 3) := by decide +kernel
theorem dX1_open_62 : decode cX1_open 62 = .ok (.if_icmp .ge 24, 3) := by decide +kernel
theorem dX1_open_65 : decode cX1_open 65 = .ok (.aload_n 2, 1) := by decide +kernel
theorem dX1_open_66 : decode cX1_open 66 = .ok (.getfield 68, 3) := by decide +kernel
theorem dX1_open_69 : decode cX1_open 69 = .ok (.iload_n 3, 1) := by decide +kernel
theorem dX1_open_70 : decode cX1_open 70 = .ok (.aload_n 0, 1) := by decide +kernel
theorem dX1_open_71 : decode cX1_open 71 = .ok (.iload_n 1, 1) := by decide +kernel
theorem dX1_open_72 : decode cX1_open 72 = .ok (.iconst 1, 1) := by decide +kernel
theorem dX1_open_73 : decode cX1_open 73 = .ok (.iadd, 1) := by decide +kernel
theorem dX1_open_74 : decode cX1_open 74 = .ok (.iload_n 3, 1) := by decide +kernel
theorem dX1_open_75 : decode cX1_open 75 = .ok (.iadd, 1) := by decide +kernel
theorem dX1_open_76 : decode cX1_open 76 = .ok (.invokevirtual 71, 3) := by decide +kernel
theorem dX1_open_79 : decode cX1_open 79 = .ok (.iastore, 1) := by decide +kernel
theorem dX1_open_80 : decode cX1_open 80 = .ok (.iinc 3 1, 3) := by decide +kernel
theorem dX1_open_83 : decode cX1_open 83 = .ok (.goto (-26), 3) := by decide +kernel
theorem dX1_open_86 : decode cX1_open 86 = .ok (.aload_n 2, 1) := by decide +kernel
theorem dX1_open_87 : decode cX1_open 87 = .ok (.aload_n 0, 1) := by decide +kernel
theorem dX1_open_88 : decode cX1_open 88 = .ok (.iload_n 1, 1) := by decide +kernel
theorem dX1_open_89 : decode cX1_open 89 = .ok (.iconst 1, 1) := by decide +kernel
theorem dX1_open_90 : decode cX1_open 90 = .ok (.isub, 1) := by decide +kernel
theorem dX1_open_91 : decode cX1_open 91 = .ok (.invokevirtual 71, 3) := by decide +kernel
theorem dX1_open_94 : decode cX1_open 94 = .ok (.putfield 75, 3) := by decide +kernel
theorem dX1_open_97 : decode cX1_open 97 = .ok (.iinc 1 1, 3) := by decide +kernel
theorem dX1_open_100 : decode cX1_open 100 = .ok (.goto (-60), 3) := by decide +kernel
theorem dX1_open_103 : decode cX1_open 103 = .ok (.aload_n 0, 1) := by decide +kernel
theorem dX1_open_104 : decode cX1_open 104 = .ok (.iconst 1, 1) := by decide +kernel
theorem dX1_open_105 : decode cX1_open 105 = .ok (.putfield 53, 3) := by decide +kernel
theorem dX1_open_108 : decode cX1_open 108 = .ok (.aload_n 0, 1) := by decide +kernel
theorem dX1_open_109 : decode cX1_open 109 = .ok (.getfield 41, 3) := by decide +kernel
theorem dX1_open_112 : decode cX1_open 112 = .ok (.ireturn, 1) := by decide +kernel
theorem dX1_join_0 : decode cX1_join 0 = .ok (.aload_n 0, 1) := by decide +kernel
theorem dX1_join_1 : decode cX1_join 1 = .ok (.iload_n 2, 1) := by decide +kernel
theorem dX1_join_2 : decode cX1_join 2 = .ok (.invokevirtual 78, 3) := by decide +kernel
theorem dX1_join_5 : decode cX1_join 5 = .ok (.astore_n 3, 1) := by decide +kernel
theorem dX1_join_6 : decode cX1_join 6 = .ok (.iload_n 1, 1) := by decide +kernel
theorem dX1_join_7 : decode cX1_join 7 = .ok (.invokestatic 49, 3) := by decide +kernel
theorem dX1_join_10 : decode cX1_join 10 = .ok (.aload_n 0, 1) := by decide +kernel
theorem dX1_join_11 : decode cX1_join 11 = .ok (.iload_n 1, 1) := by decide +kernel
theorem dX1_join_12 : decode cX1_join 12 = .ok (.invokevirtual 59, 3) := by decide +kernel
theorem dX1_join_15 : decode cX1_join 15 = .ok (.aload_n 0, 1) := by decide +kernel
theorem dX1_join_16 : decode cX1_join 16 = .ok (.aload_n 3, 1) := by decide +kernel
theorem dX1_join_17 : decode cX1_join 17 = .ok (.iload_n 1, 1) := by decide +kernel
theorem dX1_join_18 : decode cX1_join 18 = .ok (.invokevirtual 81, 3) := by decide +kernel
theorem dX1_join_21 : decode cX1_join 21 = .ok (.astore 4, 2) := by decide +kernel
theorem dX1_join_23 : decode cX1_join 23 = .ok (.aload_n 0, 1) := by decide +kernel
theorem dX1_join_24 : decode cX1_join 24 = .ok (.aload_n 0, 1) := by decide +kernel
theorem dX1_join_25 : decode cX1_join 25 = .ok (.iload_n 1, 1) := by decide +kernel
theorem dX1_join_26 : decode cX1_join 26 = .ok (.invokevirtual 62, 3) := by decide +kernel
theorem dX1_join_29 : decode cX1_join 29 = .ok (.aload 4, 2) := by decide +kernel
theorem dX1_join_31 : decode cX1_join 31 = .ok (.invokevirtual 85, 3) := by decide +kernel
theorem dX1_join_34 : decode cX1_join 34 = .ok (.aload 4, 2) := by decide +kernel
theorem dX1_join_36 : decode cX1_join 36 = .ok (.getfield 89, 3) := by decide +kernel
theorem dX1_join_39 : decode cX1_join 39 = .ok (.ireturn, 1) := by decide +kernel
theorem dX1_fail_0 : decode cX1_fail 0 = .ok (.aload_n 0, 1) := by decide +kernel
theorem dX1_fail_1 : decode cX1_fail 1 = .ok (.iload_n 1, 1) := by decide +kernel
theorem dX1_fail_2 : decode cX1_fail 2 = .ok (.invokevirtual 78, 3) := by decide +kernel
theorem dX1_fail_5 : decode cX1_fail 5 = .ok (.astore_n 2, 1) := by decide +kernel
theorem dX1_fail_6 : decode cX1_fail 6 = .ok (.aload_n 0, 1) := by decide +kernel
theorem dX1_fail_7 : decode cX1_fail 7 = .ok (.getfield 41, 3) := by decide +kernel
theorem dX1_fail_10 : decode cX1_fail 10 = .ok (.iconst 1, 1) := by decide +kernel
theorem dX1_fail_11 : decode cX1_fail 11 = .ok (.isub, 1) := by decide +kernel
theorem dX1_fail_12 : decode cX1_fail 12 = .ok (.aload_n 0, 1) := by decide +kernel
theorem dX1_fail_13 : decode cX1_fail 13 = .ok (.getfield 30, 3) := by decide +kernel
theorem dX1_fail_16 : decode cX1_fail 16 = .ok (.if_icmp .gt 13, 3) := by decide +kernel
theorem dX1_fail_19 : decode cX1_fail 19 = .ok (.new 44, 3) := by decide +kernel
theorem dX1_fail_22 : decode cX1_fail 22 = .ok (.dup, 1) := by decide +kernel
theorem dX1_fail_23 : decode cX1_fail 23 = .ok (.ldc 92, 2) := by decide +kernel
theorem dX1_fail_25 : decode cX1_fail 25 = .ok (.invokespecial 48, 3) := by decide +kernel
theorem dX1_fail_28 : decode cX1_fail 28 = .ok (.athrow, 1) := by decide +kernel
theorem dX1_fail_29 : decode cX1_fail 29 = .ok (.iconst 0, 1) := by decide +kernel
theorem dX1_fail_30 : decode cX1_fail 30 = .ok (.istore_n 3, 1) := by decide +kernel
theorem dX1_fail_31 : decode cX1_fail 31 = .ok (.iload_n 3, 1) := by decide +kernel
theorem dX1_fail_32 : decode cX1_fail 32 = .ok (.aload_n 0, 1) := by decide +kernel
theorem dX1_fail_33 : decode cX1_fail 33 = .ok (.getfield 41, 3) := by decide +kernel
theorem dX1_fail_36 : decode cX1_fail 36 = .ok (.if_icmp .ge 43, 3) := by decide +kernel
theorem dX1_fail_39 : decode cX1_fail 39 = .ok (.aload_n 0, 1) := by decide +kernel
theorem dX1_fail_40 : decode cX1_fail 40 = .ok (.getfield 11, 3) := by decide +kernel
theorem dX1_fail_43 : decode cX1_fail 43 = .ok (.iload_n 3, 1) := by decide +kernel
theorem dX1_fail_44 : decode cX1_fail 44 = .ok (.aaload, 1) := by decide +kernel
theorem dX1_fail_45 : decode cX1_fail 45 = .ok (.aload_n 2, 1) := by decide +kernel
theorem dX1_fail_46 : decode cX1_fail 46 = .ok (.if_acmp .eq 27, 3) := by decide +kernel
theorem dX1_fail_49 : decode cX1_fail 49 = .ok (.aload_n 0, 1) := by decide +kernel
theorem dX1_fail_50 : decode cX1_fail 50 = .ok (.aload_n 0, 1) := by decide +kernel
theorem dX1_fail_51 : decode cX1_fail 51 = .ok (.getfield 11, 3) := by decide +kernel
theorem dX1_fail_54 : decode cX1_fail 54 = .ok (.iload_n 3, 1) := by decide +kernel
theorem dX1_fail_55 : decode cX1_fail 55 = .ok (.aaload, 1) := by decide +kernel
theorem dX1_fail_56 : decode cX1_fail 56 = .ok (.aload_n 2, 1) := by decide +kernel
theorem dX1_fail_57 : decode cX1_fail 57 = .ok (.invokevirtual 94, 3) := by decide +kernel
theorem dX1_fail_60 : decode cX1_fail 60 = .ok (.ifCond .ne 13, 3) := by decide +kernel
theorem dX1_fail_63 : decode cX1_fail 63 = .ok (.new 44, 3) := by decide +kernel
theorem dX1_fail_66 : decode cX1_fail 66 = .ok (.dup, 1) := by decide +kernel
theorem dX1_fail_67 : decode cX1_fail 67 = .ok (.ldc 98, 2) := by decide +kernel
theorem dX1_fail_69 : decode cX1_fail 69 = .ok (.invokespecial 48, 3) := by decide +kernel
theorem dX1_fail_72 : decode cX1_fail 72 = .ok (.athrow, 1) := by decide +kernel
theorem dX1_fail_73 : decode cX1_fail 73 = .ok (.iinc 3 1, 3) := by decide +kernel
theorem dX1_fail_76 : decode cX1_fail 76 = .ok (.goto (-45), 3) := by decide +kernel
theorem dX1_fail_79 : decode cX1_fail 79 = .ok (.aload_n 0, 1) := by decide +kernel
theorem dX1_fail_80 : decode cX1_fail 80 = .ok (.aload_n 2, 1) := by decide +kernel
theorem dX1_fail_81 : decode cX1_fail 81 = .ok (.invokevirtual 100, 3) := by decide +kernel
theorem dX1_fail_84 : decode cX1_fail 84 = .ok (.aload_n 0, 1) := by decide +kernel
theorem dX1_fail_85 : decode cX1_fail 85 = .ok (.getfield 41, 3) := by decide +kernel
theorem dX1_fail_88 : decode cX1_fail 88 = .ok (.ireturn, 1) := by decide +kernel
theorem dX1_stabilise_0 : decode cX1_stabilise 0 = .ok (.aload_n 0, 1) := by decide +kernel
theorem dX1_stabilise_1 : decode cX1_stabilise 1 = .ok (.iload_n 1, 1) := by decide +kernel
theorem dX1_stabilise_2 : decode cX1_stabilise 2 = .ok (.invokevirtual 78, 3) := by decide +kernel
theorem dX1_stabilise_5 : decode cX1_stabilise 5 = .ok (.astore_n 2, 1) := by decide +kernel
theorem dX1_stabilise_6 : decode cX1_stabilise 6 = .ok (.aload_n 0, 1) := by decide +kernel
theorem dX1_stabilise_7 : decode cX1_stabilise 7 = .ok (.aload_n 2, 1) := by decide +kernel
theorem dX1_stabilise_8 : decode cX1_stabilise 8 = .ok (.invokevirtual 104, 3) := by decide +kernel
theorem dX1_stabilise_11 : decode cX1_stabilise 11 = .ok (.aload_n 0, 1) := by decide +kernel
theorem dX1_stabilise_12 : decode cX1_stabilise 12 = .ok (.aload_n 2, 1) := by decide +kernel
theorem dX1_stabilise_13 : decode cX1_stabilise 13 = .ok (.invokevirtual 107, 3) := by decide +kernel
theorem dX1_stabilise_16 : decode cX1_stabilise 16 = .ok (.astore_n 3, 1) := by decide +kernel
theorem dX1_stabilise_17 : decode cX1_stabilise 17 = .ok (.aload_n 3, 1) := by decide +kernel
theorem dX1_stabilise_18 : decode cX1_stabilise 18 = .ok (.ifnonnull 7, 3) := by decide +kernel
theorem dX1_stabilise_21 : decode cX1_stabilise 21 = .ok (.iconst (-1), 1) := by decide +kernel
theorem dX1_stabilise_22 : decode cX1_stabilise 22 = .ok (.goto 7, 3) := by decide +kernel
theorem dX1_stabilise_25 : decode cX1_stabilise 25 = .ok (.aload_n 3, 1) := by decide +kernel
theorem dX1_stabilise_26 : decode cX1_stabilise 26 = .ok (.getfield 89, 3) := by decide +kernel
theorem dX1_stabilise_29 : decode cX1_stabilise 29 = .ok (.ireturn, 1) := by decide +kernel
theorem dX1_mend_0 : decode cX1_mend 0 = .ok (.aload_n 0, 1) := by decide +kernel
theorem dX1_mend_1 : decode cX1_mend 1 = .ok (.iload_n 1, 1) := by decide +kernel
theorem dX1_mend_2 : decode cX1_mend 2 = .ok (.invokevirtual 78, 3) := by decide +kernel
theorem dX1_mend_5 : decode cX1_mend 5 = .ok (.astore_n 3, 1) := by decide +kernel
theorem dX1_mend_6 : decode cX1_mend 6 = .ok (.iload_n 2, 1) := by decide +kernel
theorem dX1_mend_7 : decode cX1_mend 7 = .ok (.ifCond .lt 9, 3) := by decide +kernel
theorem dX1_mend_10 : decode cX1_mend 10 = .ok (.iload_n 2, 1) := by decide +kernel
theorem dX1_mend_11 : decode cX1_mend 11 = .ok (.bipush 8, 2) := by decide +kernel
theorem dX1_mend_13 : decode cX1_mend 13 = .ok (.if_icmp .lt 13, 3) := by decide +kernel
theorem dX1_mend_16 : decode cX1_mend 16 = .ok (.new 111, 3) := by decide +kernel
theorem dX1_mend_19 : decode cX1_mend 19 = .ok (.dup, 1) := by decide +kernel
theorem dX1_mend_20 : decode cX1_mend 20 = .ok (.ldc 113, 2) := by decide +kernel
theorem dX1_mend_22 : decode cX1_mend 22 = .ok (.invokespecial 115, 3) := by decide +kernel
theorem dX1_mend_25 : decode cX1_mend 25 = .ok (.athrow, 1) := by decide +kernel
theorem dX1_mend_26 : decode cX1_mend 26 = .ok (.aload_n 0, 1) := by decide +kernel
theorem dX1_mend_27 : decode cX1_mend 27 = .ok (.aload_n 3, 1) := by decide +kernel
theorem dX1_mend_28 : decode cX1_mend 28 = .ok (.iload_n 2, 1) := by decide +kernel
theorem dX1_mend_29 : decode cX1_mend 29 = .ok (.invokevirtual 116, 3) := by decide +kernel
theorem dX1_mend_32 : decode cX1_mend 32 = .ok (.aload_n 3, 1) := by decide +kernel
theorem dX1_mend_33 : decode cX1_mend 33 = .ok (.getfield 120, 3) := by decide +kernel
theorem dX1_mend_36 : decode cX1_mend 36 = .ok (.iload_n 2, 1) := by decide +kernel
theorem dX1_mend_37 : decode cX1_mend 37 = .ok (.iaload, 1) := by decide +kernel
theorem dX1_mend_38 : decode cX1_mend 38 = .ok (.ireturn, 1) := by decide +kernel
theorem dX1_handOver_0 : decode cX1_handOver 0 = .ok (.aload_n 0, 1) := by decide +kernel
theorem dX1_handOver_1 : decode cX1_handOver 1 = .ok (.aload_n 0, 1) := by decide +kernel
theorem dX1_handOver_2 : decode cX1_handOver 2 = .ok (.iload_n 1, 1) := by decide +kernel
theorem dX1_handOver_3 : decode cX1_handOver 3 = .ok (.invokevirtual 78, 3) := by decide +kernel
theorem dX1_handOver_6 : decode cX1_handOver 6 = .ok (.invokevirtual 123, 3) := by decide +kernel
theorem dX1_handOver_9 : decode cX1_handOver 9 = .ok (.ireturn, 1) := by decide +kernel
theorem dX1_spread_0 : decode cX1_spread 0 = .ok (.aload_n 0, 1) := by decide +kernel
theorem dX1_spread_1 : decode cX1_spread 1 = .ok (.aload_n 0, 1) := by decide +kernel
theorem dX1_spread_2 : decode cX1_spread 2 = .ok (.iload_n 1, 1) := by decide +kernel
theorem dX1_spread_3 : decode cX1_spread 3 = .ok (.invokevirtual 78, 3) := by decide +kernel
theorem dX1_spread_6 : decode cX1_spread 6 = .ok (.invokevirtual 127, 3) := by decide +kernel
theorem dX1_spread_9 : decode cX1_spread 9 = .ok (.ireturn, 1) := by decide +kernel
theorem dX1_rounds_0 : decode cX1_rounds 0 = .ok (.iload_n 1, 1) := by decide +kernel
theorem dX1_rounds_1 : decode cX1_rounds 1 = .ok (.ifCond .lt 9, 3) := by decide +kernel
theorem dX1_rounds_4 : decode cX1_rounds 4 = .ok (.iload_n 1, 1) := by decide +kernel
theorem dX1_rounds_5 : decode cX1_rounds 5 = .ok (.bipush 40, 2) := by decide +kernel
theorem dX1_rounds_7 : decode cX1_rounds 7 = .ok (.if_icmp .le 13, 3) := by decide +kernel
theorem dX1_rounds_10 : decode cX1_rounds 10 = .ok (.new 34, 3) := by decide +kernel
theorem dX1_rounds_13 : decode cX1_rounds 13 = .ok (.dup, 1) := by decide +kernel
theorem dX1_rounds_14 : decode cX1_rounds 14 = .ok (.ldc 130, 2) := by decide +kernel
theorem dX1_rounds_16 : decode cX1_rounds 16 = .ok (.invokespecial 38, 3) := by decide +kernel
theorem dX1_rounds_19 : decode cX1_rounds 19 = .ok (.athrow, 1) := by decide +kernel
theorem dX1_rounds_20 : decode cX1_rounds 20 = .ok (.aload_n 0, 1) := by decide +kernel
theorem dX1_rounds_21 : decode cX1_rounds 21 = .ok (.getfield 53, 3) := by decide +kernel
theorem dX1_rounds_24 : decode cX1_rounds 24 = .ok (.ifCond .ne 13, 3) := by decide +kernel
theorem dX1_rounds_27 : decode cX1_rounds 27 = .ok (.new 44, 3) := by decide +kernel
theorem dX1_rounds_30 : decode cX1_rounds 30 = .ok (.dup, 1) := by decide +kernel
theorem dX1_rounds_31 : decode cX1_rounds 31 = .ok (.ldc 132, 2) := by decide +kernel
theorem dX1_rounds_33 : decode cX1_rounds 33 = .ok (.invokespecial 48, 3) := by decide +kernel
theorem dX1_rounds_36 : decode cX1_rounds 36 = .ok (.athrow, 1) := by decide +kernel
theorem dX1_rounds_37 : decode cX1_rounds 37 = .ok (.iconst 0, 1) := by decide +kernel
theorem dX1_rounds_38 : decode cX1_rounds 38 = .ok (.istore_n 2, 1) := by decide +kernel
theorem dX1_rounds_39 : decode cX1_rounds 39 = .ok (.iconst 0, 1) := by decide +kernel
theorem dX1_rounds_40 : decode cX1_rounds 40 = .ok (.istore_n 3, 1) := by decide +kernel
theorem dX1_rounds_41 : decode cX1_rounds 41 = .ok (.iload_n 3, 1) := by decide +kernel
theorem dX1_rounds_42 : decode cX1_rounds 42 = .ok (.iload_n 1, 1) := by decide +kernel
theorem dX1_rounds_43 : decode cX1_rounds 43 = .ok (.if_icmp .ge 41, 3) := by decide +kernel
theorem dX1_rounds_46 : decode cX1_rounds 46 = .ok (.iconst 0, 1) := by decide +kernel
theorem dX1_rounds_47 : decode cX1_rounds 47 = .ok (.istore 4, 2) := by decide +kernel
theorem dX1_rounds_49 : decode cX1_rounds 49 = .ok (.iload 4, 2) := by decide +kernel
theorem dX1_rounds_51 : decode cX1_rounds 51 = .ok (.aload_n 0, 1) := by decide +kernel
theorem dX1_rounds_52 : decode cX1_rounds 52 = .ok (.getfield 41, 3) := by decide +kernel
theorem dX1_rounds_55 : decode cX1_rounds 55 = .ok (.if_icmp .ge 23, 3) := by decide +kernel
theorem dX1_rounds_58 : decode cX1_rounds 58 = .ok (.iload_n 2, 1) := by decide +kernel
theorem dX1_rounds_59 : decode cX1_rounds 59 = .ok (.aload_n 0, 1) := by decide +kernel
theorem dX1_rounds_60 : decode cX1_rounds 60 = .ok (.aload_n 0, 1) := by decide +kernel
theorem dX1_rounds_61 : decode cX1_rounds 61 = .ok (.getfield 11, 3) := by decide +kernel
theorem dX1_rounds_64 : decode cX1_rounds 64 = .ok (.iload 4, 2) := by decide +kernel
theorem dX1_rounds_66 : decode cX1_rounds 66 = .ok (.aaload, 1) := by decide +kernel
theorem dX1_rounds_67 : decode cX1_rounds 67 = .ok (.invokevirtual 134, 3) := by decide +kernel
theorem dX1_rounds_70 : decode cX1_rounds 70 = .ok (.iadd, 1) := by decide +kernel
theorem dX1_rounds_71 : decode cX1_rounds 71 = .ok (.istore_n 2, 1) := by decide +kernel
theorem dX1_rounds_72 : decode cX1_rounds 72 = .ok (.iinc 4 1, 3) := by decide +kernel
theorem dX1_rounds_75 : decode cX1_rounds 75 = .ok (.goto (-26), 3) := by decide +kernel
theorem dX1_rounds_78 : decode cX1_rounds 78 = .ok (.iinc 3 1, 3) := by decide +kernel
theorem dX1_rounds_81 : decode cX1_rounds 81 = .ok (.goto (-40), 3) := by decide +kernel
theorem dX1_rounds_84 : decode cX1_rounds 84 = .ok (.iload_n 2, 1) := by decide +kernel
theorem dX1_rounds_85 : decode cX1_rounds 85 = .ok (.ireturn, 1) := by decide +kernel
theorem dX1_look_0 : decode cX1_look 0 = .ok (.aload_n 0, 1) := by decide +kernel
theorem dX1_look_1 : decode cX1_look 1 = .ok (.iload_n 1, 1) := by decide +kernel
theorem dX1_look_2 : decode cX1_look 2 = .ok (.invokevirtual 78, 3) := by decide +kernel
theorem dX1_look_5 : decode cX1_look 5 = .ok (.astore_n 3, 1) := by decide +kernel
theorem dX1_look_6 : decode cX1_look 6 = .ok (.iload_n 2, 1) := by decide +kernel
theorem dX1_look_7 : decode cX1_look 7 = .ok (.invokestatic 49, 3) := by decide +kernel
theorem dX1_look_10 : decode cX1_look 10 = .ok (.aload_n 0, 1) := by decide +kernel
theorem dX1_look_11 : decode cX1_look 11 = .ok (.aload_n 3, 1) := by decide +kernel
theorem dX1_look_12 : decode cX1_look 12 = .ok (.iload_n 2, 1) := by decide +kernel
theorem dX1_look_13 : decode cX1_look 13 = .ok (.invokevirtual 81, 3) := by decide +kernel
theorem dX1_look_16 : decode cX1_look 16 = .ok (.astore 4, 2) := by decide +kernel
theorem dX1_look_18 : decode cX1_look 18 = .ok (.aload_n 0, 1) := by decide +kernel
theorem dX1_look_19 : decode cX1_look 19 = .ok (.getfield 23, 3) := by decide +kernel
theorem dX1_look_22 : decode cX1_look 22 = .ok (.iconst 0, 1) := by decide +kernel
theorem dX1_look_23 : decode cX1_look 23 = .ok (.aload_n 0, 1) := by decide +kernel
theorem dX1_look_24 : decode cX1_look 24 = .ok (.getfield 27, 3) := by decide +kernel
theorem dX1_look_27 : decode cX1_look 27 = .ok (.iconst 0, 1) := by decide +kernel
theorem dX1_look_28 : decode cX1_look 28 = .ok (.bipush 20, 2) := by decide +kernel
theorem dX1_look_30 : decode cX1_look 30 = .ok (.invokestatic 137, 3) := by decide +kernel
theorem dX1_look_33 : decode cX1_look 33 = .ok (.aload_n 0, 1) := by decide +kernel
theorem dX1_look_34 : decode cX1_look 34 = .ok (.aload_n 0, 1) := by decide +kernel
theorem dX1_look_35 : decode cX1_look 35 = .ok (.getfield 143, 3) := by decide +kernel
theorem dX1_look_38 : decode cX1_look 38 = .ok (.putfield 146, 3) := by decide +kernel
theorem dX1_look_41 : decode cX1_look 41 = .ok (.aload 4, 2) := by decide +kernel
theorem dX1_look_43 : decode cX1_look 43 = .ok (.getfield 89, 3) := by decide +kernel
theorem dX1_look_46 : decode cX1_look 46 = .ok (.ireturn, 1) := by decide +kernel
theorem dX1_hop_0 : decode cX1_hop 0 = .ok (.iload_n 1, 1) := by decide +kernel
theorem dX1_hop_1 : decode cX1_hop 1 = .ok (.ifCond .lt 11, 3) := by decide +kernel
theorem dX1_hop_4 : decode cX1_hop 4 = .ok (.iload_n 1, 1) := by decide +kernel
theorem dX1_hop_5 : decode cX1_hop 5 = .ok (.aload_n 0, 1) := by decide +kernel
theorem dX1_hop_6 : decode cX1_hop 6 = .ok (.getfield 146, 3) := by decide +kernel
theorem dX1_hop_9 : decode cX1_hop 9 = .ok (.if_icmp .lt 13, 3) := by decide +kernel
theorem dX1_hop_12 : decode cX1_hop 12 = .ok (.new 111, 3) := by decide +kernel
theorem dX1_hop_15 : decode cX1_hop 15 = .ok (.dup, 1) := by decide +kernel
theorem dX1_hop_16 : decode cX1_hop 16 = .ok (.ldc 149, 2) := by decide +kernel
theorem dX1_hop_18 : decode cX1_hop 18 = .ok (.invokespecial 115, 3) := by decide +kernel
theorem dX1_hop_21 : decode cX1_hop 21 = .ok (.athrow, 1) := by decide +kernel
theorem dX1_hop_22 : decode cX1_hop 22 = .ok (.aload_n 0, 1) := by decide +kernel
theorem dX1_hop_23 : decode cX1_hop 23 = .ok (.getfield 27, 3) := by decide +kernel
theorem dX1_hop_26 : decode cX1_hop 26 = .ok (.iload_n 1, 1) := by decide +kernel
theorem dX1_hop_27 : decode cX1_hop 27 = .ok (.iaload, 1) := by decide +kernel
theorem dX1_hop_28 : decode cX1_hop 28 = .ok (.ireturn, 1) := by decide +kernel
theorem dX1_put_0 : decode cX1_put 0 = .ok (.aload_n 0, 1) := by decide +kernel
theorem dX1_put_1 : decode cX1_put 1 = .ok (.iload_n 1, 1) := by decide +kernel
theorem dX1_put_2 : decode cX1_put 2 = .ok (.invokevirtual 78, 3) := by decide +kernel
theorem dX1_put_5 : decode cX1_put 5 = .ok (.astore 4, 2) := by decide +kernel
theorem dX1_put_7 : decode cX1_put 7 = .ok (.iload_n 2, 1) := by decide +kernel
theorem dX1_put_8 : decode cX1_put 8 = .ok (.invokestatic 151, 3) := by decide +kernel
theorem dX1_put_11 : decode cX1_put 11 = .ok (.iload_n 3, 1) := by decide +kernel
theorem dX1_put_12 : decode cX1_put 12 = .ok (.ifCond .ge 13, 3) := by decide +kernel
theorem dX1_put_15 : decode cX1_put 15 = .ok (.new 34, 3) := by decide +kernel
theorem dX1_put_18 : decode cX1_put 18 = .ok (.dup, 1) := by decide +kernel
theorem dX1_put_19 : decode cX1_put 19 = .ok (.ldc 154, 2) := by decide +kernel
theorem dX1_put_21 : decode cX1_put 21 = .ok (.invokespecial 38, 3) := by decide +kernel
theorem dX1_put_24 : decode cX1_put 24 = .ok (.athrow, 1) := by decide +kernel
theorem dX1_put_25 : decode cX1_put 25 = .ok (.aload_n 0, 1) := by decide +kernel
theorem dX1_put_26 : decode cX1_put 26 = .ok (.aload 4, 2) := by decide +kernel
theorem dX1_put_28 : decode cX1_put 28 = .ok (.iload_n 2, 1) := by decide +kernel
theorem dX1_put_29 : decode cX1_put 29 = .ok (.invokestatic 156, 3) := by decide +kernel
theorem dX1_put_32 : decode cX1_put 32 = .ok (.invokevirtual 81, 3) := by decide +kernel
theorem dX1_put_35 : decode cX1_put 35 = .ok (.astore 5, 2) := by decide +kernel
theorem dX1_put_37 : decode cX1_put 37 = .ok (.aload 5, 2) := by decide +kernel
theorem dX1_put_39 : decode cX1_put 39 = .ok (.getfield 159, 3) := by decide +kernel
theorem dX1_put_42 : decode cX1_put 42 = .ok (.iload_n 2, 1) := by decide +kernel
theorem dX1_put_43 : decode cX1_put 43 = .ok (.dup2, 1) := by decide +kernel
theorem dX1_put_44 : decode cX1_put 44 = .ok (.iaload, 1) := by decide +kernel
theorem dX1_put_45 : decode cX1_put 45 = .ok (.iconst 1, 1) := by decide +kernel
theorem dX1_put_46 : decode cX1_put 46 = .ok (.iadd, 1) := by decide +kernel
theorem dX1_put_47 : decode cX1_put 47 = .ok (.iastore, 1) := by decide +kernel
theorem dX1_put_48 : decode cX1_put 48 = .ok (.aload 5, 2) := by decide +kernel
theorem dX1_put_50 : decode cX1_put 50 = .ok (.getfield 162, 3) := by decide +kernel
theorem dX1_put_53 : decode cX1_put 53 = .ok (.iload_n 2, 1) := by decide +kernel
theorem dX1_put_54 : decode cX1_put 54 = .ok (.aload 5, 2) := by decide +kernel
theorem dX1_put_56 : decode cX1_put 56 = .ok (.getfield 89, 3) := by decide +kernel
theorem dX1_put_59 : decode cX1_put 59 = .ok (.iastore, 1) := by decide +kernel
theorem dX1_put_60 : decode cX1_put 60 = .ok (.aload 5, 2) := by decide +kernel
theorem dX1_put_62 : decode cX1_put 62 = .ok (.getfield 165, 3) := by decide +kernel
theorem dX1_put_65 : decode cX1_put 65 = .ok (.iload_n 2, 1) := by decide +kernel
theorem dX1_put_66 : decode cX1_put 66 = .ok (.iload_n 3, 1) := by decide +kernel
theorem dX1_put_67 : decode cX1_put 67 = .ok (.iastore, 1) := by decide +kernel
theorem dX1_put_68 : decode cX1_put 68 = .ok (.aload_n 0, 1) := by decide +kernel
theorem dX1_put_69 : decode cX1_put 69 = .ok (.aload 5, 2) := by decide +kernel
theorem dX1_put_71 : decode cX1_put 71 = .ok (.iload_n 2, 1) := by decide +kernel
theorem dX1_put_72 : decode cX1_put 72 = .ok (.invokevirtual 168, 3) := by decide +kernel
theorem dX1_put_75 : decode cX1_put 75 = .ok (.pop, 1) := by decide +kernel
theorem dX1_put_76 : decode cX1_put 76 = .ok (.aload 5, 2) := by decide +kernel
theorem dX1_put_78 : decode cX1_put 78 = .ok (.getfield 159, 3) := by decide +kernel
theorem dX1_put_81 : decode cX1_put 81 = .ok (.iload_n 2, 1) := by decide +kernel
theorem dX1_put_82 : decode cX1_put 82 = .ok (.iaload, 1) := by decide +kernel
theorem dX1_put_83 : decode cX1_put 83 = .ok (.ireturn, 1) := by decide +kernel
theorem dX1_get_0 : decode cX1_get 0 = .ok (.aload_n 0, 1) := by decide +kernel
theorem dX1_get_1 : decode cX1_get 1 = .ok (.iload_n 1, 1) := by decide +kernel
theorem dX1_get_2 : decode cX1_get 2 = .ok (.invokevirtual 78, 3) := by decide +kernel
theorem dX1_get_5 : decode cX1_get 5 = .ok (.astore_n 3, 1) := by decide +kernel
theorem dX1_get_6 : decode cX1_get 6 = .ok (.iload_n 2, 1) := by decide +kernel
theorem dX1_get_7 : decode cX1_get 7 = .ok (.invokestatic 151, 3) := by decide +kernel
theorem dX1_get_10 : decode cX1_get 10 = .ok (.aload_n 0, 1) := by decide +kernel
theorem dX1_get_11 : decode cX1_get 11 = .ok (.aload_n 3, 1) := by decide +kernel
theorem dX1_get_12 : decode cX1_get 12 = .ok (.iload_n 2, 1) := by decide +kernel
theorem dX1_get_13 : decode cX1_get 13 = .ok (.invokestatic 156, 3) := by decide +kernel
theorem dX1_get_16 : decode cX1_get 16 = .ok (.invokevirtual 81, 3) := by decide +kernel
theorem dX1_get_19 : decode cX1_get 19 = .ok (.astore 4, 2) := by decide +kernel
theorem dX1_get_21 : decode cX1_get 21 = .ok (.aload 4, 2) := by decide +kernel
theorem dX1_get_23 : decode cX1_get 23 = .ok (.getfield 159, 3) := by decide +kernel
theorem dX1_get_26 : decode cX1_get 26 = .ok (.iload_n 2, 1) := by decide +kernel
theorem dX1_get_27 : decode cX1_get 27 = .ok (.iaload, 1) := by decide +kernel
theorem dX1_get_28 : decode cX1_get 28 = .ok (.ifCond .le 8, 3) := by decide +kernel
theorem dX1_get_31 : decode cX1_get 31 = .ok (.aload 4, 2) := by decide +kernel
theorem dX1_get_33 : decode cX1_get 33 = .ok (.goto 10, 3) := by decide +kernel
theorem dX1_get_36 : decode cX1_get 36 = .ok (.aload_n 0, 1) := by decide +kernel
theorem dX1_get_37 : decode cX1_get 37 = .ok (.aload 4, 2) := by decide +kernel
theorem dX1_get_39 : decode cX1_get 39 = .ok (.iload_n 2, 1) := by decide +kernel
theorem dX1_get_40 : decode cX1_get 40 = .ok (.invokevirtual 172, 3) := by decide +kernel
theorem dX1_get_43 : decode cX1_get 43 = .ok (.astore 5, 2) := by decide +kernel
theorem dX1_get_45 : decode cX1_get 45 = .ok (.aload 5, 2) := by decide +kernel
theorem dX1_get_47 : decode cX1_get 47 = .ok (.getfield 165, 3) := by decide +kernel
theorem dX1_get_50 : decode cX1_get 50 = .ok (.iload_n 2, 1) := by decide +kernel
theorem dX1_get_51 : decode cX1_get 51 = .ok (.iaload, 1) := by decide +kernel
theorem dX1_get_52 : decode cX1_get 52 = .ok (.ireturn, 1) := by decide +kernel
theorem dX1_held_0 : decode cX1_held 0 = .ok (.aload_n 0, 1) := by decide +kernel
theorem dX1_held_1 : decode cX1_held 1 = .ok (.iload_n 1, 1) := by decide +kernel
theorem dX1_held_2 : decode cX1_held 2 = .ok (.invokevirtual 78, 3) := by decide +kernel
theorem dX1_held_5 : decode cX1_held 5 = .ok (.astore 4, 2) := by decide +kernel
theorem dX1_held_7 : decode cX1_held 7 = .ok (.iload_n 2, 1) := by decide +kernel
theorem dX1_held_8 : decode cX1_held 8 = .ok (.invokestatic 151, 3) := by decide +kernel
theorem dX1_held_11 : decode cX1_held 11 = .ok (.iload_n 3, 1) := by decide +kernel
theorem dX1_held_12 : decode cX1_held 12 = .ok (.tableswitch 52 0 2 #[28, 36, 44], 28) := by decide +kernel
theorem dX1_held_40 : decode cX1_held 40 = .ok (.aload 4, 2) := by decide +kernel
theorem dX1_held_42 : decode cX1_held 42 = .ok (.getfield 159, 3) := by decide +kernel
theorem dX1_held_45 : decode cX1_held 45 = .ok (.iload_n 2, 1) := by decide +kernel
theorem dX1_held_46 : decode cX1_held 46 = .ok (.iaload, 1) := by decide +kernel
theorem dX1_held_47 : decode cX1_held 47 = .ok (.ireturn, 1) := by decide +kernel
theorem dX1_held_48 : decode cX1_held 48 = .ok (.aload 4, 2) := by decide +kernel
theorem dX1_held_50 : decode cX1_held 50 = .ok (.getfield 162, 3) := by decide +kernel
theorem dX1_held_53 : decode cX1_held 53 = .ok (.iload_n 2, 1) := by decide +kernel
theorem dX1_held_54 : decode cX1_held 54 = .ok (.iaload, 1) := by decide +kernel
theorem dX1_held_55 : decode cX1_held 55 = .ok (.ireturn, 1) := by decide +kernel
theorem dX1_held_56 : decode cX1_held 56 = .ok (.aload 4, 2) := by decide +kernel
theorem dX1_held_58 : decode cX1_held 58 = .ok (.getfield 165, 3) := by decide +kernel
theorem dX1_held_61 : decode cX1_held 61 = .ok (.iload_n 2, 1) := by decide +kernel
theorem dX1_held_62 : decode cX1_held 62 = .ok (.iaload, 1) := by decide +kernel
theorem dX1_held_63 : decode cX1_held 63 = .ok (.ireturn, 1) := by decide +kernel
theorem dX1_held_64 : decode cX1_held 64 = .ok (.new 34, 3) := by decide +kernel
theorem dX1_held_67 : decode cX1_held 67 = .ok (.dup, 1) := by decide +kernel
theorem dX1_held_68 : decode cX1_held 68 = .ok (.ldc 175, 2) := by decide +kernel
theorem dX1_held_70 : decode cX1_held 70 = .ok (.invokespecial 38, 3) := by decide +kernel
theorem dX1_held_73 : decode cX1_held 73 = .ok (.athrow, 1) := by decide +kernel
theorem dX1_known_0 : decode cX1_known 0 = .ok (.aload_n 0, 1) := by decide +kernel
theorem dX1_known_1 : decode cX1_known 1 = .ok (.iload_n 1, 1) := by decide +kernel
theorem dX1_known_2 : decode cX1_known 2 = .ok (.invokevirtual 78, 3) := by decide +kernel
theorem dX1_known_5 : decode cX1_known 5 = .ok (.astore_n 3, 1) := by decide +kernel
theorem dX1_known_6 : decode cX1_known 6 = .ok (.iload_n 2, 1) := by decide +kernel
theorem dX1_known_7 : decode cX1_known 7 = .ok (.iconst (-1), 1) := by decide +kernel
theorem dX1_known_8 : decode cX1_known 8 = .ok (.if_icmp .ne 8, 3) := by decide +kernel
theorem dX1_known_11 : decode cX1_known 11 = .ok (.aload_n 3, 1) := by decide +kernel
theorem dX1_known_12 : decode cX1_known 12 = .ok (.getfield 75, 3) := by decide +kernel
theorem dX1_known_15 : decode cX1_known 15 = .ok (.ireturn, 1) := by decide +kernel
theorem dX1_known_16 : decode cX1_known 16 = .ok (.iload_n 2, 1) := by decide +kernel
theorem dX1_known_17 : decode cX1_known 17 = .ok (.ifCond .lt 18, 3) := by decide +kernel
theorem dX1_known_20 : decode cX1_known 20 = .ok (.iload_n 2, 1) := by decide +kernel
theorem dX1_known_21 : decode cX1_known 21 = .ok (.aload_n 0, 1) := by decide +kernel
theorem dX1_known_22 : decode cX1_known 22 = .ok (.getfield 30, 3) := by decide +kernel
theorem dX1_known_25 : decode cX1_known 25 = .ok (.if_icmp .ge 10, 3) := by decide +kernel
theorem dX1_known_28 : decode cX1_known 28 = .ok (.aload_n 3, 1) := by decide +kernel
theorem dX1_known_29 : decode cX1_known 29 = .ok (.getfield 68, 3) := by decide +kernel
theorem dX1_known_32 : decode cX1_known 32 = .ok (.iload_n 2, 1) := by decide +kernel
theorem dX1_known_33 : decode cX1_known 33 = .ok (.iaload, 1) := by decide +kernel
theorem dX1_known_34 : decode cX1_known 34 = .ok (.ireturn, 1) := by decide +kernel
theorem dX1_known_35 : decode cX1_known 35 = .ok (.iload_n 2, 1) := by decide +kernel
theorem dX1_known_36 : decode cX1_known 36 = .ok (.bipush 10, 2) := by decide +kernel
theorem dX1_known_38 : decode cX1_known 38 = .ok (.if_icmp .lt 19, 3) := by decide +kernel
theorem dX1_known_41 : decode cX1_known 41 = .ok (.iload_n 2, 1) := by decide +kernel
theorem dX1_known_42 : decode cX1_known 42 = .ok (.bipush 18, 2) := by decide +kernel
theorem dX1_known_44 : decode cX1_known 44 = .ok (.if_icmp .ge 13, 3) := by decide +kernel
theorem dX1_known_47 : decode cX1_known 47 = .ok (.aload_n 3, 1) := by decide +kernel
theorem dX1_known_48 : decode cX1_known 48 = .ok (.getfield 120, 3) := by decide +kernel
theorem dX1_known_51 : decode cX1_known 51 = .ok (.iload_n 2, 1) := by decide +kernel
theorem dX1_known_52 : decode cX1_known 52 = .ok (.bipush 10, 2) := by decide +kernel
theorem dX1_known_54 : decode cX1_known 54 = .ok (.isub, 1) := by decide +kernel
theorem dX1_known_55 : decode cX1_known 55 = .ok (.iaload, 1) := by decide +kernel
theorem dX1_known_56 : decode cX1_known 56 = .ok (.ireturn, 1) := by decide +kernel
theorem dX1_known_57 : decode cX1_known 57 = .ok (.new 111, 3) := by decide +kernel
theorem dX1_known_60 : decode cX1_known 60 = .ok (.dup, 1) := by decide +kernel
theorem dX1_known_61 : decode cX1_known 61 = .ok (.ldc 177, 2) := by decide +kernel
theorem dX1_known_63 : decode cX1_known 63 = .ok (.invokespecial 115, 3) := by decide +kernel
theorem dX1_known_66 : decode cX1_known 66 = .ok (.athrow, 1) := by decide +kernel
theorem dX1_owner_0 : decode cX1_owner 0 = .ok (.iload_n 1, 1) := by decide +kernel
theorem dX1_owner_1 : decode cX1_owner 1 = .ok (.invokestatic 49, 3) := by decide +kernel
theorem dX1_owner_4 : decode cX1_owner 4 = .ok (.aload_n 0, 1) := by decide +kernel
theorem dX1_owner_5 : decode cX1_owner 5 = .ok (.iload_n 1, 1) := by decide +kernel
theorem dX1_owner_6 : decode cX1_owner 6 = .ok (.invokevirtual 179, 3) := by decide +kernel
theorem dX1_owner_9 : decode cX1_owner 9 = .ok (.ireturn, 1) := by decide +kernel
theorem dX1_ideal_0 : decode cX1_ideal 0 = .ok (.aload_n 0, 1) := by decide +kernel
theorem dX1_ideal_1 : decode cX1_ideal 1 = .ok (.getfield 53, 3) := by decide +kernel
theorem dX1_ideal_4 : decode cX1_ideal 4 = .ok (.ifCond .ne 5, 3) := by decide +kernel
theorem dX1_ideal_7 : decode cX1_ideal 7 = .ok (.iconst 0, 1) := by decide +kernel
theorem dX1_ideal_8 : decode cX1_ideal 8 = .ok (.ireturn, 1) := by decide +kernel
theorem dX1_ideal_9 : decode cX1_ideal 9 = .ok (.iconst 0, 1) := by decide +kernel
theorem dX1_ideal_10 : decode cX1_ideal 10 = .ok (.istore_n 1, 1) := by decide +kernel
theorem dX1_ideal_11 : decode cX1_ideal 11 = .ok (.iload_n 1, 1) := by decide +kernel
theorem dX1_ideal_12 : decode cX1_ideal 12 = .ok (.aload_n 0, 1) := by decide +kernel
theorem dX1_ideal_13 : decode cX1_ideal 13 = .ok (.getfield 41, 3) := by decide +kernel
theorem dX1_ideal_16 : decode cX1_ideal 16 = .ok (.if_icmp .ge 19, 3) := by decide +kernel
theorem dX1_ideal_19 : decode cX1_ideal 19 = .ok (.aload_n 0, 1) := by decide +kernel
theorem dX1_ideal_20 : decode cX1_ideal 20 = .ok (.iload_n 1, 1) := by decide +kernel
theorem dX1_ideal_21 : decode cX1_ideal 21 = .ok (.invokevirtual 182, 3) := by decide +kernel
theorem dX1_ideal_24 : decode cX1_ideal 24 = .ok (.ifCond .ne 5, 3) := by decide +kernel
theorem dX1_ideal_27 : decode cX1_ideal 27 = .ok (.iconst 0, 1) := by decide +kernel
theorem dX1_ideal_28 : decode cX1_ideal 28 = .ok (.ireturn, 1) := by decide +kernel
theorem dX1_ideal_29 : decode cX1_ideal 29 = .ok (.iinc 1 1, 3) := by decide +kernel
theorem dX1_ideal_32 : decode cX1_ideal 32 = .ok (.goto (-21), 3) := by decide +kernel
theorem dX1_ideal_35 : decode cX1_ideal 35 = .ok (.iconst 1, 1) := by decide +kernel
theorem dX1_ideal_36 : decode cX1_ideal 36 = .ok (.ireturn, 1) := by decide +kernel
theorem dX1_count_0 : decode cX1_count 0 = .ok (.iload_n 1, 1) := by decide +kernel
theorem dX1_count_1 : decode cX1_count 1 = .ok (.tableswitch 95 0 7 #[47, 52, 57, 62, 67, 72, 85, 90], 47) := by decide +kernel
theorem dX1_count_48 : decode cX1_count 48 = .ok (.aload_n 0, 1) := by decide +kernel
theorem dX1_count_49 : decode cX1_count 49 = .ok (.getfield 41, 3) := by decide +kernel
theorem dX1_count_52 : decode cX1_count 52 = .ok (.ireturn, 1) := by decide +kernel
theorem dX1_count_53 : decode cX1_count 53 = .ok (.aload_n 0, 1) := by decide +kernel
theorem dX1_count_54 : decode cX1_count 54 = .ok (.getfield 186, 3) := by decide +kernel
theorem dX1_count_57 : decode cX1_count 57 = .ok (.ireturn, 1) := by decide +kernel
theorem dX1_count_58 : decode cX1_count 58 = .ok (.aload_n 0, 1) := by decide +kernel
theorem dX1_count_59 : decode cX1_count 59 = .ok (.invokevirtual 189, 3) := by decide +kernel
theorem dX1_count_62 : decode cX1_count 62 = .ok (.ireturn, 1) := by decide +kernel
theorem dX1_count_63 : decode cX1_count 63 = .ok (.aload_n 0, 1) := by decide +kernel
theorem dX1_count_64 : decode cX1_count 64 = .ok (.invokevirtual 193, 3) := by decide +kernel
theorem dX1_count_67 : decode cX1_count 67 = .ok (.ireturn, 1) := by decide +kernel
theorem dX1_count_68 : decode cX1_count 68 = .ok (.aload_n 0, 1) := by decide +kernel
theorem dX1_count_69 : decode cX1_count 69 = .ok (.invokevirtual 196, 3) := by decide +kernel
theorem dX1_count_72 : decode cX1_count 72 = .ok (.ireturn, 1) := by decide +kernel
theorem dX1_count_73 : decode cX1_count 73 = .ok (.aload_n 0, 1) := by decide +kernel
theorem dX1_count_74 : decode cX1_count 74 = .ok (.getfield 53, 3) := by decide +kernel
theorem dX1_count_77 : decode cX1_count 77 = .ok (.ifCond .eq 7, 3) := by decide +kernel
theorem dX1_count_80 : decode cX1_count 80 = .ok (.iconst 1, 1) := by decide +kernel
theorem dX1_count_81 : decode cX1_count 81 = .ok (.goto 4, 3) := by decide +kernel
theorem dX1_count_84 : decode cX1_count 84 = .ok (.iconst 0, 1) := by decide +kernel
theorem dX1_count_85 : decode cX1_count 85 = .ok (.ireturn, 1) := by decide +kernel
theorem dX1_count_86 : decode cX1_count 86 = .ok (.aload_n 0, 1) := by decide +kernel
theorem dX1_count_87 : decode cX1_count 87 = .ok (.getfield 146, 3) := by decide +kernel
theorem dX1_count_90 : decode cX1_count 90 = .ok (.ireturn, 1) := by decide +kernel
theorem dX1_count_91 : decode cX1_count 91 = .ok (.aload_n 0, 1) := by decide +kernel
theorem dX1_count_92 : decode cX1_count 92 = .ok (.getfield 199, 3) := by decide +kernel
theorem dX1_count_95 : decode cX1_count 95 = .ok (.ireturn, 1) := by decide +kernel
theorem dX1_count_96 : decode cX1_count 96 = .ok (.new 34, 3) := by decide +kernel
theorem dX1_count_99 : decode cX1_count 99 = .ok (.dup, 1) := by decide +kernel
theorem dX1_count_100 : decode cX1_count 100 = .ok (.ldc 202, 2) := by decide +kernel
theorem dX1_count_102 : decode cX1_count 102 = .ok (.invokespecial 38, 3) := by decide +kernel
theorem dX1_count_105 : decode cX1_count 105 = .ok (.athrow, 1) := by decide +kernel
theorem dX1_find_0 : decode cX1_find 0 = .ok (.aload_n 0, 1) := by decide +kernel
theorem dX1_find_1 : decode cX1_find 1 = .ok (.getfield 53, 3) := by decide +kernel
theorem dX1_find_4 : decode cX1_find 4 = .ok (.ifCond .eq 11, 3) := by decide +kernel
theorem dX1_find_7 : decode cX1_find 7 = .ok (.aload_n 0, 1) := by decide +kernel
theorem dX1_find_8 : decode cX1_find 8 = .ok (.iload_n 1, 1) := by decide +kernel
theorem dX1_find_9 : decode cX1_find 9 = .ok (.invokevirtual 204, 3) := by decide +kernel
theorem dX1_find_12 : decode cX1_find 12 = .ok (.goto 4, 3) := by decide +kernel
theorem dX1_find_15 : decode cX1_find 15 = .ok (.aconst_null, 1) := by decide +kernel
theorem dX1_find_16 : decode cX1_find 16 = .ok (.astore_n 2, 1) := by decide +kernel
theorem dX1_find_17 : decode cX1_find 17 = .ok (.aload_n 2, 1) := by decide +kernel
theorem dX1_find_18 : decode cX1_find 18 = .ok (.ifnonnull 13, 3) := by decide +kernel
theorem dX1_find_21 : decode cX1_find 21 = .ok (.new 111, 3) := by decide +kernel
theorem dX1_find_24 : decode cX1_find 24 = .ok (.dup, 1) := by decide +kernel
theorem dX1_find_25 : decode cX1_find 25 = .ok (.ldc 207, 2) := by decide +kernel
theorem dX1_find_27 : decode cX1_find 27 = .ok (.invokespecial 115, 3) := by decide +kernel
theorem dX1_find_30 : decode cX1_find 30 = .ok (.athrow, 1) := by decide +kernel
theorem dX1_find_31 : decode cX1_find 31 = .ok (.aload_n 2, 1) := by decide +kernel
theorem dX1_find_32 : decode cX1_find 32 = .ok (.areturn, 1) := by decide +kernel
theorem dX1_requireKey_0 : decode cX1_requireKey 0 = .ok (.iload_n 0, 1) := by decide +kernel
theorem dX1_requireKey_1 : decode cX1_requireKey 1 = .ok (.ifCond .lt 9, 3) := by decide +kernel
theorem dX1_requireKey_4 : decode cX1_requireKey 4 = .ok (.iload_n 0, 1) := by decide +kernel
theorem dX1_requireKey_5 : decode cX1_requireKey 5 = .ok (.bipush 64, 2) := by decide +kernel
theorem dX1_requireKey_7 : decode cX1_requireKey 7 = .ok (.if_icmp .lt 13, 3) := by decide +kernel
theorem dX1_requireKey_10 : decode cX1_requireKey 10 = .ok (.new 111, 3) := by decide +kernel
theorem dX1_requireKey_13 : decode cX1_requireKey 13 = .ok (.dup, 1) := by decide +kernel
theorem dX1_requireKey_14 : decode cX1_requireKey 14 = .ok (.ldc 209, 2) := by decide +kernel
theorem dX1_requireKey_16 : decode cX1_requireKey 16 = .ok (.invokespecial 115, 3) := by decide +kernel
theorem dX1_requireKey_19 : decode cX1_requireKey 19 = .ok (.athrow, 1) := by decide +kernel
theorem dX1_requireKey_20 : decode cX1_requireKey 20 = .ok (.return_, 1) := by decide +kernel
theorem dX1_requirePoint_0 : decode cX1_requirePoint 0 = .ok (.iload_n 0, 1) := by decide +kernel
theorem dX1_requirePoint_1 : decode cX1_requirePoint 1 = .ok (.invokestatic 211, 3) := by decide +kernel
theorem dX1_requirePoint_4 : decode cX1_requirePoint 4 = .ok (.ifCond .ne 13, 3) := by decide +kernel
theorem dX1_requirePoint_7 : decode cX1_requirePoint 7 = .ok (.new 34, 3) := by decide +kernel
theorem dX1_requirePoint_10 : decode cX1_requirePoint 10 = .ok (.dup, 1) := by decide +kernel
theorem dX1_requirePoint_11 : decode cX1_requirePoint 11 = .ok (.ldc 214, 2) := by decide +kernel
theorem dX1_requirePoint_13 : decode cX1_requirePoint 13 = .ok (.invokespecial 38, 3) := by decide +kernel
theorem dX1_requirePoint_16 : decode cX1_requirePoint 16 = .ok (.athrow, 1) := by decide +kernel
theorem dX1_requirePoint_17 : decode cX1_requirePoint 17 = .ok (.return_, 1) := by decide +kernel
theorem dX1_requireRoomAt_0 : decode cX1_requireRoomAt 0 = .ok (.aload_n 0, 1) := by decide +kernel
theorem dX1_requireRoomAt_1 : decode cX1_requireRoomAt 1 = .ok (.getfield 19, 3) := by decide +kernel
theorem dX1_requireRoomAt_4 : decode cX1_requireRoomAt 4 = .ok (.iload_n 1, 1) := by decide +kernel
theorem dX1_requireRoomAt_5 : decode cX1_requireRoomAt 5 = .ok (.baload, 1) := by decide +kernel
theorem dX1_requireRoomAt_6 : decode cX1_requireRoomAt 6 = .ok (.ifCond .eq 13, 3) := by decide +kernel
theorem dX1_requireRoomAt_9 : decode cX1_requireRoomAt 9 = .ok (.new 44, 3) := by decide +kernel
theorem dX1_requireRoomAt_12 : decode cX1_requireRoomAt 12 = .ok (.dup, 1) := by decide +kernel
theorem dX1_requireRoomAt_13 : decode cX1_requireRoomAt 13 = .ok (.ldc 216, 2) := by decide +kernel
theorem dX1_requireRoomAt_15 : decode cX1_requireRoomAt 15 = .ok (.invokespecial 48, 3) := by decide +kernel
theorem dX1_requireRoomAt_18 : decode cX1_requireRoomAt 18 = .ok (.athrow, 1) := by decide +kernel
theorem dX1_requireRoomAt_19 : decode cX1_requireRoomAt 19 = .ok (.aload_n 0, 1) := by decide +kernel
theorem dX1_requireRoomAt_20 : decode cX1_requireRoomAt 20 = .ok (.getfield 41, 3) := by decide +kernel
theorem dX1_requireRoomAt_23 : decode cX1_requireRoomAt 23 = .ok (.bipush 20, 2) := by decide +kernel
theorem dX1_requireRoomAt_25 : decode cX1_requireRoomAt 25 = .ok (.if_icmp .lt 13, 3) := by decide +kernel
theorem dX1_requireRoomAt_28 : decode cX1_requireRoomAt 28 = .ok (.new 44, 3) := by decide +kernel
theorem dX1_requireRoomAt_31 : decode cX1_requireRoomAt 31 = .ok (.dup, 1) := by decide +kernel
theorem dX1_requireRoomAt_32 : decode cX1_requireRoomAt 32 = .ok (.ldc 218, 2) := by decide +kernel
theorem dX1_requireRoomAt_34 : decode cX1_requireRoomAt 34 = .ok (.invokespecial 48, 3) := by decide +kernel
theorem dX1_requireRoomAt_37 : decode cX1_requireRoomAt 37 = .ok (.athrow, 1) := by decide +kernel
theorem dX1_requireRoomAt_38 : decode cX1_requireRoomAt 38 = .ok (.return_, 1) := by decide +kernel
theorem dX1_isPoint_0 : decode cX1_isPoint 0 = .ok (.iload_n 0, 1) := by decide +kernel
theorem dX1_isPoint_1 : decode cX1_isPoint 1 = .ok (.ifCond .lt 14, 3) := by decide +kernel
theorem dX1_isPoint_4 : decode cX1_isPoint 4 = .ok (.iload_n 0, 1) := by decide +kernel
theorem dX1_isPoint_5 : decode cX1_isPoint 5 = .ok (.sipush 256, 3) := by decide +kernel
theorem dX1_isPoint_8 : decode cX1_isPoint 8 = .ok (.if_icmp .ge 7, 3) := by decide +kernel
theorem dX1_isPoint_11 : decode cX1_isPoint 11 = .ok (.iconst 1, 1) := by decide +kernel
theorem dX1_isPoint_12 : decode cX1_isPoint 12 = .ok (.goto 4, 3) := by decide +kernel
theorem dX1_isPoint_15 : decode cX1_isPoint 15 = .ok (.iconst 0, 1) := by decide +kernel
theorem dX1_isPoint_16 : decode cX1_isPoint 16 = .ok (.ireturn, 1) := by decide +kernel
theorem dX1_pointUp_0 : decode cX1_pointUp 0 = .ok (.iload_n 0, 1) := by decide +kernel
theorem dX1_pointUp_1 : decode cX1_pointUp 1 = .ok (.iload_n 1, 1) := by decide +kernel
theorem dX1_pointUp_2 : decode cX1_pointUp 2 = .ok (.iadd, 1) := by decide +kernel
theorem dX1_pointUp_3 : decode cX1_pointUp 3 = .ok (.sipush 255, 3) := by decide +kernel
theorem dX1_pointUp_6 : decode cX1_pointUp 6 = .ok (.iand, 1) := by decide +kernel
theorem dX1_pointUp_7 : decode cX1_pointUp 7 = .ok (.ireturn, 1) := by decide +kernel
theorem dX1_stepsUp_0 : decode cX1_stepsUp 0 = .ok (.iload_n 1, 1) := by decide +kernel
theorem dX1_stepsUp_1 : decode cX1_stepsUp 1 = .ok (.iload_n 0, 1) := by decide +kernel
theorem dX1_stepsUp_2 : decode cX1_stepsUp 2 = .ok (.isub, 1) := by decide +kernel
theorem dX1_stepsUp_3 : decode cX1_stepsUp 3 = .ok (.sipush 255, 3) := by decide +kernel
theorem dX1_stepsUp_6 : decode cX1_stepsUp 6 = .ok (.iand, 1) := by decide +kernel
theorem dX1_stepsUp_7 : decode cX1_stepsUp 7 = .ok (.ireturn, 1) := by decide +kernel
theorem dX1_isBetween_0 : decode cX1_isBetween 0 = .ok (.iload_n 0, 1) := by decide +kernel
theorem dX1_isBetween_1 : decode cX1_isBetween 1 = .ok (.iload_n 1, 1) := by decide +kernel
theorem dX1_isBetween_2 : decode cX1_isBetween 2 = .ok (.invokestatic 220, 3) := by decide +kernel
theorem dX1_isBetween_5 : decode cX1_isBetween 5 = .ok (.istore_n 3, 1) := by decide +kernel
theorem dX1_isBetween_6 : decode cX1_isBetween 6 = .ok (.iload_n 0, 1) := by decide +kernel
theorem dX1_isBetween_7 : decode cX1_isBetween 7 = .ok (.iload_n 2, 1) := by decide +kernel
theorem dX1_isBetween_8 : decode cX1_isBetween 8 = .ok (.invokestatic 220, 3) := by decide +kernel
theorem dX1_isBetween_11 : decode cX1_isBetween 11 = .ok (.istore 4, 2) := by decide +kernel
theorem dX1_isBetween_13 : decode cX1_isBetween 13 = .ok (.iload_n 3, 1) := by decide +kernel
theorem dX1_isBetween_14 : decode cX1_isBetween 14 = .ok (.ifCond .eq 18, 3) := by decide +kernel
theorem dX1_isBetween_17 : decode cX1_isBetween 17 = .ok (.iload 4, 2) := by decide +kernel
theorem dX1_isBetween_19 : decode cX1_isBetween 19 = .ok (.ifCond .eq 9, 3) := by decide +kernel
theorem dX1_isBetween_22 : decode cX1_isBetween 22 = .ok (.iload_n 3, 1) := by decide +kernel
theorem dX1_isBetween_23 : decode cX1_isBetween 23 = .ok (.iload 4, 2) := by decide +kernel
theorem dX1_isBetween_25 : decode cX1_isBetween 25 = .ok (.if_icmp .ge 7, 3) := by decide +kernel
theorem dX1_isBetween_28 : decode cX1_isBetween 28 = .ok (.iconst 1, 1) := by decide +kernel
theorem dX1_isBetween_29 : decode cX1_isBetween 29 = .ok (.goto 4, 3) := by decide +kernel
theorem dX1_isBetween_32 : decode cX1_isBetween 32 = .ok (.iconst 0, 1) := by decide +kernel
theorem dX1_isBetween_33 : decode cX1_isBetween 33 = .ok (.ireturn, 1) := by decide +kernel
theorem dX1_pointOfKey_0 : decode cX1_pointOfKey 0 = .ok (.iload_n 0, 1) := by decide +kernel
theorem dX1_pointOfKey_1 : decode cX1_pointOfKey 1 = .ok (.bipush 61, 2) := by decide +kernel
theorem dX1_pointOfKey_3 : decode cX1_pointOfKey 3 = .ok (.imul, 1) := by decide +kernel
theorem dX1_pointOfKey_4 : decode cX1_pointOfKey 4 = .ok (.bipush 17, 2) := by decide +kernel
theorem dX1_pointOfKey_6 : decode cX1_pointOfKey 6 = .ok (.invokestatic 224, 3) := by decide +kernel
theorem dX1_pointOfKey_9 : decode cX1_pointOfKey 9 = .ok (.ireturn, 1) := by decide +kernel
theorem dX1_liveAt_0 : decode cX1_liveAt 0 = .ok (.iload_n 1, 1) := by decide +kernel
theorem dX1_liveAt_1 : decode cX1_liveAt 1 = .ok (.invokestatic 211, 3) := by decide +kernel
theorem dX1_liveAt_4 : decode cX1_liveAt 4 = .ok (.ifCond .eq 12, 3) := by decide +kernel
theorem dX1_liveAt_7 : decode cX1_liveAt 7 = .ok (.aload_n 0, 1) := by decide +kernel
theorem dX1_liveAt_8 : decode cX1_liveAt 8 = .ok (.getfield 16, 3) := by decide +kernel
theorem dX1_liveAt_11 : decode cX1_liveAt 11 = .ok (.iload_n 1, 1) := by decide +kernel
theorem dX1_liveAt_12 : decode cX1_liveAt 12 = .ok (.aaload, 1) := by decide +kernel
theorem dX1_liveAt_13 : decode cX1_liveAt 13 = .ok (.goto 4, 3) := by decide +kernel
theorem dX1_liveAt_16 : decode cX1_liveAt 16 = .ok (.aconst_null, 1) := by decide +kernel
theorem dX1_liveAt_17 : decode cX1_liveAt 17 = .ok (.areturn, 1) := by decide +kernel
theorem dX1_livePointInTurn_0 : decode cX1_livePointInTurn 0 = .ok (.aload_n 0, 1) := by decide +kernel
theorem dX1_livePointInTurn_1 : decode cX1_livePointInTurn 1 = .ok (.getfield 41, 3) := by decide +kernel
theorem dX1_livePointInTurn_4 : decode cX1_livePointInTurn 4 = .ok (.ifCond .ne 7, 3) := by decide +kernel
theorem dX1_livePointInTurn_7 : decode cX1_livePointInTurn 7 = .ok (.iconst (-1), 1) := by decide +kernel
theorem dX1_livePointInTurn_8 : decode cX1_livePointInTurn 8 = .ok (.goto 19, 3) := by decide +kernel
theorem dX1_livePointInTurn_11 : decode cX1_livePointInTurn 11 = .ok (.aload_n 0, 1) := by decide +kernel
theorem dX1_livePointInTurn_12 : decode cX1_livePointInTurn 12 = .ok (.getfield 11, 3) := by decide +kernel
theorem dX1_livePointInTurn_15 : decode cX1_livePointInTurn 15 = .ok (.iload_n 1, 1) := by decide +kernel
theorem dX1_livePointInTurn_16 : decode cX1_livePointInTurn 16 = .ok (.aload_n 0, 1) := by decide +kernel
theorem dX1_livePointInTurn_17 : decode cX1_livePointInTurn 17 = .ok (.getfield 41, 3) := by decide +kernel
theorem dX1_livePointInTurn_20 : decode cX1_livePointInTurn 20 = .ok (.invokestatic 227, 3) := by decide +kernel
theorem dX1_livePointInTurn_23 : decode cX1_livePointInTurn 23 = .ok (.aaload, 1) := by decide +kernel
theorem dX1_livePointInTurn_24 : decode cX1_livePointInTurn 24 = .ok (.getfield 89, 3) := by decide +kernel
theorem dX1_livePointInTurn_27 : decode cX1_livePointInTurn 27 = .ok (.ireturn, 1) := by decide +kernel
theorem dX1_trueOwner_0 : decode cX1_trueOwner 0 = .ok (.iconst 0, 1) := by decide +kernel
theorem dX1_trueOwner_1 : decode cX1_trueOwner 1 = .ok (.istore_n 2, 1) := by decide +kernel
theorem dX1_trueOwner_2 : decode cX1_trueOwner 2 = .ok (.iload_n 2, 1) := by decide +kernel
theorem dX1_trueOwner_3 : decode cX1_trueOwner 3 = .ok (.aload_n 0, 1) := by decide +kernel
theorem dX1_trueOwner_4 : decode cX1_trueOwner 4 = .ok (.getfield 41, 3) := by decide +kernel
theorem dX1_trueOwner_7 : decode cX1_trueOwner 7 = .ok (.if_icmp .ge 32, 3) := by decide +kernel
theorem dX1_trueOwner_10 : decode cX1_trueOwner 10 = .ok (.aload_n 0, 1) := by decide +kernel
theorem dX1_trueOwner_11 : decode cX1_trueOwner 11 = .ok (.getfield 11, 3) := by decide +kernel
theorem dX1_trueOwner_14 : decode cX1_trueOwner 14 = .ok (.iload_n 2, 1) := by decide +kernel
theorem dX1_trueOwner_15 : decode cX1_trueOwner 15 = .ok (.aaload, 1) := by decide +kernel
theorem dX1_trueOwner_16 : decode cX1_trueOwner 16 = .ok (.getfield 89, 3) := by decide +kernel
theorem dX1_trueOwner_19 : decode cX1_trueOwner 19 = .ok (.iload_n 1, 1) := by decide +kernel
theorem dX1_trueOwner_20 : decode cX1_trueOwner 20 = .ok (.if_icmp .lt 13, 3) := by decide +kernel
theorem dX1_trueOwner_23 : decode cX1_trueOwner 23 = .ok (.aload_n 0, 1) := by decide +kernel
theorem dX1_trueOwner_24 : decode cX1_trueOwner 24 = .ok (.getfield 11, 3) := by decide +kernel
theorem dX1_trueOwner_27 : decode cX1_trueOwner 27 = .ok (.iload_n 2, 1) := by decide +kernel
theorem dX1_trueOwner_28 : decode cX1_trueOwner 28 = .ok (.aaload, 1) := by decide +kernel
theorem dX1_trueOwner_29 : decode cX1_trueOwner 29 = .ok (.getfield 89, 3) := by decide +kernel
theorem dX1_trueOwner_32 : decode cX1_trueOwner 32 = .ok (.ireturn, 1) := by decide +kernel
theorem dX1_trueOwner_33 : decode cX1_trueOwner 33 = .ok (.iinc 2 1, 3) := by decide +kernel
theorem dX1_trueOwner_36 : decode cX1_trueOwner 36 = .ok (.goto (-34), 3) := by decide +kernel
theorem dX1_trueOwner_39 : decode cX1_trueOwner 39 = .ok (.aload_n 0, 1) := by decide +kernel
theorem dX1_trueOwner_40 : decode cX1_trueOwner 40 = .ok (.iconst 0, 1) := by decide +kernel
theorem dX1_trueOwner_41 : decode cX1_trueOwner 41 = .ok (.invokevirtual 71, 3) := by decide +kernel
theorem dX1_trueOwner_44 : decode cX1_trueOwner 44 = .ok (.ireturn, 1) := by decide +kernel
theorem dX1_addMember_0 : decode cX1_addMember 0 = .ok (.aload_n 0, 1) := by decide +kernel
theorem dX1_addMember_1 : decode cX1_addMember 1 = .ok (.getfield 11, 3) := by decide +kernel
theorem dX1_addMember_4 : decode cX1_addMember 4 = .ok (.aload_n 0, 1) := by decide +kernel
theorem dX1_addMember_5 : decode cX1_addMember 5 = .ok (.getfield 41, 3) := by decide +kernel
theorem dX1_addMember_8 : decode cX1_addMember 8 = .ok (.aaload, 1) := by decide +kernel
theorem dX1_addMember_9 : decode cX1_addMember 9 = .ok (.astore_n 2, 1) := by decide +kernel
theorem dX1_addMember_10 : decode cX1_addMember 10 = .ok (.aload_n 0, 1) := by decide +kernel
theorem dX1_addMember_11 : decode cX1_addMember 11 = .ok (.getfield 41, 3) := by decide +kernel
theorem dX1_addMember_14 : decode cX1_addMember 14 = .ok (.istore_n 3, 1) := by decide +kernel
theorem dX1_addMember_15 : decode cX1_addMember 15 = .ok (.iload_n 3, 1) := by decide +kernel
theorem dX1_addMember_16 : decode cX1_addMember 16 = .ok (.ifCond .le 38, 3) := by decide +kernel
theorem dX1_addMember_19 : decode cX1_addMember 19 = .ok (.aload_n 0, 1) := by decide +kernel
theorem dX1_addMember_20 : decode cX1_addMember 20 = .ok (.getfield 11, 3) := by decide +kernel
theorem dX1_addMember_23 : decode cX1_addMember 23 = .ok (.iload_n 3, 1) := by decide +kernel
theorem dX1_addMember_24 : decode cX1_addMember 24 = .ok (.iconst 1, 1) := by decide +kernel
theorem dX1_addMember_25 : decode cX1_addMember 25 = .ok (.isub, 1) := by decide +kernel
theorem dX1_addMember_26 : decode cX1_addMember 26 = .ok (.aaload, 1) := by decide +kernel
theorem dX1_addMember_27 : decode cX1_addMember 27 = .ok (.getfield 89, 3) := by decide +kernel
theorem dX1_addMember_30 : decode cX1_addMember 30 = .ok (.iload_n 1, 1) := by decide +kernel
theorem dX1_addMember_31 : decode cX1_addMember 31 = .ok (.if_icmp .le 23, 3) := by decide +kernel
theorem dX1_addMember_34 : decode cX1_addMember 34 = .ok (.aload_n 0, 1) := by decide +kernel
theorem dX1_addMember_35 : decode cX1_addMember 35 = .ok (.getfield 11, 3) := by decide +kernel
theorem dX1_addMember_38 : decode cX1_addMember 38 = .ok (.iload_n 3, 1) := by decide +kernel
theorem dX1_addMember_39 : decode cX1_addMember 39 = .ok (.aload_n 0, 1) := by decide +kernel
theorem dX1_addMember_40 : decode cX1_addMember 40 = .ok (.getfield 11, 3) := by decide +kernel
theorem dX1_addMember_43 : decode cX1_addMember 43 = .ok (.iload_n 3, 1) := by decide +kernel
theorem dX1_addMember_44 : decode cX1_addMember 44 = .ok (.iconst 1, 1) := by decide +kernel
theorem dX1_addMember_45 : decode cX1_addMember 45 = .ok (.isub, 1) := by decide +kernel
theorem dX1_addMember_46 : decode cX1_addMember 46 = .ok (.aaload, 1) := by decide +kernel
theorem dX1_addMember_47 : decode cX1_addMember 47 = .ok (.aastore, 1) := by decide +kernel
theorem dX1_addMember_48 : decode cX1_addMember 48 = .ok (.iinc 3 (-1), 3) := by decide +kernel
theorem dX1_addMember_51 : decode cX1_addMember 51 = .ok (.goto (-36), 3) := by decide +kernel
theorem dX1_addMember_54 : decode cX1_addMember 54 = .ok (.aload_n 0, 1) := by decide +kernel
theorem dX1_addMember_55 : decode cX1_addMember 55 = .ok (.getfield 11, 3) := by decide +kernel
theorem dX1_addMember_58 : decode cX1_addMember 58 = .ok (.iload_n 3, 1) := by decide +kernel
theorem dX1_addMember_59 : decode cX1_addMember 59 = .ok (.aload_n 2, 1) := by decide +kernel
theorem dX1_addMember_60 : decode cX1_addMember 60 = .ok (.aastore, 1) := by decide +kernel
theorem dX1_addMember_61 : decode cX1_addMember 61 = .ok (.aload_n 2, 1) := by decide +kernel
theorem dX1_addMember_62 : decode cX1_addMember 62 = .ok (.iload_n 1, 1) := by decide +kernel
theorem dX1_addMember_63 : decode cX1_addMember 63 = .ok (.invokevirtual 232, 3) := by decide +kernel
theorem dX1_addMember_66 : decode cX1_addMember 66 = .ok (.aload_n 0, 1) := by decide +kernel
theorem dX1_addMember_67 : decode cX1_addMember 67 = .ok (.getfield 16, 3) := by decide +kernel
theorem dX1_addMember_70 : decode cX1_addMember 70 = .ok (.iload_n 1, 1) := by decide +kernel
theorem dX1_addMember_71 : decode cX1_addMember 71 = .ok (.aload_n 2, 1) := by decide +kernel
theorem dX1_addMember_72 : decode cX1_addMember 72 = .ok (.aastore, 1) := by decide +kernel
theorem dX1_addMember_73 : decode cX1_addMember 73 = .ok (.aload_n 0, 1) := by decide +kernel
theorem dX1_addMember_74 : decode cX1_addMember 74 = .ok (.getfield 19, 3) := by decide +kernel
theorem dX1_addMember_77 : decode cX1_addMember 77 = .ok (.iload_n 1, 1) := by decide +kernel
theorem dX1_addMember_78 : decode cX1_addMember 78 = .ok (.iconst 1, 1) := by decide +kernel
theorem dX1_addMember_79 : decode cX1_addMember 79 = .ok (.bastore, 1) := by decide +kernel
theorem dX1_addMember_80 : decode cX1_addMember 80 = .ok (.aload_n 0, 1) := by decide +kernel
theorem dX1_addMember_81 : decode cX1_addMember 81 = .ok (.dup, 1) := by decide +kernel
theorem dX1_addMember_82 : decode cX1_addMember 82 = .ok (.getfield 41, 3) := by decide +kernel
theorem dX1_addMember_85 : decode cX1_addMember 85 = .ok (.iconst 1, 1) := by decide +kernel
theorem dX1_addMember_86 : decode cX1_addMember 86 = .ok (.iadd, 1) := by decide +kernel
theorem dX1_addMember_87 : decode cX1_addMember 87 = .ok (.putfield 41, 3) := by decide +kernel
theorem dX1_addMember_90 : decode cX1_addMember 90 = .ok (.aload_n 2, 1) := by decide +kernel
theorem dX1_addMember_91 : decode cX1_addMember 91 = .ok (.areturn, 1) := by decide +kernel
theorem dX1_removeMember_0 : decode cX1_removeMember 0 = .ok (.iconst 0, 1) := by decide +kernel
theorem dX1_removeMember_1 : decode cX1_removeMember 1 = .ok (.istore_n 2, 1) := by decide +kernel
theorem dX1_removeMember_2 : decode cX1_removeMember 2 = .ok (.iload_n 2, 1) := by decide +kernel
theorem dX1_removeMember_3 : decode cX1_removeMember 3 = .ok (.aload_n 0, 1) := by decide +kernel
theorem dX1_removeMember_4 : decode cX1_removeMember 4 = .ok (.getfield 41, 3) := by decide +kernel
theorem dX1_removeMember_7 : decode cX1_removeMember 7 = .ok (.iconst 1, 1) := by decide +kernel
theorem dX1_removeMember_8 : decode cX1_removeMember 8 = .ok (.isub, 1) := by decide +kernel
theorem dX1_removeMember_9 : decode cX1_removeMember 9 = .ok (.if_icmp .ge 42, 3) := by decide +kernel
theorem dX1_removeMember_12 : decode cX1_removeMember 12 = .ok (.aload_n 0, 1) := by decide +kernel
theorem dX1_removeMember_13 : decode cX1_removeMember 13 = .ok (.getfield 11, 3) := by decide +kernel
theorem dX1_removeMember_16 : decode cX1_removeMember 16 = .ok (.iload_n 2, 1) := by decide +kernel
theorem dX1_removeMember_17 : decode cX1_removeMember 17 = .ok (.aaload, 1) := by decide +kernel
theorem dX1_removeMember_18 : decode cX1_removeMember 18 = .ok (.aload_n 1, 1) := by decide +kernel
theorem dX1_removeMember_19 : decode cX1_removeMember 19 = .ok (.if_acmp .ne 26, 3) := by decide +kernel
theorem dX1_removeMember_22 : decode cX1_removeMember 22 = .ok (.aload_n 0, 1) := by decide +kernel
theorem dX1_removeMember_23 : decode cX1_removeMember 23 = .ok (.getfield 11, 3) := by decide +kernel
theorem dX1_removeMember_26 : decode cX1_removeMember 26 = .ok (.iload_n 2, 1) := by decide +kernel
theorem dX1_removeMember_27 : decode cX1_removeMember 27 = .ok (.aload_n 0, 1) := by decide +kernel
theorem dX1_removeMember_28 : decode cX1_removeMember 28 = .ok (.getfield 11, 3) := by decide +kernel
theorem dX1_removeMember_31 : decode cX1_removeMember 31 = .ok (.iload_n 2, 1) := by decide +kernel
theorem dX1_removeMember_32 : decode cX1_removeMember 32 = .ok (.iconst 1, 1) := by decide +kernel
theorem dX1_removeMember_33 : decode cX1_removeMember 33 = .ok (.iadd, 1) := by decide +kernel
theorem dX1_removeMember_34 : decode cX1_removeMember 34 = .ok (.aaload, 1) := by decide +kernel
theorem dX1_removeMember_35 : decode cX1_removeMember 35 = .ok (.aastore, 1) := by decide +kernel
theorem dX1_removeMember_36 : decode cX1_removeMember 36 = .ok (.aload_n 0, 1) := by decide +kernel
theorem dX1_removeMember_37 : decode cX1_removeMember 37 = .ok (.getfield 11, 3) := by decide +kernel
theorem dX1_removeMember_40 : decode cX1_removeMember 40 = .ok (.iload_n 2, 1) := by decide +kernel
theorem dX1_removeMember_41 : decode cX1_removeMember 41 = .ok (.iconst 1, 1) := by decide +kernel
theorem dX1_removeMember_42 : decode cX1_removeMember 42 = .ok (.iadd, 1) := by decide +kernel
theorem dX1_removeMember_43 : decode cX1_removeMember 43 = .ok (.aload_n 1, 1) := by decide +kernel
theorem dX1_removeMember_44 : decode cX1_removeMember 44 = .ok (.aastore, 1) := by decide +kernel
theorem dX1_removeMember_45 : decode cX1_removeMember 45 = .ok (.iinc 2 1, 3) := by decide +kernel
theorem dX1_removeMember_48 : decode cX1_removeMember 48 = .ok (.goto (-46), 3) := by decide +kernel
theorem dX1_removeMember_51 : decode cX1_removeMember 51 = .ok (.aload_n 0, 1) := by decide +kernel
theorem dX1_removeMember_52 : decode cX1_removeMember 52 = .ok (.getfield 16, 3) := by decide +kernel
theorem dX1_removeMember_55 : decode cX1_removeMember 55 = .ok (.aload_n 1, 1) := by decide +kernel
theorem dX1_removeMember_56 : decode cX1_removeMember 56 = .ok (.getfield 89, 3) := by decide +kernel
theorem dX1_removeMember_59 : decode cX1_removeMember 59 = .ok (.aconst_null, 1) := by decide +kernel
theorem dX1_removeMember_60 : decode cX1_removeMember 60 = .ok (.aastore, 1) := by decide +kernel
theorem dX1_removeMember_61 : decode cX1_removeMember 61 = .ok (.aload_n 0, 1) := by decide +kernel
theorem dX1_removeMember_62 : decode cX1_removeMember 62 = .ok (.dup, 1) := by decide +kernel
theorem dX1_removeMember_63 : decode cX1_removeMember 63 = .ok (.getfield 41, 3) := by decide +kernel
theorem dX1_removeMember_66 : decode cX1_removeMember 66 = .ok (.iconst 1, 1) := by decide +kernel
theorem dX1_removeMember_67 : decode cX1_removeMember 67 = .ok (.isub, 1) := by decide +kernel
theorem dX1_removeMember_68 : decode cX1_removeMember 68 = .ok (.putfield 41, 3) := by decide +kernel
theorem dX1_removeMember_71 : decode cX1_removeMember 71 = .ok (.aload_n 0, 1) := by decide +kernel
theorem dX1_removeMember_72 : decode cX1_removeMember 72 = .ok (.dup, 1) := by decide +kernel
theorem dX1_removeMember_73 : decode cX1_removeMember 73 = .ok (.getfield 186, 3) := by decide +kernel
theorem dX1_removeMember_76 : decode cX1_removeMember 76 = .ok (.iconst 1, 1) := by decide +kernel
theorem dX1_removeMember_77 : decode cX1_removeMember 77 = .ok (.iadd, 1) := by decide +kernel
theorem dX1_removeMember_78 : decode cX1_removeMember 78 = .ok (.putfield 186, 3) := by decide +kernel
theorem dX1_removeMember_81 : decode cX1_removeMember 81 = .ok (.return_, 1) := by decide +kernel
theorem dX1_knowsLiveOneBeside_0 : decode cX1_knowsLiveOneBeside 0 = .ok (.iconst 0, 1) := by decide +kernel
theorem dX1_knowsLiveOneBeside_1 : decode cX1_knowsLiveOneBeside 1 = .ok (.istore_n 3, 1) := by decide +kernel
theorem dX1_knowsLiveOneBeside_2 : decode cX1_knowsLiveOneBeside 2 = .ok (.iload_n 3, 1) := by decide +kernel
theorem dX1_knowsLiveOneBeside_3 : decode cX1_knowsLiveOneBeside 3 = .ok (.aload_n 0, 1) := by decide +kernel
theorem dX1_knowsLiveOneBeside_4 : decode cX1_knowsLiveOneBeside 4 = .ok (.getfield 30, 3) := by decide +kernel
theorem dX1_knowsLiveOneBeside_7 : decode cX1_knowsLiveOneBeside 7 = .ok (.if_icmp .ge 40, 3) := by decide +kernel
theorem dX1_knowsLiveOneBeside_10 : decode cX1_knowsLiveOneBeside 10 = .ok (.aload_n 0, 1) := by decide +kernel
theorem dX1_knowsLiveOneBeside_11 : decode cX1_knowsLiveOneBeside 11 = .ok (.aload_n 1, 1) := by decide +kernel
theorem dX1_knowsLiveOneBeside_12 : decode cX1_knowsLiveOneBeside 12 = .ok (.getfield 68, 3) := by decide +kernel
theorem dX1_knowsLiveOneBeside_15 : decode cX1_knowsLiveOneBeside 15 = .ok (.iload_n 3, 1) := by decide +kernel
theorem dX1_knowsLiveOneBeside_16 : decode cX1_knowsLiveOneBeside 16 = .ok (.iaload, 1) := by decide +kernel
theorem dX1_knowsLiveOneBeside_17 : decode cX1_knowsLiveOneBeside 17 = .ok (.invokevirtual 204, 3) := by decide +kernel
theorem dX1_knowsLiveOneBeside_20 : decode cX1_knowsLiveOneBeside 20 = .ok (.astore 4, 2) := by decide +kernel
theorem dX1_knowsLiveOneBeside_22 : decode cX1_knowsLiveOneBeside 22 = .ok (.aload 4, 2) := by decide +kernel
theorem dX1_knowsLiveOneBeside_24 : decode cX1_knowsLiveOneBeside 24 = .ok (.ifnull 17, 3) := by decide +kernel
theorem dX1_knowsLiveOneBeside_27 : decode cX1_knowsLiveOneBeside 27 = .ok (.aload 4, 2) := by decide +kernel
theorem dX1_knowsLiveOneBeside_29 : decode cX1_knowsLiveOneBeside 29 = .ok (.aload_n 1, 1) := by decide +kernel
theorem dX1_knowsLiveOneBeside_30 : decode cX1_knowsLiveOneBeside 30 = .ok (.if_acmp .eq 11, 3) := by decide +kernel
theorem dX1_knowsLiveOneBeside_33 : decode cX1_knowsLiveOneBeside 33 = .ok (.aload 4, 2) := by decide +kernel
theorem dX1_knowsLiveOneBeside_35 : decode cX1_knowsLiveOneBeside 35 = .ok (.aload_n 2, 1) := by decide +kernel
theorem dX1_knowsLiveOneBeside_36 : decode cX1_knowsLiveOneBeside 36 = .ok (.if_acmp .eq 5, 3) := by decide +kernel
theorem dX1_knowsLiveOneBeside_39 : decode cX1_knowsLiveOneBeside 39 = .ok (.iconst 1, 1) := by decide +kernel
theorem dX1_knowsLiveOneBeside_40 : decode cX1_knowsLiveOneBeside 40 = .ok (.ireturn, 1) := by decide +kernel
theorem dX1_knowsLiveOneBeside_41 : decode cX1_knowsLiveOneBeside 41 = .ok (.iinc 3 1, 3) := by decide +kernel
theorem dX1_knowsLiveOneBeside_44 : decode cX1_knowsLiveOneBeside 44 = .ok (.goto (-42), 3) := by decide +kernel
theorem dX1_knowsLiveOneBeside_47 : decode cX1_knowsLiveOneBeside 47 = .ok (.iconst 0, 1) := by decide +kernel
theorem dX1_knowsLiveOneBeside_48 : decode cX1_knowsLiveOneBeside 48 = .ok (.ireturn, 1) := by decide +kernel
theorem dX1_successor_0 : decode cX1_successor 0 = .ok (.iconst 0, 1) := by decide +kernel
theorem dX1_successor_1 : decode cX1_successor 1 = .ok (.istore_n 2, 1) := by decide +kernel
theorem dX1_successor_2 : decode cX1_successor 2 = .ok (.iload_n 2, 1) := by decide +kernel
theorem dX1_successor_3 : decode cX1_successor 3 = .ok (.aload_n 0, 1) := by decide +kernel
theorem dX1_successor_4 : decode cX1_successor 4 = .ok (.getfield 30, 3) := by decide +kernel
theorem dX1_successor_7 : decode cX1_successor 7 = .ok (.if_icmp .ge 26, 3) := by decide +kernel
theorem dX1_successor_10 : decode cX1_successor 10 = .ok (.aload_n 0, 1) := by decide +kernel
theorem dX1_successor_11 : decode cX1_successor 11 = .ok (.aload_n 1, 1) := by decide +kernel
theorem dX1_successor_12 : decode cX1_successor 12 = .ok (.getfield 68, 3) := by decide +kernel
theorem dX1_successor_15 : decode cX1_successor 15 = .ok (.iload_n 2, 1) := by decide +kernel
theorem dX1_successor_16 : decode cX1_successor 16 = .ok (.iaload, 1) := by decide +kernel
theorem dX1_successor_17 : decode cX1_successor 17 = .ok (.invokevirtual 204, 3) := by decide +kernel
theorem dX1_successor_20 : decode cX1_successor 20 = .ok (.astore_n 3, 1) := by decide +kernel
theorem dX1_successor_21 : decode cX1_successor 21 = .ok (.aload_n 3, 1) := by decide +kernel
theorem dX1_successor_22 : decode cX1_successor 22 = .ok (.ifnull 5, 3) := by decide +kernel
theorem dX1_successor_25 : decode cX1_successor 25 = .ok (.aload_n 3, 1) := by decide +kernel
theorem dX1_successor_26 : decode cX1_successor 26 = .ok (.areturn, 1) := by decide +kernel
theorem dX1_successor_27 : decode cX1_successor 27 = .ok (.iinc 2 1, 3) := by decide +kernel
theorem dX1_successor_30 : decode cX1_successor 30 = .ok (.goto (-28), 3) := by decide +kernel
theorem dX1_successor_33 : decode cX1_successor 33 = .ok (.aconst_null, 1) := by decide +kernel
theorem dX1_successor_34 : decode cX1_successor 34 = .ok (.areturn, 1) := by decide +kernel
theorem dX1_lookFor_0 : decode cX1_lookFor 0 = .ok (.aload_n 1, 1) := by decide +kernel
theorem dX1_lookFor_1 : decode cX1_lookFor 1 = .ok (.astore_n 3, 1) := by decide +kernel
theorem dX1_lookFor_2 : decode cX1_lookFor 2 = .ok (.aload_n 0, 1) := by decide +kernel
theorem dX1_lookFor_3 : decode cX1_lookFor 3 = .ok (.iconst 0, 1) := by decide +kernel
theorem dX1_lookFor_4 : decode cX1_lookFor 4 = .ok (.putfield 143, 3) := by decide +kernel
theorem dX1_lookFor_7 : decode cX1_lookFor 7 = .ok (.iconst 0, 1) := by decide +kernel
theorem dX1_lookFor_8 : decode cX1_lookFor 8 = .ok (.istore 4, 2) := by decide +kernel
theorem dX1_lookFor_10 : decode cX1_lookFor 10 = .ok (.iload 4, 2) := by decide +kernel
theorem dX1_lookFor_12 : decode cX1_lookFor 12 = .ok (.bipush 20, 2) := by decide +kernel
theorem dX1_lookFor_14 : decode cX1_lookFor 14 = .ok (.if_icmp .ge 63, 3) := by decide +kernel
theorem dX1_lookFor_17 : decode cX1_lookFor 17 = .ok (.aload_n 0, 1) := by decide +kernel
theorem dX1_lookFor_18 : decode cX1_lookFor 18 = .ok (.aload_n 3, 1) := by decide +kernel
theorem dX1_lookFor_19 : decode cX1_lookFor 19 = .ok (.iload_n 2, 1) := by decide +kernel
theorem dX1_lookFor_20 : decode cX1_lookFor 20 = .ok (.invokevirtual 235, 3) := by decide +kernel
theorem dX1_lookFor_23 : decode cX1_lookFor 23 = .ok (.astore 5, 2) := by decide +kernel
theorem dX1_lookFor_25 : decode cX1_lookFor 25 = .ok (.aload 5, 2) := by decide +kernel
theorem dX1_lookFor_27 : decode cX1_lookFor 27 = .ok (.ifnull 6, 3) := by decide +kernel
theorem dX1_lookFor_30 : decode cX1_lookFor 30 = .ok (.aload 5, 2) := by decide +kernel
theorem dX1_lookFor_32 : decode cX1_lookFor 32 = .ok (.areturn, 1) := by decide +kernel
theorem dX1_lookFor_33 : decode cX1_lookFor 33 = .ok (.aload_n 0, 1) := by decide +kernel
theorem dX1_lookFor_34 : decode cX1_lookFor 34 = .ok (.aload_n 3, 1) := by decide +kernel
theorem dX1_lookFor_35 : decode cX1_lookFor 35 = .ok (.iload_n 2, 1) := by decide +kernel
theorem dX1_lookFor_36 : decode cX1_lookFor 36 = .ok (.invokevirtual 238, 3) := by decide +kernel
theorem dX1_lookFor_39 : decode cX1_lookFor 39 = .ok (.astore_n 3, 1) := by decide +kernel
theorem dX1_lookFor_40 : decode cX1_lookFor 40 = .ok (.aload_n 0, 1) := by decide +kernel
theorem dX1_lookFor_41 : decode cX1_lookFor 41 = .ok (.getfield 23, 3) := by decide +kernel
theorem dX1_lookFor_44 : decode cX1_lookFor 44 = .ok (.iload 4, 2) := by decide +kernel
theorem dX1_lookFor_46 : decode cX1_lookFor 46 = .ok (.aload_n 3, 1) := by decide +kernel
theorem dX1_lookFor_47 : decode cX1_lookFor 47 = .ok (.getfield 89, 3) := by decide +kernel
theorem dX1_lookFor_50 : decode cX1_lookFor 50 = .ok (.iastore, 1) := by decide +kernel
theorem dX1_lookFor_51 : decode cX1_lookFor 51 = .ok (.aload_n 0, 1) := by decide +kernel
theorem dX1_lookFor_52 : decode cX1_lookFor 52 = .ok (.dup, 1) := by decide +kernel
theorem dX1_lookFor_53 : decode cX1_lookFor 53 = .ok (.getfield 143, 3) := by decide +kernel
theorem dX1_lookFor_56 : decode cX1_lookFor 56 = .ok (.iconst 1, 1) := by decide +kernel
theorem dX1_lookFor_57 : decode cX1_lookFor 57 = .ok (.iadd, 1) := by decide +kernel
theorem dX1_lookFor_58 : decode cX1_lookFor 58 = .ok (.putfield 143, 3) := by decide +kernel
theorem dX1_lookFor_61 : decode cX1_lookFor 61 = .ok (.aload_n 0, 1) := by decide +kernel
theorem dX1_lookFor_62 : decode cX1_lookFor 62 = .ok (.dup, 1) := by decide +kernel
theorem dX1_lookFor_63 : decode cX1_lookFor 63 = .ok (.getfield 199, 3) := by decide +kernel
theorem dX1_lookFor_66 : decode cX1_lookFor 66 = .ok (.iconst 1, 1) := by decide +kernel
theorem dX1_lookFor_67 : decode cX1_lookFor 67 = .ok (.iadd, 1) := by decide +kernel
theorem dX1_lookFor_68 : decode cX1_lookFor 68 = .ok (.putfield 199, 3) := by decide +kernel
theorem dX1_lookFor_71 : decode cX1_lookFor 71 = .ok (.iinc 4 1, 3) := by decide +kernel
theorem dX1_lookFor_74 : decode cX1_lookFor 74 = .ok (.goto (-64), 3) := by decide +kernel
theorem dX1_lookFor_77 : decode cX1_lookFor 77 = .ok (.aload_n 3, 1) := by decide +kernel
theorem dX1_lookFor_78 : decode cX1_lookFor 78 = .ok (.areturn, 1) := by decide +kernel
theorem dX1_ownerKnownBy_0 : decode cX1_ownerKnownBy 0 = .ok (.iload_n 2, 1) := by decide +kernel
theorem dX1_ownerKnownBy_1 : decode cX1_ownerKnownBy 1 = .ok (.aload_n 1, 1) := by decide +kernel
theorem dX1_ownerKnownBy_2 : decode cX1_ownerKnownBy 2 = .ok (.getfield 89, 3) := by decide +kernel
theorem dX1_ownerKnownBy_5 : decode cX1_ownerKnownBy 5 = .ok (.if_icmp .ne 5, 3) := by decide +kernel
theorem dX1_ownerKnownBy_8 : decode cX1_ownerKnownBy 8 = .ok (.aload_n 1, 1) := by decide +kernel
theorem dX1_ownerKnownBy_9 : decode cX1_ownerKnownBy 9 = .ok (.areturn, 1) := by decide +kernel
theorem dX1_ownerKnownBy_10 : decode cX1_ownerKnownBy 10 = .ok (.aload_n 0, 1) := by decide +kernel
theorem dX1_ownerKnownBy_11 : decode cX1_ownerKnownBy 11 = .ok (.aload_n 1, 1) := by decide +kernel
theorem dX1_ownerKnownBy_12 : decode cX1_ownerKnownBy 12 = .ok (.invokevirtual 107, 3) := by decide +kernel
theorem dX1_ownerKnownBy_15 : decode cX1_ownerKnownBy 15 = .ok (.astore_n 3, 1) := by decide +kernel
theorem dX1_ownerKnownBy_16 : decode cX1_ownerKnownBy 16 = .ok (.aload_n 3, 1) := by decide +kernel
theorem dX1_ownerKnownBy_17 : decode cX1_ownerKnownBy 17 = .ok (.ifnull 28, 3) := by decide +kernel
theorem dX1_ownerKnownBy_20 : decode cX1_ownerKnownBy 20 = .ok (.iload_n 2, 1) := by decide +kernel
theorem dX1_ownerKnownBy_21 : decode cX1_ownerKnownBy 21 = .ok (.aload_n 3, 1) := by decide +kernel
theorem dX1_ownerKnownBy_22 : decode cX1_ownerKnownBy 22 = .ok (.getfield 89, 3) := by decide +kernel
theorem dX1_ownerKnownBy_25 : decode cX1_ownerKnownBy 25 = .ok (.if_icmp .eq 18, 3) := by decide +kernel
theorem dX1_ownerKnownBy_28 : decode cX1_ownerKnownBy 28 = .ok (.aload_n 1, 1) := by decide +kernel
theorem dX1_ownerKnownBy_29 : decode cX1_ownerKnownBy 29 = .ok (.getfield 89, 3) := by decide +kernel
theorem dX1_ownerKnownBy_32 : decode cX1_ownerKnownBy 32 = .ok (.iload_n 2, 1) := by decide +kernel
theorem dX1_ownerKnownBy_33 : decode cX1_ownerKnownBy 33 = .ok (.aload_n 3, 1) := by decide +kernel
theorem dX1_ownerKnownBy_34 : decode cX1_ownerKnownBy 34 = .ok (.getfield 89, 3) := by decide +kernel
theorem dX1_ownerKnownBy_37 : decode cX1_ownerKnownBy 37 = .ok (.invokestatic 241, 3) := by decide +kernel
theorem dX1_ownerKnownBy_40 : decode cX1_ownerKnownBy 40 = .ok (.ifCond .eq 5, 3) := by decide +kernel
theorem dX1_ownerKnownBy_43 : decode cX1_ownerKnownBy 43 = .ok (.aload_n 3, 1) := by decide +kernel
theorem dX1_ownerKnownBy_44 : decode cX1_ownerKnownBy 44 = .ok (.areturn, 1) := by decide +kernel
theorem dX1_ownerKnownBy_45 : decode cX1_ownerKnownBy 45 = .ok (.aconst_null, 1) := by decide +kernel
theorem dX1_ownerKnownBy_46 : decode cX1_ownerKnownBy 46 = .ok (.areturn, 1) := by decide +kernel
theorem dX1_lastKnownAheadOf_0 : decode cX1_lastKnownAheadOf 0 = .ok (.aload_n 1, 1) := by decide +kernel
theorem dX1_lastKnownAheadOf_1 : decode cX1_lastKnownAheadOf 1 = .ok (.astore_n 3, 1) := by decide +kernel
theorem dX1_lastKnownAheadOf_2 : decode cX1_lastKnownAheadOf 2 = .ok (.iconst 0, 1) := by decide +kernel
theorem dX1_lastKnownAheadOf_3 : decode cX1_lastKnownAheadOf 3 = .ok (.istore 4, 2) := by decide +kernel
theorem dX1_lastKnownAheadOf_5 : decode cX1_lastKnownAheadOf 5 = .ok (.iload 4, 2) := by decide +kernel
theorem dX1_lastKnownAheadOf_7 : decode cX1_lastKnownAheadOf 7 = .ok (.aload_n 0, 1) := by decide +kernel
theorem dX1_lastKnownAheadOf_8 : decode cX1_lastKnownAheadOf 8 = .ok (.getfield 30, 3) := by decide +kernel
theorem dX1_lastKnownAheadOf_11 : decode cX1_lastKnownAheadOf 11 = .ok (.bipush 8, 2) := by decide +kernel
theorem dX1_lastKnownAheadOf_13 : decode cX1_lastKnownAheadOf 13 = .ok (.iadd, 1) := by decide +kernel
theorem dX1_lastKnownAheadOf_14 : decode cX1_lastKnownAheadOf 14 = .ok (.if_icmp .ge 70, 3) := by decide +kernel
theorem dX1_lastKnownAheadOf_17 : decode cX1_lastKnownAheadOf 17 = .ok (.aload_n 0, 1) := by decide +kernel
theorem dX1_lastKnownAheadOf_18 : decode cX1_lastKnownAheadOf 18 = .ok (.iload 4, 2) := by decide +kernel
theorem dX1_lastKnownAheadOf_20 : decode cX1_lastKnownAheadOf 20 = .ok (.aload_n 0, 1) := by decide +kernel
theorem dX1_lastKnownAheadOf_21 : decode cX1_lastKnownAheadOf 21 = .ok (.getfield 30, 3) := by decide +kernel
theorem dX1_lastKnownAheadOf_24 : decode cX1_lastKnownAheadOf 24 = .ok (.if_icmp .ge 13, 3) := by decide +kernel
theorem dX1_lastKnownAheadOf_27 : decode cX1_lastKnownAheadOf 27 = .ok (.aload_n 1, 1) := by decide +kernel
theorem dX1_lastKnownAheadOf_28 : decode cX1_lastKnownAheadOf 28 = .ok (.getfield 68, 3) := by decide +kernel
theorem dX1_lastKnownAheadOf_31 : decode cX1_lastKnownAheadOf 31 = .ok (.iload 4, 2) := by decide +kernel
theorem dX1_lastKnownAheadOf_33 : decode cX1_lastKnownAheadOf 33 = .ok (.iaload, 1) := by decide +kernel
theorem dX1_lastKnownAheadOf_34 : decode cX1_lastKnownAheadOf 34 = .ok (.goto 15, 3) := by decide +kernel
theorem dX1_lastKnownAheadOf_37 : decode cX1_lastKnownAheadOf 37 = .ok (.aload_n 1, 1) := by decide +kernel
theorem dX1_lastKnownAheadOf_38 : decode cX1_lastKnownAheadOf 38 = .ok (.getfield 120, 3) := by decide +kernel
theorem dX1_lastKnownAheadOf_41 : decode cX1_lastKnownAheadOf 41 = .ok (.iload 4, 2) := by decide +kernel
theorem dX1_lastKnownAheadOf_43 : decode cX1_lastKnownAheadOf 43 = .ok (.aload_n 0, 1) := by decide +kernel
theorem dX1_lastKnownAheadOf_44 : decode cX1_lastKnownAheadOf 44 = .ok (.getfield 30, 3) := by decide +kernel
theorem dX1_lastKnownAheadOf_47 : decode cX1_lastKnownAheadOf 47 = .ok (.isub, 1) := by decide +kernel
theorem dX1_lastKnownAheadOf_48 : decode cX1_lastKnownAheadOf 48 = .ok (.iaload, 1) := by decide +kernel
theorem dX1_lastKnownAheadOf_49 : decode cX1_lastKnownAheadOf 49 = .ok (.invokevirtual 204, 3) := by decide +kernel
theorem dX1_lastKnownAheadOf_52 : decode cX1_lastKnownAheadOf 52 = .ok (.astore 5, 2) := by decide +kernel
theorem dX1_lastKnownAheadOf_54 : decode cX1_lastKnownAheadOf 54 = .ok (.aload 5, 2) := by decide +kernel
theorem dX1_lastKnownAheadOf_56 : decode cX1_lastKnownAheadOf 56 = .ok (.ifnull 22, 3) := by decide +kernel
theorem dX1_lastKnownAheadOf_59 : decode cX1_lastKnownAheadOf 59 = .ok (.aload_n 3, 1) := by decide +kernel
theorem dX1_lastKnownAheadOf_60 : decode cX1_lastKnownAheadOf 60 = .ok (.getfield 89, 3) := by decide +kernel
theorem dX1_lastKnownAheadOf_63 : decode cX1_lastKnownAheadOf 63 = .ok (.aload 5, 2) := by decide +kernel
theorem dX1_lastKnownAheadOf_65 : decode cX1_lastKnownAheadOf 65 = .ok (.getfield 89, 3) := by decide +kernel
theorem dX1_lastKnownAheadOf_68 : decode cX1_lastKnownAheadOf 68 = .ok (.iload_n 2, 1) := by decide +kernel
theorem dX1_lastKnownAheadOf_69 : decode cX1_lastKnownAheadOf 69 = .ok (.invokestatic 241, 3) := by decide +kernel
theorem dX1_lastKnownAheadOf_72 : decode cX1_lastKnownAheadOf 72 = .ok (.ifCond .eq 6, 3) := by decide +kernel
theorem dX1_lastKnownAheadOf_75 : decode cX1_lastKnownAheadOf 75 = .ok (.aload 5, 2) := by decide +kernel
theorem dX1_lastKnownAheadOf_77 : decode cX1_lastKnownAheadOf 77 = .ok (.astore_n 3, 1) := by decide +kernel
theorem dX1_lastKnownAheadOf_78 : decode cX1_lastKnownAheadOf 78 = .ok (.iinc 4 1, 3) := by decide +kernel
theorem dX1_lastKnownAheadOf_81 : decode cX1_lastKnownAheadOf 81 = .ok (.goto (-76), 3) := by decide +kernel
theorem dX1_lastKnownAheadOf_84 : decode cX1_lastKnownAheadOf 84 = .ok (.aload_n 3, 1) := by decide +kernel
theorem dX1_lastKnownAheadOf_85 : decode cX1_lastKnownAheadOf 85 = .ok (.areturn, 1) := by decide +kernel
theorem dX1_takeOver_0 : decode cX1_takeOver 0 = .ok (.aload_n 0, 1) := by decide +kernel
theorem dX1_takeOver_1 : decode cX1_takeOver 1 = .ok (.getfield 30, 3) := by decide +kernel
theorem dX1_takeOver_4 : decode cX1_takeOver 4 = .ok (.iconst 1, 1) := by decide +kernel
theorem dX1_takeOver_5 : decode cX1_takeOver 5 = .ok (.isub, 1) := by decide +kernel
theorem dX1_takeOver_6 : decode cX1_takeOver 6 = .ok (.istore_n 3, 1) := by decide +kernel
theorem dX1_takeOver_7 : decode cX1_takeOver 7 = .ok (.iload_n 3, 1) := by decide +kernel
theorem dX1_takeOver_8 : decode cX1_takeOver 8 = .ok (.ifCond .le 23, 3) := by decide +kernel
theorem dX1_takeOver_11 : decode cX1_takeOver 11 = .ok (.aload_n 1, 1) := by decide +kernel
theorem dX1_takeOver_12 : decode cX1_takeOver 12 = .ok (.getfield 68, 3) := by decide +kernel
theorem dX1_takeOver_15 : decode cX1_takeOver 15 = .ok (.iload_n 3, 1) := by decide +kernel
theorem dX1_takeOver_16 : decode cX1_takeOver 16 = .ok (.aload_n 2, 1) := by decide +kernel
theorem dX1_takeOver_17 : decode cX1_takeOver 17 = .ok (.getfield 68, 3) := by decide +kernel
theorem dX1_takeOver_20 : decode cX1_takeOver 20 = .ok (.iload_n 3, 1) := by decide +kernel
theorem dX1_takeOver_21 : decode cX1_takeOver 21 = .ok (.iconst 1, 1) := by decide +kernel
theorem dX1_takeOver_22 : decode cX1_takeOver 22 = .ok (.isub, 1) := by decide +kernel
theorem dX1_takeOver_23 : decode cX1_takeOver 23 = .ok (.iaload, 1) := by decide +kernel
theorem dX1_takeOver_24 : decode cX1_takeOver 24 = .ok (.iastore, 1) := by decide +kernel
theorem dX1_takeOver_25 : decode cX1_takeOver 25 = .ok (.iinc 3 (-1), 3) := by decide +kernel
theorem dX1_takeOver_28 : decode cX1_takeOver 28 = .ok (.goto (-21), 3) := by decide +kernel
theorem dX1_takeOver_31 : decode cX1_takeOver 31 = .ok (.aload_n 1, 1) := by decide +kernel
theorem dX1_takeOver_32 : decode cX1_takeOver 32 = .ok (.getfield 68, 3) := by decide +kernel
theorem dX1_takeOver_35 : decode cX1_takeOver 35 = .ok (.iconst 0, 1) := by decide +kernel
theorem dX1_takeOver_36 : decode cX1_takeOver 36 = .ok (.aload_n 2, 1) := by decide +kernel
theorem dX1_takeOver_37 : decode cX1_takeOver 37 = .ok (.getfield 89, 3) := by decide +kernel
theorem dX1_takeOver_40 : decode cX1_takeOver 40 = .ok (.iastore, 1) := by decide +kernel
theorem dX1_takeOver_41 : decode cX1_takeOver 41 = .ok (.return_, 1) := by decide +kernel
theorem dX1_stabiliseMember_0 : decode cX1_stabiliseMember 0 = .ok (.aload_n 0, 1) := by decide +kernel
theorem dX1_stabiliseMember_1 : decode cX1_stabiliseMember 1 = .ok (.aload_n 1, 1) := by decide +kernel
theorem dX1_stabiliseMember_2 : decode cX1_stabiliseMember 2 = .ok (.invokevirtual 107, 3) := by decide +kernel
theorem dX1_stabiliseMember_5 : decode cX1_stabiliseMember 5 = .ok (.astore_n 2, 1) := by decide +kernel
theorem dX1_stabiliseMember_6 : decode cX1_stabiliseMember 6 = .ok (.aload_n 2, 1) := by decide +kernel
theorem dX1_stabiliseMember_7 : decode cX1_stabiliseMember 7 = .ok (.ifnonnull 4, 3) := by decide +kernel
theorem dX1_stabiliseMember_10 : decode cX1_stabiliseMember 10 = .ok (.return_, 1) := by decide +kernel
theorem dX1_stabiliseMember_11 : decode cX1_stabiliseMember 11 = .ok (.aload_n 0, 1) := by decide +kernel
theorem dX1_stabiliseMember_12 : decode cX1_stabiliseMember 12 = .ok (.aload_n 1, 1) := by decide +kernel
theorem dX1_stabiliseMember_13 : decode cX1_stabiliseMember 13 = .ok (.aload_n 2, 1) := by decide +kernel
theorem dX1_stabiliseMember_14 : decode cX1_stabiliseMember 14 = .ok (.invokevirtual 85, 3) := by decide +kernel
theorem dX1_stabiliseMember_17 : decode cX1_stabiliseMember 17 = .ok (.aload_n 0, 1) := by decide +kernel
theorem dX1_stabiliseMember_18 : decode cX1_stabiliseMember 18 = .ok (.aload_n 2, 1) := by decide +kernel
theorem dX1_stabiliseMember_19 : decode cX1_stabiliseMember 19 = .ok (.getfield 75, 3) := by decide +kernel
theorem dX1_stabiliseMember_22 : decode cX1_stabiliseMember 22 = .ok (.invokevirtual 204, 3) := by decide +kernel
theorem dX1_stabiliseMember_25 : decode cX1_stabiliseMember 25 = .ok (.astore_n 3, 1) := by decide +kernel
theorem dX1_stabiliseMember_26 : decode cX1_stabiliseMember 26 = .ok (.aload_n 3, 1) := by decide +kernel
theorem dX1_stabiliseMember_27 : decode cX1_stabiliseMember 27 = .ok (.ifnull 27, 3) := by decide +kernel
theorem dX1_stabiliseMember_30 : decode cX1_stabiliseMember 30 = .ok (.aload_n 1, 1) := by decide +kernel
theorem dX1_stabiliseMember_31 : decode cX1_stabiliseMember 31 = .ok (.getfield 89, 3) := by decide +kernel
theorem dX1_stabiliseMember_34 : decode cX1_stabiliseMember 34 = .ok (.aload_n 3, 1) := by decide +kernel
theorem dX1_stabiliseMember_35 : decode cX1_stabiliseMember 35 = .ok (.getfield 89, 3) := by decide +kernel
theorem dX1_stabiliseMember_38 : decode cX1_stabiliseMember 38 = .ok (.aload_n 2, 1) := by decide +kernel
theorem dX1_stabiliseMember_39 : decode cX1_stabiliseMember 39 = .ok (.getfield 89, 3) := by decide +kernel
theorem dX1_stabiliseMember_42 : decode cX1_stabiliseMember 42 = .ok (.invokestatic 241, 3) := by decide +kernel
theorem dX1_stabiliseMember_45 : decode cX1_stabiliseMember 45 = .ok (.ifCond .eq 9, 3) := by decide +kernel
theorem dX1_stabiliseMember_48 : decode cX1_stabiliseMember 48 = .ok (.aload_n 0, 1) := by decide +kernel
theorem dX1_stabiliseMember_49 : decode cX1_stabiliseMember 49 = .ok (.aload_n 1, 1) := by decide +kernel
theorem dX1_stabiliseMember_50 : decode cX1_stabiliseMember 50 = .ok (.aload_n 3, 1) := by decide +kernel
theorem dX1_stabiliseMember_51 : decode cX1_stabiliseMember 51 = .ok (.invokevirtual 85, 3) := by decide +kernel
theorem dX1_stabiliseMember_54 : decode cX1_stabiliseMember 54 = .ok (.aload_n 0, 1) := by decide +kernel
theorem dX1_stabiliseMember_55 : decode cX1_stabiliseMember 55 = .ok (.aload_n 0, 1) := by decide +kernel
theorem dX1_stabiliseMember_56 : decode cX1_stabiliseMember 56 = .ok (.aload_n 1, 1) := by decide +kernel
theorem dX1_stabiliseMember_57 : decode cX1_stabiliseMember 57 = .ok (.invokevirtual 107, 3) := by decide +kernel
theorem dX1_stabiliseMember_60 : decode cX1_stabiliseMember 60 = .ok (.aload_n 1, 1) := by decide +kernel
theorem dX1_stabiliseMember_61 : decode cX1_stabiliseMember 61 = .ok (.invokevirtual 245, 3) := by decide +kernel
theorem dX1_stabiliseMember_64 : decode cX1_stabiliseMember 64 = .ok (.return_, 1) := by decide +kernel
theorem dX1_tell_0 : decode cX1_tell 0 = .ok (.aload_n 1, 1) := by decide +kernel
theorem dX1_tell_1 : decode cX1_tell 1 = .ok (.ifnull 8, 3) := by decide +kernel
theorem dX1_tell_4 : decode cX1_tell 4 = .ok (.aload_n 1, 1) := by decide +kernel
theorem dX1_tell_5 : decode cX1_tell 5 = .ok (.aload_n 2, 1) := by decide +kernel
theorem dX1_tell_6 : decode cX1_tell 6 = .ok (.if_acmp .ne 4, 3) := by decide +kernel
theorem dX1_tell_9 : decode cX1_tell 9 = .ok (.return_, 1) := by decide +kernel
theorem dX1_tell_10 : decode cX1_tell 10 = .ok (.aload_n 0, 1) := by decide +kernel
theorem dX1_tell_11 : decode cX1_tell 11 = .ok (.aload_n 1, 1) := by decide +kernel
theorem dX1_tell_12 : decode cX1_tell 12 = .ok (.getfield 75, 3) := by decide +kernel
theorem dX1_tell_15 : decode cX1_tell 15 = .ok (.invokevirtual 204, 3) := by decide +kernel
theorem dX1_tell_18 : decode cX1_tell 18 = .ok (.astore_n 3, 1) := by decide +kernel
theorem dX1_tell_19 : decode cX1_tell 19 = .ok (.aload_n 3, 1) := by decide +kernel
theorem dX1_tell_20 : decode cX1_tell 20 = .ok (.ifnull 21, 3) := by decide +kernel
theorem dX1_tell_23 : decode cX1_tell 23 = .ok (.aload_n 3, 1) := by decide +kernel
theorem dX1_tell_24 : decode cX1_tell 24 = .ok (.getfield 89, 3) := by decide +kernel
theorem dX1_tell_27 : decode cX1_tell 27 = .ok (.aload_n 2, 1) := by decide +kernel
theorem dX1_tell_28 : decode cX1_tell 28 = .ok (.getfield 89, 3) := by decide +kernel
theorem dX1_tell_31 : decode cX1_tell 31 = .ok (.aload_n 1, 1) := by decide +kernel
theorem dX1_tell_32 : decode cX1_tell 32 = .ok (.getfield 89, 3) := by decide +kernel
theorem dX1_tell_35 : decode cX1_tell 35 = .ok (.invokestatic 241, 3) := by decide +kernel
theorem dX1_tell_38 : decode cX1_tell 38 = .ok (.ifCond .eq 11, 3) := by decide +kernel
theorem dX1_tell_41 : decode cX1_tell 41 = .ok (.aload_n 1, 1) := by decide +kernel
theorem dX1_tell_42 : decode cX1_tell 42 = .ok (.aload_n 2, 1) := by decide +kernel
theorem dX1_tell_43 : decode cX1_tell 43 = .ok (.getfield 89, 3) := by decide +kernel
theorem dX1_tell_46 : decode cX1_tell 46 = .ok (.putfield 75, 3) := by decide +kernel
theorem dX1_tell_49 : decode cX1_tell 49 = .ok (.return_, 1) := by decide +kernel
theorem dX1_mendFinger_0 : decode cX1_mendFinger 0 = .ok (.aload_n 1, 1) := by decide +kernel
theorem dX1_mendFinger_1 : decode cX1_mendFinger 1 = .ok (.getfield 120, 3) := by decide +kernel
theorem dX1_mendFinger_4 : decode cX1_mendFinger 4 = .ok (.iload_n 2, 1) := by decide +kernel
theorem dX1_mendFinger_5 : decode cX1_mendFinger 5 = .ok (.aload_n 0, 1) := by decide +kernel
theorem dX1_mendFinger_6 : decode cX1_mendFinger 6 = .ok (.aload_n 1, 1) := by decide +kernel
theorem dX1_mendFinger_7 : decode cX1_mendFinger 7 = .ok (.aload_n 1, 1) := by decide +kernel
theorem dX1_mendFinger_8 : decode cX1_mendFinger 8 = .ok (.getfield 89, 3) := by decide +kernel
theorem dX1_mendFinger_11 : decode cX1_mendFinger 11 = .ok (.iconst 1, 1) := by decide +kernel
theorem dX1_mendFinger_12 : decode cX1_mendFinger 12 = .ok (.iload_n 2, 1) := by decide +kernel
theorem dX1_mendFinger_13 : decode cX1_mendFinger 13 = .ok (.ishl, 1) := by decide +kernel
theorem dX1_mendFinger_14 : decode cX1_mendFinger 14 = .ok (.invokestatic 224, 3) := by decide +kernel
theorem dX1_mendFinger_17 : decode cX1_mendFinger 17 = .ok (.invokevirtual 81, 3) := by decide +kernel
theorem dX1_mendFinger_20 : decode cX1_mendFinger 20 = .ok (.getfield 89, 3) := by decide +kernel
theorem dX1_mendFinger_23 : decode cX1_mendFinger 23 = .ok (.iastore, 1) := by decide +kernel
theorem dX1_mendFinger_24 : decode cX1_mendFinger 24 = .ok (.return_, 1) := by decide +kernel
theorem dX1_takeTurn_0 : decode cX1_takeTurn 0 = .ok (.aload_n 0, 1) := by decide +kernel
theorem dX1_takeTurn_1 : decode cX1_takeTurn 1 = .ok (.aload_n 1, 1) := by decide +kernel
theorem dX1_takeTurn_2 : decode cX1_takeTurn 2 = .ok (.invokevirtual 104, 3) := by decide +kernel
theorem dX1_takeTurn_5 : decode cX1_takeTurn 5 = .ok (.aload_n 0, 1) := by decide +kernel
theorem dX1_takeTurn_6 : decode cX1_takeTurn 6 = .ok (.aload_n 1, 1) := by decide +kernel
theorem dX1_takeTurn_7 : decode cX1_takeTurn 7 = .ok (.aload_n 1, 1) := by decide +kernel
theorem dX1_takeTurn_8 : decode cX1_takeTurn 8 = .ok (.getfield 248, 3) := by decide +kernel
theorem dX1_takeTurn_11 : decode cX1_takeTurn 11 = .ok (.invokevirtual 116, 3) := by decide +kernel
theorem dX1_takeTurn_14 : decode cX1_takeTurn 14 = .ok (.aload_n 1, 1) := by decide +kernel
theorem dX1_takeTurn_15 : decode cX1_takeTurn 15 = .ok (.aload_n 1, 1) := by decide +kernel
theorem dX1_takeTurn_16 : decode cX1_takeTurn 16 = .ok (.getfield 248, 3) := by decide +kernel
theorem dX1_takeTurn_19 : decode cX1_takeTurn 19 = .ok (.iconst 1, 1) := by decide +kernel
theorem dX1_takeTurn_20 : decode cX1_takeTurn 20 = .ok (.iadd, 1) := by decide +kernel
theorem dX1_takeTurn_21 : decode cX1_takeTurn 21 = .ok (.bipush 8, 2) := by decide +kernel
theorem dX1_takeTurn_23 : decode cX1_takeTurn 23 = .ok (.irem, 1) := by decide +kernel
theorem dX1_takeTurn_24 : decode cX1_takeTurn 24 = .ok (.putfield 248, 3) := by decide +kernel
theorem dX1_takeTurn_27 : decode cX1_takeTurn 27 = .ok (.aload_n 0, 1) := by decide +kernel
theorem dX1_takeTurn_28 : decode cX1_takeTurn 28 = .ok (.aload_n 1, 1) := by decide +kernel
theorem dX1_takeTurn_29 : decode cX1_takeTurn 29 = .ok (.invokevirtual 123, 3) := by decide +kernel
theorem dX1_takeTurn_32 : decode cX1_takeTurn 32 = .ok (.aload_n 0, 1) := by decide +kernel
theorem dX1_takeTurn_33 : decode cX1_takeTurn 33 = .ok (.aload_n 1, 1) := by decide +kernel
theorem dX1_takeTurn_34 : decode cX1_takeTurn 34 = .ok (.invokevirtual 127, 3) := by decide +kernel
theorem dX1_takeTurn_37 : decode cX1_takeTurn 37 = .ok (.iadd, 1) := by decide +kernel
theorem dX1_takeTurn_38 : decode cX1_takeTurn 38 = .ok (.ireturn, 1) := by decide +kernel
theorem dX1_takeFromSuccessor_0 : decode cX1_takeFromSuccessor 0 = .ok (.aload_n 0, 1) := by decide +kernel
theorem dX1_takeFromSuccessor_1 : decode cX1_takeFromSuccessor 1 = .ok (.aload_n 1, 1) := by decide +kernel
theorem dX1_takeFromSuccessor_2 : decode cX1_takeFromSuccessor 2 = .ok (.getfield 75, 3) := by decide +kernel
theorem dX1_takeFromSuccessor_5 : decode cX1_takeFromSuccessor 5 = .ok (.invokevirtual 204, 3) := by decide +kernel
theorem dX1_takeFromSuccessor_8 : decode cX1_takeFromSuccessor 8 = .ok (.astore_n 2, 1) := by decide +kernel
theorem dX1_takeFromSuccessor_9 : decode cX1_takeFromSuccessor 9 = .ok (.aload_n 0, 1) := by decide +kernel
theorem dX1_takeFromSuccessor_10 : decode cX1_takeFromSuccessor 10 = .ok (.aload_n 1, 1) := by decide +kernel
theorem dX1_takeFromSuccessor_11 : decode cX1_takeFromSuccessor 11 = .ok (.invokevirtual 107, 3) := by decide +kernel
theorem dX1_takeFromSuccessor_14 : decode cX1_takeFromSuccessor 14 = .ok (.astore_n 3, 1) := by decide +kernel
theorem dX1_takeFromSuccessor_15 : decode cX1_takeFromSuccessor 15 = .ok (.aload_n 2, 1) := by decide +kernel
theorem dX1_takeFromSuccessor_16 : decode cX1_takeFromSuccessor 16 = .ok (.ifnull 12, 3) := by decide +kernel
theorem dX1_takeFromSuccessor_19 : decode cX1_takeFromSuccessor 19 = .ok (.aload_n 3, 1) := by decide +kernel
theorem dX1_takeFromSuccessor_20 : decode cX1_takeFromSuccessor 20 = .ok (.ifnull 8, 3) := by decide +kernel
theorem dX1_takeFromSuccessor_23 : decode cX1_takeFromSuccessor 23 = .ok (.aload_n 3, 1) := by decide +kernel
theorem dX1_takeFromSuccessor_24 : decode cX1_takeFromSuccessor 24 = .ok (.aload_n 1, 1) := by decide +kernel
theorem dX1_takeFromSuccessor_25 : decode cX1_takeFromSuccessor 25 = .ok (.if_acmp .ne 5, 3) := by decide +kernel
theorem dX1_takeFromSuccessor_28 : decode cX1_takeFromSuccessor 28 = .ok (.iconst 0, 1) := by decide +kernel
theorem dX1_takeFromSuccessor_29 : decode cX1_takeFromSuccessor 29 = .ok (.ireturn, 1) := by decide +kernel
theorem dX1_takeFromSuccessor_30 : decode cX1_takeFromSuccessor 30 = .ok (.iconst 0, 1) := by decide +kernel
theorem dX1_takeFromSuccessor_31 : decode cX1_takeFromSuccessor 31 = .ok (.istore 4, 2) := by decide +kernel
theorem dX1_takeFromSuccessor_33 : decode cX1_takeFromSuccessor 33 = .ok (.iconst 0, 1) := by decide +kernel
theorem dX1_takeFromSuccessor_34 : decode cX1_takeFromSuccessor 34 = .ok (.istore 5, 2) := by decide +kernel
theorem dX1_takeFromSuccessor_36 : decode cX1_takeFromSuccessor 36 = .ok (.iload 5, 2) := by decide +kernel
theorem dX1_takeFromSuccessor_38 : decode cX1_takeFromSuccessor 38 = .ok (.bipush 64, 2) := by decide +kernel
theorem dX1_takeFromSuccessor_40 : decode cX1_takeFromSuccessor 40 = .ok (.if_icmp .ge 32, 3) := by decide +kernel
theorem dX1_takeFromSuccessor_43 : decode cX1_takeFromSuccessor 43 = .ok (.aload_n 1, 1) := by decide +kernel
theorem dX1_takeFromSuccessor_44 : decode cX1_takeFromSuccessor 44 = .ok (.aload_n 2, 1) := by decide +kernel
theorem dX1_takeFromSuccessor_45 : decode cX1_takeFromSuccessor 45 = .ok (.iload 5, 2) := by decide +kernel
theorem dX1_takeFromSuccessor_47 : decode cX1_takeFromSuccessor 47 = .ok (.invokestatic 251, 3) := by decide +kernel
theorem dX1_takeFromSuccessor_50 : decode cX1_takeFromSuccessor 50 = .ok (.ifCond .eq 16, 3) := by decide +kernel
theorem dX1_takeFromSuccessor_53 : decode cX1_takeFromSuccessor 53 = .ok (.aload_n 3, 1) := by decide +kernel
theorem dX1_takeFromSuccessor_54 : decode cX1_takeFromSuccessor 54 = .ok (.aload_n 1, 1) := by decide +kernel
theorem dX1_takeFromSuccessor_55 : decode cX1_takeFromSuccessor 55 = .ok (.iload 5, 2) := by decide +kernel
theorem dX1_takeFromSuccessor_57 : decode cX1_takeFromSuccessor 57 = .ok (.invokestatic 255, 3) := by decide +kernel
theorem dX1_takeFromSuccessor_60 : decode cX1_takeFromSuccessor 60 = .ok (.ifCond .eq 6, 3) := by decide +kernel
theorem dX1_takeFromSuccessor_63 : decode cX1_takeFromSuccessor 63 = .ok (.iinc 4 1, 3) := by decide +kernel
theorem dX1_takeFromSuccessor_66 : decode cX1_takeFromSuccessor 66 = .ok (.iinc 5 1, 3) := by decide +kernel
theorem dX1_takeFromSuccessor_69 : decode cX1_takeFromSuccessor 69 = .ok (.goto (-33), 3) := by decide +kernel
theorem dX1_takeFromSuccessor_72 : decode cX1_takeFromSuccessor 72 = .ok (.iload 4, 2) := by decide +kernel
theorem dX1_takeFromSuccessor_74 : decode cX1_takeFromSuccessor 74 = .ok (.ireturn, 1) := by decide +kernel
theorem dX1_spreadFrom_0 : decode cX1_spreadFrom 0 = .ok (.aload_n 0, 1) := by decide +kernel
theorem dX1_spreadFrom_1 : decode cX1_spreadFrom 1 = .ok (.aload_n 1, 1) := by decide +kernel
theorem dX1_spreadFrom_2 : decode cX1_spreadFrom 2 = .ok (.getfield 75, 3) := by decide +kernel
theorem dX1_spreadFrom_5 : decode cX1_spreadFrom 5 = .ok (.invokevirtual 204, 3) := by decide +kernel
theorem dX1_spreadFrom_8 : decode cX1_spreadFrom 8 = .ok (.astore_n 2, 1) := by decide +kernel
theorem dX1_spreadFrom_9 : decode cX1_spreadFrom 9 = .ok (.aload_n 2, 1) := by decide +kernel
theorem dX1_spreadFrom_10 : decode cX1_spreadFrom 10 = .ok (.ifnonnull 5, 3) := by decide +kernel
theorem dX1_spreadFrom_13 : decode cX1_spreadFrom 13 = .ok (.iconst 0, 1) := by decide +kernel
theorem dX1_spreadFrom_14 : decode cX1_spreadFrom 14 = .ok (.ireturn, 1) := by decide +kernel
theorem dX1_spreadFrom_15 : decode cX1_spreadFrom 15 = .ok (.iconst 0, 1) := by decide +kernel
theorem dX1_spreadFrom_16 : decode cX1_spreadFrom 16 = .ok (.istore_n 3, 1) := by decide +kernel
theorem dX1_spreadFrom_17 : decode cX1_spreadFrom 17 = .ok (.iconst 0, 1) := by decide +kernel
theorem dX1_spreadFrom_18 : decode cX1_spreadFrom 18 = .ok (.istore 4, 2) := by decide +kernel
theorem dX1_spreadFrom_20 : decode cX1_spreadFrom 20 = .ok (.iload 4, 2) := by decide +kernel
theorem dX1_spreadFrom_22 : decode cX1_spreadFrom 22 = .ok (.bipush 64, 2) := by decide +kernel
theorem dX1_spreadFrom_24 : decode cX1_spreadFrom 24 = .ok (.if_icmp .ge 29, 3) := by decide +kernel
theorem dX1_spreadFrom_27 : decode cX1_spreadFrom 27 = .ok (.aload_n 1, 1) := by decide +kernel
theorem dX1_spreadFrom_28 : decode cX1_spreadFrom 28 = .ok (.aload_n 2, 1) := by decide +kernel
theorem dX1_spreadFrom_29 : decode cX1_spreadFrom 29 = .ok (.iload 4, 2) := by decide +kernel
theorem dX1_spreadFrom_31 : decode cX1_spreadFrom 31 = .ok (.invokestatic 251, 3) := by decide +kernel
theorem dX1_spreadFrom_34 : decode cX1_spreadFrom 34 = .ok (.ifCond .eq 13, 3) := by decide +kernel
theorem dX1_spreadFrom_37 : decode cX1_spreadFrom 37 = .ok (.iload_n 3, 1) := by decide +kernel
theorem dX1_spreadFrom_38 : decode cX1_spreadFrom 38 = .ok (.aload_n 0, 1) := by decide +kernel
theorem dX1_spreadFrom_39 : decode cX1_spreadFrom 39 = .ok (.aload_n 1, 1) := by decide +kernel
theorem dX1_spreadFrom_40 : decode cX1_spreadFrom 40 = .ok (.iload 4, 2) := by decide +kernel
theorem dX1_spreadFrom_42 : decode cX1_spreadFrom 42 = .ok (.invokevirtual 168, 3) := by decide +kernel
theorem dX1_spreadFrom_45 : decode cX1_spreadFrom 45 = .ok (.iadd, 1) := by decide +kernel
theorem dX1_spreadFrom_46 : decode cX1_spreadFrom 46 = .ok (.istore_n 3, 1) := by decide +kernel
theorem dX1_spreadFrom_47 : decode cX1_spreadFrom 47 = .ok (.iinc 4 1, 3) := by decide +kernel
theorem dX1_spreadFrom_50 : decode cX1_spreadFrom 50 = .ok (.goto (-30), 3) := by decide +kernel
theorem dX1_spreadFrom_53 : decode cX1_spreadFrom 53 = .ok (.iload_n 3, 1) := by decide +kernel
theorem dX1_spreadFrom_54 : decode cX1_spreadFrom 54 = .ok (.ireturn, 1) := by decide +kernel
theorem dX1_isInCare_0 : decode cX1_isInCare 0 = .ok (.iload_n 2, 1) := by decide +kernel
theorem dX1_isInCare_1 : decode cX1_isInCare 1 = .ok (.invokestatic 156, 3) := by decide +kernel
theorem dX1_isInCare_4 : decode cX1_isInCare 4 = .ok (.istore_n 3, 1) := by decide +kernel
theorem dX1_isInCare_5 : decode cX1_isInCare 5 = .ok (.iload_n 3, 1) := by decide +kernel
theorem dX1_isInCare_6 : decode cX1_isInCare 6 = .ok (.aload_n 0, 1) := by decide +kernel
theorem dX1_isInCare_7 : decode cX1_isInCare 7 = .ok (.getfield 89, 3) := by decide +kernel
theorem dX1_isInCare_10 : decode cX1_isInCare 10 = .ok (.if_icmp .eq 18, 3) := by decide +kernel
theorem dX1_isInCare_13 : decode cX1_isInCare 13 = .ok (.aload_n 1, 1) := by decide +kernel
theorem dX1_isInCare_14 : decode cX1_isInCare 14 = .ok (.getfield 89, 3) := by decide +kernel
theorem dX1_isInCare_17 : decode cX1_isInCare 17 = .ok (.iload_n 3, 1) := by decide +kernel
theorem dX1_isInCare_18 : decode cX1_isInCare 18 = .ok (.aload_n 0, 1) := by decide +kernel
theorem dX1_isInCare_19 : decode cX1_isInCare 19 = .ok (.getfield 89, 3) := by decide +kernel
theorem dX1_isInCare_22 : decode cX1_isInCare 22 = .ok (.invokestatic 241, 3) := by decide +kernel
theorem dX1_isInCare_25 : decode cX1_isInCare 25 = .ok (.ifCond .eq 7, 3) := by decide +kernel
theorem dX1_isInCare_28 : decode cX1_isInCare 28 = .ok (.iconst 1, 1) := by decide +kernel
theorem dX1_isInCare_29 : decode cX1_isInCare 29 = .ok (.goto 4, 3) := by decide +kernel
theorem dX1_isInCare_32 : decode cX1_isInCare 32 = .ok (.iconst 0, 1) := by decide +kernel
theorem dX1_isInCare_33 : decode cX1_isInCare 33 = .ok (.ireturn, 1) := by decide +kernel
theorem dX1_copyToList_0 : decode cX1_copyToList 0 = .ok (.iconst 0, 1) := by decide +kernel
theorem dX1_copyToList_1 : decode cX1_copyToList 1 = .ok (.istore_n 3, 1) := by decide +kernel
theorem dX1_copyToList_2 : decode cX1_copyToList 2 = .ok (.iconst 0, 1) := by decide +kernel
theorem dX1_copyToList_3 : decode cX1_copyToList 3 = .ok (.istore 4, 2) := by decide +kernel
theorem dX1_copyToList_5 : decode cX1_copyToList 5 = .ok (.iload 4, 2) := by decide +kernel
theorem dX1_copyToList_7 : decode cX1_copyToList 7 = .ok (.aload_n 0, 1) := by decide +kernel
theorem dX1_copyToList_8 : decode cX1_copyToList 8 = .ok (.getfield 30, 3) := by decide +kernel
theorem dX1_copyToList_11 : decode cX1_copyToList 11 = .ok (.if_icmp .ge 40, 3) := by decide +kernel
theorem dX1_copyToList_14 : decode cX1_copyToList 14 = .ok (.aload_n 0, 1) := by decide +kernel
theorem dX1_copyToList_15 : decode cX1_copyToList 15 = .ok (.aload_n 1, 1) := by decide +kernel
theorem dX1_copyToList_16 : decode cX1_copyToList 16 = .ok (.getfield 68, 3) := by decide +kernel
theorem dX1_copyToList_19 : decode cX1_copyToList 19 = .ok (.iload 4, 2) := by decide +kernel
theorem dX1_copyToList_21 : decode cX1_copyToList 21 = .ok (.iaload, 1) := by decide +kernel
theorem dX1_copyToList_22 : decode cX1_copyToList 22 = .ok (.invokevirtual 204, 3) := by decide +kernel
theorem dX1_copyToList_25 : decode cX1_copyToList 25 = .ok (.astore 5, 2) := by decide +kernel
theorem dX1_copyToList_27 : decode cX1_copyToList 27 = .ok (.aload 5, 2) := by decide +kernel
theorem dX1_copyToList_29 : decode cX1_copyToList 29 = .ok (.ifnull 16, 3) := by decide +kernel
theorem dX1_copyToList_32 : decode cX1_copyToList 32 = .ok (.aload_n 1, 1) := by decide +kernel
theorem dX1_copyToList_33 : decode cX1_copyToList 33 = .ok (.aload 5, 2) := by decide +kernel
theorem dX1_copyToList_35 : decode cX1_copyToList 35 = .ok (.iload_n 2, 1) := by decide +kernel
theorem dX1_copyToList_36 : decode cX1_copyToList 36 = .ok (.invokestatic 255, 3) := by decide +kernel
theorem dX1_copyToList_39 : decode cX1_copyToList 39 = .ok (.ifCond .eq 6, 3) := by decide +kernel
theorem dX1_copyToList_42 : decode cX1_copyToList 42 = .ok (.iinc 3 1, 3) := by decide +kernel
theorem dX1_copyToList_45 : decode cX1_copyToList 45 = .ok (.iinc 4 1, 3) := by decide +kernel
theorem dX1_copyToList_48 : decode cX1_copyToList 48 = .ok (.goto (-43), 3) := by decide +kernel
theorem dX1_copyToList_51 : decode cX1_copyToList 51 = .ok (.iload_n 3, 1) := by decide +kernel
theorem dX1_copyToList_52 : decode cX1_copyToList 52 = .ok (.ireturn, 1) := by decide +kernel
theorem dX1_copyIfHigher_0 : decode cX1_copyIfHigher 0 = .ok (.aload_n 0, 1) := by decide +kernel
theorem dX1_copyIfHigher_1 : decode cX1_copyIfHigher 1 = .ok (.aload_n 1, 1) := by decide +kernel
theorem dX1_copyIfHigher_2 : decode cX1_copyIfHigher 2 = .ok (.iload_n 2, 1) := by decide +kernel
theorem dX1_copyIfHigher_3 : decode cX1_copyIfHigher 3 = .ok (.invokestatic 258, 3) := by decide +kernel
theorem dX1_copyIfHigher_6 : decode cX1_copyIfHigher 6 = .ok (.ifCond .ne 5, 3) := by decide +kernel
theorem dX1_copyIfHigher_9 : decode cX1_copyIfHigher 9 = .ok (.iconst 0, 1) := by decide +kernel
theorem dX1_copyIfHigher_10 : decode cX1_copyIfHigher 10 = .ok (.ireturn, 1) := by decide +kernel
theorem dX1_copyIfHigher_11 : decode cX1_copyIfHigher 11 = .ok (.aload_n 1, 1) := by decide +kernel
theorem dX1_copyIfHigher_12 : decode cX1_copyIfHigher 12 = .ok (.getfield 159, 3) := by decide +kernel
theorem dX1_copyIfHigher_15 : decode cX1_copyIfHigher 15 = .ok (.iload_n 2, 1) := by decide +kernel
theorem dX1_copyIfHigher_16 : decode cX1_copyIfHigher 16 = .ok (.aload_n 0, 1) := by decide +kernel
theorem dX1_copyIfHigher_17 : decode cX1_copyIfHigher 17 = .ok (.getfield 159, 3) := by decide +kernel
theorem dX1_copyIfHigher_20 : decode cX1_copyIfHigher 20 = .ok (.iload_n 2, 1) := by decide +kernel
theorem dX1_copyIfHigher_21 : decode cX1_copyIfHigher 21 = .ok (.iaload, 1) := by decide +kernel
theorem dX1_copyIfHigher_22 : decode cX1_copyIfHigher 22 = .ok (.iastore, 1) := by decide +kernel
theorem dX1_copyIfHigher_23 : decode cX1_copyIfHigher 23 = .ok (.aload_n 1, 1) := by decide +kernel
theorem dX1_copyIfHigher_24 : decode cX1_copyIfHigher 24 = .ok (.getfield 162, 3) := by decide +kernel
theorem dX1_copyIfHigher_27 : decode cX1_copyIfHigher 27 = .ok (.iload_n 2, 1) := by decide +kernel
theorem dX1_copyIfHigher_28 : decode cX1_copyIfHigher 28 = .ok (.aload_n 0, 1) := by decide +kernel
theorem dX1_copyIfHigher_29 : decode cX1_copyIfHigher 29 = .ok (.getfield 162, 3) := by decide +kernel
theorem dX1_copyIfHigher_32 : decode cX1_copyIfHigher 32 = .ok (.iload_n 2, 1) := by decide +kernel
theorem dX1_copyIfHigher_33 : decode cX1_copyIfHigher 33 = .ok (.iaload, 1) := by decide +kernel
theorem dX1_copyIfHigher_34 : decode cX1_copyIfHigher 34 = .ok (.iastore, 1) := by decide +kernel
theorem dX1_copyIfHigher_35 : decode cX1_copyIfHigher 35 = .ok (.aload_n 1, 1) := by decide +kernel
theorem dX1_copyIfHigher_36 : decode cX1_copyIfHigher 36 = .ok (.getfield 165, 3) := by decide +kernel
theorem dX1_copyIfHigher_39 : decode cX1_copyIfHigher 39 = .ok (.iload_n 2, 1) := by decide +kernel
theorem dX1_copyIfHigher_40 : decode cX1_copyIfHigher 40 = .ok (.aload_n 0, 1) := by decide +kernel
theorem dX1_copyIfHigher_41 : decode cX1_copyIfHigher 41 = .ok (.getfield 165, 3) := by decide +kernel
theorem dX1_copyIfHigher_44 : decode cX1_copyIfHigher 44 = .ok (.iload_n 2, 1) := by decide +kernel
theorem dX1_copyIfHigher_45 : decode cX1_copyIfHigher 45 = .ok (.iaload, 1) := by decide +kernel
theorem dX1_copyIfHigher_46 : decode cX1_copyIfHigher 46 = .ok (.iastore, 1) := by decide +kernel
theorem dX1_copyIfHigher_47 : decode cX1_copyIfHigher 47 = .ok (.iconst 1, 1) := by decide +kernel
theorem dX1_copyIfHigher_48 : decode cX1_copyIfHigher 48 = .ok (.ireturn, 1) := by decide +kernel
theorem dX1_isHigher_0 : decode cX1_isHigher 0 = .ok (.aload_n 0, 1) := by decide +kernel
theorem dX1_isHigher_1 : decode cX1_isHigher 1 = .ok (.getfield 159, 3) := by decide +kernel
theorem dX1_isHigher_4 : decode cX1_isHigher 4 = .ok (.iload_n 2, 1) := by decide +kernel
theorem dX1_isHigher_5 : decode cX1_isHigher 5 = .ok (.iaload, 1) := by decide +kernel
theorem dX1_isHigher_6 : decode cX1_isHigher 6 = .ok (.aload_n 1, 1) := by decide +kernel
theorem dX1_isHigher_7 : decode cX1_isHigher 7 = .ok (.getfield 159, 3) := by decide +kernel
theorem dX1_isHigher_10 : decode cX1_isHigher 10 = .ok (.iload_n 2, 1) := by decide +kernel
theorem dX1_isHigher_11 : decode cX1_isHigher 11 = .ok (.iaload, 1) := by decide +kernel
theorem dX1_isHigher_12 : decode cX1_isHigher 12 = .ok (.if_icmp .eq 24, 3) := by decide +kernel
theorem dX1_isHigher_15 : decode cX1_isHigher 15 = .ok (.aload_n 0, 1) := by decide +kernel
theorem dX1_isHigher_16 : decode cX1_isHigher 16 = .ok (.getfield 159, 3) := by decide +kernel
theorem dX1_isHigher_19 : decode cX1_isHigher 19 = .ok (.iload_n 2, 1) := by decide +kernel
theorem dX1_isHigher_20 : decode cX1_isHigher 20 = .ok (.iaload, 1) := by decide +kernel
theorem dX1_isHigher_21 : decode cX1_isHigher 21 = .ok (.aload_n 1, 1) := by decide +kernel
theorem dX1_isHigher_22 : decode cX1_isHigher 22 = .ok (.getfield 159, 3) := by decide +kernel
theorem dX1_isHigher_25 : decode cX1_isHigher 25 = .ok (.iload_n 2, 1) := by decide +kernel
theorem dX1_isHigher_26 : decode cX1_isHigher 26 = .ok (.iaload, 1) := by decide +kernel
theorem dX1_isHigher_27 : decode cX1_isHigher 27 = .ok (.if_icmp .le 7, 3) := by decide +kernel
theorem dX1_isHigher_30 : decode cX1_isHigher 30 = .ok (.iconst 1, 1) := by decide +kernel
theorem dX1_isHigher_31 : decode cX1_isHigher 31 = .ok (.goto 4, 3) := by decide +kernel
theorem dX1_isHigher_34 : decode cX1_isHigher 34 = .ok (.iconst 0, 1) := by decide +kernel
theorem dX1_isHigher_35 : decode cX1_isHigher 35 = .ok (.ireturn, 1) := by decide +kernel
theorem dX1_isHigher_36 : decode cX1_isHigher 36 = .ok (.aload_n 0, 1) := by decide +kernel
theorem dX1_isHigher_37 : decode cX1_isHigher 37 = .ok (.getfield 162, 3) := by decide +kernel
theorem dX1_isHigher_40 : decode cX1_isHigher 40 = .ok (.iload_n 2, 1) := by decide +kernel
theorem dX1_isHigher_41 : decode cX1_isHigher 41 = .ok (.iaload, 1) := by decide +kernel
theorem dX1_isHigher_42 : decode cX1_isHigher 42 = .ok (.aload_n 1, 1) := by decide +kernel
theorem dX1_isHigher_43 : decode cX1_isHigher 43 = .ok (.getfield 162, 3) := by decide +kernel
theorem dX1_isHigher_46 : decode cX1_isHigher 46 = .ok (.iload_n 2, 1) := by decide +kernel
theorem dX1_isHigher_47 : decode cX1_isHigher 47 = .ok (.iaload, 1) := by decide +kernel
theorem dX1_isHigher_48 : decode cX1_isHigher 48 = .ok (.if_icmp .le 7, 3) := by decide +kernel
theorem dX1_isHigher_51 : decode cX1_isHigher 51 = .ok (.iconst 1, 1) := by decide +kernel
theorem dX1_isHigher_52 : decode cX1_isHigher 52 = .ok (.goto 4, 3) := by decide +kernel
theorem dX1_isHigher_55 : decode cX1_isHigher 55 = .ok (.iconst 0, 1) := by decide +kernel
theorem dX1_isHigher_56 : decode cX1_isHigher 56 = .ok (.ireturn, 1) := by decide +kernel
theorem dX1_highestInList_0 : decode cX1_highestInList 0 = .ok (.aload_n 1, 1) := by decide +kernel
theorem dX1_highestInList_1 : decode cX1_highestInList 1 = .ok (.astore_n 3, 1) := by decide +kernel
theorem dX1_highestInList_2 : decode cX1_highestInList 2 = .ok (.iconst 0, 1) := by decide +kernel
theorem dX1_highestInList_3 : decode cX1_highestInList 3 = .ok (.istore 4, 2) := by decide +kernel
theorem dX1_highestInList_5 : decode cX1_highestInList 5 = .ok (.iload 4, 2) := by decide +kernel
theorem dX1_highestInList_7 : decode cX1_highestInList 7 = .ok (.aload_n 0, 1) := by decide +kernel
theorem dX1_highestInList_8 : decode cX1_highestInList 8 = .ok (.getfield 30, 3) := by decide +kernel
theorem dX1_highestInList_11 : decode cX1_highestInList 11 = .ok (.if_icmp .ge 40, 3) := by decide +kernel
theorem dX1_highestInList_14 : decode cX1_highestInList 14 = .ok (.aload_n 0, 1) := by decide +kernel
theorem dX1_highestInList_15 : decode cX1_highestInList 15 = .ok (.aload_n 1, 1) := by decide +kernel
theorem dX1_highestInList_16 : decode cX1_highestInList 16 = .ok (.getfield 68, 3) := by decide +kernel
theorem dX1_highestInList_19 : decode cX1_highestInList 19 = .ok (.iload 4, 2) := by decide +kernel
theorem dX1_highestInList_21 : decode cX1_highestInList 21 = .ok (.iaload, 1) := by decide +kernel
theorem dX1_highestInList_22 : decode cX1_highestInList 22 = .ok (.invokevirtual 204, 3) := by decide +kernel
theorem dX1_highestInList_25 : decode cX1_highestInList 25 = .ok (.astore 5, 2) := by decide +kernel
theorem dX1_highestInList_27 : decode cX1_highestInList 27 = .ok (.aload 5, 2) := by decide +kernel
theorem dX1_highestInList_29 : decode cX1_highestInList 29 = .ok (.ifnull 16, 3) := by decide +kernel
theorem dX1_highestInList_32 : decode cX1_highestInList 32 = .ok (.aload 5, 2) := by decide +kernel
theorem dX1_highestInList_34 : decode cX1_highestInList 34 = .ok (.aload_n 3, 1) := by decide +kernel
theorem dX1_highestInList_35 : decode cX1_highestInList 35 = .ok (.iload_n 2, 1) := by decide +kernel
theorem dX1_highestInList_36 : decode cX1_highestInList 36 = .ok (.invokestatic 258, 3) := by decide +kernel
theorem dX1_highestInList_39 : decode cX1_highestInList 39 = .ok (.ifCond .eq 6, 3) := by decide +kernel
theorem dX1_highestInList_42 : decode cX1_highestInList 42 = .ok (.aload 5, 2) := by decide +kernel
theorem dX1_highestInList_44 : decode cX1_highestInList 44 = .ok (.astore_n 3, 1) := by decide +kernel
theorem dX1_highestInList_45 : decode cX1_highestInList 45 = .ok (.iinc 4 1, 3) := by decide +kernel
theorem dX1_highestInList_48 : decode cX1_highestInList 48 = .ok (.goto (-43), 3) := by decide +kernel
theorem dX1_highestInList_51 : decode cX1_highestInList 51 = .ok (.aload_n 3, 1) := by decide +kernel
theorem dX1_highestInList_52 : decode cX1_highestInList 52 = .ok (.areturn, 1) := by decide +kernel
theorem dX1_isIdealMember_0 : decode cX1_isIdealMember 0 = .ok (.aload_n 0, 1) := by decide +kernel
theorem dX1_isIdealMember_1 : decode cX1_isIdealMember 1 = .ok (.getfield 11, 3) := by decide +kernel
theorem dX1_isIdealMember_4 : decode cX1_isIdealMember 4 = .ok (.iload_n 1, 1) := by decide +kernel
theorem dX1_isIdealMember_5 : decode cX1_isIdealMember 5 = .ok (.aaload, 1) := by decide +kernel
theorem dX1_isIdealMember_6 : decode cX1_isIdealMember 6 = .ok (.astore_n 2, 1) := by decide +kernel
theorem dX1_isIdealMember_7 : decode cX1_isIdealMember 7 = .ok (.iconst 0, 1) := by decide +kernel
theorem dX1_isIdealMember_8 : decode cX1_isIdealMember 8 = .ok (.istore_n 3, 1) := by decide +kernel
theorem dX1_isIdealMember_9 : decode cX1_isIdealMember 9 = .ok (.iload_n 3, 1) := by decide +kernel
theorem dX1_isIdealMember_10 : decode cX1_isIdealMember 10 = .ok (.aload_n 0, 1) := by decide +kernel
theorem dX1_isIdealMember_11 : decode cX1_isIdealMember 11 = .ok (.getfield 30, 3) := by decide +kernel
theorem dX1_isIdealMember_14 : decode cX1_isIdealMember 14 = .ok (.if_icmp .ge 29, 3) := by decide +kernel
theorem dX1_isIdealMember_17 : decode cX1_isIdealMember 17 = .ok (.aload_n 2, 1) := by decide +kernel
theorem dX1_isIdealMember_18 : decode cX1_isIdealMember 18 = .ok (.getfield 68, 3) := by decide +kernel
theorem dX1_isIdealMember_21 : decode cX1_isIdealMember 21 = .ok (.iload_n 3, 1) := by decide +kernel
theorem dX1_isIdealMember_22 : decode cX1_isIdealMember 22 = .ok (.iaload, 1) := by decide +kernel
theorem dX1_isIdealMember_23 : decode cX1_isIdealMember 23 = .ok (.aload_n 0, 1) := by decide +kernel
theorem dX1_isIdealMember_24 : decode cX1_isIdealMember 24 = .ok (.iload_n 1, 1) := by decide +kernel
theorem dX1_isIdealMember_25 : decode cX1_isIdealMember 25 = .ok (.iconst 1, 1) := by decide +kernel
theorem dX1_isIdealMember_26 : decode cX1_isIdealMember 26 = .ok (.iadd, 1) := by decide +kernel
theorem dX1_isIdealMember_27 : decode cX1_isIdealMember 27 = .ok (.iload_n 3, 1) := by decide +kernel
theorem dX1_isIdealMember_28 : decode cX1_isIdealMember 28 = .ok (.iadd, 1) := by decide +kernel
theorem dX1_isIdealMember_29 : decode cX1_isIdealMember 29 = .ok (.invokevirtual 71, 3) := by decide +kernel
theorem dX1_isIdealMember_32 : decode cX1_isIdealMember 32 = .ok (.if_icmp .eq 5, 3) := by decide +kernel
theorem dX1_isIdealMember_35 : decode cX1_isIdealMember 35 = .ok (.iconst 0, 1) := by decide +kernel
theorem dX1_isIdealMember_36 : decode cX1_isIdealMember 36 = .ok (.ireturn, 1) := by decide +kernel
theorem dX1_isIdealMember_37 : decode cX1_isIdealMember 37 = .ok (.iinc 3 1, 3) := by decide +kernel
theorem dX1_isIdealMember_40 : decode cX1_isIdealMember 40 = .ok (.goto (-31), 3) := by decide +kernel
theorem dX1_isIdealMember_43 : decode cX1_isIdealMember 43 = .ok (.aload_n 2, 1) := by decide +kernel
theorem dX1_isIdealMember_44 : decode cX1_isIdealMember 44 = .ok (.getfield 75, 3) := by decide +kernel
theorem dX1_isIdealMember_47 : decode cX1_isIdealMember 47 = .ok (.aload_n 0, 1) := by decide +kernel
theorem dX1_isIdealMember_48 : decode cX1_isIdealMember 48 = .ok (.iload_n 1, 1) := by decide +kernel
theorem dX1_isIdealMember_49 : decode cX1_isIdealMember 49 = .ok (.iconst 1, 1) := by decide +kernel
theorem dX1_isIdealMember_50 : decode cX1_isIdealMember 50 = .ok (.isub, 1) := by decide +kernel
theorem dX1_isIdealMember_51 : decode cX1_isIdealMember 51 = .ok (.invokevirtual 71, 3) := by decide +kernel
theorem dX1_isIdealMember_54 : decode cX1_isIdealMember 54 = .ok (.if_icmp .ne 7, 3) := by decide +kernel
theorem dX1_isIdealMember_57 : decode cX1_isIdealMember 57 = .ok (.iconst 1, 1) := by decide +kernel
theorem dX1_isIdealMember_58 : decode cX1_isIdealMember 58 = .ok (.goto 4, 3) := by decide +kernel
theorem dX1_isIdealMember_61 : decode cX1_isIdealMember 61 = .ok (.iconst 0, 1) := by decide +kernel
theorem dX1_isIdealMember_62 : decode cX1_isIdealMember 62 = .ok (.ireturn, 1) := by decide +kernel
theorem dX1_countPairs_0 : decode cX1_countPairs 0 = .ok (.iconst 0, 1) := by decide +kernel
theorem dX1_countPairs_1 : decode cX1_countPairs 1 = .ok (.istore_n 1, 1) := by decide +kernel
theorem dX1_countPairs_2 : decode cX1_countPairs 2 = .ok (.iconst 0, 1) := by decide +kernel
theorem dX1_countPairs_3 : decode cX1_countPairs 3 = .ok (.istore_n 2, 1) := by decide +kernel
theorem dX1_countPairs_4 : decode cX1_countPairs 4 = .ok (.iload_n 2, 1) := by decide +kernel
theorem dX1_countPairs_5 : decode cX1_countPairs 5 = .ok (.aload_n 0, 1) := by decide +kernel
theorem dX1_countPairs_6 : decode cX1_countPairs 6 = .ok (.getfield 41, 3) := by decide +kernel
theorem dX1_countPairs_9 : decode cX1_countPairs 9 = .ok (.if_icmp .ge 40, 3) := by decide +kernel
theorem dX1_countPairs_12 : decode cX1_countPairs 12 = .ok (.iconst 0, 1) := by decide +kernel
theorem dX1_countPairs_13 : decode cX1_countPairs 13 = .ok (.istore_n 3, 1) := by decide +kernel
theorem dX1_countPairs_14 : decode cX1_countPairs 14 = .ok (.iload_n 3, 1) := by decide +kernel
theorem dX1_countPairs_15 : decode cX1_countPairs 15 = .ok (.bipush 64, 2) := by decide +kernel
theorem dX1_countPairs_17 : decode cX1_countPairs 17 = .ok (.if_icmp .ge 26, 3) := by decide +kernel
theorem dX1_countPairs_20 : decode cX1_countPairs 20 = .ok (.aload_n 0, 1) := by decide +kernel
theorem dX1_countPairs_21 : decode cX1_countPairs 21 = .ok (.getfield 11, 3) := by decide +kernel
theorem dX1_countPairs_24 : decode cX1_countPairs 24 = .ok (.iload_n 2, 1) := by decide +kernel
theorem dX1_countPairs_25 : decode cX1_countPairs 25 = .ok (.aaload, 1) := by decide +kernel
theorem dX1_countPairs_26 : decode cX1_countPairs 26 = .ok (.getfield 159, 3) := by decide +kernel
theorem dX1_countPairs_29 : decode cX1_countPairs 29 = .ok (.iload_n 3, 1) := by decide +kernel
theorem dX1_countPairs_30 : decode cX1_countPairs 30 = .ok (.iaload, 1) := by decide +kernel
theorem dX1_countPairs_31 : decode cX1_countPairs 31 = .ok (.ifCond .le 6, 3) := by decide +kernel
theorem dX1_countPairs_34 : decode cX1_countPairs 34 = .ok (.iinc 1 1, 3) := by decide +kernel
theorem dX1_countPairs_37 : decode cX1_countPairs 37 = .ok (.iinc 3 1, 3) := by decide +kernel
theorem dX1_countPairs_40 : decode cX1_countPairs 40 = .ok (.goto (-26), 3) := by decide +kernel
theorem dX1_countPairs_43 : decode cX1_countPairs 43 = .ok (.iinc 2 1, 3) := by decide +kernel
theorem dX1_countPairs_46 : decode cX1_countPairs 46 = .ok (.goto (-42), 3) := by decide +kernel
theorem dX1_countPairs_49 : decode cX1_countPairs 49 = .ok (.iload_n 1, 1) := by decide +kernel
theorem dX1_countPairs_50 : decode cX1_countPairs 50 = .ok (.ireturn, 1) := by decide +kernel
theorem dX1_countTrueFingers_0 : decode cX1_countTrueFingers 0 = .ok (.iconst 0, 1) := by decide +kernel
theorem dX1_countTrueFingers_1 : decode cX1_countTrueFingers 1 = .ok (.istore_n 1, 1) := by decide +kernel
theorem dX1_countTrueFingers_2 : decode cX1_countTrueFingers 2 = .ok (.iconst 0, 1) := by decide +kernel
theorem dX1_countTrueFingers_3 : decode cX1_countTrueFingers 3 = .ok (.istore_n 2, 1) := by decide +kernel
theorem dX1_countTrueFingers_4 : decode cX1_countTrueFingers 4 = .ok (.iload_n 2, 1) := by decide +kernel
theorem dX1_countTrueFingers_5 : decode cX1_countTrueFingers 5 = .ok (.aload_n 0, 1) := by decide +kernel
theorem dX1_countTrueFingers_6 : decode cX1_countTrueFingers 6 = .ok (.getfield 41, 3) := by decide +kernel
theorem dX1_countTrueFingers_9 : decode cX1_countTrueFingers 9 = .ok (.if_icmp .ge 60, 3) := by decide +kernel
theorem dX1_countTrueFingers_12 : decode cX1_countTrueFingers 12 = .ok (.aload_n 0, 1) := by decide +kernel
theorem dX1_countTrueFingers_13 : decode cX1_countTrueFingers 13 = .ok (.getfield 11, 3) := by decide +kernel
theorem dX1_countTrueFingers_16 : decode cX1_countTrueFingers 16 = .ok (.iload_n 2, 1) := by decide +kernel
theorem dX1_countTrueFingers_17 : decode cX1_countTrueFingers 17 = .ok (.aaload, 1) := by decide +kernel
theorem dX1_countTrueFingers_18 : decode cX1_countTrueFingers 18 = .ok (.astore_n 3, 1) := by decide +kernel
theorem dX1_countTrueFingers_19 : decode cX1_countTrueFingers 19 = .ok (.iconst 0, 1) := by decide +kernel
theorem dX1_countTrueFingers_20 : decode cX1_countTrueFingers 20 = .ok (.istore 4, 2) := by decide +kernel
theorem dX1_countTrueFingers_22 : decode cX1_countTrueFingers 22 = .ok (.iload 4, 2) := by decide +kernel
theorem dX1_countTrueFingers_24 : decode cX1_countTrueFingers 24 = .ok (.bipush 8, 2) := by decide +kernel
theorem dX1_countTrueFingers_26 : decode cX1_countTrueFingers 26 = .ok (.if_icmp .ge 37, 3) := by decide +kernel
theorem dX1_countTrueFingers_29 : decode cX1_countTrueFingers 29 = .ok (.aload_n 3, 1) := by decide +kernel
theorem dX1_countTrueFingers_30 : decode cX1_countTrueFingers 30 = .ok (.getfield 120, 3) := by decide +kernel
theorem dX1_countTrueFingers_33 : decode cX1_countTrueFingers 33 = .ok (.iload 4, 2) := by decide +kernel
theorem dX1_countTrueFingers_35 : decode cX1_countTrueFingers 35 = .ok (.iaload, 1) := by decide +kernel
theorem dX1_countTrueFingers_36 : decode cX1_countTrueFingers 36 = .ok (.aload_n 0, 1) := by decide +kernel
theorem dX1_countTrueFingers_37 : decode cX1_countTrueFingers 37 = .ok (.aload_n 3, 1) := by decide +kernel
theorem dX1_countTrueFingers_38 : decode cX1_countTrueFingers 38 = .ok (.getfield 89, 3) := by decide +kernel
theorem dX1_countTrueFingers_41 : decode cX1_countTrueFingers 41 = .ok (.iconst 1, 1) := by decide +kernel
theorem dX1_countTrueFingers_42 : decode cX1_countTrueFingers 42 = .ok (.iload 4, 2) := by decide +kernel
theorem dX1_countTrueFingers_44 : decode cX1_countTrueFingers 44 = .ok (.ishl, 1) := by decide +kernel
theorem dX1_countTrueFingers_45 : decode cX1_countTrueFingers 45 = .ok (.invokestatic 224, 3) := by decide +kernel
theorem dX1_countTrueFingers_48 : decode cX1_countTrueFingers 48 = .ok (.invokevirtual 179, 3) := by decide +kernel
theorem dX1_countTrueFingers_51 : decode cX1_countTrueFingers 51 = .ok (.if_icmp .ne 6, 3) := by decide +kernel
theorem dX1_countTrueFingers_54 : decode cX1_countTrueFingers 54 = .ok (.iinc 1 1, 3) := by decide +kernel
theorem dX1_countTrueFingers_57 : decode cX1_countTrueFingers 57 = .ok (.iinc 4 1, 3) := by decide +kernel
theorem dX1_countTrueFingers_60 : decode cX1_countTrueFingers 60 = .ok (.goto (-38), 3) := by decide +kernel
theorem dX1_countTrueFingers_63 : decode cX1_countTrueFingers 63 = .ok (.iinc 2 1, 3) := by decide +kernel
theorem dX1_countTrueFingers_66 : decode cX1_countTrueFingers 66 = .ok (.goto (-62), 3) := by decide +kernel
theorem dX1_countTrueFingers_69 : decode cX1_countTrueFingers 69 = .ok (.iload_n 1, 1) := by decide +kernel
theorem dX1_countTrueFingers_70 : decode cX1_countTrueFingers 70 = .ok (.ireturn, 1) := by decide +kernel
theorem dX1_countTrueSuccessors_0 : decode cX1_countTrueSuccessors 0 = .ok (.iconst 0, 1) := by decide +kernel
theorem dX1_countTrueSuccessors_1 : decode cX1_countTrueSuccessors 1 = .ok (.istore_n 1, 1) := by decide +kernel
theorem dX1_countTrueSuccessors_2 : decode cX1_countTrueSuccessors 2 = .ok (.iconst 0, 1) := by decide +kernel
theorem dX1_countTrueSuccessors_3 : decode cX1_countTrueSuccessors 3 = .ok (.istore_n 2, 1) := by decide +kernel
theorem dX1_countTrueSuccessors_4 : decode cX1_countTrueSuccessors 4 = .ok (.iload_n 2, 1) := by decide +kernel
theorem dX1_countTrueSuccessors_5 : decode cX1_countTrueSuccessors 5 = .ok (.aload_n 0, 1) := by decide +kernel
theorem dX1_countTrueSuccessors_6 : decode cX1_countTrueSuccessors 6 = .ok (.getfield 41, 3) := by decide +kernel
theorem dX1_countTrueSuccessors_9 : decode cX1_countTrueSuccessors 9 = .ok (.if_icmp .ge 41, 3) := by decide +kernel
theorem dX1_countTrueSuccessors_12 : decode cX1_countTrueSuccessors 12 = .ok (.aload_n 0, 1) := by decide +kernel
theorem dX1_countTrueSuccessors_13 : decode cX1_countTrueSuccessors 13 = .ok (.aload_n 0, 1) := by decide +kernel
theorem dX1_countTrueSuccessors_14 : decode cX1_countTrueSuccessors 14 = .ok (.getfield 11, 3) := by decide +kernel
theorem dX1_countTrueSuccessors_17 : decode cX1_countTrueSuccessors 17 = .ok (.iload_n 2, 1) := by decide +kernel
theorem dX1_countTrueSuccessors_18 : decode cX1_countTrueSuccessors 18 = .ok (.aaload, 1) := by decide +kernel
theorem dX1_countTrueSuccessors_19 : decode cX1_countTrueSuccessors 19 = .ok (.invokevirtual 107, 3) := by decide +kernel
theorem dX1_countTrueSuccessors_22 : decode cX1_countTrueSuccessors 22 = .ok (.astore_n 3, 1) := by decide +kernel
theorem dX1_countTrueSuccessors_23 : decode cX1_countTrueSuccessors 23 = .ok (.aload_n 3, 1) := by decide +kernel
theorem dX1_countTrueSuccessors_24 : decode cX1_countTrueSuccessors 24 = .ok (.ifnull 20, 3) := by decide +kernel
theorem dX1_countTrueSuccessors_27 : decode cX1_countTrueSuccessors 27 = .ok (.aload_n 3, 1) := by decide +kernel
theorem dX1_countTrueSuccessors_28 : decode cX1_countTrueSuccessors 28 = .ok (.getfield 89, 3) := by decide +kernel
theorem dX1_countTrueSuccessors_31 : decode cX1_countTrueSuccessors 31 = .ok (.aload_n 0, 1) := by decide +kernel
theorem dX1_countTrueSuccessors_32 : decode cX1_countTrueSuccessors 32 = .ok (.iload_n 2, 1) := by decide +kernel
theorem dX1_countTrueSuccessors_33 : decode cX1_countTrueSuccessors 33 = .ok (.iconst 1, 1) := by decide +kernel
theorem dX1_countTrueSuccessors_34 : decode cX1_countTrueSuccessors 34 = .ok (.iadd, 1) := by decide +kernel
theorem dX1_countTrueSuccessors_35 : decode cX1_countTrueSuccessors 35 = .ok (.invokevirtual 71, 3) := by decide +kernel
theorem dX1_countTrueSuccessors_38 : decode cX1_countTrueSuccessors 38 = .ok (.if_icmp .ne 6, 3) := by decide +kernel
theorem dX1_countTrueSuccessors_41 : decode cX1_countTrueSuccessors 41 = .ok (.iinc 1 1, 3) := by decide +kernel
theorem dX1_countTrueSuccessors_44 : decode cX1_countTrueSuccessors 44 = .ok (.iinc 2 1, 3) := by decide +kernel
theorem dX1_countTrueSuccessors_47 : decode cX1_countTrueSuccessors 47 = .ok (.goto (-43), 3) := by decide +kernel
theorem dX1_countTrueSuccessors_50 : decode cX1_countTrueSuccessors 50 = .ok (.iload_n 1, 1) := by decide +kernel
theorem dX1_countTrueSuccessors_51 : decode cX1_countTrueSuccessors 51 = .ok (.ireturn, 1) := by decide +kernel
theorem dJ9_floorMod_7cf53_0 : decode cJ9_floorMod_7cf53 0 = .ok (.iload_n 0, 1) := by decide +kernel
theorem dJ9_floorMod_7cf53_1 : decode cJ9_floorMod_7cf53 1 = .ok (.iload_n 1, 1) := by decide +kernel
theorem dJ9_floorMod_7cf53_2 : decode cJ9_floorMod_7cf53 2 = .ok (.irem, 1) := by decide +kernel
theorem dJ9_floorMod_7cf53_3 : decode cJ9_floorMod_7cf53 3 = .ok (.istore_n 2, 1) := by decide +kernel
theorem dJ9_floorMod_7cf53_4 : decode cJ9_floorMod_7cf53 4 = .ok (.iload_n 0, 1) := by decide +kernel
theorem dJ9_floorMod_7cf53_5 : decode cJ9_floorMod_7cf53 5 = .ok (.iload_n 1, 1) := by decide +kernel
theorem dJ9_floorMod_7cf53_6 : decode cJ9_floorMod_7cf53 6 = .ok (.ixor, 1) := by decide +kernel
theorem dJ9_floorMod_7cf53_7 : decode cJ9_floorMod_7cf53 7 = .ok (.ifCond .ge 11, 3) := by decide +kernel
theorem dJ9_floorMod_7cf53_10 : decode cJ9_floorMod_7cf53 10 = .ok (.iload_n 2, 1) := by decide +kernel
theorem dJ9_floorMod_7cf53_11 : decode cJ9_floorMod_7cf53 11 = .ok (.ifCond .eq 7, 3) := by decide +kernel
theorem dJ9_floorMod_7cf53_14 : decode cJ9_floorMod_7cf53 14 = .ok (.iload_n 2, 1) := by decide +kernel
theorem dJ9_floorMod_7cf53_15 : decode cJ9_floorMod_7cf53 15 = .ok (.iload_n 1, 1) := by decide +kernel
theorem dJ9_floorMod_7cf53_16 : decode cJ9_floorMod_7cf53 16 = .ok (.iadd, 1) := by decide +kernel
theorem dJ9_floorMod_7cf53_17 : decode cJ9_floorMod_7cf53 17 = .ok (.ireturn, 1) := by decide +kernel
theorem dJ9_floorMod_7cf53_18 : decode cJ9_floorMod_7cf53 18 = .ok (.iload_n 2, 1) := by decide +kernel
theorem dJ9_floorMod_7cf53_19 : decode cJ9_floorMod_7cf53 19 = .ok (.ireturn, 1) := by decide +kernel
theorem dJ7_fill_53178_0 : decode cJ7_fill_53178 0 = .ok (.iconst 0, 1) := by decide +kernel
theorem dJ7_fill_53178_1 : decode cJ7_fill_53178 1 = .ok (.istore_n 2, 1) := by decide +kernel
theorem dJ7_fill_53178_2 : decode cJ7_fill_53178 2 = .ok (.aload_n 0, 1) := by decide +kernel
theorem dJ7_fill_53178_3 : decode cJ7_fill_53178 3 = .ok (.arraylength, 1) := by decide +kernel
theorem dJ7_fill_53178_4 : decode cJ7_fill_53178 4 = .ok (.istore_n 3, 1) := by decide +kernel
theorem dJ7_fill_53178_5 : decode cJ7_fill_53178 5 = .ok (.iload_n 2, 1) := by decide +kernel
theorem dJ7_fill_53178_6 : decode cJ7_fill_53178 6 = .ok (.iload_n 3, 1) := by decide +kernel
theorem dJ7_fill_53178_7 : decode cJ7_fill_53178 7 = .ok (.if_icmp .ge 13, 3) := by decide +kernel
theorem dJ7_fill_53178_10 : decode cJ7_fill_53178 10 = .ok (.aload_n 0, 1) := by decide +kernel
theorem dJ7_fill_53178_11 : decode cJ7_fill_53178 11 = .ok (.iload_n 2, 1) := by decide +kernel
theorem dJ7_fill_53178_12 : decode cJ7_fill_53178 12 = .ok (.iload_n 1, 1) := by decide +kernel
theorem dJ7_fill_53178_13 : decode cJ7_fill_53178 13 = .ok (.iastore, 1) := by decide +kernel
theorem dJ7_fill_53178_14 : decode cJ7_fill_53178 14 = .ok (.iinc 2 1, 3) := by decide +kernel
theorem dJ7_fill_53178_17 : decode cJ7_fill_53178 17 = .ok (.goto (-12), 3) := by decide +kernel
theorem dJ7_fill_53178_20 : decode cJ7_fill_53178 20 = .ok (.return_, 1) := by decide +kernel
end
section
theorem dX2_init_0 : decode cX2_init 0 = .ok (.aload_n 0, 1) := by decide +kernel
theorem dX2_init_1 : decode cX2_init 1 = .ok (.invokespecial 1, 3) := by decide +kernel
theorem dX2_init_4 : decode cX2_init 4 = .ok (.aload_n 0, 1) := by decide +kernel
theorem dX2_init_5 : decode cX2_init 5 = .ok (.iconst 2, 1) := by decide +kernel
theorem dX2_init_6 : decode cX2_init 6 = .ok (.putfield 7, 3) := by decide +kernel
theorem dX2_init_9 : decode cX2_init 9 = .ok (.aload_n 0, 1) := by decide +kernel
theorem dX2_init_10 : decode cX2_init 10 = .ok (.sipush 256, 3) := by decide +kernel
theorem dX2_init_13 : decode cX2_init 13 = .ok (.newarray .int, 2) := by decide +kernel
theorem dX2_init_15 : decode cX2_init 15 = .ok (.putfield 13, 3) := by decide +kernel
theorem dX2_init_18 : decode cX2_init 18 = .ok (.aload_n 0, 1) := by decide +kernel
theorem dX2_init_19 : decode cX2_init 19 = .ok (.sipush 1024, 3) := by decide +kernel
theorem dX2_init_22 : decode cX2_init 22 = .ok (.newarray .int, 2) := by decide +kernel
theorem dX2_init_24 : decode cX2_init 24 = .ok (.putfield 17, 3) := by decide +kernel
theorem dX2_init_27 : decode cX2_init 27 = .ok (.aload_n 0, 1) := by decide +kernel
theorem dX2_init_28 : decode cX2_init 28 = .ok (.sipush 256, 3) := by decide +kernel
theorem dX2_init_31 : decode cX2_init 31 = .ok (.newarray .int, 2) := by decide +kernel
theorem dX2_init_33 : decode cX2_init 33 = .ok (.putfield 20, 3) := by decide +kernel
theorem dX2_init_36 : decode cX2_init 36 = .ok (.aload_n 0, 1) := by decide +kernel
theorem dX2_init_37 : decode cX2_init 37 = .ok (.sipush 2048, 3) := by decide +kernel
theorem dX2_init_40 : decode cX2_init 40 = .ok (.newarray .int, 2) := by decide +kernel
theorem dX2_init_42 : decode cX2_init 42 = .ok (.putfield 23, 3) := by decide +kernel
theorem dX2_init_45 : decode cX2_init 45 = .ok (.aload_n 0, 1) := by decide +kernel
theorem dX2_init_46 : decode cX2_init 46 = .ok (.sipush 256, 3) := by decide +kernel
theorem dX2_init_49 : decode cX2_init 49 = .ok (.newarray .int, 2) := by decide +kernel
theorem dX2_init_51 : decode cX2_init 51 = .ok (.putfield 26, 3) := by decide +kernel
theorem dX2_init_54 : decode cX2_init 54 = .ok (.aload_n 0, 1) := by decide +kernel
theorem dX2_init_55 : decode cX2_init 55 = .ok (.sipush 16384, 3) := by decide +kernel
theorem dX2_init_58 : decode cX2_init 58 = .ok (.newarray .int, 2) := by decide +kernel
theorem dX2_init_60 : decode cX2_init 60 = .ok (.putfield 29, 3) := by decide +kernel
theorem dX2_init_63 : decode cX2_init 63 = .ok (.aload_n 0, 1) := by decide +kernel
theorem dX2_init_64 : decode cX2_init 64 = .ok (.sipush 16384, 3) := by decide +kernel
theorem dX2_init_67 : decode cX2_init 67 = .ok (.newarray .int, 2) := by decide +kernel
theorem dX2_init_69 : decode cX2_init 69 = .ok (.putfield 32, 3) := by decide +kernel
theorem dX2_init_72 : decode cX2_init 72 = .ok (.aload_n 0, 1) := by decide +kernel
theorem dX2_init_73 : decode cX2_init 73 = .ok (.sipush 16384, 3) := by decide +kernel
theorem dX2_init_76 : decode cX2_init 76 = .ok (.newarray .int, 2) := by decide +kernel
theorem dX2_init_78 : decode cX2_init 78 = .ok (.putfield 35, 3) := by decide +kernel
theorem dX2_init_81 : decode cX2_init 81 = .ok (.aload_n 0, 1) := by decide +kernel
theorem dX2_init_82 : decode cX2_init 82 = .ok (.iconst 4, 1) := by decide +kernel
theorem dX2_init_83 : decode cX2_init 83 = .ok (.newarray .int, 2) := by decide +kernel
theorem dX2_init_85 : decode cX2_init 85 = .ok (.putfield 38, 3) := by decide +kernel
theorem dX2_init_88 : decode cX2_init 88 = .ok (.aload_n 0, 1) := by decide +kernel
theorem dX2_init_89 : decode cX2_init 89 = .ok (.bipush 64, 2) := by decide +kernel
theorem dX2_init_91 : decode cX2_init 91 = .ok (.newarray .int, 2) := by decide +kernel
theorem dX2_init_93 : decode cX2_init 93 = .ok (.putfield 41, 3) := by decide +kernel
theorem dX2_init_96 : decode cX2_init 96 = .ok (.aload_n 0, 1) := by decide +kernel
theorem dX2_init_97 : decode cX2_init 97 = .ok (.bipush 64, 2) := by decide +kernel
theorem dX2_init_99 : decode cX2_init 99 = .ok (.newarray .int, 2) := by decide +kernel
theorem dX2_init_101 : decode cX2_init 101 = .ok (.putfield 44, 3) := by decide +kernel
theorem dX2_init_104 : decode cX2_init 104 = .ok (.return_, 1) := by decide +kernel
theorem dX2_thrown_0 : decode cX2_thrown 0 = .ok (.aload_n 0, 1) := by decide +kernel
theorem dX2_thrown_1 : decode cX2_thrown 1 = .ok (.getfield 47, 3) := by decide +kernel
theorem dX2_thrown_4 : decode cX2_thrown 4 = .ok (.ireturn, 1) := by decide +kernel
theorem dX2_goes_0 : decode cX2_goes 0 = .ok (.aload_n 0, 1) := by decide +kernel
theorem dX2_goes_1 : decode cX2_goes 1 = .ok (.iload_n 1, 1) := by decide +kernel
theorem dX2_goes_2 : decode cX2_goes 2 = .ok (.ifCond .ne 7, 3) := by decide +kernel
theorem dX2_goes_5 : decode cX2_goes 5 = .ok (.iconst 1, 1) := by decide +kernel
theorem dX2_goes_6 : decode cX2_goes 6 = .ok (.goto 20, 3) := by decide +kernel
theorem dX2_goes_9 : decode cX2_goes 9 = .ok (.iload_n 2, 1) := by decide +kernel
theorem dX2_goes_10 : decode cX2_goes 10 = .ok (.ifCond .ne 7, 3) := by decide +kernel
theorem dX2_goes_13 : decode cX2_goes 13 = .ok (.iconst 2, 1) := by decide +kernel
theorem dX2_goes_14 : decode cX2_goes 14 = .ok (.goto 12, 3) := by decide +kernel
theorem dX2_goes_17 : decode cX2_goes 17 = .ok (.iload_n 3, 1) := by decide +kernel
theorem dX2_goes_18 : decode cX2_goes 18 = .ok (.ifCond .ne 7, 3) := by decide +kernel
theorem dX2_goes_21 : decode cX2_goes 21 = .ok (.iconst 3, 1) := by decide +kernel
theorem dX2_goes_22 : decode cX2_goes 22 = .ok (.goto 4, 3) := by decide +kernel
theorem dX2_goes_25 : decode cX2_goes 25 = .ok (.iconst 0, 1) := by decide +kernel
theorem dX2_goes_26 : decode cX2_goes 26 = .ok (.putfield 47, 3) := by decide +kernel
theorem dX2_goes_29 : decode cX2_goes 29 = .ok (.aload_n 0, 1) := by decide +kernel
theorem dX2_goes_30 : decode cX2_goes 30 = .ok (.getfield 47, 3) := by decide +kernel
theorem dX2_goes_33 : decode cX2_goes 33 = .ok (.ifCond .ne 7, 3) := by decide +kernel
theorem dX2_goes_36 : decode cX2_goes 36 = .ok (.iconst 1, 1) := by decide +kernel
theorem dX2_goes_37 : decode cX2_goes 37 = .ok (.goto 4, 3) := by decide +kernel
theorem dX2_goes_40 : decode cX2_goes 40 = .ok (.iconst 0, 1) := by decide +kernel
theorem dX2_goes_41 : decode cX2_goes 41 = .ok (.ireturn, 1) := by decide +kernel
theorem dX2_isPoint_0 : decode cX2_isPoint 0 = .ok (.iload_n 0, 1) := by decide +kernel
theorem dX2_isPoint_1 : decode cX2_isPoint 1 = .ok (.ifCond .lt 14, 3) := by decide +kernel
theorem dX2_isPoint_4 : decode cX2_isPoint 4 = .ok (.iload_n 0, 1) := by decide +kernel
theorem dX2_isPoint_5 : decode cX2_isPoint 5 = .ok (.sipush 256, 3) := by decide +kernel
theorem dX2_isPoint_8 : decode cX2_isPoint 8 = .ok (.if_icmp .ge 7, 3) := by decide +kernel
theorem dX2_isPoint_11 : decode cX2_isPoint 11 = .ok (.iconst 1, 1) := by decide +kernel
theorem dX2_isPoint_12 : decode cX2_isPoint 12 = .ok (.goto 4, 3) := by decide +kernel
theorem dX2_isPoint_15 : decode cX2_isPoint 15 = .ok (.iconst 0, 1) := by decide +kernel
theorem dX2_isPoint_16 : decode cX2_isPoint 16 = .ok (.ireturn, 1) := by decide +kernel
theorem dX2_isKey_0 : decode cX2_isKey 0 = .ok (.iload_n 0, 1) := by decide +kernel
theorem dX2_isKey_1 : decode cX2_isKey 1 = .ok (.ifCond .lt 13, 3) := by decide +kernel
theorem dX2_isKey_4 : decode cX2_isKey 4 = .ok (.iload_n 0, 1) := by decide +kernel
theorem dX2_isKey_5 : decode cX2_isKey 5 = .ok (.bipush 64, 2) := by decide +kernel
theorem dX2_isKey_7 : decode cX2_isKey 7 = .ok (.if_icmp .ge 7, 3) := by decide +kernel
theorem dX2_isKey_10 : decode cX2_isKey 10 = .ok (.iconst 1, 1) := by decide +kernel
theorem dX2_isKey_11 : decode cX2_isKey 11 = .ok (.goto 4, 3) := by decide +kernel
theorem dX2_isKey_14 : decode cX2_isKey 14 = .ok (.iconst 0, 1) := by decide +kernel
theorem dX2_isKey_15 : decode cX2_isKey 15 = .ok (.ireturn, 1) := by decide +kernel
theorem dX2_live_0 : decode cX2_live 0 = .ok (.iload_n 1, 1) := by decide +kernel
theorem dX2_live_1 : decode cX2_live 1 = .ok (.invokestatic 50, 3) := by decide +kernel
theorem dX2_live_4 : decode cX2_live 4 = .ok (.ifCond .eq 17, 3) := by decide +kernel
theorem dX2_live_7 : decode cX2_live 7 = .ok (.aload_n 0, 1) := by decide +kernel
theorem dX2_live_8 : decode cX2_live 8 = .ok (.getfield 13, 3) := by decide +kernel
theorem dX2_live_11 : decode cX2_live 11 = .ok (.iload_n 1, 1) := by decide +kernel
theorem dX2_live_12 : decode cX2_live 12 = .ok (.iaload, 1) := by decide +kernel
theorem dX2_live_13 : decode cX2_live 13 = .ok (.iconst 1, 1) := by decide +kernel
theorem dX2_live_14 : decode cX2_live 14 = .ok (.if_icmp .ne 7, 3) := by decide +kernel
theorem dX2_live_17 : decode cX2_live 17 = .ok (.iconst 1, 1) := by decide +kernel
theorem dX2_live_18 : decode cX2_live 18 = .ok (.goto 4, 3) := by decide +kernel
theorem dX2_live_21 : decode cX2_live 21 = .ok (.iconst 0, 1) := by decide +kernel
theorem dX2_live_22 : decode cX2_live 22 = .ok (.ireturn, 1) := by decide +kernel
theorem dX2_member_0 : decode cX2_member 0 = .ok (.aload_n 0, 1) := by decide +kernel
theorem dX2_member_1 : decode cX2_member 1 = .ok (.getfield 54, 3) := by decide +kernel
theorem dX2_member_4 : decode cX2_member 4 = .ok (.ifCond .eq 15, 3) := by decide +kernel
theorem dX2_member_7 : decode cX2_member 7 = .ok (.aload_n 0, 1) := by decide +kernel
theorem dX2_member_8 : decode cX2_member 8 = .ok (.iload_n 1, 1) := by decide +kernel
theorem dX2_member_9 : decode cX2_member 9 = .ok (.invokevirtual 58, 3) := by decide +kernel
theorem dX2_member_12 : decode cX2_member 12 = .ok (.ifCond .eq 7, 3) := by decide +kernel
theorem dX2_member_15 : decode cX2_member 15 = .ok (.iconst 1, 1) := by decide +kernel
theorem dX2_member_16 : decode cX2_member 16 = .ok (.goto 4, 3) := by decide +kernel
theorem dX2_member_19 : decode cX2_member 19 = .ok (.iconst 0, 1) := by decide +kernel
theorem dX2_member_20 : decode cX2_member 20 = .ok (.ireturn, 1) := by decide +kernel
theorem dX2_up_0 : decode cX2_up 0 = .ok (.iload_n 1, 1) := by decide +kernel
theorem dX2_up_1 : decode cX2_up 1 = .ok (.iload_n 0, 1) := by decide +kernel
theorem dX2_up_2 : decode cX2_up 2 = .ok (.isub, 1) := by decide +kernel
theorem dX2_up_3 : decode cX2_up 3 = .ok (.sipush 256, 3) := by decide +kernel
theorem dX2_up_6 : decode cX2_up 6 = .ok (.iadd, 1) := by decide +kernel
theorem dX2_up_7 : decode cX2_up 7 = .ok (.sipush 256, 3) := by decide +kernel
theorem dX2_up_10 : decode cX2_up 10 = .ok (.irem, 1) := by decide +kernel
theorem dX2_up_11 : decode cX2_up 11 = .ok (.ireturn, 1) := by decide +kernel
theorem dX2_between_0 : decode cX2_between 0 = .ok (.iload_n 1, 1) := by decide +kernel
theorem dX2_between_1 : decode cX2_between 1 = .ok (.iload_n 2, 1) := by decide +kernel
theorem dX2_between_2 : decode cX2_between 2 = .ok (.if_icmp .ne 16, 3) := by decide +kernel
theorem dX2_between_5 : decode cX2_between 5 = .ok (.iload_n 0, 1) := by decide +kernel
theorem dX2_between_6 : decode cX2_between 6 = .ok (.iload_n 1, 1) := by decide +kernel
theorem dX2_between_7 : decode cX2_between 7 = .ok (.if_icmp .eq 7, 3) := by decide +kernel
theorem dX2_between_10 : decode cX2_between 10 = .ok (.iconst 1, 1) := by decide +kernel
theorem dX2_between_11 : decode cX2_between 11 = .ok (.goto 33, 3) := by decide +kernel
theorem dX2_between_14 : decode cX2_between 14 = .ok (.iconst 0, 1) := by decide +kernel
theorem dX2_between_15 : decode cX2_between 15 = .ok (.goto 29, 3) := by decide +kernel
theorem dX2_between_18 : decode cX2_between 18 = .ok (.iload_n 1, 1) := by decide +kernel
theorem dX2_between_19 : decode cX2_between 19 = .ok (.iload_n 0, 1) := by decide +kernel
theorem dX2_between_20 : decode cX2_between 20 = .ok (.invokestatic 61, 3) := by decide +kernel
theorem dX2_between_23 : decode cX2_between 23 = .ok (.ifCond .le 20, 3) := by decide +kernel
theorem dX2_between_26 : decode cX2_between 26 = .ok (.iload_n 1, 1) := by decide +kernel
theorem dX2_between_27 : decode cX2_between 27 = .ok (.iload_n 0, 1) := by decide +kernel
theorem dX2_between_28 : decode cX2_between 28 = .ok (.invokestatic 61, 3) := by decide +kernel
theorem dX2_between_31 : decode cX2_between 31 = .ok (.iload_n 1, 1) := by decide +kernel
theorem dX2_between_32 : decode cX2_between 32 = .ok (.iload_n 2, 1) := by decide +kernel
theorem dX2_between_33 : decode cX2_between 33 = .ok (.invokestatic 61, 3) := by decide +kernel
theorem dX2_between_36 : decode cX2_between 36 = .ok (.if_icmp .ge 7, 3) := by decide +kernel
theorem dX2_between_39 : decode cX2_between 39 = .ok (.iconst 1, 1) := by decide +kernel
theorem dX2_between_40 : decode cX2_between 40 = .ok (.goto 4, 3) := by decide +kernel
theorem dX2_between_43 : decode cX2_between 43 = .ok (.iconst 0, 1) := by decide +kernel
theorem dX2_between_44 : decode cX2_between 44 = .ok (.ireturn, 1) := by decide +kernel
theorem dX2_pointOf_0 : decode cX2_pointOf 0 = .ok (.iload_n 0, 1) := by decide +kernel
theorem dX2_pointOf_1 : decode cX2_pointOf 1 = .ok (.bipush 61, 2) := by decide +kernel
theorem dX2_pointOf_3 : decode cX2_pointOf 3 = .ok (.imul, 1) := by decide +kernel
theorem dX2_pointOf_4 : decode cX2_pointOf 4 = .ok (.bipush 17, 2) := by decide +kernel
theorem dX2_pointOf_6 : decode cX2_pointOf 6 = .ok (.iadd, 1) := by decide +kernel
theorem dX2_pointOf_7 : decode cX2_pointOf 7 = .ok (.sipush 256, 3) := by decide +kernel
theorem dX2_pointOf_10 : decode cX2_pointOf 10 = .ok (.irem, 1) := by decide +kernel
theorem dX2_pointOf_11 : decode cX2_pointOf 11 = .ok (.ireturn, 1) := by decide +kernel
theorem dX2_many_0 : decode cX2_many 0 = .ok (.iconst 0, 1) := by decide +kernel
theorem dX2_many_1 : decode cX2_many 1 = .ok (.istore_n 1, 1) := by decide +kernel
theorem dX2_many_2 : decode cX2_many 2 = .ok (.iconst 0, 1) := by decide +kernel
theorem dX2_many_3 : decode cX2_many 3 = .ok (.istore_n 2, 1) := by decide +kernel
theorem dX2_many_4 : decode cX2_many 4 = .ok (.iload_n 2, 1) := by decide +kernel
theorem dX2_many_5 : decode cX2_many 5 = .ok (.sipush 256, 3) := by decide +kernel
theorem dX2_many_8 : decode cX2_many 8 = .ok (.if_icmp .ge 27, 3) := by decide +kernel
theorem dX2_many_11 : decode cX2_many 11 = .ok (.aload_n 0, 1) := by decide +kernel
theorem dX2_many_12 : decode cX2_many 12 = .ok (.getfield 13, 3) := by decide +kernel
theorem dX2_many_15 : decode cX2_many 15 = .ok (.iload_n 2, 1) := by decide +kernel
theorem dX2_many_16 : decode cX2_many 16 = .ok (.iaload, 1) := by decide +kernel
theorem dX2_many_17 : decode cX2_many 17 = .ok (.iconst 1, 1) := by decide +kernel
theorem dX2_many_18 : decode cX2_many 18 = .ok (.if_icmp .ne 9, 3) := by decide +kernel
theorem dX2_many_21 : decode cX2_many 21 = .ok (.iload_n 1, 1) := by decide +kernel
theorem dX2_many_22 : decode cX2_many 22 = .ok (.iconst 1, 1) := by decide +kernel
theorem dX2_many_23 : decode cX2_many 23 = .ok (.iadd, 1) := by decide +kernel
theorem dX2_many_24 : decode cX2_many 24 = .ok (.goto 4, 3) := by decide +kernel
theorem dX2_many_27 : decode cX2_many 27 = .ok (.iload_n 1, 1) := by decide +kernel
theorem dX2_many_28 : decode cX2_many 28 = .ok (.istore_n 1, 1) := by decide +kernel
theorem dX2_many_29 : decode cX2_many 29 = .ok (.iinc 2 1, 3) := by decide +kernel
theorem dX2_many_32 : decode cX2_many 32 = .ok (.goto (-28), 3) := by decide +kernel
theorem dX2_many_35 : decode cX2_many 35 = .ok (.iload_n 1, 1) := by decide +kernel
theorem dX2_many_36 : decode cX2_many 36 = .ok (.ireturn, 1) := by decide +kernel
theorem dX2_next_0 : decode cX2_next 0 = .ok (.iconst 0, 1) := by decide +kernel
theorem dX2_next_1 : decode cX2_next 1 = .ok (.istore_n 2, 1) := by decide +kernel
theorem dX2_next_2 : decode cX2_next 2 = .ok (.iload_n 2, 1) := by decide +kernel
theorem dX2_next_3 : decode cX2_next 3 = .ok (.sipush 256, 3) := by decide +kernel
theorem dX2_next_6 : decode cX2_next 6 = .ok (.if_icmp .ge 33, 3) := by decide +kernel
theorem dX2_next_9 : decode cX2_next 9 = .ok (.aload_n 0, 1) := by decide +kernel
theorem dX2_next_10 : decode cX2_next 10 = .ok (.getfield 13, 3) := by decide +kernel
theorem dX2_next_13 : decode cX2_next 13 = .ok (.iload_n 1, 1) := by decide +kernel
theorem dX2_next_14 : decode cX2_next 14 = .ok (.iload_n 2, 1) := by decide +kernel
theorem dX2_next_15 : decode cX2_next 15 = .ok (.iadd, 1) := by decide +kernel
theorem dX2_next_16 : decode cX2_next 16 = .ok (.sipush 256, 3) := by decide +kernel
theorem dX2_next_19 : decode cX2_next 19 = .ok (.irem, 1) := by decide +kernel
theorem dX2_next_20 : decode cX2_next 20 = .ok (.iaload, 1) := by decide +kernel
theorem dX2_next_21 : decode cX2_next 21 = .ok (.iconst 1, 1) := by decide +kernel
theorem dX2_next_22 : decode cX2_next 22 = .ok (.if_icmp .ne 11, 3) := by decide +kernel
theorem dX2_next_25 : decode cX2_next 25 = .ok (.iload_n 1, 1) := by decide +kernel
theorem dX2_next_26 : decode cX2_next 26 = .ok (.iload_n 2, 1) := by decide +kernel
theorem dX2_next_27 : decode cX2_next 27 = .ok (.iadd, 1) := by decide +kernel
theorem dX2_next_28 : decode cX2_next 28 = .ok (.sipush 256, 3) := by decide +kernel
theorem dX2_next_31 : decode cX2_next 31 = .ok (.irem, 1) := by decide +kernel
theorem dX2_next_32 : decode cX2_next 32 = .ok (.ireturn, 1) := by decide +kernel
theorem dX2_next_33 : decode cX2_next 33 = .ok (.iinc 2 1, 3) := by decide +kernel
theorem dX2_next_36 : decode cX2_next 36 = .ok (.goto (-34), 3) := by decide +kernel
theorem dX2_next_39 : decode cX2_next 39 = .ok (.iconst (-1), 1) := by decide +kernel
theorem dX2_next_40 : decode cX2_next 40 = .ok (.ireturn, 1) := by decide +kernel
theorem dX2_last_0 : decode cX2_last 0 = .ok (.iconst 0, 1) := by decide +kernel
theorem dX2_last_1 : decode cX2_last 1 = .ok (.istore_n 2, 1) := by decide +kernel
theorem dX2_last_2 : decode cX2_last 2 = .ok (.iload_n 2, 1) := by decide +kernel
theorem dX2_last_3 : decode cX2_last 3 = .ok (.sipush 256, 3) := by decide +kernel
theorem dX2_last_6 : decode cX2_last 6 = .ok (.if_icmp .ge 41, 3) := by decide +kernel
theorem dX2_last_9 : decode cX2_last 9 = .ok (.aload_n 0, 1) := by decide +kernel
theorem dX2_last_10 : decode cX2_last 10 = .ok (.getfield 13, 3) := by decide +kernel
theorem dX2_last_13 : decode cX2_last 13 = .ok (.iload_n 1, 1) := by decide +kernel
theorem dX2_last_14 : decode cX2_last 14 = .ok (.sipush 256, 3) := by decide +kernel
theorem dX2_last_17 : decode cX2_last 17 = .ok (.iadd, 1) := by decide +kernel
theorem dX2_last_18 : decode cX2_last 18 = .ok (.iload_n 2, 1) := by decide +kernel
theorem dX2_last_19 : decode cX2_last 19 = .ok (.isub, 1) := by decide +kernel
theorem dX2_last_20 : decode cX2_last 20 = .ok (.sipush 256, 3) := by decide +kernel
theorem dX2_last_23 : decode cX2_last 23 = .ok (.irem, 1) := by decide +kernel
theorem dX2_last_24 : decode cX2_last 24 = .ok (.iaload, 1) := by decide +kernel
theorem dX2_last_25 : decode cX2_last 25 = .ok (.iconst 1, 1) := by decide +kernel
theorem dX2_last_26 : decode cX2_last 26 = .ok (.if_icmp .ne 15, 3) := by decide +kernel
theorem dX2_last_29 : decode cX2_last 29 = .ok (.iload_n 1, 1) := by decide +kernel
theorem dX2_last_30 : decode cX2_last 30 = .ok (.sipush 256, 3) := by decide +kernel
theorem dX2_last_33 : decode cX2_last 33 = .ok (.iadd, 1) := by decide +kernel
theorem dX2_last_34 : decode cX2_last 34 = .ok (.iload_n 2, 1) := by decide +kernel
theorem dX2_last_35 : decode cX2_last 35 = .ok (.isub, 1) := by decide +kernel
theorem dX2_last_36 : decode cX2_last 36 = .ok (.sipush 256, 3) := by decide +kernel
theorem dX2_last_39 : decode cX2_last 39 = .ok (.irem, 1) := by decide +kernel
theorem dX2_last_40 : decode cX2_last 40 = .ok (.ireturn, 1) := by decide +kernel
theorem dX2_last_41 : decode cX2_last 41 = .ok (.iinc 2 1, 3) := by decide +kernel
theorem dX2_last_44 : decode cX2_last 44 = .ok (.goto (-42), 3) := by decide +kernel
theorem dX2_last_47 : decode cX2_last 47 = .ok (.iconst (-1), 1) := by decide +kernel
theorem dX2_last_48 : decode cX2_last 48 = .ok (.ireturn, 1) := by decide +kernel
theorem dX2_depth_0 : decode cX2_depth 0 = .ok (.aload_n 0, 1) := by decide +kernel
theorem dX2_depth_1 : decode cX2_depth 1 = .ok (.iload_n 1, 1) := by decide +kernel
theorem dX2_depth_2 : decode cX2_depth 2 = .ok (.iconst 2, 1) := by decide +kernel
theorem dX2_depth_3 : decode cX2_depth 3 = .ok (.if_icmp .lt 12, 3) := by decide +kernel
theorem dX2_depth_6 : decode cX2_depth 6 = .ok (.iload_n 1, 1) := by decide +kernel
theorem dX2_depth_7 : decode cX2_depth 7 = .ok (.iconst 4, 1) := by decide +kernel
theorem dX2_depth_8 : decode cX2_depth 8 = .ok (.if_icmp .gt 7, 3) := by decide +kernel
theorem dX2_depth_11 : decode cX2_depth 11 = .ok (.iconst 1, 1) := by decide +kernel
theorem dX2_depth_12 : decode cX2_depth 12 = .ok (.goto 4, 3) := by decide +kernel
theorem dX2_depth_15 : decode cX2_depth 15 = .ok (.iconst 0, 1) := by decide +kernel
theorem dX2_depth_16 : decode cX2_depth 16 = .ok (.aload_n 0, 1) := by decide +kernel
theorem dX2_depth_17 : decode cX2_depth 17 = .ok (.getfield 54, 3) := by decide +kernel
theorem dX2_depth_20 : decode cX2_depth 20 = .ok (.ifCond .ne 14, 3) := by decide +kernel
theorem dX2_depth_23 : decode cX2_depth 23 = .ok (.aload_n 0, 1) := by decide +kernel
theorem dX2_depth_24 : decode cX2_depth 24 = .ok (.invokevirtual 65, 3) := by decide +kernel
theorem dX2_depth_27 : decode cX2_depth 27 = .ok (.ifCond .ne 7, 3) := by decide +kernel
theorem dX2_depth_30 : decode cX2_depth 30 = .ok (.iconst 1, 1) := by decide +kernel
theorem dX2_depth_31 : decode cX2_depth 31 = .ok (.goto 4, 3) := by decide +kernel
theorem dX2_depth_34 : decode cX2_depth 34 = .ok (.iconst 0, 1) := by decide +kernel
theorem dX2_depth_35 : decode cX2_depth 35 = .ok (.iconst 1, 1) := by decide +kernel
theorem dX2_depth_36 : decode cX2_depth 36 = .ok (.invokevirtual 69, 3) := by decide +kernel
theorem dX2_depth_39 : decode cX2_depth 39 = .ok (.ifCond .ne 5, 3) := by decide +kernel
theorem dX2_depth_42 : decode cX2_depth 42 = .ok (.iconst 0, 1) := by decide +kernel
theorem dX2_depth_43 : decode cX2_depth 43 = .ok (.ireturn, 1) := by decide +kernel
theorem dX2_depth_44 : decode cX2_depth 44 = .ok (.aload_n 0, 1) := by decide +kernel
theorem dX2_depth_45 : decode cX2_depth 45 = .ok (.getfield 7, 3) := by decide +kernel
theorem dX2_depth_48 : decode cX2_depth 48 = .ok (.istore_n 2, 1) := by decide +kernel
theorem dX2_depth_49 : decode cX2_depth 49 = .ok (.aload_n 0, 1) := by decide +kernel
theorem dX2_depth_50 : decode cX2_depth 50 = .ok (.iload_n 1, 1) := by decide +kernel
theorem dX2_depth_51 : decode cX2_depth 51 = .ok (.putfield 7, 3) := by decide +kernel
theorem dX2_depth_54 : decode cX2_depth 54 = .ok (.iload_n 2, 1) := by decide +kernel
theorem dX2_depth_55 : decode cX2_depth 55 = .ok (.ireturn, 1) := by decide +kernel
theorem dX2_found_0 : decode cX2_found 0 = .ok (.aload_n 0, 1) := by decide +kernel
theorem dX2_found_1 : decode cX2_found 1 = .ok (.iload_n 1, 1) := by decide +kernel
theorem dX2_found_2 : decode cX2_found 2 = .ok (.invokestatic 50, 3) := by decide +kernel
theorem dX2_found_5 : decode cX2_found 5 = .ok (.aload_n 0, 1) := by decide +kernel
theorem dX2_found_6 : decode cX2_found 6 = .ok (.getfield 54, 3) := by decide +kernel
theorem dX2_found_9 : decode cX2_found 9 = .ok (.ifCond .ne 32, 3) := by decide +kernel
theorem dX2_found_12 : decode cX2_found 12 = .ok (.iload_n 1, 1) := by decide +kernel
theorem dX2_found_13 : decode cX2_found 13 = .ok (.invokestatic 50, 3) := by decide +kernel
theorem dX2_found_16 : decode cX2_found 16 = .ok (.ifCond .eq 25, 3) := by decide +kernel
theorem dX2_found_19 : decode cX2_found 19 = .ok (.aload_n 0, 1) := by decide +kernel
theorem dX2_found_20 : decode cX2_found 20 = .ok (.getfield 13, 3) := by decide +kernel
theorem dX2_found_23 : decode cX2_found 23 = .ok (.iload_n 1, 1) := by decide +kernel
theorem dX2_found_24 : decode cX2_found 24 = .ok (.iaload, 1) := by decide +kernel
theorem dX2_found_25 : decode cX2_found 25 = .ok (.ifCond .ne 16, 3) := by decide +kernel
theorem dX2_found_28 : decode cX2_found 28 = .ok (.aload_n 0, 1) := by decide +kernel
theorem dX2_found_29 : decode cX2_found 29 = .ok (.invokevirtual 65, 3) := by decide +kernel
theorem dX2_found_32 : decode cX2_found 32 = .ok (.bipush 20, 2) := by decide +kernel
theorem dX2_found_34 : decode cX2_found 34 = .ok (.if_icmp .ge 7, 3) := by decide +kernel
theorem dX2_found_37 : decode cX2_found 37 = .ok (.iconst 1, 1) := by decide +kernel
theorem dX2_found_38 : decode cX2_found 38 = .ok (.goto 4, 3) := by decide +kernel
theorem dX2_found_41 : decode cX2_found 41 = .ok (.iconst 0, 1) := by decide +kernel
theorem dX2_found_42 : decode cX2_found 42 = .ok (.iconst 1, 1) := by decide +kernel
theorem dX2_found_43 : decode cX2_found 43 = .ok (.invokevirtual 69, 3) := by decide +kernel
theorem dX2_found_46 : decode cX2_found 46 = .ok (.ifCond .ne 5, 3) := by decide +kernel
theorem dX2_found_49 : decode cX2_found 49 = .ok (.iconst 0, 1) := by decide +kernel
theorem dX2_found_50 : decode cX2_found 50 = .ok (.ireturn, 1) := by decide +kernel
theorem dX2_found_51 : decode cX2_found 51 = .ok (.aload_n 0, 1) := by decide +kernel
theorem dX2_found_52 : decode cX2_found 52 = .ok (.getfield 13, 3) := by decide +kernel
theorem dX2_found_55 : decode cX2_found 55 = .ok (.iload_n 1, 1) := by decide +kernel
theorem dX2_found_56 : decode cX2_found 56 = .ok (.iconst 1, 1) := by decide +kernel
theorem dX2_found_57 : decode cX2_found 57 = .ok (.iastore, 1) := by decide +kernel
theorem dX2_found_58 : decode cX2_found 58 = .ok (.aload_n 0, 1) := by decide +kernel
theorem dX2_found_59 : decode cX2_found 59 = .ok (.invokevirtual 65, 3) := by decide +kernel
theorem dX2_found_62 : decode cX2_found 62 = .ok (.ireturn, 1) := by decide +kernel
theorem dX2_empty_0 : decode cX2_empty 0 = .ok (.aload_n 0, 1) := by decide +kernel
theorem dX2_empty_1 : decode cX2_empty 1 = .ok (.getfield 20, 3) := by decide +kernel
theorem dX2_empty_4 : decode cX2_empty 4 = .ok (.iload_n 1, 1) := by decide +kernel
theorem dX2_empty_5 : decode cX2_empty 5 = .ok (.iconst (-1), 1) := by decide +kernel
theorem dX2_empty_6 : decode cX2_empty 6 = .ok (.iastore, 1) := by decide +kernel
theorem dX2_empty_7 : decode cX2_empty 7 = .ok (.aload_n 0, 1) := by decide +kernel
theorem dX2_empty_8 : decode cX2_empty 8 = .ok (.getfield 26, 3) := by decide +kernel
theorem dX2_empty_11 : decode cX2_empty 11 = .ok (.iload_n 1, 1) := by decide +kernel
theorem dX2_empty_12 : decode cX2_empty 12 = .ok (.iconst 0, 1) := by decide +kernel
theorem dX2_empty_13 : decode cX2_empty 13 = .ok (.iastore, 1) := by decide +kernel
theorem dX2_empty_14 : decode cX2_empty 14 = .ok (.iconst 0, 1) := by decide +kernel
theorem dX2_empty_15 : decode cX2_empty 15 = .ok (.istore_n 2, 1) := by decide +kernel
theorem dX2_empty_16 : decode cX2_empty 16 = .ok (.iload_n 2, 1) := by decide +kernel
theorem dX2_empty_17 : decode cX2_empty 17 = .ok (.bipush 8, 2) := by decide +kernel
theorem dX2_empty_19 : decode cX2_empty 19 = .ok (.if_icmp .ge 21, 3) := by decide +kernel
theorem dX2_empty_22 : decode cX2_empty 22 = .ok (.aload_n 0, 1) := by decide +kernel
theorem dX2_empty_23 : decode cX2_empty 23 = .ok (.getfield 23, 3) := by decide +kernel
theorem dX2_empty_26 : decode cX2_empty 26 = .ok (.bipush 8, 2) := by decide +kernel
theorem dX2_empty_28 : decode cX2_empty 28 = .ok (.iload_n 1, 1) := by decide +kernel
theorem dX2_empty_29 : decode cX2_empty 29 = .ok (.imul, 1) := by decide +kernel
theorem dX2_empty_30 : decode cX2_empty 30 = .ok (.iload_n 2, 1) := by decide +kernel
theorem dX2_empty_31 : decode cX2_empty 31 = .ok (.iadd, 1) := by decide +kernel
theorem dX2_empty_32 : decode cX2_empty 32 = .ok (.iconst (-1), 1) := by decide +kernel
theorem dX2_empty_33 : decode cX2_empty 33 = .ok (.iastore, 1) := by decide +kernel
theorem dX2_empty_34 : decode cX2_empty 34 = .ok (.iinc 2 1, 3) := by decide +kernel
theorem dX2_empty_37 : decode cX2_empty 37 = .ok (.goto (-21), 3) := by decide +kernel
theorem dX2_empty_40 : decode cX2_empty 40 = .ok (.iconst 0, 1) := by decide +kernel
theorem dX2_empty_41 : decode cX2_empty 41 = .ok (.istore_n 2, 1) := by decide +kernel
theorem dX2_empty_42 : decode cX2_empty 42 = .ok (.iload_n 2, 1) := by decide +kernel
theorem dX2_empty_43 : decode cX2_empty 43 = .ok (.bipush 64, 2) := by decide +kernel
theorem dX2_empty_45 : decode cX2_empty 45 = .ok (.if_icmp .ge 21, 3) := by decide +kernel
theorem dX2_empty_48 : decode cX2_empty 48 = .ok (.aload_n 0, 1) := by decide +kernel
theorem dX2_empty_49 : decode cX2_empty 49 = .ok (.getfield 29, 3) := by decide +kernel
theorem dX2_empty_52 : decode cX2_empty 52 = .ok (.bipush 64, 2) := by decide +kernel
theorem dX2_empty_54 : decode cX2_empty 54 = .ok (.iload_n 1, 1) := by decide +kernel
theorem dX2_empty_55 : decode cX2_empty 55 = .ok (.imul, 1) := by decide +kernel
theorem dX2_empty_56 : decode cX2_empty 56 = .ok (.iload_n 2, 1) := by decide +kernel
theorem dX2_empty_57 : decode cX2_empty 57 = .ok (.iadd, 1) := by decide +kernel
theorem dX2_empty_58 : decode cX2_empty 58 = .ok (.iconst 0, 1) := by decide +kernel
theorem dX2_empty_59 : decode cX2_empty 59 = .ok (.iastore, 1) := by decide +kernel
theorem dX2_empty_60 : decode cX2_empty 60 = .ok (.iinc 2 1, 3) := by decide +kernel
theorem dX2_empty_63 : decode cX2_empty 63 = .ok (.goto (-21), 3) := by decide +kernel
theorem dX2_empty_66 : decode cX2_empty 66 = .ok (.return_, 1) := by decide +kernel
theorem dX2_open_0 : decode cX2_open 0 = .ok (.aload_n 0, 1) := by decide +kernel
theorem dX2_open_1 : decode cX2_open 1 = .ok (.aload_n 0, 1) := by decide +kernel
theorem dX2_open_2 : decode cX2_open 2 = .ok (.getfield 54, 3) := by decide +kernel
theorem dX2_open_5 : decode cX2_open 5 = .ok (.ifCond .ne 18, 3) := by decide +kernel
theorem dX2_open_8 : decode cX2_open 8 = .ok (.aload_n 0, 1) := by decide +kernel
theorem dX2_open_9 : decode cX2_open 9 = .ok (.invokevirtual 65, 3) := by decide +kernel
theorem dX2_open_12 : decode cX2_open 12 = .ok (.aload_n 0, 1) := by decide +kernel
theorem dX2_open_13 : decode cX2_open 13 = .ok (.getfield 7, 3) := by decide +kernel
theorem dX2_open_16 : decode cX2_open 16 = .ok (.if_icmp .le 7, 3) := by decide +kernel
theorem dX2_open_19 : decode cX2_open 19 = .ok (.iconst 1, 1) := by decide +kernel
theorem dX2_open_20 : decode cX2_open 20 = .ok (.goto 4, 3) := by decide +kernel
theorem dX2_open_23 : decode cX2_open 23 = .ok (.iconst 0, 1) := by decide +kernel
theorem dX2_open_24 : decode cX2_open 24 = .ok (.iconst 1, 1) := by decide +kernel
theorem dX2_open_25 : decode cX2_open 25 = .ok (.iconst 1, 1) := by decide +kernel
theorem dX2_open_26 : decode cX2_open 26 = .ok (.invokevirtual 69, 3) := by decide +kernel
theorem dX2_open_29 : decode cX2_open 29 = .ok (.ifCond .ne 5, 3) := by decide +kernel
theorem dX2_open_32 : decode cX2_open 32 = .ok (.iconst 0, 1) := by decide +kernel
theorem dX2_open_33 : decode cX2_open 33 = .ok (.ireturn, 1) := by decide +kernel
theorem dX2_open_34 : decode cX2_open 34 = .ok (.aload_n 0, 1) := by decide +kernel
theorem dX2_open_35 : decode cX2_open 35 = .ok (.iconst 1, 1) := by decide +kernel
theorem dX2_open_36 : decode cX2_open 36 = .ok (.putfield 54, 3) := by decide +kernel
theorem dX2_open_39 : decode cX2_open 39 = .ok (.iconst 0, 1) := by decide +kernel
theorem dX2_open_40 : decode cX2_open 40 = .ok (.istore_n 1, 1) := by decide +kernel
theorem dX2_open_41 : decode cX2_open 41 = .ok (.iload_n 1, 1) := by decide +kernel
theorem dX2_open_42 : decode cX2_open 42 = .ok (.sipush 256, 3) := by decide +kernel
theorem dX2_open_45 : decode cX2_open 45 = .ok (.if_icmp .ge 84, 3) := by decide +kernel
theorem dX2_open_48 : decode cX2_open 48 = .ok (.aload_n 0, 1) := by decide +kernel
theorem dX2_open_49 : decode cX2_open 49 = .ok (.getfield 13, 3) := by decide +kernel
theorem dX2_open_52 : decode cX2_open 52 = .ok (.iload_n 1, 1) := by decide +kernel
theorem dX2_open_53 : decode cX2_open 53 = .ok (.iaload, 1) := by decide +kernel
theorem dX2_open_54 : decode cX2_open 54 = .ok (.iconst 1, 1) := by decide +kernel
theorem dX2_open_55 : decode cX2_open 55 = .ok (.if_icmp .ne 68, 3) := by decide +kernel
theorem dX2_open_58 : decode cX2_open 58 = .ok (.aload_n 0, 1) := by decide +kernel
theorem dX2_open_59 : decode cX2_open 59 = .ok (.iload_n 1, 1) := by decide +kernel
theorem dX2_open_60 : decode cX2_open 60 = .ok (.invokevirtual 73, 3) := by decide +kernel
theorem dX2_open_63 : decode cX2_open 63 = .ok (.iload_n 1, 1) := by decide +kernel
theorem dX2_open_64 : decode cX2_open 64 = .ok (.istore_n 2, 1) := by decide +kernel
theorem dX2_open_65 : decode cX2_open 65 = .ok (.iconst 0, 1) := by decide +kernel
theorem dX2_open_66 : decode cX2_open 66 = .ok (.istore_n 3, 1) := by decide +kernel
theorem dX2_open_67 : decode cX2_open 67 = .ok (.iload_n 3, 1) := by decide +kernel
theorem dX2_open_68 : decode cX2_open 68 = .ok (.aload_n 0, 1) := by decide +kernel
theorem dX2_open_69 : decode cX2_open 69 = .ok (.getfield 7, 3) := by decide +kernel
theorem dX2_open_72 : decode cX2_open 72 = .ok (.if_icmp .ge 32, 3) := by decide +kernel
theorem dX2_open_75 : decode cX2_open 75 = .ok (.aload_n 0, 1) := by decide +kernel
theorem dX2_open_76 : decode cX2_open 76 = .ok (.iload_n 2, 1) := by decide +kernel
theorem dX2_open_77 : decode cX2_open 77 = .ok (.iconst 1, 1) := by decide +kernel
theorem dX2_open_78 : decode cX2_open 78 = .ok (.iadd, 1) := by decide +kernel
theorem dX2_open_79 : decode cX2_open 79 = .ok (.sipush 256, 3) := by decide +kernel
theorem dX2_open_82 : decode cX2_open 82 = .ok (.irem, 1) := by decide +kernel
theorem dX2_open_83 : decode cX2_open 83 = .ok (.invokevirtual 77, 3) := by decide +kernel
theorem dX2_open_86 : decode cX2_open 86 = .ok (.istore_n 2, 1) := by decide +kernel
theorem dX2_open_87 : decode cX2_open 87 = .ok (.aload_n 0, 1) := by decide +kernel
theorem dX2_open_88 : decode cX2_open 88 = .ok (.getfield 17, 3) := by decide +kernel
theorem dX2_open_91 : decode cX2_open 91 = .ok (.iconst 4, 1) := by decide +kernel
theorem dX2_open_92 : decode cX2_open 92 = .ok (.iload_n 1, 1) := by decide +kernel
theorem dX2_open_93 : decode cX2_open 93 = .ok (.imul, 1) := by decide +kernel
theorem dX2_open_94 : decode cX2_open 94 = .ok (.iload_n 3, 1) := by decide +kernel
theorem dX2_open_95 : decode cX2_open 95 = .ok (.iadd, 1) := by decide +kernel
theorem dX2_open_96 : decode cX2_open 96 = .ok (.iload_n 2, 1) := by decide +kernel
theorem dX2_open_97 : decode cX2_open 97 = .ok (.iastore, 1) := by decide +kernel
theorem dX2_open_98 : decode cX2_open 98 = .ok (.iinc 3 1, 3) := by decide +kernel
theorem dX2_open_101 : decode cX2_open 101 = .ok (.goto (-34), 3) := by decide +kernel
theorem dX2_open_104 : decode cX2_open 104 = .ok (.aload_n 0, 1) := by decide +kernel
theorem dX2_open_105 : decode cX2_open 105 = .ok (.getfield 20, 3) := by decide +kernel
theorem dX2_open_108 : decode cX2_open 108 = .ok (.iload_n 1, 1) := by decide +kernel
theorem dX2_open_109 : decode cX2_open 109 = .ok (.aload_n 0, 1) := by decide +kernel
theorem dX2_open_110 : decode cX2_open 110 = .ok (.iload_n 1, 1) := by decide +kernel
theorem dX2_open_111 : decode cX2_open 111 = .ok (.sipush 255, 3) := by decide +kernel
theorem dX2_open_114 : decode cX2_open 114 = .ok (.iadd, 1) := by decide +kernel
theorem dX2_open_115 : decode cX2_open 115 = .ok (.sipush 256, 3) := by decide +kernel
theorem dX2_open_118 : decode cX2_open 118 = .ok (.irem, 1) := by decide +kernel
theorem dX2_open_119 : decode cX2_open 119 = .ok (.invokevirtual 81, 3) := by decide +kernel
theorem dX2_open_122 : decode cX2_open 122 = .ok (.iastore, 1) := by decide +kernel
theorem dX2_open_123 : decode cX2_open 123 = .ok (.iinc 1 1, 3) := by decide +kernel
theorem dX2_open_126 : decode cX2_open 126 = .ok (.goto (-85), 3) := by decide +kernel
theorem dX2_open_129 : decode cX2_open 129 = .ok (.aload_n 0, 1) := by decide +kernel
theorem dX2_open_130 : decode cX2_open 130 = .ok (.invokevirtual 65, 3) := by decide +kernel
theorem dX2_open_133 : decode cX2_open 133 = .ok (.ireturn, 1) := by decide +kernel
theorem dX2_successor_0 : decode cX2_successor 0 = .ok (.iconst 0, 1) := by decide +kernel
theorem dX2_successor_1 : decode cX2_successor 1 = .ok (.istore_n 2, 1) := by decide +kernel
theorem dX2_successor_2 : decode cX2_successor 2 = .ok (.iload_n 2, 1) := by decide +kernel
theorem dX2_successor_3 : decode cX2_successor 3 = .ok (.aload_n 0, 1) := by decide +kernel
theorem dX2_successor_4 : decode cX2_successor 4 = .ok (.getfield 7, 3) := by decide +kernel
theorem dX2_successor_7 : decode cX2_successor 7 = .ok (.if_icmp .ge 37, 3) := by decide +kernel
theorem dX2_successor_10 : decode cX2_successor 10 = .ok (.aload_n 0, 1) := by decide +kernel
theorem dX2_successor_11 : decode cX2_successor 11 = .ok (.aload_n 0, 1) := by decide +kernel
theorem dX2_successor_12 : decode cX2_successor 12 = .ok (.getfield 17, 3) := by decide +kernel
theorem dX2_successor_15 : decode cX2_successor 15 = .ok (.iconst 4, 1) := by decide +kernel
theorem dX2_successor_16 : decode cX2_successor 16 = .ok (.iload_n 1, 1) := by decide +kernel
theorem dX2_successor_17 : decode cX2_successor 17 = .ok (.imul, 1) := by decide +kernel
theorem dX2_successor_18 : decode cX2_successor 18 = .ok (.iload_n 2, 1) := by decide +kernel
theorem dX2_successor_19 : decode cX2_successor 19 = .ok (.iadd, 1) := by decide +kernel
theorem dX2_successor_20 : decode cX2_successor 20 = .ok (.iaload, 1) := by decide +kernel
theorem dX2_successor_21 : decode cX2_successor 21 = .ok (.invokevirtual 58, 3) := by decide +kernel
theorem dX2_successor_24 : decode cX2_successor 24 = .ok (.ifCond .eq 14, 3) := by decide +kernel
theorem dX2_successor_27 : decode cX2_successor 27 = .ok (.aload_n 0, 1) := by decide +kernel
theorem dX2_successor_28 : decode cX2_successor 28 = .ok (.getfield 17, 3) := by decide +kernel
theorem dX2_successor_31 : decode cX2_successor 31 = .ok (.iconst 4, 1) := by decide +kernel
theorem dX2_successor_32 : decode cX2_successor 32 = .ok (.iload_n 1, 1) := by decide +kernel
theorem dX2_successor_33 : decode cX2_successor 33 = .ok (.imul, 1) := by decide +kernel
theorem dX2_successor_34 : decode cX2_successor 34 = .ok (.iload_n 2, 1) := by decide +kernel
theorem dX2_successor_35 : decode cX2_successor 35 = .ok (.iadd, 1) := by decide +kernel
theorem dX2_successor_36 : decode cX2_successor 36 = .ok (.iaload, 1) := by decide +kernel
theorem dX2_successor_37 : decode cX2_successor 37 = .ok (.ireturn, 1) := by decide +kernel
theorem dX2_successor_38 : decode cX2_successor 38 = .ok (.iinc 2 1, 3) := by decide +kernel
theorem dX2_successor_41 : decode cX2_successor 41 = .ok (.goto (-39), 3) := by decide +kernel
theorem dX2_successor_44 : decode cX2_successor 44 = .ok (.iconst (-1), 1) := by decide +kernel
theorem dX2_successor_45 : decode cX2_successor 45 = .ok (.ireturn, 1) := by decide +kernel
theorem dX2_takeOver_0 : decode cX2_takeOver 0 = .ok (.iconst 0, 1) := by decide +kernel
theorem dX2_takeOver_1 : decode cX2_takeOver 1 = .ok (.istore_n 3, 1) := by decide +kernel
theorem dX2_takeOver_2 : decode cX2_takeOver 2 = .ok (.iload_n 3, 1) := by decide +kernel
theorem dX2_takeOver_3 : decode cX2_takeOver 3 = .ok (.aload_n 0, 1) := by decide +kernel
theorem dX2_takeOver_4 : decode cX2_takeOver 4 = .ok (.getfield 7, 3) := by decide +kernel
theorem dX2_takeOver_7 : decode cX2_takeOver 7 = .ok (.if_icmp .ge 35, 3) := by decide +kernel
theorem dX2_takeOver_10 : decode cX2_takeOver 10 = .ok (.aload_n 0, 1) := by decide +kernel
theorem dX2_takeOver_11 : decode cX2_takeOver 11 = .ok (.getfield 38, 3) := by decide +kernel
theorem dX2_takeOver_14 : decode cX2_takeOver 14 = .ok (.iload_n 3, 1) := by decide +kernel
theorem dX2_takeOver_15 : decode cX2_takeOver 15 = .ok (.iload_n 3, 1) := by decide +kernel
theorem dX2_takeOver_16 : decode cX2_takeOver 16 = .ok (.ifCond .ne 7, 3) := by decide +kernel
theorem dX2_takeOver_19 : decode cX2_takeOver 19 = .ok (.iload_n 2, 1) := by decide +kernel
theorem dX2_takeOver_20 : decode cX2_takeOver 20 = .ok (.goto 15, 3) := by decide +kernel
theorem dX2_takeOver_23 : decode cX2_takeOver 23 = .ok (.aload_n 0, 1) := by decide +kernel
theorem dX2_takeOver_24 : decode cX2_takeOver 24 = .ok (.getfield 17, 3) := by decide +kernel
theorem dX2_takeOver_27 : decode cX2_takeOver 27 = .ok (.iconst 4, 1) := by decide +kernel
theorem dX2_takeOver_28 : decode cX2_takeOver 28 = .ok (.iload_n 2, 1) := by decide +kernel
theorem dX2_takeOver_29 : decode cX2_takeOver 29 = .ok (.imul, 1) := by decide +kernel
theorem dX2_takeOver_30 : decode cX2_takeOver 30 = .ok (.iload_n 3, 1) := by decide +kernel
theorem dX2_takeOver_31 : decode cX2_takeOver 31 = .ok (.iadd, 1) := by decide +kernel
theorem dX2_takeOver_32 : decode cX2_takeOver 32 = .ok (.iconst 1, 1) := by decide +kernel
theorem dX2_takeOver_33 : decode cX2_takeOver 33 = .ok (.isub, 1) := by decide +kernel
theorem dX2_takeOver_34 : decode cX2_takeOver 34 = .ok (.iaload, 1) := by decide +kernel
theorem dX2_takeOver_35 : decode cX2_takeOver 35 = .ok (.iastore, 1) := by decide +kernel
theorem dX2_takeOver_36 : decode cX2_takeOver 36 = .ok (.iinc 3 1, 3) := by decide +kernel
theorem dX2_takeOver_39 : decode cX2_takeOver 39 = .ok (.goto (-37), 3) := by decide +kernel
theorem dX2_takeOver_42 : decode cX2_takeOver 42 = .ok (.iconst 0, 1) := by decide +kernel
theorem dX2_takeOver_43 : decode cX2_takeOver 43 = .ok (.istore_n 3, 1) := by decide +kernel
theorem dX2_takeOver_44 : decode cX2_takeOver 44 = .ok (.iload_n 3, 1) := by decide +kernel
theorem dX2_takeOver_45 : decode cX2_takeOver 45 = .ok (.aload_n 0, 1) := by decide +kernel
theorem dX2_takeOver_46 : decode cX2_takeOver 46 = .ok (.getfield 7, 3) := by decide +kernel
theorem dX2_takeOver_49 : decode cX2_takeOver 49 = .ok (.if_icmp .ge 25, 3) := by decide +kernel
theorem dX2_takeOver_52 : decode cX2_takeOver 52 = .ok (.aload_n 0, 1) := by decide +kernel
theorem dX2_takeOver_53 : decode cX2_takeOver 53 = .ok (.getfield 17, 3) := by decide +kernel
theorem dX2_takeOver_56 : decode cX2_takeOver 56 = .ok (.iconst 4, 1) := by decide +kernel
theorem dX2_takeOver_57 : decode cX2_takeOver 57 = .ok (.iload_n 1, 1) := by decide +kernel
theorem dX2_takeOver_58 : decode cX2_takeOver 58 = .ok (.imul, 1) := by decide +kernel
theorem dX2_takeOver_59 : decode cX2_takeOver 59 = .ok (.iload_n 3, 1) := by decide +kernel
theorem dX2_takeOver_60 : decode cX2_takeOver 60 = .ok (.iadd, 1) := by decide +kernel
theorem dX2_takeOver_61 : decode cX2_takeOver 61 = .ok (.aload_n 0, 1) := by decide +kernel
theorem dX2_takeOver_62 : decode cX2_takeOver 62 = .ok (.getfield 38, 3) := by decide +kernel
theorem dX2_takeOver_65 : decode cX2_takeOver 65 = .ok (.iload_n 3, 1) := by decide +kernel
theorem dX2_takeOver_66 : decode cX2_takeOver 66 = .ok (.iaload, 1) := by decide +kernel
theorem dX2_takeOver_67 : decode cX2_takeOver 67 = .ok (.iastore, 1) := by decide +kernel
theorem dX2_takeOver_68 : decode cX2_takeOver 68 = .ok (.iinc 3 1, 3) := by decide +kernel
theorem dX2_takeOver_71 : decode cX2_takeOver 71 = .ok (.goto (-27), 3) := by decide +kernel
theorem dX2_takeOver_74 : decode cX2_takeOver 74 = .ok (.return_, 1) := by decide +kernel
theorem dX2_later_0 : decode cX2_later 0 = .ok (.aload_n 0, 1) := by decide +kernel
theorem dX2_later_1 : decode cX2_later 1 = .ok (.iload 4, 2) := by decide +kernel
theorem dX2_later_3 : decode cX2_later 3 = .ok (.invokevirtual 58, 3) := by decide +kernel
theorem dX2_later_6 : decode cX2_later 6 = .ok (.ifCond .eq 13, 3) := by decide +kernel
theorem dX2_later_9 : decode cX2_later 9 = .ok (.iload 4, 2) := by decide +kernel
theorem dX2_later_11 : decode cX2_later 11 = .ok (.iload_n 1, 1) := by decide +kernel
theorem dX2_later_12 : decode cX2_later 12 = .ok (.iload_n 2, 1) := by decide +kernel
theorem dX2_later_13 : decode cX2_later 13 = .ok (.invokestatic 84, 3) := by decide +kernel
theorem dX2_later_16 : decode cX2_later 16 = .ok (.ifCond .ne 5, 3) := by decide +kernel
theorem dX2_later_19 : decode cX2_later 19 = .ok (.iload_n 3, 1) := by decide +kernel
theorem dX2_later_20 : decode cX2_later 20 = .ok (.ireturn, 1) := by decide +kernel
theorem dX2_later_21 : decode cX2_later 21 = .ok (.iload_n 3, 1) := by decide +kernel
theorem dX2_later_22 : decode cX2_later 22 = .ok (.iconst (-1), 1) := by decide +kernel
theorem dX2_later_23 : decode cX2_later 23 = .ok (.if_icmp .eq 17, 3) := by decide +kernel
theorem dX2_later_26 : decode cX2_later 26 = .ok (.iload_n 1, 1) := by decide +kernel
theorem dX2_later_27 : decode cX2_later 27 = .ok (.iload 4, 2) := by decide +kernel
theorem dX2_later_29 : decode cX2_later 29 = .ok (.invokestatic 61, 3) := by decide +kernel
theorem dX2_later_32 : decode cX2_later 32 = .ok (.iload_n 1, 1) := by decide +kernel
theorem dX2_later_33 : decode cX2_later 33 = .ok (.iload_n 3, 1) := by decide +kernel
theorem dX2_later_34 : decode cX2_later 34 = .ok (.invokestatic 61, 3) := by decide +kernel
theorem dX2_later_37 : decode cX2_later 37 = .ok (.if_icmp .le 8, 3) := by decide +kernel
theorem dX2_later_40 : decode cX2_later 40 = .ok (.iload 4, 2) := by decide +kernel
theorem dX2_later_42 : decode cX2_later 42 = .ok (.goto 4, 3) := by decide +kernel
theorem dX2_later_45 : decode cX2_later 45 = .ok (.iload_n 3, 1) := by decide +kernel
theorem dX2_later_46 : decode cX2_later 46 = .ok (.ireturn, 1) := by decide +kernel
theorem dX2_lookFor_0 : decode cX2_lookFor 0 = .ok (.iload_n 1, 1) := by decide +kernel
theorem dX2_lookFor_1 : decode cX2_lookFor 1 = .ok (.istore_n 3, 1) := by decide +kernel
theorem dX2_lookFor_2 : decode cX2_lookFor 2 = .ok (.aload_n 0, 1) := by decide +kernel
theorem dX2_lookFor_3 : decode cX2_lookFor 3 = .ok (.iconst 0, 1) := by decide +kernel
theorem dX2_lookFor_4 : decode cX2_lookFor 4 = .ok (.putfield 88, 3) := by decide +kernel
theorem dX2_lookFor_7 : decode cX2_lookFor 7 = .ok (.aload_n 0, 1) := by decide +kernel
theorem dX2_lookFor_8 : decode cX2_lookFor 8 = .ok (.iload_n 3, 1) := by decide +kernel
theorem dX2_lookFor_9 : decode cX2_lookFor 9 = .ok (.invokevirtual 91, 3) := by decide +kernel
theorem dX2_lookFor_12 : decode cX2_lookFor 12 = .ok (.istore 4, 2) := by decide +kernel
theorem dX2_lookFor_14 : decode cX2_lookFor 14 = .ok (.iload_n 2, 1) := by decide +kernel
theorem dX2_lookFor_15 : decode cX2_lookFor 15 = .ok (.iload_n 3, 1) := by decide +kernel
theorem dX2_lookFor_16 : decode cX2_lookFor 16 = .ok (.if_icmp .ne 5, 3) := by decide +kernel
theorem dX2_lookFor_19 : decode cX2_lookFor 19 = .ok (.iload_n 3, 1) := by decide +kernel
theorem dX2_lookFor_20 : decode cX2_lookFor 20 = .ok (.ireturn, 1) := by decide +kernel
theorem dX2_lookFor_21 : decode cX2_lookFor 21 = .ok (.iload_n 2, 1) := by decide +kernel
theorem dX2_lookFor_22 : decode cX2_lookFor 22 = .ok (.iload 4, 2) := by decide +kernel
theorem dX2_lookFor_24 : decode cX2_lookFor 24 = .ok (.if_icmp .eq 13, 3) := by decide +kernel
theorem dX2_lookFor_27 : decode cX2_lookFor 27 = .ok (.iload_n 2, 1) := by decide +kernel
theorem dX2_lookFor_28 : decode cX2_lookFor 28 = .ok (.iload_n 3, 1) := by decide +kernel
theorem dX2_lookFor_29 : decode cX2_lookFor 29 = .ok (.iload 4, 2) := by decide +kernel
theorem dX2_lookFor_31 : decode cX2_lookFor 31 = .ok (.invokestatic 84, 3) := by decide +kernel
theorem dX2_lookFor_34 : decode cX2_lookFor 34 = .ok (.ifCond .eq 6, 3) := by decide +kernel
theorem dX2_lookFor_37 : decode cX2_lookFor 37 = .ok (.iload 4, 2) := by decide +kernel
theorem dX2_lookFor_39 : decode cX2_lookFor 39 = .ok (.ireturn, 1) := by decide +kernel
theorem dX2_lookFor_40 : decode cX2_lookFor 40 = .ok (.iconst (-1), 1) := by decide +kernel
theorem dX2_lookFor_41 : decode cX2_lookFor 41 = .ok (.istore 5, 2) := by decide +kernel
theorem dX2_lookFor_43 : decode cX2_lookFor 43 = .ok (.iconst 0, 1) := by decide +kernel
theorem dX2_lookFor_44 : decode cX2_lookFor 44 = .ok (.istore 6, 2) := by decide +kernel
theorem dX2_lookFor_46 : decode cX2_lookFor 46 = .ok (.iload 6, 2) := by decide +kernel
theorem dX2_lookFor_48 : decode cX2_lookFor 48 = .ok (.bipush 8, 2) := by decide +kernel
theorem dX2_lookFor_50 : decode cX2_lookFor 50 = .ok (.if_icmp .ge 31, 3) := by decide +kernel
theorem dX2_lookFor_53 : decode cX2_lookFor 53 = .ok (.aload_n 0, 1) := by decide +kernel
theorem dX2_lookFor_54 : decode cX2_lookFor 54 = .ok (.iload_n 3, 1) := by decide +kernel
theorem dX2_lookFor_55 : decode cX2_lookFor 55 = .ok (.iload_n 2, 1) := by decide +kernel
theorem dX2_lookFor_56 : decode cX2_lookFor 56 = .ok (.iload 5, 2) := by decide +kernel
theorem dX2_lookFor_58 : decode cX2_lookFor 58 = .ok (.aload_n 0, 1) := by decide +kernel
theorem dX2_lookFor_59 : decode cX2_lookFor 59 = .ok (.getfield 23, 3) := by decide +kernel
theorem dX2_lookFor_62 : decode cX2_lookFor 62 = .ok (.bipush 8, 2) := by decide +kernel
theorem dX2_lookFor_64 : decode cX2_lookFor 64 = .ok (.iload_n 3, 1) := by decide +kernel
theorem dX2_lookFor_65 : decode cX2_lookFor 65 = .ok (.imul, 1) := by decide +kernel
theorem dX2_lookFor_66 : decode cX2_lookFor 66 = .ok (.iload 6, 2) := by decide +kernel
theorem dX2_lookFor_68 : decode cX2_lookFor 68 = .ok (.iadd, 1) := by decide +kernel
theorem dX2_lookFor_69 : decode cX2_lookFor 69 = .ok (.iaload, 1) := by decide +kernel
theorem dX2_lookFor_70 : decode cX2_lookFor 70 = .ok (.invokevirtual 94, 3) := by decide +kernel
theorem dX2_lookFor_73 : decode cX2_lookFor 73 = .ok (.istore 5, 2) := by decide +kernel
theorem dX2_lookFor_75 : decode cX2_lookFor 75 = .ok (.iinc 6 1, 3) := by decide +kernel
theorem dX2_lookFor_78 : decode cX2_lookFor 78 = .ok (.goto (-32), 3) := by decide +kernel
theorem dX2_lookFor_81 : decode cX2_lookFor 81 = .ok (.iconst 0, 1) := by decide +kernel
theorem dX2_lookFor_82 : decode cX2_lookFor 82 = .ok (.istore 6, 2) := by decide +kernel
theorem dX2_lookFor_84 : decode cX2_lookFor 84 = .ok (.iload 6, 2) := by decide +kernel
theorem dX2_lookFor_86 : decode cX2_lookFor 86 = .ok (.aload_n 0, 1) := by decide +kernel
theorem dX2_lookFor_87 : decode cX2_lookFor 87 = .ok (.getfield 7, 3) := by decide +kernel
theorem dX2_lookFor_90 : decode cX2_lookFor 90 = .ok (.if_icmp .ge 30, 3) := by decide +kernel
theorem dX2_lookFor_93 : decode cX2_lookFor 93 = .ok (.aload_n 0, 1) := by decide +kernel
theorem dX2_lookFor_94 : decode cX2_lookFor 94 = .ok (.iload_n 3, 1) := by decide +kernel
theorem dX2_lookFor_95 : decode cX2_lookFor 95 = .ok (.iload_n 2, 1) := by decide +kernel
theorem dX2_lookFor_96 : decode cX2_lookFor 96 = .ok (.iload 5, 2) := by decide +kernel
theorem dX2_lookFor_98 : decode cX2_lookFor 98 = .ok (.aload_n 0, 1) := by decide +kernel
theorem dX2_lookFor_99 : decode cX2_lookFor 99 = .ok (.getfield 17, 3) := by decide +kernel
theorem dX2_lookFor_102 : decode cX2_lookFor 102 = .ok (.iconst 4, 1) := by decide +kernel
theorem dX2_lookFor_103 : decode cX2_lookFor 103 = .ok (.iload_n 3, 1) := by decide +kernel
theorem dX2_lookFor_104 : decode cX2_lookFor 104 = .ok (.imul, 1) := by decide +kernel
theorem dX2_lookFor_105 : decode cX2_lookFor 105 = .ok (.iload 6, 2) := by decide +kernel
theorem dX2_lookFor_107 : decode cX2_lookFor 107 = .ok (.iadd, 1) := by decide +kernel
theorem dX2_lookFor_108 : decode cX2_lookFor 108 = .ok (.iaload, 1) := by decide +kernel
theorem dX2_lookFor_109 : decode cX2_lookFor 109 = .ok (.invokevirtual 94, 3) := by decide +kernel
theorem dX2_lookFor_112 : decode cX2_lookFor 112 = .ok (.istore 5, 2) := by decide +kernel
theorem dX2_lookFor_114 : decode cX2_lookFor 114 = .ok (.iinc 6 1, 3) := by decide +kernel
theorem dX2_lookFor_117 : decode cX2_lookFor 117 = .ok (.goto (-33), 3) := by decide +kernel
theorem dX2_lookFor_120 : decode cX2_lookFor 120 = .ok (.iload 5, 2) := by decide +kernel
theorem dX2_lookFor_122 : decode cX2_lookFor 122 = .ok (.istore_n 3, 1) := by decide +kernel
theorem dX2_lookFor_123 : decode cX2_lookFor 123 = .ok (.aload_n 0, 1) := by decide +kernel
theorem dX2_lookFor_124 : decode cX2_lookFor 124 = .ok (.getfield 41, 3) := by decide +kernel
theorem dX2_lookFor_127 : decode cX2_lookFor 127 = .ok (.aload_n 0, 1) := by decide +kernel
theorem dX2_lookFor_128 : decode cX2_lookFor 128 = .ok (.getfield 88, 3) := by decide +kernel
theorem dX2_lookFor_131 : decode cX2_lookFor 131 = .ok (.iload_n 3, 1) := by decide +kernel
theorem dX2_lookFor_132 : decode cX2_lookFor 132 = .ok (.iastore, 1) := by decide +kernel
theorem dX2_lookFor_133 : decode cX2_lookFor 133 = .ok (.aload_n 0, 1) := by decide +kernel
theorem dX2_lookFor_134 : decode cX2_lookFor 134 = .ok (.dup, 1) := by decide +kernel
theorem dX2_lookFor_135 : decode cX2_lookFor 135 = .ok (.getfield 88, 3) := by decide +kernel
theorem dX2_lookFor_138 : decode cX2_lookFor 138 = .ok (.iconst 1, 1) := by decide +kernel
theorem dX2_lookFor_139 : decode cX2_lookFor 139 = .ok (.iadd, 1) := by decide +kernel
theorem dX2_lookFor_140 : decode cX2_lookFor 140 = .ok (.putfield 88, 3) := by decide +kernel
theorem dX2_lookFor_143 : decode cX2_lookFor 143 = .ok (.aload_n 0, 1) := by decide +kernel
theorem dX2_lookFor_144 : decode cX2_lookFor 144 = .ok (.dup, 1) := by decide +kernel
theorem dX2_lookFor_145 : decode cX2_lookFor 145 = .ok (.getfield 98, 3) := by decide +kernel
theorem dX2_lookFor_148 : decode cX2_lookFor 148 = .ok (.iconst 1, 1) := by decide +kernel
theorem dX2_lookFor_149 : decode cX2_lookFor 149 = .ok (.iadd, 1) := by decide +kernel
theorem dX2_lookFor_150 : decode cX2_lookFor 150 = .ok (.putfield 98, 3) := by decide +kernel
theorem dX2_lookFor_153 : decode cX2_lookFor 153 = .ok (.goto (-146), 3) := by decide +kernel
theorem dX2_join_0 : decode cX2_join 0 = .ok (.aload_n 0, 1) := by decide +kernel
theorem dX2_join_1 : decode cX2_join 1 = .ok (.aload_n 0, 1) := by decide +kernel
theorem dX2_join_2 : decode cX2_join 2 = .ok (.iload_n 2, 1) := by decide +kernel
theorem dX2_join_3 : decode cX2_join 3 = .ok (.invokevirtual 101, 3) := by decide +kernel
theorem dX2_join_6 : decode cX2_join 6 = .ok (.iload_n 1, 1) := by decide +kernel
theorem dX2_join_7 : decode cX2_join 7 = .ok (.invokestatic 50, 3) := by decide +kernel
theorem dX2_join_10 : decode cX2_join 10 = .ok (.iload_n 1, 1) := by decide +kernel
theorem dX2_join_11 : decode cX2_join 11 = .ok (.invokestatic 50, 3) := by decide +kernel
theorem dX2_join_14 : decode cX2_join 14 = .ok (.ifCond .eq 25, 3) := by decide +kernel
theorem dX2_join_17 : decode cX2_join 17 = .ok (.aload_n 0, 1) := by decide +kernel
theorem dX2_join_18 : decode cX2_join 18 = .ok (.getfield 13, 3) := by decide +kernel
theorem dX2_join_21 : decode cX2_join 21 = .ok (.iload_n 1, 1) := by decide +kernel
theorem dX2_join_22 : decode cX2_join 22 = .ok (.iaload, 1) := by decide +kernel
theorem dX2_join_23 : decode cX2_join 23 = .ok (.ifCond .ne 16, 3) := by decide +kernel
theorem dX2_join_26 : decode cX2_join 26 = .ok (.aload_n 0, 1) := by decide +kernel
theorem dX2_join_27 : decode cX2_join 27 = .ok (.invokevirtual 65, 3) := by decide +kernel
theorem dX2_join_30 : decode cX2_join 30 = .ok (.bipush 20, 2) := by decide +kernel
theorem dX2_join_32 : decode cX2_join 32 = .ok (.if_icmp .ge 7, 3) := by decide +kernel
theorem dX2_join_35 : decode cX2_join 35 = .ok (.iconst 1, 1) := by decide +kernel
theorem dX2_join_36 : decode cX2_join 36 = .ok (.goto 4, 3) := by decide +kernel
theorem dX2_join_39 : decode cX2_join 39 = .ok (.iconst 0, 1) := by decide +kernel
theorem dX2_join_40 : decode cX2_join 40 = .ok (.invokevirtual 69, 3) := by decide +kernel
theorem dX2_join_43 : decode cX2_join 43 = .ok (.ifCond .ne 5, 3) := by decide +kernel
theorem dX2_join_46 : decode cX2_join 46 = .ok (.iconst 0, 1) := by decide +kernel
theorem dX2_join_47 : decode cX2_join 47 = .ok (.ireturn, 1) := by decide +kernel
theorem dX2_join_48 : decode cX2_join 48 = .ok (.aload_n 0, 1) := by decide +kernel
theorem dX2_join_49 : decode cX2_join 49 = .ok (.iload_n 2, 1) := by decide +kernel
theorem dX2_join_50 : decode cX2_join 50 = .ok (.iload_n 1, 1) := by decide +kernel
theorem dX2_join_51 : decode cX2_join 51 = .ok (.invokevirtual 104, 3) := by decide +kernel
theorem dX2_join_54 : decode cX2_join 54 = .ok (.istore_n 3, 1) := by decide +kernel
theorem dX2_join_55 : decode cX2_join 55 = .ok (.aload_n 0, 1) := by decide +kernel
theorem dX2_join_56 : decode cX2_join 56 = .ok (.getfield 13, 3) := by decide +kernel
theorem dX2_join_59 : decode cX2_join 59 = .ok (.iload_n 1, 1) := by decide +kernel
theorem dX2_join_60 : decode cX2_join 60 = .ok (.iconst 1, 1) := by decide +kernel
theorem dX2_join_61 : decode cX2_join 61 = .ok (.iastore, 1) := by decide +kernel
theorem dX2_join_62 : decode cX2_join 62 = .ok (.aload_n 0, 1) := by decide +kernel
theorem dX2_join_63 : decode cX2_join 63 = .ok (.iload_n 1, 1) := by decide +kernel
theorem dX2_join_64 : decode cX2_join 64 = .ok (.invokevirtual 73, 3) := by decide +kernel
theorem dX2_join_67 : decode cX2_join 67 = .ok (.aload_n 0, 1) := by decide +kernel
theorem dX2_join_68 : decode cX2_join 68 = .ok (.iload_n 1, 1) := by decide +kernel
theorem dX2_join_69 : decode cX2_join 69 = .ok (.iload_n 3, 1) := by decide +kernel
theorem dX2_join_70 : decode cX2_join 70 = .ok (.invokevirtual 107, 3) := by decide +kernel
theorem dX2_join_73 : decode cX2_join 73 = .ok (.iload_n 3, 1) := by decide +kernel
theorem dX2_join_74 : decode cX2_join 74 = .ok (.ireturn, 1) := by decide +kernel
theorem dX2_without_0 : decode cX2_without 0 = .ok (.iconst 1, 1) := by decide +kernel
theorem dX2_without_1 : decode cX2_without 1 = .ok (.istore_n 2, 1) := by decide +kernel
theorem dX2_without_2 : decode cX2_without 2 = .ok (.iconst 0, 1) := by decide +kernel
theorem dX2_without_3 : decode cX2_without 3 = .ok (.istore_n 3, 1) := by decide +kernel
theorem dX2_without_4 : decode cX2_without 4 = .ok (.iload_n 3, 1) := by decide +kernel
theorem dX2_without_5 : decode cX2_without 5 = .ok (.sipush 256, 3) := by decide +kernel
theorem dX2_without_8 : decode cX2_without 8 = .ok (.if_icmp .ge 110, 3) := by decide +kernel
theorem dX2_without_11 : decode cX2_without 11 = .ok (.aload_n 0, 1) := by decide +kernel
theorem dX2_without_12 : decode cX2_without 12 = .ok (.getfield 13, 3) := by decide +kernel
theorem dX2_without_15 : decode cX2_without 15 = .ok (.iload_n 3, 1) := by decide +kernel
theorem dX2_without_16 : decode cX2_without 16 = .ok (.iaload, 1) := by decide +kernel
theorem dX2_without_17 : decode cX2_without 17 = .ok (.iconst 1, 1) := by decide +kernel
theorem dX2_without_18 : decode cX2_without 18 = .ok (.if_icmp .ne 8, 3) := by decide +kernel
theorem dX2_without_21 : decode cX2_without 21 = .ok (.iload_n 3, 1) := by decide +kernel
theorem dX2_without_22 : decode cX2_without 22 = .ok (.iload_n 1, 1) := by decide +kernel
theorem dX2_without_23 : decode cX2_without 23 = .ok (.if_icmp .ne 7, 3) := by decide +kernel
theorem dX2_without_26 : decode cX2_without 26 = .ok (.iconst 1, 1) := by decide +kernel
theorem dX2_without_27 : decode cX2_without 27 = .ok (.goto 4, 3) := by decide +kernel
theorem dX2_without_30 : decode cX2_without 30 = .ok (.iconst 0, 1) := by decide +kernel
theorem dX2_without_31 : decode cX2_without 31 = .ok (.istore 4, 2) := by decide +kernel
theorem dX2_without_33 : decode cX2_without 33 = .ok (.iconst 0, 1) := by decide +kernel
theorem dX2_without_34 : decode cX2_without 34 = .ok (.istore 5, 2) := by decide +kernel
theorem dX2_without_36 : decode cX2_without 36 = .ok (.iload 5, 2) := by decide +kernel
theorem dX2_without_38 : decode cX2_without 38 = .ok (.aload_n 0, 1) := by decide +kernel
theorem dX2_without_39 : decode cX2_without 39 = .ok (.getfield 7, 3) := by decide +kernel
theorem dX2_without_42 : decode cX2_without 42 = .ok (.if_icmp .ge 55, 3) := by decide +kernel
theorem dX2_without_45 : decode cX2_without 45 = .ok (.aload_n 0, 1) := by decide +kernel
theorem dX2_without_46 : decode cX2_without 46 = .ok (.getfield 17, 3) := by decide +kernel
theorem dX2_without_49 : decode cX2_without 49 = .ok (.iconst 4, 1) := by decide +kernel
theorem dX2_without_50 : decode cX2_without 50 = .ok (.iload_n 3, 1) := by decide +kernel
theorem dX2_without_51 : decode cX2_without 51 = .ok (.imul, 1) := by decide +kernel
theorem dX2_without_52 : decode cX2_without 52 = .ok (.iload 5, 2) := by decide +kernel
theorem dX2_without_54 : decode cX2_without 54 = .ok (.iadd, 1) := by decide +kernel
theorem dX2_without_55 : decode cX2_without 55 = .ok (.iaload, 1) := by decide +kernel
theorem dX2_without_56 : decode cX2_without 56 = .ok (.istore 6, 2) := by decide +kernel
theorem dX2_without_58 : decode cX2_without 58 = .ok (.iload 4, 2) := by decide +kernel
theorem dX2_without_60 : decode cX2_without 60 = .ok (.ifCond .ne 24, 3) := by decide +kernel
theorem dX2_without_63 : decode cX2_without 63 = .ok (.aload_n 0, 1) := by decide +kernel
theorem dX2_without_64 : decode cX2_without 64 = .ok (.iload 6, 2) := by decide +kernel
theorem dX2_without_66 : decode cX2_without 66 = .ok (.invokevirtual 58, 3) := by decide +kernel
theorem dX2_without_69 : decode cX2_without 69 = .ok (.ifCond .eq 19, 3) := by decide +kernel
theorem dX2_without_72 : decode cX2_without 72 = .ok (.iload 6, 2) := by decide +kernel
theorem dX2_without_74 : decode cX2_without 74 = .ok (.iload_n 1, 1) := by decide +kernel
theorem dX2_without_75 : decode cX2_without 75 = .ok (.if_icmp .eq 13, 3) := by decide +kernel
theorem dX2_without_78 : decode cX2_without 78 = .ok (.iload 6, 2) := by decide +kernel
theorem dX2_without_80 : decode cX2_without 80 = .ok (.iload_n 3, 1) := by decide +kernel
theorem dX2_without_81 : decode cX2_without 81 = .ok (.if_icmp .eq 7, 3) := by decide +kernel
theorem dX2_without_84 : decode cX2_without 84 = .ok (.iconst 1, 1) := by decide +kernel
theorem dX2_without_85 : decode cX2_without 85 = .ok (.goto 4, 3) := by decide +kernel
theorem dX2_without_88 : decode cX2_without 88 = .ok (.iconst 0, 1) := by decide +kernel
theorem dX2_without_89 : decode cX2_without 89 = .ok (.istore 4, 2) := by decide +kernel
theorem dX2_without_91 : decode cX2_without 91 = .ok (.iinc 5 1, 3) := by decide +kernel
theorem dX2_without_94 : decode cX2_without 94 = .ok (.goto (-58), 3) := by decide +kernel
theorem dX2_without_97 : decode cX2_without 97 = .ok (.iload_n 2, 1) := by decide +kernel
theorem dX2_without_98 : decode cX2_without 98 = .ok (.ifCond .eq 12, 3) := by decide +kernel
theorem dX2_without_101 : decode cX2_without 101 = .ok (.iload 4, 2) := by decide +kernel
theorem dX2_without_103 : decode cX2_without 103 = .ok (.ifCond .eq 7, 3) := by decide +kernel
theorem dX2_without_106 : decode cX2_without 106 = .ok (.iconst 1, 1) := by decide +kernel
theorem dX2_without_107 : decode cX2_without 107 = .ok (.goto 4, 3) := by decide +kernel
theorem dX2_without_110 : decode cX2_without 110 = .ok (.iconst 0, 1) := by decide +kernel
theorem dX2_without_111 : decode cX2_without 111 = .ok (.istore_n 2, 1) := by decide +kernel
theorem dX2_without_112 : decode cX2_without 112 = .ok (.iinc 3 1, 3) := by decide +kernel
theorem dX2_without_115 : decode cX2_without 115 = .ok (.goto (-111), 3) := by decide +kernel
theorem dX2_without_118 : decode cX2_without 118 = .ok (.iload_n 2, 1) := by decide +kernel
theorem dX2_without_119 : decode cX2_without 119 = .ok (.ireturn, 1) := by decide +kernel
theorem dX2_fail_0 : decode cX2_fail 0 = .ok (.aload_n 0, 1) := by decide +kernel
theorem dX2_fail_1 : decode cX2_fail 1 = .ok (.iload_n 1, 1) := by decide +kernel
theorem dX2_fail_2 : decode cX2_fail 2 = .ok (.invokevirtual 101, 3) := by decide +kernel
theorem dX2_fail_5 : decode cX2_fail 5 = .ok (.istore_n 2, 1) := by decide +kernel
theorem dX2_fail_6 : decode cX2_fail 6 = .ok (.aload_n 0, 1) := by decide +kernel
theorem dX2_fail_7 : decode cX2_fail 7 = .ok (.iload_n 2, 1) := by decide +kernel
theorem dX2_fail_8 : decode cX2_fail 8 = .ok (.iload_n 2, 1) := by decide +kernel
theorem dX2_fail_9 : decode cX2_fail 9 = .ok (.ifCond .eq 28, 3) := by decide +kernel
theorem dX2_fail_12 : decode cX2_fail 12 = .ok (.aload_n 0, 1) := by decide +kernel
theorem dX2_fail_13 : decode cX2_fail 13 = .ok (.invokevirtual 65, 3) := by decide +kernel
theorem dX2_fail_16 : decode cX2_fail 16 = .ok (.iconst 1, 1) := by decide +kernel
theorem dX2_fail_17 : decode cX2_fail 17 = .ok (.isub, 1) := by decide +kernel
theorem dX2_fail_18 : decode cX2_fail 18 = .ok (.aload_n 0, 1) := by decide +kernel
theorem dX2_fail_19 : decode cX2_fail 19 = .ok (.getfield 7, 3) := by decide +kernel
theorem dX2_fail_22 : decode cX2_fail 22 = .ok (.if_icmp .le 15, 3) := by decide +kernel
theorem dX2_fail_25 : decode cX2_fail 25 = .ok (.aload_n 0, 1) := by decide +kernel
theorem dX2_fail_26 : decode cX2_fail 26 = .ok (.iload_n 1, 1) := by decide +kernel
theorem dX2_fail_27 : decode cX2_fail 27 = .ok (.invokevirtual 111, 3) := by decide +kernel
theorem dX2_fail_30 : decode cX2_fail 30 = .ok (.ifCond .eq 7, 3) := by decide +kernel
theorem dX2_fail_33 : decode cX2_fail 33 = .ok (.iconst 1, 1) := by decide +kernel
theorem dX2_fail_34 : decode cX2_fail 34 = .ok (.goto 4, 3) := by decide +kernel
theorem dX2_fail_37 : decode cX2_fail 37 = .ok (.iconst 0, 1) := by decide +kernel
theorem dX2_fail_38 : decode cX2_fail 38 = .ok (.iconst 1, 1) := by decide +kernel
theorem dX2_fail_39 : decode cX2_fail 39 = .ok (.invokevirtual 69, 3) := by decide +kernel
theorem dX2_fail_42 : decode cX2_fail 42 = .ok (.ifCond .ne 5, 3) := by decide +kernel
theorem dX2_fail_45 : decode cX2_fail 45 = .ok (.iconst 0, 1) := by decide +kernel
theorem dX2_fail_46 : decode cX2_fail 46 = .ok (.ireturn, 1) := by decide +kernel
theorem dX2_fail_47 : decode cX2_fail 47 = .ok (.aload_n 0, 1) := by decide +kernel
theorem dX2_fail_48 : decode cX2_fail 48 = .ok (.getfield 13, 3) := by decide +kernel
theorem dX2_fail_51 : decode cX2_fail 51 = .ok (.iload_n 1, 1) := by decide +kernel
theorem dX2_fail_52 : decode cX2_fail 52 = .ok (.iconst 2, 1) := by decide +kernel
theorem dX2_fail_53 : decode cX2_fail 53 = .ok (.iastore, 1) := by decide +kernel
theorem dX2_fail_54 : decode cX2_fail 54 = .ok (.aload_n 0, 1) := by decide +kernel
theorem dX2_fail_55 : decode cX2_fail 55 = .ok (.iload_n 1, 1) := by decide +kernel
theorem dX2_fail_56 : decode cX2_fail 56 = .ok (.invokevirtual 73, 3) := by decide +kernel
theorem dX2_fail_59 : decode cX2_fail 59 = .ok (.aload_n 0, 1) := by decide +kernel
theorem dX2_fail_60 : decode cX2_fail 60 = .ok (.invokevirtual 65, 3) := by decide +kernel
theorem dX2_fail_63 : decode cX2_fail 63 = .ok (.ireturn, 1) := by decide +kernel
theorem dX2_stable_0 : decode cX2_stable 0 = .ok (.aload_n 0, 1) := by decide +kernel
theorem dX2_stable_1 : decode cX2_stable 1 = .ok (.iload_n 1, 1) := by decide +kernel
theorem dX2_stable_2 : decode cX2_stable 2 = .ok (.invokevirtual 91, 3) := by decide +kernel
theorem dX2_stable_5 : decode cX2_stable 5 = .ok (.istore_n 2, 1) := by decide +kernel
theorem dX2_stable_6 : decode cX2_stable 6 = .ok (.aload_n 0, 1) := by decide +kernel
theorem dX2_stable_7 : decode cX2_stable 7 = .ok (.iload_n 1, 1) := by decide +kernel
theorem dX2_stable_8 : decode cX2_stable 8 = .ok (.iload_n 2, 1) := by decide +kernel
theorem dX2_stable_9 : decode cX2_stable 9 = .ok (.invokevirtual 107, 3) := by decide +kernel
theorem dX2_stable_12 : decode cX2_stable 12 = .ok (.aload_n 0, 1) := by decide +kernel
theorem dX2_stable_13 : decode cX2_stable 13 = .ok (.getfield 20, 3) := by decide +kernel
theorem dX2_stable_16 : decode cX2_stable 16 = .ok (.iload_n 2, 1) := by decide +kernel
theorem dX2_stable_17 : decode cX2_stable 17 = .ok (.iaload, 1) := by decide +kernel
theorem dX2_stable_18 : decode cX2_stable 18 = .ok (.istore_n 3, 1) := by decide +kernel
theorem dX2_stable_19 : decode cX2_stable 19 = .ok (.aload_n 0, 1) := by decide +kernel
theorem dX2_stable_20 : decode cX2_stable 20 = .ok (.iload_n 3, 1) := by decide +kernel
theorem dX2_stable_21 : decode cX2_stable 21 = .ok (.invokevirtual 58, 3) := by decide +kernel
theorem dX2_stable_24 : decode cX2_stable 24 = .ok (.ifCond .eq 18, 3) := by decide +kernel
theorem dX2_stable_27 : decode cX2_stable 27 = .ok (.iload_n 3, 1) := by decide +kernel
theorem dX2_stable_28 : decode cX2_stable 28 = .ok (.iload_n 1, 1) := by decide +kernel
theorem dX2_stable_29 : decode cX2_stable 29 = .ok (.iload_n 2, 1) := by decide +kernel
theorem dX2_stable_30 : decode cX2_stable 30 = .ok (.invokestatic 84, 3) := by decide +kernel
theorem dX2_stable_33 : decode cX2_stable 33 = .ok (.ifCond .eq 9, 3) := by decide +kernel
theorem dX2_stable_36 : decode cX2_stable 36 = .ok (.aload_n 0, 1) := by decide +kernel
theorem dX2_stable_37 : decode cX2_stable 37 = .ok (.iload_n 1, 1) := by decide +kernel
theorem dX2_stable_38 : decode cX2_stable 38 = .ok (.iload_n 3, 1) := by decide +kernel
theorem dX2_stable_39 : decode cX2_stable 39 = .ok (.invokevirtual 107, 3) := by decide +kernel
theorem dX2_stable_42 : decode cX2_stable 42 = .ok (.aload_n 0, 1) := by decide +kernel
theorem dX2_stable_43 : decode cX2_stable 43 = .ok (.iload_n 1, 1) := by decide +kernel
theorem dX2_stable_44 : decode cX2_stable 44 = .ok (.invokevirtual 91, 3) := by decide +kernel
theorem dX2_stable_47 : decode cX2_stable 47 = .ok (.istore 4, 2) := by decide +kernel
theorem dX2_stable_49 : decode cX2_stable 49 = .ok (.iload_n 1, 1) := by decide +kernel
theorem dX2_stable_50 : decode cX2_stable 50 = .ok (.iload 4, 2) := by decide +kernel
theorem dX2_stable_52 : decode cX2_stable 52 = .ok (.if_icmp .eq 41, 3) := by decide +kernel
theorem dX2_stable_55 : decode cX2_stable 55 = .ok (.aload_n 0, 1) := by decide +kernel
theorem dX2_stable_56 : decode cX2_stable 56 = .ok (.aload_n 0, 1) := by decide +kernel
theorem dX2_stable_57 : decode cX2_stable 57 = .ok (.getfield 20, 3) := by decide +kernel
theorem dX2_stable_60 : decode cX2_stable 60 = .ok (.iload 4, 2) := by decide +kernel
theorem dX2_stable_62 : decode cX2_stable 62 = .ok (.iaload, 1) := by decide +kernel
theorem dX2_stable_63 : decode cX2_stable 63 = .ok (.invokevirtual 58, 3) := by decide +kernel
theorem dX2_stable_66 : decode cX2_stable 66 = .ok (.ifCond .eq 19, 3) := by decide +kernel
theorem dX2_stable_69 : decode cX2_stable 69 = .ok (.iload_n 1, 1) := by decide +kernel
theorem dX2_stable_70 : decode cX2_stable 70 = .ok (.aload_n 0, 1) := by decide +kernel
theorem dX2_stable_71 : decode cX2_stable 71 = .ok (.getfield 20, 3) := by decide +kernel
theorem dX2_stable_74 : decode cX2_stable 74 = .ok (.iload 4, 2) := by decide +kernel
theorem dX2_stable_76 : decode cX2_stable 76 = .ok (.iaload, 1) := by decide +kernel
theorem dX2_stable_77 : decode cX2_stable 77 = .ok (.iload 4, 2) := by decide +kernel
theorem dX2_stable_79 : decode cX2_stable 79 = .ok (.invokestatic 84, 3) := by decide +kernel
theorem dX2_stable_82 : decode cX2_stable 82 = .ok (.ifCond .eq 11, 3) := by decide +kernel
theorem dX2_stable_85 : decode cX2_stable 85 = .ok (.aload_n 0, 1) := by decide +kernel
theorem dX2_stable_86 : decode cX2_stable 86 = .ok (.getfield 20, 3) := by decide +kernel
theorem dX2_stable_89 : decode cX2_stable 89 = .ok (.iload 4, 2) := by decide +kernel
theorem dX2_stable_91 : decode cX2_stable 91 = .ok (.iload_n 1, 1) := by decide +kernel
theorem dX2_stable_92 : decode cX2_stable 92 = .ok (.iastore, 1) := by decide +kernel
theorem dX2_stable_93 : decode cX2_stable 93 = .ok (.iload 4, 2) := by decide +kernel
theorem dX2_stable_95 : decode cX2_stable 95 = .ok (.ireturn, 1) := by decide +kernel
theorem dX2_stabilise_0 : decode cX2_stabilise 0 = .ok (.aload_n 0, 1) := by decide +kernel
theorem dX2_stabilise_1 : decode cX2_stabilise 1 = .ok (.aload_n 0, 1) := by decide +kernel
theorem dX2_stabilise_2 : decode cX2_stabilise 2 = .ok (.iload_n 1, 1) := by decide +kernel
theorem dX2_stabilise_3 : decode cX2_stabilise 3 = .ok (.invokevirtual 101, 3) := by decide +kernel
theorem dX2_stabilise_6 : decode cX2_stabilise 6 = .ok (.iconst 1, 1) := by decide +kernel
theorem dX2_stabilise_7 : decode cX2_stabilise 7 = .ok (.iconst 1, 1) := by decide +kernel
theorem dX2_stabilise_8 : decode cX2_stabilise 8 = .ok (.invokevirtual 69, 3) := by decide +kernel
theorem dX2_stabilise_11 : decode cX2_stabilise 11 = .ok (.ifCond .eq 11, 3) := by decide +kernel
theorem dX2_stabilise_14 : decode cX2_stabilise 14 = .ok (.aload_n 0, 1) := by decide +kernel
theorem dX2_stabilise_15 : decode cX2_stabilise 15 = .ok (.iload_n 1, 1) := by decide +kernel
theorem dX2_stabilise_16 : decode cX2_stabilise 16 = .ok (.invokevirtual 114, 3) := by decide +kernel
theorem dX2_stabilise_19 : decode cX2_stabilise 19 = .ok (.goto 4, 3) := by decide +kernel
theorem dX2_stabilise_22 : decode cX2_stabilise 22 = .ok (.iconst 0, 1) := by decide +kernel
theorem dX2_stabilise_23 : decode cX2_stabilise 23 = .ok (.ireturn, 1) := by decide +kernel
theorem dX2_mended_0 : decode cX2_mended 0 = .ok (.aload_n 0, 1) := by decide +kernel
theorem dX2_mended_1 : decode cX2_mended 1 = .ok (.getfield 23, 3) := by decide +kernel
theorem dX2_mended_4 : decode cX2_mended 4 = .ok (.bipush 8, 2) := by decide +kernel
theorem dX2_mended_6 : decode cX2_mended 6 = .ok (.iload_n 1, 1) := by decide +kernel
theorem dX2_mended_7 : decode cX2_mended 7 = .ok (.imul, 1) := by decide +kernel
theorem dX2_mended_8 : decode cX2_mended 8 = .ok (.iload_n 2, 1) := by decide +kernel
theorem dX2_mended_9 : decode cX2_mended 9 = .ok (.iadd, 1) := by decide +kernel
theorem dX2_mended_10 : decode cX2_mended 10 = .ok (.aload_n 0, 1) := by decide +kernel
theorem dX2_mended_11 : decode cX2_mended 11 = .ok (.iload_n 1, 1) := by decide +kernel
theorem dX2_mended_12 : decode cX2_mended 12 = .ok (.iload_n 1, 1) := by decide +kernel
theorem dX2_mended_13 : decode cX2_mended 13 = .ok (.iconst 1, 1) := by decide +kernel
theorem dX2_mended_14 : decode cX2_mended 14 = .ok (.iload_n 2, 1) := by decide +kernel
theorem dX2_mended_15 : decode cX2_mended 15 = .ok (.ishl, 1) := by decide +kernel
theorem dX2_mended_16 : decode cX2_mended 16 = .ok (.iadd, 1) := by decide +kernel
theorem dX2_mended_17 : decode cX2_mended 17 = .ok (.sipush 256, 3) := by decide +kernel
theorem dX2_mended_20 : decode cX2_mended 20 = .ok (.irem, 1) := by decide +kernel
theorem dX2_mended_21 : decode cX2_mended 21 = .ok (.invokevirtual 104, 3) := by decide +kernel
theorem dX2_mended_24 : decode cX2_mended 24 = .ok (.iastore, 1) := by decide +kernel
theorem dX2_mended_25 : decode cX2_mended 25 = .ok (.aload_n 0, 1) := by decide +kernel
theorem dX2_mended_26 : decode cX2_mended 26 = .ok (.getfield 23, 3) := by decide +kernel
theorem dX2_mended_29 : decode cX2_mended 29 = .ok (.bipush 8, 2) := by decide +kernel
theorem dX2_mended_31 : decode cX2_mended 31 = .ok (.iload_n 1, 1) := by decide +kernel
theorem dX2_mended_32 : decode cX2_mended 32 = .ok (.imul, 1) := by decide +kernel
theorem dX2_mended_33 : decode cX2_mended 33 = .ok (.iload_n 2, 1) := by decide +kernel
theorem dX2_mended_34 : decode cX2_mended 34 = .ok (.iadd, 1) := by decide +kernel
theorem dX2_mended_35 : decode cX2_mended 35 = .ok (.iaload, 1) := by decide +kernel
theorem dX2_mended_36 : decode cX2_mended 36 = .ok (.ireturn, 1) := by decide +kernel
theorem dX2_mend_0 : decode cX2_mend 0 = .ok (.aload_n 0, 1) := by decide +kernel
theorem dX2_mend_1 : decode cX2_mend 1 = .ok (.aload_n 0, 1) := by decide +kernel
theorem dX2_mend_2 : decode cX2_mend 2 = .ok (.iload_n 1, 1) := by decide +kernel
theorem dX2_mend_3 : decode cX2_mend 3 = .ok (.invokevirtual 101, 3) := by decide +kernel
theorem dX2_mend_6 : decode cX2_mend 6 = .ok (.ifCond .eq 17, 3) := by decide +kernel
theorem dX2_mend_9 : decode cX2_mend 9 = .ok (.iload_n 2, 1) := by decide +kernel
theorem dX2_mend_10 : decode cX2_mend 10 = .ok (.ifCond .lt 13, 3) := by decide +kernel
theorem dX2_mend_13 : decode cX2_mend 13 = .ok (.iload_n 2, 1) := by decide +kernel
theorem dX2_mend_14 : decode cX2_mend 14 = .ok (.bipush 8, 2) := by decide +kernel
theorem dX2_mend_16 : decode cX2_mend 16 = .ok (.if_icmp .ge 7, 3) := by decide +kernel
theorem dX2_mend_19 : decode cX2_mend 19 = .ok (.iconst 1, 1) := by decide +kernel
theorem dX2_mend_20 : decode cX2_mend 20 = .ok (.goto 4, 3) := by decide +kernel
theorem dX2_mend_23 : decode cX2_mend 23 = .ok (.iconst 0, 1) := by decide +kernel
theorem dX2_mend_24 : decode cX2_mend 24 = .ok (.iconst 1, 1) := by decide +kernel
theorem dX2_mend_25 : decode cX2_mend 25 = .ok (.iconst 1, 1) := by decide +kernel
theorem dX2_mend_26 : decode cX2_mend 26 = .ok (.invokevirtual 69, 3) := by decide +kernel
theorem dX2_mend_29 : decode cX2_mend 29 = .ok (.ifCond .eq 12, 3) := by decide +kernel
theorem dX2_mend_32 : decode cX2_mend 32 = .ok (.aload_n 0, 1) := by decide +kernel
theorem dX2_mend_33 : decode cX2_mend 33 = .ok (.iload_n 1, 1) := by decide +kernel
theorem dX2_mend_34 : decode cX2_mend 34 = .ok (.iload_n 2, 1) := by decide +kernel
theorem dX2_mend_35 : decode cX2_mend 35 = .ok (.invokevirtual 117, 3) := by decide +kernel
theorem dX2_mend_38 : decode cX2_mend 38 = .ok (.goto 4, 3) := by decide +kernel
theorem dX2_mend_41 : decode cX2_mend 41 = .ok (.iconst 0, 1) := by decide +kernel
theorem dX2_mend_42 : decode cX2_mend 42 = .ok (.ireturn, 1) := by decide +kernel
theorem dX2_higher_0 : decode cX2_higher 0 = .ok (.aload_n 0, 1) := by decide +kernel
theorem dX2_higher_1 : decode cX2_higher 1 = .ok (.getfield 29, 3) := by decide +kernel
theorem dX2_higher_4 : decode cX2_higher 4 = .ok (.iload_n 1, 1) := by decide +kernel
theorem dX2_higher_5 : decode cX2_higher 5 = .ok (.iaload, 1) := by decide +kernel
theorem dX2_higher_6 : decode cX2_higher 6 = .ok (.aload_n 0, 1) := by decide +kernel
theorem dX2_higher_7 : decode cX2_higher 7 = .ok (.getfield 29, 3) := by decide +kernel
theorem dX2_higher_10 : decode cX2_higher 10 = .ok (.iload_n 2, 1) := by decide +kernel
theorem dX2_higher_11 : decode cX2_higher 11 = .ok (.iaload, 1) := by decide +kernel
theorem dX2_higher_12 : decode cX2_higher 12 = .ok (.if_icmp .gt 42, 3) := by decide +kernel
theorem dX2_higher_15 : decode cX2_higher 15 = .ok (.aload_n 0, 1) := by decide +kernel
theorem dX2_higher_16 : decode cX2_higher 16 = .ok (.getfield 29, 3) := by decide +kernel
theorem dX2_higher_19 : decode cX2_higher 19 = .ok (.iload_n 1, 1) := by decide +kernel
theorem dX2_higher_20 : decode cX2_higher 20 = .ok (.iaload, 1) := by decide +kernel
theorem dX2_higher_21 : decode cX2_higher 21 = .ok (.aload_n 0, 1) := by decide +kernel
theorem dX2_higher_22 : decode cX2_higher 22 = .ok (.getfield 29, 3) := by decide +kernel
theorem dX2_higher_25 : decode cX2_higher 25 = .ok (.iload_n 2, 1) := by decide +kernel
theorem dX2_higher_26 : decode cX2_higher 26 = .ok (.iaload, 1) := by decide +kernel
theorem dX2_higher_27 : decode cX2_higher 27 = .ok (.if_icmp .ne 31, 3) := by decide +kernel
theorem dX2_higher_30 : decode cX2_higher 30 = .ok (.aload_n 0, 1) := by decide +kernel
theorem dX2_higher_31 : decode cX2_higher 31 = .ok (.getfield 29, 3) := by decide +kernel
theorem dX2_higher_34 : decode cX2_higher 34 = .ok (.iload_n 1, 1) := by decide +kernel
theorem dX2_higher_35 : decode cX2_higher 35 = .ok (.iaload, 1) := by decide +kernel
theorem dX2_higher_36 : decode cX2_higher 36 = .ok (.ifCond .le 22, 3) := by decide +kernel
theorem dX2_higher_39 : decode cX2_higher 39 = .ok (.aload_n 0, 1) := by decide +kernel
theorem dX2_higher_40 : decode cX2_higher 40 = .ok (.getfield 32, 3) := by decide +kernel
theorem dX2_higher_43 : decode cX2_higher 43 = .ok (.iload_n 1, 1) := by decide +kernel
theorem dX2_higher_44 : decode cX2_higher 44 = .ok (.iaload, 1) := by decide +kernel
theorem dX2_higher_45 : decode cX2_higher 45 = .ok (.aload_n 0, 1) := by decide +kernel
theorem dX2_higher_46 : decode cX2_higher 46 = .ok (.getfield 32, 3) := by decide +kernel
theorem dX2_higher_49 : decode cX2_higher 49 = .ok (.iload_n 2, 1) := by decide +kernel
theorem dX2_higher_50 : decode cX2_higher 50 = .ok (.iaload, 1) := by decide +kernel
theorem dX2_higher_51 : decode cX2_higher 51 = .ok (.if_icmp .le 7, 3) := by decide +kernel
theorem dX2_higher_54 : decode cX2_higher 54 = .ok (.iconst 1, 1) := by decide +kernel
theorem dX2_higher_55 : decode cX2_higher 55 = .ok (.goto 4, 3) := by decide +kernel
theorem dX2_higher_58 : decode cX2_higher 58 = .ok (.iconst 0, 1) := by decide +kernel
theorem dX2_higher_59 : decode cX2_higher 59 = .ok (.ireturn, 1) := by decide +kernel
theorem dX2_copy_0 : decode cX2_copy 0 = .ok (.aload_n 0, 1) := by decide +kernel
theorem dX2_copy_1 : decode cX2_copy 1 = .ok (.getfield 29, 3) := by decide +kernel
theorem dX2_copy_4 : decode cX2_copy 4 = .ok (.iload_n 2, 1) := by decide +kernel
theorem dX2_copy_5 : decode cX2_copy 5 = .ok (.aload_n 0, 1) := by decide +kernel
theorem dX2_copy_6 : decode cX2_copy 6 = .ok (.getfield 29, 3) := by decide +kernel
theorem dX2_copy_9 : decode cX2_copy 9 = .ok (.iload_n 1, 1) := by decide +kernel
theorem dX2_copy_10 : decode cX2_copy 10 = .ok (.iaload, 1) := by decide +kernel
theorem dX2_copy_11 : decode cX2_copy 11 = .ok (.iastore, 1) := by decide +kernel
theorem dX2_copy_12 : decode cX2_copy 12 = .ok (.aload_n 0, 1) := by decide +kernel
theorem dX2_copy_13 : decode cX2_copy 13 = .ok (.getfield 32, 3) := by decide +kernel
theorem dX2_copy_16 : decode cX2_copy 16 = .ok (.iload_n 2, 1) := by decide +kernel
theorem dX2_copy_17 : decode cX2_copy 17 = .ok (.aload_n 0, 1) := by decide +kernel
theorem dX2_copy_18 : decode cX2_copy 18 = .ok (.getfield 32, 3) := by decide +kernel
theorem dX2_copy_21 : decode cX2_copy 21 = .ok (.iload_n 1, 1) := by decide +kernel
theorem dX2_copy_22 : decode cX2_copy 22 = .ok (.iaload, 1) := by decide +kernel
theorem dX2_copy_23 : decode cX2_copy 23 = .ok (.iastore, 1) := by decide +kernel
theorem dX2_copy_24 : decode cX2_copy 24 = .ok (.aload_n 0, 1) := by decide +kernel
theorem dX2_copy_25 : decode cX2_copy 25 = .ok (.getfield 35, 3) := by decide +kernel
theorem dX2_copy_28 : decode cX2_copy 28 = .ok (.iload_n 2, 1) := by decide +kernel
theorem dX2_copy_29 : decode cX2_copy 29 = .ok (.aload_n 0, 1) := by decide +kernel
theorem dX2_copy_30 : decode cX2_copy 30 = .ok (.getfield 35, 3) := by decide +kernel
theorem dX2_copy_33 : decode cX2_copy 33 = .ok (.iload_n 1, 1) := by decide +kernel
theorem dX2_copy_34 : decode cX2_copy 34 = .ok (.iaload, 1) := by decide +kernel
theorem dX2_copy_35 : decode cX2_copy 35 = .ok (.iastore, 1) := by decide +kernel
theorem dX2_copy_36 : decode cX2_copy 36 = .ok (.return_, 1) := by decide +kernel
theorem dX2_belongs_0 : decode cX2_belongs 0 = .ok (.iload_n 1, 1) := by decide +kernel
theorem dX2_belongs_1 : decode cX2_belongs 1 = .ok (.invokestatic 120, 3) := by decide +kernel
theorem dX2_belongs_4 : decode cX2_belongs 4 = .ok (.iload_n 2, 1) := by decide +kernel
theorem dX2_belongs_5 : decode cX2_belongs 5 = .ok (.if_icmp .eq 20, 3) := by decide +kernel
theorem dX2_belongs_8 : decode cX2_belongs 8 = .ok (.iload_n 1, 1) := by decide +kernel
theorem dX2_belongs_9 : decode cX2_belongs 9 = .ok (.invokestatic 120, 3) := by decide +kernel
theorem dX2_belongs_12 : decode cX2_belongs 12 = .ok (.aload_n 0, 1) := by decide +kernel
theorem dX2_belongs_13 : decode cX2_belongs 13 = .ok (.getfield 20, 3) := by decide +kernel
theorem dX2_belongs_16 : decode cX2_belongs 16 = .ok (.iload_n 2, 1) := by decide +kernel
theorem dX2_belongs_17 : decode cX2_belongs 17 = .ok (.iaload, 1) := by decide +kernel
theorem dX2_belongs_18 : decode cX2_belongs 18 = .ok (.iload_n 2, 1) := by decide +kernel
theorem dX2_belongs_19 : decode cX2_belongs 19 = .ok (.invokestatic 84, 3) := by decide +kernel
theorem dX2_belongs_22 : decode cX2_belongs 22 = .ok (.ifCond .eq 7, 3) := by decide +kernel
theorem dX2_belongs_25 : decode cX2_belongs 25 = .ok (.iconst 1, 1) := by decide +kernel
theorem dX2_belongs_26 : decode cX2_belongs 26 = .ok (.goto 4, 3) := by decide +kernel
theorem dX2_belongs_29 : decode cX2_belongs 29 = .ok (.iconst 0, 1) := by decide +kernel
theorem dX2_belongs_30 : decode cX2_belongs 30 = .ok (.ireturn, 1) := by decide +kernel
theorem dX2_handed_0 : decode cX2_handed 0 = .ok (.aload_n 0, 1) := by decide +kernel
theorem dX2_handed_1 : decode cX2_handed 1 = .ok (.iload_n 1, 1) := by decide +kernel
theorem dX2_handed_2 : decode cX2_handed 2 = .ok (.invokevirtual 91, 3) := by decide +kernel
theorem dX2_handed_5 : decode cX2_handed 5 = .ok (.istore_n 2, 1) := by decide +kernel
theorem dX2_handed_6 : decode cX2_handed 6 = .ok (.iconst 0, 1) := by decide +kernel
theorem dX2_handed_7 : decode cX2_handed 7 = .ok (.istore_n 3, 1) := by decide +kernel
theorem dX2_handed_8 : decode cX2_handed 8 = .ok (.iconst 0, 1) := by decide +kernel
theorem dX2_handed_9 : decode cX2_handed 9 = .ok (.istore 4, 2) := by decide +kernel
theorem dX2_handed_11 : decode cX2_handed 11 = .ok (.iload 4, 2) := by decide +kernel
theorem dX2_handed_13 : decode cX2_handed 13 = .ok (.bipush 64, 2) := by decide +kernel
theorem dX2_handed_15 : decode cX2_handed 15 = .ok (.if_icmp .ge 79, 3) := by decide +kernel
theorem dX2_handed_18 : decode cX2_handed 18 = .ok (.aload_n 0, 1) := by decide +kernel
theorem dX2_handed_19 : decode cX2_handed 19 = .ok (.aload_n 0, 1) := by decide +kernel
theorem dX2_handed_20 : decode cX2_handed 20 = .ok (.getfield 20, 3) := by decide +kernel
theorem dX2_handed_23 : decode cX2_handed 23 = .ok (.iload_n 1, 1) := by decide +kernel
theorem dX2_handed_24 : decode cX2_handed 24 = .ok (.iaload, 1) := by decide +kernel
theorem dX2_handed_25 : decode cX2_handed 25 = .ok (.invokevirtual 58, 3) := by decide +kernel
theorem dX2_handed_28 : decode cX2_handed 28 = .ok (.ifCond .eq 66, 3) := by decide +kernel
theorem dX2_handed_31 : decode cX2_handed 31 = .ok (.iload_n 2, 1) := by decide +kernel
theorem dX2_handed_32 : decode cX2_handed 32 = .ok (.iload_n 1, 1) := by decide +kernel
theorem dX2_handed_33 : decode cX2_handed 33 = .ok (.if_icmp .eq 61, 3) := by decide +kernel
theorem dX2_handed_36 : decode cX2_handed 36 = .ok (.aload_n 0, 1) := by decide +kernel
theorem dX2_handed_37 : decode cX2_handed 37 = .ok (.iload 4, 2) := by decide +kernel
theorem dX2_handed_39 : decode cX2_handed 39 = .ok (.iload_n 1, 1) := by decide +kernel
theorem dX2_handed_40 : decode cX2_handed 40 = .ok (.invokevirtual 123, 3) := by decide +kernel
theorem dX2_handed_43 : decode cX2_handed 43 = .ok (.ifCond .eq 45, 3) := by decide +kernel
theorem dX2_handed_46 : decode cX2_handed 46 = .ok (.aload_n 0, 1) := by decide +kernel
theorem dX2_handed_47 : decode cX2_handed 47 = .ok (.bipush 64, 2) := by decide +kernel
theorem dX2_handed_49 : decode cX2_handed 49 = .ok (.iload_n 2, 1) := by decide +kernel
theorem dX2_handed_50 : decode cX2_handed 50 = .ok (.imul, 1) := by decide +kernel
theorem dX2_handed_51 : decode cX2_handed 51 = .ok (.iload 4, 2) := by decide +kernel
theorem dX2_handed_53 : decode cX2_handed 53 = .ok (.iadd, 1) := by decide +kernel
theorem dX2_handed_54 : decode cX2_handed 54 = .ok (.bipush 64, 2) := by decide +kernel
theorem dX2_handed_56 : decode cX2_handed 56 = .ok (.iload_n 1, 1) := by decide +kernel
theorem dX2_handed_57 : decode cX2_handed 57 = .ok (.imul, 1) := by decide +kernel
theorem dX2_handed_58 : decode cX2_handed 58 = .ok (.iload 4, 2) := by decide +kernel
theorem dX2_handed_60 : decode cX2_handed 60 = .ok (.iadd, 1) := by decide +kernel
theorem dX2_handed_61 : decode cX2_handed 61 = .ok (.invokevirtual 127, 3) := by decide +kernel
theorem dX2_handed_64 : decode cX2_handed 64 = .ok (.ifCond .eq 24, 3) := by decide +kernel
theorem dX2_handed_67 : decode cX2_handed 67 = .ok (.aload_n 0, 1) := by decide +kernel
theorem dX2_handed_68 : decode cX2_handed 68 = .ok (.bipush 64, 2) := by decide +kernel
theorem dX2_handed_70 : decode cX2_handed 70 = .ok (.iload_n 2, 1) := by decide +kernel
theorem dX2_handed_71 : decode cX2_handed 71 = .ok (.imul, 1) := by decide +kernel
theorem dX2_handed_72 : decode cX2_handed 72 = .ok (.iload 4, 2) := by decide +kernel
theorem dX2_handed_74 : decode cX2_handed 74 = .ok (.iadd, 1) := by decide +kernel
theorem dX2_handed_75 : decode cX2_handed 75 = .ok (.bipush 64, 2) := by decide +kernel
theorem dX2_handed_77 : decode cX2_handed 77 = .ok (.iload_n 1, 1) := by decide +kernel
theorem dX2_handed_78 : decode cX2_handed 78 = .ok (.imul, 1) := by decide +kernel
theorem dX2_handed_79 : decode cX2_handed 79 = .ok (.iload 4, 2) := by decide +kernel
theorem dX2_handed_81 : decode cX2_handed 81 = .ok (.iadd, 1) := by decide +kernel
theorem dX2_handed_82 : decode cX2_handed 82 = .ok (.invokevirtual 130, 3) := by decide +kernel
theorem dX2_handed_85 : decode cX2_handed 85 = .ok (.iinc 3 1, 3) := by decide +kernel
theorem dX2_handed_88 : decode cX2_handed 88 = .ok (.iinc 4 1, 3) := by decide +kernel
theorem dX2_handed_91 : decode cX2_handed 91 = .ok (.goto (-80), 3) := by decide +kernel
theorem dX2_handed_94 : decode cX2_handed 94 = .ok (.iload_n 3, 1) := by decide +kernel
theorem dX2_handed_95 : decode cX2_handed 95 = .ok (.ireturn, 1) := by decide +kernel
theorem dX2_handOver_0 : decode cX2_handOver 0 = .ok (.aload_n 0, 1) := by decide +kernel
theorem dX2_handOver_1 : decode cX2_handOver 1 = .ok (.aload_n 0, 1) := by decide +kernel
theorem dX2_handOver_2 : decode cX2_handOver 2 = .ok (.iload_n 1, 1) := by decide +kernel
theorem dX2_handOver_3 : decode cX2_handOver 3 = .ok (.invokevirtual 101, 3) := by decide +kernel
theorem dX2_handOver_6 : decode cX2_handOver 6 = .ok (.iconst 1, 1) := by decide +kernel
theorem dX2_handOver_7 : decode cX2_handOver 7 = .ok (.iconst 1, 1) := by decide +kernel
theorem dX2_handOver_8 : decode cX2_handOver 8 = .ok (.invokevirtual 69, 3) := by decide +kernel
theorem dX2_handOver_11 : decode cX2_handOver 11 = .ok (.ifCond .eq 11, 3) := by decide +kernel
theorem dX2_handOver_14 : decode cX2_handOver 14 = .ok (.aload_n 0, 1) := by decide +kernel
theorem dX2_handOver_15 : decode cX2_handOver 15 = .ok (.iload_n 1, 1) := by decide +kernel
theorem dX2_handOver_16 : decode cX2_handOver 16 = .ok (.invokevirtual 133, 3) := by decide +kernel
theorem dX2_handOver_19 : decode cX2_handOver 19 = .ok (.goto 4, 3) := by decide +kernel
theorem dX2_handOver_22 : decode cX2_handOver 22 = .ok (.iconst 0, 1) := by decide +kernel
theorem dX2_handOver_23 : decode cX2_handOver 23 = .ok (.ireturn, 1) := by decide +kernel
theorem dX2_give_0 : decode cX2_give 0 = .ok (.iconst 0, 1) := by decide +kernel
theorem dX2_give_1 : decode cX2_give 1 = .ok (.istore_n 3, 1) := by decide +kernel
theorem dX2_give_2 : decode cX2_give 2 = .ok (.iconst 0, 1) := by decide +kernel
theorem dX2_give_3 : decode cX2_give 3 = .ok (.istore 4, 2) := by decide +kernel
theorem dX2_give_5 : decode cX2_give 5 = .ok (.iload 4, 2) := by decide +kernel
theorem dX2_give_7 : decode cX2_give 7 = .ok (.aload_n 0, 1) := by decide +kernel
theorem dX2_give_8 : decode cX2_give 8 = .ok (.getfield 7, 3) := by decide +kernel
theorem dX2_give_11 : decode cX2_give 11 = .ok (.if_icmp .ge 77, 3) := by decide +kernel
theorem dX2_give_14 : decode cX2_give 14 = .ok (.aload_n 0, 1) := by decide +kernel
theorem dX2_give_15 : decode cX2_give 15 = .ok (.getfield 17, 3) := by decide +kernel
theorem dX2_give_18 : decode cX2_give 18 = .ok (.iconst 4, 1) := by decide +kernel
theorem dX2_give_19 : decode cX2_give 19 = .ok (.iload_n 1, 1) := by decide +kernel
theorem dX2_give_20 : decode cX2_give 20 = .ok (.imul, 1) := by decide +kernel
theorem dX2_give_21 : decode cX2_give 21 = .ok (.iload 4, 2) := by decide +kernel
theorem dX2_give_23 : decode cX2_give 23 = .ok (.iadd, 1) := by decide +kernel
theorem dX2_give_24 : decode cX2_give 24 = .ok (.iaload, 1) := by decide +kernel
theorem dX2_give_25 : decode cX2_give 25 = .ok (.istore 5, 2) := by decide +kernel
theorem dX2_give_27 : decode cX2_give 27 = .ok (.aload_n 0, 1) := by decide +kernel
theorem dX2_give_28 : decode cX2_give 28 = .ok (.iload 5, 2) := by decide +kernel
theorem dX2_give_30 : decode cX2_give 30 = .ok (.invokevirtual 58, 3) := by decide +kernel
theorem dX2_give_33 : decode cX2_give 33 = .ok (.ifCond .eq 49, 3) := by decide +kernel
theorem dX2_give_36 : decode cX2_give 36 = .ok (.iload 5, 2) := by decide +kernel
theorem dX2_give_38 : decode cX2_give 38 = .ok (.iload_n 1, 1) := by decide +kernel
theorem dX2_give_39 : decode cX2_give 39 = .ok (.if_icmp .eq 43, 3) := by decide +kernel
theorem dX2_give_42 : decode cX2_give 42 = .ok (.aload_n 0, 1) := by decide +kernel
theorem dX2_give_43 : decode cX2_give 43 = .ok (.bipush 64, 2) := by decide +kernel
theorem dX2_give_45 : decode cX2_give 45 = .ok (.iload_n 1, 1) := by decide +kernel
theorem dX2_give_46 : decode cX2_give 46 = .ok (.imul, 1) := by decide +kernel
theorem dX2_give_47 : decode cX2_give 47 = .ok (.iload_n 2, 1) := by decide +kernel
theorem dX2_give_48 : decode cX2_give 48 = .ok (.iadd, 1) := by decide +kernel
theorem dX2_give_49 : decode cX2_give 49 = .ok (.bipush 64, 2) := by decide +kernel
theorem dX2_give_51 : decode cX2_give 51 = .ok (.iload 5, 2) := by decide +kernel
theorem dX2_give_53 : decode cX2_give 53 = .ok (.imul, 1) := by decide +kernel
theorem dX2_give_54 : decode cX2_give 54 = .ok (.iload_n 2, 1) := by decide +kernel
theorem dX2_give_55 : decode cX2_give 55 = .ok (.iadd, 1) := by decide +kernel
theorem dX2_give_56 : decode cX2_give 56 = .ok (.invokevirtual 127, 3) := by decide +kernel
theorem dX2_give_59 : decode cX2_give 59 = .ok (.ifCond .eq 23, 3) := by decide +kernel
theorem dX2_give_62 : decode cX2_give 62 = .ok (.aload_n 0, 1) := by decide +kernel
theorem dX2_give_63 : decode cX2_give 63 = .ok (.bipush 64, 2) := by decide +kernel
theorem dX2_give_65 : decode cX2_give 65 = .ok (.iload_n 1, 1) := by decide +kernel
theorem dX2_give_66 : decode cX2_give 66 = .ok (.imul, 1) := by decide +kernel
theorem dX2_give_67 : decode cX2_give 67 = .ok (.iload_n 2, 1) := by decide +kernel
theorem dX2_give_68 : decode cX2_give 68 = .ok (.iadd, 1) := by decide +kernel
theorem dX2_give_69 : decode cX2_give 69 = .ok (.bipush 64, 2) := by decide +kernel
theorem dX2_give_71 : decode cX2_give 71 = .ok (.iload 5, 2) := by decide +kernel
theorem dX2_give_73 : decode cX2_give 73 = .ok (.imul, 1) := by decide +kernel
theorem dX2_give_74 : decode cX2_give 74 = .ok (.iload_n 2, 1) := by decide +kernel
theorem dX2_give_75 : decode cX2_give 75 = .ok (.iadd, 1) := by decide +kernel
theorem dX2_give_76 : decode cX2_give 76 = .ok (.invokevirtual 130, 3) := by decide +kernel
theorem dX2_give_79 : decode cX2_give 79 = .ok (.iinc 3 1, 3) := by decide +kernel
theorem dX2_give_82 : decode cX2_give 82 = .ok (.iinc 4 1, 3) := by decide +kernel
theorem dX2_give_85 : decode cX2_give 85 = .ok (.goto (-80), 3) := by decide +kernel
theorem dX2_give_88 : decode cX2_give 88 = .ok (.iload_n 3, 1) := by decide +kernel
theorem dX2_give_89 : decode cX2_give 89 = .ok (.ireturn, 1) := by decide +kernel
theorem dX2_spreadFrom_0 : decode cX2_spreadFrom 0 = .ok (.iconst 0, 1) := by decide +kernel
theorem dX2_spreadFrom_1 : decode cX2_spreadFrom 1 = .ok (.istore_n 2, 1) := by decide +kernel
theorem dX2_spreadFrom_2 : decode cX2_spreadFrom 2 = .ok (.iconst 0, 1) := by decide +kernel
theorem dX2_spreadFrom_3 : decode cX2_spreadFrom 3 = .ok (.istore_n 3, 1) := by decide +kernel
theorem dX2_spreadFrom_4 : decode cX2_spreadFrom 4 = .ok (.iload_n 3, 1) := by decide +kernel
theorem dX2_spreadFrom_5 : decode cX2_spreadFrom 5 = .ok (.bipush 64, 2) := by decide +kernel
theorem dX2_spreadFrom_7 : decode cX2_spreadFrom 7 = .ok (.if_icmp .ge 58, 3) := by decide +kernel
theorem dX2_spreadFrom_10 : decode cX2_spreadFrom 10 = .ok (.aload_n 0, 1) := by decide +kernel
theorem dX2_spreadFrom_11 : decode cX2_spreadFrom 11 = .ok (.aload_n 0, 1) := by decide +kernel
theorem dX2_spreadFrom_12 : decode cX2_spreadFrom 12 = .ok (.getfield 20, 3) := by decide +kernel
theorem dX2_spreadFrom_15 : decode cX2_spreadFrom 15 = .ok (.iload_n 1, 1) := by decide +kernel
theorem dX2_spreadFrom_16 : decode cX2_spreadFrom 16 = .ok (.iaload, 1) := by decide +kernel
theorem dX2_spreadFrom_17 : decode cX2_spreadFrom 17 = .ok (.invokevirtual 58, 3) := by decide +kernel
theorem dX2_spreadFrom_20 : decode cX2_spreadFrom 20 = .ok (.ifCond .eq 45, 3) := by decide +kernel
theorem dX2_spreadFrom_23 : decode cX2_spreadFrom 23 = .ok (.aload_n 0, 1) := by decide +kernel
theorem dX2_spreadFrom_24 : decode cX2_spreadFrom 24 = .ok (.getfield 29, 3) := by decide +kernel
theorem dX2_spreadFrom_27 : decode cX2_spreadFrom 27 = .ok (.bipush 64, 2) := by decide +kernel
theorem dX2_spreadFrom_29 : decode cX2_spreadFrom 29 = .ok (.iload_n 1, 1) := by decide +kernel
theorem dX2_spreadFrom_30 : decode cX2_spreadFrom 30 = .ok (.imul, 1) := by decide +kernel
theorem dX2_spreadFrom_31 : decode cX2_spreadFrom 31 = .ok (.iload_n 3, 1) := by decide +kernel
theorem dX2_spreadFrom_32 : decode cX2_spreadFrom 32 = .ok (.iadd, 1) := by decide +kernel
theorem dX2_spreadFrom_33 : decode cX2_spreadFrom 33 = .ok (.iaload, 1) := by decide +kernel
theorem dX2_spreadFrom_34 : decode cX2_spreadFrom 34 = .ok (.ifCond .le 23, 3) := by decide +kernel
theorem dX2_spreadFrom_37 : decode cX2_spreadFrom 37 = .ok (.aload_n 0, 1) := by decide +kernel
theorem dX2_spreadFrom_38 : decode cX2_spreadFrom 38 = .ok (.iload_n 3, 1) := by decide +kernel
theorem dX2_spreadFrom_39 : decode cX2_spreadFrom 39 = .ok (.iload_n 1, 1) := by decide +kernel
theorem dX2_spreadFrom_40 : decode cX2_spreadFrom 40 = .ok (.invokevirtual 123, 3) := by decide +kernel
theorem dX2_spreadFrom_43 : decode cX2_spreadFrom 43 = .ok (.ifCond .eq 14, 3) := by decide +kernel
theorem dX2_spreadFrom_46 : decode cX2_spreadFrom 46 = .ok (.iload_n 2, 1) := by decide +kernel
theorem dX2_spreadFrom_47 : decode cX2_spreadFrom 47 = .ok (.aload_n 0, 1) := by decide +kernel
theorem dX2_spreadFrom_48 : decode cX2_spreadFrom 48 = .ok (.iload_n 1, 1) := by decide +kernel
theorem dX2_spreadFrom_49 : decode cX2_spreadFrom 49 = .ok (.iload_n 3, 1) := by decide +kernel
theorem dX2_spreadFrom_50 : decode cX2_spreadFrom 50 = .ok (.invokevirtual 136, 3) := by decide +kernel
theorem dX2_spreadFrom_53 : decode cX2_spreadFrom 53 = .ok (.iadd, 1) := by decide +kernel
theorem dX2_spreadFrom_54 : decode cX2_spreadFrom 54 = .ok (.goto 4, 3) := by decide +kernel
theorem dX2_spreadFrom_57 : decode cX2_spreadFrom 57 = .ok (.iload_n 2, 1) := by decide +kernel
theorem dX2_spreadFrom_58 : decode cX2_spreadFrom 58 = .ok (.istore_n 2, 1) := by decide +kernel
theorem dX2_spreadFrom_59 : decode cX2_spreadFrom 59 = .ok (.iinc 3 1, 3) := by decide +kernel
theorem dX2_spreadFrom_62 : decode cX2_spreadFrom 62 = .ok (.goto (-58), 3) := by decide +kernel
theorem dX2_spreadFrom_65 : decode cX2_spreadFrom 65 = .ok (.iload_n 2, 1) := by decide +kernel
theorem dX2_spreadFrom_66 : decode cX2_spreadFrom 66 = .ok (.ireturn, 1) := by decide +kernel
theorem dX2_spread_0 : decode cX2_spread 0 = .ok (.aload_n 0, 1) := by decide +kernel
theorem dX2_spread_1 : decode cX2_spread 1 = .ok (.aload_n 0, 1) := by decide +kernel
theorem dX2_spread_2 : decode cX2_spread 2 = .ok (.iload_n 1, 1) := by decide +kernel
theorem dX2_spread_3 : decode cX2_spread 3 = .ok (.invokevirtual 101, 3) := by decide +kernel
theorem dX2_spread_6 : decode cX2_spread 6 = .ok (.iconst 1, 1) := by decide +kernel
theorem dX2_spread_7 : decode cX2_spread 7 = .ok (.iconst 1, 1) := by decide +kernel
theorem dX2_spread_8 : decode cX2_spread 8 = .ok (.invokevirtual 69, 3) := by decide +kernel
theorem dX2_spread_11 : decode cX2_spread 11 = .ok (.ifCond .eq 11, 3) := by decide +kernel
theorem dX2_spread_14 : decode cX2_spread 14 = .ok (.aload_n 0, 1) := by decide +kernel
theorem dX2_spread_15 : decode cX2_spread 15 = .ok (.iload_n 1, 1) := by decide +kernel
theorem dX2_spread_16 : decode cX2_spread 16 = .ok (.invokevirtual 139, 3) := by decide +kernel
theorem dX2_spread_19 : decode cX2_spread 19 = .ok (.goto 4, 3) := by decide +kernel
theorem dX2_spread_22 : decode cX2_spread 22 = .ok (.iconst 0, 1) := by decide +kernel
theorem dX2_spread_23 : decode cX2_spread 23 = .ok (.ireturn, 1) := by decide +kernel
theorem dX2_rounds_0 : decode cX2_rounds 0 = .ok (.aload_n 0, 1) := by decide +kernel
theorem dX2_rounds_1 : decode cX2_rounds 1 = .ok (.iload_n 1, 1) := by decide +kernel
theorem dX2_rounds_2 : decode cX2_rounds 2 = .ok (.ifCond .lt 13, 3) := by decide +kernel
theorem dX2_rounds_5 : decode cX2_rounds 5 = .ok (.iload_n 1, 1) := by decide +kernel
theorem dX2_rounds_6 : decode cX2_rounds 6 = .ok (.bipush 40, 2) := by decide +kernel
theorem dX2_rounds_8 : decode cX2_rounds 8 = .ok (.if_icmp .gt 7, 3) := by decide +kernel
theorem dX2_rounds_11 : decode cX2_rounds 11 = .ok (.iconst 1, 1) := by decide +kernel
theorem dX2_rounds_12 : decode cX2_rounds 12 = .ok (.goto 4, 3) := by decide +kernel
theorem dX2_rounds_15 : decode cX2_rounds 15 = .ok (.iconst 0, 1) := by decide +kernel
theorem dX2_rounds_16 : decode cX2_rounds 16 = .ok (.aload_n 0, 1) := by decide +kernel
theorem dX2_rounds_17 : decode cX2_rounds 17 = .ok (.getfield 54, 3) := by decide +kernel
theorem dX2_rounds_20 : decode cX2_rounds 20 = .ok (.iconst 1, 1) := by decide +kernel
theorem dX2_rounds_21 : decode cX2_rounds 21 = .ok (.invokevirtual 69, 3) := by decide +kernel
theorem dX2_rounds_24 : decode cX2_rounds 24 = .ok (.ifCond .ne 5, 3) := by decide +kernel
theorem dX2_rounds_27 : decode cX2_rounds 27 = .ok (.iconst 0, 1) := by decide +kernel
theorem dX2_rounds_28 : decode cX2_rounds 28 = .ok (.ireturn, 1) := by decide +kernel
theorem dX2_rounds_29 : decode cX2_rounds 29 = .ok (.iconst 0, 1) := by decide +kernel
theorem dX2_rounds_30 : decode cX2_rounds 30 = .ok (.istore_n 2, 1) := by decide +kernel
theorem dX2_rounds_31 : decode cX2_rounds 31 = .ok (.iconst 0, 1) := by decide +kernel
theorem dX2_rounds_32 : decode cX2_rounds 32 = .ok (.istore_n 3, 1) := by decide +kernel
theorem dX2_rounds_33 : decode cX2_rounds 33 = .ok (.iload_n 3, 1) := by decide +kernel
theorem dX2_rounds_34 : decode cX2_rounds 34 = .ok (.iload_n 1, 1) := by decide +kernel
theorem dX2_rounds_35 : decode cX2_rounds 35 = .ok (.if_icmp .ge 97, 3) := by decide +kernel
theorem dX2_rounds_38 : decode cX2_rounds 38 = .ok (.iconst 0, 1) := by decide +kernel
theorem dX2_rounds_39 : decode cX2_rounds 39 = .ok (.istore 4, 2) := by decide +kernel
theorem dX2_rounds_41 : decode cX2_rounds 41 = .ok (.iload 4, 2) := by decide +kernel
theorem dX2_rounds_43 : decode cX2_rounds 43 = .ok (.sipush 256, 3) := by decide +kernel
theorem dX2_rounds_46 : decode cX2_rounds 46 = .ok (.if_icmp .ge 80, 3) := by decide +kernel
theorem dX2_rounds_49 : decode cX2_rounds 49 = .ok (.aload_n 0, 1) := by decide +kernel
theorem dX2_rounds_50 : decode cX2_rounds 50 = .ok (.getfield 13, 3) := by decide +kernel
theorem dX2_rounds_53 : decode cX2_rounds 53 = .ok (.iload 4, 2) := by decide +kernel
theorem dX2_rounds_55 : decode cX2_rounds 55 = .ok (.iaload, 1) := by decide +kernel
theorem dX2_rounds_56 : decode cX2_rounds 56 = .ok (.iconst 1, 1) := by decide +kernel
theorem dX2_rounds_57 : decode cX2_rounds 57 = .ok (.if_icmp .ne 63, 3) := by decide +kernel
theorem dX2_rounds_60 : decode cX2_rounds 60 = .ok (.aload_n 0, 1) := by decide +kernel
theorem dX2_rounds_61 : decode cX2_rounds 61 = .ok (.iload 4, 2) := by decide +kernel
theorem dX2_rounds_63 : decode cX2_rounds 63 = .ok (.invokevirtual 114, 3) := by decide +kernel
theorem dX2_rounds_66 : decode cX2_rounds 66 = .ok (.istore 5, 2) := by decide +kernel
theorem dX2_rounds_68 : decode cX2_rounds 68 = .ok (.aload_n 0, 1) := by decide +kernel
theorem dX2_rounds_69 : decode cX2_rounds 69 = .ok (.iload 4, 2) := by decide +kernel
theorem dX2_rounds_71 : decode cX2_rounds 71 = .ok (.aload_n 0, 1) := by decide +kernel
theorem dX2_rounds_72 : decode cX2_rounds 72 = .ok (.getfield 26, 3) := by decide +kernel
theorem dX2_rounds_75 : decode cX2_rounds 75 = .ok (.iload 4, 2) := by decide +kernel
theorem dX2_rounds_77 : decode cX2_rounds 77 = .ok (.iaload, 1) := by decide +kernel
theorem dX2_rounds_78 : decode cX2_rounds 78 = .ok (.invokevirtual 117, 3) := by decide +kernel
theorem dX2_rounds_81 : decode cX2_rounds 81 = .ok (.istore 6, 2) := by decide +kernel
theorem dX2_rounds_83 : decode cX2_rounds 83 = .ok (.aload_n 0, 1) := by decide +kernel
theorem dX2_rounds_84 : decode cX2_rounds 84 = .ok (.getfield 26, 3) := by decide +kernel
theorem dX2_rounds_87 : decode cX2_rounds 87 = .ok (.iload 4, 2) := by decide +kernel
theorem dX2_rounds_89 : decode cX2_rounds 89 = .ok (.aload_n 0, 1) := by decide +kernel
theorem dX2_rounds_90 : decode cX2_rounds 90 = .ok (.getfield 26, 3) := by decide +kernel
theorem dX2_rounds_93 : decode cX2_rounds 93 = .ok (.iload 4, 2) := by decide +kernel
theorem dX2_rounds_95 : decode cX2_rounds 95 = .ok (.iaload, 1) := by decide +kernel
theorem dX2_rounds_96 : decode cX2_rounds 96 = .ok (.iconst 1, 1) := by decide +kernel
theorem dX2_rounds_97 : decode cX2_rounds 97 = .ok (.iadd, 1) := by decide +kernel
theorem dX2_rounds_98 : decode cX2_rounds 98 = .ok (.bipush 8, 2) := by decide +kernel
theorem dX2_rounds_100 : decode cX2_rounds 100 = .ok (.irem, 1) := by decide +kernel
theorem dX2_rounds_101 : decode cX2_rounds 101 = .ok (.iastore, 1) := by decide +kernel
theorem dX2_rounds_102 : decode cX2_rounds 102 = .ok (.iload_n 2, 1) := by decide +kernel
theorem dX2_rounds_103 : decode cX2_rounds 103 = .ok (.aload_n 0, 1) := by decide +kernel
theorem dX2_rounds_104 : decode cX2_rounds 104 = .ok (.iload 4, 2) := by decide +kernel
theorem dX2_rounds_106 : decode cX2_rounds 106 = .ok (.invokevirtual 133, 3) := by decide +kernel
theorem dX2_rounds_109 : decode cX2_rounds 109 = .ok (.iadd, 1) := by decide +kernel
theorem dX2_rounds_110 : decode cX2_rounds 110 = .ok (.istore_n 2, 1) := by decide +kernel
theorem dX2_rounds_111 : decode cX2_rounds 111 = .ok (.iload_n 2, 1) := by decide +kernel
theorem dX2_rounds_112 : decode cX2_rounds 112 = .ok (.aload_n 0, 1) := by decide +kernel
theorem dX2_rounds_113 : decode cX2_rounds 113 = .ok (.iload 4, 2) := by decide +kernel
theorem dX2_rounds_115 : decode cX2_rounds 115 = .ok (.invokevirtual 139, 3) := by decide +kernel
theorem dX2_rounds_118 : decode cX2_rounds 118 = .ok (.iadd, 1) := by decide +kernel
theorem dX2_rounds_119 : decode cX2_rounds 119 = .ok (.istore_n 2, 1) := by decide +kernel
theorem dX2_rounds_120 : decode cX2_rounds 120 = .ok (.iinc 4 1, 3) := by decide +kernel
theorem dX2_rounds_123 : decode cX2_rounds 123 = .ok (.goto (-82), 3) := by decide +kernel
theorem dX2_rounds_126 : decode cX2_rounds 126 = .ok (.iinc 3 1, 3) := by decide +kernel
theorem dX2_rounds_129 : decode cX2_rounds 129 = .ok (.goto (-96), 3) := by decide +kernel
theorem dX2_rounds_132 : decode cX2_rounds 132 = .ok (.iload_n 2, 1) := by decide +kernel
theorem dX2_rounds_133 : decode cX2_rounds 133 = .ok (.ireturn, 1) := by decide +kernel
theorem dX2_look_0 : decode cX2_look 0 = .ok (.aload_n 0, 1) := by decide +kernel
theorem dX2_look_1 : decode cX2_look 1 = .ok (.aload_n 0, 1) := by decide +kernel
theorem dX2_look_2 : decode cX2_look 2 = .ok (.iload_n 1, 1) := by decide +kernel
theorem dX2_look_3 : decode cX2_look 3 = .ok (.invokevirtual 101, 3) := by decide +kernel
theorem dX2_look_6 : decode cX2_look 6 = .ok (.iload_n 2, 1) := by decide +kernel
theorem dX2_look_7 : decode cX2_look 7 = .ok (.invokestatic 50, 3) := by decide +kernel
theorem dX2_look_10 : decode cX2_look 10 = .ok (.iconst 1, 1) := by decide +kernel
theorem dX2_look_11 : decode cX2_look 11 = .ok (.invokevirtual 69, 3) := by decide +kernel
theorem dX2_look_14 : decode cX2_look 14 = .ok (.ifCond .ne 5, 3) := by decide +kernel
theorem dX2_look_17 : decode cX2_look 17 = .ok (.iconst 0, 1) := by decide +kernel
theorem dX2_look_18 : decode cX2_look 18 = .ok (.ireturn, 1) := by decide +kernel
theorem dX2_look_19 : decode cX2_look 19 = .ok (.aload_n 0, 1) := by decide +kernel
theorem dX2_look_20 : decode cX2_look 20 = .ok (.iload_n 1, 1) := by decide +kernel
theorem dX2_look_21 : decode cX2_look 21 = .ok (.iload_n 2, 1) := by decide +kernel
theorem dX2_look_22 : decode cX2_look 22 = .ok (.invokevirtual 104, 3) := by decide +kernel
theorem dX2_look_25 : decode cX2_look 25 = .ok (.istore_n 3, 1) := by decide +kernel
theorem dX2_look_26 : decode cX2_look 26 = .ok (.aload_n 0, 1) := by decide +kernel
theorem dX2_look_27 : decode cX2_look 27 = .ok (.aload_n 0, 1) := by decide +kernel
theorem dX2_look_28 : decode cX2_look 28 = .ok (.getfield 88, 3) := by decide +kernel
theorem dX2_look_31 : decode cX2_look 31 = .ok (.putfield 142, 3) := by decide +kernel
theorem dX2_look_34 : decode cX2_look 34 = .ok (.iconst 0, 1) := by decide +kernel
theorem dX2_look_35 : decode cX2_look 35 = .ok (.istore 4, 2) := by decide +kernel
theorem dX2_look_37 : decode cX2_look 37 = .ok (.iload 4, 2) := by decide +kernel
theorem dX2_look_39 : decode cX2_look 39 = .ok (.aload_n 0, 1) := by decide +kernel
theorem dX2_look_40 : decode cX2_look 40 = .ok (.getfield 88, 3) := by decide +kernel
theorem dX2_look_43 : decode cX2_look 43 = .ok (.if_icmp .ge 23, 3) := by decide +kernel
theorem dX2_look_46 : decode cX2_look 46 = .ok (.aload_n 0, 1) := by decide +kernel
theorem dX2_look_47 : decode cX2_look 47 = .ok (.getfield 44, 3) := by decide +kernel
theorem dX2_look_50 : decode cX2_look 50 = .ok (.iload 4, 2) := by decide +kernel
theorem dX2_look_52 : decode cX2_look 52 = .ok (.aload_n 0, 1) := by decide +kernel
theorem dX2_look_53 : decode cX2_look 53 = .ok (.getfield 41, 3) := by decide +kernel
theorem dX2_look_56 : decode cX2_look 56 = .ok (.iload 4, 2) := by decide +kernel
theorem dX2_look_58 : decode cX2_look 58 = .ok (.iaload, 1) := by decide +kernel
theorem dX2_look_59 : decode cX2_look 59 = .ok (.iastore, 1) := by decide +kernel
theorem dX2_look_60 : decode cX2_look 60 = .ok (.iinc 4 1, 3) := by decide +kernel
theorem dX2_look_63 : decode cX2_look 63 = .ok (.goto (-26), 3) := by decide +kernel
theorem dX2_look_66 : decode cX2_look 66 = .ok (.iload_n 3, 1) := by decide +kernel
theorem dX2_look_67 : decode cX2_look 67 = .ok (.ireturn, 1) := by decide +kernel
theorem dX2_hop_0 : decode cX2_hop 0 = .ok (.aload_n 0, 1) := by decide +kernel
theorem dX2_hop_1 : decode cX2_hop 1 = .ok (.iload_n 1, 1) := by decide +kernel
theorem dX2_hop_2 : decode cX2_hop 2 = .ok (.ifCond .lt 15, 3) := by decide +kernel
theorem dX2_hop_5 : decode cX2_hop 5 = .ok (.iload_n 1, 1) := by decide +kernel
theorem dX2_hop_6 : decode cX2_hop 6 = .ok (.aload_n 0, 1) := by decide +kernel
theorem dX2_hop_7 : decode cX2_hop 7 = .ok (.getfield 142, 3) := by decide +kernel
theorem dX2_hop_10 : decode cX2_hop 10 = .ok (.if_icmp .ge 7, 3) := by decide +kernel
theorem dX2_hop_13 : decode cX2_hop 13 = .ok (.iconst 1, 1) := by decide +kernel
theorem dX2_hop_14 : decode cX2_hop 14 = .ok (.goto 4, 3) := by decide +kernel
theorem dX2_hop_17 : decode cX2_hop 17 = .ok (.iconst 0, 1) := by decide +kernel
theorem dX2_hop_18 : decode cX2_hop 18 = .ok (.iconst 1, 1) := by decide +kernel
theorem dX2_hop_19 : decode cX2_hop 19 = .ok (.iconst 1, 1) := by decide +kernel
theorem dX2_hop_20 : decode cX2_hop 20 = .ok (.invokevirtual 69, 3) := by decide +kernel
theorem dX2_hop_23 : decode cX2_hop 23 = .ok (.ifCond .eq 12, 3) := by decide +kernel
theorem dX2_hop_26 : decode cX2_hop 26 = .ok (.aload_n 0, 1) := by decide +kernel
theorem dX2_hop_27 : decode cX2_hop 27 = .ok (.getfield 44, 3) := by decide +kernel
theorem dX2_hop_30 : decode cX2_hop 30 = .ok (.iload_n 1, 1) := by decide +kernel
theorem dX2_hop_31 : decode cX2_hop 31 = .ok (.iaload, 1) := by decide +kernel
theorem dX2_hop_32 : decode cX2_hop 32 = .ok (.goto 4, 3) := by decide +kernel
theorem dX2_hop_35 : decode cX2_hop 35 = .ok (.iconst 0, 1) := by decide +kernel
theorem dX2_hop_36 : decode cX2_hop 36 = .ok (.ireturn, 1) := by decide +kernel
theorem dX2_put_0 : decode cX2_put 0 = .ok (.aload_n 0, 1) := by decide +kernel
theorem dX2_put_1 : decode cX2_put 1 = .ok (.aload_n 0, 1) := by decide +kernel
theorem dX2_put_2 : decode cX2_put 2 = .ok (.iload_n 1, 1) := by decide +kernel
theorem dX2_put_3 : decode cX2_put 3 = .ok (.invokevirtual 101, 3) := by decide +kernel
theorem dX2_put_6 : decode cX2_put 6 = .ok (.ifCond .eq 14, 3) := by decide +kernel
theorem dX2_put_9 : decode cX2_put 9 = .ok (.iload_n 2, 1) := by decide +kernel
theorem dX2_put_10 : decode cX2_put 10 = .ok (.invokestatic 145, 3) := by decide +kernel
theorem dX2_put_13 : decode cX2_put 13 = .ok (.ifCond .eq 7, 3) := by decide +kernel
theorem dX2_put_16 : decode cX2_put 16 = .ok (.iconst 1, 1) := by decide +kernel
theorem dX2_put_17 : decode cX2_put 17 = .ok (.goto 4, 3) := by decide +kernel
theorem dX2_put_20 : decode cX2_put 20 = .ok (.iconst 0, 1) := by decide +kernel
theorem dX2_put_21 : decode cX2_put 21 = .ok (.iload_n 3, 1) := by decide +kernel
theorem dX2_put_22 : decode cX2_put 22 = .ok (.ifCond .lt 7, 3) := by decide +kernel
theorem dX2_put_25 : decode cX2_put 25 = .ok (.iconst 1, 1) := by decide +kernel
theorem dX2_put_26 : decode cX2_put 26 = .ok (.goto 4, 3) := by decide +kernel
theorem dX2_put_29 : decode cX2_put 29 = .ok (.iconst 0, 1) := by decide +kernel
theorem dX2_put_30 : decode cX2_put 30 = .ok (.iconst 1, 1) := by decide +kernel
theorem dX2_put_31 : decode cX2_put 31 = .ok (.invokevirtual 69, 3) := by decide +kernel
theorem dX2_put_34 : decode cX2_put 34 = .ok (.ifCond .ne 5, 3) := by decide +kernel
theorem dX2_put_37 : decode cX2_put 37 = .ok (.iconst 0, 1) := by decide +kernel
theorem dX2_put_38 : decode cX2_put 38 = .ok (.ireturn, 1) := by decide +kernel
theorem dX2_put_39 : decode cX2_put 39 = .ok (.aload_n 0, 1) := by decide +kernel
theorem dX2_put_40 : decode cX2_put 40 = .ok (.iload_n 1, 1) := by decide +kernel
theorem dX2_put_41 : decode cX2_put 41 = .ok (.iload_n 2, 1) := by decide +kernel
theorem dX2_put_42 : decode cX2_put 42 = .ok (.invokestatic 120, 3) := by decide +kernel
theorem dX2_put_45 : decode cX2_put 45 = .ok (.invokevirtual 104, 3) := by decide +kernel
theorem dX2_put_48 : decode cX2_put 48 = .ok (.istore 4, 2) := by decide +kernel
theorem dX2_put_50 : decode cX2_put 50 = .ok (.bipush 64, 2) := by decide +kernel
theorem dX2_put_52 : decode cX2_put 52 = .ok (.iload 4, 2) := by decide +kernel
theorem dX2_put_54 : decode cX2_put 54 = .ok (.imul, 1) := by decide +kernel
theorem dX2_put_55 : decode cX2_put 55 = .ok (.iload_n 2, 1) := by decide +kernel
theorem dX2_put_56 : decode cX2_put 56 = .ok (.iadd, 1) := by decide +kernel
theorem dX2_put_57 : decode cX2_put 57 = .ok (.istore 5, 2) := by decide +kernel
theorem dX2_put_59 : decode cX2_put 59 = .ok (.aload_n 0, 1) := by decide +kernel
theorem dX2_put_60 : decode cX2_put 60 = .ok (.getfield 29, 3) := by decide +kernel
theorem dX2_put_63 : decode cX2_put 63 = .ok (.iload 5, 2) := by decide +kernel
theorem dX2_put_65 : decode cX2_put 65 = .ok (.dup2, 1) := by decide +kernel
theorem dX2_put_66 : decode cX2_put 66 = .ok (.iaload, 1) := by decide +kernel
theorem dX2_put_67 : decode cX2_put 67 = .ok (.iconst 1, 1) := by decide +kernel
theorem dX2_put_68 : decode cX2_put 68 = .ok (.iadd, 1) := by decide +kernel
theorem dX2_put_69 : decode cX2_put 69 = .ok (.iastore, 1) := by decide +kernel
theorem dX2_put_70 : decode cX2_put 70 = .ok (.aload_n 0, 1) := by decide +kernel
theorem dX2_put_71 : decode cX2_put 71 = .ok (.getfield 32, 3) := by decide +kernel
theorem dX2_put_74 : decode cX2_put 74 = .ok (.iload 5, 2) := by decide +kernel
theorem dX2_put_76 : decode cX2_put 76 = .ok (.iload 4, 2) := by decide +kernel
theorem dX2_put_78 : decode cX2_put 78 = .ok (.iastore, 1) := by decide +kernel
theorem dX2_put_79 : decode cX2_put 79 = .ok (.aload_n 0, 1) := by decide +kernel
theorem dX2_put_80 : decode cX2_put 80 = .ok (.getfield 35, 3) := by decide +kernel
theorem dX2_put_83 : decode cX2_put 83 = .ok (.iload 5, 2) := by decide +kernel
theorem dX2_put_85 : decode cX2_put 85 = .ok (.iload_n 3, 1) := by decide +kernel
theorem dX2_put_86 : decode cX2_put 86 = .ok (.iastore, 1) := by decide +kernel
theorem dX2_put_87 : decode cX2_put 87 = .ok (.aload_n 0, 1) := by decide +kernel
theorem dX2_put_88 : decode cX2_put 88 = .ok (.iload 4, 2) := by decide +kernel
theorem dX2_put_90 : decode cX2_put 90 = .ok (.iload_n 2, 1) := by decide +kernel
theorem dX2_put_91 : decode cX2_put 91 = .ok (.invokevirtual 136, 3) := by decide +kernel
theorem dX2_put_94 : decode cX2_put 94 = .ok (.istore 6, 2) := by decide +kernel
theorem dX2_put_96 : decode cX2_put 96 = .ok (.aload_n 0, 1) := by decide +kernel
theorem dX2_put_97 : decode cX2_put 97 = .ok (.getfield 29, 3) := by decide +kernel
theorem dX2_put_100 : decode cX2_put 100 = .ok (.iload 5, 2) := by decide +kernel
theorem dX2_put_102 : decode cX2_put 102 = .ok (.iaload, 1) := by decide +kernel
theorem dX2_put_103 : decode cX2_put 103 = .ok (.ireturn, 1) := by decide +kernel
theorem dX2_get_0 : decode cX2_get 0 = .ok (.aload_n 0, 1) := by decide +kernel
theorem dX2_get_1 : decode cX2_get 1 = .ok (.aload_n 0, 1) := by decide +kernel
theorem dX2_get_2 : decode cX2_get 2 = .ok (.iload_n 1, 1) := by decide +kernel
theorem dX2_get_3 : decode cX2_get 3 = .ok (.invokevirtual 101, 3) := by decide +kernel
theorem dX2_get_6 : decode cX2_get 6 = .ok (.ifCond .eq 14, 3) := by decide +kernel
theorem dX2_get_9 : decode cX2_get 9 = .ok (.iload_n 2, 1) := by decide +kernel
theorem dX2_get_10 : decode cX2_get 10 = .ok (.invokestatic 145, 3) := by decide +kernel
theorem dX2_get_13 : decode cX2_get 13 = .ok (.ifCond .eq 7, 3) := by decide +kernel
theorem dX2_get_16 : decode cX2_get 16 = .ok (.iconst 1, 1) := by decide +kernel
theorem dX2_get_17 : decode cX2_get 17 = .ok (.goto 4, 3) := by decide +kernel
theorem dX2_get_20 : decode cX2_get 20 = .ok (.iconst 0, 1) := by decide +kernel
theorem dX2_get_21 : decode cX2_get 21 = .ok (.iconst 1, 1) := by decide +kernel
theorem dX2_get_22 : decode cX2_get 22 = .ok (.iconst 1, 1) := by decide +kernel
theorem dX2_get_23 : decode cX2_get 23 = .ok (.invokevirtual 69, 3) := by decide +kernel
theorem dX2_get_26 : decode cX2_get 26 = .ok (.ifCond .ne 5, 3) := by decide +kernel
theorem dX2_get_29 : decode cX2_get 29 = .ok (.iconst 0, 1) := by decide +kernel
theorem dX2_get_30 : decode cX2_get 30 = .ok (.ireturn, 1) := by decide +kernel
theorem dX2_get_31 : decode cX2_get 31 = .ok (.aload_n 0, 1) := by decide +kernel
theorem dX2_get_32 : decode cX2_get 32 = .ok (.iload_n 1, 1) := by decide +kernel
theorem dX2_get_33 : decode cX2_get 33 = .ok (.iload_n 2, 1) := by decide +kernel
theorem dX2_get_34 : decode cX2_get 34 = .ok (.invokestatic 120, 3) := by decide +kernel
theorem dX2_get_37 : decode cX2_get 37 = .ok (.invokevirtual 104, 3) := by decide +kernel
theorem dX2_get_40 : decode cX2_get 40 = .ok (.istore_n 3, 1) := by decide +kernel
theorem dX2_get_41 : decode cX2_get 41 = .ok (.bipush 64, 2) := by decide +kernel
theorem dX2_get_43 : decode cX2_get 43 = .ok (.iload_n 3, 1) := by decide +kernel
theorem dX2_get_44 : decode cX2_get 44 = .ok (.imul, 1) := by decide +kernel
theorem dX2_get_45 : decode cX2_get 45 = .ok (.iload_n 2, 1) := by decide +kernel
theorem dX2_get_46 : decode cX2_get 46 = .ok (.iadd, 1) := by decide +kernel
theorem dX2_get_47 : decode cX2_get 47 = .ok (.istore 4, 2) := by decide +kernel
theorem dX2_get_49 : decode cX2_get 49 = .ok (.aload_n 0, 1) := by decide +kernel
theorem dX2_get_50 : decode cX2_get 50 = .ok (.getfield 29, 3) := by decide +kernel
theorem dX2_get_53 : decode cX2_get 53 = .ok (.iload 4, 2) := by decide +kernel
theorem dX2_get_55 : decode cX2_get 55 = .ok (.iaload, 1) := by decide +kernel
theorem dX2_get_56 : decode cX2_get 56 = .ok (.ifCond .le 7, 3) := by decide +kernel
theorem dX2_get_59 : decode cX2_get 59 = .ok (.iconst 1, 1) := by decide +kernel
theorem dX2_get_60 : decode cX2_get 60 = .ok (.goto 4, 3) := by decide +kernel
theorem dX2_get_63 : decode cX2_get 63 = .ok (.iconst 0, 1) := by decide +kernel
theorem dX2_get_64 : decode cX2_get 64 = .ok (.istore 5, 2) := by decide +kernel
theorem dX2_get_66 : decode cX2_get 66 = .ok (.iconst 0, 1) := by decide +kernel
theorem dX2_get_67 : decode cX2_get 67 = .ok (.istore 6, 2) := by decide +kernel
theorem dX2_get_69 : decode cX2_get 69 = .ok (.iload 6, 2) := by decide +kernel
theorem dX2_get_71 : decode cX2_get 71 = .ok (.aload_n 0, 1) := by decide +kernel
theorem dX2_get_72 : decode cX2_get 72 = .ok (.getfield 7, 3) := by decide +kernel
theorem dX2_get_75 : decode cX2_get 75 = .ok (.if_icmp .ge 66, 3) := by decide +kernel
theorem dX2_get_78 : decode cX2_get 78 = .ok (.iload 5, 2) := by decide +kernel
theorem dX2_get_80 : decode cX2_get 80 = .ok (.ifCond .ne 61, 3) := by decide +kernel
theorem dX2_get_83 : decode cX2_get 83 = .ok (.aload_n 0, 1) := by decide +kernel
theorem dX2_get_84 : decode cX2_get 84 = .ok (.getfield 17, 3) := by decide +kernel
theorem dX2_get_87 : decode cX2_get 87 = .ok (.iconst 4, 1) := by decide +kernel
theorem dX2_get_88 : decode cX2_get 88 = .ok (.iload_n 3, 1) := by decide +kernel
theorem dX2_get_89 : decode cX2_get 89 = .ok (.imul, 1) := by decide +kernel
theorem dX2_get_90 : decode cX2_get 90 = .ok (.iload 6, 2) := by decide +kernel
theorem dX2_get_92 : decode cX2_get 92 = .ok (.iadd, 1) := by decide +kernel
theorem dX2_get_93 : decode cX2_get 93 = .ok (.iaload, 1) := by decide +kernel
theorem dX2_get_94 : decode cX2_get 94 = .ok (.istore 7, 2) := by decide +kernel
theorem dX2_get_96 : decode cX2_get 96 = .ok (.aload_n 0, 1) := by decide +kernel
theorem dX2_get_97 : decode cX2_get 97 = .ok (.iload 7, 2) := by decide +kernel
theorem dX2_get_99 : decode cX2_get 99 = .ok (.invokevirtual 58, 3) := by decide +kernel
theorem dX2_get_102 : decode cX2_get 102 = .ok (.ifCond .eq 29, 3) := by decide +kernel
theorem dX2_get_105 : decode cX2_get 105 = .ok (.aload_n 0, 1) := by decide +kernel
theorem dX2_get_106 : decode cX2_get 106 = .ok (.bipush 64, 2) := by decide +kernel
theorem dX2_get_108 : decode cX2_get 108 = .ok (.iload 7, 2) := by decide +kernel
theorem dX2_get_110 : decode cX2_get 110 = .ok (.imul, 1) := by decide +kernel
theorem dX2_get_111 : decode cX2_get 111 = .ok (.iload_n 2, 1) := by decide +kernel
theorem dX2_get_112 : decode cX2_get 112 = .ok (.iadd, 1) := by decide +kernel
theorem dX2_get_113 : decode cX2_get 113 = .ok (.iload 4, 2) := by decide +kernel
theorem dX2_get_115 : decode cX2_get 115 = .ok (.invokevirtual 127, 3) := by decide +kernel
theorem dX2_get_118 : decode cX2_get 118 = .ok (.ifCond .eq 13, 3) := by decide +kernel
theorem dX2_get_121 : decode cX2_get 121 = .ok (.bipush 64, 2) := by decide +kernel
theorem dX2_get_123 : decode cX2_get 123 = .ok (.iload 7, 2) := by decide +kernel
theorem dX2_get_125 : decode cX2_get 125 = .ok (.imul, 1) := by decide +kernel
theorem dX2_get_126 : decode cX2_get 126 = .ok (.iload_n 2, 1) := by decide +kernel
theorem dX2_get_127 : decode cX2_get 127 = .ok (.iadd, 1) := by decide +kernel
theorem dX2_get_128 : decode cX2_get 128 = .ok (.goto 5, 3) := by decide +kernel
theorem dX2_get_131 : decode cX2_get 131 = .ok (.iload 4, 2) := by decide +kernel
theorem dX2_get_133 : decode cX2_get 133 = .ok (.istore 4, 2) := by decide +kernel
theorem dX2_get_135 : decode cX2_get 135 = .ok (.iinc 6 1, 3) := by decide +kernel
theorem dX2_get_138 : decode cX2_get 138 = .ok (.goto (-69), 3) := by decide +kernel
theorem dX2_get_141 : decode cX2_get 141 = .ok (.aload_n 0, 1) := by decide +kernel
theorem dX2_get_142 : decode cX2_get 142 = .ok (.getfield 29, 3) := by decide +kernel
theorem dX2_get_145 : decode cX2_get 145 = .ok (.iload 4, 2) := by decide +kernel
theorem dX2_get_147 : decode cX2_get 147 = .ok (.iaload, 1) := by decide +kernel
theorem dX2_get_148 : decode cX2_get 148 = .ok (.ifCond .le 13, 3) := by decide +kernel
theorem dX2_get_151 : decode cX2_get 151 = .ok (.aload_n 0, 1) := by decide +kernel
theorem dX2_get_152 : decode cX2_get 152 = .ok (.getfield 35, 3) := by decide +kernel
theorem dX2_get_155 : decode cX2_get 155 = .ok (.iload 4, 2) := by decide +kernel
theorem dX2_get_157 : decode cX2_get 157 = .ok (.iaload, 1) := by decide +kernel
theorem dX2_get_158 : decode cX2_get 158 = .ok (.goto 4, 3) := by decide +kernel
theorem dX2_get_161 : decode cX2_get 161 = .ok (.iconst (-1), 1) := by decide +kernel
theorem dX2_get_162 : decode cX2_get 162 = .ok (.ireturn, 1) := by decide +kernel
theorem dX2_held_0 : decode cX2_held 0 = .ok (.aload_n 0, 1) := by decide +kernel
theorem dX2_held_1 : decode cX2_held 1 = .ok (.aload_n 0, 1) := by decide +kernel
theorem dX2_held_2 : decode cX2_held 2 = .ok (.iload_n 1, 1) := by decide +kernel
theorem dX2_held_3 : decode cX2_held 3 = .ok (.invokevirtual 101, 3) := by decide +kernel
theorem dX2_held_6 : decode cX2_held 6 = .ok (.ifCond .eq 14, 3) := by decide +kernel
theorem dX2_held_9 : decode cX2_held 9 = .ok (.iload_n 2, 1) := by decide +kernel
theorem dX2_held_10 : decode cX2_held 10 = .ok (.invokestatic 145, 3) := by decide +kernel
theorem dX2_held_13 : decode cX2_held 13 = .ok (.ifCond .eq 7, 3) := by decide +kernel
theorem dX2_held_16 : decode cX2_held 16 = .ok (.iconst 1, 1) := by decide +kernel
theorem dX2_held_17 : decode cX2_held 17 = .ok (.goto 4, 3) := by decide +kernel
theorem dX2_held_20 : decode cX2_held 20 = .ok (.iconst 0, 1) := by decide +kernel
theorem dX2_held_21 : decode cX2_held 21 = .ok (.iload_n 3, 1) := by decide +kernel
theorem dX2_held_22 : decode cX2_held 22 = .ok (.ifCond .lt 12, 3) := by decide +kernel
theorem dX2_held_25 : decode cX2_held 25 = .ok (.iload_n 3, 1) := by decide +kernel
theorem dX2_held_26 : decode cX2_held 26 = .ok (.iconst 2, 1) := by decide +kernel
theorem dX2_held_27 : decode cX2_held 27 = .ok (.if_icmp .gt 7, 3) := by decide +kernel
theorem dX2_held_30 : decode cX2_held 30 = .ok (.iconst 1, 1) := by decide +kernel
theorem dX2_held_31 : decode cX2_held 31 = .ok (.goto 4, 3) := by decide +kernel
theorem dX2_held_34 : decode cX2_held 34 = .ok (.iconst 0, 1) := by decide +kernel
theorem dX2_held_35 : decode cX2_held 35 = .ok (.iconst 1, 1) := by decide +kernel
theorem dX2_held_36 : decode cX2_held 36 = .ok (.invokevirtual 69, 3) := by decide +kernel
theorem dX2_held_39 : decode cX2_held 39 = .ok (.ifCond .ne 5, 3) := by decide +kernel
theorem dX2_held_42 : decode cX2_held 42 = .ok (.iconst 0, 1) := by decide +kernel
theorem dX2_held_43 : decode cX2_held 43 = .ok (.ireturn, 1) := by decide +kernel
theorem dX2_held_44 : decode cX2_held 44 = .ok (.bipush 64, 2) := by decide +kernel
theorem dX2_held_46 : decode cX2_held 46 = .ok (.iload_n 1, 1) := by decide +kernel
theorem dX2_held_47 : decode cX2_held 47 = .ok (.imul, 1) := by decide +kernel
theorem dX2_held_48 : decode cX2_held 48 = .ok (.iload_n 2, 1) := by decide +kernel
theorem dX2_held_49 : decode cX2_held 49 = .ok (.iadd, 1) := by decide +kernel
theorem dX2_held_50 : decode cX2_held 50 = .ok (.istore 4, 2) := by decide +kernel
theorem dX2_held_52 : decode cX2_held 52 = .ok (.iload_n 3, 1) := by decide +kernel
theorem dX2_held_53 : decode cX2_held 53 = .ok (.ifCond .ne 13, 3) := by decide +kernel
theorem dX2_held_56 : decode cX2_held 56 = .ok (.aload_n 0, 1) := by decide +kernel
theorem dX2_held_57 : decode cX2_held 57 = .ok (.getfield 29, 3) := by decide +kernel
theorem dX2_held_60 : decode cX2_held 60 = .ok (.iload 4, 2) := by decide +kernel
theorem dX2_held_62 : decode cX2_held 62 = .ok (.iaload, 1) := by decide +kernel
theorem dX2_held_63 : decode cX2_held 63 = .ok (.goto 39, 3) := by decide +kernel
theorem dX2_held_66 : decode cX2_held 66 = .ok (.aload_n 0, 1) := by decide +kernel
theorem dX2_held_67 : decode cX2_held 67 = .ok (.getfield 29, 3) := by decide +kernel
theorem dX2_held_70 : decode cX2_held 70 = .ok (.iload 4, 2) := by decide +kernel
theorem dX2_held_72 : decode cX2_held 72 = .ok (.iaload, 1) := by decide +kernel
theorem dX2_held_73 : decode cX2_held 73 = .ok (.ifCond .ne 7, 3) := by decide +kernel
theorem dX2_held_76 : decode cX2_held 76 = .ok (.iconst (-1), 1) := by decide +kernel
theorem dX2_held_77 : decode cX2_held 77 = .ok (.goto 25, 3) := by decide +kernel
theorem dX2_held_80 : decode cX2_held 80 = .ok (.iload_n 3, 1) := by decide +kernel
theorem dX2_held_81 : decode cX2_held 81 = .ok (.iconst 1, 1) := by decide +kernel
theorem dX2_held_82 : decode cX2_held 82 = .ok (.if_icmp .ne 13, 3) := by decide +kernel
theorem dX2_held_85 : decode cX2_held 85 = .ok (.aload_n 0, 1) := by decide +kernel
theorem dX2_held_86 : decode cX2_held 86 = .ok (.getfield 32, 3) := by decide +kernel
theorem dX2_held_89 : decode cX2_held 89 = .ok (.iload 4, 2) := by decide +kernel
theorem dX2_held_91 : decode cX2_held 91 = .ok (.iaload, 1) := by decide +kernel
theorem dX2_held_92 : decode cX2_held 92 = .ok (.goto 10, 3) := by decide +kernel
theorem dX2_held_95 : decode cX2_held 95 = .ok (.aload_n 0, 1) := by decide +kernel
theorem dX2_held_96 : decode cX2_held 96 = .ok (.getfield 35, 3) := by decide +kernel
theorem dX2_held_99 : decode cX2_held 99 = .ok (.iload 4, 2) := by decide +kernel
theorem dX2_held_101 : decode cX2_held 101 = .ok (.iaload, 1) := by decide +kernel
theorem dX2_held_102 : decode cX2_held 102 = .ok (.ireturn, 1) := by decide +kernel
theorem dX2_known_0 : decode cX2_known 0 = .ok (.aload_n 0, 1) := by decide +kernel
theorem dX2_known_1 : decode cX2_known 1 = .ok (.aload_n 0, 1) := by decide +kernel
theorem dX2_known_2 : decode cX2_known 2 = .ok (.iload_n 1, 1) := by decide +kernel
theorem dX2_known_3 : decode cX2_known 3 = .ok (.invokevirtual 101, 3) := by decide +kernel
theorem dX2_known_6 : decode cX2_known 6 = .ok (.ifCond .eq 32, 3) := by decide +kernel
theorem dX2_known_9 : decode cX2_known 9 = .ok (.iload_n 2, 1) := by decide +kernel
theorem dX2_known_10 : decode cX2_known 10 = .ok (.iconst (-1), 1) := by decide +kernel
theorem dX2_known_11 : decode cX2_known 11 = .ok (.if_icmp .lt 11, 3) := by decide +kernel
theorem dX2_known_14 : decode cX2_known 14 = .ok (.iload_n 2, 1) := by decide +kernel
theorem dX2_known_15 : decode cX2_known 15 = .ok (.aload_n 0, 1) := by decide +kernel
theorem dX2_known_16 : decode cX2_known 16 = .ok (.getfield 7, 3) := by decide +kernel
theorem dX2_known_19 : decode cX2_known 19 = .ok (.if_icmp .lt 15, 3) := by decide +kernel
theorem dX2_known_22 : decode cX2_known 22 = .ok (.iload_n 2, 1) := by decide +kernel
theorem dX2_known_23 : decode cX2_known 23 = .ok (.bipush 10, 2) := by decide +kernel
theorem dX2_known_25 : decode cX2_known 25 = .ok (.if_icmp .lt 13, 3) := by decide +kernel
theorem dX2_known_28 : decode cX2_known 28 = .ok (.iload_n 2, 1) := by decide +kernel
theorem dX2_known_29 : decode cX2_known 29 = .ok (.bipush 18, 2) := by decide +kernel
theorem dX2_known_31 : decode cX2_known 31 = .ok (.if_icmp .ge 7, 3) := by decide +kernel
theorem dX2_known_34 : decode cX2_known 34 = .ok (.iconst 1, 1) := by decide +kernel
theorem dX2_known_35 : decode cX2_known 35 = .ok (.goto 4, 3) := by decide +kernel
theorem dX2_known_38 : decode cX2_known 38 = .ok (.iconst 0, 1) := by decide +kernel
theorem dX2_known_39 : decode cX2_known 39 = .ok (.iconst 1, 1) := by decide +kernel
theorem dX2_known_40 : decode cX2_known 40 = .ok (.iconst 1, 1) := by decide +kernel
theorem dX2_known_41 : decode cX2_known 41 = .ok (.invokevirtual 69, 3) := by decide +kernel
theorem dX2_known_44 : decode cX2_known 44 = .ok (.ifCond .ne 5, 3) := by decide +kernel
theorem dX2_known_47 : decode cX2_known 47 = .ok (.iconst 0, 1) := by decide +kernel
theorem dX2_known_48 : decode cX2_known 48 = .ok (.ireturn, 1) := by decide +kernel
theorem dX2_known_49 : decode cX2_known 49 = .ok (.iload_n 2, 1) := by decide +kernel
theorem dX2_known_50 : decode cX2_known 50 = .ok (.iconst (-1), 1) := by decide +kernel
theorem dX2_known_51 : decode cX2_known 51 = .ok (.if_icmp .ne 12, 3) := by decide +kernel
theorem dX2_known_54 : decode cX2_known 54 = .ok (.aload_n 0, 1) := by decide +kernel
theorem dX2_known_55 : decode cX2_known 55 = .ok (.getfield 20, 3) := by decide +kernel
theorem dX2_known_58 : decode cX2_known 58 = .ok (.iload_n 1, 1) := by decide +kernel
theorem dX2_known_59 : decode cX2_known 59 = .ok (.iaload, 1) := by decide +kernel
theorem dX2_known_60 : decode cX2_known 60 = .ok (.goto 36, 3) := by decide +kernel
theorem dX2_known_63 : decode cX2_known 63 = .ok (.iload_n 2, 1) := by decide +kernel
theorem dX2_known_64 : decode cX2_known 64 = .ok (.bipush 10, 2) := by decide +kernel
theorem dX2_known_66 : decode cX2_known 66 = .ok (.if_icmp .ge 16, 3) := by decide +kernel
theorem dX2_known_69 : decode cX2_known 69 = .ok (.aload_n 0, 1) := by decide +kernel
theorem dX2_known_70 : decode cX2_known 70 = .ok (.getfield 17, 3) := by decide +kernel
theorem dX2_known_73 : decode cX2_known 73 = .ok (.iconst 4, 1) := by decide +kernel
theorem dX2_known_74 : decode cX2_known 74 = .ok (.iload_n 1, 1) := by decide +kernel
theorem dX2_known_75 : decode cX2_known 75 = .ok (.imul, 1) := by decide +kernel
theorem dX2_known_76 : decode cX2_known 76 = .ok (.iload_n 2, 1) := by decide +kernel
theorem dX2_known_77 : decode cX2_known 77 = .ok (.iadd, 1) := by decide +kernel
theorem dX2_known_78 : decode cX2_known 78 = .ok (.iaload, 1) := by decide +kernel
theorem dX2_known_79 : decode cX2_known 79 = .ok (.goto 17, 3) := by decide +kernel
theorem dX2_known_82 : decode cX2_known 82 = .ok (.aload_n 0, 1) := by decide +kernel
theorem dX2_known_83 : decode cX2_known 83 = .ok (.getfield 23, 3) := by decide +kernel
theorem dX2_known_86 : decode cX2_known 86 = .ok (.bipush 8, 2) := by decide +kernel
theorem dX2_known_88 : decode cX2_known 88 = .ok (.iload_n 1, 1) := by decide +kernel
theorem dX2_known_89 : decode cX2_known 89 = .ok (.imul, 1) := by decide +kernel
theorem dX2_known_90 : decode cX2_known 90 = .ok (.iload_n 2, 1) := by decide +kernel
theorem dX2_known_91 : decode cX2_known 91 = .ok (.iadd, 1) := by decide +kernel
theorem dX2_known_92 : decode cX2_known 92 = .ok (.bipush 10, 2) := by decide +kernel
theorem dX2_known_94 : decode cX2_known 94 = .ok (.isub, 1) := by decide +kernel
theorem dX2_known_95 : decode cX2_known 95 = .ok (.iaload, 1) := by decide +kernel
theorem dX2_known_96 : decode cX2_known 96 = .ok (.ireturn, 1) := by decide +kernel
theorem dX2_owner_0 : decode cX2_owner 0 = .ok (.aload_n 0, 1) := by decide +kernel
theorem dX2_owner_1 : decode cX2_owner 1 = .ok (.iload_n 1, 1) := by decide +kernel
theorem dX2_owner_2 : decode cX2_owner 2 = .ok (.invokestatic 50, 3) := by decide +kernel
theorem dX2_owner_5 : decode cX2_owner 5 = .ok (.iconst 1, 1) := by decide +kernel
theorem dX2_owner_6 : decode cX2_owner 6 = .ok (.iconst 1, 1) := by decide +kernel
theorem dX2_owner_7 : decode cX2_owner 7 = .ok (.invokevirtual 69, 3) := by decide +kernel
theorem dX2_owner_10 : decode cX2_owner 10 = .ok (.ifCond .eq 11, 3) := by decide +kernel
theorem dX2_owner_13 : decode cX2_owner 13 = .ok (.aload_n 0, 1) := by decide +kernel
theorem dX2_owner_14 : decode cX2_owner 14 = .ok (.iload_n 1, 1) := by decide +kernel
theorem dX2_owner_15 : decode cX2_owner 15 = .ok (.invokevirtual 77, 3) := by decide +kernel
theorem dX2_owner_18 : decode cX2_owner 18 = .ok (.goto 4, 3) := by decide +kernel
theorem dX2_owner_21 : decode cX2_owner 21 = .ok (.iconst 0, 1) := by decide +kernel
theorem dX2_owner_22 : decode cX2_owner 22 = .ok (.ireturn, 1) := by decide +kernel
theorem dX2_ideal_0 : decode cX2_ideal 0 = .ok (.aload_n 0, 1) := by decide +kernel
theorem dX2_ideal_1 : decode cX2_ideal 1 = .ok (.iconst 0, 1) := by decide +kernel
theorem dX2_ideal_2 : decode cX2_ideal 2 = .ok (.putfield 47, 3) := by decide +kernel
theorem dX2_ideal_5 : decode cX2_ideal 5 = .ok (.aload_n 0, 1) := by decide +kernel
theorem dX2_ideal_6 : decode cX2_ideal 6 = .ok (.getfield 54, 3) := by decide +kernel
theorem dX2_ideal_9 : decode cX2_ideal 9 = .ok (.istore_n 1, 1) := by decide +kernel
theorem dX2_ideal_10 : decode cX2_ideal 10 = .ok (.iconst 0, 1) := by decide +kernel
theorem dX2_ideal_11 : decode cX2_ideal 11 = .ok (.istore_n 2, 1) := by decide +kernel
theorem dX2_ideal_12 : decode cX2_ideal 12 = .ok (.iload_n 2, 1) := by decide +kernel
theorem dX2_ideal_13 : decode cX2_ideal 13 = .ok (.sipush 256, 3) := by decide +kernel
theorem dX2_ideal_16 : decode cX2_ideal 16 = .ok (.if_icmp .ge 125, 3) := by decide +kernel
theorem dX2_ideal_19 : decode cX2_ideal 19 = .ok (.aload_n 0, 1) := by decide +kernel
theorem dX2_ideal_20 : decode cX2_ideal 20 = .ok (.getfield 54, 3) := by decide +kernel
theorem dX2_ideal_23 : decode cX2_ideal 23 = .ok (.ifCond .eq 118, 3) := by decide +kernel
theorem dX2_ideal_26 : decode cX2_ideal 26 = .ok (.iload_n 2, 1) := by decide +kernel
theorem dX2_ideal_27 : decode cX2_ideal 27 = .ok (.istore_n 3, 1) := by decide +kernel
theorem dX2_ideal_28 : decode cX2_ideal 28 = .ok (.iconst 0, 1) := by decide +kernel
theorem dX2_ideal_29 : decode cX2_ideal 29 = .ok (.istore 4, 2) := by decide +kernel
theorem dX2_ideal_31 : decode cX2_ideal 31 = .ok (.iload 4, 2) := by decide +kernel
theorem dX2_ideal_33 : decode cX2_ideal 33 = .ok (.aload_n 0, 1) := by decide +kernel
theorem dX2_ideal_34 : decode cX2_ideal 34 = .ok (.getfield 7, 3) := by decide +kernel
theorem dX2_ideal_37 : decode cX2_ideal 37 = .ok (.if_icmp .ge 56, 3) := by decide +kernel
theorem dX2_ideal_40 : decode cX2_ideal 40 = .ok (.aload_n 0, 1) := by decide +kernel
theorem dX2_ideal_41 : decode cX2_ideal 41 = .ok (.getfield 13, 3) := by decide +kernel
theorem dX2_ideal_44 : decode cX2_ideal 44 = .ok (.iload_n 2, 1) := by decide +kernel
theorem dX2_ideal_45 : decode cX2_ideal 45 = .ok (.iaload, 1) := by decide +kernel
theorem dX2_ideal_46 : decode cX2_ideal 46 = .ok (.iconst 1, 1) := by decide +kernel
theorem dX2_ideal_47 : decode cX2_ideal 47 = .ok (.if_icmp .ne 46, 3) := by decide +kernel
theorem dX2_ideal_50 : decode cX2_ideal 50 = .ok (.aload_n 0, 1) := by decide +kernel
theorem dX2_ideal_51 : decode cX2_ideal 51 = .ok (.iload_n 3, 1) := by decide +kernel
theorem dX2_ideal_52 : decode cX2_ideal 52 = .ok (.iconst 1, 1) := by decide +kernel
theorem dX2_ideal_53 : decode cX2_ideal 53 = .ok (.iadd, 1) := by decide +kernel
theorem dX2_ideal_54 : decode cX2_ideal 54 = .ok (.sipush 256, 3) := by decide +kernel
theorem dX2_ideal_57 : decode cX2_ideal 57 = .ok (.irem, 1) := by decide +kernel
theorem dX2_ideal_58 : decode cX2_ideal 58 = .ok (.invokevirtual 77, 3) := by decide +kernel
theorem dX2_ideal_61 : decode cX2_ideal 61 = .ok (.istore_n 3, 1) := by decide +kernel
theorem dX2_ideal_62 : decode cX2_ideal 62 = .ok (.iload_n 1, 1) := by decide +kernel
theorem dX2_ideal_63 : decode cX2_ideal 63 = .ok (.ifCond .eq 22, 3) := by decide +kernel
theorem dX2_ideal_66 : decode cX2_ideal 66 = .ok (.aload_n 0, 1) := by decide +kernel
theorem dX2_ideal_67 : decode cX2_ideal 67 = .ok (.getfield 17, 3) := by decide +kernel
theorem dX2_ideal_70 : decode cX2_ideal 70 = .ok (.iconst 4, 1) := by decide +kernel
theorem dX2_ideal_71 : decode cX2_ideal 71 = .ok (.iload_n 2, 1) := by decide +kernel
theorem dX2_ideal_72 : decode cX2_ideal 72 = .ok (.imul, 1) := by decide +kernel
theorem dX2_ideal_73 : decode cX2_ideal 73 = .ok (.iload 4, 2) := by decide +kernel
theorem dX2_ideal_75 : decode cX2_ideal 75 = .ok (.iadd, 1) := by decide +kernel
theorem dX2_ideal_76 : decode cX2_ideal 76 = .ok (.iaload, 1) := by decide +kernel
theorem dX2_ideal_77 : decode cX2_ideal 77 = .ok (.iload_n 3, 1) := by decide +kernel
theorem dX2_ideal_78 : decode cX2_ideal 78 = .ok (.if_icmp .ne 7, 3) := by decide +kernel
theorem dX2_ideal_81 : decode cX2_ideal 81 = .ok (.iconst 1, 1) := by decide +kernel
theorem dX2_ideal_82 : decode cX2_ideal 82 = .ok (.goto 4, 3) := by decide +kernel
theorem dX2_ideal_85 : decode cX2_ideal 85 = .ok (.iconst 0, 1) := by decide +kernel
theorem dX2_ideal_86 : decode cX2_ideal 86 = .ok (.istore_n 1, 1) := by decide +kernel
theorem dX2_ideal_87 : decode cX2_ideal 87 = .ok (.iinc 4 1, 3) := by decide +kernel
theorem dX2_ideal_90 : decode cX2_ideal 90 = .ok (.goto (-59), 3) := by decide +kernel
theorem dX2_ideal_93 : decode cX2_ideal 93 = .ok (.iload_n 1, 1) := by decide +kernel
theorem dX2_ideal_94 : decode cX2_ideal 94 = .ok (.ifCond .eq 39, 3) := by decide +kernel
theorem dX2_ideal_97 : decode cX2_ideal 97 = .ok (.aload_n 0, 1) := by decide +kernel
theorem dX2_ideal_98 : decode cX2_ideal 98 = .ok (.getfield 13, 3) := by decide +kernel
theorem dX2_ideal_101 : decode cX2_ideal 101 = .ok (.iload_n 2, 1) := by decide +kernel
theorem dX2_ideal_102 : decode cX2_ideal 102 = .ok (.iaload, 1) := by decide +kernel
theorem dX2_ideal_103 : decode cX2_ideal 103 = .ok (.iconst 1, 1) := by decide +kernel
theorem dX2_ideal_104 : decode cX2_ideal 104 = .ok (.if_icmp .ne 25, 3) := by decide +kernel
theorem dX2_ideal_107 : decode cX2_ideal 107 = .ok (.aload_n 0, 1) := by decide +kernel
theorem dX2_ideal_108 : decode cX2_ideal 108 = .ok (.getfield 20, 3) := by decide +kernel
theorem dX2_ideal_111 : decode cX2_ideal 111 = .ok (.iload_n 2, 1) := by decide +kernel
theorem dX2_ideal_112 : decode cX2_ideal 112 = .ok (.iaload, 1) := by decide +kernel
theorem dX2_ideal_113 : decode cX2_ideal 113 = .ok (.aload_n 0, 1) := by decide +kernel
theorem dX2_ideal_114 : decode cX2_ideal 114 = .ok (.iload_n 2, 1) := by decide +kernel
theorem dX2_ideal_115 : decode cX2_ideal 115 = .ok (.sipush 255, 3) := by decide +kernel
theorem dX2_ideal_118 : decode cX2_ideal 118 = .ok (.iadd, 1) := by decide +kernel
theorem dX2_ideal_119 : decode cX2_ideal 119 = .ok (.sipush 256, 3) := by decide +kernel
theorem dX2_ideal_122 : decode cX2_ideal 122 = .ok (.irem, 1) := by decide +kernel
theorem dX2_ideal_123 : decode cX2_ideal 123 = .ok (.invokevirtual 81, 3) := by decide +kernel
theorem dX2_ideal_126 : decode cX2_ideal 126 = .ok (.if_icmp .ne 7, 3) := by decide +kernel
theorem dX2_ideal_129 : decode cX2_ideal 129 = .ok (.iconst 1, 1) := by decide +kernel
theorem dX2_ideal_130 : decode cX2_ideal 130 = .ok (.goto 4, 3) := by decide +kernel
theorem dX2_ideal_133 : decode cX2_ideal 133 = .ok (.iconst 0, 1) := by decide +kernel
theorem dX2_ideal_134 : decode cX2_ideal 134 = .ok (.istore_n 1, 1) := by decide +kernel
theorem dX2_ideal_135 : decode cX2_ideal 135 = .ok (.iinc 2 1, 3) := by decide +kernel
theorem dX2_ideal_138 : decode cX2_ideal 138 = .ok (.goto (-126), 3) := by decide +kernel
theorem dX2_ideal_141 : decode cX2_ideal 141 = .ok (.iload_n 1, 1) := by decide +kernel
theorem dX2_ideal_142 : decode cX2_ideal 142 = .ok (.ireturn, 1) := by decide +kernel
theorem dX2_sum_0 : decode cX2_sum 0 = .ok (.iconst 0, 1) := by decide +kernel
theorem dX2_sum_1 : decode cX2_sum 1 = .ok (.istore_n 2, 1) := by decide +kernel
theorem dX2_sum_2 : decode cX2_sum 2 = .ok (.iconst 0, 1) := by decide +kernel
theorem dX2_sum_3 : decode cX2_sum 3 = .ok (.istore_n 3, 1) := by decide +kernel
theorem dX2_sum_4 : decode cX2_sum 4 = .ok (.iload_n 3, 1) := by decide +kernel
theorem dX2_sum_5 : decode cX2_sum 5 = .ok (.sipush 256, 3) := by decide +kernel
theorem dX2_sum_8 : decode cX2_sum 8 = .ok (.if_icmp .ge 221, 3) := by decide +kernel
theorem dX2_sum_11 : decode cX2_sum 11 = .ok (.iload_n 1, 1) := by decide +kernel
theorem dX2_sum_12 : decode cX2_sum 12 = .ok (.iconst 1, 1) := by decide +kernel
theorem dX2_sum_13 : decode cX2_sum 13 = .ok (.if_icmp .ne 19, 3) := by decide +kernel
theorem dX2_sum_16 : decode cX2_sum 16 = .ok (.aload_n 0, 1) := by decide +kernel
theorem dX2_sum_17 : decode cX2_sum 17 = .ok (.getfield 13, 3) := by decide +kernel
theorem dX2_sum_20 : decode cX2_sum 20 = .ok (.iload_n 3, 1) := by decide +kernel
theorem dX2_sum_21 : decode cX2_sum 21 = .ok (.iaload, 1) := by decide +kernel
theorem dX2_sum_22 : decode cX2_sum 22 = .ok (.iconst 2, 1) := by decide +kernel
theorem dX2_sum_23 : decode cX2_sum 23 = .ok (.if_icmp .ne 9, 3) := by decide +kernel
theorem dX2_sum_26 : decode cX2_sum 26 = .ok (.iload_n 2, 1) := by decide +kernel
theorem dX2_sum_27 : decode cX2_sum 27 = .ok (.iconst 1, 1) := by decide +kernel
theorem dX2_sum_28 : decode cX2_sum 28 = .ok (.iadd, 1) := by decide +kernel
theorem dX2_sum_29 : decode cX2_sum 29 = .ok (.goto 4, 3) := by decide +kernel
theorem dX2_sum_32 : decode cX2_sum 32 = .ok (.iload_n 2, 1) := by decide +kernel
theorem dX2_sum_33 : decode cX2_sum 33 = .ok (.istore_n 2, 1) := by decide +kernel
theorem dX2_sum_34 : decode cX2_sum 34 = .ok (.aload_n 0, 1) := by decide +kernel
theorem dX2_sum_35 : decode cX2_sum 35 = .ok (.getfield 13, 3) := by decide +kernel
theorem dX2_sum_38 : decode cX2_sum 38 = .ok (.iload_n 3, 1) := by decide +kernel
theorem dX2_sum_39 : decode cX2_sum 39 = .ok (.iaload, 1) := by decide +kernel
theorem dX2_sum_40 : decode cX2_sum 40 = .ok (.iconst 1, 1) := by decide +kernel
theorem dX2_sum_41 : decode cX2_sum 41 = .ok (.if_icmp .ne 14, 3) := by decide +kernel
theorem dX2_sum_44 : decode cX2_sum 44 = .ok (.aload_n 0, 1) := by decide +kernel
theorem dX2_sum_45 : decode cX2_sum 45 = .ok (.getfield 54, 3) := by decide +kernel
theorem dX2_sum_48 : decode cX2_sum 48 = .ok (.ifCond .eq 7, 3) := by decide +kernel
theorem dX2_sum_51 : decode cX2_sum 51 = .ok (.iconst 1, 1) := by decide +kernel
theorem dX2_sum_52 : decode cX2_sum 52 = .ok (.goto 4, 3) := by decide +kernel
theorem dX2_sum_55 : decode cX2_sum 55 = .ok (.iconst 0, 1) := by decide +kernel
theorem dX2_sum_56 : decode cX2_sum 56 = .ok (.istore 4, 2) := by decide +kernel
theorem dX2_sum_58 : decode cX2_sum 58 = .ok (.iconst 0, 1) := by decide +kernel
theorem dX2_sum_59 : decode cX2_sum 59 = .ok (.istore 5, 2) := by decide +kernel
theorem dX2_sum_61 : decode cX2_sum 61 = .ok (.iload 5, 2) := by decide +kernel
theorem dX2_sum_63 : decode cX2_sum 63 = .ok (.bipush 64, 2) := by decide +kernel
theorem dX2_sum_65 : decode cX2_sum 65 = .ok (.if_icmp .ge 42, 3) := by decide +kernel
theorem dX2_sum_68 : decode cX2_sum 68 = .ok (.iload_n 1, 1) := by decide +kernel
theorem dX2_sum_69 : decode cX2_sum 69 = .ok (.iconst 2, 1) := by decide +kernel
theorem dX2_sum_70 : decode cX2_sum 70 = .ok (.if_icmp .ne 37, 3) := by decide +kernel
theorem dX2_sum_73 : decode cX2_sum 73 = .ok (.iload 4, 2) := by decide +kernel
theorem dX2_sum_75 : decode cX2_sum 75 = .ok (.ifCond .eq 32, 3) := by decide +kernel
theorem dX2_sum_78 : decode cX2_sum 78 = .ok (.aload_n 0, 1) := by decide +kernel
theorem dX2_sum_79 : decode cX2_sum 79 = .ok (.getfield 29, 3) := by decide +kernel
theorem dX2_sum_82 : decode cX2_sum 82 = .ok (.bipush 64, 2) := by decide +kernel
theorem dX2_sum_84 : decode cX2_sum 84 = .ok (.iload_n 3, 1) := by decide +kernel
theorem dX2_sum_85 : decode cX2_sum 85 = .ok (.imul, 1) := by decide +kernel
theorem dX2_sum_86 : decode cX2_sum 86 = .ok (.iload 5, 2) := by decide +kernel
theorem dX2_sum_88 : decode cX2_sum 88 = .ok (.iadd, 1) := by decide +kernel
theorem dX2_sum_89 : decode cX2_sum 89 = .ok (.iaload, 1) := by decide +kernel
theorem dX2_sum_90 : decode cX2_sum 90 = .ok (.ifCond .le 9, 3) := by decide +kernel
theorem dX2_sum_93 : decode cX2_sum 93 = .ok (.iload_n 2, 1) := by decide +kernel
theorem dX2_sum_94 : decode cX2_sum 94 = .ok (.iconst 1, 1) := by decide +kernel
theorem dX2_sum_95 : decode cX2_sum 95 = .ok (.iadd, 1) := by decide +kernel
theorem dX2_sum_96 : decode cX2_sum 96 = .ok (.goto 4, 3) := by decide +kernel
theorem dX2_sum_99 : decode cX2_sum 99 = .ok (.iload_n 2, 1) := by decide +kernel
theorem dX2_sum_100 : decode cX2_sum 100 = .ok (.istore_n 2, 1) := by decide +kernel
theorem dX2_sum_101 : decode cX2_sum 101 = .ok (.iinc 5 1, 3) := by decide +kernel
theorem dX2_sum_104 : decode cX2_sum 104 = .ok (.goto (-43), 3) := by decide +kernel
theorem dX2_sum_107 : decode cX2_sum 107 = .ok (.iconst 0, 1) := by decide +kernel
theorem dX2_sum_108 : decode cX2_sum 108 = .ok (.istore 5, 2) := by decide +kernel
theorem dX2_sum_110 : decode cX2_sum 110 = .ok (.iload 5, 2) := by decide +kernel
theorem dX2_sum_112 : decode cX2_sum 112 = .ok (.bipush 8, 2) := by decide +kernel
theorem dX2_sum_114 : decode cX2_sum 114 = .ok (.if_icmp .ge 72, 3) := by decide +kernel
theorem dX2_sum_117 : decode cX2_sum 117 = .ok (.iload_n 1, 1) := by decide +kernel
theorem dX2_sum_118 : decode cX2_sum 118 = .ok (.iconst 3, 1) := by decide +kernel
theorem dX2_sum_119 : decode cX2_sum 119 = .ok (.if_icmp .ne 67, 3) := by decide +kernel
theorem dX2_sum_122 : decode cX2_sum 122 = .ok (.iload 4, 2) := by decide +kernel
theorem dX2_sum_124 : decode cX2_sum 124 = .ok (.ifCond .eq 62, 3) := by decide +kernel
theorem dX2_sum_127 : decode cX2_sum 127 = .ok (.aload_n 0, 1) := by decide +kernel
theorem dX2_sum_128 : decode cX2_sum 128 = .ok (.getfield 23, 3) := by decide +kernel
theorem dX2_sum_131 : decode cX2_sum 131 = .ok (.bipush 8, 2) := by decide +kernel
theorem dX2_sum_133 : decode cX2_sum 133 = .ok (.iload_n 3, 1) := by decide +kernel
theorem dX2_sum_134 : decode cX2_sum 134 = .ok (.imul, 1) := by decide +kernel
theorem dX2_sum_135 : decode cX2_sum 135 = .ok (.iload 5, 2) := by decide +kernel
theorem dX2_sum_137 : decode cX2_sum 137 = .ok (.iadd, 1) := by decide +kernel
theorem dX2_sum_138 : decode cX2_sum 138 = .ok (.iaload, 1) := by decide +kernel
theorem dX2_sum_139 : decode cX2_sum 139 = .ok (.iconst (-1), 1) := by decide +kernel
theorem dX2_sum_140 : decode cX2_sum 140 = .ok (.if_icmp .eq 38, 3) := by decide +kernel
theorem dX2_sum_143 : decode cX2_sum 143 = .ok (.aload_n 0, 1) := by decide +kernel
theorem dX2_sum_144 : decode cX2_sum 144 = .ok (.getfield 23, 3) := by decide +kernel
theorem dX2_sum_147 : decode cX2_sum 147 = .ok (.bipush 8, 2) := by decide +kernel
theorem dX2_sum_149 : decode cX2_sum 149 = .ok (.iload_n 3, 1) := by decide +kernel
theorem dX2_sum_150 : decode cX2_sum 150 = .ok (.imul, 1) := by decide +kernel
theorem dX2_sum_151 : decode cX2_sum 151 = .ok (.iload 5, 2) := by decide +kernel
theorem dX2_sum_153 : decode cX2_sum 153 = .ok (.iadd, 1) := by decide +kernel
theorem dX2_sum_154 : decode cX2_sum 154 = .ok (.iaload, 1) := by decide +kernel
theorem dX2_sum_155 : decode cX2_sum 155 = .ok (.aload_n 0, 1) := by decide +kernel
theorem dX2_sum_156 : decode cX2_sum 156 = .ok (.iload_n 3, 1) := by decide +kernel
theorem dX2_sum_157 : decode cX2_sum 157 = .ok (.iconst 1, 1) := by decide +kernel
theorem dX2_sum_158 : decode cX2_sum 158 = .ok (.iload 5, 2) := by decide +kernel
theorem dX2_sum_160 : decode cX2_sum 160 = .ok (.ishl, 1) := by decide +kernel
theorem dX2_sum_161 : decode cX2_sum 161 = .ok (.iadd, 1) := by decide +kernel
theorem dX2_sum_162 : decode cX2_sum 162 = .ok (.sipush 256, 3) := by decide +kernel
theorem dX2_sum_165 : decode cX2_sum 165 = .ok (.irem, 1) := by decide +kernel
theorem dX2_sum_166 : decode cX2_sum 166 = .ok (.invokevirtual 77, 3) := by decide +kernel
theorem dX2_sum_169 : decode cX2_sum 169 = .ok (.if_icmp .ne 9, 3) := by decide +kernel
theorem dX2_sum_172 : decode cX2_sum 172 = .ok (.iload_n 2, 1) := by decide +kernel
theorem dX2_sum_173 : decode cX2_sum 173 = .ok (.iconst 1, 1) := by decide +kernel
theorem dX2_sum_174 : decode cX2_sum 174 = .ok (.iadd, 1) := by decide +kernel
theorem dX2_sum_175 : decode cX2_sum 175 = .ok (.goto 4, 3) := by decide +kernel
theorem dX2_sum_178 : decode cX2_sum 178 = .ok (.iload_n 2, 1) := by decide +kernel
theorem dX2_sum_179 : decode cX2_sum 179 = .ok (.istore_n 2, 1) := by decide +kernel
theorem dX2_sum_180 : decode cX2_sum 180 = .ok (.iinc 5 1, 3) := by decide +kernel
theorem dX2_sum_183 : decode cX2_sum 183 = .ok (.goto (-73), 3) := by decide +kernel
theorem dX2_sum_186 : decode cX2_sum 186 = .ok (.iload_n 1, 1) := by decide +kernel
theorem dX2_sum_187 : decode cX2_sum 187 = .ok (.iconst 4, 1) := by decide +kernel
theorem dX2_sum_188 : decode cX2_sum 188 = .ok (.if_icmp .ne 33, 3) := by decide +kernel
theorem dX2_sum_191 : decode cX2_sum 191 = .ok (.iload 4, 2) := by decide +kernel
theorem dX2_sum_193 : decode cX2_sum 193 = .ok (.ifCond .eq 28, 3) := by decide +kernel
theorem dX2_sum_196 : decode cX2_sum 196 = .ok (.aload_n 0, 1) := by decide +kernel
theorem dX2_sum_197 : decode cX2_sum 197 = .ok (.iload_n 3, 1) := by decide +kernel
theorem dX2_sum_198 : decode cX2_sum 198 = .ok (.invokevirtual 91, 3) := by decide +kernel
theorem dX2_sum_201 : decode cX2_sum 201 = .ok (.aload_n 0, 1) := by decide +kernel
theorem dX2_sum_202 : decode cX2_sum 202 = .ok (.iload_n 3, 1) := by decide +kernel
theorem dX2_sum_203 : decode cX2_sum 203 = .ok (.iconst 1, 1) := by decide +kernel
theorem dX2_sum_204 : decode cX2_sum 204 = .ok (.iadd, 1) := by decide +kernel
theorem dX2_sum_205 : decode cX2_sum 205 = .ok (.sipush 256, 3) := by decide +kernel
theorem dX2_sum_208 : decode cX2_sum 208 = .ok (.irem, 1) := by decide +kernel
theorem dX2_sum_209 : decode cX2_sum 209 = .ok (.invokevirtual 77, 3) := by decide +kernel
theorem dX2_sum_212 : decode cX2_sum 212 = .ok (.if_icmp .ne 9, 3) := by decide +kernel
theorem dX2_sum_215 : decode cX2_sum 215 = .ok (.iload_n 2, 1) := by decide +kernel
theorem dX2_sum_216 : decode cX2_sum 216 = .ok (.iconst 1, 1) := by decide +kernel
theorem dX2_sum_217 : decode cX2_sum 217 = .ok (.iadd, 1) := by decide +kernel
theorem dX2_sum_218 : decode cX2_sum 218 = .ok (.goto 4, 3) := by decide +kernel
theorem dX2_sum_221 : decode cX2_sum 221 = .ok (.iload_n 2, 1) := by decide +kernel
theorem dX2_sum_222 : decode cX2_sum 222 = .ok (.istore_n 2, 1) := by decide +kernel
theorem dX2_sum_223 : decode cX2_sum 223 = .ok (.iinc 3 1, 3) := by decide +kernel
theorem dX2_sum_226 : decode cX2_sum 226 = .ok (.goto (-222), 3) := by decide +kernel
theorem dX2_sum_229 : decode cX2_sum 229 = .ok (.iload_n 2, 1) := by decide +kernel
theorem dX2_sum_230 : decode cX2_sum 230 = .ok (.ireturn, 1) := by decide +kernel
theorem dX2_count_0 : decode cX2_count 0 = .ok (.aload_n 0, 1) := by decide +kernel
theorem dX2_count_1 : decode cX2_count 1 = .ok (.iload_n 1, 1) := by decide +kernel
theorem dX2_count_2 : decode cX2_count 2 = .ok (.ifCond .lt 13, 3) := by decide +kernel
theorem dX2_count_5 : decode cX2_count 5 = .ok (.iload_n 1, 1) := by decide +kernel
theorem dX2_count_6 : decode cX2_count 6 = .ok (.bipush 7, 2) := by decide +kernel
theorem dX2_count_8 : decode cX2_count 8 = .ok (.if_icmp .gt 7, 3) := by decide +kernel
theorem dX2_count_11 : decode cX2_count 11 = .ok (.iconst 1, 1) := by decide +kernel
theorem dX2_count_12 : decode cX2_count 12 = .ok (.goto 4, 3) := by decide +kernel
theorem dX2_count_15 : decode cX2_count 15 = .ok (.iconst 0, 1) := by decide +kernel
theorem dX2_count_16 : decode cX2_count 16 = .ok (.iconst 1, 1) := by decide +kernel
theorem dX2_count_17 : decode cX2_count 17 = .ok (.iconst 1, 1) := by decide +kernel
theorem dX2_count_18 : decode cX2_count 18 = .ok (.invokevirtual 69, 3) := by decide +kernel
theorem dX2_count_21 : decode cX2_count 21 = .ok (.ifCond .ne 5, 3) := by decide +kernel
theorem dX2_count_24 : decode cX2_count 24 = .ok (.iconst 0, 1) := by decide +kernel
theorem dX2_count_25 : decode cX2_count 25 = .ok (.ireturn, 1) := by decide +kernel
theorem dX2_count_26 : decode cX2_count 26 = .ok (.iload_n 1, 1) := by decide +kernel
theorem dX2_count_27 : decode cX2_count 27 = .ok (.tableswitch 73 0 7 #[45, 73, 73, 73, 73, 50, 63, 68], 45) := by decide +kernel
theorem dX2_count_72 : decode cX2_count 72 = .ok (.aload_n 0, 1) := by decide +kernel
theorem dX2_count_73 : decode cX2_count 73 = .ok (.invokevirtual 65, 3) := by decide +kernel
theorem dX2_count_76 : decode cX2_count 76 = .ok (.ireturn, 1) := by decide +kernel
theorem dX2_count_77 : decode cX2_count 77 = .ok (.aload_n 0, 1) := by decide +kernel
theorem dX2_count_78 : decode cX2_count 78 = .ok (.getfield 54, 3) := by decide +kernel
theorem dX2_count_81 : decode cX2_count 81 = .ok (.ifCond .eq 7, 3) := by decide +kernel
theorem dX2_count_84 : decode cX2_count 84 = .ok (.iconst 1, 1) := by decide +kernel
theorem dX2_count_85 : decode cX2_count 85 = .ok (.goto 4, 3) := by decide +kernel
theorem dX2_count_88 : decode cX2_count 88 = .ok (.iconst 0, 1) := by decide +kernel
theorem dX2_count_89 : decode cX2_count 89 = .ok (.ireturn, 1) := by decide +kernel
theorem dX2_count_90 : decode cX2_count 90 = .ok (.aload_n 0, 1) := by decide +kernel
theorem dX2_count_91 : decode cX2_count 91 = .ok (.getfield 142, 3) := by decide +kernel
theorem dX2_count_94 : decode cX2_count 94 = .ok (.ireturn, 1) := by decide +kernel
theorem dX2_count_95 : decode cX2_count 95 = .ok (.aload_n 0, 1) := by decide +kernel
theorem dX2_count_96 : decode cX2_count 96 = .ok (.getfield 98, 3) := by decide +kernel
theorem dX2_count_99 : decode cX2_count 99 = .ok (.ireturn, 1) := by decide +kernel
theorem dX2_count_100 : decode cX2_count 100 = .ok (.aload_n 0, 1) := by decide +kernel
theorem dX2_count_101 : decode cX2_count 101 = .ok (.iload_n 1, 1) := by decide +kernel
theorem dX2_count_102 : decode cX2_count 102 = .ok (.invokevirtual 148, 3) := by decide +kernel
theorem dX2_count_105 : decode cX2_count 105 = .ok (.ireturn, 1) := by decide +kernel
end
section
theorem dL_depth_0 : decode cL_depth 0 = .ok (.aload_n 2, 1) := by decide +kernel
theorem dL_depth_1 : decode cL_depth 1 = .ok (.iconst 0, 1) := by decide +kernel
theorem dL_depth_2 : decode cL_depth 2 = .ok (.aload_n 0, 1) := by decide +kernel
theorem dL_depth_3 : decode cL_depth 3 = .ok (.iload_n 1, 1) := by decide +kernel
theorem dL_depth_4 : decode cL_depth 4 = .ok (.invokevirtual 7, 3) := by decide +kernel
theorem dL_depth_7 : decode cL_depth 7 = .ok (.i2l, 1) := by decide +kernel
theorem dL_depth_8 : decode cL_depth 8 = .ok (.lastore, 1) := by decide +kernel
theorem dL_depth_9 : decode cL_depth 9 = .ok (.goto 9, 3) := by decide +kernel
theorem dL_depth_12 : decode cL_depth 12 = .ok (.astore_n 3, 1) := by decide +kernel
theorem dL_depth_13 : decode cL_depth 13 = .ok (.iconst 1, 1) := by decide +kernel
theorem dL_depth_14 : decode cL_depth 14 = .ok (.ireturn, 1) := by decide +kernel
theorem dL_depth_15 : decode cL_depth 15 = .ok (.astore_n 3, 1) := by decide +kernel
theorem dL_depth_16 : decode cL_depth 16 = .ok (.iconst 2, 1) := by decide +kernel
theorem dL_depth_17 : decode cL_depth 17 = .ok (.ireturn, 1) := by decide +kernel
theorem dL_depth_18 : decode cL_depth 18 = .ok (.iconst 0, 1) := by decide +kernel
theorem dL_depth_19 : decode cL_depth 19 = .ok (.ireturn, 1) := by decide +kernel
theorem dL_found_0 : decode cL_found 0 = .ok (.aload_n 2, 1) := by decide +kernel
theorem dL_found_1 : decode cL_found 1 = .ok (.iconst 0, 1) := by decide +kernel
theorem dL_found_2 : decode cL_found 2 = .ok (.aload_n 0, 1) := by decide +kernel
theorem dL_found_3 : decode cL_found 3 = .ok (.iload_n 1, 1) := by decide +kernel
theorem dL_found_4 : decode cL_found 4 = .ok (.invokevirtual 17, 3) := by decide +kernel
theorem dL_found_7 : decode cL_found 7 = .ok (.i2l, 1) := by decide +kernel
theorem dL_found_8 : decode cL_found 8 = .ok (.lastore, 1) := by decide +kernel
theorem dL_found_9 : decode cL_found 9 = .ok (.goto 9, 3) := by decide +kernel
theorem dL_found_12 : decode cL_found 12 = .ok (.astore_n 3, 1) := by decide +kernel
theorem dL_found_13 : decode cL_found 13 = .ok (.iconst 1, 1) := by decide +kernel
theorem dL_found_14 : decode cL_found 14 = .ok (.ireturn, 1) := by decide +kernel
theorem dL_found_15 : decode cL_found 15 = .ok (.astore_n 3, 1) := by decide +kernel
theorem dL_found_16 : decode cL_found 16 = .ok (.iconst 2, 1) := by decide +kernel
theorem dL_found_17 : decode cL_found 17 = .ok (.ireturn, 1) := by decide +kernel
theorem dL_found_18 : decode cL_found 18 = .ok (.iconst 0, 1) := by decide +kernel
theorem dL_found_19 : decode cL_found 19 = .ok (.ireturn, 1) := by decide +kernel
theorem dL_open_0 : decode cL_open 0 = .ok (.aload_n 1, 1) := by decide +kernel
theorem dL_open_1 : decode cL_open 1 = .ok (.iconst 0, 1) := by decide +kernel
theorem dL_open_2 : decode cL_open 2 = .ok (.aload_n 0, 1) := by decide +kernel
theorem dL_open_3 : decode cL_open 3 = .ok (.invokevirtual 20, 3) := by decide +kernel
theorem dL_open_6 : decode cL_open 6 = .ok (.i2l, 1) := by decide +kernel
theorem dL_open_7 : decode cL_open 7 = .ok (.lastore, 1) := by decide +kernel
theorem dL_open_8 : decode cL_open 8 = .ok (.goto 6, 3) := by decide +kernel
theorem dL_open_11 : decode cL_open 11 = .ok (.astore_n 2, 1) := by decide +kernel
theorem dL_open_12 : decode cL_open 12 = .ok (.iconst 1, 1) := by decide +kernel
theorem dL_open_13 : decode cL_open 13 = .ok (.ireturn, 1) := by decide +kernel
theorem dL_open_14 : decode cL_open 14 = .ok (.iconst 0, 1) := by decide +kernel
theorem dL_open_15 : decode cL_open 15 = .ok (.ireturn, 1) := by decide +kernel
theorem dL_join_0 : decode cL_join 0 = .ok (.aload_n 3, 1) := by decide +kernel
theorem dL_join_1 : decode cL_join 1 = .ok (.iconst 0, 1) := by decide +kernel
theorem dL_join_2 : decode cL_join 2 = .ok (.aload_n 0, 1) := by decide +kernel
theorem dL_join_3 : decode cL_join 3 = .ok (.iload_n 1, 1) := by decide +kernel
theorem dL_join_4 : decode cL_join 4 = .ok (.iload_n 2, 1) := by decide +kernel
theorem dL_join_5 : decode cL_join 5 = .ok (.invokevirtual 24, 3) := by decide +kernel
theorem dL_join_8 : decode cL_join 8 = .ok (.i2l, 1) := by decide +kernel
theorem dL_join_9 : decode cL_join 9 = .ok (.lastore, 1) := by decide +kernel
theorem dL_join_10 : decode cL_join 10 = .ok (.goto 15, 3) := by decide +kernel
theorem dL_join_13 : decode cL_join 13 = .ok (.astore 4, 2) := by decide +kernel
theorem dL_join_15 : decode cL_join 15 = .ok (.iconst 1, 1) := by decide +kernel
theorem dL_join_16 : decode cL_join 16 = .ok (.ireturn, 1) := by decide +kernel
theorem dL_join_17 : decode cL_join 17 = .ok (.astore 4, 2) := by decide +kernel
theorem dL_join_19 : decode cL_join 19 = .ok (.iconst 2, 1) := by decide +kernel
theorem dL_join_20 : decode cL_join 20 = .ok (.ireturn, 1) := by decide +kernel
theorem dL_join_21 : decode cL_join 21 = .ok (.astore 4, 2) := by decide +kernel
theorem dL_join_23 : decode cL_join 23 = .ok (.iconst 3, 1) := by decide +kernel
theorem dL_join_24 : decode cL_join 24 = .ok (.ireturn, 1) := by decide +kernel
theorem dL_join_25 : decode cL_join 25 = .ok (.iconst 0, 1) := by decide +kernel
theorem dL_join_26 : decode cL_join 26 = .ok (.ireturn, 1) := by decide +kernel
theorem dL_fail_0 : decode cL_fail 0 = .ok (.aload_n 2, 1) := by decide +kernel
theorem dL_fail_1 : decode cL_fail 1 = .ok (.iconst 0, 1) := by decide +kernel
theorem dL_fail_2 : decode cL_fail 2 = .ok (.aload_n 0, 1) := by decide +kernel
theorem dL_fail_3 : decode cL_fail 3 = .ok (.iload_n 1, 1) := by decide +kernel
theorem dL_fail_4 : decode cL_fail 4 = .ok (.invokevirtual 30, 3) := by decide +kernel
theorem dL_fail_7 : decode cL_fail 7 = .ok (.i2l, 1) := by decide +kernel
theorem dL_fail_8 : decode cL_fail 8 = .ok (.lastore, 1) := by decide +kernel
theorem dL_fail_9 : decode cL_fail 9 = .ok (.goto 9, 3) := by decide +kernel
theorem dL_fail_12 : decode cL_fail 12 = .ok (.astore_n 3, 1) := by decide +kernel
theorem dL_fail_13 : decode cL_fail 13 = .ok (.iconst 1, 1) := by decide +kernel
theorem dL_fail_14 : decode cL_fail 14 = .ok (.ireturn, 1) := by decide +kernel
theorem dL_fail_15 : decode cL_fail 15 = .ok (.astore_n 3, 1) := by decide +kernel
theorem dL_fail_16 : decode cL_fail 16 = .ok (.iconst 2, 1) := by decide +kernel
theorem dL_fail_17 : decode cL_fail 17 = .ok (.ireturn, 1) := by decide +kernel
theorem dL_fail_18 : decode cL_fail 18 = .ok (.iconst 0, 1) := by decide +kernel
theorem dL_fail_19 : decode cL_fail 19 = .ok (.ireturn, 1) := by decide +kernel
theorem dL_stabilise_0 : decode cL_stabilise 0 = .ok (.aload_n 2, 1) := by decide +kernel
theorem dL_stabilise_1 : decode cL_stabilise 1 = .ok (.iconst 0, 1) := by decide +kernel
theorem dL_stabilise_2 : decode cL_stabilise 2 = .ok (.aload_n 0, 1) := by decide +kernel
theorem dL_stabilise_3 : decode cL_stabilise 3 = .ok (.iload_n 1, 1) := by decide +kernel
theorem dL_stabilise_4 : decode cL_stabilise 4 = .ok (.invokevirtual 33, 3) := by decide +kernel
theorem dL_stabilise_7 : decode cL_stabilise 7 = .ok (.i2l, 1) := by decide +kernel
theorem dL_stabilise_8 : decode cL_stabilise 8 = .ok (.lastore, 1) := by decide +kernel
theorem dL_stabilise_9 : decode cL_stabilise 9 = .ok (.goto 6, 3) := by decide +kernel
theorem dL_stabilise_12 : decode cL_stabilise 12 = .ok (.astore_n 3, 1) := by decide +kernel
theorem dL_stabilise_13 : decode cL_stabilise 13 = .ok (.iconst 1, 1) := by decide +kernel
theorem dL_stabilise_14 : decode cL_stabilise 14 = .ok (.ireturn, 1) := by decide +kernel
theorem dL_stabilise_15 : decode cL_stabilise 15 = .ok (.iconst 0, 1) := by decide +kernel
theorem dL_stabilise_16 : decode cL_stabilise 16 = .ok (.ireturn, 1) := by decide +kernel
theorem dL_mend_0 : decode cL_mend 0 = .ok (.aload_n 3, 1) := by decide +kernel
theorem dL_mend_1 : decode cL_mend 1 = .ok (.iconst 0, 1) := by decide +kernel
theorem dL_mend_2 : decode cL_mend 2 = .ok (.aload_n 0, 1) := by decide +kernel
theorem dL_mend_3 : decode cL_mend 3 = .ok (.iload_n 1, 1) := by decide +kernel
theorem dL_mend_4 : decode cL_mend 4 = .ok (.iload_n 2, 1) := by decide +kernel
theorem dL_mend_5 : decode cL_mend 5 = .ok (.invokevirtual 36, 3) := by decide +kernel
theorem dL_mend_8 : decode cL_mend 8 = .ok (.i2l, 1) := by decide +kernel
theorem dL_mend_9 : decode cL_mend 9 = .ok (.lastore, 1) := by decide +kernel
theorem dL_mend_10 : decode cL_mend 10 = .ok (.goto 7, 3) := by decide +kernel
theorem dL_mend_13 : decode cL_mend 13 = .ok (.astore 4, 2) := by decide +kernel
theorem dL_mend_15 : decode cL_mend 15 = .ok (.iconst 1, 1) := by decide +kernel
theorem dL_mend_16 : decode cL_mend 16 = .ok (.ireturn, 1) := by decide +kernel
theorem dL_mend_17 : decode cL_mend 17 = .ok (.iconst 0, 1) := by decide +kernel
theorem dL_mend_18 : decode cL_mend 18 = .ok (.ireturn, 1) := by decide +kernel
theorem dL_handOver_0 : decode cL_handOver 0 = .ok (.aload_n 2, 1) := by decide +kernel
theorem dL_handOver_1 : decode cL_handOver 1 = .ok (.iconst 0, 1) := by decide +kernel
theorem dL_handOver_2 : decode cL_handOver 2 = .ok (.aload_n 0, 1) := by decide +kernel
theorem dL_handOver_3 : decode cL_handOver 3 = .ok (.iload_n 1, 1) := by decide +kernel
theorem dL_handOver_4 : decode cL_handOver 4 = .ok (.invokevirtual 39, 3) := by decide +kernel
theorem dL_handOver_7 : decode cL_handOver 7 = .ok (.i2l, 1) := by decide +kernel
theorem dL_handOver_8 : decode cL_handOver 8 = .ok (.lastore, 1) := by decide +kernel
theorem dL_handOver_9 : decode cL_handOver 9 = .ok (.goto 6, 3) := by decide +kernel
theorem dL_handOver_12 : decode cL_handOver 12 = .ok (.astore_n 3, 1) := by decide +kernel
theorem dL_handOver_13 : decode cL_handOver 13 = .ok (.iconst 1, 1) := by decide +kernel
theorem dL_handOver_14 : decode cL_handOver 14 = .ok (.ireturn, 1) := by decide +kernel
theorem dL_handOver_15 : decode cL_handOver 15 = .ok (.iconst 0, 1) := by decide +kernel
theorem dL_handOver_16 : decode cL_handOver 16 = .ok (.ireturn, 1) := by decide +kernel
theorem dL_spread_0 : decode cL_spread 0 = .ok (.aload_n 2, 1) := by decide +kernel
theorem dL_spread_1 : decode cL_spread 1 = .ok (.iconst 0, 1) := by decide +kernel
theorem dL_spread_2 : decode cL_spread 2 = .ok (.aload_n 0, 1) := by decide +kernel
theorem dL_spread_3 : decode cL_spread 3 = .ok (.iload_n 1, 1) := by decide +kernel
theorem dL_spread_4 : decode cL_spread 4 = .ok (.invokevirtual 42, 3) := by decide +kernel
theorem dL_spread_7 : decode cL_spread 7 = .ok (.i2l, 1) := by decide +kernel
theorem dL_spread_8 : decode cL_spread 8 = .ok (.lastore, 1) := by decide +kernel
theorem dL_spread_9 : decode cL_spread 9 = .ok (.goto 6, 3) := by decide +kernel
theorem dL_spread_12 : decode cL_spread 12 = .ok (.astore_n 3, 1) := by decide +kernel
theorem dL_spread_13 : decode cL_spread 13 = .ok (.iconst 1, 1) := by decide +kernel
theorem dL_spread_14 : decode cL_spread 14 = .ok (.ireturn, 1) := by decide +kernel
theorem dL_spread_15 : decode cL_spread 15 = .ok (.iconst 0, 1) := by decide +kernel
theorem dL_spread_16 : decode cL_spread 16 = .ok (.ireturn, 1) := by decide +kernel
theorem dL_rounds_0 : decode cL_rounds 0 = .ok (.aload_n 2, 1) := by decide +kernel
theorem dL_rounds_1 : decode cL_rounds 1 = .ok (.iconst 0, 1) := by decide +kernel
theorem dL_rounds_2 : decode cL_rounds 2 = .ok (.aload_n 0, 1) := by decide +kernel
theorem dL_rounds_3 : decode cL_rounds 3 = .ok (.iload_n 1, 1) := by decide +kernel
theorem dL_rounds_4 : decode cL_rounds 4 = .ok (.invokevirtual 45, 3) := by decide +kernel
theorem dL_rounds_7 : decode cL_rounds 7 = .ok (.i2l, 1) := by decide +kernel
theorem dL_rounds_8 : decode cL_rounds 8 = .ok (.lastore, 1) := by decide +kernel
theorem dL_rounds_9 : decode cL_rounds 9 = .ok (.goto 9, 3) := by decide +kernel
theorem dL_rounds_12 : decode cL_rounds 12 = .ok (.astore_n 3, 1) := by decide +kernel
theorem dL_rounds_13 : decode cL_rounds 13 = .ok (.iconst 1, 1) := by decide +kernel
theorem dL_rounds_14 : decode cL_rounds 14 = .ok (.ireturn, 1) := by decide +kernel
theorem dL_rounds_15 : decode cL_rounds 15 = .ok (.astore_n 3, 1) := by decide +kernel
theorem dL_rounds_16 : decode cL_rounds 16 = .ok (.iconst 2, 1) := by decide +kernel
theorem dL_rounds_17 : decode cL_rounds 17 = .ok (.ireturn, 1) := by decide +kernel
theorem dL_rounds_18 : decode cL_rounds 18 = .ok (.iconst 0, 1) := by decide +kernel
theorem dL_rounds_19 : decode cL_rounds 19 = .ok (.ireturn, 1) := by decide +kernel
theorem dL_look_0 : decode cL_look 0 = .ok (.aload_n 3, 1) := by decide +kernel
theorem dL_look_1 : decode cL_look 1 = .ok (.iconst 0, 1) := by decide +kernel
theorem dL_look_2 : decode cL_look 2 = .ok (.aload_n 0, 1) := by decide +kernel
theorem dL_look_3 : decode cL_look 3 = .ok (.iload_n 1, 1) := by decide +kernel
theorem dL_look_4 : decode cL_look 4 = .ok (.iload_n 2, 1) := by decide +kernel
theorem dL_look_5 : decode cL_look 5 = .ok (.invokevirtual 48, 3) := by decide +kernel
theorem dL_look_8 : decode cL_look 8 = .ok (.i2l, 1) := by decide +kernel
theorem dL_look_9 : decode cL_look 9 = .ok (.lastore, 1) := by decide +kernel
theorem dL_look_10 : decode cL_look 10 = .ok (.goto 11, 3) := by decide +kernel
theorem dL_look_13 : decode cL_look 13 = .ok (.astore 4, 2) := by decide +kernel
theorem dL_look_15 : decode cL_look 15 = .ok (.iconst 1, 1) := by decide +kernel
theorem dL_look_16 : decode cL_look 16 = .ok (.ireturn, 1) := by decide +kernel
theorem dL_look_17 : decode cL_look 17 = .ok (.astore 4, 2) := by decide +kernel
theorem dL_look_19 : decode cL_look 19 = .ok (.iconst 2, 1) := by decide +kernel
theorem dL_look_20 : decode cL_look 20 = .ok (.ireturn, 1) := by decide +kernel
theorem dL_look_21 : decode cL_look 21 = .ok (.iconst 0, 1) := by decide +kernel
theorem dL_look_22 : decode cL_look 22 = .ok (.ireturn, 1) := by decide +kernel
theorem dL_hop_0 : decode cL_hop 0 = .ok (.aload_n 2, 1) := by decide +kernel
theorem dL_hop_1 : decode cL_hop 1 = .ok (.iconst 0, 1) := by decide +kernel
theorem dL_hop_2 : decode cL_hop 2 = .ok (.aload_n 0, 1) := by decide +kernel
theorem dL_hop_3 : decode cL_hop 3 = .ok (.iload_n 1, 1) := by decide +kernel
theorem dL_hop_4 : decode cL_hop 4 = .ok (.invokevirtual 51, 3) := by decide +kernel
theorem dL_hop_7 : decode cL_hop 7 = .ok (.i2l, 1) := by decide +kernel
theorem dL_hop_8 : decode cL_hop 8 = .ok (.lastore, 1) := by decide +kernel
theorem dL_hop_9 : decode cL_hop 9 = .ok (.goto 6, 3) := by decide +kernel
theorem dL_hop_12 : decode cL_hop 12 = .ok (.astore_n 3, 1) := by decide +kernel
theorem dL_hop_13 : decode cL_hop 13 = .ok (.iconst 1, 1) := by decide +kernel
theorem dL_hop_14 : decode cL_hop 14 = .ok (.ireturn, 1) := by decide +kernel
theorem dL_hop_15 : decode cL_hop 15 = .ok (.iconst 0, 1) := by decide +kernel
theorem dL_hop_16 : decode cL_hop 16 = .ok (.ireturn, 1) := by decide +kernel
theorem dL_put_0 : decode cL_put 0 = .ok (.aload 4, 2) := by decide +kernel
theorem dL_put_2 : decode cL_put 2 = .ok (.iconst 0, 1) := by decide +kernel
theorem dL_put_3 : decode cL_put 3 = .ok (.aload_n 0, 1) := by decide +kernel
theorem dL_put_4 : decode cL_put 4 = .ok (.iload_n 1, 1) := by decide +kernel
theorem dL_put_5 : decode cL_put 5 = .ok (.iload_n 2, 1) := by decide +kernel
theorem dL_put_6 : decode cL_put 6 = .ok (.iload_n 3, 1) := by decide +kernel
theorem dL_put_7 : decode cL_put 7 = .ok (.invokevirtual 54, 3) := by decide +kernel
theorem dL_put_10 : decode cL_put 10 = .ok (.i2l, 1) := by decide +kernel
theorem dL_put_11 : decode cL_put 11 = .ok (.lastore, 1) := by decide +kernel
theorem dL_put_12 : decode cL_put 12 = .ok (.goto 11, 3) := by decide +kernel
theorem dL_put_15 : decode cL_put 15 = .ok (.astore 5, 2) := by decide +kernel
theorem dL_put_17 : decode cL_put 17 = .ok (.iconst 1, 1) := by decide +kernel
theorem dL_put_18 : decode cL_put 18 = .ok (.ireturn, 1) := by decide +kernel
theorem dL_put_19 : decode cL_put 19 = .ok (.astore 5, 2) := by decide +kernel
theorem dL_put_21 : decode cL_put 21 = .ok (.iconst 2, 1) := by decide +kernel
theorem dL_put_22 : decode cL_put 22 = .ok (.ireturn, 1) := by decide +kernel
theorem dL_put_23 : decode cL_put 23 = .ok (.iconst 0, 1) := by decide +kernel
theorem dL_put_24 : decode cL_put 24 = .ok (.ireturn, 1) := by decide +kernel
theorem dL_get_0 : decode cL_get 0 = .ok (.aload_n 3, 1) := by decide +kernel
theorem dL_get_1 : decode cL_get 1 = .ok (.iconst 0, 1) := by decide +kernel
theorem dL_get_2 : decode cL_get 2 = .ok (.aload_n 0, 1) := by decide +kernel
theorem dL_get_3 : decode cL_get 3 = .ok (.iload_n 1, 1) := by decide +kernel
theorem dL_get_4 : decode cL_get 4 = .ok (.iload_n 2, 1) := by decide +kernel
theorem dL_get_5 : decode cL_get 5 = .ok (.invokevirtual 58, 3) := by decide +kernel
theorem dL_get_8 : decode cL_get 8 = .ok (.i2l, 1) := by decide +kernel
theorem dL_get_9 : decode cL_get 9 = .ok (.lastore, 1) := by decide +kernel
theorem dL_get_10 : decode cL_get 10 = .ok (.goto 7, 3) := by decide +kernel
theorem dL_get_13 : decode cL_get 13 = .ok (.astore 4, 2) := by decide +kernel
theorem dL_get_15 : decode cL_get 15 = .ok (.iconst 1, 1) := by decide +kernel
theorem dL_get_16 : decode cL_get 16 = .ok (.ireturn, 1) := by decide +kernel
theorem dL_get_17 : decode cL_get 17 = .ok (.iconst 0, 1) := by decide +kernel
theorem dL_get_18 : decode cL_get 18 = .ok (.ireturn, 1) := by decide +kernel
theorem dL_held_0 : decode cL_held 0 = .ok (.aload 4, 2) := by decide +kernel
theorem dL_held_2 : decode cL_held 2 = .ok (.iconst 0, 1) := by decide +kernel
theorem dL_held_3 : decode cL_held 3 = .ok (.aload_n 0, 1) := by decide +kernel
theorem dL_held_4 : decode cL_held 4 = .ok (.iload_n 1, 1) := by decide +kernel
theorem dL_held_5 : decode cL_held 5 = .ok (.iload_n 2, 1) := by decide +kernel
theorem dL_held_6 : decode cL_held 6 = .ok (.iload_n 3, 1) := by decide +kernel
theorem dL_held_7 : decode cL_held 7 = .ok (.invokevirtual 61, 3) := by decide +kernel
theorem dL_held_10 : decode cL_held 10 = .ok (.i2l, 1) := by decide +kernel
theorem dL_held_11 : decode cL_held 11 = .ok (.lastore, 1) := by decide +kernel
theorem dL_held_12 : decode cL_held 12 = .ok (.goto 11, 3) := by decide +kernel
theorem dL_held_15 : decode cL_held 15 = .ok (.astore 5, 2) := by decide +kernel
theorem dL_held_17 : decode cL_held 17 = .ok (.iconst 1, 1) := by decide +kernel
theorem dL_held_18 : decode cL_held 18 = .ok (.ireturn, 1) := by decide +kernel
theorem dL_held_19 : decode cL_held 19 = .ok (.astore 5, 2) := by decide +kernel
theorem dL_held_21 : decode cL_held 21 = .ok (.iconst 2, 1) := by decide +kernel
theorem dL_held_22 : decode cL_held 22 = .ok (.ireturn, 1) := by decide +kernel
theorem dL_held_23 : decode cL_held 23 = .ok (.iconst 0, 1) := by decide +kernel
theorem dL_held_24 : decode cL_held 24 = .ok (.ireturn, 1) := by decide +kernel
theorem dL_known_0 : decode cL_known 0 = .ok (.aload_n 3, 1) := by decide +kernel
theorem dL_known_1 : decode cL_known 1 = .ok (.iconst 0, 1) := by decide +kernel
theorem dL_known_2 : decode cL_known 2 = .ok (.aload_n 0, 1) := by decide +kernel
theorem dL_known_3 : decode cL_known 3 = .ok (.iload_n 1, 1) := by decide +kernel
theorem dL_known_4 : decode cL_known 4 = .ok (.iload_n 2, 1) := by decide +kernel
theorem dL_known_5 : decode cL_known 5 = .ok (.invokevirtual 64, 3) := by decide +kernel
theorem dL_known_8 : decode cL_known 8 = .ok (.i2l, 1) := by decide +kernel
theorem dL_known_9 : decode cL_known 9 = .ok (.lastore, 1) := by decide +kernel
theorem dL_known_10 : decode cL_known 10 = .ok (.goto 7, 3) := by decide +kernel
theorem dL_known_13 : decode cL_known 13 = .ok (.astore 4, 2) := by decide +kernel
theorem dL_known_15 : decode cL_known 15 = .ok (.iconst 1, 1) := by decide +kernel
theorem dL_known_16 : decode cL_known 16 = .ok (.ireturn, 1) := by decide +kernel
theorem dL_known_17 : decode cL_known 17 = .ok (.iconst 0, 1) := by decide +kernel
theorem dL_known_18 : decode cL_known 18 = .ok (.ireturn, 1) := by decide +kernel
theorem dL_owner_0 : decode cL_owner 0 = .ok (.aload_n 2, 1) := by decide +kernel
theorem dL_owner_1 : decode cL_owner 1 = .ok (.iconst 0, 1) := by decide +kernel
theorem dL_owner_2 : decode cL_owner 2 = .ok (.aload_n 0, 1) := by decide +kernel
theorem dL_owner_3 : decode cL_owner 3 = .ok (.iload_n 1, 1) := by decide +kernel
theorem dL_owner_4 : decode cL_owner 4 = .ok (.invokevirtual 67, 3) := by decide +kernel
theorem dL_owner_7 : decode cL_owner 7 = .ok (.i2l, 1) := by decide +kernel
theorem dL_owner_8 : decode cL_owner 8 = .ok (.lastore, 1) := by decide +kernel
theorem dL_owner_9 : decode cL_owner 9 = .ok (.goto 6, 3) := by decide +kernel
theorem dL_owner_12 : decode cL_owner 12 = .ok (.astore_n 3, 1) := by decide +kernel
theorem dL_owner_13 : decode cL_owner 13 = .ok (.iconst 1, 1) := by decide +kernel
theorem dL_owner_14 : decode cL_owner 14 = .ok (.ireturn, 1) := by decide +kernel
theorem dL_owner_15 : decode cL_owner 15 = .ok (.iconst 0, 1) := by decide +kernel
theorem dL_owner_16 : decode cL_owner 16 = .ok (.ireturn, 1) := by decide +kernel
theorem dL_count_0 : decode cL_count 0 = .ok (.aload_n 2, 1) := by decide +kernel
theorem dL_count_1 : decode cL_count 1 = .ok (.iconst 0, 1) := by decide +kernel
theorem dL_count_2 : decode cL_count 2 = .ok (.aload_n 0, 1) := by decide +kernel
theorem dL_count_3 : decode cL_count 3 = .ok (.iload_n 1, 1) := by decide +kernel
theorem dL_count_4 : decode cL_count 4 = .ok (.invokevirtual 70, 3) := by decide +kernel
theorem dL_count_7 : decode cL_count 7 = .ok (.i2l, 1) := by decide +kernel
theorem dL_count_8 : decode cL_count 8 = .ok (.lastore, 1) := by decide +kernel
theorem dL_count_9 : decode cL_count 9 = .ok (.goto 6, 3) := by decide +kernel
theorem dL_count_12 : decode cL_count 12 = .ok (.astore_n 3, 1) := by decide +kernel
theorem dL_count_13 : decode cL_count 13 = .ok (.iconst 1, 1) := by decide +kernel
theorem dL_count_14 : decode cL_count 14 = .ok (.ireturn, 1) := by decide +kernel
theorem dL_count_15 : decode cL_count 15 = .ok (.iconst 0, 1) := by decide +kernel
theorem dL_count_16 : decode cL_count 16 = .ok (.ireturn, 1) := by decide +kernel
theorem dL_law_0 : decode cL_law 0 = .ok (.new 8, 3) := by decide +kernel
theorem dL_law_3 : decode cL_law 3 = .ok (.dup, 1) := by decide +kernel
theorem dL_law_4 : decode cL_law 4 = .ok (.invokespecial 73, 3) := by decide +kernel
theorem dL_law_7 : decode cL_law 7 = .ok (.astore_n 1, 1) := by decide +kernel
theorem dL_law_8 : decode cL_law 8 = .ok (.new 74, 3) := by decide +kernel
theorem dL_law_11 : decode cL_law 11 = .ok (.dup, 1) := by decide +kernel
theorem dL_law_12 : decode cL_law 12 = .ok (.invokespecial 76, 3) := by decide +kernel
theorem dL_law_15 : decode cL_law 15 = .ok (.astore_n 2, 1) := by decide +kernel
theorem dL_law_16 : decode cL_law 16 = .ok (.iconst 1, 1) := by decide +kernel
theorem dL_law_17 : decode cL_law 17 = .ok (.newarray .long, 2) := by decide +kernel
theorem dL_law_19 : decode cL_law 19 = .ok (.astore_n 3, 1) := by decide +kernel
theorem dL_law_20 : decode cL_law 20 = .ok (.iconst 0, 1) := by decide +kernel
theorem dL_law_21 : decode cL_law 21 = .ok (.istore 4, 2) := by decide +kernel
theorem dL_law_23 : decode cL_law 23 = .ok (.iload 4, 2) := by decide +kernel
theorem dL_law_25 : decode cL_law 25 = .ok (.aload_n 0, 1) := by decide +kernel
theorem dL_law_26 : decode cL_law 26 = .ok (.arraylength, 1) := by decide +kernel
theorem dL_law_27 : decode cL_law 27 = .ok (.iconst 4, 1) := by decide +kernel
theorem dL_law_28 : decode cL_law 28 = .ok (.isub, 1) := by decide +kernel
theorem dL_law_29 : decode cL_law 29 = .ok (.if_icmp .gt 1222, 3) := by decide +kernel
theorem dL_law_32 : decode cL_law 32 = .ok (.aload_n 0, 1) := by decide +kernel
theorem dL_law_33 : decode cL_law 33 = .ok (.iload 4, 2) := by decide +kernel
theorem dL_law_35 : decode cL_law 35 = .ok (.iaload, 1) := by decide +kernel
theorem dL_law_36 : decode cL_law 36 = .ok (.bipush 31, 2) := by decide +kernel
theorem dL_law_38 : decode cL_law 38 = .ok (.iand, 1) := by decide +kernel
theorem dL_law_39 : decode cL_law 39 = .ok (.tableswitch 1206 0 18 #[89, 145, 201, 245, 313, 369, 425, 493, 549, 605, 661, 729, 785, 865, 933, 1013, 1081, 1137, 1150], 89) := by decide +kernel
theorem dL_law_128 : decode cL_law 128 = .ok (.aload_n 1, 1) := by decide +kernel
theorem dL_law_129 : decode cL_law 129 = .ok (.aload_n 0, 1) := by decide +kernel
theorem dL_law_130 : decode cL_law 130 = .ok (.iload 4, 2) := by decide +kernel
theorem dL_law_132 : decode cL_law 132 = .ok (.iconst 1, 1) := by decide +kernel
theorem dL_law_133 : decode cL_law 133 = .ok (.iadd, 1) := by decide +kernel
theorem dL_law_134 : decode cL_law 134 = .ok (.iaload, 1) := by decide +kernel
theorem dL_law_135 : decode cL_law 135 = .ok (.aload_n 3, 1) := by decide +kernel
theorem dL_law_136 : decode cL_law 136 = .ok (.invokestatic 77, 3) := by decide +kernel
theorem dL_law_139 : decode cL_law 139 = .ok (.istore 5, 2) := by decide +kernel
theorem dL_law_141 : decode cL_law 141 = .ok (.aload_n 2, 1) := by decide +kernel
theorem dL_law_142 : decode cL_law 142 = .ok (.aload_n 0, 1) := by decide +kernel
theorem dL_law_143 : decode cL_law 143 = .ok (.iload 4, 2) := by decide +kernel
theorem dL_law_145 : decode cL_law 145 = .ok (.iconst 1, 1) := by decide +kernel
theorem dL_law_146 : decode cL_law 146 = .ok (.iadd, 1) := by decide +kernel
theorem dL_law_147 : decode cL_law 147 = .ok (.iaload, 1) := by decide +kernel
theorem dL_law_148 : decode cL_law 148 = .ok (.invokevirtual 82, 3) := by decide +kernel
theorem dL_law_151 : decode cL_law 151 = .ok (.istore 6, 2) := by decide +kernel
theorem dL_law_153 : decode cL_law 153 = .ok (.aload_n 2, 1) := by decide +kernel
theorem dL_law_154 : decode cL_law 154 = .ok (.invokevirtual 83, 3) := by decide +kernel
theorem dL_law_157 : decode cL_law 157 = .ok (.iload 5, 2) := by decide +kernel
theorem dL_law_159 : decode cL_law 159 = .ok (.if_icmp .eq 5, 3) := by decide +kernel
theorem dL_law_162 : decode cL_law 162 = .ok (.iconst 0, 1) := by decide +kernel
theorem dL_law_163 : decode cL_law 163 = .ok (.ireturn, 1) := by decide +kernel
theorem dL_law_164 : decode cL_law 164 = .ok (.iload 5, 2) := by decide +kernel
theorem dL_law_166 : decode cL_law 166 = .ok (.ifCond .ne 15, 3) := by decide +kernel
theorem dL_law_169 : decode cL_law 169 = .ok (.aload_n 3, 1) := by decide +kernel
theorem dL_law_170 : decode cL_law 170 = .ok (.iconst 0, 1) := by decide +kernel
theorem dL_law_171 : decode cL_law 171 = .ok (.laload, 1) := by decide +kernel
theorem dL_law_172 : decode cL_law 172 = .ok (.iload 6, 2) := by decide +kernel
theorem dL_law_174 : decode cL_law 174 = .ok (.i2l, 1) := by decide +kernel
theorem dL_law_175 : decode cL_law 175 = .ok (.lcmp, 1) := by decide +kernel
theorem dL_law_176 : decode cL_law 176 = .ok (.ifCond .eq 5, 3) := by decide +kernel
theorem dL_law_179 : decode cL_law 179 = .ok (.iconst 0, 1) := by decide +kernel
theorem dL_law_180 : decode cL_law 180 = .ok (.ireturn, 1) := by decide +kernel
theorem dL_law_181 : decode cL_law 181 = .ok (.goto 1064, 3) := by decide +kernel
theorem dL_law_184 : decode cL_law 184 = .ok (.aload_n 1, 1) := by decide +kernel
theorem dL_law_185 : decode cL_law 185 = .ok (.aload_n 0, 1) := by decide +kernel
theorem dL_law_186 : decode cL_law 186 = .ok (.iload 4, 2) := by decide +kernel
theorem dL_law_188 : decode cL_law 188 = .ok (.iconst 1, 1) := by decide +kernel
theorem dL_law_189 : decode cL_law 189 = .ok (.iadd, 1) := by decide +kernel
theorem dL_law_190 : decode cL_law 190 = .ok (.iaload, 1) := by decide +kernel
theorem dL_law_191 : decode cL_law 191 = .ok (.aload_n 3, 1) := by decide +kernel
theorem dL_law_192 : decode cL_law 192 = .ok (.invokestatic 86, 3) := by decide +kernel
theorem dL_law_195 : decode cL_law 195 = .ok (.istore 5, 2) := by decide +kernel
theorem dL_law_197 : decode cL_law 197 = .ok (.aload_n 2, 1) := by decide +kernel
theorem dL_law_198 : decode cL_law 198 = .ok (.aload_n 0, 1) := by decide +kernel
theorem dL_law_199 : decode cL_law 199 = .ok (.iload 4, 2) := by decide +kernel
theorem dL_law_201 : decode cL_law 201 = .ok (.iconst 1, 1) := by decide +kernel
theorem dL_law_202 : decode cL_law 202 = .ok (.iadd, 1) := by decide +kernel
theorem dL_law_203 : decode cL_law 203 = .ok (.iaload, 1) := by decide +kernel
theorem dL_law_204 : decode cL_law 204 = .ok (.invokevirtual 88, 3) := by decide +kernel
theorem dL_law_207 : decode cL_law 207 = .ok (.istore 6, 2) := by decide +kernel
theorem dL_law_209 : decode cL_law 209 = .ok (.aload_n 2, 1) := by decide +kernel
theorem dL_law_210 : decode cL_law 210 = .ok (.invokevirtual 83, 3) := by decide +kernel
theorem dL_law_213 : decode cL_law 213 = .ok (.iload 5, 2) := by decide +kernel
theorem dL_law_215 : decode cL_law 215 = .ok (.if_icmp .eq 5, 3) := by decide +kernel
theorem dL_law_218 : decode cL_law 218 = .ok (.iconst 0, 1) := by decide +kernel
theorem dL_law_219 : decode cL_law 219 = .ok (.ireturn, 1) := by decide +kernel
theorem dL_law_220 : decode cL_law 220 = .ok (.iload 5, 2) := by decide +kernel
theorem dL_law_222 : decode cL_law 222 = .ok (.ifCond .ne 15, 3) := by decide +kernel
theorem dL_law_225 : decode cL_law 225 = .ok (.aload_n 3, 1) := by decide +kernel
theorem dL_law_226 : decode cL_law 226 = .ok (.iconst 0, 1) := by decide +kernel
theorem dL_law_227 : decode cL_law 227 = .ok (.laload, 1) := by decide +kernel
theorem dL_law_228 : decode cL_law 228 = .ok (.iload 6, 2) := by decide +kernel
theorem dL_law_230 : decode cL_law 230 = .ok (.i2l, 1) := by decide +kernel
theorem dL_law_231 : decode cL_law 231 = .ok (.lcmp, 1) := by decide +kernel
theorem dL_law_232 : decode cL_law 232 = .ok (.ifCond .eq 5, 3) := by decide +kernel
theorem dL_law_235 : decode cL_law 235 = .ok (.iconst 0, 1) := by decide +kernel
theorem dL_law_236 : decode cL_law 236 = .ok (.ireturn, 1) := by decide +kernel
theorem dL_law_237 : decode cL_law 237 = .ok (.goto 1008, 3) := by decide +kernel
theorem dL_law_240 : decode cL_law 240 = .ok (.aload_n 1, 1) := by decide +kernel
theorem dL_law_241 : decode cL_law 241 = .ok (.aload_n 3, 1) := by decide +kernel
theorem dL_law_242 : decode cL_law 242 = .ok (.invokestatic 89, 3) := by decide +kernel
theorem dL_law_245 : decode cL_law 245 = .ok (.istore 5, 2) := by decide +kernel
theorem dL_law_247 : decode cL_law 247 = .ok (.aload_n 2, 1) := by decide +kernel
theorem dL_law_248 : decode cL_law 248 = .ok (.invokevirtual 92, 3) := by decide +kernel
theorem dL_law_251 : decode cL_law 251 = .ok (.istore 6, 2) := by decide +kernel
theorem dL_law_253 : decode cL_law 253 = .ok (.aload_n 2, 1) := by decide +kernel
theorem dL_law_254 : decode cL_law 254 = .ok (.invokevirtual 83, 3) := by decide +kernel
theorem dL_law_257 : decode cL_law 257 = .ok (.iload 5, 2) := by decide +kernel
theorem dL_law_259 : decode cL_law 259 = .ok (.if_icmp .eq 5, 3) := by decide +kernel
theorem dL_law_262 : decode cL_law 262 = .ok (.iconst 0, 1) := by decide +kernel
theorem dL_law_263 : decode cL_law 263 = .ok (.ireturn, 1) := by decide +kernel
theorem dL_law_264 : decode cL_law 264 = .ok (.iload 5, 2) := by decide +kernel
theorem dL_law_266 : decode cL_law 266 = .ok (.ifCond .ne 15, 3) := by decide +kernel
theorem dL_law_269 : decode cL_law 269 = .ok (.aload_n 3, 1) := by decide +kernel
theorem dL_law_270 : decode cL_law 270 = .ok (.iconst 0, 1) := by decide +kernel
theorem dL_law_271 : decode cL_law 271 = .ok (.laload, 1) := by decide +kernel
theorem dL_law_272 : decode cL_law 272 = .ok (.iload 6, 2) := by decide +kernel
theorem dL_law_274 : decode cL_law 274 = .ok (.i2l, 1) := by decide +kernel
theorem dL_law_275 : decode cL_law 275 = .ok (.lcmp, 1) := by decide +kernel
theorem dL_law_276 : decode cL_law 276 = .ok (.ifCond .eq 5, 3) := by decide +kernel
theorem dL_law_279 : decode cL_law 279 = .ok (.iconst 0, 1) := by decide +kernel
theorem dL_law_280 : decode cL_law 280 = .ok (.ireturn, 1) := by decide +kernel
theorem dL_law_281 : decode cL_law 281 = .ok (.goto 964, 3) := by decide +kernel
theorem dL_law_284 : decode cL_law 284 = .ok (.aload_n 1, 1) := by decide +kernel
theorem dL_law_285 : decode cL_law 285 = .ok (.aload_n 0, 1) := by decide +kernel
theorem dL_law_286 : decode cL_law 286 = .ok (.iload 4, 2) := by decide +kernel
theorem dL_law_288 : decode cL_law 288 = .ok (.iconst 1, 1) := by decide +kernel
theorem dL_law_289 : decode cL_law 289 = .ok (.iadd, 1) := by decide +kernel
theorem dL_law_290 : decode cL_law 290 = .ok (.iaload, 1) := by decide +kernel
theorem dL_law_291 : decode cL_law 291 = .ok (.aload_n 0, 1) := by decide +kernel
theorem dL_law_292 : decode cL_law 292 = .ok (.iload 4, 2) := by decide +kernel
theorem dL_law_294 : decode cL_law 294 = .ok (.iconst 2, 1) := by decide +kernel
theorem dL_law_295 : decode cL_law 295 = .ok (.iadd, 1) := by decide +kernel
theorem dL_law_296 : decode cL_law 296 = .ok (.iaload, 1) := by decide +kernel
theorem dL_law_297 : decode cL_law 297 = .ok (.aload_n 3, 1) := by decide +kernel
theorem dL_law_298 : decode cL_law 298 = .ok (.invokestatic 93, 3) := by decide +kernel
theorem dL_law_301 : decode cL_law 301 = .ok (.istore 5, 2) := by decide +kernel
theorem dL_law_303 : decode cL_law 303 = .ok (.aload_n 2, 1) := by decide +kernel
theorem dL_law_304 : decode cL_law 304 = .ok (.aload_n 0, 1) := by decide +kernel
theorem dL_law_305 : decode cL_law 305 = .ok (.iload 4, 2) := by decide +kernel
theorem dL_law_307 : decode cL_law 307 = .ok (.iconst 1, 1) := by decide +kernel
theorem dL_law_308 : decode cL_law 308 = .ok (.iadd, 1) := by decide +kernel
theorem dL_law_309 : decode cL_law 309 = .ok (.iaload, 1) := by decide +kernel
theorem dL_law_310 : decode cL_law 310 = .ok (.aload_n 0, 1) := by decide +kernel
theorem dL_law_311 : decode cL_law 311 = .ok (.iload 4, 2) := by decide +kernel
theorem dL_law_313 : decode cL_law 313 = .ok (.iconst 2, 1) := by decide +kernel
theorem dL_law_314 : decode cL_law 314 = .ok (.iadd, 1) := by decide +kernel
theorem dL_law_315 : decode cL_law 315 = .ok (.iaload, 1) := by decide +kernel
theorem dL_law_316 : decode cL_law 316 = .ok (.invokevirtual 96, 3) := by decide +kernel
theorem dL_law_319 : decode cL_law 319 = .ok (.istore 6, 2) := by decide +kernel
theorem dL_law_321 : decode cL_law 321 = .ok (.aload_n 2, 1) := by decide +kernel
theorem dL_law_322 : decode cL_law 322 = .ok (.invokevirtual 83, 3) := by decide +kernel
theorem dL_law_325 : decode cL_law 325 = .ok (.iload 5, 2) := by decide +kernel
theorem dL_law_327 : decode cL_law 327 = .ok (.if_icmp .eq 5, 3) := by decide +kernel
theorem dL_law_330 : decode cL_law 330 = .ok (.iconst 0, 1) := by decide +kernel
theorem dL_law_331 : decode cL_law 331 = .ok (.ireturn, 1) := by decide +kernel
theorem dL_law_332 : decode cL_law 332 = .ok (.iload 5, 2) := by decide +kernel
theorem dL_law_334 : decode cL_law 334 = .ok (.ifCond .ne 15, 3) := by decide +kernel
theorem dL_law_337 : decode cL_law 337 = .ok (.aload_n 3, 1) := by decide +kernel
theorem dL_law_338 : decode cL_law 338 = .ok (.iconst 0, 1) := by decide +kernel
theorem dL_law_339 : decode cL_law 339 = .ok (.laload, 1) := by decide +kernel
theorem dL_law_340 : decode cL_law 340 = .ok (.iload 6, 2) := by decide +kernel
theorem dL_law_342 : decode cL_law 342 = .ok (.i2l, 1) := by decide +kernel
theorem dL_law_343 : decode cL_law 343 = .ok (.lcmp, 1) := by decide +kernel
theorem dL_law_344 : decode cL_law 344 = .ok (.ifCond .eq 5, 3) := by decide +kernel
theorem dL_law_347 : decode cL_law 347 = .ok (.iconst 0, 1) := by decide +kernel
theorem dL_law_348 : decode cL_law 348 = .ok (.ireturn, 1) := by decide +kernel
theorem dL_law_349 : decode cL_law 349 = .ok (.goto 896, 3) := by decide +kernel
theorem dL_law_352 : decode cL_law 352 = .ok (.aload_n 1, 1) := by decide +kernel
theorem dL_law_353 : decode cL_law 353 = .ok (.aload_n 0, 1) := by decide +kernel
theorem dL_law_354 : decode cL_law 354 = .ok (.iload 4, 2) := by decide +kernel
theorem dL_law_356 : decode cL_law 356 = .ok (.iconst 1, 1) := by decide +kernel
theorem dL_law_357 : decode cL_law 357 = .ok (.iadd, 1) := by decide +kernel
theorem dL_law_358 : decode cL_law 358 = .ok (.iaload, 1) := by decide +kernel
theorem dL_law_359 : decode cL_law 359 = .ok (.aload_n 3, 1) := by decide +kernel
theorem dL_law_360 : decode cL_law 360 = .ok (.invokestatic 97, 3) := by decide +kernel
theorem dL_law_363 : decode cL_law 363 = .ok (.istore 5, 2) := by decide +kernel
theorem dL_law_365 : decode cL_law 365 = .ok (.aload_n 2, 1) := by decide +kernel
theorem dL_law_366 : decode cL_law 366 = .ok (.aload_n 0, 1) := by decide +kernel
theorem dL_law_367 : decode cL_law 367 = .ok (.iload 4, 2) := by decide +kernel
theorem dL_law_369 : decode cL_law 369 = .ok (.iconst 1, 1) := by decide +kernel
theorem dL_law_370 : decode cL_law 370 = .ok (.iadd, 1) := by decide +kernel
theorem dL_law_371 : decode cL_law 371 = .ok (.iaload, 1) := by decide +kernel
theorem dL_law_372 : decode cL_law 372 = .ok (.invokevirtual 99, 3) := by decide +kernel
theorem dL_law_375 : decode cL_law 375 = .ok (.istore 6, 2) := by decide +kernel
theorem dL_law_377 : decode cL_law 377 = .ok (.aload_n 2, 1) := by decide +kernel
theorem dL_law_378 : decode cL_law 378 = .ok (.invokevirtual 83, 3) := by decide +kernel
theorem dL_law_381 : decode cL_law 381 = .ok (.iload 5, 2) := by decide +kernel
theorem dL_law_383 : decode cL_law 383 = .ok (.if_icmp .eq 5, 3) := by decide +kernel
theorem dL_law_386 : decode cL_law 386 = .ok (.iconst 0, 1) := by decide +kernel
theorem dL_law_387 : decode cL_law 387 = .ok (.ireturn, 1) := by decide +kernel
theorem dL_law_388 : decode cL_law 388 = .ok (.iload 5, 2) := by decide +kernel
theorem dL_law_390 : decode cL_law 390 = .ok (.ifCond .ne 15, 3) := by decide +kernel
theorem dL_law_393 : decode cL_law 393 = .ok (.aload_n 3, 1) := by decide +kernel
theorem dL_law_394 : decode cL_law 394 = .ok (.iconst 0, 1) := by decide +kernel
theorem dL_law_395 : decode cL_law 395 = .ok (.laload, 1) := by decide +kernel
theorem dL_law_396 : decode cL_law 396 = .ok (.iload 6, 2) := by decide +kernel
theorem dL_law_398 : decode cL_law 398 = .ok (.i2l, 1) := by decide +kernel
theorem dL_law_399 : decode cL_law 399 = .ok (.lcmp, 1) := by decide +kernel
theorem dL_law_400 : decode cL_law 400 = .ok (.ifCond .eq 5, 3) := by decide +kernel
theorem dL_law_403 : decode cL_law 403 = .ok (.iconst 0, 1) := by decide +kernel
theorem dL_law_404 : decode cL_law 404 = .ok (.ireturn, 1) := by decide +kernel
theorem dL_law_405 : decode cL_law 405 = .ok (.goto 840, 3) := by decide +kernel
theorem dL_law_408 : decode cL_law 408 = .ok (.aload_n 1, 1) := by decide +kernel
theorem dL_law_409 : decode cL_law 409 = .ok (.aload_n 0, 1) := by decide +kernel
theorem dL_law_410 : decode cL_law 410 = .ok (.iload 4, 2) := by decide +kernel
theorem dL_law_412 : decode cL_law 412 = .ok (.iconst 1, 1) := by decide +kernel
theorem dL_law_413 : decode cL_law 413 = .ok (.iadd, 1) := by decide +kernel
theorem dL_law_414 : decode cL_law 414 = .ok (.iaload, 1) := by decide +kernel
theorem dL_law_415 : decode cL_law 415 = .ok (.aload_n 3, 1) := by decide +kernel
theorem dL_law_416 : decode cL_law 416 = .ok (.invokestatic 100, 3) := by decide +kernel
theorem dL_law_419 : decode cL_law 419 = .ok (.istore 5, 2) := by decide +kernel
theorem dL_law_421 : decode cL_law 421 = .ok (.aload_n 2, 1) := by decide +kernel
theorem dL_law_422 : decode cL_law 422 = .ok (.aload_n 0, 1) := by decide +kernel
theorem dL_law_423 : decode cL_law 423 = .ok (.iload 4, 2) := by decide +kernel
theorem dL_law_425 : decode cL_law 425 = .ok (.iconst 1, 1) := by decide +kernel
theorem dL_law_426 : decode cL_law 426 = .ok (.iadd, 1) := by decide +kernel
theorem dL_law_427 : decode cL_law 427 = .ok (.iaload, 1) := by decide +kernel
theorem dL_law_428 : decode cL_law 428 = .ok (.invokevirtual 102, 3) := by decide +kernel
theorem dL_law_431 : decode cL_law 431 = .ok (.istore 6, 2) := by decide +kernel
theorem dL_law_433 : decode cL_law 433 = .ok (.aload_n 2, 1) := by decide +kernel
theorem dL_law_434 : decode cL_law 434 = .ok (.invokevirtual 83, 3) := by decide +kernel
theorem dL_law_437 : decode cL_law 437 = .ok (.iload 5, 2) := by decide +kernel
theorem dL_law_439 : decode cL_law 439 = .ok (.if_icmp .eq 5, 3) := by decide +kernel
theorem dL_law_442 : decode cL_law 442 = .ok (.iconst 0, 1) := by decide +kernel
theorem dL_law_443 : decode cL_law 443 = .ok (.ireturn, 1) := by decide +kernel
theorem dL_law_444 : decode cL_law 444 = .ok (.iload 5, 2) := by decide +kernel
theorem dL_law_446 : decode cL_law 446 = .ok (.ifCond .ne 15, 3) := by decide +kernel
theorem dL_law_449 : decode cL_law 449 = .ok (.aload_n 3, 1) := by decide +kernel
theorem dL_law_450 : decode cL_law 450 = .ok (.iconst 0, 1) := by decide +kernel
theorem dL_law_451 : decode cL_law 451 = .ok (.laload, 1) := by decide +kernel
theorem dL_law_452 : decode cL_law 452 = .ok (.iload 6, 2) := by decide +kernel
theorem dL_law_454 : decode cL_law 454 = .ok (.i2l, 1) := by decide +kernel
theorem dL_law_455 : decode cL_law 455 = .ok (.lcmp, 1) := by decide +kernel
theorem dL_law_456 : decode cL_law 456 = .ok (.ifCond .eq 5, 3) := by decide +kernel
theorem dL_law_459 : decode cL_law 459 = .ok (.iconst 0, 1) := by decide +kernel
theorem dL_law_460 : decode cL_law 460 = .ok (.ireturn, 1) := by decide +kernel
theorem dL_law_461 : decode cL_law 461 = .ok (.goto 784, 3) := by decide +kernel
theorem dL_law_464 : decode cL_law 464 = .ok (.aload_n 1, 1) := by decide +kernel
theorem dL_law_465 : decode cL_law 465 = .ok (.aload_n 0, 1) := by decide +kernel
theorem dL_law_466 : decode cL_law 466 = .ok (.iload 4, 2) := by decide +kernel
theorem dL_law_468 : decode cL_law 468 = .ok (.iconst 1, 1) := by decide +kernel
theorem dL_law_469 : decode cL_law 469 = .ok (.iadd, 1) := by decide +kernel
theorem dL_law_470 : decode cL_law 470 = .ok (.iaload, 1) := by decide +kernel
theorem dL_law_471 : decode cL_law 471 = .ok (.aload_n 0, 1) := by decide +kernel
theorem dL_law_472 : decode cL_law 472 = .ok (.iload 4, 2) := by decide +kernel
theorem dL_law_474 : decode cL_law 474 = .ok (.iconst 2, 1) := by decide +kernel
theorem dL_law_475 : decode cL_law 475 = .ok (.iadd, 1) := by decide +kernel
theorem dL_law_476 : decode cL_law 476 = .ok (.iaload, 1) := by decide +kernel
theorem dL_law_477 : decode cL_law 477 = .ok (.aload_n 3, 1) := by decide +kernel
theorem dL_law_478 : decode cL_law 478 = .ok (.invokestatic 103, 3) := by decide +kernel
theorem dL_law_481 : decode cL_law 481 = .ok (.istore 5, 2) := by decide +kernel
theorem dL_law_483 : decode cL_law 483 = .ok (.aload_n 2, 1) := by decide +kernel
theorem dL_law_484 : decode cL_law 484 = .ok (.aload_n 0, 1) := by decide +kernel
theorem dL_law_485 : decode cL_law 485 = .ok (.iload 4, 2) := by decide +kernel
theorem dL_law_487 : decode cL_law 487 = .ok (.iconst 1, 1) := by decide +kernel
theorem dL_law_488 : decode cL_law 488 = .ok (.iadd, 1) := by decide +kernel
theorem dL_law_489 : decode cL_law 489 = .ok (.iaload, 1) := by decide +kernel
theorem dL_law_490 : decode cL_law 490 = .ok (.aload_n 0, 1) := by decide +kernel
theorem dL_law_491 : decode cL_law 491 = .ok (.iload 4, 2) := by decide +kernel
theorem dL_law_493 : decode cL_law 493 = .ok (.iconst 2, 1) := by decide +kernel
theorem dL_law_494 : decode cL_law 494 = .ok (.iadd, 1) := by decide +kernel
theorem dL_law_495 : decode cL_law 495 = .ok (.iaload, 1) := by decide +kernel
theorem dL_law_496 : decode cL_law 496 = .ok (.invokevirtual 105, 3) := by decide +kernel
theorem dL_law_499 : decode cL_law 499 = .ok (.istore 6, 2) := by decide +kernel
theorem dL_law_501 : decode cL_law 501 = .ok (.aload_n 2, 1) := by decide +kernel
theorem dL_law_502 : decode cL_law 502 = .ok (.invokevirtual 83, 3) := by decide +kernel
theorem dL_law_505 : decode cL_law 505 = .ok (.iload 5, 2) := by decide +kernel
theorem dL_law_507 : decode cL_law 507 = .ok (.if_icmp .eq 5, 3) := by decide +kernel
theorem dL_law_510 : decode cL_law 510 = .ok (.iconst 0, 1) := by decide +kernel
theorem dL_law_511 : decode cL_law 511 = .ok (.ireturn, 1) := by decide +kernel
theorem dL_law_512 : decode cL_law 512 = .ok (.iload 5, 2) := by decide +kernel
theorem dL_law_514 : decode cL_law 514 = .ok (.ifCond .ne 15, 3) := by decide +kernel
theorem dL_law_517 : decode cL_law 517 = .ok (.aload_n 3, 1) := by decide +kernel
theorem dL_law_518 : decode cL_law 518 = .ok (.iconst 0, 1) := by decide +kernel
theorem dL_law_519 : decode cL_law 519 = .ok (.laload, 1) := by decide +kernel
theorem dL_law_520 : decode cL_law 520 = .ok (.iload 6, 2) := by decide +kernel
theorem dL_law_522 : decode cL_law 522 = .ok (.i2l, 1) := by decide +kernel
theorem dL_law_523 : decode cL_law 523 = .ok (.lcmp, 1) := by decide +kernel
theorem dL_law_524 : decode cL_law 524 = .ok (.ifCond .eq 5, 3) := by decide +kernel
theorem dL_law_527 : decode cL_law 527 = .ok (.iconst 0, 1) := by decide +kernel
theorem dL_law_528 : decode cL_law 528 = .ok (.ireturn, 1) := by decide +kernel
theorem dL_law_529 : decode cL_law 529 = .ok (.goto 716, 3) := by decide +kernel
theorem dL_law_532 : decode cL_law 532 = .ok (.aload_n 1, 1) := by decide +kernel
theorem dL_law_533 : decode cL_law 533 = .ok (.aload_n 0, 1) := by decide +kernel
theorem dL_law_534 : decode cL_law 534 = .ok (.iload 4, 2) := by decide +kernel
theorem dL_law_536 : decode cL_law 536 = .ok (.iconst 1, 1) := by decide +kernel
theorem dL_law_537 : decode cL_law 537 = .ok (.iadd, 1) := by decide +kernel
theorem dL_law_538 : decode cL_law 538 = .ok (.iaload, 1) := by decide +kernel
theorem dL_law_539 : decode cL_law 539 = .ok (.aload_n 3, 1) := by decide +kernel
theorem dL_law_540 : decode cL_law 540 = .ok (.invokestatic 106, 3) := by decide +kernel
theorem dL_law_543 : decode cL_law 543 = .ok (.istore 5, 2) := by decide +kernel
theorem dL_law_545 : decode cL_law 545 = .ok (.aload_n 2, 1) := by decide +kernel
theorem dL_law_546 : decode cL_law 546 = .ok (.aload_n 0, 1) := by decide +kernel
theorem dL_law_547 : decode cL_law 547 = .ok (.iload 4, 2) := by decide +kernel
theorem dL_law_549 : decode cL_law 549 = .ok (.iconst 1, 1) := by decide +kernel
theorem dL_law_550 : decode cL_law 550 = .ok (.iadd, 1) := by decide +kernel
theorem dL_law_551 : decode cL_law 551 = .ok (.iaload, 1) := by decide +kernel
theorem dL_law_552 : decode cL_law 552 = .ok (.invokevirtual 108, 3) := by decide +kernel
theorem dL_law_555 : decode cL_law 555 = .ok (.istore 6, 2) := by decide +kernel
theorem dL_law_557 : decode cL_law 557 = .ok (.aload_n 2, 1) := by decide +kernel
theorem dL_law_558 : decode cL_law 558 = .ok (.invokevirtual 83, 3) := by decide +kernel
theorem dL_law_561 : decode cL_law 561 = .ok (.iload 5, 2) := by decide +kernel
theorem dL_law_563 : decode cL_law 563 = .ok (.if_icmp .eq 5, 3) := by decide +kernel
theorem dL_law_566 : decode cL_law 566 = .ok (.iconst 0, 1) := by decide +kernel
theorem dL_law_567 : decode cL_law 567 = .ok (.ireturn, 1) := by decide +kernel
theorem dL_law_568 : decode cL_law 568 = .ok (.iload 5, 2) := by decide +kernel
theorem dL_law_570 : decode cL_law 570 = .ok (.ifCond .ne 15, 3) := by decide +kernel
theorem dL_law_573 : decode cL_law 573 = .ok (.aload_n 3, 1) := by decide +kernel
theorem dL_law_574 : decode cL_law 574 = .ok (.iconst 0, 1) := by decide +kernel
theorem dL_law_575 : decode cL_law 575 = .ok (.laload, 1) := by decide +kernel
theorem dL_law_576 : decode cL_law 576 = .ok (.iload 6, 2) := by decide +kernel
theorem dL_law_578 : decode cL_law 578 = .ok (.i2l, 1) := by decide +kernel
theorem dL_law_579 : decode cL_law 579 = .ok (.lcmp, 1) := by decide +kernel
theorem dL_law_580 : decode cL_law 580 = .ok (.ifCond .eq 5, 3) := by decide +kernel
theorem dL_law_583 : decode cL_law 583 = .ok (.iconst 0, 1) := by decide +kernel
theorem dL_law_584 : decode cL_law 584 = .ok (.ireturn, 1) := by decide +kernel
theorem dL_law_585 : decode cL_law 585 = .ok (.goto 660, 3) := by decide +kernel
theorem dL_law_588 : decode cL_law 588 = .ok (.aload_n 1, 1) := by decide +kernel
theorem dL_law_589 : decode cL_law 589 = .ok (.aload_n 0, 1) := by decide +kernel
theorem dL_law_590 : decode cL_law 590 = .ok (.iload 4, 2) := by decide +kernel
theorem dL_law_592 : decode cL_law 592 = .ok (.iconst 1, 1) := by decide +kernel
theorem dL_law_593 : decode cL_law 593 = .ok (.iadd, 1) := by decide +kernel
theorem dL_law_594 : decode cL_law 594 = .ok (.iaload, 1) := by decide +kernel
theorem dL_law_595 : decode cL_law 595 = .ok (.aload_n 3, 1) := by decide +kernel
theorem dL_law_596 : decode cL_law 596 = .ok (.invokestatic 109, 3) := by decide +kernel
theorem dL_law_599 : decode cL_law 599 = .ok (.istore 5, 2) := by decide +kernel
theorem dL_law_601 : decode cL_law 601 = .ok (.aload_n 2, 1) := by decide +kernel
theorem dL_law_602 : decode cL_law 602 = .ok (.aload_n 0, 1) := by decide +kernel
theorem dL_law_603 : decode cL_law 603 = .ok (.iload 4, 2) := by decide +kernel
theorem dL_law_605 : decode cL_law 605 = .ok (.iconst 1, 1) := by decide +kernel
theorem dL_law_606 : decode cL_law 606 = .ok (.iadd, 1) := by decide +kernel
theorem dL_law_607 : decode cL_law 607 = .ok (.iaload, 1) := by decide +kernel
theorem dL_law_608 : decode cL_law 608 = .ok (.invokevirtual 111, 3) := by decide +kernel
theorem dL_law_611 : decode cL_law 611 = .ok (.istore 6, 2) := by decide +kernel
theorem dL_law_613 : decode cL_law 613 = .ok (.aload_n 2, 1) := by decide +kernel
theorem dL_law_614 : decode cL_law 614 = .ok (.invokevirtual 83, 3) := by decide +kernel
theorem dL_law_617 : decode cL_law 617 = .ok (.iload 5, 2) := by decide +kernel
theorem dL_law_619 : decode cL_law 619 = .ok (.if_icmp .eq 5, 3) := by decide +kernel
theorem dL_law_622 : decode cL_law 622 = .ok (.iconst 0, 1) := by decide +kernel
theorem dL_law_623 : decode cL_law 623 = .ok (.ireturn, 1) := by decide +kernel
theorem dL_law_624 : decode cL_law 624 = .ok (.iload 5, 2) := by decide +kernel
theorem dL_law_626 : decode cL_law 626 = .ok (.ifCond .ne 15, 3) := by decide +kernel
theorem dL_law_629 : decode cL_law 629 = .ok (.aload_n 3, 1) := by decide +kernel
theorem dL_law_630 : decode cL_law 630 = .ok (.iconst 0, 1) := by decide +kernel
theorem dL_law_631 : decode cL_law 631 = .ok (.laload, 1) := by decide +kernel
theorem dL_law_632 : decode cL_law 632 = .ok (.iload 6, 2) := by decide +kernel
theorem dL_law_634 : decode cL_law 634 = .ok (.i2l, 1) := by decide +kernel
theorem dL_law_635 : decode cL_law 635 = .ok (.lcmp, 1) := by decide +kernel
theorem dL_law_636 : decode cL_law 636 = .ok (.ifCond .eq 5, 3) := by decide +kernel
theorem dL_law_639 : decode cL_law 639 = .ok (.iconst 0, 1) := by decide +kernel
theorem dL_law_640 : decode cL_law 640 = .ok (.ireturn, 1) := by decide +kernel
theorem dL_law_641 : decode cL_law 641 = .ok (.goto 604, 3) := by decide +kernel
theorem dL_law_644 : decode cL_law 644 = .ok (.aload_n 1, 1) := by decide +kernel
theorem dL_law_645 : decode cL_law 645 = .ok (.aload_n 0, 1) := by decide +kernel
theorem dL_law_646 : decode cL_law 646 = .ok (.iload 4, 2) := by decide +kernel
theorem dL_law_648 : decode cL_law 648 = .ok (.iconst 1, 1) := by decide +kernel
theorem dL_law_649 : decode cL_law 649 = .ok (.iadd, 1) := by decide +kernel
theorem dL_law_650 : decode cL_law 650 = .ok (.iaload, 1) := by decide +kernel
theorem dL_law_651 : decode cL_law 651 = .ok (.aload_n 3, 1) := by decide +kernel
theorem dL_law_652 : decode cL_law 652 = .ok (.invokestatic 112, 3) := by decide +kernel
theorem dL_law_655 : decode cL_law 655 = .ok (.istore 5, 2) := by decide +kernel
theorem dL_law_657 : decode cL_law 657 = .ok (.aload_n 2, 1) := by decide +kernel
theorem dL_law_658 : decode cL_law 658 = .ok (.aload_n 0, 1) := by decide +kernel
theorem dL_law_659 : decode cL_law 659 = .ok (.iload 4, 2) := by decide +kernel
theorem dL_law_661 : decode cL_law 661 = .ok (.iconst 1, 1) := by decide +kernel
theorem dL_law_662 : decode cL_law 662 = .ok (.iadd, 1) := by decide +kernel
theorem dL_law_663 : decode cL_law 663 = .ok (.iaload, 1) := by decide +kernel
theorem dL_law_664 : decode cL_law 664 = .ok (.invokevirtual 114, 3) := by decide +kernel
theorem dL_law_667 : decode cL_law 667 = .ok (.istore 6, 2) := by decide +kernel
theorem dL_law_669 : decode cL_law 669 = .ok (.aload_n 2, 1) := by decide +kernel
theorem dL_law_670 : decode cL_law 670 = .ok (.invokevirtual 83, 3) := by decide +kernel
theorem dL_law_673 : decode cL_law 673 = .ok (.iload 5, 2) := by decide +kernel
theorem dL_law_675 : decode cL_law 675 = .ok (.if_icmp .eq 5, 3) := by decide +kernel
theorem dL_law_678 : decode cL_law 678 = .ok (.iconst 0, 1) := by decide +kernel
theorem dL_law_679 : decode cL_law 679 = .ok (.ireturn, 1) := by decide +kernel
theorem dL_law_680 : decode cL_law 680 = .ok (.iload 5, 2) := by decide +kernel
theorem dL_law_682 : decode cL_law 682 = .ok (.ifCond .ne 15, 3) := by decide +kernel
theorem dL_law_685 : decode cL_law 685 = .ok (.aload_n 3, 1) := by decide +kernel
theorem dL_law_686 : decode cL_law 686 = .ok (.iconst 0, 1) := by decide +kernel
theorem dL_law_687 : decode cL_law 687 = .ok (.laload, 1) := by decide +kernel
theorem dL_law_688 : decode cL_law 688 = .ok (.iload 6, 2) := by decide +kernel
theorem dL_law_690 : decode cL_law 690 = .ok (.i2l, 1) := by decide +kernel
theorem dL_law_691 : decode cL_law 691 = .ok (.lcmp, 1) := by decide +kernel
theorem dL_law_692 : decode cL_law 692 = .ok (.ifCond .eq 5, 3) := by decide +kernel
theorem dL_law_695 : decode cL_law 695 = .ok (.iconst 0, 1) := by decide +kernel
theorem dL_law_696 : decode cL_law 696 = .ok (.ireturn, 1) := by decide +kernel
theorem dL_law_697 : decode cL_law 697 = .ok (.goto 548, 3) := by decide +kernel
theorem dL_law_700 : decode cL_law 700 = .ok (.aload_n 1, 1) := by decide +kernel
theorem dL_law_701 : decode cL_law 701 = .ok (.aload_n 0, 1) := by decide +kernel
theorem dL_law_702 : decode cL_law 702 = .ok (.iload 4, 2) := by decide +kernel
theorem dL_law_704 : decode cL_law 704 = .ok (.iconst 1, 1) := by decide +kernel
theorem dL_law_705 : decode cL_law 705 = .ok (.iadd, 1) := by decide +kernel
theorem dL_law_706 : decode cL_law 706 = .ok (.iaload, 1) := by decide +kernel
theorem dL_law_707 : decode cL_law 707 = .ok (.aload_n 0, 1) := by decide +kernel
theorem dL_law_708 : decode cL_law 708 = .ok (.iload 4, 2) := by decide +kernel
theorem dL_law_710 : decode cL_law 710 = .ok (.iconst 2, 1) := by decide +kernel
theorem dL_law_711 : decode cL_law 711 = .ok (.iadd, 1) := by decide +kernel
theorem dL_law_712 : decode cL_law 712 = .ok (.iaload, 1) := by decide +kernel
theorem dL_law_713 : decode cL_law 713 = .ok (.aload_n 3, 1) := by decide +kernel
theorem dL_law_714 : decode cL_law 714 = .ok (.invokestatic 115, 3) := by decide +kernel
theorem dL_law_717 : decode cL_law 717 = .ok (.istore 5, 2) := by decide +kernel
theorem dL_law_719 : decode cL_law 719 = .ok (.aload_n 2, 1) := by decide +kernel
theorem dL_law_720 : decode cL_law 720 = .ok (.aload_n 0, 1) := by decide +kernel
theorem dL_law_721 : decode cL_law 721 = .ok (.iload 4, 2) := by decide +kernel
theorem dL_law_723 : decode cL_law 723 = .ok (.iconst 1, 1) := by decide +kernel
theorem dL_law_724 : decode cL_law 724 = .ok (.iadd, 1) := by decide +kernel
theorem dL_law_725 : decode cL_law 725 = .ok (.iaload, 1) := by decide +kernel
theorem dL_law_726 : decode cL_law 726 = .ok (.aload_n 0, 1) := by decide +kernel
theorem dL_law_727 : decode cL_law 727 = .ok (.iload 4, 2) := by decide +kernel
theorem dL_law_729 : decode cL_law 729 = .ok (.iconst 2, 1) := by decide +kernel
theorem dL_law_730 : decode cL_law 730 = .ok (.iadd, 1) := by decide +kernel
theorem dL_law_731 : decode cL_law 731 = .ok (.iaload, 1) := by decide +kernel
theorem dL_law_732 : decode cL_law 732 = .ok (.invokevirtual 117, 3) := by decide +kernel
theorem dL_law_735 : decode cL_law 735 = .ok (.istore 6, 2) := by decide +kernel
theorem dL_law_737 : decode cL_law 737 = .ok (.aload_n 2, 1) := by decide +kernel
theorem dL_law_738 : decode cL_law 738 = .ok (.invokevirtual 83, 3) := by decide +kernel
theorem dL_law_741 : decode cL_law 741 = .ok (.iload 5, 2) := by decide +kernel
theorem dL_law_743 : decode cL_law 743 = .ok (.if_icmp .eq 5, 3) := by decide +kernel
theorem dL_law_746 : decode cL_law 746 = .ok (.iconst 0, 1) := by decide +kernel
theorem dL_law_747 : decode cL_law 747 = .ok (.ireturn, 1) := by decide +kernel
theorem dL_law_748 : decode cL_law 748 = .ok (.iload 5, 2) := by decide +kernel
theorem dL_law_750 : decode cL_law 750 = .ok (.ifCond .ne 15, 3) := by decide +kernel
theorem dL_law_753 : decode cL_law 753 = .ok (.aload_n 3, 1) := by decide +kernel
theorem dL_law_754 : decode cL_law 754 = .ok (.iconst 0, 1) := by decide +kernel
theorem dL_law_755 : decode cL_law 755 = .ok (.laload, 1) := by decide +kernel
theorem dL_law_756 : decode cL_law 756 = .ok (.iload 6, 2) := by decide +kernel
theorem dL_law_758 : decode cL_law 758 = .ok (.i2l, 1) := by decide +kernel
theorem dL_law_759 : decode cL_law 759 = .ok (.lcmp, 1) := by decide +kernel
theorem dL_law_760 : decode cL_law 760 = .ok (.ifCond .eq 5, 3) := by decide +kernel
theorem dL_law_763 : decode cL_law 763 = .ok (.iconst 0, 1) := by decide +kernel
theorem dL_law_764 : decode cL_law 764 = .ok (.ireturn, 1) := by decide +kernel
theorem dL_law_765 : decode cL_law 765 = .ok (.goto 480, 3) := by decide +kernel
theorem dL_law_768 : decode cL_law 768 = .ok (.aload_n 1, 1) := by decide +kernel
theorem dL_law_769 : decode cL_law 769 = .ok (.aload_n 0, 1) := by decide +kernel
theorem dL_law_770 : decode cL_law 770 = .ok (.iload 4, 2) := by decide +kernel
theorem dL_law_772 : decode cL_law 772 = .ok (.iconst 1, 1) := by decide +kernel
theorem dL_law_773 : decode cL_law 773 = .ok (.iadd, 1) := by decide +kernel
theorem dL_law_774 : decode cL_law 774 = .ok (.iaload, 1) := by decide +kernel
theorem dL_law_775 : decode cL_law 775 = .ok (.aload_n 3, 1) := by decide +kernel
theorem dL_law_776 : decode cL_law 776 = .ok (.invokestatic 118, 3) := by decide +kernel
theorem dL_law_779 : decode cL_law 779 = .ok (.istore 5, 2) := by decide +kernel
theorem dL_law_781 : decode cL_law 781 = .ok (.aload_n 2, 1) := by decide +kernel
theorem dL_law_782 : decode cL_law 782 = .ok (.aload_n 0, 1) := by decide +kernel
theorem dL_law_783 : decode cL_law 783 = .ok (.iload 4, 2) := by decide +kernel
theorem dL_law_785 : decode cL_law 785 = .ok (.iconst 1, 1) := by decide +kernel
theorem dL_law_786 : decode cL_law 786 = .ok (.iadd, 1) := by decide +kernel
theorem dL_law_787 : decode cL_law 787 = .ok (.iaload, 1) := by decide +kernel
theorem dL_law_788 : decode cL_law 788 = .ok (.invokevirtual 120, 3) := by decide +kernel
theorem dL_law_791 : decode cL_law 791 = .ok (.istore 6, 2) := by decide +kernel
theorem dL_law_793 : decode cL_law 793 = .ok (.aload_n 2, 1) := by decide +kernel
theorem dL_law_794 : decode cL_law 794 = .ok (.invokevirtual 83, 3) := by decide +kernel
theorem dL_law_797 : decode cL_law 797 = .ok (.iload 5, 2) := by decide +kernel
theorem dL_law_799 : decode cL_law 799 = .ok (.if_icmp .eq 5, 3) := by decide +kernel
theorem dL_law_802 : decode cL_law 802 = .ok (.iconst 0, 1) := by decide +kernel
theorem dL_law_803 : decode cL_law 803 = .ok (.ireturn, 1) := by decide +kernel
theorem dL_law_804 : decode cL_law 804 = .ok (.iload 5, 2) := by decide +kernel
theorem dL_law_806 : decode cL_law 806 = .ok (.ifCond .ne 15, 3) := by decide +kernel
theorem dL_law_809 : decode cL_law 809 = .ok (.aload_n 3, 1) := by decide +kernel
theorem dL_law_810 : decode cL_law 810 = .ok (.iconst 0, 1) := by decide +kernel
theorem dL_law_811 : decode cL_law 811 = .ok (.laload, 1) := by decide +kernel
theorem dL_law_812 : decode cL_law 812 = .ok (.iload 6, 2) := by decide +kernel
theorem dL_law_814 : decode cL_law 814 = .ok (.i2l, 1) := by decide +kernel
theorem dL_law_815 : decode cL_law 815 = .ok (.lcmp, 1) := by decide +kernel
theorem dL_law_816 : decode cL_law 816 = .ok (.ifCond .eq 5, 3) := by decide +kernel
theorem dL_law_819 : decode cL_law 819 = .ok (.iconst 0, 1) := by decide +kernel
theorem dL_law_820 : decode cL_law 820 = .ok (.ireturn, 1) := by decide +kernel
theorem dL_law_821 : decode cL_law 821 = .ok (.goto 424, 3) := by decide +kernel
theorem dL_law_824 : decode cL_law 824 = .ok (.aload_n 1, 1) := by decide +kernel
theorem dL_law_825 : decode cL_law 825 = .ok (.aload_n 0, 1) := by decide +kernel
theorem dL_law_826 : decode cL_law 826 = .ok (.iload 4, 2) := by decide +kernel
theorem dL_law_828 : decode cL_law 828 = .ok (.iconst 1, 1) := by decide +kernel
theorem dL_law_829 : decode cL_law 829 = .ok (.iadd, 1) := by decide +kernel
theorem dL_law_830 : decode cL_law 830 = .ok (.iaload, 1) := by decide +kernel
theorem dL_law_831 : decode cL_law 831 = .ok (.aload_n 0, 1) := by decide +kernel
theorem dL_law_832 : decode cL_law 832 = .ok (.iload 4, 2) := by decide +kernel
theorem dL_law_834 : decode cL_law 834 = .ok (.iconst 2, 1) := by decide +kernel
theorem dL_law_835 : decode cL_law 835 = .ok (.iadd, 1) := by decide +kernel
theorem dL_law_836 : decode cL_law 836 = .ok (.iaload, 1) := by decide +kernel
theorem dL_law_837 : decode cL_law 837 = .ok (.aload_n 0, 1) := by decide +kernel
theorem dL_law_838 : decode cL_law 838 = .ok (.iload 4, 2) := by decide +kernel
theorem dL_law_840 : decode cL_law 840 = .ok (.iconst 3, 1) := by decide +kernel
theorem dL_law_841 : decode cL_law 841 = .ok (.iadd, 1) := by decide +kernel
theorem dL_law_842 : decode cL_law 842 = .ok (.iaload, 1) := by decide +kernel
theorem dL_law_843 : decode cL_law 843 = .ok (.aload_n 3, 1) := by decide +kernel
theorem dL_law_844 : decode cL_law 844 = .ok (.invokestatic 121, 3) := by decide +kernel
theorem dL_law_847 : decode cL_law 847 = .ok (.istore 5, 2) := by decide +kernel
theorem dL_law_849 : decode cL_law 849 = .ok (.aload_n 2, 1) := by decide +kernel
theorem dL_law_850 : decode cL_law 850 = .ok (.aload_n 0, 1) := by decide +kernel
theorem dL_law_851 : decode cL_law 851 = .ok (.iload 4, 2) := by decide +kernel
theorem dL_law_853 : decode cL_law 853 = .ok (.iconst 1, 1) := by decide +kernel
theorem dL_law_854 : decode cL_law 854 = .ok (.iadd, 1) := by decide +kernel
theorem dL_law_855 : decode cL_law 855 = .ok (.iaload, 1) := by decide +kernel
theorem dL_law_856 : decode cL_law 856 = .ok (.aload_n 0, 1) := by decide +kernel
theorem dL_law_857 : decode cL_law 857 = .ok (.iload 4, 2) := by decide +kernel
theorem dL_law_859 : decode cL_law 859 = .ok (.iconst 2, 1) := by decide +kernel
theorem dL_law_860 : decode cL_law 860 = .ok (.iadd, 1) := by decide +kernel
theorem dL_law_861 : decode cL_law 861 = .ok (.iaload, 1) := by decide +kernel
theorem dL_law_862 : decode cL_law 862 = .ok (.aload_n 0, 1) := by decide +kernel
theorem dL_law_863 : decode cL_law 863 = .ok (.iload 4, 2) := by decide +kernel
theorem dL_law_865 : decode cL_law 865 = .ok (.iconst 3, 1) := by decide +kernel
theorem dL_law_866 : decode cL_law 866 = .ok (.iadd, 1) := by decide +kernel
theorem dL_law_867 : decode cL_law 867 = .ok (.iaload, 1) := by decide +kernel
theorem dL_law_868 : decode cL_law 868 = .ok (.invokevirtual 124, 3) := by decide +kernel
theorem dL_law_871 : decode cL_law 871 = .ok (.istore 6, 2) := by decide +kernel
theorem dL_law_873 : decode cL_law 873 = .ok (.aload_n 2, 1) := by decide +kernel
theorem dL_law_874 : decode cL_law 874 = .ok (.invokevirtual 83, 3) := by decide +kernel
theorem dL_law_877 : decode cL_law 877 = .ok (.iload 5, 2) := by decide +kernel
theorem dL_law_879 : decode cL_law 879 = .ok (.if_icmp .eq 5, 3) := by decide +kernel
theorem dL_law_882 : decode cL_law 882 = .ok (.iconst 0, 1) := by decide +kernel
theorem dL_law_883 : decode cL_law 883 = .ok (.ireturn, 1) := by decide +kernel
theorem dL_law_884 : decode cL_law 884 = .ok (.iload 5, 2) := by decide +kernel
theorem dL_law_886 : decode cL_law 886 = .ok (.ifCond .ne 15, 3) := by decide +kernel
theorem dL_law_889 : decode cL_law 889 = .ok (.aload_n 3, 1) := by decide +kernel
theorem dL_law_890 : decode cL_law 890 = .ok (.iconst 0, 1) := by decide +kernel
theorem dL_law_891 : decode cL_law 891 = .ok (.laload, 1) := by decide +kernel
theorem dL_law_892 : decode cL_law 892 = .ok (.iload 6, 2) := by decide +kernel
theorem dL_law_894 : decode cL_law 894 = .ok (.i2l, 1) := by decide +kernel
theorem dL_law_895 : decode cL_law 895 = .ok (.lcmp, 1) := by decide +kernel
theorem dL_law_896 : decode cL_law 896 = .ok (.ifCond .eq 5, 3) := by decide +kernel
theorem dL_law_899 : decode cL_law 899 = .ok (.iconst 0, 1) := by decide +kernel
theorem dL_law_900 : decode cL_law 900 = .ok (.ireturn, 1) := by decide +kernel
theorem dL_law_901 : decode cL_law 901 = .ok (.goto 344, 3) := by decide +kernel
theorem dL_law_904 : decode cL_law 904 = .ok (.aload_n 1, 1) := by decide +kernel
theorem dL_law_905 : decode cL_law 905 = .ok (.aload_n 0, 1) := by decide +kernel
theorem dL_law_906 : decode cL_law 906 = .ok (.iload 4, 2) := by decide +kernel
theorem dL_law_908 : decode cL_law 908 = .ok (.iconst 1, 1) := by decide +kernel
theorem dL_law_909 : decode cL_law 909 = .ok (.iadd, 1) := by decide +kernel
theorem dL_law_910 : decode cL_law 910 = .ok (.iaload, 1) := by decide +kernel
theorem dL_law_911 : decode cL_law 911 = .ok (.aload_n 0, 1) := by decide +kernel
theorem dL_law_912 : decode cL_law 912 = .ok (.iload 4, 2) := by decide +kernel
theorem dL_law_914 : decode cL_law 914 = .ok (.iconst 2, 1) := by decide +kernel
theorem dL_law_915 : decode cL_law 915 = .ok (.iadd, 1) := by decide +kernel
theorem dL_law_916 : decode cL_law 916 = .ok (.iaload, 1) := by decide +kernel
theorem dL_law_917 : decode cL_law 917 = .ok (.aload_n 3, 1) := by decide +kernel
theorem dL_law_918 : decode cL_law 918 = .ok (.invokestatic 125, 3) := by decide +kernel
theorem dL_law_921 : decode cL_law 921 = .ok (.istore 5, 2) := by decide +kernel
theorem dL_law_923 : decode cL_law 923 = .ok (.aload_n 2, 1) := by decide +kernel
theorem dL_law_924 : decode cL_law 924 = .ok (.aload_n 0, 1) := by decide +kernel
theorem dL_law_925 : decode cL_law 925 = .ok (.iload 4, 2) := by decide +kernel
theorem dL_law_927 : decode cL_law 927 = .ok (.iconst 1, 1) := by decide +kernel
theorem dL_law_928 : decode cL_law 928 = .ok (.iadd, 1) := by decide +kernel
theorem dL_law_929 : decode cL_law 929 = .ok (.iaload, 1) := by decide +kernel
theorem dL_law_930 : decode cL_law 930 = .ok (.aload_n 0, 1) := by decide +kernel
theorem dL_law_931 : decode cL_law 931 = .ok (.iload 4, 2) := by decide +kernel
theorem dL_law_933 : decode cL_law 933 = .ok (.iconst 2, 1) := by decide +kernel
theorem dL_law_934 : decode cL_law 934 = .ok (.iadd, 1) := by decide +kernel
theorem dL_law_935 : decode cL_law 935 = .ok (.iaload, 1) := by decide +kernel
theorem dL_law_936 : decode cL_law 936 = .ok (.invokevirtual 127, 3) := by decide +kernel
theorem dL_law_939 : decode cL_law 939 = .ok (.istore 6, 2) := by decide +kernel
theorem dL_law_941 : decode cL_law 941 = .ok (.aload_n 2, 1) := by decide +kernel
theorem dL_law_942 : decode cL_law 942 = .ok (.invokevirtual 83, 3) := by decide +kernel
theorem dL_law_945 : decode cL_law 945 = .ok (.iload 5, 2) := by decide +kernel
theorem dL_law_947 : decode cL_law 947 = .ok (.if_icmp .eq 5, 3) := by decide +kernel
theorem dL_law_950 : decode cL_law 950 = .ok (.iconst 0, 1) := by decide +kernel
theorem dL_law_951 : decode cL_law 951 = .ok (.ireturn, 1) := by decide +kernel
theorem dL_law_952 : decode cL_law 952 = .ok (.iload 5, 2) := by decide +kernel
theorem dL_law_954 : decode cL_law 954 = .ok (.ifCond .ne 15, 3) := by decide +kernel
theorem dL_law_957 : decode cL_law 957 = .ok (.aload_n 3, 1) := by decide +kernel
theorem dL_law_958 : decode cL_law 958 = .ok (.iconst 0, 1) := by decide +kernel
theorem dL_law_959 : decode cL_law 959 = .ok (.laload, 1) := by decide +kernel
theorem dL_law_960 : decode cL_law 960 = .ok (.iload 6, 2) := by decide +kernel
theorem dL_law_962 : decode cL_law 962 = .ok (.i2l, 1) := by decide +kernel
theorem dL_law_963 : decode cL_law 963 = .ok (.lcmp, 1) := by decide +kernel
theorem dL_law_964 : decode cL_law 964 = .ok (.ifCond .eq 5, 3) := by decide +kernel
theorem dL_law_967 : decode cL_law 967 = .ok (.iconst 0, 1) := by decide +kernel
theorem dL_law_968 : decode cL_law 968 = .ok (.ireturn, 1) := by decide +kernel
theorem dL_law_969 : decode cL_law 969 = .ok (.goto 276, 3) := by decide +kernel
theorem dL_law_972 : decode cL_law 972 = .ok (.aload_n 1, 1) := by decide +kernel
theorem dL_law_973 : decode cL_law 973 = .ok (.aload_n 0, 1) := by decide +kernel
theorem dL_law_974 : decode cL_law 974 = .ok (.iload 4, 2) := by decide +kernel
theorem dL_law_976 : decode cL_law 976 = .ok (.iconst 1, 1) := by decide +kernel
theorem dL_law_977 : decode cL_law 977 = .ok (.iadd, 1) := by decide +kernel
theorem dL_law_978 : decode cL_law 978 = .ok (.iaload, 1) := by decide +kernel
theorem dL_law_979 : decode cL_law 979 = .ok (.aload_n 0, 1) := by decide +kernel
theorem dL_law_980 : decode cL_law 980 = .ok (.iload 4, 2) := by decide +kernel
theorem dL_law_982 : decode cL_law 982 = .ok (.iconst 2, 1) := by decide +kernel
theorem dL_law_983 : decode cL_law 983 = .ok (.iadd, 1) := by decide +kernel
theorem dL_law_984 : decode cL_law 984 = .ok (.iaload, 1) := by decide +kernel
theorem dL_law_985 : decode cL_law 985 = .ok (.aload_n 0, 1) := by decide +kernel
theorem dL_law_986 : decode cL_law 986 = .ok (.iload 4, 2) := by decide +kernel
theorem dL_law_988 : decode cL_law 988 = .ok (.iconst 3, 1) := by decide +kernel
theorem dL_law_989 : decode cL_law 989 = .ok (.iadd, 1) := by decide +kernel
theorem dL_law_990 : decode cL_law 990 = .ok (.iaload, 1) := by decide +kernel
theorem dL_law_991 : decode cL_law 991 = .ok (.aload_n 3, 1) := by decide +kernel
theorem dL_law_992 : decode cL_law 992 = .ok (.invokestatic 128, 3) := by decide +kernel
theorem dL_law_995 : decode cL_law 995 = .ok (.istore 5, 2) := by decide +kernel
theorem dL_law_997 : decode cL_law 997 = .ok (.aload_n 2, 1) := by decide +kernel
theorem dL_law_998 : decode cL_law 998 = .ok (.aload_n 0, 1) := by decide +kernel
theorem dL_law_999 : decode cL_law 999 = .ok (.iload 4, 2) := by decide +kernel
theorem dL_law_1001 : decode cL_law 1001 = .ok (.iconst 1, 1) := by decide +kernel
theorem dL_law_1002 : decode cL_law 1002 = .ok (.iadd, 1) := by decide +kernel
theorem dL_law_1003 : decode cL_law 1003 = .ok (.iaload, 1) := by decide +kernel
theorem dL_law_1004 : decode cL_law 1004 = .ok (.aload_n 0, 1) := by decide +kernel
theorem dL_law_1005 : decode cL_law 1005 = .ok (.iload 4, 2) := by decide +kernel
theorem dL_law_1007 : decode cL_law 1007 = .ok (.iconst 2, 1) := by decide +kernel
theorem dL_law_1008 : decode cL_law 1008 = .ok (.iadd, 1) := by decide +kernel
theorem dL_law_1009 : decode cL_law 1009 = .ok (.iaload, 1) := by decide +kernel
theorem dL_law_1010 : decode cL_law 1010 = .ok (.aload_n 0, 1) := by decide +kernel
theorem dL_law_1011 : decode cL_law 1011 = .ok (.iload 4, 2) := by decide +kernel
theorem dL_law_1013 : decode cL_law 1013 = .ok (.iconst 3, 1) := by decide +kernel
theorem dL_law_1014 : decode cL_law 1014 = .ok (.iadd, 1) := by decide +kernel
theorem dL_law_1015 : decode cL_law 1015 = .ok (.iaload, 1) := by decide +kernel
theorem dL_law_1016 : decode cL_law 1016 = .ok (.invokevirtual 130, 3) := by decide +kernel
theorem dL_law_1019 : decode cL_law 1019 = .ok (.istore 6, 2) := by decide +kernel
theorem dL_law_1021 : decode cL_law 1021 = .ok (.aload_n 2, 1) := by decide +kernel
theorem dL_law_1022 : decode cL_law 1022 = .ok (.invokevirtual 83, 3) := by decide +kernel
theorem dL_law_1025 : decode cL_law 1025 = .ok (.iload 5, 2) := by decide +kernel
theorem dL_law_1027 : decode cL_law 1027 = .ok (.if_icmp .eq 5, 3) := by decide +kernel
theorem dL_law_1030 : decode cL_law 1030 = .ok (.iconst 0, 1) := by decide +kernel
theorem dL_law_1031 : decode cL_law 1031 = .ok (.ireturn, 1) := by decide +kernel
theorem dL_law_1032 : decode cL_law 1032 = .ok (.iload 5, 2) := by decide +kernel
theorem dL_law_1034 : decode cL_law 1034 = .ok (.ifCond .ne 15, 3) := by decide +kernel
theorem dL_law_1037 : decode cL_law 1037 = .ok (.aload_n 3, 1) := by decide +kernel
theorem dL_law_1038 : decode cL_law 1038 = .ok (.iconst 0, 1) := by decide +kernel
theorem dL_law_1039 : decode cL_law 1039 = .ok (.laload, 1) := by decide +kernel
theorem dL_law_1040 : decode cL_law 1040 = .ok (.iload 6, 2) := by decide +kernel
theorem dL_law_1042 : decode cL_law 1042 = .ok (.i2l, 1) := by decide +kernel
theorem dL_law_1043 : decode cL_law 1043 = .ok (.lcmp, 1) := by decide +kernel
theorem dL_law_1044 : decode cL_law 1044 = .ok (.ifCond .eq 5, 3) := by decide +kernel
theorem dL_law_1047 : decode cL_law 1047 = .ok (.iconst 0, 1) := by decide +kernel
theorem dL_law_1048 : decode cL_law 1048 = .ok (.ireturn, 1) := by decide +kernel
theorem dL_law_1049 : decode cL_law 1049 = .ok (.goto 196, 3) := by decide +kernel
theorem dL_law_1052 : decode cL_law 1052 = .ok (.aload_n 1, 1) := by decide +kernel
theorem dL_law_1053 : decode cL_law 1053 = .ok (.aload_n 0, 1) := by decide +kernel
theorem dL_law_1054 : decode cL_law 1054 = .ok (.iload 4, 2) := by decide +kernel
theorem dL_law_1056 : decode cL_law 1056 = .ok (.iconst 1, 1) := by decide +kernel
theorem dL_law_1057 : decode cL_law 1057 = .ok (.iadd, 1) := by decide +kernel
theorem dL_law_1058 : decode cL_law 1058 = .ok (.iaload, 1) := by decide +kernel
theorem dL_law_1059 : decode cL_law 1059 = .ok (.aload_n 0, 1) := by decide +kernel
theorem dL_law_1060 : decode cL_law 1060 = .ok (.iload 4, 2) := by decide +kernel
theorem dL_law_1062 : decode cL_law 1062 = .ok (.iconst 2, 1) := by decide +kernel
theorem dL_law_1063 : decode cL_law 1063 = .ok (.iadd, 1) := by decide +kernel
theorem dL_law_1064 : decode cL_law 1064 = .ok (.iaload, 1) := by decide +kernel
theorem dL_law_1065 : decode cL_law 1065 = .ok (.aload_n 3, 1) := by decide +kernel
theorem dL_law_1066 : decode cL_law 1066 = .ok (.invokestatic 131, 3) := by decide +kernel
theorem dL_law_1069 : decode cL_law 1069 = .ok (.istore 5, 2) := by decide +kernel
theorem dL_law_1071 : decode cL_law 1071 = .ok (.aload_n 2, 1) := by decide +kernel
theorem dL_law_1072 : decode cL_law 1072 = .ok (.aload_n 0, 1) := by decide +kernel
theorem dL_law_1073 : decode cL_law 1073 = .ok (.iload 4, 2) := by decide +kernel
theorem dL_law_1075 : decode cL_law 1075 = .ok (.iconst 1, 1) := by decide +kernel
theorem dL_law_1076 : decode cL_law 1076 = .ok (.iadd, 1) := by decide +kernel
theorem dL_law_1077 : decode cL_law 1077 = .ok (.iaload, 1) := by decide +kernel
theorem dL_law_1078 : decode cL_law 1078 = .ok (.aload_n 0, 1) := by decide +kernel
theorem dL_law_1079 : decode cL_law 1079 = .ok (.iload 4, 2) := by decide +kernel
theorem dL_law_1081 : decode cL_law 1081 = .ok (.iconst 2, 1) := by decide +kernel
theorem dL_law_1082 : decode cL_law 1082 = .ok (.iadd, 1) := by decide +kernel
theorem dL_law_1083 : decode cL_law 1083 = .ok (.iaload, 1) := by decide +kernel
theorem dL_law_1084 : decode cL_law 1084 = .ok (.invokevirtual 133, 3) := by decide +kernel
theorem dL_law_1087 : decode cL_law 1087 = .ok (.istore 6, 2) := by decide +kernel
theorem dL_law_1089 : decode cL_law 1089 = .ok (.aload_n 2, 1) := by decide +kernel
theorem dL_law_1090 : decode cL_law 1090 = .ok (.invokevirtual 83, 3) := by decide +kernel
theorem dL_law_1093 : decode cL_law 1093 = .ok (.iload 5, 2) := by decide +kernel
theorem dL_law_1095 : decode cL_law 1095 = .ok (.if_icmp .eq 5, 3) := by decide +kernel
theorem dL_law_1098 : decode cL_law 1098 = .ok (.iconst 0, 1) := by decide +kernel
theorem dL_law_1099 : decode cL_law 1099 = .ok (.ireturn, 1) := by decide +kernel
theorem dL_law_1100 : decode cL_law 1100 = .ok (.iload 5, 2) := by decide +kernel
theorem dL_law_1102 : decode cL_law 1102 = .ok (.ifCond .ne 15, 3) := by decide +kernel
theorem dL_law_1105 : decode cL_law 1105 = .ok (.aload_n 3, 1) := by decide +kernel
theorem dL_law_1106 : decode cL_law 1106 = .ok (.iconst 0, 1) := by decide +kernel
theorem dL_law_1107 : decode cL_law 1107 = .ok (.laload, 1) := by decide +kernel
theorem dL_law_1108 : decode cL_law 1108 = .ok (.iload 6, 2) := by decide +kernel
theorem dL_law_1110 : decode cL_law 1110 = .ok (.i2l, 1) := by decide +kernel
theorem dL_law_1111 : decode cL_law 1111 = .ok (.lcmp, 1) := by decide +kernel
theorem dL_law_1112 : decode cL_law 1112 = .ok (.ifCond .eq 5, 3) := by decide +kernel
theorem dL_law_1115 : decode cL_law 1115 = .ok (.iconst 0, 1) := by decide +kernel
theorem dL_law_1116 : decode cL_law 1116 = .ok (.ireturn, 1) := by decide +kernel
theorem dL_law_1117 : decode cL_law 1117 = .ok (.goto 128, 3) := by decide +kernel
theorem dL_law_1120 : decode cL_law 1120 = .ok (.aload_n 1, 1) := by decide +kernel
theorem dL_law_1121 : decode cL_law 1121 = .ok (.aload_n 0, 1) := by decide +kernel
theorem dL_law_1122 : decode cL_law 1122 = .ok (.iload 4, 2) := by decide +kernel
theorem dL_law_1124 : decode cL_law 1124 = .ok (.iconst 1, 1) := by decide +kernel
theorem dL_law_1125 : decode cL_law 1125 = .ok (.iadd, 1) := by decide +kernel
theorem dL_law_1126 : decode cL_law 1126 = .ok (.iaload, 1) := by decide +kernel
theorem dL_law_1127 : decode cL_law 1127 = .ok (.aload_n 3, 1) := by decide +kernel
theorem dL_law_1128 : decode cL_law 1128 = .ok (.invokestatic 134, 3) := by decide +kernel
theorem dL_law_1131 : decode cL_law 1131 = .ok (.istore 5, 2) := by decide +kernel
theorem dL_law_1133 : decode cL_law 1133 = .ok (.aload_n 2, 1) := by decide +kernel
theorem dL_law_1134 : decode cL_law 1134 = .ok (.aload_n 0, 1) := by decide +kernel
theorem dL_law_1135 : decode cL_law 1135 = .ok (.iload 4, 2) := by decide +kernel
theorem dL_law_1137 : decode cL_law 1137 = .ok (.iconst 1, 1) := by decide +kernel
theorem dL_law_1138 : decode cL_law 1138 = .ok (.iadd, 1) := by decide +kernel
theorem dL_law_1139 : decode cL_law 1139 = .ok (.iaload, 1) := by decide +kernel
theorem dL_law_1140 : decode cL_law 1140 = .ok (.invokevirtual 136, 3) := by decide +kernel
theorem dL_law_1143 : decode cL_law 1143 = .ok (.istore 6, 2) := by decide +kernel
theorem dL_law_1145 : decode cL_law 1145 = .ok (.aload_n 2, 1) := by decide +kernel
theorem dL_law_1146 : decode cL_law 1146 = .ok (.invokevirtual 83, 3) := by decide +kernel
theorem dL_law_1149 : decode cL_law 1149 = .ok (.iload 5, 2) := by decide +kernel
theorem dL_law_1151 : decode cL_law 1151 = .ok (.if_icmp .eq 5, 3) := by decide +kernel
theorem dL_law_1154 : decode cL_law 1154 = .ok (.iconst 0, 1) := by decide +kernel
theorem dL_law_1155 : decode cL_law 1155 = .ok (.ireturn, 1) := by decide +kernel
theorem dL_law_1156 : decode cL_law 1156 = .ok (.iload 5, 2) := by decide +kernel
theorem dL_law_1158 : decode cL_law 1158 = .ok (.ifCond .ne 15, 3) := by decide +kernel
theorem dL_law_1161 : decode cL_law 1161 = .ok (.aload_n 3, 1) := by decide +kernel
theorem dL_law_1162 : decode cL_law 1162 = .ok (.iconst 0, 1) := by decide +kernel
theorem dL_law_1163 : decode cL_law 1163 = .ok (.laload, 1) := by decide +kernel
theorem dL_law_1164 : decode cL_law 1164 = .ok (.iload 6, 2) := by decide +kernel
theorem dL_law_1166 : decode cL_law 1166 = .ok (.i2l, 1) := by decide +kernel
theorem dL_law_1167 : decode cL_law 1167 = .ok (.lcmp, 1) := by decide +kernel
theorem dL_law_1168 : decode cL_law 1168 = .ok (.ifCond .eq 5, 3) := by decide +kernel
theorem dL_law_1171 : decode cL_law 1171 = .ok (.iconst 0, 1) := by decide +kernel
theorem dL_law_1172 : decode cL_law 1172 = .ok (.ireturn, 1) := by decide +kernel
theorem dL_law_1173 : decode cL_law 1173 = .ok (.goto 72, 3) := by decide +kernel
theorem dL_law_1176 : decode cL_law 1176 = .ok (.aload_n 1, 1) := by decide +kernel
theorem dL_law_1177 : decode cL_law 1177 = .ok (.invokevirtual 137, 3) := by decide +kernel
theorem dL_law_1180 : decode cL_law 1180 = .ok (.aload_n 2, 1) := by decide +kernel
theorem dL_law_1181 : decode cL_law 1181 = .ok (.invokevirtual 141, 3) := by decide +kernel
theorem dL_law_1184 : decode cL_law 1184 = .ok (.if_icmp .eq 61, 3) := by decide +kernel
theorem dL_law_1187 : decode cL_law 1187 = .ok (.iconst 0, 1) := by decide +kernel
theorem dL_law_1188 : decode cL_law 1188 = .ok (.ireturn, 1) := by decide +kernel
theorem dL_law_1189 : decode cL_law 1189 = .ok (.aload_n 1, 1) := by decide +kernel
theorem dL_law_1190 : decode cL_law 1190 = .ok (.aload_n 0, 1) := by decide +kernel
theorem dL_law_1191 : decode cL_law 1191 = .ok (.iload 4, 2) := by decide +kernel
theorem dL_law_1193 : decode cL_law 1193 = .ok (.iconst 1, 1) := by decide +kernel
theorem dL_law_1194 : decode cL_law 1194 = .ok (.iadd, 1) := by decide +kernel
theorem dL_law_1195 : decode cL_law 1195 = .ok (.iaload, 1) := by decide +kernel
theorem dL_law_1196 : decode cL_law 1196 = .ok (.aload_n 3, 1) := by decide +kernel
theorem dL_law_1197 : decode cL_law 1197 = .ok (.invokestatic 142, 3) := by decide +kernel
theorem dL_law_1200 : decode cL_law 1200 = .ok (.istore 5, 2) := by decide +kernel
theorem dL_law_1202 : decode cL_law 1202 = .ok (.aload_n 2, 1) := by decide +kernel
theorem dL_law_1203 : decode cL_law 1203 = .ok (.aload_n 0, 1) := by decide +kernel
theorem dL_law_1204 : decode cL_law 1204 = .ok (.iload 4, 2) := by decide +kernel
theorem dL_law_1206 : decode cL_law 1206 = .ok (.iconst 1, 1) := by decide +kernel
theorem dL_law_1207 : decode cL_law 1207 = .ok (.iadd, 1) := by decide +kernel
theorem dL_law_1208 : decode cL_law 1208 = .ok (.iaload, 1) := by decide +kernel
theorem dL_law_1209 : decode cL_law 1209 = .ok (.invokevirtual 144, 3) := by decide +kernel
theorem dL_law_1212 : decode cL_law 1212 = .ok (.istore 6, 2) := by decide +kernel
theorem dL_law_1214 : decode cL_law 1214 = .ok (.aload_n 2, 1) := by decide +kernel
theorem dL_law_1215 : decode cL_law 1215 = .ok (.invokevirtual 83, 3) := by decide +kernel
theorem dL_law_1218 : decode cL_law 1218 = .ok (.iload 5, 2) := by decide +kernel
theorem dL_law_1220 : decode cL_law 1220 = .ok (.if_icmp .eq 5, 3) := by decide +kernel
theorem dL_law_1223 : decode cL_law 1223 = .ok (.iconst 0, 1) := by decide +kernel
theorem dL_law_1224 : decode cL_law 1224 = .ok (.ireturn, 1) := by decide +kernel
theorem dL_law_1225 : decode cL_law 1225 = .ok (.iload 5, 2) := by decide +kernel
theorem dL_law_1227 : decode cL_law 1227 = .ok (.ifCond .ne 15, 3) := by decide +kernel
theorem dL_law_1230 : decode cL_law 1230 = .ok (.aload_n 3, 1) := by decide +kernel
theorem dL_law_1231 : decode cL_law 1231 = .ok (.iconst 0, 1) := by decide +kernel
theorem dL_law_1232 : decode cL_law 1232 = .ok (.laload, 1) := by decide +kernel
theorem dL_law_1233 : decode cL_law 1233 = .ok (.iload 6, 2) := by decide +kernel
theorem dL_law_1235 : decode cL_law 1235 = .ok (.i2l, 1) := by decide +kernel
theorem dL_law_1236 : decode cL_law 1236 = .ok (.lcmp, 1) := by decide +kernel
theorem dL_law_1237 : decode cL_law 1237 = .ok (.ifCond .eq 5, 3) := by decide +kernel
theorem dL_law_1240 : decode cL_law 1240 = .ok (.iconst 0, 1) := by decide +kernel
theorem dL_law_1241 : decode cL_law 1241 = .ok (.ireturn, 1) := by decide +kernel
theorem dL_law_1242 : decode cL_law 1242 = .ok (.goto 3, 3) := by decide +kernel
theorem dL_law_1245 : decode cL_law 1245 = .ok (.iinc 4 4, 3) := by decide +kernel
theorem dL_law_1248 : decode cL_law 1248 = .ok (.goto (-1225), 3) := by decide +kernel
theorem dL_law_1251 : decode cL_law 1251 = .ok (.iconst 1, 1) := by decide +kernel
theorem dL_law_1252 : decode cL_law 1252 = .ok (.ireturn, 1) := by decide +kernel
end
section
/-! ===== the layout: which cell is what (by the order in which the constructors make them) ===== -/
def kN : Nat := 139
def kd (c : Nat) : Nat × Nat × Nat :=
  if c = 0 then (0, 1, 12) else if c = 1 then (3, 0, 20)
  else if c < 122 then (if (c - 2) % 6 = 0 then (0, 0, 8) else if (c - 2) % 6 = 1 then (1, 0, 4) else if (c - 2) % 6 = 2 then (1, 0, 8) else (1, 0, 64))
  else if c = 122 then (3, 0, 256) else if c = 123 then (2, 0, 256) else if c = 124 then (1, 0, 20) else if c = 125 then (1, 0, 20)
  else if c = 126 then (0, 2, 17) else if c = 127 then (1, 0, 256) else if c = 128 then (1, 0, 1024) else if c = 129 then (1, 0, 256)
  else if c = 130 then (1, 0, 2048) else if c = 131 then (1, 0, 256) else if c = 132 then (1, 0, 16384) else if c = 133 then (1, 0, 16384)
  else if c = 134 then (1, 0, 16384) else if c = 135 then (1, 0, 4) else if c = 136 then (1, 0, 64) else if c = 137 then (1, 0, 64)
  else if c = 138 then (4, 0, 1) else (9, 0, 0)
theorem kd_lt {c : Nat} (h : (kd c).1 ≠ 9) : c < kN := by
  rcases Nat.lt_or_ge c kN with g | g
  · exact g
  · exfalso
    apply h
    have g : 139 ≤ c := g
    simp only [kd]
    repeat (first | rw [if_neg (by omega)])
/-- which fields hold references: class, field -/
def kr : Nat → Nat → Bool
  | 0, k => decide (k < 5)
  | 1, k => k == 0 || k == 1 || k == 2 || k == 3 || k == 5
  | 2, k => decide (3 ≤ k) && decide (k < 12) || k == 15 || k == 16
  | _, _ => false
/-- the final fields that hold references: what they hold once the constructors are through -/
def kfin (c ci k : Nat) : Nat := match ci with
  | 0 => c + 1 + k
  | 1 => if k = 0 then 1 else if k = 1 then 122 else if k = 2 then 123 else if k = 3 then 124 else 125
  | _ => if k = 15 then 136 else if k = 16 then 137 else 124 + k
theorem kd_0 : kd 0 = (0, 1, 12) := by decide +kernel
theorem kd_1 : kd 1 = (3, 0, 20) := by decide +kernel
theorem kd_122 : kd 122 = (3, 0, 256) := by decide +kernel
theorem kd_123 : kd 123 = (2, 0, 256) := by decide +kernel
theorem kd_124 : kd 124 = (1, 0, 20) := by decide +kernel
theorem kd_125 : kd 125 = (1, 0, 20) := by decide +kernel
theorem kd_126 : kd 126 = (0, 2, 17) := by decide +kernel
theorem kd_127 : kd 127 = (1, 0, 256) := by decide +kernel
theorem kd_128 : kd 128 = (1, 0, 1024) := by decide +kernel
theorem kd_129 : kd 129 = (1, 0, 256) := by decide +kernel
theorem kd_130 : kd 130 = (1, 0, 2048) := by decide +kernel
theorem kd_131 : kd 131 = (1, 0, 256) := by decide +kernel
theorem kd_132 : kd 132 = (1, 0, 16384) := by decide +kernel
theorem kd_133 : kd 133 = (1, 0, 16384) := by decide +kernel
theorem kd_134 : kd 134 = (1, 0, 16384) := by decide +kernel
theorem kd_135 : kd 135 = (1, 0, 4) := by decide +kernel
theorem kd_136 : kd 136 = (1, 0, 64) := by decide +kernel
theorem kd_137 : kd 137 = (1, 0, 64) := by decide +kernel
theorem kd_138 : kd 138 = (4, 0, 1) := by decide +kernel
end
section
/-! ===== the world: every cell of the system has a number; a state gives what the cells hold, by these numbers ===== -/
/-- whole numbers, references (numbers of cells), longs: cell, place -/
abbrev kS : Type := (Nat → Nat → Int32) × (Nat → Nat → Option Nat) × (Nat → Nat → Int64)
/-- the tables' data; the four kinds of arrays; where a cell lies; how many there are; where the old heap ends -/
abbrev kW : Type := va_G × (Nat → ClassId) × (Nat → Nat) × Nat × Nat
abbrev kL (w : kW) : Nat → Nat := w.2.2.1
abbrev kA (w : kW) : Nat → Prop := fun q => w.2.2.2.2 ≤ q
def kt (w : kW) : List (ClassId × FieldType) := [(w.2.1 0, .int), (w.2.1 1, .boolean), (w.2.1 2, .object RX0), (w.2.1 3, .long)]
/-- a cell's kind: (0, class, fields), (1, _, ints), (2, _, booleans), (3, _, references), (4, _, longs) -/
def kE (w : kW) (σ : kS) (c : Nat) : va_E := match kd c with
  | (0, ci, n) => .inr (ci, (List.range n).map fun k => bif kr ci k then va_rf ((σ.2.1 c k).map w.2.2.1) else .int (σ.1 c k))
  | (1, _, n) => .inl (w.2.1 0, n, .inl (σ.1 c))
  | (2, _, n) => .inl (w.2.1 1, n, .inl (σ.1 c))
  | (3, _, n) => .inl (w.2.1 2, n, .inr (.inr (.inr (.inr fun j => (σ.2.1 c j).map w.2.2.1))))
  | (_, _, n) => .inl (w.2.1 3, n, .inr (.inl (σ.2.2 c)))
def kws (w : kW) (σ : kS) : va_W := (List.range w.2.2.2.1).map fun c => (w.2.2.1 c, kE w σ c)
def kH (w : kW) (σ : kS) (H : Heap) : Prop := va_P w.1 vwCl (kws w σ) H ∧ va_D (kA w) (kws w σ)
theorem kws_at (w : kW) (σ : kS) {c : Nat} (h : c < w.2.2.2.1) : (kws w σ)[c]? = some (kL w c, kE w σ c) := by
  simp [kws, List.getElem?_range h]
theorem kE_o (w : kW) (σ : kS) {c ci n : Nat} (h : kd c = (0, ci, n)) : kE w σ c = .inr (ci, (List.range n).map fun k => bif kr ci k then va_rf ((σ.2.1 c k).map w.2.2.1) else .int (σ.1 c k)) := by
  simp only [kE, h]
theorem kE_i (w : kW) (σ : kS) {c x n : Nat} (h : kd c = (1, x, n)) : kE w σ c = .inl (w.2.1 0, n, .inl (σ.1 c)) := by
  simp only [kE, h]
theorem kE_z (w : kW) (σ : kS) {c x n : Nat} (h : kd c = (2, x, n)) : kE w σ c = .inl (w.2.1 1, n, .inl (σ.1 c)) := by
  simp only [kE, h]
theorem kE_r (w : kW) (σ : kS) {c x n : Nat} (h : kd c = (3, x, n)) : kE w σ c = .inl (w.2.1 2, n, .inr (.inr (.inr (.inr fun j => (σ.2.1 c j).map w.2.2.1)))) := by
  simp only [kE, h]
theorem kE_j (w : kW) (σ : kS) {c x n : Nat} (h : kd c = (4, x, n)) : kE w σ c = .inl (w.2.1 3, n, .inr (.inl (σ.2.2 c))) := by
  simp only [kE, h]
/-- what is written -/
def sI (σ : kS) (c i : Nat) (v : Int32) : kS := (fun a j => if a = c ∧ j = i then v else σ.1 a j, σ.2)
def sR (σ : kS) (c i : Nat) (v : Option Nat) : kS := (σ.1, fun a j => if a = c ∧ j = i then v else σ.2.1 a j, σ.2.2)
def sJ (σ : kS) (c i : Nat) (v : Int64) : kS := (σ.1, σ.2.1, fun a j => if a = c ∧ j = i then v else σ.2.2 a j)
/-- one cell is another one: the list with it -/
theorem kws_set (w : kW) {σ τ : kS} {c : Nat} (hn : ∀ a, a ≠ c → kE w τ a = kE w σ a) : (kws w σ).set c (kL w c, kE w τ c) = kws w τ := by
  apply List.ext_getElem?
  intro i
  rw [List.getElem?_set]
  by_cases h : c = i
  · subst h
    simp only [kws, List.length_map, List.length_range, if_true]
    by_cases hc : c < w.2.2.2.1
    · simp [hc]
    · simp [hc]
  · rw [if_neg h]
    simp only [kws, List.getElem?_map]
    by_cases hi : i < w.2.2.2.1
    · rw [List.getElem?_range hi]
      simp only [Option.map_some]
      rw [hn i (fun e => h e.symm)]
    · rw [List.getElem?_eq_none (by simpa using hi)]
      rfl
theorem kE_sI (w : kW) (σ : kS) (c i : Nat) (v : Int32) (a : Nat) (h : a ≠ c) : kE w (sI σ c i v) a = kE w σ a := by
  have e : ∀ j, (sI σ c i v).1 a j = σ.1 a j := fun j => by simp [sI, h]
  have e1 : (sI σ c i v).1 a = σ.1 a := funext e
  simp only [kE, e1]
  rfl
theorem kE_sR (w : kW) (σ : kS) (c i : Nat) (v : Option Nat) (a : Nat) (h : a ≠ c) : kE w (sR σ c i v) a = kE w σ a := by
  have e1 : (sR σ c i v).2.1 a = σ.2.1 a := funext fun j => by simp [sR, h]
  simp only [kE, e1]
  rfl
theorem kE_sJ (w : kW) (σ : kS) (c i : Nat) (v : Int64) (a : Nat) (h : a ≠ c) : kE w (sJ σ c i v) a = kE w σ a := by
  have e1 : (sJ σ c i v).2.2 a = σ.2.2 a := funext fun j => by simp [sJ, h]
  simp only [kE, e1]
  rfl
end
section
/-! ===== the final references stand for themselves; the judgement over a state ===== -/
def kF (σ : kS) : kS := (σ.1, fun c k => if (kd c).1 = 0 ∧ kr (kd c).2.1 k = true then some (kfin c (kd c).2.1 k) else σ.2.1 c k, σ.2.2)
theorem kF_sI (σ : kS) (c i : Nat) (v : Int32) : kF (sI σ c i v) = sI (kF σ) c i v := rfl
theorem kF_sJ (σ : kS) (c i : Nat) (v : Int64) : kF (sJ σ c i v) = sJ (kF σ) c i v := rfl
theorem kF_sR (σ : kS) {c i : Nat} (v : Option Nat) (h : (kd c).1 ≠ 0) : kF (sR σ c i v) = sR (kF σ) c i v := by
  simp only [kF, sR]
  congr 1
  congr 1
  funext a j
  by_cases h1 : (kd a).1 = 0 ∧ kr (kd a).2.1 j = true
  · rw [if_pos h1]
    by_cases h2 : a = c ∧ j = i
    · exact absurd (h2.1 ▸ h1.1) h
    · rw [if_neg h2, if_pos h1]
  · rw [if_neg h1]
    by_cases h2 : a = c ∧ j = i
    · rw [if_pos h2, if_pos h2]
    · rw [if_neg h2, if_neg h2, if_neg h1]
def TB : List Cond := lw_tbl.filter goodWord
theorem tb_in {i : Nat} {x : Cond} (h : lw_tbl[i]? = some x) (g : goodWord x = true) : x ∈ TB := List.mem_filter.mpr ⟨List.mem_of_getElem? h, g⟩
theorem tb_good {x : Cond} (h : x ∈ TB) : (x.onTables && x.keeps) = true ∨ ∃ ty, x = .arrayClass ty := good_of_word (List.mem_filter.mp h).2
section KR
variable {w : kW} {p : Program} {l : Launch} {e : Env} {R : Room} {s : State} {m : MethodId} {args : Array Value} {below : List Frame} {meth : Method} {c : Code} {Q : State → Prop}
variable {cc : ByteArray} {nL : Nat} {own : String} {σ : kS} {pc : Nat} {lv lv' : List (Nat × Value)} {st : List Value} {cells slots : Nat}
/-- the locals, all of one word -/
def lvh (ls : Array Slot) (nL : Nat) (lv : List (Nat × Value)) : Prop := lv_has ls nL lv ∧ ∀ q ∈ lv, q.2.category = 1
/-- a local gets a value: the list with it in front -/
def kst (lv : List (Nat × Value)) (i : Nat) (v : Value) : List (Nat × Value) := (i, v) :: lv.filter (fun q => !(q.1 == i))
theorem lvh_st {ls ls' : Array Slot} {nL i : Nat} {lv : List (Nat × Value)} {v : Value} (hl : lvh ls nL lv) (hv : v.category = 1) (h : lv_has ls' nL ((i, v) :: lv.filter (fun q => !(q.1 == i) && !(q.1 + 1 == i && q.2.category == 2)))) : lvh ls' nL (kst lv i v) := by
  have e : lv.filter (fun q => !(q.1 == i) && !(q.1 + 1 == i && q.2.category == 2)) = lv.filter (fun q => !(q.1 == i)) := by
    apply List.filter_congr
    intro q hq
    rw [hl.2 q hq]
    simp
  rw [e] at h
  refine ⟨h, fun q hq => ?_⟩
  rcases List.mem_cons.mp hq with rfl | hq
  · exact hv
  · exact hl.2 q (List.mem_filter.mp hq).1
theorem va_rf_cat (x : Option Nat) : (va_rf x).category = 1 := by cases x <;> rfl
/-- what stays the same in a method's walk -/
def kC (w : kW) (p : Program) (s : State) (m : MethodId) (args : Array Value) (meth : Method) (c : Code) (cc : ByteArray) (nL : Nat) (own : String) : Prop :=
  p.tables.exec = Jvm.exec ∧ c.code = cc ∧ c.maxLocals = nL ∧ s.vm.findClass own = some m.cls ∧ (∀ x ∈ TB, x.before args s = true) ∧ va_K w.1 vwCl (kt w) s ∧ meth.locks = false ∧ w.2.2.2.2 ≤ s.heap.size ∧ w.2.2.2.1 = kN
/-- from the state σ, at pc, with these locals and this stack, the machine comes to Q -/
def kG (w : kW) (p : Program) (l : Launch) (e : Env) (R : Room) (s : State) (m : MethodId) (args : Array Value) (below : List Frame) (meth : Method) (c : Code) (Q : State → Prop) (nL : Nat) (σ : kS) (pc : Nat) (lv : List (Nat × Value)) (st : List Value) (cells slots : Nat) : Prop :=
  ∀ (H : Heap) (locs : List Loc) (ls : Array Slot), kH w (kF σ) H → va_S (kA w) s.heap H locs → lvh ls nL lv → W p l e R s m args below meth c H locs cells slots Q (F0 m pc ls st)
theorem k_iconst (K : kC w p s m args meth c cc nL own) {n : Int} (d : decode cc pc = .ok (.iconst n, 1)) {v : Int32} (hv : Int32.ofInt n = v) (k : kG w p l e R s m args below meth c Q nL σ (pc + 1) lv (.int v :: st) cells slots) : kG w p l e R s m args below meth c Q nL σ pc lv st cells slots :=
  fun H locs ls hH hS hl => lv_iconst K.1 K.2.1 d hv (k H locs ls hH hS hl)
theorem k_bipush (K : kC w p s m args meth c cc nL own) {n : Int} (d : decode cc pc = .ok (.bipush n, 2)) {v : Int32} (hv : (Int8.ofInt n).toInt32 = v) (k : kG w p l e R s m args below meth c Q nL σ (pc + 2) lv (.int v :: st) cells slots) : kG w p l e R s m args below meth c Q nL σ pc lv st cells slots :=
  fun H locs ls hH hS hl => lv_bipush K.1 K.2.1 d hv (k H locs ls hH hS hl)
theorem k_sipush (K : kC w p s m args meth c cc nL own) {n : Int} (d : decode cc pc = .ok (.sipush n, 3)) {v : Int32} (hv : (Int16.ofInt n).toInt32 = v) (k : kG w p l e R s m args below meth c Q nL σ (pc + 3) lv (.int v :: st) cells slots) : kG w p l e R s m args below meth c Q nL σ pc lv st cells slots :=
  fun H locs ls hH hS hl => lv_sipush K.1 K.2.1 d hv (k H locs ls hH hS hl)
theorem k_null (K : kC w p s m args meth c cc nL own) (d : decode cc pc = .ok (.aconst_null, 1)) (k : kG w p l e R s m args below meth c Q nL σ (pc + 1) lv (.null :: st) cells slots) : kG w p l e R s m args below meth c Q nL σ pc lv st cells slots :=
  fun H locs ls hH hS hl => lv_null K.1 K.2.1 d (k H locs ls hH hS hl)
theorem k_iload_n (K : kC w p s m args meth c cc nL own) {j : Fin 4} (d : decode cc pc = .ok (.iload_n j, 1)) (i : Nat) {x : Int32} (hx : lv[i]? = some ((j : Nat), .int x)) (k : kG w p l e R s m args below meth c Q nL σ (pc + 1) lv (.int x :: st) cells slots) : kG w p l e R s m args below meth c Q nL σ pc lv st cells slots :=
  fun H locs ls hH hS hl => lv_iload_n K.1 K.2.1 d rfl (lv_at hl.1 i hx) (k H locs ls hH hS hl)
theorem k_iload (K : kC w p s m args meth c cc nL own) {j : Nat} (d : decode cc pc = .ok (.iload j, 2)) (i : Nat) {x : Int32} (hx : lv[i]? = some (j, .int x)) (k : kG w p l e R s m args below meth c Q nL σ (pc + 2) lv (.int x :: st) cells slots) : kG w p l e R s m args below meth c Q nL σ pc lv st cells slots :=
  fun H locs ls hH hS hl => lv_iload K.1 K.2.1 d (lv_at hl.1 i hx) (k H locs ls hH hS hl)
theorem k_aload_n (K : kC w p s m args meth c cc nL own) {j : Fin 4} (d : decode cc pc = .ok (.aload_n j, 1)) (i : Nat) {x : Nat} (hx : lv[i]? = some ((j : Nat), .ref x)) (k : kG w p l e R s m args below meth c Q nL σ (pc + 1) lv (.ref x :: st) cells slots) : kG w p l e R s m args below meth c Q nL σ pc lv st cells slots :=
  fun H locs ls hH hS hl => lv_aload_n K.1 K.2.1 d rfl (lv_at hl.1 i hx) (k H locs ls hH hS hl)
theorem k_aload (K : kC w p s m args meth c cc nL own) {j : Nat} (d : decode cc pc = .ok (.aload j, 2)) (i : Nat) {x : Nat} (hx : lv[i]? = some (j, .ref x)) (k : kG w p l e R s m args below meth c Q nL σ (pc + 2) lv (.ref x :: st) cells slots) : kG w p l e R s m args below meth c Q nL σ pc lv st cells slots :=
  fun H locs ls hH hS hl => lv_aload K.1 K.2.1 d (lv_at hl.1 i hx) (k H locs ls hH hS hl)
theorem k_aload_nQ (K : kC w p s m args meth c cc nL own) {j : Fin 4} (d : decode cc pc = .ok (.aload_n j, 1)) (i : Nat) {x : Option Nat} (hx : lv[i]? = some ((j : Nat), va_rf x)) (k : kG w p l e R s m args below meth c Q nL σ (pc + 1) lv (va_rf x :: st) cells slots) : kG w p l e R s m args below meth c Q nL σ pc lv st cells slots := by
  intro H locs ls hH hS hl
  cases x with
  | none => exact lv_aload_nN K.1 K.2.1 d rfl (lv_at hl.1 i hx) (k H locs ls hH hS hl)
  | some x => exact lv_aload_n K.1 K.2.1 d rfl (lv_at hl.1 i hx) (k H locs ls hH hS hl)
theorem k_aloadQ (K : kC w p s m args meth c cc nL own) {j : Nat} (d : decode cc pc = .ok (.aload j, 2)) (i : Nat) {x : Option Nat} (hx : lv[i]? = some (j, va_rf x)) (k : kG w p l e R s m args below meth c Q nL σ (pc + 2) lv (va_rf x :: st) cells slots) : kG w p l e R s m args below meth c Q nL σ pc lv st cells slots := by
  intro H locs ls hH hS hl
  cases x with
  | none => exact lv_aloadN K.1 K.2.1 d (lv_at hl.1 i hx) (k H locs ls hH hS hl)
  | some x => exact lv_aload K.1 K.2.1 d (lv_at hl.1 i hx) (k H locs ls hH hS hl)
theorem k_istore_n (K : kC w p s m args meth c cc nL own) {j : Fin 4} (d : decode cc pc = .ok (.istore_n j, 1)) {x : Int32} (hj : (j : Nat) < nL) (hl' : kst lv j (.int x) = lv') (k : kG w p l e R s m args below meth c Q nL σ (pc + 1) lv' st cells slots) : kG w p l e R s m args below meth c Q nL σ pc lv (.int x :: st) cells slots :=
  fun H locs ls hH hS hl => lv_istore_n K.1 K.2.1 d rfl hl.1 hj rfl (fun ls hl2 => k H locs ls hH hS (hl' ▸ lvh_st hl rfl hl2))
theorem k_istore (K : kC w p s m args meth c cc nL own) {j : Nat} (d : decode cc pc = .ok (.istore j, 2)) {x : Int32} (hj : j < nL) (hl' : kst lv j (.int x) = lv') (k : kG w p l e R s m args below meth c Q nL σ (pc + 2) lv' st cells slots) : kG w p l e R s m args below meth c Q nL σ pc lv (.int x :: st) cells slots :=
  fun H locs ls hH hS hl => lv_istore K.1 K.2.1 d hl.1 hj rfl (fun ls hl2 => k H locs ls hH hS (hl' ▸ lvh_st hl rfl hl2))
theorem k_astore_n (K : kC w p s m args meth c cc nL own) {j : Fin 4} (d : decode cc pc = .ok (.astore_n j, 1)) {x : Nat} (hj : (j : Nat) < nL) (hl' : kst lv j (.ref x) = lv') (k : kG w p l e R s m args below meth c Q nL σ (pc + 1) lv' st cells slots) : kG w p l e R s m args below meth c Q nL σ pc lv (.ref x :: st) cells slots :=
  fun H locs ls hH hS hl => lv_astore_n K.1 K.2.1 d rfl hl.1 hj rfl (fun ls hl2 => k H locs ls hH hS (hl' ▸ lvh_st hl rfl hl2))
theorem k_astore (K : kC w p s m args meth c cc nL own) {j : Nat} (d : decode cc pc = .ok (.astore j, 2)) {x : Nat} (hj : j < nL) (hl' : kst lv j (.ref x) = lv') (k : kG w p l e R s m args below meth c Q nL σ (pc + 2) lv' st cells slots) : kG w p l e R s m args below meth c Q nL σ pc lv (.ref x :: st) cells slots :=
  fun H locs ls hH hS hl => lv_astore K.1 K.2.1 d hl.1 hj rfl (fun ls hl2 => k H locs ls hH hS (hl' ▸ lvh_st hl rfl hl2))
theorem k_astore_nQ (K : kC w p s m args meth c cc nL own) {j : Fin 4} (d : decode cc pc = .ok (.astore_n j, 1)) {x : Option Nat} (hj : (j : Nat) < nL) (hl' : kst lv j (va_rf x) = lv') (k : kG w p l e R s m args below meth c Q nL σ (pc + 1) lv' st cells slots) : kG w p l e R s m args below meth c Q nL σ pc lv (va_rf x :: st) cells slots := by
  intro H locs ls hH hS hl
  cases x with
  | none => exact lv_astore_nN K.1 K.2.1 d rfl hl.1 hj rfl (fun ls hl2 => k H locs ls hH hS (hl' ▸ lvh_st hl rfl hl2))
  | some x => exact lv_astore_n K.1 K.2.1 d rfl hl.1 hj rfl (fun ls hl2 => k H locs ls hH hS (hl' ▸ lvh_st hl rfl hl2))
theorem k_astoreQ (K : kC w p s m args meth c cc nL own) {j : Nat} (d : decode cc pc = .ok (.astore j, 2)) {x : Option Nat} (hj : j < nL) (hl' : kst lv j (va_rf x) = lv') (k : kG w p l e R s m args below meth c Q nL σ (pc + 2) lv' st cells slots) : kG w p l e R s m args below meth c Q nL σ pc lv (va_rf x :: st) cells slots := by
  intro H locs ls hH hS hl
  cases x with
  | none => exact lv_astoreN K.1 K.2.1 d hl.1 hj rfl (fun ls hl2 => k H locs ls hH hS (hl' ▸ lvh_st hl rfl hl2))
  | some x => exact lv_astore K.1 K.2.1 d hl.1 hj rfl (fun ls hl2 => k H locs ls hH hS (hl' ▸ lvh_st hl rfl hl2))
theorem k_iinc (K : kC w p s m args meth c cc nL own) {j : Nat} {n : Int} (d : decode cc pc = .ok (.iinc j n, 3)) (i : Nat) {x v : Int32} (hx : lv[i]? = some (j, .int x)) (hv : Int32.ofInt n = v) (hj : j < nL) (hl' : kst lv j (.int (x + v)) = lv') (k : kG w p l e R s m args below meth c Q nL σ (pc + 3) lv' st cells slots) : kG w p l e R s m args below meth c Q nL σ pc lv st cells slots :=
  fun H locs ls hH hS hl => lv_iinc K.1 K.2.1 d hl.1 hx (by rw [hv]) hj rfl (fun ls hl2 => k H locs ls hH hS (hl' ▸ lvh_st hl rfl hl2))
theorem k_iadd (K : kC w p s m args meth c cc nL own) {x y : Int32} (d : decode cc pc = .ok (.iadd, 1)) (k : kG w p l e R s m args below meth c Q nL σ (pc + 1) lv (.int (x + y) :: st) cells slots) : kG w p l e R s m args below meth c Q nL σ pc lv (.int y :: .int x :: st) cells slots :=
  fun H locs ls hH hS hl => lv_iadd K.1 K.2.1 d (k H locs ls hH hS hl)
theorem k_isub (K : kC w p s m args meth c cc nL own) {x y : Int32} (d : decode cc pc = .ok (.isub, 1)) (k : kG w p l e R s m args below meth c Q nL σ (pc + 1) lv (.int (x - y) :: st) cells slots) : kG w p l e R s m args below meth c Q nL σ pc lv (.int y :: .int x :: st) cells slots :=
  fun H locs ls hH hS hl => lv_isub K.1 K.2.1 d (k H locs ls hH hS hl)
theorem k_imul (K : kC w p s m args meth c cc nL own) {x y : Int32} (d : decode cc pc = .ok (.imul, 1)) (k : kG w p l e R s m args below meth c Q nL σ (pc + 1) lv (.int (x * y) :: st) cells slots) : kG w p l e R s m args below meth c Q nL σ pc lv (.int y :: .int x :: st) cells slots :=
  fun H locs ls hH hS hl => lv_imul K.1 K.2.1 d (k H locs ls hH hS hl)
theorem k_iand (K : kC w p s m args meth c cc nL own) {x y : Int32} (d : decode cc pc = .ok (.iand, 1)) (k : kG w p l e R s m args below meth c Q nL σ (pc + 1) lv (.int (x &&& y) :: st) cells slots) : kG w p l e R s m args below meth c Q nL σ pc lv (.int y :: .int x :: st) cells slots :=
  fun H locs ls hH hS hl => lv_iand K.1 K.2.1 d (k H locs ls hH hS hl)
theorem k_ior (K : kC w p s m args meth c cc nL own) {x y : Int32} (d : decode cc pc = .ok (.ior, 1)) (k : kG w p l e R s m args below meth c Q nL σ (pc + 1) lv (.int (x ||| y) :: st) cells slots) : kG w p l e R s m args below meth c Q nL σ pc lv (.int y :: .int x :: st) cells slots :=
  fun H locs ls hH hS hl => lv_ior K.1 K.2.1 d (k H locs ls hH hS hl)
theorem k_ixor (K : kC w p s m args meth c cc nL own) {x y : Int32} (d : decode cc pc = .ok (.ixor, 1)) (k : kG w p l e R s m args below meth c Q nL σ (pc + 1) lv (.int (x ^^^ y) :: st) cells slots) : kG w p l e R s m args below meth c Q nL σ pc lv (.int y :: .int x :: st) cells slots :=
  fun H locs ls hH hS hl => lv_ixor K.1 K.2.1 d (k H locs ls hH hS hl)
theorem k_irem (K : kC w p s m args meth c cc nL own) {x y : Int32} (d : decode cc pc = .ok (.irem, 1)) (hy : ¬ y = 0) (k : kG w p l e R s m args below meth c Q nL σ (pc + 1) lv (.int (x - x / y * y) :: st) cells slots) : kG w p l e R s m args below meth c Q nL σ pc lv (.int y :: .int x :: st) cells slots :=
  fun H locs ls hH hS hl => lv_irem K.1 K.2.1 d hy (k H locs ls hH hS hl)
theorem k_ishl (K : kC w p s m args meth c cc nL own) {x y : Int32} (d : decode cc pc = .ok (.ishl, 1)) (k : kG w p l e R s m args below meth c Q nL σ (pc + 1) lv (.int (x <<< (y &&& 31)) :: st) cells slots) : kG w p l e R s m args below meth c Q nL σ pc lv (.int y :: .int x :: st) cells slots :=
  fun H locs ls hH hS hl => lv_ishl K.1 K.2.1 d (k H locs ls hH hS hl)
theorem k_i2l (K : kC w p s m args meth c cc nL own) {x : Int32} (d : decode cc pc = .ok (.i2l, 1)) (k : kG w p l e R s m args below meth c Q nL σ (pc + 1) lv (.long x.toInt64 :: st) cells slots) : kG w p l e R s m args below meth c Q nL σ pc lv (.int x :: st) cells slots :=
  fun H locs ls hH hS hl => lv_i2l K.1 K.2.1 d rfl (k H locs ls hH hS hl)
theorem k_dup (K : kC w p s m args meth c cc nL own) {a : Value} (d : decode cc pc = .ok (.dup, 1)) (ha : a.category = 1) (k : kG w p l e R s m args below meth c Q nL σ (pc + 1) lv (a :: a :: st) cells slots) : kG w p l e R s m args below meth c Q nL σ pc lv (a :: st) cells slots :=
  fun H locs ls hH hS hl => lv_dup K.1 K.2.1 d ha (k H locs ls hH hS hl)
theorem k_dup2 (K : kC w p s m args meth c cc nL own) {a b : Value} (d : decode cc pc = .ok (.dup2, 1)) (ha : a.category = 1) (hb : b.category = 1) (k : kG w p l e R s m args below meth c Q nL σ (pc + 1) lv (a :: b :: a :: b :: st) cells slots) : kG w p l e R s m args below meth c Q nL σ pc lv (a :: b :: st) cells slots :=
  fun H locs ls hH hS hl => lv_dup2_11 K.1 K.2.1 d ha hb (k H locs ls hH hS hl)
theorem k_pop (K : kC w p s m args meth c cc nL own) {a : Value} (d : decode cc pc = .ok (.pop, 1)) (ha : a.category = 1) (k : kG w p l e R s m args below meth c Q nL σ (pc + 1) lv st cells slots) : kG w p l e R s m args below meth c Q nL σ pc lv (a :: st) cells slots :=
  fun H locs ls hH hS hl => lv_pop K.1 K.2.1 d ha (k H locs ls hH hS hl)
theorem k_goto (K : kC w p s m args meth c cc nL own) {off : Int} (tgt : Nat) (d : decode cc pc = .ok (.goto off, 3)) (ht : (pc : Int) + off = (tgt : Int)) (k : kG w p l e R s m args below meth c Q nL σ tgt lv st cells slots) : kG w p l e R s m args below meth c Q nL σ pc lv st cells slots :=
  fun H locs ls hH hS hl => lv_goto K.1 K.2.1 d ht (k H locs ls hH hS hl)
theorem k_icmp_eq (K : kC w p s m args meth c cc nL own) {x y : Int32} {off : Int} (tgt : Nat) (d : decode cc pc = .ok (.if_icmp .eq off, 3)) (ht : (pc : Int) + off = (tgt : Int)) (kt : x = y → kG w p l e R s m args below meth c Q nL σ tgt lv st cells slots) (kf : ¬ x = y → kG w p l e R s m args below meth c Q nL σ (pc + 3) lv st cells slots) : kG w p l e R s m args below meth c Q nL σ pc lv (.int y :: .int x :: st) cells slots :=
  fun H locs ls hH hS hl => lv_icmp_eq K.1 K.2.1 d ht (fun h => kt h H locs ls hH hS hl) (fun h => kf h H locs ls hH hS hl)
theorem k_if_eq (K : kC w p s m args meth c cc nL own) {x : Int32} {off : Int} (tgt : Nat) (d : decode cc pc = .ok (.ifCond .eq off, 3)) (ht : (pc : Int) + off = (tgt : Int)) (kt : x = 0 → kG w p l e R s m args below meth c Q nL σ tgt lv st cells slots) (kf : ¬ x = 0 → kG w p l e R s m args below meth c Q nL σ (pc + 3) lv st cells slots) : kG w p l e R s m args below meth c Q nL σ pc lv (.int x :: st) cells slots :=
  fun H locs ls hH hS hl => lv_if_eq K.1 K.2.1 d ht (fun h => kt h H locs ls hH hS hl) (fun h => kf h H locs ls hH hS hl)
theorem k_icmp_ne (K : kC w p s m args meth c cc nL own) {x y : Int32} {off : Int} (tgt : Nat) (d : decode cc pc = .ok (.if_icmp .ne off, 3)) (ht : (pc : Int) + off = (tgt : Int)) (kt : ¬ x = y → kG w p l e R s m args below meth c Q nL σ tgt lv st cells slots) (kf : x = y → kG w p l e R s m args below meth c Q nL σ (pc + 3) lv st cells slots) : kG w p l e R s m args below meth c Q nL σ pc lv (.int y :: .int x :: st) cells slots :=
  fun H locs ls hH hS hl => lv_icmp_ne K.1 K.2.1 d ht (fun h => kt h H locs ls hH hS hl) (fun h => kf h H locs ls hH hS hl)
theorem k_if_ne (K : kC w p s m args meth c cc nL own) {x : Int32} {off : Int} (tgt : Nat) (d : decode cc pc = .ok (.ifCond .ne off, 3)) (ht : (pc : Int) + off = (tgt : Int)) (kt : ¬ x = 0 → kG w p l e R s m args below meth c Q nL σ tgt lv st cells slots) (kf : x = 0 → kG w p l e R s m args below meth c Q nL σ (pc + 3) lv st cells slots) : kG w p l e R s m args below meth c Q nL σ pc lv (.int x :: st) cells slots :=
  fun H locs ls hH hS hl => lv_if_ne K.1 K.2.1 d ht (fun h => kt h H locs ls hH hS hl) (fun h => kf h H locs ls hH hS hl)
theorem k_icmp_lt (K : kC w p s m args meth c cc nL own) {x y : Int32} {off : Int} (tgt : Nat) (d : decode cc pc = .ok (.if_icmp .lt off, 3)) (ht : (pc : Int) + off = (tgt : Int)) (kt : x < y → kG w p l e R s m args below meth c Q nL σ tgt lv st cells slots) (kf : ¬ x < y → kG w p l e R s m args below meth c Q nL σ (pc + 3) lv st cells slots) : kG w p l e R s m args below meth c Q nL σ pc lv (.int y :: .int x :: st) cells slots :=
  fun H locs ls hH hS hl => lv_icmp_lt K.1 K.2.1 d ht (fun h => kt h H locs ls hH hS hl) (fun h => kf h H locs ls hH hS hl)
theorem k_if_lt (K : kC w p s m args meth c cc nL own) {x : Int32} {off : Int} (tgt : Nat) (d : decode cc pc = .ok (.ifCond .lt off, 3)) (ht : (pc : Int) + off = (tgt : Int)) (kt : x < 0 → kG w p l e R s m args below meth c Q nL σ tgt lv st cells slots) (kf : ¬ x < 0 → kG w p l e R s m args below meth c Q nL σ (pc + 3) lv st cells slots) : kG w p l e R s m args below meth c Q nL σ pc lv (.int x :: st) cells slots :=
  fun H locs ls hH hS hl => lv_if_lt K.1 K.2.1 d ht (fun h => kt h H locs ls hH hS hl) (fun h => kf h H locs ls hH hS hl)
theorem k_icmp_ge (K : kC w p s m args meth c cc nL own) {x y : Int32} {off : Int} (tgt : Nat) (d : decode cc pc = .ok (.if_icmp .ge off, 3)) (ht : (pc : Int) + off = (tgt : Int)) (kt : y ≤ x → kG w p l e R s m args below meth c Q nL σ tgt lv st cells slots) (kf : ¬ y ≤ x → kG w p l e R s m args below meth c Q nL σ (pc + 3) lv st cells slots) : kG w p l e R s m args below meth c Q nL σ pc lv (.int y :: .int x :: st) cells slots :=
  fun H locs ls hH hS hl => lv_icmp_ge K.1 K.2.1 d ht (fun h => kt h H locs ls hH hS hl) (fun h => kf h H locs ls hH hS hl)
theorem k_if_ge (K : kC w p s m args meth c cc nL own) {x : Int32} {off : Int} (tgt : Nat) (d : decode cc pc = .ok (.ifCond .ge off, 3)) (ht : (pc : Int) + off = (tgt : Int)) (kt : 0 ≤ x → kG w p l e R s m args below meth c Q nL σ tgt lv st cells slots) (kf : ¬ 0 ≤ x → kG w p l e R s m args below meth c Q nL σ (pc + 3) lv st cells slots) : kG w p l e R s m args below meth c Q nL σ pc lv (.int x :: st) cells slots :=
  fun H locs ls hH hS hl => lv_if_ge K.1 K.2.1 d ht (fun h => kt h H locs ls hH hS hl) (fun h => kf h H locs ls hH hS hl)
theorem k_icmp_gt (K : kC w p s m args meth c cc nL own) {x y : Int32} {off : Int} (tgt : Nat) (d : decode cc pc = .ok (.if_icmp .gt off, 3)) (ht : (pc : Int) + off = (tgt : Int)) (kt : y < x → kG w p l e R s m args below meth c Q nL σ tgt lv st cells slots) (kf : ¬ y < x → kG w p l e R s m args below meth c Q nL σ (pc + 3) lv st cells slots) : kG w p l e R s m args below meth c Q nL σ pc lv (.int y :: .int x :: st) cells slots :=
  fun H locs ls hH hS hl => lv_icmp_gt K.1 K.2.1 d ht (fun h => kt h H locs ls hH hS hl) (fun h => kf h H locs ls hH hS hl)
theorem k_if_gt (K : kC w p s m args meth c cc nL own) {x : Int32} {off : Int} (tgt : Nat) (d : decode cc pc = .ok (.ifCond .gt off, 3)) (ht : (pc : Int) + off = (tgt : Int)) (kt : 0 < x → kG w p l e R s m args below meth c Q nL σ tgt lv st cells slots) (kf : ¬ 0 < x → kG w p l e R s m args below meth c Q nL σ (pc + 3) lv st cells slots) : kG w p l e R s m args below meth c Q nL σ pc lv (.int x :: st) cells slots :=
  fun H locs ls hH hS hl => lv_if_gt K.1 K.2.1 d ht (fun h => kt h H locs ls hH hS hl) (fun h => kf h H locs ls hH hS hl)
theorem k_icmp_le (K : kC w p s m args meth c cc nL own) {x y : Int32} {off : Int} (tgt : Nat) (d : decode cc pc = .ok (.if_icmp .le off, 3)) (ht : (pc : Int) + off = (tgt : Int)) (kt : x ≤ y → kG w p l e R s m args below meth c Q nL σ tgt lv st cells slots) (kf : ¬ x ≤ y → kG w p l e R s m args below meth c Q nL σ (pc + 3) lv st cells slots) : kG w p l e R s m args below meth c Q nL σ pc lv (.int y :: .int x :: st) cells slots :=
  fun H locs ls hH hS hl => lv_icmp_le K.1 K.2.1 d ht (fun h => kt h H locs ls hH hS hl) (fun h => kf h H locs ls hH hS hl)
theorem k_if_le (K : kC w p s m args meth c cc nL own) {x : Int32} {off : Int} (tgt : Nat) (d : decode cc pc = .ok (.ifCond .le off, 3)) (ht : (pc : Int) + off = (tgt : Int)) (kt : x ≤ 0 → kG w p l e R s m args below meth c Q nL σ tgt lv st cells slots) (kf : ¬ x ≤ 0 → kG w p l e R s m args below meth c Q nL σ (pc + 3) lv st cells slots) : kG w p l e R s m args below meth c Q nL σ pc lv (.int x :: st) cells slots :=
  fun H locs ls hH hS hl => lv_if_le K.1 K.2.1 d ht (fun h => kt h H locs ls hH hS hl) (fun h => kf h H locs ls hH hS hl)
theorem k_ifnull (K : kC w p s m args meth c cc nL own) {a : Nat} {off : Int} (d : decode cc pc = .ok (.ifnull off, 3)) (k : kG w p l e R s m args below meth c Q nL σ (pc + 3) lv st cells slots) : kG w p l e R s m args below meth c Q nL σ pc lv (.ref a :: st) cells slots :=
  fun H locs ls hH hS hl => lv_ifnull K.1 K.2.1 d (k H locs ls hH hS hl)
theorem k_ifnullN (K : kC w p s m args meth c cc nL own) {off : Int} (tgt : Nat) (d : decode cc pc = .ok (.ifnull off, 3)) (ht : (pc : Int) + off = (tgt : Int)) (k : kG w p l e R s m args below meth c Q nL σ tgt lv st cells slots) : kG w p l e R s m args below meth c Q nL σ pc lv (.null :: st) cells slots :=
  fun H locs ls hH hS hl => lv_ifnullN K.1 K.2.1 d ht (k H locs ls hH hS hl)
theorem k_ifnonnull (K : kC w p s m args meth c cc nL own) {a : Nat} {off : Int} (tgt : Nat) (d : decode cc pc = .ok (.ifnonnull off, 3)) (ht : (pc : Int) + off = (tgt : Int)) (k : kG w p l e R s m args below meth c Q nL σ tgt lv st cells slots) : kG w p l e R s m args below meth c Q nL σ pc lv (.ref a :: st) cells slots :=
  fun H locs ls hH hS hl => lv_ifnonnull K.1 K.2.1 d ht (k H locs ls hH hS hl)
theorem k_ifnonnullN (K : kC w p s m args meth c cc nL own) {off : Int} (d : decode cc pc = .ok (.ifnonnull off, 3)) (k : kG w p l e R s m args below meth c Q nL σ (pc + 3) lv st cells slots) : kG w p l e R s m args below meth c Q nL σ pc lv (.null :: st) cells slots :=
  fun H locs ls hH hS hl => lv_ifnonnullN K.1 K.2.1 d (k H locs ls hH hS hl)
/-! ===== fields and arrays ===== -/
theorem kC.ex (K : kC w p s m args meth c cc nL own) : p.tables.exec = Jvm.exec := K.1
theorem kC.by (K : kC w p s m args meth c cc nL own) : c.code = cc := K.2.1
theorem kC.ml (K : kC w p s m args meth c cc nL own) : c.maxLocals = nL := K.2.2.1
theorem kC.ow (K : kC w p s m args meth c cc nL own) : s.vm.findClass own = some m.cls := K.2.2.2.1
theorem kC.ts (K : kC w p s m args meth c cc nL own) : ∀ x ∈ TB, x.before args s = true := K.2.2.2.2.1
theorem kC.kk (K : kC w p s m args meth c cc nL own) : va_K w.1 vwCl (kt w) s := K.2.2.2.2.2.1
theorem kC.lk (K : kC w p s m args meth c cc nL own) : meth.locks = false := K.2.2.2.2.2.2.1
theorem kC.b0 (K : kC w p s m args meth c cc nL own) : w.2.2.2.2 ≤ s.heap.size := K.2.2.2.2.2.2.2.1
theorem kC.nn (K : kC w p s m args meth c cc nL own) : w.2.2.2.1 = kN := K.2.2.2.2.2.2.2.2
theorem kC.lt (K : kC w p s m args meth c cc nL own) {a : Nat} {x : Nat × Nat × Nat} (h : kd a = x) (hx : x.1 ≠ 9) : a < w.2.2.2.1 := by
  rw [K.nn]; exact kd_lt (by rw [h]; exact hx)
theorem kC.o (K : kC w p s m args meth c cc nL own) (σ : kS) {a ci n : Nat} (h : kd a = (0, ci, n)) : (kws w σ)[a]? = some (kL w a, .inr (ci, (List.range n).map fun k => bif kr ci k then va_rf ((σ.2.1 a k).map w.2.2.1) else .int (σ.1 a k))) := by
  rw [kws_at w σ (K.lt h (by simp)), kE_o w σ h]
theorem kC.i (K : kC w p s m args meth c cc nL own) (σ : kS) {a x n : Nat} (h : kd a = (1, x, n)) : (kws w σ)[a]? = some (kL w a, .inl (w.2.1 0, n, .inl (σ.1 a))) := by
  rw [kws_at w σ (K.lt h (by simp)), kE_i w σ h]
theorem kC.z (K : kC w p s m args meth c cc nL own) (σ : kS) {a x n : Nat} (h : kd a = (2, x, n)) : (kws w σ)[a]? = some (kL w a, .inl (w.2.1 1, n, .inl (σ.1 a))) := by
  rw [kws_at w σ (K.lt h (by simp)), kE_z w σ h]
theorem kC.r (K : kC w p s m args meth c cc nL own) (σ : kS) {a x n : Nat} (h : kd a = (3, x, n)) : (kws w σ)[a]? = some (kL w a, .inl (w.2.1 2, n, .inr (.inr (.inr (.inr fun j => (σ.2.1 a j).map w.2.2.1))))) := by
  rw [kws_at w σ (K.lt h (by simp)), kE_r w σ h]
theorem kC.j (K : kC w p s m args meth c cc nL own) (σ : kS) {a x n : Nat} (h : kd a = (4, x, n)) : (kws w σ)[a]? = some (kL w a, .inl (w.2.1 3, n, .inr (.inl (σ.2.2 a)))) := by
  rw [kws_at w σ (K.lt h (by simp)), kE_j w σ h]
theorem k_getI (K : kC w p s m args meth c cc nL own) {a ci n idx k : Nat} {C : String} {T : u_T} (d : decode cc pc = .ok (.getfield idx, 3)) (hd : kd a = (0, ci, n)) (hc : vwCl[ci]? = some (C, T, n)) (hin : ∀ x ∈ u_ws C T n, x ∈ TB) (hk : k < n) (hr : kr ci k = false) (hl : Cond.fieldLink own idx (T k).1 (T k).2.1 (T k).2.2.1 ∈ TB)
    (kk : kG w p l e R s m args below meth c Q nL σ (pc + 3) lv (.int (σ.1 a k) :: st) cells slots) : kG w p l e R s m args below meth c Q nL σ pc lv (.ref (kL w a) :: st) cells slots := by
  intro H locs ls hH hS hv
  refine va_get (v := .int (σ.1 a k)) K.ex K.by K.ts hin K.ow K.kk hH.1 a (K.o (kF σ) hd) hc k hk (K.ts _ hl) (fun _ h => h) ?_ d (kk H locs ls hH hS hv)
  rw [List.getElem?_map, List.getElem?_range hk]
  simp only [Option.map_some, hr, cond_false]
  rfl
theorem k_getR (K : kC w p s m args meth c cc nL own) {a ci n idx k b : Nat} {C : String} {T : u_T} (d : decode cc pc = .ok (.getfield idx, 3)) (hd : kd a = (0, ci, n)) (hc : vwCl[ci]? = some (C, T, n)) (hin : ∀ x ∈ u_ws C T n, x ∈ TB) (hk : k < n) (hr : kr ci k = true) (hb : kfin a ci k = b) (hl : Cond.fieldLink own idx (T k).1 (T k).2.1 (T k).2.2.1 ∈ TB)
    (kk : kG w p l e R s m args below meth c Q nL σ (pc + 3) lv (.ref (kL w b) :: st) cells slots) : kG w p l e R s m args below meth c Q nL σ pc lv (.ref (kL w a) :: st) cells slots := by
  intro H locs ls hH hS hv
  refine va_get (v := .ref (kL w b)) K.ex K.by K.ts hin K.ow K.kk hH.1 a (K.o (kF σ) hd) hc k hk (K.ts _ hl) (fun _ h => h) ?_ d (kk H locs ls hH hS hv)
  rw [List.getElem?_map, List.getElem?_range hk]
  simp only [Option.map_some, hr, cond_true]
  have e : (kF σ).2.1 a k = some b := by
    simp only [kF]
    rw [if_pos (by rw [hd]; exact ⟨rfl, hr⟩), hd, hb]
  rw [e]
  rfl
theorem kH_put {σ τ : kS} {a : Nat} {x : va_E} {H : Heap} (hn : ∀ b, b ≠ a → kE w τ b = kE w σ b) (he : kE w τ a = x) (hP : va_P w.1 vwCl ((kws w σ).set a (kL w a, x)) H) (hD : va_D (kA w) ((kws w σ).set a (kL w a, x))) : kH w τ H := by
  subst he
  rw [kws_set w hn] at hP hD
  exact ⟨hP, hD⟩
theorem k_putI (K : kC w p s m args meth c cc nL own) {a ci n idx k : Nat} {C : String} {T : u_T} {ty : Nat → FieldType} {v : Int32} (d : decode cc pc = .ok (.putfield idx, 3)) (hd : kd a = (0, ci, n)) (hc : vwCl[ci]? = some (C, T, n)) (hin : ∀ x ∈ u_ws C T n, x ∈ TB) (hty : ∀ k, k < n → parseFieldDescriptor (T k).2.2.1 = some (ty k)) (hnm : ∀ a, a < n → ∀ b, b < n → a ≠ b → (T a).2.1 ≠ (T b).2.1) (hk : k < n) (hr : kr ci k = false) (hl : Cond.fieldLink own idx (T k).1 (T k).2.1 (T k).2.2.1 ∈ TB) (hf : (T k).2.2.2 = false) (hw : narrow (ty k) (.int v) = .int v) (hft : fits (ty k) (.int v) = true)
    (kk : kG w p l e R s m args below meth c Q nL (sI σ a k v) (pc + 3) lv st cells slots) : kG w p l e R s m args below meth c Q nL σ pc lv (.int v :: .ref (kL w a) :: st) cells slots := by
  intro H locs ls hH hS hv
  refine va_put (v := .int v) (ty := ty k) K.ex K.by K.ts hin ty hty hnm K.ow K.kk hH.1 hH.2 hS a (K.o (kF σ) hd) hc k hk (K.ts _ hl) (fun _ h => h) hf (hty k hk) hw hft (by simpa using hk) d (fun H1 locs1 hP hD hS1 => ?_)
  refine kk H1 locs1 ls ?_ hS1 hv
  rw [kF_sI]
  refine kH_put (fun b hb => kE_sI w (kF σ) a k v b hb) ?_ hP hD
  rw [kE_o w _ hd]
  congr 2
  apply List.ext_getElem?
  intro j
  rw [List.getElem?_set]
  simp only [List.length_map, List.length_range, List.getElem?_map]
  by_cases hj : j < n
  · rw [List.getElem?_range hj]
    simp only [Option.map_some]
    by_cases e : k = j
    · subst e
      simp [hj, hr, sI]
    · have e1 : (sI (kF σ) a k v).1 a j = (kF σ).1 a j := by simp [sI]; exact fun h => absurd h.symm e
      have e2 : (sI (kF σ) a k v).2 = (kF σ).2 := rfl
      rw [if_neg e, e1, e2]
  · rw [List.getElem?_eq_none (by simpa using hj)]
    by_cases e : k = j
    · exact absurd (e ▸ hk) hj
    · rw [if_neg e]; rfl
theorem kt0 (w : kW) : (kt w)[0]? = some (w.2.1 0, .int) := rfl
theorem kt1 (w : kW) : (kt w)[1]? = some (w.2.1 1, .boolean) := rfl
theorem kt2 (w : kW) : (kt w)[2]? = some (w.2.1 2, .object RX0) := rfl
theorem kt3 (w : kW) : (kt w)[3]? = some (w.2.1 3, .long) := rfl
theorem k_iald (K : kC w p s m args meth c cc nL own) {a x n : Nat} {i : Int32} (d : decode cc pc = .ok (.iaload, 1)) (hd : kd a = (1, x, n)) (hi : vp_in i n) (kk : kG w p l e R s m args below meth c Q nL σ (pc + 1) lv (.int (σ.1 a i.toNatClampNeg) :: st) cells slots) : kG w p l e R s m args below meth c Q nL σ pc lv (.int i :: .ref (kL w a) :: st) cells slots :=
  fun H locs ls hH hS hv => va_iald K.ex K.by K.kk hH.1 a 0 (K.i (kF σ) hd) (kt0 w) hi d (kk H locs ls hH hS hv)
theorem k_zald (K : kC w p s m args meth c cc nL own) {a x n : Nat} {i : Int32} (d : decode cc pc = .ok (.baload, 1)) (hd : kd a = (2, x, n)) (hi : vp_in i n) (kk : kG w p l e R s m args below meth c Q nL σ (pc + 1) lv (.int (σ.1 a i.toNatClampNeg) :: st) cells slots) : kG w p l e R s m args below meth c Q nL σ pc lv (.int i :: .ref (kL w a) :: st) cells slots :=
  fun H locs ls hH hS hv => va_zald K.ex K.by K.kk hH.1 a 1 (K.z (kF σ) hd) (kt1 w) hi d (kk H locs ls hH hS hv)
theorem k_aald (K : kC w p s m args meth c cc nL own) {a x n : Nat} {i : Int32} (d : decode cc pc = .ok (.aaload, 1)) (hd : kd a = (3, x, n)) (hi : vp_in i n) (kk : kG w p l e R s m args below meth c Q nL σ (pc + 1) lv (va_rf ((σ.2.1 a i.toNatClampNeg).map (kL w)) :: st) cells slots) : kG w p l e R s m args below meth c Q nL σ pc lv (.int i :: .ref (kL w a) :: st) cells slots := by
  intro H locs ls hH hS hv
  refine va_aldq K.ex K.by K.kk hH.1 a 2 (K.r (kF σ) hd) (kt2 w) hi d ?_
  have e : (kF σ).2.1 a i.toNatClampNeg = σ.2.1 a i.toNatClampNeg := by
    simp only [kF]
    rw [if_neg (by rw [hd]; exact fun h => absurd h.1 (by simp))]
  rw [e]
  exact kk H locs ls hH hS hv
theorem k_lald (K : kC w p s m args meth c cc nL own) {a x n : Nat} {i : Int32} (d : decode cc pc = .ok (.laload, 1)) (hd : kd a = (4, x, n)) (hi : vp_in i n) (kk : kG w p l e R s m args below meth c Q nL σ (pc + 1) lv (.long (σ.2.2 a i.toNatClampNeg) :: st) cells slots) : kG w p l e R s m args below meth c Q nL σ pc lv (.int i :: .ref (kL w a) :: st) cells slots :=
  fun H locs ls hH hS hv => va_lald K.ex K.by K.kk hH.1 a 3 (K.j (kF σ) hd) (kt3 w) hi d (kk H locs ls hH hS hv)
theorem k_iast (K : kC w p s m args meth c cc nL own) {a x n : Nat} {i v : Int32} (d : decode cc pc = .ok (.iastore, 1)) (hd : kd a = (1, x, n)) (hi : vp_in i n) (kk : kG w p l e R s m args below meth c Q nL (sI σ a i.toNatClampNeg v) (pc + 1) lv st cells slots) : kG w p l e R s m args below meth c Q nL σ pc lv (.int v :: .int i :: .ref (kL w a) :: st) cells slots := by
  intro H locs ls hH hS hv
  refine va_iast K.ex K.by K.kk hH.1 hH.2 hS a 0 (K.i (kF σ) hd) (kt0 w) hi d (fun H1 locs1 hP hD hS1 => ?_)
  refine kk H1 locs1 ls ?_ hS1 hv
  rw [kF_sI]
  refine kH_put (fun b hb => kE_sI w (kF σ) a _ v b hb) ?_ hP hD
  rw [kE_i w _ hd]
  congr 4
  funext j
  simp [sI, upd]
theorem k_zast (K : kC w p s m args meth c cc nL own) {a x n : Nat} {i v : Int32} (d : decode cc pc = .ok (.bastore, 1)) (hd : kd a = (2, x, n)) (hi : vp_in i n) (hz : vp_nar .boolean v = v) (kk : kG w p l e R s m args below meth c Q nL (sI σ a i.toNatClampNeg v) (pc + 1) lv st cells slots) : kG w p l e R s m args below meth c Q nL σ pc lv (.int v :: .int i :: .ref (kL w a) :: st) cells slots := by
  intro H locs ls hH hS hv
  refine va_zast K.ex K.by K.kk hH.1 hH.2 hS a 1 (K.z (kF σ) hd) (kt1 w) hi d (fun H1 locs1 hP hD hS1 => ?_)
  rw [hz] at hP hD
  refine kk H1 locs1 ls ?_ hS1 hv
  rw [kF_sI]
  refine kH_put (fun b hb => kE_sI w (kF σ) a _ v b hb) ?_ hP hD
  rw [kE_z w _ hd]
  congr 4
  funext j
  simp [sI, upd]
theorem k_last (K : kC w p s m args meth c cc nL own) {a x n : Nat} {i : Int32} {v : Int64} (d : decode cc pc = .ok (.lastore, 1)) (hd : kd a = (4, x, n)) (hi : vp_in i n) (kk : kG w p l e R s m args below meth c Q nL (sJ σ a i.toNatClampNeg v) (pc + 1) lv st cells slots) : kG w p l e R s m args below meth c Q nL σ pc lv (.long v :: .int i :: .ref (kL w a) :: st) cells slots := by
  intro H locs ls hH hS hv
  refine va_last K.ex K.by K.kk hH.1 hH.2 hS a 3 (K.j (kF σ) hd) (kt3 w) hi d (fun H1 locs1 hP hD hS1 => ?_)
  refine kk H1 locs1 ls ?_ hS1 hv
  rw [kF_sJ]
  refine kH_put (fun b hb => kE_sJ w (kF σ) a _ v b hb) ?_ hP hD
  rw [kE_j w _ hd]
  congr 5
  funext j
  simp [sJ, vp_updL]
theorem k_aast (K : kC w p s m args meth c cc nL own) {a b x n : Nat} {i : Int32} (d : decode cc pc = .ok (.aastore, 1)) (hd : kd a = (3, x, n)) (hb : kd b = (0, 0, 8)) (hi : vp_in i n) (kk : kG w p l e R s m args below meth c Q nL (sR σ a i.toNatClampNeg (some b)) (pc + 1) lv st cells slots) : kG w p l e R s m args below meth c Q nL σ pc lv (.ref (kL w b) :: .int i :: .ref (kL w a) :: st) cells slots := by
  intro H locs ls hH hS hv
  refine va_astq (r := (RX0, TX0, 8)) K.ex K.by K.kk hH.1 hH.2 hS a 2 b 0 (K.r (kF σ) hd) (kt2 w) (K.o (kF σ) hb) rfl hi d (fun H1 locs1 hP hD hS1 => ?_)
  refine kk H1 locs1 ls ?_ hS1 hv
  rw [kF_sR _ _ (by rw [hd]; simp)]
  refine kH_put (fun q hq => kE_sR w (kF σ) a _ _ q hq) ?_ hP hD
  rw [kE_r w _ hd]
  congr 7
  funext j
  by_cases e : j = i.toNatClampNeg
  · simp [sR, va_up, e]
  · simp [sR, va_up, e]
theorem k_aastN (K : kC w p s m args meth c cc nL own) {a x n : Nat} {i : Int32} (d : decode cc pc = .ok (.aastore, 1)) (hd : kd a = (3, x, n)) (hi : vp_in i n) (kk : kG w p l e R s m args below meth c Q nL (sR σ a i.toNatClampNeg none) (pc + 1) lv st cells slots) : kG w p l e R s m args below meth c Q nL σ pc lv (.null :: .int i :: .ref (kL w a) :: st) cells slots := by
  intro H locs ls hH hS hv
  refine va_astqN K.ex K.by K.kk hH.1 hH.2 hS a 2 (K.r (kF σ) hd) (kt2 w) hi d (fun H1 locs1 hP hD hS1 => ?_)
  refine kk H1 locs1 ls ?_ hS1 hv
  rw [kF_sR _ _ (by rw [hd]; simp)]
  refine kH_put (fun q hq => kE_sR w (kF σ) a _ _ q hq) ?_ hP hD
  rw [kE_r w _ hd]
  congr 7
  funext j
  by_cases e : j = i.toNatClampNeg
  · simp [sR, va_up, e]
  · simp [sR, va_up, e]
theorem k_alen (K : kC w p s m args meth c cc nL own) {a x n : Nat} {v : Int32} (d : decode cc pc = .ok (.arraylength, 1)) (hd : kd a = (1, x, n)) (hv : Int32.ofNat n = v) (kk : kG w p l e R s m args below meth c Q nL σ (pc + 1) lv (.int v :: st) cells slots) : kG w p l e R s m args below meth c Q nL σ pc lv (.ref (kL w a) :: st) cells slots :=
  fun H locs ls hH hS hl => va_alen K.ex K.by K.kk hH.1 a 0 (K.i (kF σ) hd) (kt0 w) hv d (kk H locs ls hH hS hl)
/-- two cells are one only if their numbers are -/
theorem kL_inj (K : kC w p s m args meth c cc nL own) {H : Heap} (hH : kH w σ H) {a b : Nat} (ha : a < kN) (hb : b < kN) (h : kL w a = kL w b) : a = b :=
  hH.2.1 a b _ _ (kws_at w σ (by rw [K.nn]; exact ha)) (kws_at w σ (by rw [K.nn]; exact hb)) h
theorem kL_injQ (K : kC w p s m args meth c cc nL own) {H : Heap} (hH : kH w σ H) {x y : Option Nat} (ha : ∀ a, x = some a → a < kN) (hb : ∀ b, y = some b → b < kN) : x.map (kL w) = y.map (kL w) ↔ x = y := by
  constructor
  · intro h
    cases x with
    | none => cases y with
      | none => rfl
      | some b => simp at h
    | some a => cases y with
      | none => simp at h
      | some b => simp only [Option.map_some, Option.some.injEq] at h; rw [kL_inj K hH (ha a rfl) (hb b rfl) h]
  · intro h; rw [h]
theorem k_acmp_eq (K : kC w p s m args meth c cc nL own) {x y : Option Nat} {off : Int} (tgt : Nat) (d : decode cc pc = .ok (.if_acmp .eq off, 3)) (ht : (pc : Int) + off = (tgt : Int)) (hx : ∀ a, x = some a → a < kN) (hy : ∀ a, y = some a → a < kN) (kt : x = y → kG w p l e R s m args below meth c Q nL σ tgt lv st cells slots) (kf : ¬ x = y → kG w p l e R s m args below meth c Q nL σ (pc + 3) lv st cells slots) : kG w p l e R s m args below meth c Q nL σ pc lv (va_rf (y.map (kL w)) :: va_rf (x.map (kL w)) :: st) cells slots :=
  fun H locs ls hH hS hl => lv_acmp_eq K.ex K.by d ht (fun h => kt ((kL_injQ K hH hx hy).mp h) H locs ls hH hS hl) (fun h => kf (fun q => h (by rw [q])) H locs ls hH hS hl)
theorem k_acmp_ne (K : kC w p s m args meth c cc nL own) {x y : Option Nat} {off : Int} (tgt : Nat) (d : decode cc pc = .ok (.if_acmp .ne off, 3)) (ht : (pc : Int) + off = (tgt : Int)) (hx : ∀ a, x = some a → a < kN) (hy : ∀ a, y = some a → a < kN) (kt : ¬ x = y → kG w p l e R s m args below meth c Q nL σ tgt lv st cells slots) (kf : x = y → kG w p l e R s m args below meth c Q nL σ (pc + 3) lv st cells slots) : kG w p l e R s m args below meth c Q nL σ pc lv (va_rf (y.map (kL w)) :: va_rf (x.map (kL w)) :: st) cells slots :=
  fun H locs ls hH hS hl => lv_acmp_ne K.ex K.by d ht (fun h => kt (fun q => h (by rw [q])) H locs ls hH hS hl) (fun h => kf ((kL_injQ K hH hx hy).mp h) H locs ls hH hS hl)
end KR
end
section
/-! ===== contracts: what holds ahead of a call, what behind it; calls; returns ===== -/
def kP (w : kW) (σ : kS) (U : State) : Prop := w.2.2.2.2 ≤ U.heap.size ∧ va_K w.1 vwCl (kt w) U ∧ w.2.2.2.1 = kN ∧ kH w (kF σ) U.heap
def kQi (w : kW) (v : Int32) (σ : kS) : Array Value → State → Outcome → State → Prop := va_Qi (fun r (u : kS) => r = v ∧ u = σ) (fun u t => kH w (kF u) t.heap) (kA w)
def kQv (w : kW) (σ : kS) : Array Value → State → Outcome → State → Prop := va_Qv (fun (u : kS) => u = σ) (fun u t => kH w (kF u) t.heap) (kA w)
def kQq (w : kW) (v : Option Nat) (σ : kS) : Array Value → State → Outcome → State → Prop := va_Qq (fun r (u : kS) => r = v.map (kL w) ∧ u = σ) (fun u t => kH w (kF u) t.heap) (kA w)
theorem kP_blind (w : kW) (σ : kS) (As : List Value) : FrameBlind (va_Pc As (kP w σ)) := fun a U g mk q => ⟨q.1, q.2.1, va_K.moved (u := U) (U := U.calling g mk a) (Vm.Alike.refl U.vm) q.2.2.1, q.2.2.2.1, q.2.2.2.2⟩
theorem kg_S {own : String} {idx : Nat} {y : MethodName} {b : ByteArray} {n : Nat} {r : Option FieldType} (h1 : Cond.methodLink own idx y ∈ TB) (h2 : Cond.static y ∈ TB) (h3 : Cond.initialized y.cls ∈ TB) (h4 : Cond.code y b n r ∈ TB) : GoodIn TB (va_wsS own idx y (Cond.code y b n r :: TB)) := by
  intro x hx
  have : x ∈ TB := by
    rcases List.mem_append.mp hx with h | h
    · rcases List.mem_cons.mp h with rfl | h
      · exact h1
      · rcases List.mem_cons.mp h with rfl | h
        · exact h2
        · rcases List.mem_cons.mp h with rfl | h
          · exact h3
          · cases h
    · rcases List.mem_cons.mp h with rfl | h
      · exact h4
      · exact h
  exact ⟨this, tb_good this⟩
theorem kg_V {own C : String} {idx : Nat} {y : MethodName} {b : ByteArray} {n : Nat} {r : Option FieldType} (h1 : Cond.methodLink own idx y ∈ TB) (h2 : Cond.instanceMethod y ∈ TB) (h3 : Cond.selects C y y ∈ TB) (h5 : Cond.initialized C ∈ TB) (h4 : Cond.code y b n r ∈ TB) : GoodIn TB (wsV own idx C y (Cond.code y b n r :: TB)) := by
  intro x hx
  have : x ∈ TB := by
    rcases List.mem_append.mp hx with h | h
    · rcases List.mem_cons.mp h with rfl | h
      · exact h1
      · rcases List.mem_cons.mp h with rfl | h
        · exact h2
        · rcases List.mem_cons.mp h with rfl | h
          · exact h3
          · rcases List.mem_cons.mp h with rfl | h
            · exact h5
            · cases h
    · rcases List.mem_cons.mp h with rfl | h
      · exact h4
      · exact h
  exact ⟨this, tb_good this⟩
/-- a call's name: not one of the two, so many parameters -/
abbrev kNm (y : MethodName) (n : Nat) : Prop := y.cls ≠ "java/lang/invoke/MethodHandle" ∧ y.cls ≠ "java/lang/invoke/VarHandle" ∧ (parseMethodDescriptor y.desc).map (fun d => d.parameters.length) = some n
section KC
variable {w : kW} {p : Program} {l : Launch} {e : Env} {R : Room} {s : State} {m : MethodId} {args : Array Value} {below : List Frame} {meth : Method} {c : Code} {Q : State → Prop}
variable {cc : ByteArray} {nL : Nat} {own : String} {σ τ : kS} {pc : Nat} {lv : List (Nat × Value)} {st rest As : List Value} {cells slots mc ms mc' ms' : Nat} {y : MethodName} {bytes : ByteArray} {maxL idx n : Nat} {ret : Option FieldType} {rm : Room} {H : Heap} {locs : List Loc}
theorem kC.pre (K : kC w p s m args meth c cc nL own) (hH : kH w (kF σ) H) (hS : va_S (kA w) s.heap H locs) (As : List Value) : PreS s H (va_Pc As (kP w σ)) As :=
  ⟨kP_blind w σ As, fun U hU hW => ⟨rfl, by rw [hU]; exact Nat.le_trans K.b0 hS.1, va_K.moved hW.alike K.kk, K.nn, by rw [hU]; exact hH⟩⟩
theorem kC.preV (K : kC w p s m args meth c cc nL own) (hH : kH w (kF σ) H) (hS : va_S (kA w) s.heap H locs) {a ci nf : Nat} {C : String} {T : u_T} (hd : kd a = (0, ci, nf)) (hc : vwCl[ci]? = some (C, T, nf)) (As : List Value) : PreV s H C (kL w a) (va_Pc (.ref (kL w a) :: As) (kP w σ)) As :=
  ⟨kP_blind w σ _, va_recv K.kk hH.1 hc (K.o (kF σ) hd), fun U hU hW => ⟨rfl, by rw [hU]; exact Nat.le_trans K.b0 hS.1, va_K.moved hW.alike K.kk, K.nn, by rw [hU]; exact hH⟩⟩
theorem kC.fix (K : kC w p s m args meth c cc nL own) : CallFix p m c cc nL s args TB own := ⟨K.ex, K.by, K.ml, K.ow, K.ts⟩
theorem k_callSi (K : kC w p s m args meth c cc nL own) (d : decode cc pc = .ok (.invokestatic idx, 3)) (hG : GoodIn TB (va_wsS own idx y (Cond.code y bytes maxL ret :: TB))) (hd : kNm y n) (hn : As.length = n) (hR : rm.frames + 1 ≤ R.frames ∧ 8 + (maxL + 11) + rm.locals ≤ R.locals) (hr : (rest.map fun v => v.category).sum ≤ 8) (hst : st = As.reverse ++ rest) (hf : cells + mc ≤ R.cells ∧ slots + ms ≤ R.slots) {v : Int32} (hM : Met l y (Cond.code y bytes maxL ret :: TB) rm (va_Pc As (kP w σ)) (kQi w v τ) mc ms (kA w)) (hrm : rm.cells = mc ∧ rm.slots = ms)
    (kk : kG w p l e R s m args below meth c Q nL τ (pc + 3) lv (.int v :: rest) (cells + mc) (slots + ms)) : kG w p l e R s m args below meth c Q nL σ pc lv st cells slots := by
  intro H locs ls hH hS hl
  refine va_calli (va_runS (As := As) (rest := rest) K.fix hM (va_cwS n K.ts hG rfl hrm.1 hrm.2 hd hR) (K.pre hH hS As) rfl hn hl.1.1 hst (lv_room hr) d hf) hS (fun _ _ h => h) (fun _ h => h) (fun r u t H1 locs1 ht _ hp hB _ _ hS1 => ?_)
  obtain ⟨rfl, rfl⟩ := hp
  exact kk H1 locs1 ls (by rw [← ht]; exact hB) hS1 hl
theorem k_callSv (K : kC w p s m args meth c cc nL own) (d : decode cc pc = .ok (.invokestatic idx, 3)) (hG : GoodIn TB (va_wsS own idx y (Cond.code y bytes maxL ret :: TB))) (hd : kNm y n) (hn : As.length = n) (hR : rm.frames + 1 ≤ R.frames ∧ 8 + (maxL + 11) + rm.locals ≤ R.locals) (hr : (rest.map fun v => v.category).sum ≤ 8) (hst : st = As.reverse ++ rest) (hf : cells + mc ≤ R.cells ∧ slots + ms ≤ R.slots) (hM : Met l y (Cond.code y bytes maxL ret :: TB) rm (va_Pc As (kP w σ)) (kQv w τ) mc ms (kA w)) (hrm : rm.cells = mc ∧ rm.slots = ms)
    (kk : kG w p l e R s m args below meth c Q nL τ (pc + 3) lv rest (cells + mc) (slots + ms)) : kG w p l e R s m args below meth c Q nL σ pc lv st cells slots := by
  intro H locs ls hH hS hl
  refine va_callv (va_runS (As := As) (rest := rest) K.fix hM (va_cwS n K.ts hG rfl hrm.1 hrm.2 hd hR) (K.pre hH hS As) rfl hn hl.1.1 hst (lv_room hr) d hf) hS (fun _ _ h => h) (fun _ h => h) (fun u t H1 locs1 ht _ hp hB _ _ hS1 => ?_)
  obtain rfl := hp
  exact kk H1 locs1 ls (by rw [← ht]; exact hB) hS1 hl
theorem k_callVi (K : kC w p s m args meth c cc nL own) (d : decode cc pc = .ok (.invokevirtual idx, 3)) {a ci nf : Nat} {C : String} {T : u_T} (hk : kd a = (0, ci, nf)) (hc : vwCl[ci]? = some (C, T, nf)) (hG : GoodIn TB (wsV own idx C y (Cond.code y bytes maxL ret :: TB))) (hC : y.cls = C) (hd : kNm y n) (hn : As.length = n) (hR : rm.frames + 1 ≤ R.frames ∧ 8 + (maxL + 11) + rm.locals ≤ R.locals) (hr : (rest.map fun v => v.category).sum ≤ 8) (hst : st = As.reverse ++ .ref (kL w a) :: rest) (hf : cells + mc ≤ R.cells ∧ slots + ms ≤ R.slots) {v : Int32} (hM : Met l y (Cond.code y bytes maxL ret :: TB) rm (va_Pc (.ref (kL w a) :: As) (kP w σ)) (kQi w v τ) mc ms (kA w)) (hrm : rm.cells = mc ∧ rm.slots = ms)
    (kk : kG w p l e R s m args below meth c Q nL τ (pc + 3) lv (.int v :: rest) (cells + mc) (slots + ms)) : kG w p l e R s m args below meth c Q nL σ pc lv st cells slots := by
  intro H locs ls hH hS hl
  refine va_calli (va_runV (As := As) (rest := rest) K.fix hM (cwV n K.ts hG rfl hrm.1 hrm.2 ⟨hC, hd⟩ hR) (K.preV hH hS hk hc As) rfl hn hl.1.1 hst (lv_room hr) d hf) hS (fun _ _ h => h) (fun _ h => h) (fun r u t H1 locs1 ht _ hp hB _ _ hS1 => ?_)
  obtain ⟨rfl, rfl⟩ := hp
  exact kk H1 locs1 ls (by rw [← ht]; exact hB) hS1 hl
theorem k_callVv (K : kC w p s m args meth c cc nL own) (d : decode cc pc = .ok (.invokevirtual idx, 3)) {a ci nf : Nat} {C : String} {T : u_T} (hk : kd a = (0, ci, nf)) (hc : vwCl[ci]? = some (C, T, nf)) (hG : GoodIn TB (wsV own idx C y (Cond.code y bytes maxL ret :: TB))) (hC : y.cls = C) (hd : kNm y n) (hn : As.length = n) (hR : rm.frames + 1 ≤ R.frames ∧ 8 + (maxL + 11) + rm.locals ≤ R.locals) (hr : (rest.map fun v => v.category).sum ≤ 8) (hst : st = As.reverse ++ .ref (kL w a) :: rest) (hf : cells + mc ≤ R.cells ∧ slots + ms ≤ R.slots) (hM : Met l y (Cond.code y bytes maxL ret :: TB) rm (va_Pc (.ref (kL w a) :: As) (kP w σ)) (kQv w τ) mc ms (kA w)) (hrm : rm.cells = mc ∧ rm.slots = ms)
    (kk : kG w p l e R s m args below meth c Q nL τ (pc + 3) lv rest (cells + mc) (slots + ms)) : kG w p l e R s m args below meth c Q nL σ pc lv st cells slots := by
  intro H locs ls hH hS hl
  refine va_callv (va_runV (As := As) (rest := rest) K.fix hM (cwV n K.ts hG rfl hrm.1 hrm.2 ⟨hC, hd⟩ hR) (K.preV hH hS hk hc As) rfl hn hl.1.1 hst (lv_room hr) d hf) hS (fun _ _ h => h) (fun _ h => h) (fun u t H1 locs1 ht _ hp hB _ _ hS1 => ?_)
  obtain rfl := hp
  exact kk H1 locs1 ls (by rw [← ht]; exact hB) hS1 hl
theorem k_callVq (K : kC w p s m args meth c cc nL own) (d : decode cc pc = .ok (.invokevirtual idx, 3)) {a ci nf : Nat} {C : String} {T : u_T} (hk : kd a = (0, ci, nf)) (hc : vwCl[ci]? = some (C, T, nf)) (hG : GoodIn TB (wsV own idx C y (Cond.code y bytes maxL ret :: TB))) (hC : y.cls = C) (hd : kNm y n) (hn : As.length = n) (hR : rm.frames + 1 ≤ R.frames ∧ 8 + (maxL + 11) + rm.locals ≤ R.locals) (hr : (rest.map fun v => v.category).sum ≤ 8) (hst : st = As.reverse ++ .ref (kL w a) :: rest) (hf : cells + mc ≤ R.cells ∧ slots + ms ≤ R.slots) {v : Option Nat} (hM : Met l y (Cond.code y bytes maxL ret :: TB) rm (va_Pc (.ref (kL w a) :: As) (kP w σ)) (kQq w v τ) mc ms (kA w)) (hrm : rm.cells = mc ∧ rm.slots = ms)
    (kk : kG w p l e R s m args below meth c Q nL τ (pc + 3) lv (va_rf (v.map (kL w)) :: rest) (cells + mc) (slots + ms)) : kG w p l e R s m args below meth c Q nL σ pc lv st cells slots := by
  intro H locs ls hH hS hl
  refine va_callq (va_runV (As := As) (rest := rest) K.fix hM (cwV n K.ts hG rfl hrm.1 hrm.2 ⟨hC, hd⟩ hR) (K.preV hH hS hk hc As) rfl hn hl.1.1 hst (lv_room hr) d hf) hS (fun _ _ h => h) (fun _ h => h) (fun r u t H1 locs1 ht _ hp hB _ _ hS1 => ?_)
  obtain ⟨rfl, rfl⟩ := hp
  exact kk H1 locs1 ls (by rw [← ht]; exact hB) hS1 hl
/-! returns -/
theorem k_iret (K : kC w p s m args meth c cc nL own) (hr : meth.sig.returnType = some .int) {v : Int32} (d : decode cc pc = .ok (.ireturn, 1)) (hc : cells ≤ mc) (hs : slots ≤ ms) : kG w p l e R s m args below meth c (MQ below (kQi w v σ) args s mc ms (kA w)) nL σ pc lv [.int v] cells slots :=
  fun H locs ls hH hS hl => W.widen hc hs (W.iret K.ex K.by hr (fun t ht hW => ⟨⟨v, σ, rfl, ⟨rfl, rfl⟩, by show kH w (kF σ) t.heap; rw [ht]; exact hH⟩, hS.F ht⟩) hS.2.2 d K.lk)
theorem k_zret (K : kC w p s m args meth c cc nL own) (hr : meth.sig.returnType = some .boolean) {v : Int32} (hn : narrow .boolean (.int v) = .int v) (d : decode cc pc = .ok (.ireturn, 1)) (hc : cells ≤ mc) (hs : slots ≤ ms) : kG w p l e R s m args below meth c (MQ below (kQi w v σ) args s mc ms (kA w)) nL σ pc lv [.int v] cells slots :=
  fun H locs ls hH hS hl => W.widen hc hs (W.zret K.ex K.by hr hn (fun t ht hW => ⟨⟨v, σ, rfl, ⟨rfl, rfl⟩, by show kH w (kF σ) t.heap; rw [ht]; exact hH⟩, hS.F ht⟩) hS.2.2 d K.lk)
theorem k_vret (K : kC w p s m args meth c cc nL own) (hr : meth.sig.returnType = none) (d : decode cc pc = .ok (.return_, 1)) (hc : cells ≤ mc) (hs : slots ≤ ms) : kG w p l e R s m args below meth c (MQ below (kQv w σ) args s mc ms (kA w)) nL σ pc lv [] cells slots :=
  fun H locs ls hH hS hl => W.widen hc hs (W.vret K.ex K.by hr (fun t ht hW => ⟨⟨σ, rfl, rfl, by show kH w (kF σ) t.heap; rw [ht]; exact hH⟩, hS.F ht⟩) hS.2.2 d K.lk)
theorem k_aret (K : kC w p s m args meth c cc nL own) {n : String} (hr : meth.sig.returnType = some (.object n)) {v : Option Nat} (d : decode cc pc = .ok (.areturn, 1)) (hc : cells ≤ mc) (hs : slots ≤ ms) : kG w p l e R s m args below meth c (MQ below (kQq w v σ) args s mc ms (kA w)) nL σ pc lv [va_rf (v.map (kL w))] cells slots :=
  fun H locs ls hH hS hl => W.widen hc hs (W.aret K.ex K.by hr (Or.inl ⟨n, rfl⟩) (va_rf_or _) (fun t ht hW => ⟨⟨v.map (kL w), σ, rfl, ⟨rfl, rfl⟩, by show kH w (kF σ) t.heap; rw [ht]; exact hH⟩, hS.F ht⟩) hS.2.2 d K.lk)
/-! a method's contract out of the walk of its body -/
theorem k_met (hy : plainName y.cls = true) (vs : List Value) (hv : (lg_sl vs).length ≤ maxL) (hv1 : ∀ q ∈ lv_args 0 vs, q.2.category = 1) {Qc : Array Value → State → Outcome → State → Prop}
    (body : ∀ p e s m args below meth c, kC w p s m args meth c bytes maxL y.cls → meth.sig.returnType = ret → kG w p l e rm s m args below meth c (MQ below Qc args s mc ms (kA w)) maxL σ 0 (lv_args 0 vs) [] 0 0) : Met l y (Cond.code y bytes maxL ret :: TB) rm (va_Pc vs (kP w σ)) Qc mc ms (kA w) := by
  refine Met.ofW (cc := bytes) (maxL := maxL) (ret := ret) hy rfl ?_
  intro p e s m args below meth c s₁ B hml hpc
  obtain ⟨rfl, hb0, hK, hN, hH⟩ := hpc
  have hts := atoms_spec (ws := Cond.code y bytes maxL ret :: TB) B.pre
  have hl := lv_entry vs (n := maxL) hv
  rw [lg_entry_eq]
  exact body p e s m _ below meth c ⟨B.exec, B.bytes, hml, findClass_of_methodNamed B.named, fun x hx => hts x (List.mem_cons_of_mem _ hx), hK, B.notSynchronized, hb0, hN⟩ B.returns s.heap [] _ hH va_S.rf ⟨hl, hv1⟩
theorem k_metF (hy : plainFor y = true) (vs : List Value) (hv : (lg_sl vs).length ≤ maxL) (hv1 : ∀ q ∈ lv_args 0 vs, q.2.category = 1) {Qc : Array Value → State → Outcome → State → Prop}
    (body : ∀ p e s m args below meth c, kC w p s m args meth c bytes maxL y.cls → meth.sig.returnType = ret → kG w p l e rm s m args below meth c (MQ below Qc args s mc ms (kA w)) maxL σ 0 (lv_args 0 vs) [] 0 0) : Met l y (Cond.code y bytes maxL ret :: TB) rm (va_Pc vs (kP w σ)) Qc mc ms (kA w) := by
  refine va_MetF (cc := bytes) (maxL := maxL) (ret := ret) hy rfl ?_
  intro p e s m args below meth c s₁ B hml hpc
  obtain ⟨rfl, hb0, hK, hN, hH⟩ := hpc
  have hts := atoms_spec (ws := Cond.code y bytes maxL ret :: TB) B.pre
  have hl := lv_entry vs (n := maxL) hv
  rw [lg_entry_eq]
  exact body p e s m _ below meth c ⟨B.exec, B.bytes, hml, findClass_of_methodNamed B.named, fun x hx => hts x (List.mem_cons_of_mem _ hx), hK, B.notSynchronized, hb0, hN⟩ B.returns s.heap [] _ hH va_S.rf ⟨hl, hv1⟩
end KC
/-! fewer locals -/
theorem k_sub {w : kW} {p : Program} {l : Launch} {e : Env} {R : Room} {s : State} {m : MethodId} {args : Array Value} {below : List Frame} {meth : Method} {c : Code} {Q : State → Prop} {nL : Nat} {σ : kS} {pc : Nat} {lv lv' : List (Nat × Value)} {st : List Value} {cells slots : Nat} (ks : List Nat) (h : lv_pick lv ks = lv') (k : kG w p l e R s m args below meth c Q nL σ pc lv' st cells slots) : kG w p l e R s m args below meth c Q nL σ pc lv st cells slots :=
  fun H locs ls hH hS hl => k H locs ls hH hS ⟨lv_sub hl.1 ks h, fun q hq => by
    rw [← h] at hq
    obtain ⟨i, -, hi⟩ := List.mem_filterMap.mp hq
    exact hl.2 q (List.mem_of_getElem? hi)⟩
theorem k_widen {w : kW} {p : Program} {l : Launch} {e : Env} {R : Room} {s : State} {m : MethodId} {args : Array Value} {below : List Frame} {meth : Method} {c : Code} {Q : State → Prop} {nL : Nat} {σ : kS} {pc : Nat} {lv : List (Nat × Value)} {st : List Value} {cells slots : Nat} {k n : Nat} (h1 : cells ≤ k) (h2 : slots ≤ n) (kk : kG w p l e R s m args below meth c Q nL σ pc lv st k n) : kG w p l e R s m args below meth c Q nL σ pc lv st cells slots :=
  fun H locs ls hH hS hl => W.widen h1 h2 (kk H locs ls hH hS hl)
/-! loops -/
def kit {α β : Type} (body : α → Option (α ⊕ β)) : Nat → α → Option β
  | 0, _ => none
  | n + 1, a => match body a with
    | none => none
    | some (.inl b) => kit body n b
    | some (.inr r) => some r
theorem kit_ind {α β : Type} {body : α → Option (α ⊕ β)} (P : α → β → Prop) (step : ∀ a a' b, body a = some (.inl a') → P a' b → P a b) (fin : ∀ a b, body a = some (.inr b) → P a b) : ∀ (n : Nat) (a : α) (b : β), kit body n a = some b → P a b := by
  intro n
  induction n with
  | zero => intro a b h; cases h
  | succ n ih =>
    intro a b h
    simp only [kit] at h
    cases hb : body a with
    | none => rw [hb] at h; cases h
    | some r =>
      rw [hb] at h
      cases r with
      | inl a' => exact step a a' b hb (ih a' b h)
      | inr r => cases h; exact fin a _ hb
theorem k_gd {α : Type} {c : Prop} [Decidable c] {A : Option α} {b : α} (h : (if c then A else none) = some b) : c ∧ A = some b := by
  by_cases hc : c
  · rw [if_pos hc] at h; exact ⟨hc, h⟩
  · rw [if_neg hc] at h; cases h
theorem k_br {α : Type} {c : Prop} [Decidable c] {A B : Option α} {b : α} (h : (if c then A else B) = some b) : (c ∧ A = some b) ∨ (¬ c ∧ B = some b) := by
  by_cases hc : c
  · rw [if_pos hc] at h; exact Or.inl ⟨hc, h⟩
  · rw [if_neg hc] at h; exact Or.inr ⟨hc, h⟩
theorem k_bd {α β : Type} {x : Option α} {f : α → Option β} {b : β} (h : x.bind f = some b) : ∃ a, x = some a ∧ f a = some b := by
  cases x with
  | none => cases h
  | some a => exact ⟨a, rfl, h⟩
/-- a reference that may be null -/
def kmn {α : Type} (x : Option Nat) (A : Option α) (B : Nat → Option α) : Option α := match x with
  | none => A
  | some c => B c
theorem k_mn {α : Type} {x : Option Nat} {A : Option α} {B : Nat → Option α} {b : α} (h : kmn x A B = some b) : (x = none ∧ A = some b) ∨ ∃ c, x = some c ∧ B c = some b := by
  cases x with
  | none => exact Or.inl ⟨rfl, h⟩
  | some c => exact Or.inr ⟨c, rfl, h⟩
theorem k_mp {α β : Type} {x : Option α} {f : α → β} {b : β} (h : x.map f = some b) : ∃ a, x = some a ∧ f a = b := by
  cases x with
  | none => cases h
  | some a => exact ⟨a, rfl, Option.some.inj h⟩
theorem kd_m0 {a : Nat} (h : kd a = (0, 0, 8)) : kd (a + 1 + 0) = (1, 0, 4) ∧ kd (a + 1 + 1) = (1, 0, 8) ∧ kd (a + 1 + 2) = (1, 0, 64) ∧ kd (a + 1 + 3) = (1, 0, 64) ∧ kd (a + 1 + 4) = (1, 0, 64) := by
  have hlt : a < 139 := kd_lt (by rw [h]; decide)
  have key : ∀ a : Fin 139, kd a.val = (0, 0, 8) → kd (a.val + 1 + 0) = (1, 0, 4) ∧ kd (a.val + 1 + 1) = (1, 0, 8) ∧ kd (a.val + 1 + 2) = (1, 0, 64) ∧ kd (a.val + 1 + 3) = (1, 0, 64) ∧ kd (a.val + 1 + 4) = (1, 0, 64) := by decide +kernel
  exact key ⟨a, hlt⟩ h
end
section
theorem tw_0 : (.selects RX1 yX1_isIdealMember yX1_isIdealMember : Cond) ∈ TB := tb_in (i := 0) (by decide +kernel) (by decide +kernel)
theorem tw_1 : (.selects RX1 yX1_livePointInTurn yX1_livePointInTurn : Cond) ∈ TB := tb_in (i := 1) (by decide +kernel) (by decide +kernel)
theorem tw_6 : (.selects RX1 yX1_liveAt yX1_liveAt : Cond) ∈ TB := tb_in (i := 6) (by decide +kernel) (by decide +kernel)
theorem tw_7 : (.selects RX1 yX1_lookFor yX1_lookFor : Cond) ∈ TB := tb_in (i := 7) (by decide +kernel) (by decide +kernel)
theorem tw_8 : (.selects RX1 yX1_ownerKnownBy yX1_ownerKnownBy : Cond) ∈ TB := tb_in (i := 8) (by decide +kernel) (by decide +kernel)
theorem tw_9 : (.selects RX1 yX1_successor yX1_successor : Cond) ∈ TB := tb_in (i := 9) (by decide +kernel) (by decide +kernel)
theorem tw_10 : (.selects RX1 yX1_lastKnownAheadOf yX1_lastKnownAheadOf : Cond) ∈ TB := tb_in (i := 10) (by decide +kernel) (by decide +kernel)
theorem tw_11 : (.selects RX1 yX1_takeOver yX1_takeOver : Cond) ∈ TB := tb_in (i := 11) (by decide +kernel) (by decide +kernel)
theorem tw_14 : (.selects RX1 yX1_stabiliseMember yX1_stabiliseMember : Cond) ∈ TB := tb_in (i := 14) (by decide +kernel) (by decide +kernel)
theorem tw_15 : (.selects RX1 yX1_tell yX1_tell : Cond) ∈ TB := tb_in (i := 15) (by decide +kernel) (by decide +kernel)
theorem tw_16 : (.selects RX1 yX1_mendFinger yX1_mendFinger : Cond) ∈ TB := tb_in (i := 16) (by decide +kernel) (by decide +kernel)
theorem tw_17 : (.selects RX1 yX1_takeFromSuccessor yX1_takeFromSuccessor : Cond) ∈ TB := tb_in (i := 17) (by decide +kernel) (by decide +kernel)
theorem tw_18 : (.selects RX1 yX1_spreadFrom yX1_spreadFrom : Cond) ∈ TB := tb_in (i := 18) (by decide +kernel) (by decide +kernel)
theorem tw_19 : (.selects RX1 yX1_copyToList yX1_copyToList : Cond) ∈ TB := tb_in (i := 19) (by decide +kernel) (by decide +kernel)
theorem tw_22 : (.selects RX1 yX1_trueOwner yX1_trueOwner : Cond) ∈ TB := tb_in (i := 22) (by decide +kernel) (by decide +kernel)
theorem tw_26 : (.selects RX2 yX2_many yX2_many : Cond) ∈ TB := tb_in (i := 26) (by decide +kernel) (by decide +kernel)
theorem tw_27 : (.selects RX2 yX2_goes yX2_goes : Cond) ∈ TB := tb_in (i := 27) (by decide +kernel) (by decide +kernel)
theorem tw_28 : (.selects RX2 yX2_empty yX2_empty : Cond) ∈ TB := tb_in (i := 28) (by decide +kernel) (by decide +kernel)
theorem tw_29 : (.selects RX2 yX2_next yX2_next : Cond) ∈ TB := tb_in (i := 29) (by decide +kernel) (by decide +kernel)
theorem tw_30 : (.selects RX2 yX2_last yX2_last : Cond) ∈ TB := tb_in (i := 30) (by decide +kernel) (by decide +kernel)
theorem tw_31 : (.selects RX2 yX2_member yX2_member : Cond) ∈ TB := tb_in (i := 31) (by decide +kernel) (by decide +kernel)
theorem tw_32 : (.selects RX2 yX2_live yX2_live : Cond) ∈ TB := tb_in (i := 32) (by decide +kernel) (by decide +kernel)
theorem tw_33 : (.selects RX2 yX2_lookFor yX2_lookFor : Cond) ∈ TB := tb_in (i := 33) (by decide +kernel) (by decide +kernel)
theorem tw_34 : (.selects RX2 yX2_successor yX2_successor : Cond) ∈ TB := tb_in (i := 34) (by decide +kernel) (by decide +kernel)
theorem tw_35 : (.selects RX2 yX2_later yX2_later : Cond) ∈ TB := tb_in (i := 35) (by decide +kernel) (by decide +kernel)
theorem tw_36 : (.selects RX2 yX2_takeOver yX2_takeOver : Cond) ∈ TB := tb_in (i := 36) (by decide +kernel) (by decide +kernel)
theorem tw_37 : (.selects RX2 yX2_without yX2_without : Cond) ∈ TB := tb_in (i := 37) (by decide +kernel) (by decide +kernel)
theorem tw_38 : (.selects RX2 yX2_stable yX2_stable : Cond) ∈ TB := tb_in (i := 38) (by decide +kernel) (by decide +kernel)
theorem tw_39 : (.selects RX2 yX2_mended yX2_mended : Cond) ∈ TB := tb_in (i := 39) (by decide +kernel) (by decide +kernel)
theorem tw_40 : (.selects RX2 yX2_handed yX2_handed : Cond) ∈ TB := tb_in (i := 40) (by decide +kernel) (by decide +kernel)
theorem tw_41 : (.selects RX2 yX2_belongs yX2_belongs : Cond) ∈ TB := tb_in (i := 41) (by decide +kernel) (by decide +kernel)
theorem tw_42 : (.selects RX2 yX2_higher yX2_higher : Cond) ∈ TB := tb_in (i := 42) (by decide +kernel) (by decide +kernel)
theorem tw_43 : (.selects RX2 yX2_copy yX2_copy : Cond) ∈ TB := tb_in (i := 43) (by decide +kernel) (by decide +kernel)
theorem tw_44 : (.selects RX2 yX2_spreadFrom yX2_spreadFrom : Cond) ∈ TB := tb_in (i := 44) (by decide +kernel) (by decide +kernel)
theorem tw_45 : (.selects RX2 yX2_give yX2_give : Cond) ∈ TB := tb_in (i := 45) (by decide +kernel) (by decide +kernel)
theorem tw_46 : (.selects RX2 yX2_sum yX2_sum : Cond) ∈ TB := tb_in (i := 46) (by decide +kernel) (by decide +kernel)
theorem tw_48 : (.initialized RX1 : Cond) ∈ TB := tb_in (i := 48) (by decide +kernel) (by decide +kernel)
theorem tw_49 : (.initialized RX0 : Cond) ∈ TB := tb_in (i := 49) (by decide +kernel) (by decide +kernel)
theorem tw_50 : (.initialized RX2 : Cond) ∈ TB := tb_in (i := 50) (by decide +kernel) (by decide +kernel)
theorem tw_56 : (.initialized RJ7 : Cond) ∈ TB := tb_in (i := 56) (by decide +kernel) (by decide +kernel)
theorem tw_57 : (.initialized RJ9 : Cond) ∈ TB := tb_in (i := 57) (by decide +kernel) (by decide +kernel)
theorem tw_75 : (.fieldLink RX0 9 (TX0 0).1 (TX0 0).2.1 (TX0 0).2.2.1 : Cond) ∈ TB := tb_in (i := 75) (by decide +kernel) (by decide +kernel)
theorem tw_76 : (.fieldLink RX1 68 (TX0 0).1 (TX0 0).2.1 (TX0 0).2.2.1 : Cond) ∈ TB := tb_in (i := 76) (by decide +kernel) (by decide +kernel)
theorem tw_77 : (.fieldLink RX0 15 (TX0 1).1 (TX0 1).2.1 (TX0 1).2.2.1 : Cond) ∈ TB := tb_in (i := 77) (by decide +kernel) (by decide +kernel)
theorem tw_78 : (.fieldLink RX1 120 (TX0 1).1 (TX0 1).2.1 (TX0 1).2.2.1 : Cond) ∈ TB := tb_in (i := 78) (by decide +kernel) (by decide +kernel)
theorem tw_79 : (.fieldLink RX0 18 (TX0 2).1 (TX0 2).2.1 (TX0 2).2.2.1 : Cond) ∈ TB := tb_in (i := 79) (by decide +kernel) (by decide +kernel)
theorem tw_80 : (.fieldLink RX1 159 (TX0 2).1 (TX0 2).2.1 (TX0 2).2.2.1 : Cond) ∈ TB := tb_in (i := 80) (by decide +kernel) (by decide +kernel)
theorem tw_81 : (.fieldLink RX0 21 (TX0 3).1 (TX0 3).2.1 (TX0 3).2.2.1 : Cond) ∈ TB := tb_in (i := 81) (by decide +kernel) (by decide +kernel)
theorem tw_82 : (.fieldLink RX1 162 (TX0 3).1 (TX0 3).2.1 (TX0 3).2.2.1 : Cond) ∈ TB := tb_in (i := 82) (by decide +kernel) (by decide +kernel)
theorem tw_83 : (.fieldLink RX0 24 (TX0 4).1 (TX0 4).2.1 (TX0 4).2.2.1 : Cond) ∈ TB := tb_in (i := 83) (by decide +kernel) (by decide +kernel)
theorem tw_84 : (.fieldLink RX1 165 (TX0 4).1 (TX0 4).2.1 (TX0 4).2.2.1 : Cond) ∈ TB := tb_in (i := 84) (by decide +kernel) (by decide +kernel)
theorem tw_85 : (.fieldLink RX0 27 (TX0 5).1 (TX0 5).2.1 (TX0 5).2.2.1 : Cond) ∈ TB := tb_in (i := 85) (by decide +kernel) (by decide +kernel)
theorem tw_86 : (.fieldLink RX1 89 (TX0 5).1 (TX0 5).2.1 (TX0 5).2.2.1 : Cond) ∈ TB := tb_in (i := 86) (by decide +kernel) (by decide +kernel)
theorem tw_87 : (.fieldLink RX0 31 (TX0 6).1 (TX0 6).2.1 (TX0 6).2.2.1 : Cond) ∈ TB := tb_in (i := 87) (by decide +kernel) (by decide +kernel)
theorem tw_88 : (.fieldLink RX1 75 (TX0 6).1 (TX0 6).2.1 (TX0 6).2.2.1 : Cond) ∈ TB := tb_in (i := 88) (by decide +kernel) (by decide +kernel)
theorem tw_89 : (.fieldLink RX0 34 (TX0 7).1 (TX0 7).2.1 (TX0 7).2.2.1 : Cond) ∈ TB := tb_in (i := 89) (by decide +kernel) (by decide +kernel)
theorem tw_90 : (.fieldLink RX1 248 (TX0 7).1 (TX0 7).2.1 (TX0 7).2.2.1 : Cond) ∈ TB := tb_in (i := 90) (by decide +kernel) (by decide +kernel)
theorem tw_109 : (.fieldLink RX1 11 (TX1 0).1 (TX1 0).2.1 (TX1 0).2.2.1 : Cond) ∈ TB := tb_in (i := 109) (by decide +kernel) (by decide +kernel)
theorem tw_110 : (.fieldLink RX1 16 (TX1 1).1 (TX1 1).2.1 (TX1 1).2.2.1 : Cond) ∈ TB := tb_in (i := 110) (by decide +kernel) (by decide +kernel)
theorem tw_111 : (.fieldLink RX1 19 (TX1 2).1 (TX1 2).2.1 (TX1 2).2.2.1 : Cond) ∈ TB := tb_in (i := 111) (by decide +kernel) (by decide +kernel)
theorem tw_112 : (.fieldLink RX1 23 (TX1 3).1 (TX1 3).2.1 (TX1 3).2.2.1 : Cond) ∈ TB := tb_in (i := 112) (by decide +kernel) (by decide +kernel)
theorem tw_113 : (.fieldLink RX1 143 (TX1 4).1 (TX1 4).2.1 (TX1 4).2.2.1 : Cond) ∈ TB := tb_in (i := 113) (by decide +kernel) (by decide +kernel)
theorem tw_116 : (.fieldLink RX1 30 (TX1 7).1 (TX1 7).2.1 (TX1 7).2.2.1 : Cond) ∈ TB := tb_in (i := 116) (by decide +kernel) (by decide +kernel)
theorem tw_117 : (.fieldLink RX1 53 (TX1 8).1 (TX1 8).2.1 (TX1 8).2.2.1 : Cond) ∈ TB := tb_in (i := 117) (by decide +kernel) (by decide +kernel)
theorem tw_118 : (.fieldLink RX1 41 (TX1 9).1 (TX1 9).2.1 (TX1 9).2.2.1 : Cond) ∈ TB := tb_in (i := 118) (by decide +kernel) (by decide +kernel)
theorem tw_119 : (.fieldLink RX1 186 (TX1 10).1 (TX1 10).2.1 (TX1 10).2.2.1 : Cond) ∈ TB := tb_in (i := 119) (by decide +kernel) (by decide +kernel)
theorem tw_120 : (.fieldLink RX1 199 (TX1 11).1 (TX1 11).2.1 (TX1 11).2.2.1 : Cond) ∈ TB := tb_in (i := 120) (by decide +kernel) (by decide +kernel)
theorem tw_151 : (.methodLink RX1 182 yX1_isIdealMember : Cond) ∈ TB := tb_in (i := 151) (by decide +kernel) (by decide +kernel)
theorem tw_153 : (.instanceMethod yX1_isIdealMember : Cond) ∈ TB := tb_in (i := 153) (by decide +kernel) (by decide +kernel)
theorem tw_154 : (.code yX1_isIdealMember cX1_isIdealMember 4 (some .boolean) : Cond) ∈ TB := tb_in (i := 154) (by decide +kernel) (by decide +kernel)
theorem tw_155 : (.methodLink RX1 71 yX1_livePointInTurn : Cond) ∈ TB := tb_in (i := 155) (by decide +kernel) (by decide +kernel)
theorem tw_157 : (.instanceMethod yX1_livePointInTurn : Cond) ∈ TB := tb_in (i := 157) (by decide +kernel) (by decide +kernel)
theorem tw_158 : (.code yX1_livePointInTurn cX1_livePointInTurn 2 (some .int) : Cond) ∈ TB := tb_in (i := 158) (by decide +kernel) (by decide +kernel)
theorem tw_159 : (.methodLink RX1 227 yJ9_floorMod_7cf53 : Cond) ∈ TB := tb_in (i := 159) (by decide +kernel) (by decide +kernel)
theorem tw_160 : (.static yJ9_floorMod_7cf53 : Cond) ∈ TB := tb_in (i := 160) (by decide +kernel) (by decide +kernel)
theorem tw_161 : (.code yJ9_floorMod_7cf53 cJ9_floorMod_7cf53 3 (some .int) : Cond) ∈ TB := tb_in (i := 161) (by decide +kernel) (by decide +kernel)
theorem tw_265 : (.methodLink RX1 211 yX1_isPoint : Cond) ∈ TB := tb_in (i := 265) (by decide +kernel) (by decide +kernel)
theorem tw_266 : (.static yX1_isPoint : Cond) ∈ TB := tb_in (i := 266) (by decide +kernel) (by decide +kernel)
theorem tw_267 : (.code yX1_isPoint cX1_isPoint 1 (some .boolean) : Cond) ∈ TB := tb_in (i := 267) (by decide +kernel) (by decide +kernel)
theorem tw_280 : (.methodLink RX1 232 yX0_begin : Cond) ∈ TB := tb_in (i := 280) (by decide +kernel) (by decide +kernel)
theorem tw_281 : (.instanceMethod yX0_begin : Cond) ∈ TB := tb_in (i := 281) (by decide +kernel) (by decide +kernel)
theorem tw_282 : (.selects RX0 yX0_begin yX0_begin : Cond) ∈ TB := tb_in (i := 282) (by decide +kernel) (by decide +kernel)
theorem tw_283 : (.code yX0_begin cX0_begin 2 none : Cond) ∈ TB := tb_in (i := 283) (by decide +kernel) (by decide +kernel)
theorem tw_284 : (.methodLink RX0 37 yJ7_fill_53178 : Cond) ∈ TB := tb_in (i := 284) (by decide +kernel) (by decide +kernel)
theorem tw_285 : (.static yJ7_fill_53178 : Cond) ∈ TB := tb_in (i := 285) (by decide +kernel) (by decide +kernel)
theorem tw_286 : (.code yJ7_fill_53178 cJ7_fill_53178 4 none : Cond) ∈ TB := tb_in (i := 286) (by decide +kernel) (by decide +kernel)
theorem tw_307 : (.methodLink RX1 204 yX1_liveAt : Cond) ∈ TB := tb_in (i := 307) (by decide +kernel) (by decide +kernel)
theorem tw_309 : (.instanceMethod yX1_liveAt : Cond) ∈ TB := tb_in (i := 309) (by decide +kernel) (by decide +kernel)
theorem tw_310 : (.code yX1_liveAt cX1_liveAt 2 (some (.object "KeyRing$Member")) : Cond) ∈ TB := tb_in (i := 310) (by decide +kernel) (by decide +kernel)
theorem tw_327 : (.methodLink RX1 81 yX1_lookFor : Cond) ∈ TB := tb_in (i := 327) (by decide +kernel) (by decide +kernel)
theorem tw_329 : (.instanceMethod yX1_lookFor : Cond) ∈ TB := tb_in (i := 329) (by decide +kernel) (by decide +kernel)
theorem tw_330 : (.code yX1_lookFor cX1_lookFor 6 (some (.object "KeyRing$Member")) : Cond) ∈ TB := tb_in (i := 330) (by decide +kernel) (by decide +kernel)
theorem tw_331 : (.methodLink RX1 235 yX1_ownerKnownBy : Cond) ∈ TB := tb_in (i := 331) (by decide +kernel) (by decide +kernel)
theorem tw_333 : (.instanceMethod yX1_ownerKnownBy : Cond) ∈ TB := tb_in (i := 333) (by decide +kernel) (by decide +kernel)
theorem tw_334 : (.code yX1_ownerKnownBy cX1_ownerKnownBy 4 (some (.object "KeyRing$Member")) : Cond) ∈ TB := tb_in (i := 334) (by decide +kernel) (by decide +kernel)
theorem tw_335 : (.methodLink RX1 107 yX1_successor : Cond) ∈ TB := tb_in (i := 335) (by decide +kernel) (by decide +kernel)
theorem tw_337 : (.instanceMethod yX1_successor : Cond) ∈ TB := tb_in (i := 337) (by decide +kernel) (by decide +kernel)
theorem tw_338 : (.code yX1_successor cX1_successor 4 (some (.object "KeyRing$Member")) : Cond) ∈ TB := tb_in (i := 338) (by decide +kernel) (by decide +kernel)
theorem tw_339 : (.methodLink RX1 241 yX1_isBetween : Cond) ∈ TB := tb_in (i := 339) (by decide +kernel) (by decide +kernel)
theorem tw_340 : (.static yX1_isBetween : Cond) ∈ TB := tb_in (i := 340) (by decide +kernel) (by decide +kernel)
theorem tw_341 : (.code yX1_isBetween cX1_isBetween 5 (some .boolean) : Cond) ∈ TB := tb_in (i := 341) (by decide +kernel) (by decide +kernel)
theorem tw_342 : (.methodLink RX1 220 yX1_stepsUp : Cond) ∈ TB := tb_in (i := 342) (by decide +kernel) (by decide +kernel)
theorem tw_343 : (.static yX1_stepsUp : Cond) ∈ TB := tb_in (i := 343) (by decide +kernel) (by decide +kernel)
theorem tw_344 : (.code yX1_stepsUp cX1_stepsUp 2 (some .int) : Cond) ∈ TB := tb_in (i := 344) (by decide +kernel) (by decide +kernel)
theorem tw_345 : (.methodLink RX1 238 yX1_lastKnownAheadOf : Cond) ∈ TB := tb_in (i := 345) (by decide +kernel) (by decide +kernel)
theorem tw_347 : (.instanceMethod yX1_lastKnownAheadOf : Cond) ∈ TB := tb_in (i := 347) (by decide +kernel) (by decide +kernel)
theorem tw_348 : (.code yX1_lastKnownAheadOf cX1_lastKnownAheadOf 6 (some (.object "KeyRing$Member")) : Cond) ∈ TB := tb_in (i := 348) (by decide +kernel) (by decide +kernel)
theorem tw_349 : (.methodLink RX1 85 yX1_takeOver : Cond) ∈ TB := tb_in (i := 349) (by decide +kernel) (by decide +kernel)
theorem tw_351 : (.instanceMethod yX1_takeOver : Cond) ∈ TB := tb_in (i := 351) (by decide +kernel) (by decide +kernel)
theorem tw_352 : (.code yX1_takeOver cX1_takeOver 4 none : Cond) ∈ TB := tb_in (i := 352) (by decide +kernel) (by decide +kernel)
theorem tw_377 : (.methodLink RX1 104 yX1_stabiliseMember : Cond) ∈ TB := tb_in (i := 377) (by decide +kernel) (by decide +kernel)
theorem tw_379 : (.instanceMethod yX1_stabiliseMember : Cond) ∈ TB := tb_in (i := 379) (by decide +kernel) (by decide +kernel)
theorem tw_380 : (.code yX1_stabiliseMember cX1_stabiliseMember 4 none : Cond) ∈ TB := tb_in (i := 380) (by decide +kernel) (by decide +kernel)
theorem tw_381 : (.methodLink RX1 245 yX1_tell : Cond) ∈ TB := tb_in (i := 381) (by decide +kernel) (by decide +kernel)
theorem tw_383 : (.instanceMethod yX1_tell : Cond) ∈ TB := tb_in (i := 383) (by decide +kernel) (by decide +kernel)
theorem tw_384 : (.code yX1_tell cX1_tell 4 none : Cond) ∈ TB := tb_in (i := 384) (by decide +kernel) (by decide +kernel)
theorem tw_393 : (.methodLink RX1 116 yX1_mendFinger : Cond) ∈ TB := tb_in (i := 393) (by decide +kernel) (by decide +kernel)
theorem tw_395 : (.instanceMethod yX1_mendFinger : Cond) ∈ TB := tb_in (i := 395) (by decide +kernel) (by decide +kernel)
theorem tw_396 : (.code yX1_mendFinger cX1_mendFinger 3 none : Cond) ∈ TB := tb_in (i := 396) (by decide +kernel) (by decide +kernel)
theorem tw_397 : (.methodLink RX1 224 yX1_pointUp : Cond) ∈ TB := tb_in (i := 397) (by decide +kernel) (by decide +kernel)
theorem tw_398 : (.static yX1_pointUp : Cond) ∈ TB := tb_in (i := 398) (by decide +kernel) (by decide +kernel)
theorem tw_399 : (.code yX1_pointUp cX1_pointUp 2 (some .int) : Cond) ∈ TB := tb_in (i := 399) (by decide +kernel) (by decide +kernel)
theorem tw_407 : (.methodLink RX1 123 yX1_takeFromSuccessor : Cond) ∈ TB := tb_in (i := 407) (by decide +kernel) (by decide +kernel)
theorem tw_409 : (.instanceMethod yX1_takeFromSuccessor : Cond) ∈ TB := tb_in (i := 409) (by decide +kernel) (by decide +kernel)
theorem tw_410 : (.code yX1_takeFromSuccessor cX1_takeFromSuccessor 6 (some .int) : Cond) ∈ TB := tb_in (i := 410) (by decide +kernel) (by decide +kernel)
theorem tw_411 : (.methodLink RX1 251 yX1_isInCare : Cond) ∈ TB := tb_in (i := 411) (by decide +kernel) (by decide +kernel)
theorem tw_412 : (.static yX1_isInCare : Cond) ∈ TB := tb_in (i := 412) (by decide +kernel) (by decide +kernel)
theorem tw_413 : (.code yX1_isInCare cX1_isInCare 4 (some .boolean) : Cond) ∈ TB := tb_in (i := 413) (by decide +kernel) (by decide +kernel)
theorem tw_414 : (.methodLink RX1 156 yX1_pointOfKey : Cond) ∈ TB := tb_in (i := 414) (by decide +kernel) (by decide +kernel)
theorem tw_415 : (.static yX1_pointOfKey : Cond) ∈ TB := tb_in (i := 415) (by decide +kernel) (by decide +kernel)
theorem tw_416 : (.code yX1_pointOfKey cX1_pointOfKey 1 (some .int) : Cond) ∈ TB := tb_in (i := 416) (by decide +kernel) (by decide +kernel)
theorem tw_417 : (.methodLink RX1 255 yX1_copyIfHigher : Cond) ∈ TB := tb_in (i := 417) (by decide +kernel) (by decide +kernel)
theorem tw_418 : (.static yX1_copyIfHigher : Cond) ∈ TB := tb_in (i := 418) (by decide +kernel) (by decide +kernel)
theorem tw_419 : (.code yX1_copyIfHigher cX1_copyIfHigher 3 (some .boolean) : Cond) ∈ TB := tb_in (i := 419) (by decide +kernel) (by decide +kernel)
theorem tw_420 : (.methodLink RX1 258 yX1_isHigher : Cond) ∈ TB := tb_in (i := 420) (by decide +kernel) (by decide +kernel)
theorem tw_421 : (.static yX1_isHigher : Cond) ∈ TB := tb_in (i := 421) (by decide +kernel) (by decide +kernel)
theorem tw_422 : (.code yX1_isHigher cX1_isHigher 3 (some .boolean) : Cond) ∈ TB := tb_in (i := 422) (by decide +kernel) (by decide +kernel)
theorem tw_430 : (.methodLink RX1 127 yX1_spreadFrom : Cond) ∈ TB := tb_in (i := 430) (by decide +kernel) (by decide +kernel)
theorem tw_432 : (.instanceMethod yX1_spreadFrom : Cond) ∈ TB := tb_in (i := 432) (by decide +kernel) (by decide +kernel)
theorem tw_433 : (.code yX1_spreadFrom cX1_spreadFrom 5 (some .int) : Cond) ∈ TB := tb_in (i := 433) (by decide +kernel) (by decide +kernel)
theorem tw_434 : (.methodLink RX1 168 yX1_copyToList : Cond) ∈ TB := tb_in (i := 434) (by decide +kernel) (by decide +kernel)
theorem tw_436 : (.instanceMethod yX1_copyToList : Cond) ∈ TB := tb_in (i := 436) (by decide +kernel) (by decide +kernel)
theorem tw_437 : (.code yX1_copyToList cX1_copyToList 6 (some .int) : Cond) ∈ TB := tb_in (i := 437) (by decide +kernel) (by decide +kernel)
theorem tw_515 : (.methodLink RX1 179 yX1_trueOwner : Cond) ∈ TB := tb_in (i := 515) (by decide +kernel) (by decide +kernel)
theorem tw_517 : (.instanceMethod yX1_trueOwner : Cond) ∈ TB := tb_in (i := 517) (by decide +kernel) (by decide +kernel)
theorem tw_518 : (.code yX1_trueOwner cX1_trueOwner 3 (some .int) : Cond) ∈ TB := tb_in (i := 518) (by decide +kernel) (by decide +kernel)
theorem tw_545 : (.fieldLink RX2 47 (TX2 0).1 (TX2 0).2.1 (TX2 0).2.2.1 : Cond) ∈ TB := tb_in (i := 545) (by decide +kernel) (by decide +kernel)
theorem tw_546 : (.fieldLink RX2 7 (TX2 1).1 (TX2 1).2.1 (TX2 1).2.2.1 : Cond) ∈ TB := tb_in (i := 546) (by decide +kernel) (by decide +kernel)
theorem tw_547 : (.fieldLink RX2 54 (TX2 2).1 (TX2 2).2.1 (TX2 2).2.2.1 : Cond) ∈ TB := tb_in (i := 547) (by decide +kernel) (by decide +kernel)
theorem tw_548 : (.fieldLink RX2 13 (TX2 3).1 (TX2 3).2.1 (TX2 3).2.2.1 : Cond) ∈ TB := tb_in (i := 548) (by decide +kernel) (by decide +kernel)
theorem tw_549 : (.fieldLink RX2 17 (TX2 4).1 (TX2 4).2.1 (TX2 4).2.2.1 : Cond) ∈ TB := tb_in (i := 549) (by decide +kernel) (by decide +kernel)
theorem tw_550 : (.fieldLink RX2 20 (TX2 5).1 (TX2 5).2.1 (TX2 5).2.2.1 : Cond) ∈ TB := tb_in (i := 550) (by decide +kernel) (by decide +kernel)
theorem tw_551 : (.fieldLink RX2 23 (TX2 6).1 (TX2 6).2.1 (TX2 6).2.2.1 : Cond) ∈ TB := tb_in (i := 551) (by decide +kernel) (by decide +kernel)
theorem tw_552 : (.fieldLink RX2 26 (TX2 7).1 (TX2 7).2.1 (TX2 7).2.2.1 : Cond) ∈ TB := tb_in (i := 552) (by decide +kernel) (by decide +kernel)
theorem tw_553 : (.fieldLink RX2 29 (TX2 8).1 (TX2 8).2.1 (TX2 8).2.2.1 : Cond) ∈ TB := tb_in (i := 553) (by decide +kernel) (by decide +kernel)
theorem tw_554 : (.fieldLink RX2 32 (TX2 9).1 (TX2 9).2.1 (TX2 9).2.2.1 : Cond) ∈ TB := tb_in (i := 554) (by decide +kernel) (by decide +kernel)
theorem tw_555 : (.fieldLink RX2 35 (TX2 10).1 (TX2 10).2.1 (TX2 10).2.2.1 : Cond) ∈ TB := tb_in (i := 555) (by decide +kernel) (by decide +kernel)
theorem tw_556 : (.fieldLink RX2 38 (TX2 11).1 (TX2 11).2.1 (TX2 11).2.2.1 : Cond) ∈ TB := tb_in (i := 556) (by decide +kernel) (by decide +kernel)
theorem tw_557 : (.fieldLink RX2 88 (TX2 12).1 (TX2 12).2.1 (TX2 12).2.2.1 : Cond) ∈ TB := tb_in (i := 557) (by decide +kernel) (by decide +kernel)
theorem tw_558 : (.fieldLink RX2 142 (TX2 13).1 (TX2 13).2.1 (TX2 13).2.2.1 : Cond) ∈ TB := tb_in (i := 558) (by decide +kernel) (by decide +kernel)
theorem tw_559 : (.fieldLink RX2 98 (TX2 14).1 (TX2 14).2.1 (TX2 14).2.2.1 : Cond) ∈ TB := tb_in (i := 559) (by decide +kernel) (by decide +kernel)
theorem tw_560 : (.fieldLink RX2 41 (TX2 15).1 (TX2 15).2.1 (TX2 15).2.2.1 : Cond) ∈ TB := tb_in (i := 560) (by decide +kernel) (by decide +kernel)
theorem tw_561 : (.fieldLink RX2 44 (TX2 16).1 (TX2 16).2.1 (TX2 16).2.2.1 : Cond) ∈ TB := tb_in (i := 561) (by decide +kernel) (by decide +kernel)
theorem tw_605 : (.methodLink RX2 65 yX2_many : Cond) ∈ TB := tb_in (i := 605) (by decide +kernel) (by decide +kernel)
theorem tw_607 : (.instanceMethod yX2_many : Cond) ∈ TB := tb_in (i := 607) (by decide +kernel) (by decide +kernel)
theorem tw_608 : (.code yX2_many cX2_many 3 (some .int) : Cond) ∈ TB := tb_in (i := 608) (by decide +kernel) (by decide +kernel)
theorem tw_609 : (.methodLink RX2 69 yX2_goes : Cond) ∈ TB := tb_in (i := 609) (by decide +kernel) (by decide +kernel)
theorem tw_611 : (.instanceMethod yX2_goes : Cond) ∈ TB := tb_in (i := 611) (by decide +kernel) (by decide +kernel)
theorem tw_612 : (.code yX2_goes cX2_goes 4 (some .boolean) : Cond) ∈ TB := tb_in (i := 612) (by decide +kernel) (by decide +kernel)
theorem tw_617 : (.methodLink RX2 50 yX2_isPoint : Cond) ∈ TB := tb_in (i := 617) (by decide +kernel) (by decide +kernel)
theorem tw_618 : (.static yX2_isPoint : Cond) ∈ TB := tb_in (i := 618) (by decide +kernel) (by decide +kernel)
theorem tw_619 : (.code yX2_isPoint cX2_isPoint 1 (some .boolean) : Cond) ∈ TB := tb_in (i := 619) (by decide +kernel) (by decide +kernel)
theorem tw_624 : (.methodLink RX2 73 yX2_empty : Cond) ∈ TB := tb_in (i := 624) (by decide +kernel) (by decide +kernel)
theorem tw_626 : (.instanceMethod yX2_empty : Cond) ∈ TB := tb_in (i := 626) (by decide +kernel) (by decide +kernel)
theorem tw_627 : (.code yX2_empty cX2_empty 3 none : Cond) ∈ TB := tb_in (i := 627) (by decide +kernel) (by decide +kernel)
theorem tw_628 : (.methodLink RX2 77 yX2_next : Cond) ∈ TB := tb_in (i := 628) (by decide +kernel) (by decide +kernel)
theorem tw_630 : (.instanceMethod yX2_next : Cond) ∈ TB := tb_in (i := 630) (by decide +kernel) (by decide +kernel)
theorem tw_631 : (.code yX2_next cX2_next 3 (some .int) : Cond) ∈ TB := tb_in (i := 631) (by decide +kernel) (by decide +kernel)
theorem tw_632 : (.methodLink RX2 81 yX2_last : Cond) ∈ TB := tb_in (i := 632) (by decide +kernel) (by decide +kernel)
theorem tw_634 : (.instanceMethod yX2_last : Cond) ∈ TB := tb_in (i := 634) (by decide +kernel) (by decide +kernel)
theorem tw_635 : (.code yX2_last cX2_last 3 (some .int) : Cond) ∈ TB := tb_in (i := 635) (by decide +kernel) (by decide +kernel)
theorem tw_640 : (.methodLink RX2 101 yX2_member : Cond) ∈ TB := tb_in (i := 640) (by decide +kernel) (by decide +kernel)
theorem tw_642 : (.instanceMethod yX2_member : Cond) ∈ TB := tb_in (i := 642) (by decide +kernel) (by decide +kernel)
theorem tw_643 : (.code yX2_member cX2_member 2 (some .boolean) : Cond) ∈ TB := tb_in (i := 643) (by decide +kernel) (by decide +kernel)
theorem tw_644 : (.methodLink RX2 58 yX2_live : Cond) ∈ TB := tb_in (i := 644) (by decide +kernel) (by decide +kernel)
theorem tw_646 : (.instanceMethod yX2_live : Cond) ∈ TB := tb_in (i := 646) (by decide +kernel) (by decide +kernel)
theorem tw_647 : (.code yX2_live cX2_live 2 (some .boolean) : Cond) ∈ TB := tb_in (i := 647) (by decide +kernel) (by decide +kernel)
theorem tw_648 : (.methodLink RX2 104 yX2_lookFor : Cond) ∈ TB := tb_in (i := 648) (by decide +kernel) (by decide +kernel)
theorem tw_650 : (.instanceMethod yX2_lookFor : Cond) ∈ TB := tb_in (i := 650) (by decide +kernel) (by decide +kernel)
theorem tw_651 : (.code yX2_lookFor cX2_lookFor 7 (some .int) : Cond) ∈ TB := tb_in (i := 651) (by decide +kernel) (by decide +kernel)
theorem tw_652 : (.methodLink RX2 91 yX2_successor : Cond) ∈ TB := tb_in (i := 652) (by decide +kernel) (by decide +kernel)
theorem tw_654 : (.instanceMethod yX2_successor : Cond) ∈ TB := tb_in (i := 654) (by decide +kernel) (by decide +kernel)
theorem tw_655 : (.code yX2_successor cX2_successor 3 (some .int) : Cond) ∈ TB := tb_in (i := 655) (by decide +kernel) (by decide +kernel)
theorem tw_656 : (.methodLink RX2 84 yX2_between : Cond) ∈ TB := tb_in (i := 656) (by decide +kernel) (by decide +kernel)
theorem tw_657 : (.static yX2_between : Cond) ∈ TB := tb_in (i := 657) (by decide +kernel) (by decide +kernel)
theorem tw_658 : (.code yX2_between cX2_between 3 (some .boolean) : Cond) ∈ TB := tb_in (i := 658) (by decide +kernel) (by decide +kernel)
theorem tw_659 : (.methodLink RX2 61 yX2_up : Cond) ∈ TB := tb_in (i := 659) (by decide +kernel) (by decide +kernel)
theorem tw_660 : (.static yX2_up : Cond) ∈ TB := tb_in (i := 660) (by decide +kernel) (by decide +kernel)
theorem tw_661 : (.code yX2_up cX2_up 2 (some .int) : Cond) ∈ TB := tb_in (i := 661) (by decide +kernel) (by decide +kernel)
theorem tw_662 : (.methodLink RX2 94 yX2_later : Cond) ∈ TB := tb_in (i := 662) (by decide +kernel) (by decide +kernel)
theorem tw_664 : (.instanceMethod yX2_later : Cond) ∈ TB := tb_in (i := 664) (by decide +kernel) (by decide +kernel)
theorem tw_665 : (.code yX2_later cX2_later 5 (some .int) : Cond) ∈ TB := tb_in (i := 665) (by decide +kernel) (by decide +kernel)
theorem tw_666 : (.methodLink RX2 107 yX2_takeOver : Cond) ∈ TB := tb_in (i := 666) (by decide +kernel) (by decide +kernel)
theorem tw_668 : (.instanceMethod yX2_takeOver : Cond) ∈ TB := tb_in (i := 668) (by decide +kernel) (by decide +kernel)
theorem tw_669 : (.code yX2_takeOver cX2_takeOver 4 none : Cond) ∈ TB := tb_in (i := 669) (by decide +kernel) (by decide +kernel)
theorem tw_674 : (.methodLink RX2 111 yX2_without : Cond) ∈ TB := tb_in (i := 674) (by decide +kernel) (by decide +kernel)
theorem tw_676 : (.instanceMethod yX2_without : Cond) ∈ TB := tb_in (i := 676) (by decide +kernel) (by decide +kernel)
theorem tw_677 : (.code yX2_without cX2_without 7 (some .boolean) : Cond) ∈ TB := tb_in (i := 677) (by decide +kernel) (by decide +kernel)
theorem tw_682 : (.methodLink RX2 114 yX2_stable : Cond) ∈ TB := tb_in (i := 682) (by decide +kernel) (by decide +kernel)
theorem tw_684 : (.instanceMethod yX2_stable : Cond) ∈ TB := tb_in (i := 684) (by decide +kernel) (by decide +kernel)
theorem tw_685 : (.code yX2_stable cX2_stable 5 (some .int) : Cond) ∈ TB := tb_in (i := 685) (by decide +kernel) (by decide +kernel)
theorem tw_690 : (.methodLink RX2 117 yX2_mended : Cond) ∈ TB := tb_in (i := 690) (by decide +kernel) (by decide +kernel)
theorem tw_692 : (.instanceMethod yX2_mended : Cond) ∈ TB := tb_in (i := 692) (by decide +kernel) (by decide +kernel)
theorem tw_693 : (.code yX2_mended cX2_mended 3 (some .int) : Cond) ∈ TB := tb_in (i := 693) (by decide +kernel) (by decide +kernel)
theorem tw_698 : (.methodLink RX2 133 yX2_handed : Cond) ∈ TB := tb_in (i := 698) (by decide +kernel) (by decide +kernel)
theorem tw_700 : (.instanceMethod yX2_handed : Cond) ∈ TB := tb_in (i := 700) (by decide +kernel) (by decide +kernel)
theorem tw_701 : (.code yX2_handed cX2_handed 5 (some .int) : Cond) ∈ TB := tb_in (i := 701) (by decide +kernel) (by decide +kernel)
theorem tw_702 : (.methodLink RX2 123 yX2_belongs : Cond) ∈ TB := tb_in (i := 702) (by decide +kernel) (by decide +kernel)
theorem tw_704 : (.instanceMethod yX2_belongs : Cond) ∈ TB := tb_in (i := 704) (by decide +kernel) (by decide +kernel)
theorem tw_705 : (.code yX2_belongs cX2_belongs 3 (some .boolean) : Cond) ∈ TB := tb_in (i := 705) (by decide +kernel) (by decide +kernel)
theorem tw_706 : (.methodLink RX2 120 yX2_pointOf : Cond) ∈ TB := tb_in (i := 706) (by decide +kernel) (by decide +kernel)
theorem tw_707 : (.static yX2_pointOf : Cond) ∈ TB := tb_in (i := 707) (by decide +kernel) (by decide +kernel)
theorem tw_708 : (.code yX2_pointOf cX2_pointOf 1 (some .int) : Cond) ∈ TB := tb_in (i := 708) (by decide +kernel) (by decide +kernel)
theorem tw_709 : (.methodLink RX2 127 yX2_higher : Cond) ∈ TB := tb_in (i := 709) (by decide +kernel) (by decide +kernel)
theorem tw_711 : (.instanceMethod yX2_higher : Cond) ∈ TB := tb_in (i := 711) (by decide +kernel) (by decide +kernel)
theorem tw_712 : (.code yX2_higher cX2_higher 3 (some .boolean) : Cond) ∈ TB := tb_in (i := 712) (by decide +kernel) (by decide +kernel)
theorem tw_713 : (.methodLink RX2 130 yX2_copy : Cond) ∈ TB := tb_in (i := 713) (by decide +kernel) (by decide +kernel)
theorem tw_715 : (.instanceMethod yX2_copy : Cond) ∈ TB := tb_in (i := 715) (by decide +kernel) (by decide +kernel)
theorem tw_716 : (.code yX2_copy cX2_copy 3 none : Cond) ∈ TB := tb_in (i := 716) (by decide +kernel) (by decide +kernel)
theorem tw_721 : (.methodLink RX2 139 yX2_spreadFrom : Cond) ∈ TB := tb_in (i := 721) (by decide +kernel) (by decide +kernel)
theorem tw_723 : (.instanceMethod yX2_spreadFrom : Cond) ∈ TB := tb_in (i := 723) (by decide +kernel) (by decide +kernel)
theorem tw_724 : (.code yX2_spreadFrom cX2_spreadFrom 4 (some .int) : Cond) ∈ TB := tb_in (i := 724) (by decide +kernel) (by decide +kernel)
theorem tw_725 : (.methodLink RX2 136 yX2_give : Cond) ∈ TB := tb_in (i := 725) (by decide +kernel) (by decide +kernel)
theorem tw_727 : (.instanceMethod yX2_give : Cond) ∈ TB := tb_in (i := 727) (by decide +kernel) (by decide +kernel)
theorem tw_728 : (.code yX2_give cX2_give 6 (some .int) : Cond) ∈ TB := tb_in (i := 728) (by decide +kernel) (by decide +kernel)
theorem tw_745 : (.methodLink RX2 145 yX2_isKey : Cond) ∈ TB := tb_in (i := 745) (by decide +kernel) (by decide +kernel)
theorem tw_746 : (.static yX2_isKey : Cond) ∈ TB := tb_in (i := 746) (by decide +kernel) (by decide +kernel)
theorem tw_747 : (.code yX2_isKey cX2_isKey 1 (some .boolean) : Cond) ∈ TB := tb_in (i := 747) (by decide +kernel) (by decide +kernel)
theorem tw_772 : (.methodLink RX2 148 yX2_sum : Cond) ∈ TB := tb_in (i := 772) (by decide +kernel) (by decide +kernel)
theorem tw_774 : (.instanceMethod yX2_sum : Cond) ∈ TB := tb_in (i := 774) (by decide +kernel) (by decide +kernel)
theorem tw_775 : (.code yX2_sum cX2_sum 6 (some .int) : Cond) ∈ TB := tb_in (i := 775) (by decide +kernel) (by decide +kernel)
theorem inX0 : ∀ x ∈ u_ws RX0 TX0 8, x ∈ TB := by decide +kernel
theorem inX1 : ∀ x ∈ u_ws RX1 TX1 12, x ∈ TB := by decide +kernel
theorem inX2 : ∀ x ∈ u_ws RX2 TX2 17, x ∈ TB := by decide +kernel
end
section
section KF
variable {w : kW} {p : Program} {l : Launch} {e : Env} {R : Room} {s : State} {m : MethodId} {args : Array Value} {below : List Frame} {meth : Method} {c : Code} {Q : State → Prop} {cc : ByteArray} {nL : Nat} {σ : kS} {pc : Nat} {lv : List (Nat × Value)} {st rest : List Value} {cells slots : Nat}
theorem fg_X0_9 (K : kC w p s m args meth c cc nL RX0) {a : Nat} (d : decode cc pc = .ok (.getfield 9, 3)) (hk : kd a = (0, 0, 8)) (kk : kG w p l e R s m args below meth c Q nL σ (pc + 3) lv (.ref (kL w (a + 1 + 0)) :: st) cells slots) : kG w p l e R s m args below meth c Q nL σ pc lv (.ref (kL w a) :: st) cells slots :=
  k_getR (k := 0) (ci := 0) (n := 8) (b := a + 1 + 0) (C := RX0) (T := TX0) K d hk rfl inX0 (by decide) (by decide) rfl tw_75 kk
theorem fg_X0_15 (K : kC w p s m args meth c cc nL RX0) {a : Nat} (d : decode cc pc = .ok (.getfield 15, 3)) (hk : kd a = (0, 0, 8)) (kk : kG w p l e R s m args below meth c Q nL σ (pc + 3) lv (.ref (kL w (a + 1 + 1)) :: st) cells slots) : kG w p l e R s m args below meth c Q nL σ pc lv (.ref (kL w a) :: st) cells slots :=
  k_getR (k := 1) (ci := 0) (n := 8) (b := a + 1 + 1) (C := RX0) (T := TX0) K d hk rfl inX0 (by decide) (by decide) rfl tw_77 kk
theorem fg_X0_18 (K : kC w p s m args meth c cc nL RX0) {a : Nat} (d : decode cc pc = .ok (.getfield 18, 3)) (hk : kd a = (0, 0, 8)) (kk : kG w p l e R s m args below meth c Q nL σ (pc + 3) lv (.ref (kL w (a + 1 + 2)) :: st) cells slots) : kG w p l e R s m args below meth c Q nL σ pc lv (.ref (kL w a) :: st) cells slots :=
  k_getR (k := 2) (ci := 0) (n := 8) (b := a + 1 + 2) (C := RX0) (T := TX0) K d hk rfl inX0 (by decide) (by decide) rfl tw_79 kk
theorem fg_X0_21 (K : kC w p s m args meth c cc nL RX0) {a : Nat} (d : decode cc pc = .ok (.getfield 21, 3)) (hk : kd a = (0, 0, 8)) (kk : kG w p l e R s m args below meth c Q nL σ (pc + 3) lv (.ref (kL w (a + 1 + 3)) :: st) cells slots) : kG w p l e R s m args below meth c Q nL σ pc lv (.ref (kL w a) :: st) cells slots :=
  k_getR (k := 3) (ci := 0) (n := 8) (b := a + 1 + 3) (C := RX0) (T := TX0) K d hk rfl inX0 (by decide) (by decide) rfl tw_81 kk
theorem fg_X0_24 (K : kC w p s m args meth c cc nL RX0) {a : Nat} (d : decode cc pc = .ok (.getfield 24, 3)) (hk : kd a = (0, 0, 8)) (kk : kG w p l e R s m args below meth c Q nL σ (pc + 3) lv (.ref (kL w (a + 1 + 4)) :: st) cells slots) : kG w p l e R s m args below meth c Q nL σ pc lv (.ref (kL w a) :: st) cells slots :=
  k_getR (k := 4) (ci := 0) (n := 8) (b := a + 1 + 4) (C := RX0) (T := TX0) K d hk rfl inX0 (by decide) (by decide) rfl tw_83 kk
theorem fg_X0_27 (K : kC w p s m args meth c cc nL RX0) {a : Nat} (d : decode cc pc = .ok (.getfield 27, 3)) (hk : kd a = (0, 0, 8)) (kk : kG w p l e R s m args below meth c Q nL σ (pc + 3) lv (.int (σ.1 a 5) :: st) cells slots) : kG w p l e R s m args below meth c Q nL σ pc lv (.ref (kL w a) :: st) cells slots :=
  k_getI (k := 5) (ci := 0) (n := 8) (C := RX0) (T := TX0) K d hk rfl inX0 (by decide) (by decide) tw_85 kk
theorem fp_X0_27 (K : kC w p s m args meth c cc nL RX0) {a : Nat} {v : Int32} (d : decode cc pc = .ok (.putfield 27, 3)) (hk : kd a = (0, 0, 8)) (kk : kG w p l e R s m args below meth c Q nL (sI σ a 5 v) (pc + 3) lv st cells slots) : kG w p l e R s m args below meth c Q nL σ pc lv (.int v :: .ref (kL w a) :: st) cells slots :=
  k_putI (k := 5) (ci := 0) (n := 8) (C := RX0) (T := TX0) (ty := tyX0) K d hk rfl inX0 tyX0_ok nmX0 (by decide) (by decide) tw_85 rfl rfl rfl kk
theorem fg_X0_31 (K : kC w p s m args meth c cc nL RX0) {a : Nat} (d : decode cc pc = .ok (.getfield 31, 3)) (hk : kd a = (0, 0, 8)) (kk : kG w p l e R s m args below meth c Q nL σ (pc + 3) lv (.int (σ.1 a 6) :: st) cells slots) : kG w p l e R s m args below meth c Q nL σ pc lv (.ref (kL w a) :: st) cells slots :=
  k_getI (k := 6) (ci := 0) (n := 8) (C := RX0) (T := TX0) K d hk rfl inX0 (by decide) (by decide) tw_87 kk
theorem fp_X0_31 (K : kC w p s m args meth c cc nL RX0) {a : Nat} {v : Int32} (d : decode cc pc = .ok (.putfield 31, 3)) (hk : kd a = (0, 0, 8)) (kk : kG w p l e R s m args below meth c Q nL (sI σ a 6 v) (pc + 3) lv st cells slots) : kG w p l e R s m args below meth c Q nL σ pc lv (.int v :: .ref (kL w a) :: st) cells slots :=
  k_putI (k := 6) (ci := 0) (n := 8) (C := RX0) (T := TX0) (ty := tyX0) K d hk rfl inX0 tyX0_ok nmX0 (by decide) (by decide) tw_87 rfl rfl rfl kk
theorem fg_X0_34 (K : kC w p s m args meth c cc nL RX0) {a : Nat} (d : decode cc pc = .ok (.getfield 34, 3)) (hk : kd a = (0, 0, 8)) (kk : kG w p l e R s m args below meth c Q nL σ (pc + 3) lv (.int (σ.1 a 7) :: st) cells slots) : kG w p l e R s m args below meth c Q nL σ pc lv (.ref (kL w a) :: st) cells slots :=
  k_getI (k := 7) (ci := 0) (n := 8) (C := RX0) (T := TX0) K d hk rfl inX0 (by decide) (by decide) tw_89 kk
theorem fp_X0_34 (K : kC w p s m args meth c cc nL RX0) {a : Nat} {v : Int32} (d : decode cc pc = .ok (.putfield 34, 3)) (hk : kd a = (0, 0, 8)) (kk : kG w p l e R s m args below meth c Q nL (sI σ a 7 v) (pc + 3) lv st cells slots) : kG w p l e R s m args below meth c Q nL σ pc lv (.int v :: .ref (kL w a) :: st) cells slots :=
  k_putI (k := 7) (ci := 0) (n := 8) (C := RX0) (T := TX0) (ty := tyX0) K d hk rfl inX0 tyX0_ok nmX0 (by decide) (by decide) tw_89 rfl rfl rfl kk
theorem fg_X1_11 (K : kC w p s m args meth c cc nL RX1) (d : decode cc pc = .ok (.getfield 11, 3)) (kk : kG w p l e R s m args below meth c Q nL σ (pc + 3) lv (.ref (kL w (1)) :: st) cells slots) : kG w p l e R s m args below meth c Q nL σ pc lv (.ref (kL w 0) :: st) cells slots :=
  k_getR (k := 0) (ci := 1) (n := 12) (b := 1) (C := RX1) (T := TX1) K d kd_0 rfl inX1 (by decide) (by decide) rfl tw_109 kk
theorem fg_X1_16 (K : kC w p s m args meth c cc nL RX1) (d : decode cc pc = .ok (.getfield 16, 3)) (kk : kG w p l e R s m args below meth c Q nL σ (pc + 3) lv (.ref (kL w (122)) :: st) cells slots) : kG w p l e R s m args below meth c Q nL σ pc lv (.ref (kL w 0) :: st) cells slots :=
  k_getR (k := 1) (ci := 1) (n := 12) (b := 122) (C := RX1) (T := TX1) K d kd_0 rfl inX1 (by decide) (by decide) rfl tw_110 kk
theorem fg_X1_19 (K : kC w p s m args meth c cc nL RX1) (d : decode cc pc = .ok (.getfield 19, 3)) (kk : kG w p l e R s m args below meth c Q nL σ (pc + 3) lv (.ref (kL w (123)) :: st) cells slots) : kG w p l e R s m args below meth c Q nL σ pc lv (.ref (kL w 0) :: st) cells slots :=
  k_getR (k := 2) (ci := 1) (n := 12) (b := 123) (C := RX1) (T := TX1) K d kd_0 rfl inX1 (by decide) (by decide) rfl tw_111 kk
theorem fg_X1_23 (K : kC w p s m args meth c cc nL RX1) (d : decode cc pc = .ok (.getfield 23, 3)) (kk : kG w p l e R s m args below meth c Q nL σ (pc + 3) lv (.ref (kL w (124)) :: st) cells slots) : kG w p l e R s m args below meth c Q nL σ pc lv (.ref (kL w 0) :: st) cells slots :=
  k_getR (k := 3) (ci := 1) (n := 12) (b := 124) (C := RX1) (T := TX1) K d kd_0 rfl inX1 (by decide) (by decide) rfl tw_112 kk
theorem fg_X1_30 (K : kC w p s m args meth c cc nL RX1) (d : decode cc pc = .ok (.getfield 30, 3)) (kk : kG w p l e R s m args below meth c Q nL σ (pc + 3) lv (.int (σ.1 0 7) :: st) cells slots) : kG w p l e R s m args below meth c Q nL σ pc lv (.ref (kL w 0) :: st) cells slots :=
  k_getI (k := 7) (ci := 1) (n := 12) (C := RX1) (T := TX1) K d kd_0 rfl inX1 (by decide) (by decide) tw_116 kk
theorem fp_X1_30 (K : kC w p s m args meth c cc nL RX1) {v : Int32} (d : decode cc pc = .ok (.putfield 30, 3)) (kk : kG w p l e R s m args below meth c Q nL (sI σ 0 7 v) (pc + 3) lv st cells slots) : kG w p l e R s m args below meth c Q nL σ pc lv (.int v :: .ref (kL w 0) :: st) cells slots :=
  k_putI (k := 7) (ci := 1) (n := 12) (C := RX1) (T := TX1) (ty := tyX1) K d kd_0 rfl inX1 tyX1_ok nmX1 (by decide) (by decide) tw_116 rfl rfl rfl kk
theorem fg_X1_41 (K : kC w p s m args meth c cc nL RX1) (d : decode cc pc = .ok (.getfield 41, 3)) (kk : kG w p l e R s m args below meth c Q nL σ (pc + 3) lv (.int (σ.1 0 9) :: st) cells slots) : kG w p l e R s m args below meth c Q nL σ pc lv (.ref (kL w 0) :: st) cells slots :=
  k_getI (k := 9) (ci := 1) (n := 12) (C := RX1) (T := TX1) K d kd_0 rfl inX1 (by decide) (by decide) tw_118 kk
theorem fp_X1_41 (K : kC w p s m args meth c cc nL RX1) {v : Int32} (d : decode cc pc = .ok (.putfield 41, 3)) (kk : kG w p l e R s m args below meth c Q nL (sI σ 0 9 v) (pc + 3) lv st cells slots) : kG w p l e R s m args below meth c Q nL σ pc lv (.int v :: .ref (kL w 0) :: st) cells slots :=
  k_putI (k := 9) (ci := 1) (n := 12) (C := RX1) (T := TX1) (ty := tyX1) K d kd_0 rfl inX1 tyX1_ok nmX1 (by decide) (by decide) tw_118 rfl rfl rfl kk
theorem fg_X1_53 (K : kC w p s m args meth c cc nL RX1) (d : decode cc pc = .ok (.getfield 53, 3)) (kk : kG w p l e R s m args below meth c Q nL σ (pc + 3) lv (.int (σ.1 0 8) :: st) cells slots) : kG w p l e R s m args below meth c Q nL σ pc lv (.ref (kL w 0) :: st) cells slots :=
  k_getI (k := 8) (ci := 1) (n := 12) (C := RX1) (T := TX1) K d kd_0 rfl inX1 (by decide) (by decide) tw_117 kk
theorem fp_X1_53 (K : kC w p s m args meth c cc nL RX1) {v : Int32} (d : decode cc pc = .ok (.putfield 53, 3)) (hz : narrow .boolean (.int v) = .int v) (hft : fits .boolean (.int v) = true) (kk : kG w p l e R s m args below meth c Q nL (sI σ 0 8 v) (pc + 3) lv st cells slots) : kG w p l e R s m args below meth c Q nL σ pc lv (.int v :: .ref (kL w 0) :: st) cells slots :=
  k_putI (k := 8) (ci := 1) (n := 12) (C := RX1) (T := TX1) (ty := tyX1) K d kd_0 rfl inX1 tyX1_ok nmX1 (by decide) (by decide) tw_117 rfl hz hft kk
theorem fg_X1_68 (K : kC w p s m args meth c cc nL RX1) {a : Nat} (d : decode cc pc = .ok (.getfield 68, 3)) (hk : kd a = (0, 0, 8)) (kk : kG w p l e R s m args below meth c Q nL σ (pc + 3) lv (.ref (kL w (a + 1 + 0)) :: st) cells slots) : kG w p l e R s m args below meth c Q nL σ pc lv (.ref (kL w a) :: st) cells slots :=
  k_getR (k := 0) (ci := 0) (n := 8) (b := a + 1 + 0) (C := RX0) (T := TX0) K d hk rfl inX0 (by decide) (by decide) rfl tw_76 kk
theorem fg_X1_75 (K : kC w p s m args meth c cc nL RX1) {a : Nat} (d : decode cc pc = .ok (.getfield 75, 3)) (hk : kd a = (0, 0, 8)) (kk : kG w p l e R s m args below meth c Q nL σ (pc + 3) lv (.int (σ.1 a 6) :: st) cells slots) : kG w p l e R s m args below meth c Q nL σ pc lv (.ref (kL w a) :: st) cells slots :=
  k_getI (k := 6) (ci := 0) (n := 8) (C := RX0) (T := TX0) K d hk rfl inX0 (by decide) (by decide) tw_88 kk
theorem fp_X1_75 (K : kC w p s m args meth c cc nL RX1) {a : Nat} {v : Int32} (d : decode cc pc = .ok (.putfield 75, 3)) (hk : kd a = (0, 0, 8)) (kk : kG w p l e R s m args below meth c Q nL (sI σ a 6 v) (pc + 3) lv st cells slots) : kG w p l e R s m args below meth c Q nL σ pc lv (.int v :: .ref (kL w a) :: st) cells slots :=
  k_putI (k := 6) (ci := 0) (n := 8) (C := RX0) (T := TX0) (ty := tyX0) K d hk rfl inX0 tyX0_ok nmX0 (by decide) (by decide) tw_88 rfl rfl rfl kk
theorem fg_X1_89 (K : kC w p s m args meth c cc nL RX1) {a : Nat} (d : decode cc pc = .ok (.getfield 89, 3)) (hk : kd a = (0, 0, 8)) (kk : kG w p l e R s m args below meth c Q nL σ (pc + 3) lv (.int (σ.1 a 5) :: st) cells slots) : kG w p l e R s m args below meth c Q nL σ pc lv (.ref (kL w a) :: st) cells slots :=
  k_getI (k := 5) (ci := 0) (n := 8) (C := RX0) (T := TX0) K d hk rfl inX0 (by decide) (by decide) tw_86 kk
theorem fp_X1_89 (K : kC w p s m args meth c cc nL RX1) {a : Nat} {v : Int32} (d : decode cc pc = .ok (.putfield 89, 3)) (hk : kd a = (0, 0, 8)) (kk : kG w p l e R s m args below meth c Q nL (sI σ a 5 v) (pc + 3) lv st cells slots) : kG w p l e R s m args below meth c Q nL σ pc lv (.int v :: .ref (kL w a) :: st) cells slots :=
  k_putI (k := 5) (ci := 0) (n := 8) (C := RX0) (T := TX0) (ty := tyX0) K d hk rfl inX0 tyX0_ok nmX0 (by decide) (by decide) tw_86 rfl rfl rfl kk
theorem fg_X1_120 (K : kC w p s m args meth c cc nL RX1) {a : Nat} (d : decode cc pc = .ok (.getfield 120, 3)) (hk : kd a = (0, 0, 8)) (kk : kG w p l e R s m args below meth c Q nL σ (pc + 3) lv (.ref (kL w (a + 1 + 1)) :: st) cells slots) : kG w p l e R s m args below meth c Q nL σ pc lv (.ref (kL w a) :: st) cells slots :=
  k_getR (k := 1) (ci := 0) (n := 8) (b := a + 1 + 1) (C := RX0) (T := TX0) K d hk rfl inX0 (by decide) (by decide) rfl tw_78 kk
theorem fg_X1_143 (K : kC w p s m args meth c cc nL RX1) (d : decode cc pc = .ok (.getfield 143, 3)) (kk : kG w p l e R s m args below meth c Q nL σ (pc + 3) lv (.int (σ.1 0 4) :: st) cells slots) : kG w p l e R s m args below meth c Q nL σ pc lv (.ref (kL w 0) :: st) cells slots :=
  k_getI (k := 4) (ci := 1) (n := 12) (C := RX1) (T := TX1) K d kd_0 rfl inX1 (by decide) (by decide) tw_113 kk
theorem fp_X1_143 (K : kC w p s m args meth c cc nL RX1) {v : Int32} (d : decode cc pc = .ok (.putfield 143, 3)) (kk : kG w p l e R s m args below meth c Q nL (sI σ 0 4 v) (pc + 3) lv st cells slots) : kG w p l e R s m args below meth c Q nL σ pc lv (.int v :: .ref (kL w 0) :: st) cells slots :=
  k_putI (k := 4) (ci := 1) (n := 12) (C := RX1) (T := TX1) (ty := tyX1) K d kd_0 rfl inX1 tyX1_ok nmX1 (by decide) (by decide) tw_113 rfl rfl rfl kk
theorem fg_X1_159 (K : kC w p s m args meth c cc nL RX1) {a : Nat} (d : decode cc pc = .ok (.getfield 159, 3)) (hk : kd a = (0, 0, 8)) (kk : kG w p l e R s m args below meth c Q nL σ (pc + 3) lv (.ref (kL w (a + 1 + 2)) :: st) cells slots) : kG w p l e R s m args below meth c Q nL σ pc lv (.ref (kL w a) :: st) cells slots :=
  k_getR (k := 2) (ci := 0) (n := 8) (b := a + 1 + 2) (C := RX0) (T := TX0) K d hk rfl inX0 (by decide) (by decide) rfl tw_80 kk
theorem fg_X1_162 (K : kC w p s m args meth c cc nL RX1) {a : Nat} (d : decode cc pc = .ok (.getfield 162, 3)) (hk : kd a = (0, 0, 8)) (kk : kG w p l e R s m args below meth c Q nL σ (pc + 3) lv (.ref (kL w (a + 1 + 3)) :: st) cells slots) : kG w p l e R s m args below meth c Q nL σ pc lv (.ref (kL w a) :: st) cells slots :=
  k_getR (k := 3) (ci := 0) (n := 8) (b := a + 1 + 3) (C := RX0) (T := TX0) K d hk rfl inX0 (by decide) (by decide) rfl tw_82 kk
theorem fg_X1_165 (K : kC w p s m args meth c cc nL RX1) {a : Nat} (d : decode cc pc = .ok (.getfield 165, 3)) (hk : kd a = (0, 0, 8)) (kk : kG w p l e R s m args below meth c Q nL σ (pc + 3) lv (.ref (kL w (a + 1 + 4)) :: st) cells slots) : kG w p l e R s m args below meth c Q nL σ pc lv (.ref (kL w a) :: st) cells slots :=
  k_getR (k := 4) (ci := 0) (n := 8) (b := a + 1 + 4) (C := RX0) (T := TX0) K d hk rfl inX0 (by decide) (by decide) rfl tw_84 kk
theorem fg_X1_186 (K : kC w p s m args meth c cc nL RX1) (d : decode cc pc = .ok (.getfield 186, 3)) (kk : kG w p l e R s m args below meth c Q nL σ (pc + 3) lv (.int (σ.1 0 10) :: st) cells slots) : kG w p l e R s m args below meth c Q nL σ pc lv (.ref (kL w 0) :: st) cells slots :=
  k_getI (k := 10) (ci := 1) (n := 12) (C := RX1) (T := TX1) K d kd_0 rfl inX1 (by decide) (by decide) tw_119 kk
theorem fp_X1_186 (K : kC w p s m args meth c cc nL RX1) {v : Int32} (d : decode cc pc = .ok (.putfield 186, 3)) (kk : kG w p l e R s m args below meth c Q nL (sI σ 0 10 v) (pc + 3) lv st cells slots) : kG w p l e R s m args below meth c Q nL σ pc lv (.int v :: .ref (kL w 0) :: st) cells slots :=
  k_putI (k := 10) (ci := 1) (n := 12) (C := RX1) (T := TX1) (ty := tyX1) K d kd_0 rfl inX1 tyX1_ok nmX1 (by decide) (by decide) tw_119 rfl rfl rfl kk
theorem fg_X1_199 (K : kC w p s m args meth c cc nL RX1) (d : decode cc pc = .ok (.getfield 199, 3)) (kk : kG w p l e R s m args below meth c Q nL σ (pc + 3) lv (.int (σ.1 0 11) :: st) cells slots) : kG w p l e R s m args below meth c Q nL σ pc lv (.ref (kL w 0) :: st) cells slots :=
  k_getI (k := 11) (ci := 1) (n := 12) (C := RX1) (T := TX1) K d kd_0 rfl inX1 (by decide) (by decide) tw_120 kk
theorem fp_X1_199 (K : kC w p s m args meth c cc nL RX1) {v : Int32} (d : decode cc pc = .ok (.putfield 199, 3)) (kk : kG w p l e R s m args below meth c Q nL (sI σ 0 11 v) (pc + 3) lv st cells slots) : kG w p l e R s m args below meth c Q nL σ pc lv (.int v :: .ref (kL w 0) :: st) cells slots :=
  k_putI (k := 11) (ci := 1) (n := 12) (C := RX1) (T := TX1) (ty := tyX1) K d kd_0 rfl inX1 tyX1_ok nmX1 (by decide) (by decide) tw_120 rfl rfl rfl kk
theorem fg_X1_248 (K : kC w p s m args meth c cc nL RX1) {a : Nat} (d : decode cc pc = .ok (.getfield 248, 3)) (hk : kd a = (0, 0, 8)) (kk : kG w p l e R s m args below meth c Q nL σ (pc + 3) lv (.int (σ.1 a 7) :: st) cells slots) : kG w p l e R s m args below meth c Q nL σ pc lv (.ref (kL w a) :: st) cells slots :=
  k_getI (k := 7) (ci := 0) (n := 8) (C := RX0) (T := TX0) K d hk rfl inX0 (by decide) (by decide) tw_90 kk
theorem fp_X1_248 (K : kC w p s m args meth c cc nL RX1) {a : Nat} {v : Int32} (d : decode cc pc = .ok (.putfield 248, 3)) (hk : kd a = (0, 0, 8)) (kk : kG w p l e R s m args below meth c Q nL (sI σ a 7 v) (pc + 3) lv st cells slots) : kG w p l e R s m args below meth c Q nL σ pc lv (.int v :: .ref (kL w a) :: st) cells slots :=
  k_putI (k := 7) (ci := 0) (n := 8) (C := RX0) (T := TX0) (ty := tyX0) K d hk rfl inX0 tyX0_ok nmX0 (by decide) (by decide) tw_90 rfl rfl rfl kk
theorem fg_X2_7 (K : kC w p s m args meth c cc nL RX2) (d : decode cc pc = .ok (.getfield 7, 3)) (kk : kG w p l e R s m args below meth c Q nL σ (pc + 3) lv (.int (σ.1 126 1) :: st) cells slots) : kG w p l e R s m args below meth c Q nL σ pc lv (.ref (kL w 126) :: st) cells slots :=
  k_getI (k := 1) (ci := 2) (n := 17) (C := RX2) (T := TX2) K d kd_126 rfl inX2 (by decide) (by decide) tw_546 kk
theorem fp_X2_7 (K : kC w p s m args meth c cc nL RX2) {v : Int32} (d : decode cc pc = .ok (.putfield 7, 3)) (kk : kG w p l e R s m args below meth c Q nL (sI σ 126 1 v) (pc + 3) lv st cells slots) : kG w p l e R s m args below meth c Q nL σ pc lv (.int v :: .ref (kL w 126) :: st) cells slots :=
  k_putI (k := 1) (ci := 2) (n := 17) (C := RX2) (T := TX2) (ty := tyX2) K d kd_126 rfl inX2 tyX2_ok nmX2 (by decide) (by decide) tw_546 rfl rfl rfl kk
theorem fg_X2_13 (K : kC w p s m args meth c cc nL RX2) (d : decode cc pc = .ok (.getfield 13, 3)) (kk : kG w p l e R s m args below meth c Q nL σ (pc + 3) lv (.ref (kL w (127)) :: st) cells slots) : kG w p l e R s m args below meth c Q nL σ pc lv (.ref (kL w 126) :: st) cells slots :=
  k_getR (k := 3) (ci := 2) (n := 17) (b := 127) (C := RX2) (T := TX2) K d kd_126 rfl inX2 (by decide) (by decide) rfl tw_548 kk
theorem fg_X2_17 (K : kC w p s m args meth c cc nL RX2) (d : decode cc pc = .ok (.getfield 17, 3)) (kk : kG w p l e R s m args below meth c Q nL σ (pc + 3) lv (.ref (kL w (128)) :: st) cells slots) : kG w p l e R s m args below meth c Q nL σ pc lv (.ref (kL w 126) :: st) cells slots :=
  k_getR (k := 4) (ci := 2) (n := 17) (b := 128) (C := RX2) (T := TX2) K d kd_126 rfl inX2 (by decide) (by decide) rfl tw_549 kk
theorem fg_X2_20 (K : kC w p s m args meth c cc nL RX2) (d : decode cc pc = .ok (.getfield 20, 3)) (kk : kG w p l e R s m args below meth c Q nL σ (pc + 3) lv (.ref (kL w (129)) :: st) cells slots) : kG w p l e R s m args below meth c Q nL σ pc lv (.ref (kL w 126) :: st) cells slots :=
  k_getR (k := 5) (ci := 2) (n := 17) (b := 129) (C := RX2) (T := TX2) K d kd_126 rfl inX2 (by decide) (by decide) rfl tw_550 kk
theorem fg_X2_23 (K : kC w p s m args meth c cc nL RX2) (d : decode cc pc = .ok (.getfield 23, 3)) (kk : kG w p l e R s m args below meth c Q nL σ (pc + 3) lv (.ref (kL w (130)) :: st) cells slots) : kG w p l e R s m args below meth c Q nL σ pc lv (.ref (kL w 126) :: st) cells slots :=
  k_getR (k := 6) (ci := 2) (n := 17) (b := 130) (C := RX2) (T := TX2) K d kd_126 rfl inX2 (by decide) (by decide) rfl tw_551 kk
theorem fg_X2_26 (K : kC w p s m args meth c cc nL RX2) (d : decode cc pc = .ok (.getfield 26, 3)) (kk : kG w p l e R s m args below meth c Q nL σ (pc + 3) lv (.ref (kL w (131)) :: st) cells slots) : kG w p l e R s m args below meth c Q nL σ pc lv (.ref (kL w 126) :: st) cells slots :=
  k_getR (k := 7) (ci := 2) (n := 17) (b := 131) (C := RX2) (T := TX2) K d kd_126 rfl inX2 (by decide) (by decide) rfl tw_552 kk
theorem fg_X2_29 (K : kC w p s m args meth c cc nL RX2) (d : decode cc pc = .ok (.getfield 29, 3)) (kk : kG w p l e R s m args below meth c Q nL σ (pc + 3) lv (.ref (kL w (132)) :: st) cells slots) : kG w p l e R s m args below meth c Q nL σ pc lv (.ref (kL w 126) :: st) cells slots :=
  k_getR (k := 8) (ci := 2) (n := 17) (b := 132) (C := RX2) (T := TX2) K d kd_126 rfl inX2 (by decide) (by decide) rfl tw_553 kk
theorem fg_X2_32 (K : kC w p s m args meth c cc nL RX2) (d : decode cc pc = .ok (.getfield 32, 3)) (kk : kG w p l e R s m args below meth c Q nL σ (pc + 3) lv (.ref (kL w (133)) :: st) cells slots) : kG w p l e R s m args below meth c Q nL σ pc lv (.ref (kL w 126) :: st) cells slots :=
  k_getR (k := 9) (ci := 2) (n := 17) (b := 133) (C := RX2) (T := TX2) K d kd_126 rfl inX2 (by decide) (by decide) rfl tw_554 kk
theorem fg_X2_35 (K : kC w p s m args meth c cc nL RX2) (d : decode cc pc = .ok (.getfield 35, 3)) (kk : kG w p l e R s m args below meth c Q nL σ (pc + 3) lv (.ref (kL w (134)) :: st) cells slots) : kG w p l e R s m args below meth c Q nL σ pc lv (.ref (kL w 126) :: st) cells slots :=
  k_getR (k := 10) (ci := 2) (n := 17) (b := 134) (C := RX2) (T := TX2) K d kd_126 rfl inX2 (by decide) (by decide) rfl tw_555 kk
theorem fg_X2_38 (K : kC w p s m args meth c cc nL RX2) (d : decode cc pc = .ok (.getfield 38, 3)) (kk : kG w p l e R s m args below meth c Q nL σ (pc + 3) lv (.ref (kL w (135)) :: st) cells slots) : kG w p l e R s m args below meth c Q nL σ pc lv (.ref (kL w 126) :: st) cells slots :=
  k_getR (k := 11) (ci := 2) (n := 17) (b := 135) (C := RX2) (T := TX2) K d kd_126 rfl inX2 (by decide) (by decide) rfl tw_556 kk
theorem fg_X2_41 (K : kC w p s m args meth c cc nL RX2) (d : decode cc pc = .ok (.getfield 41, 3)) (kk : kG w p l e R s m args below meth c Q nL σ (pc + 3) lv (.ref (kL w (136)) :: st) cells slots) : kG w p l e R s m args below meth c Q nL σ pc lv (.ref (kL w 126) :: st) cells slots :=
  k_getR (k := 15) (ci := 2) (n := 17) (b := 136) (C := RX2) (T := TX2) K d kd_126 rfl inX2 (by decide) (by decide) rfl tw_560 kk
theorem fg_X2_44 (K : kC w p s m args meth c cc nL RX2) (d : decode cc pc = .ok (.getfield 44, 3)) (kk : kG w p l e R s m args below meth c Q nL σ (pc + 3) lv (.ref (kL w (137)) :: st) cells slots) : kG w p l e R s m args below meth c Q nL σ pc lv (.ref (kL w 126) :: st) cells slots :=
  k_getR (k := 16) (ci := 2) (n := 17) (b := 137) (C := RX2) (T := TX2) K d kd_126 rfl inX2 (by decide) (by decide) rfl tw_561 kk
theorem fg_X2_47 (K : kC w p s m args meth c cc nL RX2) (d : decode cc pc = .ok (.getfield 47, 3)) (kk : kG w p l e R s m args below meth c Q nL σ (pc + 3) lv (.int (σ.1 126 0) :: st) cells slots) : kG w p l e R s m args below meth c Q nL σ pc lv (.ref (kL w 126) :: st) cells slots :=
  k_getI (k := 0) (ci := 2) (n := 17) (C := RX2) (T := TX2) K d kd_126 rfl inX2 (by decide) (by decide) tw_545 kk
theorem fp_X2_47 (K : kC w p s m args meth c cc nL RX2) {v : Int32} (d : decode cc pc = .ok (.putfield 47, 3)) (kk : kG w p l e R s m args below meth c Q nL (sI σ 126 0 v) (pc + 3) lv st cells slots) : kG w p l e R s m args below meth c Q nL σ pc lv (.int v :: .ref (kL w 126) :: st) cells slots :=
  k_putI (k := 0) (ci := 2) (n := 17) (C := RX2) (T := TX2) (ty := tyX2) K d kd_126 rfl inX2 tyX2_ok nmX2 (by decide) (by decide) tw_545 rfl rfl rfl kk
theorem fg_X2_54 (K : kC w p s m args meth c cc nL RX2) (d : decode cc pc = .ok (.getfield 54, 3)) (kk : kG w p l e R s m args below meth c Q nL σ (pc + 3) lv (.int (σ.1 126 2) :: st) cells slots) : kG w p l e R s m args below meth c Q nL σ pc lv (.ref (kL w 126) :: st) cells slots :=
  k_getI (k := 2) (ci := 2) (n := 17) (C := RX2) (T := TX2) K d kd_126 rfl inX2 (by decide) (by decide) tw_547 kk
theorem fp_X2_54 (K : kC w p s m args meth c cc nL RX2) {v : Int32} (d : decode cc pc = .ok (.putfield 54, 3)) (hz : narrow .boolean (.int v) = .int v) (hft : fits .boolean (.int v) = true) (kk : kG w p l e R s m args below meth c Q nL (sI σ 126 2 v) (pc + 3) lv st cells slots) : kG w p l e R s m args below meth c Q nL σ pc lv (.int v :: .ref (kL w 126) :: st) cells slots :=
  k_putI (k := 2) (ci := 2) (n := 17) (C := RX2) (T := TX2) (ty := tyX2) K d kd_126 rfl inX2 tyX2_ok nmX2 (by decide) (by decide) tw_547 rfl hz hft kk
theorem fg_X2_88 (K : kC w p s m args meth c cc nL RX2) (d : decode cc pc = .ok (.getfield 88, 3)) (kk : kG w p l e R s m args below meth c Q nL σ (pc + 3) lv (.int (σ.1 126 12) :: st) cells slots) : kG w p l e R s m args below meth c Q nL σ pc lv (.ref (kL w 126) :: st) cells slots :=
  k_getI (k := 12) (ci := 2) (n := 17) (C := RX2) (T := TX2) K d kd_126 rfl inX2 (by decide) (by decide) tw_557 kk
theorem fp_X2_88 (K : kC w p s m args meth c cc nL RX2) {v : Int32} (d : decode cc pc = .ok (.putfield 88, 3)) (kk : kG w p l e R s m args below meth c Q nL (sI σ 126 12 v) (pc + 3) lv st cells slots) : kG w p l e R s m args below meth c Q nL σ pc lv (.int v :: .ref (kL w 126) :: st) cells slots :=
  k_putI (k := 12) (ci := 2) (n := 17) (C := RX2) (T := TX2) (ty := tyX2) K d kd_126 rfl inX2 tyX2_ok nmX2 (by decide) (by decide) tw_557 rfl rfl rfl kk
theorem fg_X2_98 (K : kC w p s m args meth c cc nL RX2) (d : decode cc pc = .ok (.getfield 98, 3)) (kk : kG w p l e R s m args below meth c Q nL σ (pc + 3) lv (.int (σ.1 126 14) :: st) cells slots) : kG w p l e R s m args below meth c Q nL σ pc lv (.ref (kL w 126) :: st) cells slots :=
  k_getI (k := 14) (ci := 2) (n := 17) (C := RX2) (T := TX2) K d kd_126 rfl inX2 (by decide) (by decide) tw_559 kk
theorem fp_X2_98 (K : kC w p s m args meth c cc nL RX2) {v : Int32} (d : decode cc pc = .ok (.putfield 98, 3)) (kk : kG w p l e R s m args below meth c Q nL (sI σ 126 14 v) (pc + 3) lv st cells slots) : kG w p l e R s m args below meth c Q nL σ pc lv (.int v :: .ref (kL w 126) :: st) cells slots :=
  k_putI (k := 14) (ci := 2) (n := 17) (C := RX2) (T := TX2) (ty := tyX2) K d kd_126 rfl inX2 tyX2_ok nmX2 (by decide) (by decide) tw_559 rfl rfl rfl kk
theorem fg_X2_142 (K : kC w p s m args meth c cc nL RX2) (d : decode cc pc = .ok (.getfield 142, 3)) (kk : kG w p l e R s m args below meth c Q nL σ (pc + 3) lv (.int (σ.1 126 13) :: st) cells slots) : kG w p l e R s m args below meth c Q nL σ pc lv (.ref (kL w 126) :: st) cells slots :=
  k_getI (k := 13) (ci := 2) (n := 17) (C := RX2) (T := TX2) K d kd_126 rfl inX2 (by decide) (by decide) tw_558 kk
theorem fp_X2_142 (K : kC w p s m args meth c cc nL RX2) {v : Int32} (d : decode cc pc = .ok (.putfield 142, 3)) (kk : kG w p l e R s m args below meth c Q nL (sI σ 126 13 v) (pc + 3) lv st cells slots) : kG w p l e R s m args below meth c Q nL σ pc lv (.int v :: .ref (kL w 126) :: st) cells slots :=
  k_putI (k := 13) (ci := 2) (n := 17) (C := RX2) (T := TX2) (ty := tyX2) K d kd_126 rfl inX2 tyX2_ok nmX2 (by decide) (by decide) tw_558 rfl rfl rfl kk
end KF
end
section
/-! ===== what the printed functions need beside ===== -/
abbrev vpi (i : Int32) (n : Nat) : Prop := ¬ (i < 0 ∨ n ≤ i.toNatClampNeg)
def okq (x : Option Nat) : Bool := match x with
  | none => true
  | some a => decide (a < kN)
theorem okq_s {x : Option Nat} (h : okq x = true) : ∀ a, x = some a → a < kN := by
  intro a e
  subst e
  simpa [okq] using h
theorem k_nz {v : Int32} (h : vp_nar .boolean v = v) : narrow .boolean (.int v) = .int v := by
  have e : narrow .boolean (.int v) = .int (vp_nar .boolean v) := rfl
  rw [e, h]
def ksm {α β γ : Type} (x : α ⊕ β) (A : α → γ) (B : β → γ) : γ := match x with
  | .inl a => A a
  | .inr b => B b
theorem k_sm {α β γ : Type} {x : α ⊕ β} {A : α → Option γ} {B : β → Option γ} {r : γ} (h : ksm x A B = some r) : (∃ a, x = .inl a ∧ A a = some r) ∨ ∃ b, x = .inr b ∧ B b = some r := by
  cases x with
  | inl a => exact Or.inl ⟨a, rfl, h⟩
  | inr b => exact Or.inr ⟨b, rfl, h⟩
theorem k_out3 {x : Int32} (h0 : ¬ x = 0) (h1 : ¬ x = 1) (h2 : ¬ x = 2) : x.toInt < 0 ∨ 2 < x.toInt := by
  have e0 : x.toInt ≠ 0 := fun q => h0 (Int32.toInt_inj.mp q)
  have e1 : x.toInt ≠ 1 := fun q => h1 (Int32.toInt_inj.mp q)
  have e2 : x.toInt ≠ 2 := fun q => h2 (Int32.toInt_inj.mp q)
  omega
theorem k_out8 {x : Int32} (h0 : ¬ x = 0) (h1 : ¬ x = 1) (h2 : ¬ x = 2) (h3 : ¬ x = 3) (h4 : ¬ x = 4) (h5 : ¬ x = 5) (h6 : ¬ x = 6) (h7 : ¬ x = 7) : x.toInt < 0 ∨ 7 < x.toInt := by
  have e0 : x.toInt ≠ 0 := fun q => h0 (Int32.toInt_inj.mp q)
  have e1 : x.toInt ≠ 1 := fun q => h1 (Int32.toInt_inj.mp q)
  have e2 : x.toInt ≠ 2 := fun q => h2 (Int32.toInt_inj.mp q)
  have e3 : x.toInt ≠ 3 := fun q => h3 (Int32.toInt_inj.mp q)
  have e4 : x.toInt ≠ 4 := fun q => h4 (Int32.toInt_inj.mp q)
  have e5 : x.toInt ≠ 5 := fun q => h5 (Int32.toInt_inj.mp q)
  have e6 : x.toInt ≠ 6 := fun q => h6 (Int32.toInt_inj.mp q)
  have e7 : x.toInt ≠ 7 := fun q => h7 (Int32.toInt_inj.mp q)
  omega
section KM
variable {w : kW} {p : Program} {l : Launch} {e : Env} {R : Room} {s : State} {m : MethodId} {args : Array Value} {below : List Frame} {meth : Method} {c : Code} {Q : State → Prop}
variable {cc : ByteArray} {nL : Nat} {own : String} {σ : kS} {pc : Nat} {lv : List (Nat × Value)} {st : List Value} {cells slots : Nat}
theorem k_tableOut (K : kC w p s m args meth c cc nL own) {dflt lo hi : Int} {offs : Array Int} {len : Nat} {x : Int32} (tgt : Nat) (d : decode cc pc = .ok (.tableswitch dflt lo hi offs, len)) (ht : (pc : Int) + dflt = (tgt : Int)) (h : x.toInt < lo ∨ hi < x.toInt) (k : kG w p l e R s m args below meth c Q nL σ tgt lv st cells slots) : kG w p l e R s m args below meth c Q nL σ pc lv (.int x :: st) cells slots :=
  fun H locs ls hH hS hl => lv_tableOut K.1 K.2.1 d h ht (k H locs ls hH hS hl)
theorem k_tableIn (K : kC w p s m args meth c cc nL own) {dflt lo hi : Int} {offs : Array Int} {len : Nat} {x : Int32} {off : Int} (tgt : Nat) (d : decode cc pc = .ok (.tableswitch dflt lo hi offs, len)) (h1 : ¬ x.toInt < lo) (h2 : ¬ hi < x.toInt) (ho : offs[(x.toInt - lo).toNat]? = some off) (ht : (pc : Int) + off = (tgt : Int)) (k : kG w p l e R s m args below meth c Q nL σ tgt lv st cells slots) : kG w p l e R s m args below meth c Q nL σ pc lv (.int x :: st) cells slots :=
  fun H locs ls hH hS hl => lv_tableIn K.1 K.2.1 d h1 h2 ho ht (k H locs ls hH hS hl)
end KM
/-! Arrays.fill -/
def fJ7_fill_53178 (σ : kS) (a : Nat) (v : Int32) : Option kS := if (kd a).1 = 1 ∧ (kd a).2.2 < 2 ^ 31 then some (fun c j => if c = a ∧ j < (kd a).2.2 then v else σ.1 c j, σ.2) else none
def rmJ7_fill_53178 : Room := { frames := 0, cells := 0, slots := 0, locals := 0 }
/-- i places are filled -/
def kfl (σ : kS) (a : Nat) (v : Int32) (i : Nat) : kS := (fun c j => if c = a ∧ j < i then v else σ.1 c j, σ.2)
theorem kfl_0 (σ : kS) (a : Nat) (v : Int32) : kfl σ a v 0 = σ := by
  simp only [kfl, Nat.not_lt_zero, and_false, if_false]
theorem kfl_s (σ : kS) (a : Nat) (v : Int32) (i : Nat) : sI (kfl σ a v i) a i v = kfl σ a v (i + 1) := by
  simp only [kfl, sI]
  congr 1
  funext c j
  by_cases h : c = a
  · subst h
    rcases Nat.lt_trichotomy j i with g | g | g
    · rw [if_neg (by omega), if_pos ⟨rfl, g⟩, if_pos ⟨rfl, by omega⟩]
    · subst g
      rw [if_pos ⟨rfl, rfl⟩, if_pos ⟨rfl, by omega⟩]
    · rw [if_neg (by omega), if_neg (by omega), if_neg (by omega)]
  · rw [if_neg (fun q => h q.1), if_neg (fun q => h q.1), if_neg (fun q => h q.1)]
section KFill
variable {w : kW} {p : Program} {l : Launch} {e : Env} {s : State} {m : MethodId} {args : Array Value} {below : List Frame} {meth : Method} {c : Code}
theorem lJ7_fill (K : kC w p s m args meth c cJ7_fill_53178 4 RJ7) (hret : meth.sig.returnType = none) {σ : kS} {a n x : Nat} {v : Int32} (hd : kd a = (1, x, n)) (hn : n < 2 ^ 31) : ∀ (k i : Nat), i + k = n → kG w p l e rmJ7_fill_53178 s m args below meth c (MQ below (kQv w (kfl σ a v n)) args s 0 0 (kA w)) 4 (kfl σ a v i) 5 [(3, .int (nI n)), (2, .int (nI i)), (0, .ref (kL w a)), (1, .int v)] [] 0 0 := by
  intro k
  induction k with
  | zero =>
    intro i hi
    have hi : i = n := by omega
    subst hi
    refine k_iload_n K dJ7_fill_53178_5 1 rfl ?_
    refine k_iload_n K dJ7_fill_53178_6 0 rfl ?_
    refine k_icmp_ge K 20 dJ7_fill_53178_7 (by decide) (fun _ => ?_) (fun q => absurd (nI_le (Nat.le_refl _) hn) q)
    exact k_vret K hret dJ7_fill_53178_20 (by decide) (by decide)
  | succ k ih =>
    intro i hi
    have hin : i < n := by omega
    refine k_iload_n K dJ7_fill_53178_5 1 rfl ?_
    refine k_iload_n K dJ7_fill_53178_6 0 rfl ?_
    refine k_icmp_ge K 20 dJ7_fill_53178_7 (by decide) (fun q => absurd q (nI_ge hin hn)) (fun _ => ?_)
    refine k_aload_n K dJ7_fill_53178_10 2 rfl ?_
    refine k_iload_n K dJ7_fill_53178_11 1 rfl ?_
    refine k_iload_n K dJ7_fill_53178_12 3 rfl ?_
    refine k_iast K dJ7_fill_53178_13 hd (vp_in_nI hin hn) ?_
    rw [nI_clamp (by omega), kfl_s]
    refine k_iinc (v := 1) (lv' := [(2, .int (nI i + 1)), (3, .int (nI n)), (0, .ref (kL w a)), (1, .int v)]) K dJ7_fill_53178_14 1 rfl (by decide) (by decide) rfl ?_
    refine k_goto K 5 dJ7_fill_53178_17 (by decide) ?_
    refine k_sub [1, 0, 2, 3] rfl ?_
    rw [nI_1]
    exact ih (i + 1) (by omega)
end KFill
theorem mJ7_fill_53178 (l : Launch) (w : kW) (σ : kS) (a : Nat) (v : Int32) {o : kS} (h : fJ7_fill_53178 σ a v = some o) : Met l yJ7_fill_53178 (Cond.code yJ7_fill_53178 cJ7_fill_53178 4 none :: TB) rmJ7_fill_53178 (va_Pc [.ref (kL w a), .int v] (kP w σ)) (kQv w o) 0 0 (kA w) := by
  unfold fJ7_fill_53178 at h
  obtain ⟨⟨h1, h2⟩, h⟩ := k_gd h
  cases h
  obtain ⟨t, x, n, hk⟩ : ∃ t x n, kd a = (t, x, n) := ⟨_, _, _, rfl⟩
  rw [hk] at h1 h2 ⊢
  have h1 : t = 1 := h1
  subst h1
  have h2 : n < 2 ^ 31 := h2
  refine k_met (by decide) [.ref (kL w a), .int v] (Nat.le_of_ble_eq_true rfl) (by simp [lv_args, Value.category]) ?_
  intro p e s m args below meth c K hret
  refine k_iconst (v := 0) K dJ7_fill_53178_0 (by decide) ?_
  refine k_istore_n (lv' := [(2, .int 0), (0, .ref (kL w a)), (1, .int v)]) K dJ7_fill_53178_1 (by decide) rfl ?_
  refine k_aload_n K dJ7_fill_53178_2 1 rfl ?_
  refine k_alen (v := nI n) K dJ7_fill_53178_3 hk rfl ?_
  refine k_istore_n (lv' := [(3, .int (nI n)), (2, .int 0), (0, .ref (kL w a)), (1, .int v)]) K dJ7_fill_53178_4 (by decide) rfl ?_
  have := lJ7_fill (l := l) (e := e) (below := below) (σ := σ) (v := v) K hret hk h2 n 0 (by omega)
  rw [kfl_0, nI_0] at this
  exact this
/-! System.arraycopy of whole numbers, from the first place on -/
def sC (σ : kS) (a b N : Nat) : kS := (fun c j => if c = b ∧ j < N then σ.1 a j else σ.1 c j, σ.2)
section C_fill
variable {w : kW} {p : Program} {l : Launch} {e : Env} {R : Room} {s : State} {m : MethodId} {args : Array Value} {below : List Frame} {meth : Method} {c : Code} {Q : State → Prop} {cc : ByteArray} {nL : Nat} {σ : kS} {pc : Nat} {lv : List (Nat × Value)} {st rest : List Value} {cells slots : Nat}
theorem cl_X0_37 (K : kC w p s m args meth c cc nL RX0) {a1 : Nat} {a2 : Int32} {r : kS} (d : decode cc pc = .ok (.invokestatic 37, 3)) (h : fJ7_fill_53178 σ a1 a2 = some r) (hR : rmJ7_fill_53178.frames + 1 ≤ R.frames ∧ 8 + (4 + 11) + rmJ7_fill_53178.locals ≤ R.locals) (hr : (rest.map fun v => v.category).sum ≤ 8) (hf : cells + 0 ≤ R.cells ∧ slots + 0 ≤ R.slots) (kk : kG w p l e R s m args below meth c Q nL r (pc + 3) lv (rest) (cells + 0) (slots + 0)) : kG w p l e R s m args below meth c Q nL σ pc lv (.int a2 :: .ref (kL w a1) :: rest) cells slots :=
  k_callSv (As := [.ref (kL w a1), .int a2]) (rest := rest) (n := 2) K d (kg_S tw_284 tw_285 tw_56 tw_286) (by decide +kernel) rfl hR hr rfl hf (mJ7_fill_53178 l w σ a1 a2 h) ⟨rfl, rfl⟩ kk
end C_fill
end
section
section F_X1_isPoint
variable {w : kW} {p : Program} {l : Launch} {e : Env} {s : State} {m : MethodId} {args : Array Value} {below : List Frame} {meth : Method} {c : Code}
def fX1_isPoint (x0 : Int32) : Option Int32 :=
  if x0 < 0 then
    some (0)
  else
    if 256 ≤ x0 then
      some (0)
    else
      some (1)
def rmX1_isPoint : Room := { frames := 0, cells := 0, slots := 0, locals := 0 }
set_option maxRecDepth 20000 in
theorem mX1_isPoint (l : Launch) (w : kW) (σ0 : kS) (x0 : Int32) {o : Int32} (h : fX1_isPoint x0 = some o) : Met l yX1_isPoint (Cond.code yX1_isPoint cX1_isPoint 1 (some .boolean) :: TB) rmX1_isPoint (va_Pc [.int x0] (kP w σ0)) (kQi w o σ0) 0 0 (kA w) := by
  refine k_met (by decide +kernel) [.int x0] (Nat.le_of_ble_eq_true rfl) (by simp [lv_args, Value.category]) ?_
  intro p e s m args below meth c K hret
  have K : kC w p s m args meth c cX1_isPoint 1 RX1 := K
  obtain ⟨r, hro⟩ : ∃ r, r = o := ⟨o, rfl⟩
  rw [← hro] at h
  have hO : ∀ z, r = z → z = o := fun z e => by rw [← e]; exact hro
  unfold fX1_isPoint at h
  refine k_iload_n K dX1_isPoint_0 0 rfl ?_
  replace h := k_br h
  rcases h with ⟨b1, h⟩ | ⟨b1, h⟩
  · refine k_if_lt K 15 dX1_isPoint_1 (by decide) (fun _ => ?_) (fun q => absurd b1 q)
    refine k_iconst (v := 0) K dX1_isPoint_15 (by decide) ?_
    cases h
    obtain rfl := hO _ rfl
    exact k_zret (v := 0) K hret (by decide) dX1_isPoint_16 (by decide) (by decide)
  · refine k_if_lt K 15 dX1_isPoint_1 (by decide) (fun q => absurd q b1) (fun _ => ?_)
    refine k_iload_n K dX1_isPoint_4 0 rfl ?_
    refine k_sipush (v := 256) K dX1_isPoint_5 (by decide) ?_
    replace h := k_br h
    rcases h with ⟨b2, h⟩ | ⟨b2, h⟩
    · refine k_icmp_ge K 15 dX1_isPoint_8 (by decide) (fun _ => ?_) (fun q => absurd b2 q)
      refine k_iconst (v := 0) K dX1_isPoint_15 (by decide) ?_
      cases h
      obtain rfl := hO _ rfl
      exact k_zret (v := 0) K hret (by decide) dX1_isPoint_16 (by decide) (by decide)
    · refine k_icmp_ge K 15 dX1_isPoint_8 (by decide) (fun q => absurd q b2) (fun _ => ?_)
      refine k_iconst (v := 1) K dX1_isPoint_11 (by decide) ?_
      refine k_goto K 16 dX1_isPoint_12 (by decide) ?_
      cases h
      obtain rfl := hO _ rfl
      exact k_zret (v := 1) K hret (by decide) dX1_isPoint_16 (by decide) (by decide)
end F_X1_isPoint
section C_X1_isPoint
variable {w : kW} {p : Program} {l : Launch} {e : Env} {R : Room} {s : State} {m : MethodId} {args : Array Value} {below : List Frame} {meth : Method} {c : Code} {Q : State → Prop} {cc : ByteArray} {nL : Nat} {σ : kS} {pc : Nat} {lv : List (Nat × Value)} {st rest : List Value} {cells slots : Nat}
theorem cl_X1_211 (K : kC w p s m args meth c cc nL RX1) {a1 : Int32} {r : Int32} (d : decode cc pc = .ok (.invokestatic 211, 3)) (h : fX1_isPoint a1 = some r) (hR : rmX1_isPoint.frames + 1 ≤ R.frames ∧ 8 + (1 + 11) + rmX1_isPoint.locals ≤ R.locals) (hr : (rest.map fun v => v.category).sum ≤ 8) (hf : cells + 0 ≤ R.cells ∧ slots + 0 ≤ R.slots) (kk : kG w p l e R s m args below meth c Q nL σ (pc + 3) lv (.int r :: rest) (cells + 0) (slots + 0)) : kG w p l e R s m args below meth c Q nL σ pc lv (.int a1 :: rest) cells slots :=
  k_callSi (As := [.int a1]) (rest := rest) (n := 1) K d (kg_S tw_265 tw_266 tw_48 tw_267) (by decide +kernel) rfl hR hr rfl hf (mX1_isPoint l w σ a1 h) ⟨rfl, rfl⟩ kk
end C_X1_isPoint
section F_X1_liveAt
variable {w : kW} {p : Program} {l : Launch} {e : Env} {s : State} {m : MethodId} {args : Array Value} {below : List Frame} {meth : Method} {c : Code}
def fX1_liveAt (σ : kS) (x1 : Int32) : Option (Option Nat) :=
  (fX1_isPoint x1).bind fun r1 =>
  if r1 = 0 then
    some (none)
  else
    if vpi x1 256 then
      some (σ.2.1 122 x1.toNatClampNeg)
    else none
def rmX1_liveAt : Room := { frames := 1, cells := 0, slots := 0, locals := 20 }
set_option maxRecDepth 20000 in
theorem mX1_liveAt (l : Launch) (w : kW) (σ : kS) (x1 : Int32) {o : (Option Nat)} (h : fX1_liveAt σ x1 = some o) : Met l yX1_liveAt (Cond.code yX1_liveAt cX1_liveAt 2 (some (.object "KeyRing$Member")) :: TB) rmX1_liveAt (va_Pc [.ref (kL w 0), .int x1] (kP w σ)) (kQq w o σ) 0 0 (kA w) := by
  refine k_met (by decide +kernel) [.ref (kL w 0), .int x1] (Nat.le_of_ble_eq_true rfl) (by simp [lv_args, Value.category]) ?_
  intro p e s m args below meth c K hret
  have K : kC w p s m args meth c cX1_liveAt 2 RX1 := K
  obtain ⟨r, hro⟩ : ∃ r, r = o := ⟨o, rfl⟩
  rw [← hro] at h
  have hO : ∀ z, r = z → z = o := fun z e => by rw [← e]; exact hro
  unfold fX1_liveAt at h
  refine k_iload_n K dX1_liveAt_0 1 rfl ?_
  replace h := k_bd h
  obtain ⟨r1, hr1, h⟩ := h
  refine cl_X1_211 K dX1_liveAt_1 hr1 (by decide) (Nat.le_of_ble_eq_true rfl) (by decide) ?_
  replace h := k_br h
  rcases h with ⟨b2, h⟩ | ⟨b2, h⟩
  · refine k_if_eq K 16 dX1_liveAt_4 (by decide) (fun _ => ?_) (fun q => absurd b2 q)
    refine k_null K dX1_liveAt_16 ?_
    cases h
    obtain rfl := hO _ rfl
    exact k_aret (v := none) K hret dX1_liveAt_17 (by decide) (by decide)
  · refine k_if_eq K 16 dX1_liveAt_4 (by decide) (fun q => absurd q b2) (fun _ => ?_)
    refine k_aload_n K dX1_liveAt_7 0 rfl ?_
    refine fg_X1_16 K dX1_liveAt_8 ?_
    refine k_iload_n K dX1_liveAt_11 1 rfl ?_
    replace h := k_gd h
    obtain ⟨g3, h⟩ := h
    refine k_aald K dX1_liveAt_12 kd_122 g3 ?_
    refine k_goto K 17 dX1_liveAt_13 (by decide) ?_
    cases h
    obtain rfl := hO _ rfl
    exact k_aret (v := σ.2.1 122 x1.toNatClampNeg) K hret dX1_liveAt_17 (by decide) (by decide)
end F_X1_liveAt
section C_X1_liveAt
variable {w : kW} {p : Program} {l : Launch} {e : Env} {R : Room} {s : State} {m : MethodId} {args : Array Value} {below : List Frame} {meth : Method} {c : Code} {Q : State → Prop} {cc : ByteArray} {nL : Nat} {σ : kS} {pc : Nat} {lv : List (Nat × Value)} {st rest : List Value} {cells slots : Nat}
theorem cl_X1_204 (K : kC w p s m args meth c cc nL RX1) {a1 : Int32} {r : (Option Nat)} (d : decode cc pc = .ok (.invokevirtual 204, 3)) (h : fX1_liveAt σ a1 = some r) (hR : rmX1_liveAt.frames + 1 ≤ R.frames ∧ 8 + (2 + 11) + rmX1_liveAt.locals ≤ R.locals) (hr : (rest.map fun v => v.category).sum ≤ 8) (hf : cells + 0 ≤ R.cells ∧ slots + 0 ≤ R.slots) (kk : kG w p l e R s m args below meth c Q nL σ (pc + 3) lv (va_rf (r.map (kL w)) :: rest) (cells + 0) (slots + 0)) : kG w p l e R s m args below meth c Q nL σ pc lv (.int a1 :: .ref (kL w 0) :: rest) cells slots :=
  k_callVq (As := [.int a1]) (rest := rest) (n := 1) (C := RX1) (T := TX1) K d kd_0 rfl (kg_V tw_307 tw_309 tw_6 tw_48 tw_310) rfl (by decide +kernel) rfl hR hr rfl hf (mX1_liveAt l w σ a1 h) ⟨rfl, rfl⟩ kk
end C_X1_liveAt
section F_X1_successor
variable {w : kW} {p : Program} {l : Launch} {e : Env} {s : State} {m : MethodId} {args : Array Value} {below : List Frame} {meth : Method} {c : Code}
def gX1_successor_2 (c1 : Nat) (σ : kS) (x2 : Int32) : Option ((Int32) ⊕ (Option Nat)) :=
  if (σ.1 0 7) ≤ x2 then
    some (.inr (none))
  else
    if kd c1 = (0, 0, 8) then
      if vpi x2 4 then
        (fX1_liveAt σ (σ.1 (c1 + 1 + 0) x2.toNatClampNeg)).bind fun r4 =>
        kmn (r4) (
          some (.inl (x2 + 1))
        ) fun q5 =>
          some (.inr (some q5))
      else none
    else none
def fX1_successor_2 (c1 : Nat) (σ : kS) (a : Int32) : Option ((Int32) ⊕ (Option Nat)) := gX1_successor_2 c1 σ a
def fX1_successor (σ : kS) (c1 : Nat) : Option (Option Nat) :=
  kit (fX1_successor_2 c1 σ) 300 (0)
def rmX1_successor : Room := { frames := 2, cells := 0, slots := 0, locals := 41 }
set_option maxRecDepth 20000 in
theorem pX1_successor_2 (K : kC w p s m args meth c cX1_successor 4 RX1) (hret : meth.sig.returnType = (some (.object "KeyRing$Member"))) {c1 : Nat} {σ : kS} {x2 : Int32} {r : ((Int32) ⊕ (Option Nat))} {o : (Option Nat)} (h : gX1_successor_2 c1 σ x2 = some r) (hL2 : ∀ z, r = .inl z → kG w p l e rmX1_successor s m args below meth c (MQ below (kQq w o σ) args s 0 0 (kA w)) 4 σ 2 [(0, .ref (kL w 0)), (1, .ref (kL w c1)), (2, .int z)] [] 0 0) (hO : ∀ z, r = .inr z → z = o) : kG w p l e rmX1_successor s m args below meth c (MQ below (kQq w o σ) args s 0 0 (kA w)) 4 σ 2 [(0, .ref (kL w 0)), (1, .ref (kL w c1)), (2, .int x2)] [] 0 0 := by
  unfold gX1_successor_2 at h
  refine k_iload_n K dX1_successor_2 2 rfl ?_
  refine k_aload_n K dX1_successor_3 0 rfl ?_
  refine fg_X1_30 K dX1_successor_4 ?_
  replace h := k_br h
  rcases h with ⟨b1, h⟩ | ⟨b1, h⟩
  · refine k_icmp_ge K 33 dX1_successor_7 (by decide) (fun _ => ?_) (fun q => absurd b1 q)
    refine k_null K dX1_successor_33 ?_
    cases h
    obtain rfl := hO _ rfl
    exact k_aret (v := none) K hret dX1_successor_34 (by decide) (by decide)
  · refine k_icmp_ge K 33 dX1_successor_7 (by decide) (fun q => absurd q b1) (fun _ => ?_)
    refine k_aload_n K dX1_successor_10 0 rfl ?_
    refine k_aload_n K dX1_successor_11 1 rfl ?_
    replace h := k_gd h
    obtain ⟨g2, h⟩ := h
    refine fg_X1_68 K dX1_successor_12 g2 ?_
    refine k_iload_n K dX1_successor_15 2 rfl ?_
    replace h := k_gd h
    obtain ⟨g3, h⟩ := h
    refine k_iald K dX1_successor_16 (kd_m0 g2).1 g3 ?_
    replace h := k_bd h
    obtain ⟨r4, hr4, h⟩ := h
    refine cl_X1_204 K dX1_successor_17 hr4 (by decide) (Nat.le_of_ble_eq_true rfl) (by decide) ?_
    refine k_astore_nQ (lv' := [(3, va_rf ((r4).map (kL w))), (0, .ref (kL w 0)), (1, .ref (kL w c1)), (2, .int x2)]) K dX1_successor_20 (by decide) rfl ?_
    refine k_aload_nQ K dX1_successor_21 0 rfl ?_
    replace h := k_mn h
    rcases h with ⟨hq5, h⟩ | ⟨q5, hq5, h⟩
    · subst hq5
      refine k_ifnullN K 27 dX1_successor_22 (by decide) ?_
      refine k_iinc (v := 1) (lv' := [(2, .int (x2 + 1)), (3, .null), (0, .ref (kL w 0)), (1, .ref (kL w c1))]) K dX1_successor_27 3 rfl (by decide) (by decide) rfl ?_
      refine k_goto K 2 dX1_successor_30 (by decide) ?_
      refine k_sub [2, 3, 0] rfl ?_
      cases h
      exact hL2 _ rfl
    · subst hq5
      refine k_ifnull K dX1_successor_22 ?_
      refine k_aload_n K dX1_successor_25 0 rfl ?_
      cases h
      obtain rfl := hO _ rfl
      exact k_aret (v := some q5) K hret dX1_successor_26 (by decide) (by decide)
set_option maxRecDepth 20000 in
theorem lX1_successor_2 (K : kC w p s m args meth c cX1_successor 4 RX1) (hret : meth.sig.returnType = (some (.object "KeyRing$Member"))) {c1 : Nat} {σ : kS} {n : Nat} {a : Int32} {r : (Option Nat)} {o : (Option Nat)} (h : kit (fX1_successor_2 c1 σ) n a = some r) (hO : ∀ z, r = z → z = o) : kG w p l e rmX1_successor s m args below meth c (MQ below (kQq w o σ) args s 0 0 (kA w)) 4 σ 2 [(0, .ref (kL w 0)), (1, .ref (kL w c1)), (2, .int a)] [] 0 0 :=
  kit_ind (body := fX1_successor_2 c1 σ) (fun a r => (∀ z, r = z → z = o) → kG w p l e rmX1_successor s m args below meth c (MQ below (kQq w o σ) args s 0 0 (kA w)) 4 σ 2 [(0, .ref (kL w 0)), (1, .ref (kL w c1)), (2, .int a)] [] 0 0) (fun a a2 r hb ih hO => pX1_successor_2 K hret hb (fun z e => by cases e; exact ih hO) (fun _ e => by cases e)) (fun a r hb hO => pX1_successor_2 K hret hb (fun _ e => by cases e) (fun z e => hO z (by cases e; rfl))) n a r h hO
set_option maxRecDepth 20000 in
theorem mX1_successor (l : Launch) (w : kW) (σ : kS) (c1 : Nat) {o : (Option Nat)} (h : fX1_successor σ c1 = some o) : Met l yX1_successor (Cond.code yX1_successor cX1_successor 4 (some (.object "KeyRing$Member")) :: TB) rmX1_successor (va_Pc [.ref (kL w 0), .ref (kL w c1)] (kP w σ)) (kQq w o σ) 0 0 (kA w) := by
  refine k_met (by decide +kernel) [.ref (kL w 0), .ref (kL w c1)] (Nat.le_of_ble_eq_true rfl) (by simp [lv_args, Value.category]) ?_
  intro p e s m args below meth c K hret
  have K : kC w p s m args meth c cX1_successor 4 RX1 := K
  obtain ⟨r, hro⟩ : ∃ r, r = o := ⟨o, rfl⟩
  rw [← hro] at h
  have hO : ∀ z, r = z → z = o := fun z e => by rw [← e]; exact hro
  unfold fX1_successor at h
  refine k_iconst (v := 0) K dX1_successor_0 (by decide) ?_
  refine k_istore_n (lv' := [(2, .int 0), (0, .ref (kL w 0)), (1, .ref (kL w c1))]) K dX1_successor_1 (by decide) rfl ?_
  refine k_sub [1, 2, 0] rfl ?_
  exact lX1_successor_2 K hret h hO
end F_X1_successor
section C_X1_successor
variable {w : kW} {p : Program} {l : Launch} {e : Env} {R : Room} {s : State} {m : MethodId} {args : Array Value} {below : List Frame} {meth : Method} {c : Code} {Q : State → Prop} {cc : ByteArray} {nL : Nat} {σ : kS} {pc : Nat} {lv : List (Nat × Value)} {st rest : List Value} {cells slots : Nat}
theorem cl_X1_107 (K : kC w p s m args meth c cc nL RX1) {a1 : Nat} {r : (Option Nat)} (d : decode cc pc = .ok (.invokevirtual 107, 3)) (h : fX1_successor σ a1 = some r) (hR : rmX1_successor.frames + 1 ≤ R.frames ∧ 8 + (4 + 11) + rmX1_successor.locals ≤ R.locals) (hr : (rest.map fun v => v.category).sum ≤ 8) (hf : cells + 0 ≤ R.cells ∧ slots + 0 ≤ R.slots) (kk : kG w p l e R s m args below meth c Q nL σ (pc + 3) lv (va_rf (r.map (kL w)) :: rest) (cells + 0) (slots + 0)) : kG w p l e R s m args below meth c Q nL σ pc lv (.ref (kL w a1) :: .ref (kL w 0) :: rest) cells slots :=
  k_callVq (As := [.ref (kL w a1)]) (rest := rest) (n := 1) (C := RX1) (T := TX1) K d kd_0 rfl (kg_V tw_335 tw_337 tw_9 tw_48 tw_338) rfl (by decide +kernel) rfl hR hr rfl hf (mX1_successor l w σ a1 h) ⟨rfl, rfl⟩ kk
end C_X1_successor
section F_X1_takeOver
variable {w : kW} {p : Program} {l : Launch} {e : Env} {s : State} {m : MethodId} {args : Array Value} {below : List Frame} {meth : Method} {c : Code}
def gX1_takeOver_7 (c1 : Nat) (c2 : Nat) (x3 : Int32) (σ : kS) : Option ((Int32 × kS) ⊕ kS) :=
  if x3 ≤ 0 then
    if kd c1 = (0, 0, 8) then
      if kd c2 = (0, 0, 8) then
        some (.inr (sI σ (c1 + 1 + 0) (0 : Int32).toNatClampNeg (σ.1 c2 5)))
      else none
    else none
  else
    if kd c1 = (0, 0, 8) then
      if kd c2 = (0, 0, 8) then
        if vpi (x3 - 1) 4 then
          if vpi x3 4 then
            some (.inl (x3 + (-1), sI σ (c1 + 1 + 0) x3.toNatClampNeg (σ.1 (c2 + 1 + 0) (x3 - 1).toNatClampNeg)))
          else none
        else none
      else none
    else none
def fX1_takeOver_7 (c1 : Nat) (c2 : Nat) (a : Int32 × kS) : Option ((Int32 × kS) ⊕ kS) := gX1_takeOver_7 c1 c2 a.1 a.2
def fX1_takeOver (σ : kS) (c1 : Nat) (c2 : Nat) : Option kS :=
  kit (fX1_takeOver_7 c1 c2) 300 ((σ.1 0 7) - 1, σ)
def rmX1_takeOver : Room := { frames := 0, cells := 0, slots := 0, locals := 0 }
set_option maxRecDepth 20000 in
theorem pX1_takeOver_7 (K : kC w p s m args meth c cX1_takeOver 4 RX1) (hret : meth.sig.returnType = none) {c1 : Nat} {c2 : Nat} {x3 : Int32} {σ : kS} {r : ((Int32 × kS) ⊕ kS)} {o : kS} (h : gX1_takeOver_7 c1 c2 x3 σ = some r) (hL7 : ∀ z, r = .inl z → kG w p l e rmX1_takeOver s m args below meth c (MQ below (kQv w o) args s 0 0 (kA w)) 4 z.2 7 [(1, .ref (kL w c1)), (2, .ref (kL w c2)), (3, .int (z.1))] [] 0 0) (hO : ∀ z, r = .inr z → z = o) : kG w p l e rmX1_takeOver s m args below meth c (MQ below (kQv w o) args s 0 0 (kA w)) 4 σ 7 [(1, .ref (kL w c1)), (2, .ref (kL w c2)), (3, .int x3)] [] 0 0 := by
  unfold gX1_takeOver_7 at h
  refine k_iload_n K dX1_takeOver_7 2 rfl ?_
  replace h := k_br h
  rcases h with ⟨b1, h⟩ | ⟨b1, h⟩
  · refine k_if_le K 31 dX1_takeOver_8 (by decide) (fun _ => ?_) (fun q => absurd b1 q)
    refine k_aload_n K dX1_takeOver_31 0 rfl ?_
    replace h := k_gd h
    obtain ⟨g2, h⟩ := h
    refine fg_X1_68 K dX1_takeOver_32 g2 ?_
    refine k_iconst (v := 0) K dX1_takeOver_35 (by decide) ?_
    refine k_aload_n K dX1_takeOver_36 1 rfl ?_
    replace h := k_gd h
    obtain ⟨g3, h⟩ := h
    refine fg_X1_89 K dX1_takeOver_37 g3 ?_
    refine k_iast K dX1_takeOver_40 (kd_m0 g2).1 (show vpi 0 4 by decide) ?_
    cases h
    obtain rfl := hO _ rfl
    exact k_vret K hret dX1_takeOver_41 (by decide) (by decide)
  · refine k_if_le K 31 dX1_takeOver_8 (by decide) (fun q => absurd q b1) (fun _ => ?_)
    refine k_aload_n K dX1_takeOver_11 0 rfl ?_
    replace h := k_gd h
    obtain ⟨g4, h⟩ := h
    refine fg_X1_68 K dX1_takeOver_12 g4 ?_
    refine k_iload_n K dX1_takeOver_15 2 rfl ?_
    refine k_aload_n K dX1_takeOver_16 1 rfl ?_
    replace h := k_gd h
    obtain ⟨g5, h⟩ := h
    refine fg_X1_68 K dX1_takeOver_17 g5 ?_
    refine k_iload_n K dX1_takeOver_20 2 rfl ?_
    refine k_iconst (v := 1) K dX1_takeOver_21 (by decide) ?_
    refine k_isub K dX1_takeOver_22 ?_
    replace h := k_gd h
    obtain ⟨g6, h⟩ := h
    refine k_iald K dX1_takeOver_23 (kd_m0 g5).1 g6 ?_
    replace h := k_gd h
    obtain ⟨g7, h⟩ := h
    refine k_iast K dX1_takeOver_24 (kd_m0 g4).1 g7 ?_
    refine k_iinc (v := (-1)) (lv' := [(3, .int (x3 + (-1))), (1, .ref (kL w c1)), (2, .ref (kL w c2))]) K dX1_takeOver_25 2 rfl (by decide) (by decide) rfl ?_
    refine k_goto K 7 dX1_takeOver_28 (by decide) ?_
    refine k_sub [1, 2, 0] rfl ?_
    cases h
    exact hL7 _ rfl
set_option maxRecDepth 20000 in
theorem lX1_takeOver_7 (K : kC w p s m args meth c cX1_takeOver 4 RX1) (hret : meth.sig.returnType = none) {c1 : Nat} {c2 : Nat} {n : Nat} {a : Int32 × kS} {r : kS} {o : kS} (h : kit (fX1_takeOver_7 c1 c2) n a = some r) (hO : ∀ z, r = z → z = o) : kG w p l e rmX1_takeOver s m args below meth c (MQ below (kQv w o) args s 0 0 (kA w)) 4 a.2 7 [(1, .ref (kL w c1)), (2, .ref (kL w c2)), (3, .int (a.1))] [] 0 0 :=
  kit_ind (body := fX1_takeOver_7 c1 c2) (fun a r => (∀ z, r = z → z = o) → kG w p l e rmX1_takeOver s m args below meth c (MQ below (kQv w o) args s 0 0 (kA w)) 4 a.2 7 [(1, .ref (kL w c1)), (2, .ref (kL w c2)), (3, .int (a.1))] [] 0 0) (fun a a2 r hb ih hO => pX1_takeOver_7 K hret hb (fun z e => by cases e; exact ih hO) (fun _ e => by cases e)) (fun a r hb hO => pX1_takeOver_7 K hret hb (fun _ e => by cases e) (fun z e => hO z (by cases e; rfl))) n a r h hO
set_option maxRecDepth 20000 in
theorem mX1_takeOver (l : Launch) (w : kW) (σ : kS) (c1 : Nat) (c2 : Nat) {o : kS} (h : fX1_takeOver σ c1 c2 = some o) : Met l yX1_takeOver (Cond.code yX1_takeOver cX1_takeOver 4 none :: TB) rmX1_takeOver (va_Pc [.ref (kL w 0), .ref (kL w c1), .ref (kL w c2)] (kP w σ)) (kQv w o) 0 0 (kA w) := by
  refine k_met (by decide +kernel) [.ref (kL w 0), .ref (kL w c1), .ref (kL w c2)] (Nat.le_of_ble_eq_true rfl) (by simp [lv_args, Value.category]) ?_
  intro p e s m args below meth c K hret
  have K : kC w p s m args meth c cX1_takeOver 4 RX1 := K
  obtain ⟨r, hro⟩ : ∃ r, r = o := ⟨o, rfl⟩
  rw [← hro] at h
  have hO : ∀ z, r = z → z = o := fun z e => by rw [← e]; exact hro
  unfold fX1_takeOver at h
  refine k_aload_n K dX1_takeOver_0 0 rfl ?_
  refine fg_X1_30 K dX1_takeOver_1 ?_
  refine k_iconst (v := 1) K dX1_takeOver_4 (by decide) ?_
  refine k_isub K dX1_takeOver_5 ?_
  refine k_istore_n (lv' := [(3, .int ((σ.1 0 7) - 1)), (0, .ref (kL w 0)), (1, .ref (kL w c1)), (2, .ref (kL w c2))]) K dX1_takeOver_6 (by decide) rfl ?_
  refine k_sub [2, 3, 0] rfl ?_
  exact lX1_takeOver_7 K hret h hO
end F_X1_takeOver
section C_X1_takeOver
variable {w : kW} {p : Program} {l : Launch} {e : Env} {R : Room} {s : State} {m : MethodId} {args : Array Value} {below : List Frame} {meth : Method} {c : Code} {Q : State → Prop} {cc : ByteArray} {nL : Nat} {σ : kS} {pc : Nat} {lv : List (Nat × Value)} {st rest : List Value} {cells slots : Nat}
theorem cl_X1_85 (K : kC w p s m args meth c cc nL RX1) {a1 : Nat} {a2 : Nat} {r : kS} (d : decode cc pc = .ok (.invokevirtual 85, 3)) (h : fX1_takeOver σ a1 a2 = some r) (hR : rmX1_takeOver.frames + 1 ≤ R.frames ∧ 8 + (4 + 11) + rmX1_takeOver.locals ≤ R.locals) (hr : (rest.map fun v => v.category).sum ≤ 8) (hf : cells + 0 ≤ R.cells ∧ slots + 0 ≤ R.slots) (kk : kG w p l e R s m args below meth c Q nL r (pc + 3) lv (rest) (cells + 0) (slots + 0)) : kG w p l e R s m args below meth c Q nL σ pc lv (.ref (kL w a2) :: .ref (kL w a1) :: .ref (kL w 0) :: rest) cells slots :=
  k_callVv (As := [.ref (kL w a1), .ref (kL w a2)]) (rest := rest) (n := 2) (C := RX1) (T := TX1) K d kd_0 rfl (kg_V tw_349 tw_351 tw_11 tw_48 tw_352) rfl (by decide +kernel) rfl hR hr rfl hf (mX1_takeOver l w σ a1 a2 h) ⟨rfl, rfl⟩ kk
end C_X1_takeOver
section F_X1_stepsUp
variable {w : kW} {p : Program} {l : Launch} {e : Env} {s : State} {m : MethodId} {args : Array Value} {below : List Frame} {meth : Method} {c : Code}
def fX1_stepsUp (x0 : Int32) (x1 : Int32) : Option Int32 :=
  some ((x1 - x0) &&& 255)
def rmX1_stepsUp : Room := { frames := 0, cells := 0, slots := 0, locals := 0 }
set_option maxRecDepth 20000 in
theorem mX1_stepsUp (l : Launch) (w : kW) (σ0 : kS) (x0 : Int32) (x1 : Int32) {o : Int32} (h : fX1_stepsUp x0 x1 = some o) : Met l yX1_stepsUp (Cond.code yX1_stepsUp cX1_stepsUp 2 (some .int) :: TB) rmX1_stepsUp (va_Pc [.int x0, .int x1] (kP w σ0)) (kQi w o σ0) 0 0 (kA w) := by
  refine k_met (by decide +kernel) [.int x0, .int x1] (Nat.le_of_ble_eq_true rfl) (by simp [lv_args, Value.category]) ?_
  intro p e s m args below meth c K hret
  have K : kC w p s m args meth c cX1_stepsUp 2 RX1 := K
  obtain ⟨r, hro⟩ : ∃ r, r = o := ⟨o, rfl⟩
  rw [← hro] at h
  have hO : ∀ z, r = z → z = o := fun z e => by rw [← e]; exact hro
  unfold fX1_stepsUp at h
  refine k_iload_n K dX1_stepsUp_0 1 rfl ?_
  refine k_iload_n K dX1_stepsUp_1 0 rfl ?_
  refine k_isub K dX1_stepsUp_2 ?_
  refine k_sipush (v := 255) K dX1_stepsUp_3 (by decide) ?_
  refine k_iand K dX1_stepsUp_6 ?_
  cases h
  obtain rfl := hO _ rfl
  exact k_iret (v := (x1 - x0) &&& 255) K hret dX1_stepsUp_7 (by decide) (by decide)
end F_X1_stepsUp
section C_X1_stepsUp
variable {w : kW} {p : Program} {l : Launch} {e : Env} {R : Room} {s : State} {m : MethodId} {args : Array Value} {below : List Frame} {meth : Method} {c : Code} {Q : State → Prop} {cc : ByteArray} {nL : Nat} {σ : kS} {pc : Nat} {lv : List (Nat × Value)} {st rest : List Value} {cells slots : Nat}
theorem cl_X1_220 (K : kC w p s m args meth c cc nL RX1) {a1 : Int32} {a2 : Int32} {r : Int32} (d : decode cc pc = .ok (.invokestatic 220, 3)) (h : fX1_stepsUp a1 a2 = some r) (hR : rmX1_stepsUp.frames + 1 ≤ R.frames ∧ 8 + (2 + 11) + rmX1_stepsUp.locals ≤ R.locals) (hr : (rest.map fun v => v.category).sum ≤ 8) (hf : cells + 0 ≤ R.cells ∧ slots + 0 ≤ R.slots) (kk : kG w p l e R s m args below meth c Q nL σ (pc + 3) lv (.int r :: rest) (cells + 0) (slots + 0)) : kG w p l e R s m args below meth c Q nL σ pc lv (.int a2 :: .int a1 :: rest) cells slots :=
  k_callSi (As := [.int a1, .int a2]) (rest := rest) (n := 2) K d (kg_S tw_342 tw_343 tw_48 tw_344) (by decide +kernel) rfl hR hr rfl hf (mX1_stepsUp l w σ a1 a2 h) ⟨rfl, rfl⟩ kk
end C_X1_stepsUp
section F_X1_isBetween
variable {w : kW} {p : Program} {l : Launch} {e : Env} {s : State} {m : MethodId} {args : Array Value} {below : List Frame} {meth : Method} {c : Code}
def fX1_isBetween_28 : Option Int32 :=
  some (1)
def fX1_isBetween (x0 : Int32) (x1 : Int32) (x2 : Int32) : Option Int32 :=
  (fX1_stepsUp x0 x1).bind fun r1 =>
  (fX1_stepsUp x0 x2).bind fun r2 =>
  if r1 = 0 then
    some (0)
  else
    if r2 = 0 then
      fX1_isBetween_28 
    else
      if r2 ≤ r1 then
        some (0)
      else
        fX1_isBetween_28 
def rmX1_isBetween : Room := { frames := 1, cells := 0, slots := 0, locals := 21 }
set_option maxRecDepth 20000 in
theorem pX1_isBetween_28 {σ0 : kS} (K : kC w p s m args meth c cX1_isBetween 5 RX1) (hret : meth.sig.returnType = (some .boolean)) {r : Int32} {o : Int32} (h : fX1_isBetween_28 = some r) (hO : ∀ z, r = z → z = o) : kG w p l e rmX1_isBetween s m args below meth c (MQ below (kQi w o σ0) args s 0 0 (kA w)) 5 σ0 28 [] [] 0 0 := by
  unfold fX1_isBetween_28 at h
  refine k_iconst (v := 1) K dX1_isBetween_28 (by decide) ?_
  refine k_goto K 33 dX1_isBetween_29 (by decide) ?_
  cases h
  obtain rfl := hO _ rfl
  exact k_zret (v := 1) K hret (by decide) dX1_isBetween_33 (by decide) (by decide)
set_option maxRecDepth 20000 in
theorem mX1_isBetween (l : Launch) (w : kW) (σ0 : kS) (x0 : Int32) (x1 : Int32) (x2 : Int32) {o : Int32} (h : fX1_isBetween x0 x1 x2 = some o) : Met l yX1_isBetween (Cond.code yX1_isBetween cX1_isBetween 5 (some .boolean) :: TB) rmX1_isBetween (va_Pc [.int x0, .int x1, .int x2] (kP w σ0)) (kQi w o σ0) 0 0 (kA w) := by
  refine k_met (by decide +kernel) [.int x0, .int x1, .int x2] (Nat.le_of_ble_eq_true rfl) (by simp [lv_args, Value.category]) ?_
  intro p e s m args below meth c K hret
  have K : kC w p s m args meth c cX1_isBetween 5 RX1 := K
  obtain ⟨r, hro⟩ : ∃ r, r = o := ⟨o, rfl⟩
  rw [← hro] at h
  have hO : ∀ z, r = z → z = o := fun z e => by rw [← e]; exact hro
  unfold fX1_isBetween at h
  refine k_iload_n K dX1_isBetween_0 0 rfl ?_
  refine k_iload_n K dX1_isBetween_1 1 rfl ?_
  replace h := k_bd h
  obtain ⟨r1, hr1, h⟩ := h
  refine cl_X1_220 K dX1_isBetween_2 hr1 (by decide) (Nat.le_of_ble_eq_true rfl) (by decide) ?_
  refine k_istore_n (lv' := [(3, .int r1), (0, .int x0), (1, .int x1), (2, .int x2)]) K dX1_isBetween_5 (by decide) rfl ?_
  refine k_iload_n K dX1_isBetween_6 1 rfl ?_
  refine k_iload_n K dX1_isBetween_7 3 rfl ?_
  replace h := k_bd h
  obtain ⟨r2, hr2, h⟩ := h
  refine cl_X1_220 K dX1_isBetween_8 hr2 (by decide) (Nat.le_of_ble_eq_true rfl) (by decide) ?_
  refine k_istore (lv' := [(4, .int r2), (3, .int r1), (0, .int x0), (1, .int x1), (2, .int x2)]) K dX1_isBetween_11 (by decide) rfl ?_
  refine k_iload_n K dX1_isBetween_13 1 rfl ?_
  replace h := k_br h
  rcases h with ⟨b3, h⟩ | ⟨b3, h⟩
  · refine k_if_eq K 32 dX1_isBetween_14 (by decide) (fun _ => ?_) (fun q => absurd b3 q)
    refine k_iconst (v := 0) K dX1_isBetween_32 (by decide) ?_
    cases h
    obtain rfl := hO _ rfl
    exact k_zret (v := 0) K hret (by decide) dX1_isBetween_33 (by decide) (by decide)
  · refine k_if_eq K 32 dX1_isBetween_14 (by decide) (fun q => absurd q b3) (fun _ => ?_)
    refine k_iload K dX1_isBetween_17 0 rfl ?_
    replace h := k_br h
    rcases h with ⟨b4, h⟩ | ⟨b4, h⟩
    · refine k_if_eq K 28 dX1_isBetween_19 (by decide) (fun _ => ?_) (fun q => absurd b4 q)
      refine k_sub [] rfl ?_
      exact pX1_isBetween_28 K hret h hO
    · refine k_if_eq K 28 dX1_isBetween_19 (by decide) (fun q => absurd q b4) (fun _ => ?_)
      refine k_iload_n K dX1_isBetween_22 1 rfl ?_
      refine k_iload K dX1_isBetween_23 0 rfl ?_
      replace h := k_br h
      rcases h with ⟨b5, h⟩ | ⟨b5, h⟩
      · refine k_icmp_ge K 32 dX1_isBetween_25 (by decide) (fun _ => ?_) (fun q => absurd b5 q)
        refine k_iconst (v := 0) K dX1_isBetween_32 (by decide) ?_
        cases h
        obtain rfl := hO _ rfl
        exact k_zret (v := 0) K hret (by decide) dX1_isBetween_33 (by decide) (by decide)
      · refine k_icmp_ge K 32 dX1_isBetween_25 (by decide) (fun q => absurd q b5) (fun _ => ?_)
        refine k_sub [] rfl ?_
        exact pX1_isBetween_28 K hret h hO
end F_X1_isBetween
section C_X1_isBetween
variable {w : kW} {p : Program} {l : Launch} {e : Env} {R : Room} {s : State} {m : MethodId} {args : Array Value} {below : List Frame} {meth : Method} {c : Code} {Q : State → Prop} {cc : ByteArray} {nL : Nat} {σ : kS} {pc : Nat} {lv : List (Nat × Value)} {st rest : List Value} {cells slots : Nat}
theorem cl_X1_241 (K : kC w p s m args meth c cc nL RX1) {a1 : Int32} {a2 : Int32} {a3 : Int32} {r : Int32} (d : decode cc pc = .ok (.invokestatic 241, 3)) (h : fX1_isBetween a1 a2 a3 = some r) (hR : rmX1_isBetween.frames + 1 ≤ R.frames ∧ 8 + (5 + 11) + rmX1_isBetween.locals ≤ R.locals) (hr : (rest.map fun v => v.category).sum ≤ 8) (hf : cells + 0 ≤ R.cells ∧ slots + 0 ≤ R.slots) (kk : kG w p l e R s m args below meth c Q nL σ (pc + 3) lv (.int r :: rest) (cells + 0) (slots + 0)) : kG w p l e R s m args below meth c Q nL σ pc lv (.int a3 :: .int a2 :: .int a1 :: rest) cells slots :=
  k_callSi (As := [.int a1, .int a2, .int a3]) (rest := rest) (n := 3) K d (kg_S tw_339 tw_340 tw_48 tw_341) (by decide +kernel) rfl hR hr rfl hf (mX1_isBetween l w σ a1 a2 a3 h) ⟨rfl, rfl⟩ kk
end C_X1_isBetween
section F_X1_tell
variable {w : kW} {p : Program} {l : Launch} {e : Env} {s : State} {m : MethodId} {args : Array Value} {below : List Frame} {meth : Method} {c : Code}
def fX1_tell_41 (c1 : Nat) (c2 : Nat) (σ : kS) : Option kS :=
  if kd c2 = (0, 0, 8) then
    if kd c1 = (0, 0, 8) then
      some (sI σ c1 6 (σ.1 c2 5))
    else none
  else none
def fX1_tell (σ : kS) (n1 : Option Nat) (c2 : Nat) : Option kS :=
  kmn (n1) (
    some (σ)
  ) fun q1 =>
    if okq (some q1) = true ∧ okq (some c2) = true then
      if some q1 = some c2 then
        some (σ)
      else
        if kd q1 = (0, 0, 8) then
          (fX1_liveAt σ (σ.1 q1 6)).bind fun r5 =>
          kmn (r5) (
            fX1_tell_41 q1 c2 σ
          ) fun q6 =>
            if kd q6 = (0, 0, 8) then
              if kd c2 = (0, 0, 8) then
                (fX1_isBetween (σ.1 q6 5) (σ.1 c2 5) (σ.1 q1 5)).bind fun r9 =>
                if r9 = 0 then
                  some (σ)
                else
                  fX1_tell_41 q1 c2 σ
              else none
            else none
        else none
    else none
def rmX1_tell : Room := { frames := 2, cells := 0, slots := 0, locals := 45 }
set_option maxRecDepth 20000 in
theorem pX1_tell_41 (K : kC w p s m args meth c cX1_tell 4 RX1) (hret : meth.sig.returnType = none) {c1 : Nat} {c2 : Nat} {σ : kS} {r : kS} {o : kS} (h : fX1_tell_41 c1 c2 σ = some r) (hO : ∀ z, r = z → z = o) : kG w p l e rmX1_tell s m args below meth c (MQ below (kQv w o) args s 0 0 (kA w)) 4 σ 41 [(1, .ref (kL w c1)), (2, .ref (kL w c2))] [] 0 0 := by
  unfold fX1_tell_41 at h
  refine k_aload_n K dX1_tell_41 0 rfl ?_
  refine k_aload_n K dX1_tell_42 1 rfl ?_
  replace h := k_gd h
  obtain ⟨g1, h⟩ := h
  refine fg_X1_89 K dX1_tell_43 g1 ?_
  replace h := k_gd h
  obtain ⟨g2, h⟩ := h
  refine fp_X1_75 K dX1_tell_46 g2 ?_
  cases h
  obtain rfl := hO _ rfl
  exact k_vret K hret dX1_tell_49 (by decide) (by decide)
set_option maxRecDepth 20000 in
theorem qX1_tell (K : kC w p s m args meth c cX1_tell 4 RX1) (hret : meth.sig.returnType = none) {σ : kS} {n1 : Option Nat} {c2 : Nat} {o : kS} (h : fX1_tell σ n1 c2 = some o) : kG w p l e rmX1_tell s m args below meth c (MQ below (kQv w o) args s 0 0 (kA w)) 4 σ 0 [(0, .ref (kL w 0)), (1, va_rf ((n1).map (kL w))), (2, .ref (kL w c2))] [] 0 0 := by
  have K : kC w p s m args meth c cX1_tell 4 RX1 := K
  obtain ⟨r, hro⟩ : ∃ r, r = o := ⟨o, rfl⟩
  rw [← hro] at h
  have hO : ∀ z, r = z → z = o := fun z e => by rw [← e]; exact hro
  unfold fX1_tell at h
  refine k_aload_nQ K dX1_tell_0 1 rfl ?_
  replace h := k_mn h
  rcases h with ⟨hq1, h⟩ | ⟨q1, hq1, h⟩
  · subst hq1
    refine k_ifnullN K 9 dX1_tell_1 (by decide) ?_
    cases h
    obtain rfl := hO _ rfl
    exact k_vret K hret dX1_tell_9 (by decide) (by decide)
  · subst hq1
    refine k_ifnull K dX1_tell_1 ?_
    refine k_aload_n K dX1_tell_4 1 rfl ?_
    refine k_aload_n K dX1_tell_5 2 rfl ?_
    replace h := k_gd h
    obtain ⟨g3, h⟩ := h
    replace h := k_br h
    rcases h with ⟨b2, h⟩ | ⟨b2, h⟩
    · refine k_acmp_ne (x := some q1) (y := some c2) K 10 dX1_tell_6 (by decide) (okq_s g3.1) (okq_s g3.2) (fun q => absurd b2 q) (fun _ => ?_)
      cases h
      obtain rfl := hO _ rfl
      exact k_vret K hret dX1_tell_9 (by decide) (by decide)
    · refine k_acmp_ne (x := some q1) (y := some c2) K 10 dX1_tell_6 (by decide) (okq_s g3.1) (okq_s g3.2) (fun _ => ?_) (fun q => absurd q b2)
      refine k_aload_n K dX1_tell_10 0 rfl ?_
      refine k_aload_n K dX1_tell_11 1 rfl ?_
      replace h := k_gd h
      obtain ⟨g4, h⟩ := h
      refine fg_X1_75 K dX1_tell_12 g4 ?_
      replace h := k_bd h
      obtain ⟨r5, hr5, h⟩ := h
      refine cl_X1_204 K dX1_tell_15 hr5 (by decide) (Nat.le_of_ble_eq_true rfl) (by decide) ?_
      refine k_astore_nQ (lv' := [(3, va_rf ((r5).map (kL w))), (0, .ref (kL w 0)), (1, .ref (kL w q1)), (2, .ref (kL w c2))]) K dX1_tell_18 (by decide) rfl ?_
      refine k_aload_nQ K dX1_tell_19 0 rfl ?_
      replace h := k_mn h
      rcases h with ⟨hq6, h⟩ | ⟨q6, hq6, h⟩
      · subst hq6
        refine k_ifnullN K 41 dX1_tell_20 (by decide) ?_
        refine k_sub [2, 3] rfl ?_
        exact pX1_tell_41 K hret h hO
      · subst hq6
        refine k_ifnull K dX1_tell_20 ?_
        refine k_aload_n K dX1_tell_23 0 rfl ?_
        replace h := k_gd h
        obtain ⟨g7, h⟩ := h
        refine fg_X1_89 K dX1_tell_24 g7 ?_
        refine k_aload_n K dX1_tell_27 3 rfl ?_
        replace h := k_gd h
        obtain ⟨g8, h⟩ := h
        refine fg_X1_89 K dX1_tell_28 g8 ?_
        refine k_aload_n K dX1_tell_31 2 rfl ?_
        refine fg_X1_89 K dX1_tell_32 g4 ?_
        replace h := k_bd h
        obtain ⟨r9, hr9, h⟩ := h
        refine cl_X1_241 K dX1_tell_35 hr9 (by decide) (Nat.le_of_ble_eq_true rfl) (by decide) ?_
        replace h := k_br h
        rcases h with ⟨b10, h⟩ | ⟨b10, h⟩
        · refine k_if_eq K 49 dX1_tell_38 (by decide) (fun _ => ?_) (fun q => absurd b10 q)
          cases h
          obtain rfl := hO _ rfl
          exact k_vret K hret dX1_tell_49 (by decide) (by decide)
        · refine k_if_eq K 49 dX1_tell_38 (by decide) (fun q => absurd q b10) (fun _ => ?_)
          refine k_sub [2, 3] rfl ?_
          exact pX1_tell_41 K hret h hO
set_option maxRecDepth 20000 in
theorem mX1_tell (l : Launch) (w : kW) (σ : kS) (n1 : Option Nat) (c2 : Nat) {o : kS} (h : fX1_tell σ n1 c2 = some o) : Met l yX1_tell (Cond.code yX1_tell cX1_tell 4 none :: TB) rmX1_tell (va_Pc [.ref (kL w 0), va_rf ((n1).map (kL w)), .ref (kL w c2)] (kP w σ)) (kQv w o) 0 0 (kA w) := by
  cases n1 <;> (refine k_met (by decide) _ (Nat.le_of_ble_eq_true rfl) (by simp [lv_args, Value.category, va_rf]) ?_ ; intro p e s m args below meth c K hret; exact qX1_tell K hret h)
end F_X1_tell
section C_X1_tell
variable {w : kW} {p : Program} {l : Launch} {e : Env} {R : Room} {s : State} {m : MethodId} {args : Array Value} {below : List Frame} {meth : Method} {c : Code} {Q : State → Prop} {cc : ByteArray} {nL : Nat} {σ : kS} {pc : Nat} {lv : List (Nat × Value)} {st rest : List Value} {cells slots : Nat}
theorem cl_X1_245 (K : kC w p s m args meth c cc nL RX1) {a1 : Option Nat} {a2 : Nat} {r : kS} (d : decode cc pc = .ok (.invokevirtual 245, 3)) (h : fX1_tell σ a1 a2 = some r) (hR : rmX1_tell.frames + 1 ≤ R.frames ∧ 8 + (4 + 11) + rmX1_tell.locals ≤ R.locals) (hr : (rest.map fun v => v.category).sum ≤ 8) (hf : cells + 0 ≤ R.cells ∧ slots + 0 ≤ R.slots) (kk : kG w p l e R s m args below meth c Q nL r (pc + 3) lv (rest) (cells + 0) (slots + 0)) : kG w p l e R s m args below meth c Q nL σ pc lv (.ref (kL w a2) :: va_rf (a1.map (kL w)) :: .ref (kL w 0) :: rest) cells slots :=
  k_callVv (As := [va_rf (a1.map (kL w)), .ref (kL w a2)]) (rest := rest) (n := 2) (C := RX1) (T := TX1) K d kd_0 rfl (kg_V tw_381 tw_383 tw_15 tw_48 tw_384) rfl (by decide +kernel) rfl hR hr rfl hf (mX1_tell l w σ a1 a2 h) ⟨rfl, rfl⟩ kk
end C_X1_tell
section F_X1_stabiliseMember
variable {w : kW} {p : Program} {l : Launch} {e : Env} {s : State} {m : MethodId} {args : Array Value} {below : List Frame} {meth : Method} {c : Code}
def fX1_stabiliseMember_54 (c1 : Nat) (σ : kS) : Option kS :=
  (fX1_successor σ c1).bind fun r1 =>
  (fX1_tell σ r1 c1).bind fun r2 =>
  some (r2)
def fX1_stabiliseMember (σ : kS) (c1 : Nat) : Option kS :=
  (fX1_successor σ c1).bind fun r1 =>
  kmn (r1) (
    some (σ)
  ) fun q2 =>
    (fX1_takeOver σ c1 q2).bind fun r3 =>
    if kd q2 = (0, 0, 8) then
      (fX1_liveAt r3 (r3.1 q2 6)).bind fun r5 =>
      kmn (r5) (
        fX1_stabiliseMember_54 c1 r3
      ) fun q6 =>
        if kd c1 = (0, 0, 8) then
          if kd q6 = (0, 0, 8) then
            (fX1_isBetween (r3.1 c1 5) (r3.1 q6 5) (r3.1 q2 5)).bind fun r9 =>
            if r9 = 0 then
              fX1_stabiliseMember_54 c1 r3
            else
              (fX1_takeOver r3 c1 q6).bind fun r11 =>
              fX1_stabiliseMember_54 c1 r11
          else none
        else none
    else none
def rmX1_stabiliseMember : Room := { frames := 3, cells := 0, slots := 0, locals := 68 }
set_option maxRecDepth 20000 in
theorem pX1_stabiliseMember_54 (K : kC w p s m args meth c cX1_stabiliseMember 4 RX1) (hret : meth.sig.returnType = none) {c1 : Nat} {σ : kS} {r : kS} {o : kS} (h : fX1_stabiliseMember_54 c1 σ = some r) (hO : ∀ z, r = z → z = o) : kG w p l e rmX1_stabiliseMember s m args below meth c (MQ below (kQv w o) args s 0 0 (kA w)) 4 σ 54 [(0, .ref (kL w 0)), (1, .ref (kL w c1))] [] 0 0 := by
  unfold fX1_stabiliseMember_54 at h
  refine k_aload_n K dX1_stabiliseMember_54 0 rfl ?_
  refine k_aload_n K dX1_stabiliseMember_55 0 rfl ?_
  refine k_aload_n K dX1_stabiliseMember_56 1 rfl ?_
  replace h := k_bd h
  obtain ⟨r1, hr1, h⟩ := h
  refine cl_X1_107 K dX1_stabiliseMember_57 hr1 (by decide) (Nat.le_of_ble_eq_true rfl) (by decide) ?_
  refine k_aload_n K dX1_stabiliseMember_60 1 rfl ?_
  replace h := k_bd h
  obtain ⟨r2, hr2, h⟩ := h
  refine cl_X1_245 K dX1_stabiliseMember_61 hr2 (by decide) (Nat.le_of_ble_eq_true rfl) (by decide) ?_
  cases h
  obtain rfl := hO _ rfl
  exact k_vret K hret dX1_stabiliseMember_64 (by decide) (by decide)
set_option maxRecDepth 20000 in
theorem mX1_stabiliseMember (l : Launch) (w : kW) (σ : kS) (c1 : Nat) {o : kS} (h : fX1_stabiliseMember σ c1 = some o) : Met l yX1_stabiliseMember (Cond.code yX1_stabiliseMember cX1_stabiliseMember 4 none :: TB) rmX1_stabiliseMember (va_Pc [.ref (kL w 0), .ref (kL w c1)] (kP w σ)) (kQv w o) 0 0 (kA w) := by
  refine k_met (by decide +kernel) [.ref (kL w 0), .ref (kL w c1)] (Nat.le_of_ble_eq_true rfl) (by simp [lv_args, Value.category]) ?_
  intro p e s m args below meth c K hret
  have K : kC w p s m args meth c cX1_stabiliseMember 4 RX1 := K
  obtain ⟨r, hro⟩ : ∃ r, r = o := ⟨o, rfl⟩
  rw [← hro] at h
  have hO : ∀ z, r = z → z = o := fun z e => by rw [← e]; exact hro
  unfold fX1_stabiliseMember at h
  refine k_aload_n K dX1_stabiliseMember_0 0 rfl ?_
  refine k_aload_n K dX1_stabiliseMember_1 1 rfl ?_
  replace h := k_bd h
  obtain ⟨r1, hr1, h⟩ := h
  refine cl_X1_107 K dX1_stabiliseMember_2 hr1 (by decide) (Nat.le_of_ble_eq_true rfl) (by decide) ?_
  refine k_astore_nQ (lv' := [(2, va_rf ((r1).map (kL w))), (0, .ref (kL w 0)), (1, .ref (kL w c1))]) K dX1_stabiliseMember_5 (by decide) rfl ?_
  refine k_aload_nQ K dX1_stabiliseMember_6 0 rfl ?_
  replace h := k_mn h
  rcases h with ⟨hq2, h⟩ | ⟨q2, hq2, h⟩
  · subst hq2
    refine k_ifnonnullN K dX1_stabiliseMember_7 ?_
    cases h
    obtain rfl := hO _ rfl
    exact k_vret K hret dX1_stabiliseMember_10 (by decide) (by decide)
  · subst hq2
    refine k_ifnonnull K 11 dX1_stabiliseMember_7 (by decide) ?_
    refine k_aload_n K dX1_stabiliseMember_11 1 rfl ?_
    refine k_aload_n K dX1_stabiliseMember_12 2 rfl ?_
    refine k_aload_n K dX1_stabiliseMember_13 0 rfl ?_
    replace h := k_bd h
    obtain ⟨r3, hr3, h⟩ := h
    refine cl_X1_85 K dX1_stabiliseMember_14 hr3 (by decide) (Nat.le_of_ble_eq_true rfl) (by decide) ?_
    refine k_aload_n K dX1_stabiliseMember_17 1 rfl ?_
    refine k_aload_n K dX1_stabiliseMember_18 0 rfl ?_
    replace h := k_gd h
    obtain ⟨g4, h⟩ := h
    refine fg_X1_75 K dX1_stabiliseMember_19 g4 ?_
    replace h := k_bd h
    obtain ⟨r5, hr5, h⟩ := h
    refine cl_X1_204 K dX1_stabiliseMember_22 hr5 (by decide) (Nat.le_of_ble_eq_true rfl) (by decide) ?_
    refine k_astore_nQ (lv' := [(3, va_rf ((r5).map (kL w))), (2, .ref (kL w q2)), (0, .ref (kL w 0)), (1, .ref (kL w c1))]) K dX1_stabiliseMember_25 (by decide) rfl ?_
    refine k_aload_nQ K dX1_stabiliseMember_26 0 rfl ?_
    replace h := k_mn h
    rcases h with ⟨hq6, h⟩ | ⟨q6, hq6, h⟩
    · subst hq6
      refine k_ifnullN K 54 dX1_stabiliseMember_27 (by decide) ?_
      refine k_sub [2, 3] rfl ?_
      exact pX1_stabiliseMember_54 K hret h hO
    · subst hq6
      refine k_ifnull K dX1_stabiliseMember_27 ?_
      refine k_aload_n K dX1_stabiliseMember_30 3 rfl ?_
      replace h := k_gd h
      obtain ⟨g7, h⟩ := h
      refine fg_X1_89 K dX1_stabiliseMember_31 g7 ?_
      refine k_aload_n K dX1_stabiliseMember_34 0 rfl ?_
      replace h := k_gd h
      obtain ⟨g8, h⟩ := h
      refine fg_X1_89 K dX1_stabiliseMember_35 g8 ?_
      refine k_aload_n K dX1_stabiliseMember_38 1 rfl ?_
      refine fg_X1_89 K dX1_stabiliseMember_39 g4 ?_
      replace h := k_bd h
      obtain ⟨r9, hr9, h⟩ := h
      refine cl_X1_241 K dX1_stabiliseMember_42 hr9 (by decide) (Nat.le_of_ble_eq_true rfl) (by decide) ?_
      replace h := k_br h
      rcases h with ⟨b10, h⟩ | ⟨b10, h⟩
      · refine k_if_eq K 54 dX1_stabiliseMember_45 (by decide) (fun _ => ?_) (fun q => absurd b10 q)
        refine k_sub [2, 3] rfl ?_
        exact pX1_stabiliseMember_54 K hret h hO
      · refine k_if_eq K 54 dX1_stabiliseMember_45 (by decide) (fun q => absurd q b10) (fun _ => ?_)
        refine k_aload_n K dX1_stabiliseMember_48 2 rfl ?_
        refine k_aload_n K dX1_stabiliseMember_49 3 rfl ?_
        refine k_aload_n K dX1_stabiliseMember_50 0 rfl ?_
        replace h := k_bd h
        obtain ⟨r11, hr11, h⟩ := h
        refine cl_X1_85 K dX1_stabiliseMember_51 hr11 (by decide) (Nat.le_of_ble_eq_true rfl) (by decide) ?_
        refine k_sub [2, 3] rfl ?_
        exact pX1_stabiliseMember_54 K hret h hO
end F_X1_stabiliseMember
section C_X1_stabiliseMember
variable {w : kW} {p : Program} {l : Launch} {e : Env} {R : Room} {s : State} {m : MethodId} {args : Array Value} {below : List Frame} {meth : Method} {c : Code} {Q : State → Prop} {cc : ByteArray} {nL : Nat} {σ : kS} {pc : Nat} {lv : List (Nat × Value)} {st rest : List Value} {cells slots : Nat}
theorem cl_X1_104 (K : kC w p s m args meth c cc nL RX1) {a1 : Nat} {r : kS} (d : decode cc pc = .ok (.invokevirtual 104, 3)) (h : fX1_stabiliseMember σ a1 = some r) (hR : rmX1_stabiliseMember.frames + 1 ≤ R.frames ∧ 8 + (4 + 11) + rmX1_stabiliseMember.locals ≤ R.locals) (hr : (rest.map fun v => v.category).sum ≤ 8) (hf : cells + 0 ≤ R.cells ∧ slots + 0 ≤ R.slots) (kk : kG w p l e R s m args below meth c Q nL r (pc + 3) lv (rest) (cells + 0) (slots + 0)) : kG w p l e R s m args below meth c Q nL σ pc lv (.ref (kL w a1) :: .ref (kL w 0) :: rest) cells slots :=
  k_callVv (As := [.ref (kL w a1)]) (rest := rest) (n := 1) (C := RX1) (T := TX1) K d kd_0 rfl (kg_V tw_377 tw_379 tw_14 tw_48 tw_380) rfl (by decide +kernel) rfl hR hr rfl hf (mX1_stabiliseMember l w σ a1 h) ⟨rfl, rfl⟩ kk
end C_X1_stabiliseMember
section F_X1_pointUp
variable {w : kW} {p : Program} {l : Launch} {e : Env} {s : State} {m : MethodId} {args : Array Value} {below : List Frame} {meth : Method} {c : Code}
def fX1_pointUp (x0 : Int32) (x1 : Int32) : Option Int32 :=
  some ((x0 + x1) &&& 255)
def rmX1_pointUp : Room := { frames := 0, cells := 0, slots := 0, locals := 0 }
set_option maxRecDepth 20000 in
theorem mX1_pointUp (l : Launch) (w : kW) (σ0 : kS) (x0 : Int32) (x1 : Int32) {o : Int32} (h : fX1_pointUp x0 x1 = some o) : Met l yX1_pointUp (Cond.code yX1_pointUp cX1_pointUp 2 (some .int) :: TB) rmX1_pointUp (va_Pc [.int x0, .int x1] (kP w σ0)) (kQi w o σ0) 0 0 (kA w) := by
  refine k_met (by decide +kernel) [.int x0, .int x1] (Nat.le_of_ble_eq_true rfl) (by simp [lv_args, Value.category]) ?_
  intro p e s m args below meth c K hret
  have K : kC w p s m args meth c cX1_pointUp 2 RX1 := K
  obtain ⟨r, hro⟩ : ∃ r, r = o := ⟨o, rfl⟩
  rw [← hro] at h
  have hO : ∀ z, r = z → z = o := fun z e => by rw [← e]; exact hro
  unfold fX1_pointUp at h
  refine k_iload_n K dX1_pointUp_0 0 rfl ?_
  refine k_iload_n K dX1_pointUp_1 1 rfl ?_
  refine k_iadd K dX1_pointUp_2 ?_
  refine k_sipush (v := 255) K dX1_pointUp_3 (by decide) ?_
  refine k_iand K dX1_pointUp_6 ?_
  cases h
  obtain rfl := hO _ rfl
  exact k_iret (v := (x0 + x1) &&& 255) K hret dX1_pointUp_7 (by decide) (by decide)
end F_X1_pointUp
section C_X1_pointUp
variable {w : kW} {p : Program} {l : Launch} {e : Env} {R : Room} {s : State} {m : MethodId} {args : Array Value} {below : List Frame} {meth : Method} {c : Code} {Q : State → Prop} {cc : ByteArray} {nL : Nat} {σ : kS} {pc : Nat} {lv : List (Nat × Value)} {st rest : List Value} {cells slots : Nat}
theorem cl_X1_224 (K : kC w p s m args meth c cc nL RX1) {a1 : Int32} {a2 : Int32} {r : Int32} (d : decode cc pc = .ok (.invokestatic 224, 3)) (h : fX1_pointUp a1 a2 = some r) (hR : rmX1_pointUp.frames + 1 ≤ R.frames ∧ 8 + (2 + 11) + rmX1_pointUp.locals ≤ R.locals) (hr : (rest.map fun v => v.category).sum ≤ 8) (hf : cells + 0 ≤ R.cells ∧ slots + 0 ≤ R.slots) (kk : kG w p l e R s m args below meth c Q nL σ (pc + 3) lv (.int r :: rest) (cells + 0) (slots + 0)) : kG w p l e R s m args below meth c Q nL σ pc lv (.int a2 :: .int a1 :: rest) cells slots :=
  k_callSi (As := [.int a1, .int a2]) (rest := rest) (n := 2) K d (kg_S tw_397 tw_398 tw_48 tw_399) (by decide +kernel) rfl hR hr rfl hf (mX1_pointUp l w σ a1 a2 h) ⟨rfl, rfl⟩ kk
end C_X1_pointUp
section F_X1_ownerKnownBy
variable {w : kW} {p : Program} {l : Launch} {e : Env} {s : State} {m : MethodId} {args : Array Value} {below : List Frame} {meth : Method} {c : Code}
def fX1_ownerKnownBy (σ : kS) (c1 : Nat) (x2 : Int32) : Option (Option Nat) :=
  if kd c1 = (0, 0, 8) then
    if x2 = (σ.1 c1 5) then
      some (some c1)
    else
      (fX1_successor σ c1).bind fun r3 =>
      kmn (r3) (
        some (none)
      ) fun q4 =>
        if kd q4 = (0, 0, 8) then
          if x2 = (σ.1 q4 5) then
            some (some q4)
          else
            (fX1_isBetween (σ.1 c1 5) x2 (σ.1 q4 5)).bind fun r7 =>
            if r7 = 0 then
              some (none)
            else
              some (some q4)
        else none
  else none
def rmX1_ownerKnownBy : Room := { frames := 3, cells := 0, slots := 0, locals := 64 }
set_option maxRecDepth 20000 in
theorem mX1_ownerKnownBy (l : Launch) (w : kW) (σ : kS) (c1 : Nat) (x2 : Int32) {o : (Option Nat)} (h : fX1_ownerKnownBy σ c1 x2 = some o) : Met l yX1_ownerKnownBy (Cond.code yX1_ownerKnownBy cX1_ownerKnownBy 4 (some (.object "KeyRing$Member")) :: TB) rmX1_ownerKnownBy (va_Pc [.ref (kL w 0), .ref (kL w c1), .int x2] (kP w σ)) (kQq w o σ) 0 0 (kA w) := by
  refine k_met (by decide +kernel) [.ref (kL w 0), .ref (kL w c1), .int x2] (Nat.le_of_ble_eq_true rfl) (by simp [lv_args, Value.category]) ?_
  intro p e s m args below meth c K hret
  have K : kC w p s m args meth c cX1_ownerKnownBy 4 RX1 := K
  obtain ⟨r, hro⟩ : ∃ r, r = o := ⟨o, rfl⟩
  rw [← hro] at h
  have hO : ∀ z, r = z → z = o := fun z e => by rw [← e]; exact hro
  unfold fX1_ownerKnownBy at h
  refine k_iload_n K dX1_ownerKnownBy_0 2 rfl ?_
  refine k_aload_n K dX1_ownerKnownBy_1 1 rfl ?_
  replace h := k_gd h
  obtain ⟨g1, h⟩ := h
  refine fg_X1_89 K dX1_ownerKnownBy_2 g1 ?_
  replace h := k_br h
  rcases h with ⟨b2, h⟩ | ⟨b2, h⟩
  · refine k_icmp_ne K 10 dX1_ownerKnownBy_5 (by decide) (fun q => absurd b2 q) (fun _ => ?_)
    refine k_aload_n K dX1_ownerKnownBy_8 1 rfl ?_
    cases h
    obtain rfl := hO _ rfl
    exact k_aret (v := some c1) K hret dX1_ownerKnownBy_9 (by decide) (by decide)
  · refine k_icmp_ne K 10 dX1_ownerKnownBy_5 (by decide) (fun _ => ?_) (fun q => absurd q b2)
    refine k_aload_n K dX1_ownerKnownBy_10 0 rfl ?_
    refine k_aload_n K dX1_ownerKnownBy_11 1 rfl ?_
    replace h := k_bd h
    obtain ⟨r3, hr3, h⟩ := h
    refine cl_X1_107 K dX1_ownerKnownBy_12 hr3 (by decide) (Nat.le_of_ble_eq_true rfl) (by decide) ?_
    refine k_astore_nQ (lv' := [(3, va_rf ((r3).map (kL w))), (0, .ref (kL w 0)), (1, .ref (kL w c1)), (2, .int x2)]) K dX1_ownerKnownBy_15 (by decide) rfl ?_
    refine k_aload_nQ K dX1_ownerKnownBy_16 0 rfl ?_
    replace h := k_mn h
    rcases h with ⟨hq4, h⟩ | ⟨q4, hq4, h⟩
    · subst hq4
      refine k_ifnullN K 45 dX1_ownerKnownBy_17 (by decide) ?_
      refine k_null K dX1_ownerKnownBy_45 ?_
      cases h
      obtain rfl := hO _ rfl
      exact k_aret (v := none) K hret dX1_ownerKnownBy_46 (by decide) (by decide)
    · subst hq4
      refine k_ifnull K dX1_ownerKnownBy_17 ?_
      refine k_iload_n K dX1_ownerKnownBy_20 3 rfl ?_
      refine k_aload_n K dX1_ownerKnownBy_21 0 rfl ?_
      replace h := k_gd h
      obtain ⟨g5, h⟩ := h
      refine fg_X1_89 K dX1_ownerKnownBy_22 g5 ?_
      replace h := k_br h
      rcases h with ⟨b6, h⟩ | ⟨b6, h⟩
      · refine k_icmp_eq K 43 dX1_ownerKnownBy_25 (by decide) (fun _ => ?_) (fun q => absurd b6 q)
        refine k_aload_n K dX1_ownerKnownBy_43 0 rfl ?_
        cases h
        obtain rfl := hO _ rfl
        exact k_aret (v := some q4) K hret dX1_ownerKnownBy_44 (by decide) (by decide)
      · refine k_icmp_eq K 43 dX1_ownerKnownBy_25 (by decide) (fun q => absurd q b6) (fun _ => ?_)
        refine k_aload_n K dX1_ownerKnownBy_28 2 rfl ?_
        refine fg_X1_89 K dX1_ownerKnownBy_29 g1 ?_
        refine k_iload_n K dX1_ownerKnownBy_32 3 rfl ?_
        refine k_aload_n K dX1_ownerKnownBy_33 0 rfl ?_
        refine fg_X1_89 K dX1_ownerKnownBy_34 g5 ?_
        replace h := k_bd h
        obtain ⟨r7, hr7, h⟩ := h
        refine cl_X1_241 K dX1_ownerKnownBy_37 hr7 (by decide) (Nat.le_of_ble_eq_true rfl) (by decide) ?_
        replace h := k_br h
        rcases h with ⟨b8, h⟩ | ⟨b8, h⟩
        · refine k_if_eq K 45 dX1_ownerKnownBy_40 (by decide) (fun _ => ?_) (fun q => absurd b8 q)
          refine k_null K dX1_ownerKnownBy_45 ?_
          cases h
          obtain rfl := hO _ rfl
          exact k_aret (v := none) K hret dX1_ownerKnownBy_46 (by decide) (by decide)
        · refine k_if_eq K 45 dX1_ownerKnownBy_40 (by decide) (fun q => absurd q b8) (fun _ => ?_)
          refine k_aload_n K dX1_ownerKnownBy_43 0 rfl ?_
          cases h
          obtain rfl := hO _ rfl
          exact k_aret (v := some q4) K hret dX1_ownerKnownBy_44 (by decide) (by decide)
end F_X1_ownerKnownBy
section C_X1_ownerKnownBy
variable {w : kW} {p : Program} {l : Launch} {e : Env} {R : Room} {s : State} {m : MethodId} {args : Array Value} {below : List Frame} {meth : Method} {c : Code} {Q : State → Prop} {cc : ByteArray} {nL : Nat} {σ : kS} {pc : Nat} {lv : List (Nat × Value)} {st rest : List Value} {cells slots : Nat}
theorem cl_X1_235 (K : kC w p s m args meth c cc nL RX1) {a1 : Nat} {a2 : Int32} {r : (Option Nat)} (d : decode cc pc = .ok (.invokevirtual 235, 3)) (h : fX1_ownerKnownBy σ a1 a2 = some r) (hR : rmX1_ownerKnownBy.frames + 1 ≤ R.frames ∧ 8 + (4 + 11) + rmX1_ownerKnownBy.locals ≤ R.locals) (hr : (rest.map fun v => v.category).sum ≤ 8) (hf : cells + 0 ≤ R.cells ∧ slots + 0 ≤ R.slots) (kk : kG w p l e R s m args below meth c Q nL σ (pc + 3) lv (va_rf (r.map (kL w)) :: rest) (cells + 0) (slots + 0)) : kG w p l e R s m args below meth c Q nL σ pc lv (.int a2 :: .ref (kL w a1) :: .ref (kL w 0) :: rest) cells slots :=
  k_callVq (As := [.ref (kL w a1), .int a2]) (rest := rest) (n := 2) (C := RX1) (T := TX1) K d kd_0 rfl (kg_V tw_331 tw_333 tw_8 tw_48 tw_334) rfl (by decide +kernel) rfl hR hr rfl hf (mX1_ownerKnownBy l w σ a1 a2 h) ⟨rfl, rfl⟩ kk
end C_X1_ownerKnownBy
section F_X1_lastKnownAheadOf
variable {w : kW} {p : Program} {l : Launch} {e : Env} {s : State} {m : MethodId} {args : Array Value} {below : List Frame} {meth : Method} {c : Code}
def fX1_lastKnownAheadOf_78 (c1 : Nat) (x2 : Int32) (c3 : Nat) (x4 : Int32) (σ : kS) : Option ((Nat × Int32) ⊕ Nat) :=
  some (.inl (c3, x4 + 1))
def fX1_lastKnownAheadOf_49 (c1 : Nat) (x2 : Int32) (c3 : Nat) (x4 : Int32) (t1 : Int32) (σ : kS) : Option ((Nat × Int32) ⊕ Nat) :=
  (fX1_liveAt σ t1).bind fun r1 =>
  kmn (r1) (
    fX1_lastKnownAheadOf_78 c1 x2 c3 x4 σ
  ) fun q2 =>
    if kd c3 = (0, 0, 8) then
      if kd q2 = (0, 0, 8) then
        (fX1_isBetween (σ.1 c3 5) (σ.1 q2 5) x2).bind fun r5 =>
        if r5 = 0 then
          fX1_lastKnownAheadOf_78 c1 x2 c3 x4 σ
        else
          fX1_lastKnownAheadOf_78 c1 x2 q2 x4 σ
      else none
    else none
def gX1_lastKnownAheadOf_5 (c1 : Nat) (x2 : Int32) (σ : kS) (c3 : Nat) (x4 : Int32) : Option ((Nat × Int32) ⊕ Nat) :=
  if ((σ.1 0 7) + 8) ≤ x4 then
    some (.inr (c3))
  else
    if (σ.1 0 7) ≤ x4 then
      if kd c1 = (0, 0, 8) then
        if vpi (x4 - (σ.1 0 7)) 8 then
          fX1_lastKnownAheadOf_49 c1 x2 c3 x4 (σ.1 (c1 + 1 + 1) (x4 - (σ.1 0 7)).toNatClampNeg) σ
        else none
      else none
    else
      if kd c1 = (0, 0, 8) then
        if vpi x4 4 then
          fX1_lastKnownAheadOf_49 c1 x2 c3 x4 (σ.1 (c1 + 1 + 0) x4.toNatClampNeg) σ
        else none
      else none
def fX1_lastKnownAheadOf_5 (c1 : Nat) (x2 : Int32) (σ : kS) (a : Nat × Int32) : Option ((Nat × Int32) ⊕ Nat) := gX1_lastKnownAheadOf_5 c1 x2 σ a.1 a.2
def fX1_lastKnownAheadOf (σ : kS) (c1 : Nat) (x2 : Int32) : Option Nat :=
  kit (fX1_lastKnownAheadOf_5 c1 x2 σ) 300 (c1, 0)
def rmX1_lastKnownAheadOf : Room := { frames := 2, cells := 0, slots := 0, locals := 45 }
set_option maxRecDepth 20000 in
theorem pX1_lastKnownAheadOf_78 (K : kC w p s m args meth c cX1_lastKnownAheadOf 6 RX1) (hret : meth.sig.returnType = (some (.object "KeyRing$Member"))) {c1 : Nat} {x2 : Int32} {c3 : Nat} {x4 : Int32} {σ : kS} {r : ((Nat × Int32) ⊕ Nat)} {o : Nat} (h : fX1_lastKnownAheadOf_78 c1 x2 c3 x4 σ = some r) (hL5 : ∀ z, r = .inl z → kG w p l e rmX1_lastKnownAheadOf s m args below meth c (MQ below (kQq w (some o) σ) args s 0 0 (kA w)) 6 σ 5 [(0, .ref (kL w 0)), (1, .ref (kL w c1)), (2, .int x2), (3, .ref (kL w (z.1))), (4, .int (z.2))] [] 0 0) (hO : ∀ z, r = .inr z → z = o) : kG w p l e rmX1_lastKnownAheadOf s m args below meth c (MQ below (kQq w (some o) σ) args s 0 0 (kA w)) 6 σ 78 [(0, .ref (kL w 0)), (1, .ref (kL w c1)), (2, .int x2), (3, .ref (kL w c3)), (4, .int x4)] [] 0 0 := by
  unfold fX1_lastKnownAheadOf_78 at h
  refine k_iinc (v := 1) (lv' := [(4, .int (x4 + 1)), (0, .ref (kL w 0)), (1, .ref (kL w c1)), (2, .int x2), (3, .ref (kL w c3))]) K dX1_lastKnownAheadOf_78 4 rfl (by decide) (by decide) rfl ?_
  refine k_goto K 5 dX1_lastKnownAheadOf_81 (by decide) ?_
  refine k_sub [1, 2, 3, 4, 0] rfl ?_
  cases h
  exact hL5 _ rfl
set_option maxRecDepth 20000 in
theorem pX1_lastKnownAheadOf_49 (K : kC w p s m args meth c cX1_lastKnownAheadOf 6 RX1) (hret : meth.sig.returnType = (some (.object "KeyRing$Member"))) {c1 : Nat} {x2 : Int32} {c3 : Nat} {x4 : Int32} {t1 : Int32} {σ : kS} {r : ((Nat × Int32) ⊕ Nat)} {o : Nat} (h : fX1_lastKnownAheadOf_49 c1 x2 c3 x4 t1 σ = some r) (hL5 : ∀ z, r = .inl z → kG w p l e rmX1_lastKnownAheadOf s m args below meth c (MQ below (kQq w (some o) σ) args s 0 0 (kA w)) 6 σ 5 [(0, .ref (kL w 0)), (1, .ref (kL w c1)), (2, .int x2), (3, .ref (kL w (z.1))), (4, .int (z.2))] [] 0 0) (hO : ∀ z, r = .inr z → z = o) : kG w p l e rmX1_lastKnownAheadOf s m args below meth c (MQ below (kQq w (some o) σ) args s 0 0 (kA w)) 6 σ 49 [(0, .ref (kL w 0)), (1, .ref (kL w c1)), (2, .int x2), (3, .ref (kL w c3)), (4, .int x4)] [.int t1, .ref (kL w 0)] 0 0 := by
  unfold fX1_lastKnownAheadOf_49 at h
  replace h := k_bd h
  obtain ⟨r1, hr1, h⟩ := h
  refine cl_X1_204 K dX1_lastKnownAheadOf_49 hr1 (by decide) (Nat.le_of_ble_eq_true rfl) (by decide) ?_
  refine k_astoreQ (lv' := [(5, va_rf ((r1).map (kL w))), (0, .ref (kL w 0)), (1, .ref (kL w c1)), (2, .int x2), (3, .ref (kL w c3)), (4, .int x4)]) K dX1_lastKnownAheadOf_52 (by decide) rfl ?_
  refine k_aloadQ K dX1_lastKnownAheadOf_54 0 rfl ?_
  replace h := k_mn h
  rcases h with ⟨hq2, h⟩ | ⟨q2, hq2, h⟩
  · subst hq2
    refine k_ifnullN K 78 dX1_lastKnownAheadOf_56 (by decide) ?_
    refine k_sub [1, 2, 3, 4, 5] rfl ?_
    exact pX1_lastKnownAheadOf_78 K hret h hL5 hO
  · subst hq2
    refine k_ifnull K dX1_lastKnownAheadOf_56 ?_
    refine k_aload_n K dX1_lastKnownAheadOf_59 4 rfl ?_
    replace h := k_gd h
    obtain ⟨g3, h⟩ := h
    refine fg_X1_89 K dX1_lastKnownAheadOf_60 g3 ?_
    refine k_aload K dX1_lastKnownAheadOf_63 0 rfl ?_
    replace h := k_gd h
    obtain ⟨g4, h⟩ := h
    refine fg_X1_89 K dX1_lastKnownAheadOf_65 g4 ?_
    refine k_iload_n K dX1_lastKnownAheadOf_68 3 rfl ?_
    replace h := k_bd h
    obtain ⟨r5, hr5, h⟩ := h
    refine cl_X1_241 K dX1_lastKnownAheadOf_69 hr5 (by decide) (Nat.le_of_ble_eq_true rfl) (by decide) ?_
    replace h := k_br h
    rcases h with ⟨b6, h⟩ | ⟨b6, h⟩
    · refine k_if_eq K 78 dX1_lastKnownAheadOf_72 (by decide) (fun _ => ?_) (fun q => absurd b6 q)
      refine k_sub [1, 2, 3, 4, 5] rfl ?_
      exact pX1_lastKnownAheadOf_78 K hret h hL5 hO
    · refine k_if_eq K 78 dX1_lastKnownAheadOf_72 (by decide) (fun q => absurd q b6) (fun _ => ?_)
      refine k_aload K dX1_lastKnownAheadOf_75 0 rfl ?_
      refine k_astore_n (lv' := [(3, .ref (kL w q2)), (5, .ref (kL w q2)), (0, .ref (kL w 0)), (1, .ref (kL w c1)), (2, .int x2), (4, .int x4)]) K dX1_lastKnownAheadOf_77 (by decide) rfl ?_
      refine k_sub [2, 3, 4, 0, 5] rfl ?_
      exact pX1_lastKnownAheadOf_78 K hret h hL5 hO
set_option maxRecDepth 20000 in
theorem pX1_lastKnownAheadOf_5 (K : kC w p s m args meth c cX1_lastKnownAheadOf 6 RX1) (hret : meth.sig.returnType = (some (.object "KeyRing$Member"))) {c1 : Nat} {x2 : Int32} {σ : kS} {c3 : Nat} {x4 : Int32} {r : ((Nat × Int32) ⊕ Nat)} {o : Nat} (h : gX1_lastKnownAheadOf_5 c1 x2 σ c3 x4 = some r) (hL5 : ∀ z, r = .inl z → kG w p l e rmX1_lastKnownAheadOf s m args below meth c (MQ below (kQq w (some o) σ) args s 0 0 (kA w)) 6 σ 5 [(0, .ref (kL w 0)), (1, .ref (kL w c1)), (2, .int x2), (3, .ref (kL w (z.1))), (4, .int (z.2))] [] 0 0) (hO : ∀ z, r = .inr z → z = o) : kG w p l e rmX1_lastKnownAheadOf s m args below meth c (MQ below (kQq w (some o) σ) args s 0 0 (kA w)) 6 σ 5 [(0, .ref (kL w 0)), (1, .ref (kL w c1)), (2, .int x2), (3, .ref (kL w c3)), (4, .int x4)] [] 0 0 := by
  unfold gX1_lastKnownAheadOf_5 at h
  refine k_iload K dX1_lastKnownAheadOf_5 4 rfl ?_
  refine k_aload_n K dX1_lastKnownAheadOf_7 0 rfl ?_
  refine fg_X1_30 K dX1_lastKnownAheadOf_8 ?_
  refine k_bipush (v := 8) K dX1_lastKnownAheadOf_11 (by decide) ?_
  refine k_iadd K dX1_lastKnownAheadOf_13 ?_
  replace h := k_br h
  rcases h with ⟨b1, h⟩ | ⟨b1, h⟩
  · refine k_icmp_ge K 84 dX1_lastKnownAheadOf_14 (by decide) (fun _ => ?_) (fun q => absurd b1 q)
    refine k_aload_n K dX1_lastKnownAheadOf_84 3 rfl ?_
    cases h
    obtain rfl := hO _ rfl
    exact k_aret (v := some c3) K hret dX1_lastKnownAheadOf_85 (by decide) (by decide)
  · refine k_icmp_ge K 84 dX1_lastKnownAheadOf_14 (by decide) (fun q => absurd q b1) (fun _ => ?_)
    refine k_aload_n K dX1_lastKnownAheadOf_17 0 rfl ?_
    refine k_iload K dX1_lastKnownAheadOf_18 4 rfl ?_
    refine k_aload_n K dX1_lastKnownAheadOf_20 0 rfl ?_
    refine fg_X1_30 K dX1_lastKnownAheadOf_21 ?_
    replace h := k_br h
    rcases h with ⟨b2, h⟩ | ⟨b2, h⟩
    · refine k_icmp_ge K 37 dX1_lastKnownAheadOf_24 (by decide) (fun _ => ?_) (fun q => absurd b2 q)
      refine k_aload_n K dX1_lastKnownAheadOf_37 1 rfl ?_
      replace h := k_gd h
      obtain ⟨g3, h⟩ := h
      refine fg_X1_120 K dX1_lastKnownAheadOf_38 g3 ?_
      refine k_iload K dX1_lastKnownAheadOf_41 4 rfl ?_
      refine k_aload_n K dX1_lastKnownAheadOf_43 0 rfl ?_
      refine fg_X1_30 K dX1_lastKnownAheadOf_44 ?_
      refine k_isub K dX1_lastKnownAheadOf_47 ?_
      replace h := k_gd h
      obtain ⟨g4, h⟩ := h
      refine k_iald K dX1_lastKnownAheadOf_48 (kd_m0 g3).2.1 g4 ?_
      exact pX1_lastKnownAheadOf_49 K hret h hL5 hO
    · refine k_icmp_ge K 37 dX1_lastKnownAheadOf_24 (by decide) (fun q => absurd q b2) (fun _ => ?_)
      refine k_aload_n K dX1_lastKnownAheadOf_27 1 rfl ?_
      replace h := k_gd h
      obtain ⟨g5, h⟩ := h
      refine fg_X1_68 K dX1_lastKnownAheadOf_28 g5 ?_
      refine k_iload K dX1_lastKnownAheadOf_31 4 rfl ?_
      replace h := k_gd h
      obtain ⟨g6, h⟩ := h
      refine k_iald K dX1_lastKnownAheadOf_33 (kd_m0 g5).1 g6 ?_
      refine k_goto K 49 dX1_lastKnownAheadOf_34 (by decide) ?_
      exact pX1_lastKnownAheadOf_49 K hret h hL5 hO
set_option maxRecDepth 20000 in
theorem lX1_lastKnownAheadOf_5 (K : kC w p s m args meth c cX1_lastKnownAheadOf 6 RX1) (hret : meth.sig.returnType = (some (.object "KeyRing$Member"))) {c1 : Nat} {x2 : Int32} {σ : kS} {n : Nat} {a : Nat × Int32} {r : Nat} {o : Nat} (h : kit (fX1_lastKnownAheadOf_5 c1 x2 σ) n a = some r) (hO : ∀ z, r = z → z = o) : kG w p l e rmX1_lastKnownAheadOf s m args below meth c (MQ below (kQq w (some o) σ) args s 0 0 (kA w)) 6 σ 5 [(0, .ref (kL w 0)), (1, .ref (kL w c1)), (2, .int x2), (3, .ref (kL w (a.1))), (4, .int (a.2))] [] 0 0 :=
  kit_ind (body := fX1_lastKnownAheadOf_5 c1 x2 σ) (fun a r => (∀ z, r = z → z = o) → kG w p l e rmX1_lastKnownAheadOf s m args below meth c (MQ below (kQq w (some o) σ) args s 0 0 (kA w)) 6 σ 5 [(0, .ref (kL w 0)), (1, .ref (kL w c1)), (2, .int x2), (3, .ref (kL w (a.1))), (4, .int (a.2))] [] 0 0) (fun a a2 r hb ih hO => pX1_lastKnownAheadOf_5 K hret hb (fun z e => by cases e; exact ih hO) (fun _ e => by cases e)) (fun a r hb hO => pX1_lastKnownAheadOf_5 K hret hb (fun _ e => by cases e) (fun z e => hO z (by cases e; rfl))) n a r h hO
set_option maxRecDepth 20000 in
theorem mX1_lastKnownAheadOf (l : Launch) (w : kW) (σ : kS) (c1 : Nat) (x2 : Int32) {o : Nat} (h : fX1_lastKnownAheadOf σ c1 x2 = some o) : Met l yX1_lastKnownAheadOf (Cond.code yX1_lastKnownAheadOf cX1_lastKnownAheadOf 6 (some (.object "KeyRing$Member")) :: TB) rmX1_lastKnownAheadOf (va_Pc [.ref (kL w 0), .ref (kL w c1), .int x2] (kP w σ)) (kQq w (some o) σ) 0 0 (kA w) := by
  refine k_met (by decide +kernel) [.ref (kL w 0), .ref (kL w c1), .int x2] (Nat.le_of_ble_eq_true rfl) (by simp [lv_args, Value.category]) ?_
  intro p e s m args below meth c K hret
  have K : kC w p s m args meth c cX1_lastKnownAheadOf 6 RX1 := K
  obtain ⟨r, hro⟩ : ∃ r, r = o := ⟨o, rfl⟩
  rw [← hro] at h
  have hO : ∀ z, r = z → z = o := fun z e => by rw [← e]; exact hro
  unfold fX1_lastKnownAheadOf at h
  refine k_aload_n K dX1_lastKnownAheadOf_0 1 rfl ?_
  refine k_astore_n (lv' := [(3, .ref (kL w c1)), (0, .ref (kL w 0)), (1, .ref (kL w c1)), (2, .int x2)]) K dX1_lastKnownAheadOf_1 (by decide) rfl ?_
  refine k_iconst (v := 0) K dX1_lastKnownAheadOf_2 (by decide) ?_
  refine k_istore (lv' := [(4, .int 0), (3, .ref (kL w c1)), (0, .ref (kL w 0)), (1, .ref (kL w c1)), (2, .int x2)]) K dX1_lastKnownAheadOf_3 (by decide) rfl ?_
  refine k_sub [2, 3, 4, 1, 0] rfl ?_
  exact lX1_lastKnownAheadOf_5 K hret h hO
end F_X1_lastKnownAheadOf
section C_X1_lastKnownAheadOf
variable {w : kW} {p : Program} {l : Launch} {e : Env} {R : Room} {s : State} {m : MethodId} {args : Array Value} {below : List Frame} {meth : Method} {c : Code} {Q : State → Prop} {cc : ByteArray} {nL : Nat} {σ : kS} {pc : Nat} {lv : List (Nat × Value)} {st rest : List Value} {cells slots : Nat}
theorem cl_X1_238 (K : kC w p s m args meth c cc nL RX1) {a1 : Nat} {a2 : Int32} {r : Nat} (d : decode cc pc = .ok (.invokevirtual 238, 3)) (h : fX1_lastKnownAheadOf σ a1 a2 = some r) (hR : rmX1_lastKnownAheadOf.frames + 1 ≤ R.frames ∧ 8 + (6 + 11) + rmX1_lastKnownAheadOf.locals ≤ R.locals) (hr : (rest.map fun v => v.category).sum ≤ 8) (hf : cells + 0 ≤ R.cells ∧ slots + 0 ≤ R.slots) (kk : kG w p l e R s m args below meth c Q nL σ (pc + 3) lv (.ref (kL w r) :: rest) (cells + 0) (slots + 0)) : kG w p l e R s m args below meth c Q nL σ pc lv (.int a2 :: .ref (kL w a1) :: .ref (kL w 0) :: rest) cells slots :=
  k_callVq (As := [.ref (kL w a1), .int a2]) (rest := rest) (n := 2) (C := RX1) (T := TX1) K d kd_0 rfl (kg_V tw_345 tw_347 tw_10 tw_48 tw_348) rfl (by decide +kernel) rfl hR hr rfl hf (mX1_lastKnownAheadOf l w σ a1 a2 h) ⟨rfl, rfl⟩ kk
end C_X1_lastKnownAheadOf
section F_X1_lookFor
variable {w : kW} {p : Program} {l : Launch} {e : Env} {s : State} {m : MethodId} {args : Array Value} {below : List Frame} {meth : Method} {c : Code}
def gX1_lookFor_10 (x2 : Int32) (c3 : Nat) (x4 : Int32) (σ : kS) : Option ((Nat × Int32 × kS) ⊕ (Nat × kS)) :=
  if 20 ≤ x4 then
    some (.inr ((c3, σ)))
  else
    (fX1_ownerKnownBy σ c3 x2).bind fun r2 =>
    kmn (r2) (
      (fX1_lastKnownAheadOf σ c3 x2).bind fun r4 =>
      if kd r4 = (0, 0, 8) then
        if vpi x4 20 then
          some (.inl (r4, x4 + 1, sI (sI (sI σ 124 x4.toNatClampNeg (σ.1 r4 5)) 0 4 (((sI σ 124 x4.toNatClampNeg (σ.1 r4 5)).1 0 4) + 1)) 0 11 (((sI (sI σ 124 x4.toNatClampNeg (σ.1 r4 5)) 0 4 (((sI σ 124 x4.toNatClampNeg (σ.1 r4 5)).1 0 4) + 1)).1 0 11) + 1)))
        else none
      else none
    ) fun q3 =>
      some (.inr ((q3, σ)))
def fX1_lookFor_10 (x2 : Int32) (a : Nat × Int32 × kS) : Option ((Nat × Int32 × kS) ⊕ (Nat × kS)) := gX1_lookFor_10 x2 a.1 a.2.1 a.2.2
def fX1_lookFor (σ : kS) (c1 : Nat) (x2 : Int32) : Option (Nat × kS) :=
  kit (fX1_lookFor_10 x2) 300 (c1, 0, sI σ 0 4 0)
def rmX1_lookFor : Room := { frames := 4, cells := 0, slots := 0, locals := 87 }
set_option maxRecDepth 20000 in
theorem pX1_lookFor_10 (K : kC w p s m args meth c cX1_lookFor 6 RX1) (hret : meth.sig.returnType = (some (.object "KeyRing$Member"))) {x2 : Int32} {c3 : Nat} {x4 : Int32} {σ : kS} {r : ((Nat × Int32 × kS) ⊕ (Nat × kS))} {o : (Nat × kS)} (h : gX1_lookFor_10 x2 c3 x4 σ = some r) (hL10 : ∀ z, r = .inl z → kG w p l e rmX1_lookFor s m args below meth c (MQ below (kQq w (some o.1) o.2) args s 0 0 (kA w)) 6 z.2.2 10 [(0, .ref (kL w 0)), (2, .int x2), (3, .ref (kL w (z.1))), (4, .int (z.2.1))] [] 0 0) (hO : ∀ z, r = .inr z → z = o) : kG w p l e rmX1_lookFor s m args below meth c (MQ below (kQq w (some o.1) o.2) args s 0 0 (kA w)) 6 σ 10 [(0, .ref (kL w 0)), (2, .int x2), (3, .ref (kL w c3)), (4, .int x4)] [] 0 0 := by
  unfold gX1_lookFor_10 at h
  refine k_iload K dX1_lookFor_10 3 rfl ?_
  refine k_bipush (v := 20) K dX1_lookFor_12 (by decide) ?_
  replace h := k_br h
  rcases h with ⟨b1, h⟩ | ⟨b1, h⟩
  · refine k_icmp_ge K 77 dX1_lookFor_14 (by decide) (fun _ => ?_) (fun q => absurd b1 q)
    refine k_aload_n K dX1_lookFor_77 2 rfl ?_
    cases h
    obtain rfl := hO _ rfl
    exact k_aret (v := some c3) K hret dX1_lookFor_78 (by decide) (by decide)
  · refine k_icmp_ge K 77 dX1_lookFor_14 (by decide) (fun q => absurd q b1) (fun _ => ?_)
    refine k_aload_n K dX1_lookFor_17 0 rfl ?_
    refine k_aload_n K dX1_lookFor_18 2 rfl ?_
    refine k_iload_n K dX1_lookFor_19 1 rfl ?_
    replace h := k_bd h
    obtain ⟨r2, hr2, h⟩ := h
    refine cl_X1_235 K dX1_lookFor_20 hr2 (by decide) (Nat.le_of_ble_eq_true rfl) (by decide) ?_
    refine k_astoreQ (lv' := [(5, va_rf ((r2).map (kL w))), (0, .ref (kL w 0)), (2, .int x2), (3, .ref (kL w c3)), (4, .int x4)]) K dX1_lookFor_23 (by decide) rfl ?_
    refine k_aloadQ K dX1_lookFor_25 0 rfl ?_
    replace h := k_mn h
    rcases h with ⟨hq3, h⟩ | ⟨q3, hq3, h⟩
    · subst hq3
      refine k_ifnullN K 33 dX1_lookFor_27 (by decide) ?_
      refine k_aload_n K dX1_lookFor_33 1 rfl ?_
      refine k_aload_n K dX1_lookFor_34 3 rfl ?_
      refine k_iload_n K dX1_lookFor_35 2 rfl ?_
      replace h := k_bd h
      obtain ⟨r4, hr4, h⟩ := h
      refine cl_X1_238 K dX1_lookFor_36 hr4 (by decide) (Nat.le_of_ble_eq_true rfl) (by decide) ?_
      refine k_astore_n (lv' := [(3, .ref (kL w r4)), (5, .null), (0, .ref (kL w 0)), (2, .int x2), (4, .int x4)]) K dX1_lookFor_39 (by decide) rfl ?_
      refine k_aload_n K dX1_lookFor_40 2 rfl ?_
      refine fg_X1_23 K dX1_lookFor_41 ?_
      refine k_iload K dX1_lookFor_44 4 rfl ?_
      refine k_aload_n K dX1_lookFor_46 0 rfl ?_
      replace h := k_gd h
      obtain ⟨g5, h⟩ := h
      refine fg_X1_89 K dX1_lookFor_47 g5 ?_
      replace h := k_gd h
      obtain ⟨g6, h⟩ := h
      refine k_iast K dX1_lookFor_50 kd_124 g6 ?_
      refine k_aload_n K dX1_lookFor_51 2 rfl ?_
      refine k_dup K dX1_lookFor_52 rfl ?_
      refine fg_X1_143 K dX1_lookFor_53 ?_
      refine k_iconst (v := 1) K dX1_lookFor_56 (by decide) ?_
      refine k_iadd K dX1_lookFor_57 ?_
      refine fp_X1_143 K dX1_lookFor_58 ?_
      refine k_aload_n K dX1_lookFor_61 2 rfl ?_
      refine k_dup K dX1_lookFor_62 rfl ?_
      refine fg_X1_199 K dX1_lookFor_63 ?_
      refine k_iconst (v := 1) K dX1_lookFor_66 (by decide) ?_
      refine k_iadd K dX1_lookFor_67 ?_
      refine fp_X1_199 K dX1_lookFor_68 ?_
      refine k_iinc (v := 1) (lv' := [(4, .int (x4 + 1)), (3, .ref (kL w r4)), (5, .null), (0, .ref (kL w 0)), (2, .int x2)]) K dX1_lookFor_71 4 rfl (by decide) (by decide) rfl ?_
      refine k_goto K 10 dX1_lookFor_74 (by decide) ?_
      refine k_sub [3, 4, 1, 0] rfl ?_
      cases h
      exact hL10 _ rfl
    · subst hq3
      refine k_ifnull K dX1_lookFor_27 ?_
      refine k_aload K dX1_lookFor_30 0 rfl ?_
      cases h
      obtain rfl := hO _ rfl
      exact k_aret (v := some q3) K hret dX1_lookFor_32 (by decide) (by decide)
set_option maxRecDepth 20000 in
theorem lX1_lookFor_10 (K : kC w p s m args meth c cX1_lookFor 6 RX1) (hret : meth.sig.returnType = (some (.object "KeyRing$Member"))) {x2 : Int32} {n : Nat} {a : Nat × Int32 × kS} {r : (Nat × kS)} {o : (Nat × kS)} (h : kit (fX1_lookFor_10 x2) n a = some r) (hO : ∀ z, r = z → z = o) : kG w p l e rmX1_lookFor s m args below meth c (MQ below (kQq w (some o.1) o.2) args s 0 0 (kA w)) 6 a.2.2 10 [(0, .ref (kL w 0)), (2, .int x2), (3, .ref (kL w (a.1))), (4, .int (a.2.1))] [] 0 0 :=
  kit_ind (body := fX1_lookFor_10 x2) (fun a r => (∀ z, r = z → z = o) → kG w p l e rmX1_lookFor s m args below meth c (MQ below (kQq w (some o.1) o.2) args s 0 0 (kA w)) 6 a.2.2 10 [(0, .ref (kL w 0)), (2, .int x2), (3, .ref (kL w (a.1))), (4, .int (a.2.1))] [] 0 0) (fun a a2 r hb ih hO => pX1_lookFor_10 K hret hb (fun z e => by cases e; exact ih hO) (fun _ e => by cases e)) (fun a r hb hO => pX1_lookFor_10 K hret hb (fun _ e => by cases e) (fun z e => hO z (by cases e; rfl))) n a r h hO
set_option maxRecDepth 20000 in
theorem mX1_lookFor (l : Launch) (w : kW) (σ : kS) (c1 : Nat) (x2 : Int32) {o : (Nat × kS)} (h : fX1_lookFor σ c1 x2 = some o) : Met l yX1_lookFor (Cond.code yX1_lookFor cX1_lookFor 6 (some (.object "KeyRing$Member")) :: TB) rmX1_lookFor (va_Pc [.ref (kL w 0), .ref (kL w c1), .int x2] (kP w σ)) (kQq w (some o.1) o.2) 0 0 (kA w) := by
  refine k_met (by decide +kernel) [.ref (kL w 0), .ref (kL w c1), .int x2] (Nat.le_of_ble_eq_true rfl) (by simp [lv_args, Value.category]) ?_
  intro p e s m args below meth c K hret
  have K : kC w p s m args meth c cX1_lookFor 6 RX1 := K
  obtain ⟨r, hro⟩ : ∃ r, r = o := ⟨o, rfl⟩
  rw [← hro] at h
  have hO : ∀ z, r = z → z = o := fun z e => by rw [← e]; exact hro
  unfold fX1_lookFor at h
  refine k_aload_n K dX1_lookFor_0 1 rfl ?_
  refine k_astore_n (lv' := [(3, .ref (kL w c1)), (0, .ref (kL w 0)), (1, .ref (kL w c1)), (2, .int x2)]) K dX1_lookFor_1 (by decide) rfl ?_
  refine k_aload_n K dX1_lookFor_2 1 rfl ?_
  refine k_iconst (v := 0) K dX1_lookFor_3 (by decide) ?_
  refine fp_X1_143 K dX1_lookFor_4 ?_
  refine k_iconst (v := 0) K dX1_lookFor_7 (by decide) ?_
  refine k_istore (lv' := [(4, .int 0), (3, .ref (kL w c1)), (0, .ref (kL w 0)), (1, .ref (kL w c1)), (2, .int x2)]) K dX1_lookFor_8 (by decide) rfl ?_
  refine k_sub [2, 4, 1, 0] rfl ?_
  exact lX1_lookFor_10 K hret h hO
end F_X1_lookFor
section C_X1_lookFor
variable {w : kW} {p : Program} {l : Launch} {e : Env} {R : Room} {s : State} {m : MethodId} {args : Array Value} {below : List Frame} {meth : Method} {c : Code} {Q : State → Prop} {cc : ByteArray} {nL : Nat} {σ : kS} {pc : Nat} {lv : List (Nat × Value)} {st rest : List Value} {cells slots : Nat}
theorem cl_X1_81 (K : kC w p s m args meth c cc nL RX1) {a1 : Nat} {a2 : Int32} {r : (Nat × kS)} (d : decode cc pc = .ok (.invokevirtual 81, 3)) (h : fX1_lookFor σ a1 a2 = some r) (hR : rmX1_lookFor.frames + 1 ≤ R.frames ∧ 8 + (6 + 11) + rmX1_lookFor.locals ≤ R.locals) (hr : (rest.map fun v => v.category).sum ≤ 8) (hf : cells + 0 ≤ R.cells ∧ slots + 0 ≤ R.slots) (kk : kG w p l e R s m args below meth c Q nL r.2 (pc + 3) lv (.ref (kL w r.1) :: rest) (cells + 0) (slots + 0)) : kG w p l e R s m args below meth c Q nL σ pc lv (.int a2 :: .ref (kL w a1) :: .ref (kL w 0) :: rest) cells slots :=
  k_callVq (As := [.ref (kL w a1), .int a2]) (rest := rest) (n := 2) (C := RX1) (T := TX1) K d kd_0 rfl (kg_V tw_327 tw_329 tw_7 tw_48 tw_330) rfl (by decide +kernel) rfl hR hr rfl hf (mX1_lookFor l w σ a1 a2 h) ⟨rfl, rfl⟩ kk
end C_X1_lookFor
section F_X1_mendFinger
variable {w : kW} {p : Program} {l : Launch} {e : Env} {s : State} {m : MethodId} {args : Array Value} {below : List Frame} {meth : Method} {c : Code}
def fX1_mendFinger (σ : kS) (c1 : Nat) (x2 : Int32) : Option kS :=
  if kd c1 = (0, 0, 8) then
    (fX1_pointUp (σ.1 c1 5) (1 <<< (x2 &&& 31))).bind fun r2 =>
    (fX1_lookFor σ c1 r2).bind fun r3 =>
    if kd r3.1 = (0, 0, 8) then
      if vpi x2 8 then
        some (sI r3.2 (c1 + 1 + 1) x2.toNatClampNeg ((r3.2).1 r3.1 5))
      else none
    else none
  else none
def rmX1_mendFinger : Room := { frames := 5, cells := 0, slots := 0, locals := 112 }
set_option maxRecDepth 20000 in
theorem mX1_mendFinger (l : Launch) (w : kW) (σ : kS) (c1 : Nat) (x2 : Int32) {o : kS} (h : fX1_mendFinger σ c1 x2 = some o) : Met l yX1_mendFinger (Cond.code yX1_mendFinger cX1_mendFinger 3 none :: TB) rmX1_mendFinger (va_Pc [.ref (kL w 0), .ref (kL w c1), .int x2] (kP w σ)) (kQv w o) 0 0 (kA w) := by
  refine k_met (by decide +kernel) [.ref (kL w 0), .ref (kL w c1), .int x2] (Nat.le_of_ble_eq_true rfl) (by simp [lv_args, Value.category]) ?_
  intro p e s m args below meth c K hret
  have K : kC w p s m args meth c cX1_mendFinger 3 RX1 := K
  obtain ⟨r, hro⟩ : ∃ r, r = o := ⟨o, rfl⟩
  rw [← hro] at h
  have hO : ∀ z, r = z → z = o := fun z e => by rw [← e]; exact hro
  unfold fX1_mendFinger at h
  refine k_aload_n K dX1_mendFinger_0 1 rfl ?_
  replace h := k_gd h
  obtain ⟨g1, h⟩ := h
  refine fg_X1_120 K dX1_mendFinger_1 g1 ?_
  refine k_iload_n K dX1_mendFinger_4 2 rfl ?_
  refine k_aload_n K dX1_mendFinger_5 0 rfl ?_
  refine k_aload_n K dX1_mendFinger_6 1 rfl ?_
  refine k_aload_n K dX1_mendFinger_7 1 rfl ?_
  refine fg_X1_89 K dX1_mendFinger_8 g1 ?_
  refine k_iconst (v := 1) K dX1_mendFinger_11 (by decide) ?_
  refine k_iload_n K dX1_mendFinger_12 2 rfl ?_
  refine k_ishl K dX1_mendFinger_13 ?_
  replace h := k_bd h
  obtain ⟨r2, hr2, h⟩ := h
  refine cl_X1_224 K dX1_mendFinger_14 hr2 (by decide) (Nat.le_of_ble_eq_true rfl) (by decide) ?_
  replace h := k_bd h
  obtain ⟨r3, hr3, h⟩ := h
  refine cl_X1_81 K dX1_mendFinger_17 hr3 (by decide) (Nat.le_of_ble_eq_true rfl) (by decide) ?_
  replace h := k_gd h
  obtain ⟨g4, h⟩ := h
  refine fg_X1_89 K dX1_mendFinger_20 g4 ?_
  replace h := k_gd h
  obtain ⟨g5, h⟩ := h
  refine k_iast K dX1_mendFinger_23 (kd_m0 g1).2.1 g5 ?_
  cases h
  obtain rfl := hO _ rfl
  exact k_vret K hret dX1_mendFinger_24 (by decide) (by decide)
end F_X1_mendFinger
section C_X1_mendFinger
variable {w : kW} {p : Program} {l : Launch} {e : Env} {R : Room} {s : State} {m : MethodId} {args : Array Value} {below : List Frame} {meth : Method} {c : Code} {Q : State → Prop} {cc : ByteArray} {nL : Nat} {σ : kS} {pc : Nat} {lv : List (Nat × Value)} {st rest : List Value} {cells slots : Nat}
theorem cl_X1_116 (K : kC w p s m args meth c cc nL RX1) {a1 : Nat} {a2 : Int32} {r : kS} (d : decode cc pc = .ok (.invokevirtual 116, 3)) (h : fX1_mendFinger σ a1 a2 = some r) (hR : rmX1_mendFinger.frames + 1 ≤ R.frames ∧ 8 + (3 + 11) + rmX1_mendFinger.locals ≤ R.locals) (hr : (rest.map fun v => v.category).sum ≤ 8) (hf : cells + 0 ≤ R.cells ∧ slots + 0 ≤ R.slots) (kk : kG w p l e R s m args below meth c Q nL r (pc + 3) lv (rest) (cells + 0) (slots + 0)) : kG w p l e R s m args below meth c Q nL σ pc lv (.int a2 :: .ref (kL w a1) :: .ref (kL w 0) :: rest) cells slots :=
  k_callVv (As := [.ref (kL w a1), .int a2]) (rest := rest) (n := 2) (C := RX1) (T := TX1) K d kd_0 rfl (kg_V tw_393 tw_395 tw_16 tw_48 tw_396) rfl (by decide +kernel) rfl hR hr rfl hf (mX1_mendFinger l w σ a1 a2 h) ⟨rfl, rfl⟩ kk
end C_X1_mendFinger
section F_X1_pointOfKey
variable {w : kW} {p : Program} {l : Launch} {e : Env} {s : State} {m : MethodId} {args : Array Value} {below : List Frame} {meth : Method} {c : Code}
def fX1_pointOfKey (x0 : Int32) : Option Int32 :=
  (fX1_pointUp (x0 * 61) 17).bind fun r1 =>
  some (r1)
def rmX1_pointOfKey : Room := { frames := 1, cells := 0, slots := 0, locals := 21 }
set_option maxRecDepth 20000 in
theorem mX1_pointOfKey (l : Launch) (w : kW) (σ0 : kS) (x0 : Int32) {o : Int32} (h : fX1_pointOfKey x0 = some o) : Met l yX1_pointOfKey (Cond.code yX1_pointOfKey cX1_pointOfKey 1 (some .int) :: TB) rmX1_pointOfKey (va_Pc [.int x0] (kP w σ0)) (kQi w o σ0) 0 0 (kA w) := by
  refine k_met (by decide +kernel) [.int x0] (Nat.le_of_ble_eq_true rfl) (by simp [lv_args, Value.category]) ?_
  intro p e s m args below meth c K hret
  have K : kC w p s m args meth c cX1_pointOfKey 1 RX1 := K
  obtain ⟨r, hro⟩ : ∃ r, r = o := ⟨o, rfl⟩
  rw [← hro] at h
  have hO : ∀ z, r = z → z = o := fun z e => by rw [← e]; exact hro
  unfold fX1_pointOfKey at h
  refine k_iload_n K dX1_pointOfKey_0 0 rfl ?_
  refine k_bipush (v := 61) K dX1_pointOfKey_1 (by decide) ?_
  refine k_imul K dX1_pointOfKey_3 ?_
  refine k_bipush (v := 17) K dX1_pointOfKey_4 (by decide) ?_
  replace h := k_bd h
  obtain ⟨r1, hr1, h⟩ := h
  refine cl_X1_224 K dX1_pointOfKey_6 hr1 (by decide) (Nat.le_of_ble_eq_true rfl) (by decide) ?_
  cases h
  obtain rfl := hO _ rfl
  exact k_iret K hret dX1_pointOfKey_9 (by decide) (by decide)
end F_X1_pointOfKey
section C_X1_pointOfKey
variable {w : kW} {p : Program} {l : Launch} {e : Env} {R : Room} {s : State} {m : MethodId} {args : Array Value} {below : List Frame} {meth : Method} {c : Code} {Q : State → Prop} {cc : ByteArray} {nL : Nat} {σ : kS} {pc : Nat} {lv : List (Nat × Value)} {st rest : List Value} {cells slots : Nat}
theorem cl_X1_156 (K : kC w p s m args meth c cc nL RX1) {a1 : Int32} {r : Int32} (d : decode cc pc = .ok (.invokestatic 156, 3)) (h : fX1_pointOfKey a1 = some r) (hR : rmX1_pointOfKey.frames + 1 ≤ R.frames ∧ 8 + (1 + 11) + rmX1_pointOfKey.locals ≤ R.locals) (hr : (rest.map fun v => v.category).sum ≤ 8) (hf : cells + 0 ≤ R.cells ∧ slots + 0 ≤ R.slots) (kk : kG w p l e R s m args below meth c Q nL σ (pc + 3) lv (.int r :: rest) (cells + 0) (slots + 0)) : kG w p l e R s m args below meth c Q nL σ pc lv (.int a1 :: rest) cells slots :=
  k_callSi (As := [.int a1]) (rest := rest) (n := 1) K d (kg_S tw_414 tw_415 tw_48 tw_416) (by decide +kernel) rfl hR hr rfl hf (mX1_pointOfKey l w σ a1 h) ⟨rfl, rfl⟩ kk
end C_X1_pointOfKey
section F_X1_isInCare
variable {w : kW} {p : Program} {l : Launch} {e : Env} {s : State} {m : MethodId} {args : Array Value} {below : List Frame} {meth : Method} {c : Code}
def fX1_isInCare_28 (σ : kS) : Option Int32 :=
  some (1)
def fX1_isInCare (σ : kS) (c0 : Nat) (c1 : Nat) (x2 : Int32) : Option Int32 :=
  (fX1_pointOfKey x2).bind fun r1 =>
  if kd c0 = (0, 0, 8) then
    if r1 = (σ.1 c0 5) then
      fX1_isInCare_28 σ
    else
      if kd c1 = (0, 0, 8) then
        (fX1_isBetween (σ.1 c1 5) r1 (σ.1 c0 5)).bind fun r5 =>
        if r5 = 0 then
          some (0)
        else
          fX1_isInCare_28 σ
      else none
  else none
def rmX1_isInCare : Room := { frames := 2, cells := 0, slots := 0, locals := 45 }
set_option maxRecDepth 20000 in
theorem pX1_isInCare_28 (K : kC w p s m args meth c cX1_isInCare 4 RX1) (hret : meth.sig.returnType = (some .boolean)) {σ : kS} {r : Int32} {o : Int32} (h : fX1_isInCare_28 σ = some r) (hO : ∀ z, r = z → z = o) : kG w p l e rmX1_isInCare s m args below meth c (MQ below (kQi w o σ) args s 0 0 (kA w)) 4 σ 28 [] [] 0 0 := by
  unfold fX1_isInCare_28 at h
  refine k_iconst (v := 1) K dX1_isInCare_28 (by decide) ?_
  refine k_goto K 33 dX1_isInCare_29 (by decide) ?_
  cases h
  obtain rfl := hO _ rfl
  exact k_zret (v := 1) K hret (by decide) dX1_isInCare_33 (by decide) (by decide)
set_option maxRecDepth 20000 in
theorem mX1_isInCare (l : Launch) (w : kW) (σ : kS) (c0 : Nat) (c1 : Nat) (x2 : Int32) {o : Int32} (h : fX1_isInCare σ c0 c1 x2 = some o) : Met l yX1_isInCare (Cond.code yX1_isInCare cX1_isInCare 4 (some .boolean) :: TB) rmX1_isInCare (va_Pc [.ref (kL w c0), .ref (kL w c1), .int x2] (kP w σ)) (kQi w o σ) 0 0 (kA w) := by
  refine k_met (by decide +kernel) [.ref (kL w c0), .ref (kL w c1), .int x2] (Nat.le_of_ble_eq_true rfl) (by simp [lv_args, Value.category]) ?_
  intro p e s m args below meth c K hret
  have K : kC w p s m args meth c cX1_isInCare 4 RX1 := K
  obtain ⟨r, hro⟩ : ∃ r, r = o := ⟨o, rfl⟩
  rw [← hro] at h
  have hO : ∀ z, r = z → z = o := fun z e => by rw [← e]; exact hro
  unfold fX1_isInCare at h
  refine k_iload_n K dX1_isInCare_0 2 rfl ?_
  replace h := k_bd h
  obtain ⟨r1, hr1, h⟩ := h
  refine cl_X1_156 K dX1_isInCare_1 hr1 (by decide) (Nat.le_of_ble_eq_true rfl) (by decide) ?_
  refine k_istore_n (lv' := [(3, .int r1), (0, .ref (kL w c0)), (1, .ref (kL w c1)), (2, .int x2)]) K dX1_isInCare_4 (by decide) rfl ?_
  refine k_iload_n K dX1_isInCare_5 0 rfl ?_
  refine k_aload_n K dX1_isInCare_6 1 rfl ?_
  replace h := k_gd h
  obtain ⟨g2, h⟩ := h
  refine fg_X1_89 K dX1_isInCare_7 g2 ?_
  replace h := k_br h
  rcases h with ⟨b3, h⟩ | ⟨b3, h⟩
  · refine k_icmp_eq K 28 dX1_isInCare_10 (by decide) (fun _ => ?_) (fun q => absurd b3 q)
    refine k_sub [] rfl ?_
    exact pX1_isInCare_28 K hret h hO
  · refine k_icmp_eq K 28 dX1_isInCare_10 (by decide) (fun q => absurd q b3) (fun _ => ?_)
    refine k_aload_n K dX1_isInCare_13 2 rfl ?_
    replace h := k_gd h
    obtain ⟨g4, h⟩ := h
    refine fg_X1_89 K dX1_isInCare_14 g4 ?_
    refine k_iload_n K dX1_isInCare_17 0 rfl ?_
    refine k_aload_n K dX1_isInCare_18 1 rfl ?_
    refine fg_X1_89 K dX1_isInCare_19 g2 ?_
    replace h := k_bd h
    obtain ⟨r5, hr5, h⟩ := h
    refine cl_X1_241 K dX1_isInCare_22 hr5 (by decide) (Nat.le_of_ble_eq_true rfl) (by decide) ?_
    replace h := k_br h
    rcases h with ⟨b6, h⟩ | ⟨b6, h⟩
    · refine k_if_eq K 32 dX1_isInCare_25 (by decide) (fun _ => ?_) (fun q => absurd b6 q)
      refine k_iconst (v := 0) K dX1_isInCare_32 (by decide) ?_
      cases h
      obtain rfl := hO _ rfl
      exact k_zret (v := 0) K hret (by decide) dX1_isInCare_33 (by decide) (by decide)
    · refine k_if_eq K 32 dX1_isInCare_25 (by decide) (fun q => absurd q b6) (fun _ => ?_)
      refine k_sub [] rfl ?_
      exact pX1_isInCare_28 K hret h hO
end F_X1_isInCare
section C_X1_isInCare
variable {w : kW} {p : Program} {l : Launch} {e : Env} {R : Room} {s : State} {m : MethodId} {args : Array Value} {below : List Frame} {meth : Method} {c : Code} {Q : State → Prop} {cc : ByteArray} {nL : Nat} {σ : kS} {pc : Nat} {lv : List (Nat × Value)} {st rest : List Value} {cells slots : Nat}
theorem cl_X1_251 (K : kC w p s m args meth c cc nL RX1) {a1 : Nat} {a2 : Nat} {a3 : Int32} {r : Int32} (d : decode cc pc = .ok (.invokestatic 251, 3)) (h : fX1_isInCare σ a1 a2 a3 = some r) (hR : rmX1_isInCare.frames + 1 ≤ R.frames ∧ 8 + (4 + 11) + rmX1_isInCare.locals ≤ R.locals) (hr : (rest.map fun v => v.category).sum ≤ 8) (hf : cells + 0 ≤ R.cells ∧ slots + 0 ≤ R.slots) (kk : kG w p l e R s m args below meth c Q nL σ (pc + 3) lv (.int r :: rest) (cells + 0) (slots + 0)) : kG w p l e R s m args below meth c Q nL σ pc lv (.int a3 :: .ref (kL w a2) :: .ref (kL w a1) :: rest) cells slots :=
  k_callSi (As := [.ref (kL w a1), .ref (kL w a2), .int a3]) (rest := rest) (n := 3) K d (kg_S tw_411 tw_412 tw_48 tw_413) (by decide +kernel) rfl hR hr rfl hf (mX1_isInCare l w σ a1 a2 a3 h) ⟨rfl, rfl⟩ kk
end C_X1_isInCare
section F_X1_isHigher
variable {w : kW} {p : Program} {l : Launch} {e : Env} {s : State} {m : MethodId} {args : Array Value} {below : List Frame} {meth : Method} {c : Code}
def fX1_isHigher (σ : kS) (c0 : Nat) (c1 : Nat) (x2 : Int32) : Option Int32 :=
  if kd c0 = (0, 0, 8) then
    if vpi x2 64 then
      if kd c1 = (0, 0, 8) then
        if (σ.1 (c0 + 1 + 2) x2.toNatClampNeg) = (σ.1 (c1 + 1 + 2) x2.toNatClampNeg) then
          if (σ.1 (c0 + 1 + 3) x2.toNatClampNeg) ≤ (σ.1 (c1 + 1 + 3) x2.toNatClampNeg) then
            some (0)
          else
            some (1)
        else
          if (σ.1 (c0 + 1 + 2) x2.toNatClampNeg) ≤ (σ.1 (c1 + 1 + 2) x2.toNatClampNeg) then
            some (0)
          else
            some (1)
      else none
    else none
  else none
def rmX1_isHigher : Room := { frames := 0, cells := 0, slots := 0, locals := 0 }
set_option maxRecDepth 20000 in
theorem mX1_isHigher (l : Launch) (w : kW) (σ : kS) (c0 : Nat) (c1 : Nat) (x2 : Int32) {o : Int32} (h : fX1_isHigher σ c0 c1 x2 = some o) : Met l yX1_isHigher (Cond.code yX1_isHigher cX1_isHigher 3 (some .boolean) :: TB) rmX1_isHigher (va_Pc [.ref (kL w c0), .ref (kL w c1), .int x2] (kP w σ)) (kQi w o σ) 0 0 (kA w) := by
  refine k_met (by decide +kernel) [.ref (kL w c0), .ref (kL w c1), .int x2] (Nat.le_of_ble_eq_true rfl) (by simp [lv_args, Value.category]) ?_
  intro p e s m args below meth c K hret
  have K : kC w p s m args meth c cX1_isHigher 3 RX1 := K
  obtain ⟨r, hro⟩ : ∃ r, r = o := ⟨o, rfl⟩
  rw [← hro] at h
  have hO : ∀ z, r = z → z = o := fun z e => by rw [← e]; exact hro
  unfold fX1_isHigher at h
  refine k_aload_n K dX1_isHigher_0 0 rfl ?_
  replace h := k_gd h
  obtain ⟨g1, h⟩ := h
  refine fg_X1_159 K dX1_isHigher_1 g1 ?_
  refine k_iload_n K dX1_isHigher_4 2 rfl ?_
  replace h := k_gd h
  obtain ⟨g2, h⟩ := h
  refine k_iald K dX1_isHigher_5 (kd_m0 g1).2.2.1 g2 ?_
  refine k_aload_n K dX1_isHigher_6 1 rfl ?_
  replace h := k_gd h
  obtain ⟨g3, h⟩ := h
  refine fg_X1_159 K dX1_isHigher_7 g3 ?_
  refine k_iload_n K dX1_isHigher_10 2 rfl ?_
  refine k_iald K dX1_isHigher_11 (kd_m0 g3).2.2.1 g2 ?_
  replace h := k_br h
  rcases h with ⟨b4, h⟩ | ⟨b4, h⟩
  · refine k_icmp_eq K 36 dX1_isHigher_12 (by decide) (fun _ => ?_) (fun q => absurd b4 q)
    refine k_aload_n K dX1_isHigher_36 0 rfl ?_
    refine fg_X1_162 K dX1_isHigher_37 g1 ?_
    refine k_iload_n K dX1_isHigher_40 2 rfl ?_
    refine k_iald K dX1_isHigher_41 (kd_m0 g1).2.2.2.1 g2 ?_
    refine k_aload_n K dX1_isHigher_42 1 rfl ?_
    refine fg_X1_162 K dX1_isHigher_43 g3 ?_
    refine k_iload_n K dX1_isHigher_46 2 rfl ?_
    refine k_iald K dX1_isHigher_47 (kd_m0 g3).2.2.2.1 g2 ?_
    replace h := k_br h
    rcases h with ⟨b5, h⟩ | ⟨b5, h⟩
    · refine k_icmp_le K 55 dX1_isHigher_48 (by decide) (fun _ => ?_) (fun q => absurd b5 q)
      refine k_iconst (v := 0) K dX1_isHigher_55 (by decide) ?_
      cases h
      obtain rfl := hO _ rfl
      exact k_zret (v := 0) K hret (by decide) dX1_isHigher_56 (by decide) (by decide)
    · refine k_icmp_le K 55 dX1_isHigher_48 (by decide) (fun q => absurd q b5) (fun _ => ?_)
      refine k_iconst (v := 1) K dX1_isHigher_51 (by decide) ?_
      refine k_goto K 56 dX1_isHigher_52 (by decide) ?_
      cases h
      obtain rfl := hO _ rfl
      exact k_zret (v := 1) K hret (by decide) dX1_isHigher_56 (by decide) (by decide)
  · refine k_icmp_eq K 36 dX1_isHigher_12 (by decide) (fun q => absurd q b4) (fun _ => ?_)
    refine k_aload_n K dX1_isHigher_15 0 rfl ?_
    refine fg_X1_159 K dX1_isHigher_16 g1 ?_
    refine k_iload_n K dX1_isHigher_19 2 rfl ?_
    refine k_iald K dX1_isHigher_20 (kd_m0 g1).2.2.1 g2 ?_
    refine k_aload_n K dX1_isHigher_21 1 rfl ?_
    refine fg_X1_159 K dX1_isHigher_22 g3 ?_
    refine k_iload_n K dX1_isHigher_25 2 rfl ?_
    refine k_iald K dX1_isHigher_26 (kd_m0 g3).2.2.1 g2 ?_
    replace h := k_br h
    rcases h with ⟨b6, h⟩ | ⟨b6, h⟩
    · refine k_icmp_le K 34 dX1_isHigher_27 (by decide) (fun _ => ?_) (fun q => absurd b6 q)
      refine k_iconst (v := 0) K dX1_isHigher_34 (by decide) ?_
      cases h
      obtain rfl := hO _ rfl
      exact k_zret (v := 0) K hret (by decide) dX1_isHigher_35 (by decide) (by decide)
    · refine k_icmp_le K 34 dX1_isHigher_27 (by decide) (fun q => absurd q b6) (fun _ => ?_)
      refine k_iconst (v := 1) K dX1_isHigher_30 (by decide) ?_
      refine k_goto K 35 dX1_isHigher_31 (by decide) ?_
      cases h
      obtain rfl := hO _ rfl
      exact k_zret (v := 1) K hret (by decide) dX1_isHigher_35 (by decide) (by decide)
end F_X1_isHigher
section C_X1_isHigher
variable {w : kW} {p : Program} {l : Launch} {e : Env} {R : Room} {s : State} {m : MethodId} {args : Array Value} {below : List Frame} {meth : Method} {c : Code} {Q : State → Prop} {cc : ByteArray} {nL : Nat} {σ : kS} {pc : Nat} {lv : List (Nat × Value)} {st rest : List Value} {cells slots : Nat}
theorem cl_X1_258 (K : kC w p s m args meth c cc nL RX1) {a1 : Nat} {a2 : Nat} {a3 : Int32} {r : Int32} (d : decode cc pc = .ok (.invokestatic 258, 3)) (h : fX1_isHigher σ a1 a2 a3 = some r) (hR : rmX1_isHigher.frames + 1 ≤ R.frames ∧ 8 + (3 + 11) + rmX1_isHigher.locals ≤ R.locals) (hr : (rest.map fun v => v.category).sum ≤ 8) (hf : cells + 0 ≤ R.cells ∧ slots + 0 ≤ R.slots) (kk : kG w p l e R s m args below meth c Q nL σ (pc + 3) lv (.int r :: rest) (cells + 0) (slots + 0)) : kG w p l e R s m args below meth c Q nL σ pc lv (.int a3 :: .ref (kL w a2) :: .ref (kL w a1) :: rest) cells slots :=
  k_callSi (As := [.ref (kL w a1), .ref (kL w a2), .int a3]) (rest := rest) (n := 3) K d (kg_S tw_420 tw_421 tw_48 tw_422) (by decide +kernel) rfl hR hr rfl hf (mX1_isHigher l w σ a1 a2 a3 h) ⟨rfl, rfl⟩ kk
end C_X1_isHigher
section F_X1_copyIfHigher
variable {w : kW} {p : Program} {l : Launch} {e : Env} {s : State} {m : MethodId} {args : Array Value} {below : List Frame} {meth : Method} {c : Code}
def fX1_copyIfHigher (σ : kS) (c0 : Nat) (c1 : Nat) (x2 : Int32) : Option (Int32 × kS) :=
  (fX1_isHigher σ c0 c1 x2).bind fun r1 =>
  if r1 = 0 then
    some ((0, σ))
  else
    if kd c1 = (0, 0, 8) then
      if kd c0 = (0, 0, 8) then
        if vpi x2 64 then
          some ((1, sI (sI (sI σ (c1 + 1 + 2) x2.toNatClampNeg (σ.1 (c0 + 1 + 2) x2.toNatClampNeg)) (c1 + 1 + 3) x2.toNatClampNeg ((sI σ (c1 + 1 + 2) x2.toNatClampNeg (σ.1 (c0 + 1 + 2) x2.toNatClampNeg)).1 (c0 + 1 + 3) x2.toNatClampNeg)) (c1 + 1 + 4) x2.toNatClampNeg ((sI (sI σ (c1 + 1 + 2) x2.toNatClampNeg (σ.1 (c0 + 1 + 2) x2.toNatClampNeg)) (c1 + 1 + 3) x2.toNatClampNeg ((sI σ (c1 + 1 + 2) x2.toNatClampNeg (σ.1 (c0 + 1 + 2) x2.toNatClampNeg)).1 (c0 + 1 + 3) x2.toNatClampNeg)).1 (c0 + 1 + 4) x2.toNatClampNeg)))
        else none
      else none
    else none
def rmX1_copyIfHigher : Room := { frames := 1, cells := 0, slots := 0, locals := 22 }
set_option maxRecDepth 20000 in
theorem mX1_copyIfHigher (l : Launch) (w : kW) (σ : kS) (c0 : Nat) (c1 : Nat) (x2 : Int32) {o : (Int32 × kS)} (h : fX1_copyIfHigher σ c0 c1 x2 = some o) : Met l yX1_copyIfHigher (Cond.code yX1_copyIfHigher cX1_copyIfHigher 3 (some .boolean) :: TB) rmX1_copyIfHigher (va_Pc [.ref (kL w c0), .ref (kL w c1), .int x2] (kP w σ)) (kQi w o.1 o.2) 0 0 (kA w) := by
  refine k_met (by decide +kernel) [.ref (kL w c0), .ref (kL w c1), .int x2] (Nat.le_of_ble_eq_true rfl) (by simp [lv_args, Value.category]) ?_
  intro p e s m args below meth c K hret
  have K : kC w p s m args meth c cX1_copyIfHigher 3 RX1 := K
  obtain ⟨r, hro⟩ : ∃ r, r = o := ⟨o, rfl⟩
  rw [← hro] at h
  have hO : ∀ z, r = z → z = o := fun z e => by rw [← e]; exact hro
  unfold fX1_copyIfHigher at h
  refine k_aload_n K dX1_copyIfHigher_0 0 rfl ?_
  refine k_aload_n K dX1_copyIfHigher_1 1 rfl ?_
  refine k_iload_n K dX1_copyIfHigher_2 2 rfl ?_
  replace h := k_bd h
  obtain ⟨r1, hr1, h⟩ := h
  refine cl_X1_258 K dX1_copyIfHigher_3 hr1 (by decide) (Nat.le_of_ble_eq_true rfl) (by decide) ?_
  replace h := k_br h
  rcases h with ⟨b2, h⟩ | ⟨b2, h⟩
  · refine k_if_ne K 11 dX1_copyIfHigher_6 (by decide) (fun q => absurd b2 q) (fun _ => ?_)
    refine k_iconst (v := 0) K dX1_copyIfHigher_9 (by decide) ?_
    cases h
    obtain rfl := hO _ rfl
    exact k_zret (v := 0) K hret (by decide) dX1_copyIfHigher_10 (by decide) (by decide)
  · refine k_if_ne K 11 dX1_copyIfHigher_6 (by decide) (fun _ => ?_) (fun q => absurd q b2)
    refine k_aload_n K dX1_copyIfHigher_11 1 rfl ?_
    replace h := k_gd h
    obtain ⟨g3, h⟩ := h
    refine fg_X1_159 K dX1_copyIfHigher_12 g3 ?_
    refine k_iload_n K dX1_copyIfHigher_15 2 rfl ?_
    refine k_aload_n K dX1_copyIfHigher_16 0 rfl ?_
    replace h := k_gd h
    obtain ⟨g4, h⟩ := h
    refine fg_X1_159 K dX1_copyIfHigher_17 g4 ?_
    refine k_iload_n K dX1_copyIfHigher_20 2 rfl ?_
    replace h := k_gd h
    obtain ⟨g5, h⟩ := h
    refine k_iald K dX1_copyIfHigher_21 (kd_m0 g4).2.2.1 g5 ?_
    refine k_iast K dX1_copyIfHigher_22 (kd_m0 g3).2.2.1 g5 ?_
    refine k_aload_n K dX1_copyIfHigher_23 1 rfl ?_
    refine fg_X1_162 K dX1_copyIfHigher_24 g3 ?_
    refine k_iload_n K dX1_copyIfHigher_27 2 rfl ?_
    refine k_aload_n K dX1_copyIfHigher_28 0 rfl ?_
    refine fg_X1_162 K dX1_copyIfHigher_29 g4 ?_
    refine k_iload_n K dX1_copyIfHigher_32 2 rfl ?_
    refine k_iald K dX1_copyIfHigher_33 (kd_m0 g4).2.2.2.1 g5 ?_
    refine k_iast K dX1_copyIfHigher_34 (kd_m0 g3).2.2.2.1 g5 ?_
    refine k_aload_n K dX1_copyIfHigher_35 1 rfl ?_
    refine fg_X1_165 K dX1_copyIfHigher_36 g3 ?_
    refine k_iload_n K dX1_copyIfHigher_39 2 rfl ?_
    refine k_aload_n K dX1_copyIfHigher_40 0 rfl ?_
    refine fg_X1_165 K dX1_copyIfHigher_41 g4 ?_
    refine k_iload_n K dX1_copyIfHigher_44 2 rfl ?_
    refine k_iald K dX1_copyIfHigher_45 (kd_m0 g4).2.2.2.2 g5 ?_
    refine k_iast K dX1_copyIfHigher_46 (kd_m0 g3).2.2.2.2 g5 ?_
    refine k_iconst (v := 1) K dX1_copyIfHigher_47 (by decide) ?_
    cases h
    obtain rfl := hO _ rfl
    exact k_zret (v := 1) K hret (by decide) dX1_copyIfHigher_48 (by decide) (by decide)
end F_X1_copyIfHigher
section C_X1_copyIfHigher
variable {w : kW} {p : Program} {l : Launch} {e : Env} {R : Room} {s : State} {m : MethodId} {args : Array Value} {below : List Frame} {meth : Method} {c : Code} {Q : State → Prop} {cc : ByteArray} {nL : Nat} {σ : kS} {pc : Nat} {lv : List (Nat × Value)} {st rest : List Value} {cells slots : Nat}
theorem cl_X1_255 (K : kC w p s m args meth c cc nL RX1) {a1 : Nat} {a2 : Nat} {a3 : Int32} {r : (Int32 × kS)} (d : decode cc pc = .ok (.invokestatic 255, 3)) (h : fX1_copyIfHigher σ a1 a2 a3 = some r) (hR : rmX1_copyIfHigher.frames + 1 ≤ R.frames ∧ 8 + (3 + 11) + rmX1_copyIfHigher.locals ≤ R.locals) (hr : (rest.map fun v => v.category).sum ≤ 8) (hf : cells + 0 ≤ R.cells ∧ slots + 0 ≤ R.slots) (kk : kG w p l e R s m args below meth c Q nL r.2 (pc + 3) lv (.int r.1 :: rest) (cells + 0) (slots + 0)) : kG w p l e R s m args below meth c Q nL σ pc lv (.int a3 :: .ref (kL w a2) :: .ref (kL w a1) :: rest) cells slots :=
  k_callSi (As := [.ref (kL w a1), .ref (kL w a2), .int a3]) (rest := rest) (n := 3) K d (kg_S tw_417 tw_418 tw_48 tw_419) (by decide +kernel) rfl hR hr rfl hf (mX1_copyIfHigher l w σ a1 a2 a3 h) ⟨rfl, rfl⟩ kk
end C_X1_copyIfHigher
section F_X1_takeFromSuccessor
variable {w : kW} {p : Program} {l : Launch} {e : Env} {s : State} {m : MethodId} {args : Array Value} {below : List Frame} {meth : Method} {c : Code}
def fX1_takeFromSuccessor_66 (c1 : Nat) (c2 : Nat) (c3 : Nat) (x4 : Int32) (x5 : Int32) (σ : kS) : Option ((Int32 × Int32 × kS) ⊕ (Int32 × kS)) :=
  some (.inl (x4, x5 + 1, σ))
def gX1_takeFromSuccessor_36 (c1 : Nat) (c2 : Nat) (c3 : Nat) (x4 : Int32) (x5 : Int32) (σ : kS) : Option ((Int32 × Int32 × kS) ⊕ (Int32 × kS)) :=
  if 64 ≤ x5 then
    some (.inr ((x4, σ)))
  else
    (fX1_isInCare σ c1 c2 x5).bind fun r2 =>
    if r2 = 0 then
      fX1_takeFromSuccessor_66 c1 c2 c3 x4 x5 σ
    else
      (fX1_copyIfHigher σ c3 c1 x5).bind fun r4 =>
      if r4.1 = 0 then
        fX1_takeFromSuccessor_66 c1 c2 c3 x4 x5 r4.2
      else
        fX1_takeFromSuccessor_66 c1 c2 c3 (x4 + 1) x5 r4.2
def fX1_takeFromSuccessor_36 (c1 : Nat) (c2 : Nat) (c3 : Nat) (a : Int32 × Int32 × kS) : Option ((Int32 × Int32 × kS) ⊕ (Int32 × kS)) := gX1_takeFromSuccessor_36 c1 c2 c3 a.1 a.2.1 a.2.2
def fX1_takeFromSuccessor (σ : kS) (c1 : Nat) : Option (Int32 × kS) :=
  if kd c1 = (0, 0, 8) then
    (fX1_liveAt σ (σ.1 c1 6)).bind fun r2 =>
    (fX1_successor σ c1).bind fun r3 =>
    kmn (r2) (
      some ((0, σ))
    ) fun q4 =>
      kmn (r3) (
        some ((0, σ))
      ) fun q5 =>
        if okq (some q5) = true ∧ okq (some c1) = true then
          if some q5 = some c1 then
            some ((0, σ))
          else
            kit (fX1_takeFromSuccessor_36 c1 q4 q5) 300 (0, 0, σ)
        else none
  else none
def rmX1_takeFromSuccessor : Room := { frames := 3, cells := 0, slots := 0, locals := 68 }
set_option maxRecDepth 20000 in
theorem pX1_takeFromSuccessor_66 (K : kC w p s m args meth c cX1_takeFromSuccessor 6 RX1) (hret : meth.sig.returnType = (some .int)) {c1 : Nat} {c2 : Nat} {c3 : Nat} {x4 : Int32} {x5 : Int32} {σ : kS} {r : ((Int32 × Int32 × kS) ⊕ (Int32 × kS))} {o : (Int32 × kS)} (h : fX1_takeFromSuccessor_66 c1 c2 c3 x4 x5 σ = some r) (hL36 : ∀ z, r = .inl z → kG w p l e rmX1_takeFromSuccessor s m args below meth c (MQ below (kQi w o.1 o.2) args s 0 0 (kA w)) 6 z.2.2 36 [(1, .ref (kL w c1)), (2, .ref (kL w c2)), (3, .ref (kL w c3)), (4, .int (z.1)), (5, .int (z.2.1))] [] 0 0) (hO : ∀ z, r = .inr z → z = o) : kG w p l e rmX1_takeFromSuccessor s m args below meth c (MQ below (kQi w o.1 o.2) args s 0 0 (kA w)) 6 σ 66 [(1, .ref (kL w c1)), (2, .ref (kL w c2)), (3, .ref (kL w c3)), (4, .int x4), (5, .int x5)] [] 0 0 := by
  unfold fX1_takeFromSuccessor_66 at h
  refine k_iinc (v := 1) (lv' := [(5, .int (x5 + 1)), (1, .ref (kL w c1)), (2, .ref (kL w c2)), (3, .ref (kL w c3)), (4, .int x4)]) K dX1_takeFromSuccessor_66 4 rfl (by decide) (by decide) rfl ?_
  refine k_goto K 36 dX1_takeFromSuccessor_69 (by decide) ?_
  refine k_sub [1, 2, 3, 4, 0] rfl ?_
  cases h
  exact hL36 _ rfl
set_option maxRecDepth 20000 in
theorem pX1_takeFromSuccessor_36 (K : kC w p s m args meth c cX1_takeFromSuccessor 6 RX1) (hret : meth.sig.returnType = (some .int)) {c1 : Nat} {c2 : Nat} {c3 : Nat} {x4 : Int32} {x5 : Int32} {σ : kS} {r : ((Int32 × Int32 × kS) ⊕ (Int32 × kS))} {o : (Int32 × kS)} (h : gX1_takeFromSuccessor_36 c1 c2 c3 x4 x5 σ = some r) (hL36 : ∀ z, r = .inl z → kG w p l e rmX1_takeFromSuccessor s m args below meth c (MQ below (kQi w o.1 o.2) args s 0 0 (kA w)) 6 z.2.2 36 [(1, .ref (kL w c1)), (2, .ref (kL w c2)), (3, .ref (kL w c3)), (4, .int (z.1)), (5, .int (z.2.1))] [] 0 0) (hO : ∀ z, r = .inr z → z = o) : kG w p l e rmX1_takeFromSuccessor s m args below meth c (MQ below (kQi w o.1 o.2) args s 0 0 (kA w)) 6 σ 36 [(1, .ref (kL w c1)), (2, .ref (kL w c2)), (3, .ref (kL w c3)), (4, .int x4), (5, .int x5)] [] 0 0 := by
  unfold gX1_takeFromSuccessor_36 at h
  refine k_iload K dX1_takeFromSuccessor_36 4 rfl ?_
  refine k_bipush (v := 64) K dX1_takeFromSuccessor_38 (by decide) ?_
  replace h := k_br h
  rcases h with ⟨b1, h⟩ | ⟨b1, h⟩
  · refine k_icmp_ge K 72 dX1_takeFromSuccessor_40 (by decide) (fun _ => ?_) (fun q => absurd b1 q)
    refine k_iload K dX1_takeFromSuccessor_72 3 rfl ?_
    cases h
    obtain rfl := hO _ rfl
    exact k_iret K hret dX1_takeFromSuccessor_74 (by decide) (by decide)
  · refine k_icmp_ge K 72 dX1_takeFromSuccessor_40 (by decide) (fun q => absurd q b1) (fun _ => ?_)
    refine k_aload_n K dX1_takeFromSuccessor_43 0 rfl ?_
    refine k_aload_n K dX1_takeFromSuccessor_44 1 rfl ?_
    refine k_iload K dX1_takeFromSuccessor_45 4 rfl ?_
    replace h := k_bd h
    obtain ⟨r2, hr2, h⟩ := h
    refine cl_X1_251 K dX1_takeFromSuccessor_47 hr2 (by decide) (Nat.le_of_ble_eq_true rfl) (by decide) ?_
    replace h := k_br h
    rcases h with ⟨b3, h⟩ | ⟨b3, h⟩
    · refine k_if_eq K 66 dX1_takeFromSuccessor_50 (by decide) (fun _ => ?_) (fun q => absurd b3 q)
      exact pX1_takeFromSuccessor_66 K hret h hL36 hO
    · refine k_if_eq K 66 dX1_takeFromSuccessor_50 (by decide) (fun q => absurd q b3) (fun _ => ?_)
      refine k_aload_n K dX1_takeFromSuccessor_53 2 rfl ?_
      refine k_aload_n K dX1_takeFromSuccessor_54 0 rfl ?_
      refine k_iload K dX1_takeFromSuccessor_55 4 rfl ?_
      replace h := k_bd h
      obtain ⟨r4, hr4, h⟩ := h
      refine cl_X1_255 K dX1_takeFromSuccessor_57 hr4 (by decide) (Nat.le_of_ble_eq_true rfl) (by decide) ?_
      replace h := k_br h
      rcases h with ⟨b5, h⟩ | ⟨b5, h⟩
      · refine k_if_eq K 66 dX1_takeFromSuccessor_60 (by decide) (fun _ => ?_) (fun q => absurd b5 q)
        exact pX1_takeFromSuccessor_66 K hret h hL36 hO
      · refine k_if_eq K 66 dX1_takeFromSuccessor_60 (by decide) (fun q => absurd q b5) (fun _ => ?_)
        refine k_iinc (v := 1) (lv' := [(4, .int (x4 + 1)), (1, .ref (kL w c1)), (2, .ref (kL w c2)), (3, .ref (kL w c3)), (5, .int x5)]) K dX1_takeFromSuccessor_63 3 rfl (by decide) (by decide) rfl ?_
        refine k_sub [1, 2, 3, 0, 4] rfl ?_
        exact pX1_takeFromSuccessor_66 K hret h hL36 hO
set_option maxRecDepth 20000 in
theorem lX1_takeFromSuccessor_36 (K : kC w p s m args meth c cX1_takeFromSuccessor 6 RX1) (hret : meth.sig.returnType = (some .int)) {c1 : Nat} {c2 : Nat} {c3 : Nat} {n : Nat} {a : Int32 × Int32 × kS} {r : (Int32 × kS)} {o : (Int32 × kS)} (h : kit (fX1_takeFromSuccessor_36 c1 c2 c3) n a = some r) (hO : ∀ z, r = z → z = o) : kG w p l e rmX1_takeFromSuccessor s m args below meth c (MQ below (kQi w o.1 o.2) args s 0 0 (kA w)) 6 a.2.2 36 [(1, .ref (kL w c1)), (2, .ref (kL w c2)), (3, .ref (kL w c3)), (4, .int (a.1)), (5, .int (a.2.1))] [] 0 0 :=
  kit_ind (body := fX1_takeFromSuccessor_36 c1 c2 c3) (fun a r => (∀ z, r = z → z = o) → kG w p l e rmX1_takeFromSuccessor s m args below meth c (MQ below (kQi w o.1 o.2) args s 0 0 (kA w)) 6 a.2.2 36 [(1, .ref (kL w c1)), (2, .ref (kL w c2)), (3, .ref (kL w c3)), (4, .int (a.1)), (5, .int (a.2.1))] [] 0 0) (fun a a2 r hb ih hO => pX1_takeFromSuccessor_36 K hret hb (fun z e => by cases e; exact ih hO) (fun _ e => by cases e)) (fun a r hb hO => pX1_takeFromSuccessor_36 K hret hb (fun _ e => by cases e) (fun z e => hO z (by cases e; rfl))) n a r h hO
set_option maxRecDepth 20000 in
theorem mX1_takeFromSuccessor (l : Launch) (w : kW) (σ : kS) (c1 : Nat) {o : (Int32 × kS)} (h : fX1_takeFromSuccessor σ c1 = some o) : Met l yX1_takeFromSuccessor (Cond.code yX1_takeFromSuccessor cX1_takeFromSuccessor 6 (some .int) :: TB) rmX1_takeFromSuccessor (va_Pc [.ref (kL w 0), .ref (kL w c1)] (kP w σ)) (kQi w o.1 o.2) 0 0 (kA w) := by
  refine k_met (by decide +kernel) [.ref (kL w 0), .ref (kL w c1)] (Nat.le_of_ble_eq_true rfl) (by simp [lv_args, Value.category]) ?_
  intro p e s m args below meth c K hret
  have K : kC w p s m args meth c cX1_takeFromSuccessor 6 RX1 := K
  obtain ⟨r, hro⟩ : ∃ r, r = o := ⟨o, rfl⟩
  rw [← hro] at h
  have hO : ∀ z, r = z → z = o := fun z e => by rw [← e]; exact hro
  unfold fX1_takeFromSuccessor at h
  refine k_aload_n K dX1_takeFromSuccessor_0 0 rfl ?_
  refine k_aload_n K dX1_takeFromSuccessor_1 1 rfl ?_
  replace h := k_gd h
  obtain ⟨g1, h⟩ := h
  refine fg_X1_75 K dX1_takeFromSuccessor_2 g1 ?_
  replace h := k_bd h
  obtain ⟨r2, hr2, h⟩ := h
  refine cl_X1_204 K dX1_takeFromSuccessor_5 hr2 (by decide) (Nat.le_of_ble_eq_true rfl) (by decide) ?_
  refine k_astore_nQ (lv' := [(2, va_rf ((r2).map (kL w))), (0, .ref (kL w 0)), (1, .ref (kL w c1))]) K dX1_takeFromSuccessor_8 (by decide) rfl ?_
  refine k_aload_n K dX1_takeFromSuccessor_9 1 rfl ?_
  refine k_aload_n K dX1_takeFromSuccessor_10 2 rfl ?_
  replace h := k_bd h
  obtain ⟨r3, hr3, h⟩ := h
  refine cl_X1_107 K dX1_takeFromSuccessor_11 hr3 (by decide) (Nat.le_of_ble_eq_true rfl) (by decide) ?_
  refine k_astore_nQ (lv' := [(3, va_rf ((r3).map (kL w))), (2, va_rf ((r2).map (kL w))), (0, .ref (kL w 0)), (1, .ref (kL w c1))]) K dX1_takeFromSuccessor_14 (by decide) rfl ?_
  refine k_aload_nQ K dX1_takeFromSuccessor_15 1 rfl ?_
  replace h := k_mn h
  rcases h with ⟨hq4, h⟩ | ⟨q4, hq4, h⟩
  · subst hq4
    refine k_ifnullN K 28 dX1_takeFromSuccessor_16 (by decide) ?_
    refine k_iconst (v := 0) K dX1_takeFromSuccessor_28 (by decide) ?_
    cases h
    obtain rfl := hO _ rfl
    exact k_iret (v := 0) K hret dX1_takeFromSuccessor_29 (by decide) (by decide)
  · subst hq4
    refine k_ifnull K dX1_takeFromSuccessor_16 ?_
    refine k_aload_nQ K dX1_takeFromSuccessor_19 0 rfl ?_
    replace h := k_mn h
    rcases h with ⟨hq5, h⟩ | ⟨q5, hq5, h⟩
    · subst hq5
      refine k_ifnullN K 28 dX1_takeFromSuccessor_20 (by decide) ?_
      refine k_iconst (v := 0) K dX1_takeFromSuccessor_28 (by decide) ?_
      cases h
      obtain rfl := hO _ rfl
      exact k_iret (v := 0) K hret dX1_takeFromSuccessor_29 (by decide) (by decide)
    · subst hq5
      refine k_ifnull K dX1_takeFromSuccessor_20 ?_
      refine k_aload_n K dX1_takeFromSuccessor_23 0 rfl ?_
      refine k_aload_n K dX1_takeFromSuccessor_24 3 rfl ?_
      replace h := k_gd h
      obtain ⟨g7, h⟩ := h
      replace h := k_br h
      rcases h with ⟨b6, h⟩ | ⟨b6, h⟩
      · refine k_acmp_ne (x := some q5) (y := some c1) K 30 dX1_takeFromSuccessor_25 (by decide) (okq_s g7.1) (okq_s g7.2) (fun q => absurd b6 q) (fun _ => ?_)
        refine k_iconst (v := 0) K dX1_takeFromSuccessor_28 (by decide) ?_
        cases h
        obtain rfl := hO _ rfl
        exact k_iret (v := 0) K hret dX1_takeFromSuccessor_29 (by decide) (by decide)
      · refine k_acmp_ne (x := some q5) (y := some c1) K 30 dX1_takeFromSuccessor_25 (by decide) (okq_s g7.1) (okq_s g7.2) (fun _ => ?_) (fun q => absurd q b6)
        refine k_iconst (v := 0) K dX1_takeFromSuccessor_30 (by decide) ?_
        refine k_istore (lv' := [(4, .int 0), (3, .ref (kL w q5)), (2, .ref (kL w q4)), (0, .ref (kL w 0)), (1, .ref (kL w c1))]) K dX1_takeFromSuccessor_31 (by decide) rfl ?_
        refine k_iconst (v := 0) K dX1_takeFromSuccessor_33 (by decide) ?_
        refine k_istore (lv' := [(5, .int 0), (4, .int 0), (3, .ref (kL w q5)), (2, .ref (kL w q4)), (0, .ref (kL w 0)), (1, .ref (kL w c1))]) K dX1_takeFromSuccessor_34 (by decide) rfl ?_
        refine k_sub [5, 3, 2, 1, 0] rfl ?_
        exact lX1_takeFromSuccessor_36 K hret h hO
end F_X1_takeFromSuccessor
section C_X1_takeFromSuccessor
variable {w : kW} {p : Program} {l : Launch} {e : Env} {R : Room} {s : State} {m : MethodId} {args : Array Value} {below : List Frame} {meth : Method} {c : Code} {Q : State → Prop} {cc : ByteArray} {nL : Nat} {σ : kS} {pc : Nat} {lv : List (Nat × Value)} {st rest : List Value} {cells slots : Nat}
theorem cl_X1_123 (K : kC w p s m args meth c cc nL RX1) {a1 : Nat} {r : (Int32 × kS)} (d : decode cc pc = .ok (.invokevirtual 123, 3)) (h : fX1_takeFromSuccessor σ a1 = some r) (hR : rmX1_takeFromSuccessor.frames + 1 ≤ R.frames ∧ 8 + (6 + 11) + rmX1_takeFromSuccessor.locals ≤ R.locals) (hr : (rest.map fun v => v.category).sum ≤ 8) (hf : cells + 0 ≤ R.cells ∧ slots + 0 ≤ R.slots) (kk : kG w p l e R s m args below meth c Q nL r.2 (pc + 3) lv (.int r.1 :: rest) (cells + 0) (slots + 0)) : kG w p l e R s m args below meth c Q nL σ pc lv (.ref (kL w a1) :: .ref (kL w 0) :: rest) cells slots :=
  k_callVi (As := [.ref (kL w a1)]) (rest := rest) (n := 1) (C := RX1) (T := TX1) K d kd_0 rfl (kg_V tw_407 tw_409 tw_17 tw_48 tw_410) rfl (by decide +kernel) rfl hR hr rfl hf (mX1_takeFromSuccessor l w σ a1 h) ⟨rfl, rfl⟩ kk
end C_X1_takeFromSuccessor
section F_X1_copyToList
variable {w : kW} {p : Program} {l : Launch} {e : Env} {s : State} {m : MethodId} {args : Array Value} {below : List Frame} {meth : Method} {c : Code}
def fX1_copyToList_45 (c1 : Nat) (x2 : Int32) (x3 : Int32) (x4 : Int32) (σ : kS) : Option ((Int32 × Int32 × kS) ⊕ (Int32 × kS)) :=
  some (.inl (x3, x4 + 1, σ))
def gX1_copyToList_5 (c1 : Nat) (x2 : Int32) (x3 : Int32) (x4 : Int32) (σ : kS) : Option ((Int32 × Int32 × kS) ⊕ (Int32 × kS)) :=
  if (σ.1 0 7) ≤ x4 then
    some (.inr ((x3, σ)))
  else
    if kd c1 = (0, 0, 8) then
      if vpi x4 4 then
        (fX1_liveAt σ (σ.1 (c1 + 1 + 0) x4.toNatClampNeg)).bind fun r4 =>
        kmn (r4) (
          fX1_copyToList_45 c1 x2 x3 x4 σ
        ) fun q5 =>
          (fX1_copyIfHigher σ c1 q5 x2).bind fun r6 =>
          if r6.1 = 0 then
            fX1_copyToList_45 c1 x2 x3 x4 r6.2
          else
            fX1_copyToList_45 c1 x2 (x3 + 1) x4 r6.2
      else none
    else none
def fX1_copyToList_5 (c1 : Nat) (x2 : Int32) (a : Int32 × Int32 × kS) : Option ((Int32 × Int32 × kS) ⊕ (Int32 × kS)) := gX1_copyToList_5 c1 x2 a.1 a.2.1 a.2.2
def fX1_copyToList (σ : kS) (c1 : Nat) (x2 : Int32) : Option (Int32 × kS) :=
  kit (fX1_copyToList_5 c1 x2) 300 (0, 0, σ)
def rmX1_copyToList : Room := { frames := 2, cells := 0, slots := 0, locals := 44 }
set_option maxRecDepth 20000 in
theorem pX1_copyToList_45 (K : kC w p s m args meth c cX1_copyToList 6 RX1) (hret : meth.sig.returnType = (some .int)) {c1 : Nat} {x2 : Int32} {x3 : Int32} {x4 : Int32} {σ : kS} {r : ((Int32 × Int32 × kS) ⊕ (Int32 × kS))} {o : (Int32 × kS)} (h : fX1_copyToList_45 c1 x2 x3 x4 σ = some r) (hL5 : ∀ z, r = .inl z → kG w p l e rmX1_copyToList s m args below meth c (MQ below (kQi w o.1 o.2) args s 0 0 (kA w)) 6 z.2.2 5 [(0, .ref (kL w 0)), (1, .ref (kL w c1)), (2, .int x2), (3, .int (z.1)), (4, .int (z.2.1))] [] 0 0) (hO : ∀ z, r = .inr z → z = o) : kG w p l e rmX1_copyToList s m args below meth c (MQ below (kQi w o.1 o.2) args s 0 0 (kA w)) 6 σ 45 [(0, .ref (kL w 0)), (1, .ref (kL w c1)), (2, .int x2), (3, .int x3), (4, .int x4)] [] 0 0 := by
  unfold fX1_copyToList_45 at h
  refine k_iinc (v := 1) (lv' := [(4, .int (x4 + 1)), (0, .ref (kL w 0)), (1, .ref (kL w c1)), (2, .int x2), (3, .int x3)]) K dX1_copyToList_45 4 rfl (by decide) (by decide) rfl ?_
  refine k_goto K 5 dX1_copyToList_48 (by decide) ?_
  refine k_sub [1, 2, 3, 4, 0] rfl ?_
  cases h
  exact hL5 _ rfl
set_option maxRecDepth 20000 in
theorem pX1_copyToList_5 (K : kC w p s m args meth c cX1_copyToList 6 RX1) (hret : meth.sig.returnType = (some .int)) {c1 : Nat} {x2 : Int32} {x3 : Int32} {x4 : Int32} {σ : kS} {r : ((Int32 × Int32 × kS) ⊕ (Int32 × kS))} {o : (Int32 × kS)} (h : gX1_copyToList_5 c1 x2 x3 x4 σ = some r) (hL5 : ∀ z, r = .inl z → kG w p l e rmX1_copyToList s m args below meth c (MQ below (kQi w o.1 o.2) args s 0 0 (kA w)) 6 z.2.2 5 [(0, .ref (kL w 0)), (1, .ref (kL w c1)), (2, .int x2), (3, .int (z.1)), (4, .int (z.2.1))] [] 0 0) (hO : ∀ z, r = .inr z → z = o) : kG w p l e rmX1_copyToList s m args below meth c (MQ below (kQi w o.1 o.2) args s 0 0 (kA w)) 6 σ 5 [(0, .ref (kL w 0)), (1, .ref (kL w c1)), (2, .int x2), (3, .int x3), (4, .int x4)] [] 0 0 := by
  unfold gX1_copyToList_5 at h
  refine k_iload K dX1_copyToList_5 4 rfl ?_
  refine k_aload_n K dX1_copyToList_7 0 rfl ?_
  refine fg_X1_30 K dX1_copyToList_8 ?_
  replace h := k_br h
  rcases h with ⟨b1, h⟩ | ⟨b1, h⟩
  · refine k_icmp_ge K 51 dX1_copyToList_11 (by decide) (fun _ => ?_) (fun q => absurd b1 q)
    refine k_iload_n K dX1_copyToList_51 3 rfl ?_
    cases h
    obtain rfl := hO _ rfl
    exact k_iret K hret dX1_copyToList_52 (by decide) (by decide)
  · refine k_icmp_ge K 51 dX1_copyToList_11 (by decide) (fun q => absurd q b1) (fun _ => ?_)
    refine k_aload_n K dX1_copyToList_14 0 rfl ?_
    refine k_aload_n K dX1_copyToList_15 1 rfl ?_
    replace h := k_gd h
    obtain ⟨g2, h⟩ := h
    refine fg_X1_68 K dX1_copyToList_16 g2 ?_
    refine k_iload K dX1_copyToList_19 4 rfl ?_
    replace h := k_gd h
    obtain ⟨g3, h⟩ := h
    refine k_iald K dX1_copyToList_21 (kd_m0 g2).1 g3 ?_
    replace h := k_bd h
    obtain ⟨r4, hr4, h⟩ := h
    refine cl_X1_204 K dX1_copyToList_22 hr4 (by decide) (Nat.le_of_ble_eq_true rfl) (by decide) ?_
    refine k_astoreQ (lv' := [(5, va_rf ((r4).map (kL w))), (0, .ref (kL w 0)), (1, .ref (kL w c1)), (2, .int x2), (3, .int x3), (4, .int x4)]) K dX1_copyToList_25 (by decide) rfl ?_
    refine k_aloadQ K dX1_copyToList_27 0 rfl ?_
    replace h := k_mn h
    rcases h with ⟨hq5, h⟩ | ⟨q5, hq5, h⟩
    · subst hq5
      refine k_ifnullN K 45 dX1_copyToList_29 (by decide) ?_
      refine k_sub [1, 2, 3, 4, 5] rfl ?_
      exact pX1_copyToList_45 K hret h hL5 hO
    · subst hq5
      refine k_ifnull K dX1_copyToList_29 ?_
      refine k_aload_n K dX1_copyToList_32 2 rfl ?_
      refine k_aload K dX1_copyToList_33 0 rfl ?_
      refine k_iload_n K dX1_copyToList_35 3 rfl ?_
      replace h := k_bd h
      obtain ⟨r6, hr6, h⟩ := h
      refine cl_X1_255 K dX1_copyToList_36 hr6 (by decide) (Nat.le_of_ble_eq_true rfl) (by decide) ?_
      replace h := k_br h
      rcases h with ⟨b7, h⟩ | ⟨b7, h⟩
      · refine k_if_eq K 45 dX1_copyToList_39 (by decide) (fun _ => ?_) (fun q => absurd b7 q)
        refine k_sub [1, 2, 3, 4, 5] rfl ?_
        exact pX1_copyToList_45 K hret h hL5 hO
      · refine k_if_eq K 45 dX1_copyToList_39 (by decide) (fun q => absurd q b7) (fun _ => ?_)
        refine k_iinc (v := 1) (lv' := [(3, .int (x3 + 1)), (5, .ref (kL w q5)), (0, .ref (kL w 0)), (1, .ref (kL w c1)), (2, .int x2), (4, .int x4)]) K dX1_copyToList_42 4 rfl (by decide) (by decide) rfl ?_
        refine k_sub [2, 3, 4, 0, 5] rfl ?_
        exact pX1_copyToList_45 K hret h hL5 hO
set_option maxRecDepth 20000 in
theorem lX1_copyToList_5 (K : kC w p s m args meth c cX1_copyToList 6 RX1) (hret : meth.sig.returnType = (some .int)) {c1 : Nat} {x2 : Int32} {n : Nat} {a : Int32 × Int32 × kS} {r : (Int32 × kS)} {o : (Int32 × kS)} (h : kit (fX1_copyToList_5 c1 x2) n a = some r) (hO : ∀ z, r = z → z = o) : kG w p l e rmX1_copyToList s m args below meth c (MQ below (kQi w o.1 o.2) args s 0 0 (kA w)) 6 a.2.2 5 [(0, .ref (kL w 0)), (1, .ref (kL w c1)), (2, .int x2), (3, .int (a.1)), (4, .int (a.2.1))] [] 0 0 :=
  kit_ind (body := fX1_copyToList_5 c1 x2) (fun a r => (∀ z, r = z → z = o) → kG w p l e rmX1_copyToList s m args below meth c (MQ below (kQi w o.1 o.2) args s 0 0 (kA w)) 6 a.2.2 5 [(0, .ref (kL w 0)), (1, .ref (kL w c1)), (2, .int x2), (3, .int (a.1)), (4, .int (a.2.1))] [] 0 0) (fun a a2 r hb ih hO => pX1_copyToList_5 K hret hb (fun z e => by cases e; exact ih hO) (fun _ e => by cases e)) (fun a r hb hO => pX1_copyToList_5 K hret hb (fun _ e => by cases e) (fun z e => hO z (by cases e; rfl))) n a r h hO
set_option maxRecDepth 20000 in
theorem mX1_copyToList (l : Launch) (w : kW) (σ : kS) (c1 : Nat) (x2 : Int32) {o : (Int32 × kS)} (h : fX1_copyToList σ c1 x2 = some o) : Met l yX1_copyToList (Cond.code yX1_copyToList cX1_copyToList 6 (some .int) :: TB) rmX1_copyToList (va_Pc [.ref (kL w 0), .ref (kL w c1), .int x2] (kP w σ)) (kQi w o.1 o.2) 0 0 (kA w) := by
  refine k_met (by decide +kernel) [.ref (kL w 0), .ref (kL w c1), .int x2] (Nat.le_of_ble_eq_true rfl) (by simp [lv_args, Value.category]) ?_
  intro p e s m args below meth c K hret
  have K : kC w p s m args meth c cX1_copyToList 6 RX1 := K
  obtain ⟨r, hro⟩ : ∃ r, r = o := ⟨o, rfl⟩
  rw [← hro] at h
  have hO : ∀ z, r = z → z = o := fun z e => by rw [← e]; exact hro
  unfold fX1_copyToList at h
  refine k_iconst (v := 0) K dX1_copyToList_0 (by decide) ?_
  refine k_istore_n (lv' := [(3, .int 0), (0, .ref (kL w 0)), (1, .ref (kL w c1)), (2, .int x2)]) K dX1_copyToList_1 (by decide) rfl ?_
  refine k_iconst (v := 0) K dX1_copyToList_2 (by decide) ?_
  refine k_istore (lv' := [(4, .int 0), (3, .int 0), (0, .ref (kL w 0)), (1, .ref (kL w c1)), (2, .int x2)]) K dX1_copyToList_3 (by decide) rfl ?_
  refine k_sub [2, 3, 4, 1, 0] rfl ?_
  exact lX1_copyToList_5 K hret h hO
end F_X1_copyToList
section C_X1_copyToList
variable {w : kW} {p : Program} {l : Launch} {e : Env} {R : Room} {s : State} {m : MethodId} {args : Array Value} {below : List Frame} {meth : Method} {c : Code} {Q : State → Prop} {cc : ByteArray} {nL : Nat} {σ : kS} {pc : Nat} {lv : List (Nat × Value)} {st rest : List Value} {cells slots : Nat}
theorem cl_X1_168 (K : kC w p s m args meth c cc nL RX1) {a1 : Nat} {a2 : Int32} {r : (Int32 × kS)} (d : decode cc pc = .ok (.invokevirtual 168, 3)) (h : fX1_copyToList σ a1 a2 = some r) (hR : rmX1_copyToList.frames + 1 ≤ R.frames ∧ 8 + (6 + 11) + rmX1_copyToList.locals ≤ R.locals) (hr : (rest.map fun v => v.category).sum ≤ 8) (hf : cells + 0 ≤ R.cells ∧ slots + 0 ≤ R.slots) (kk : kG w p l e R s m args below meth c Q nL r.2 (pc + 3) lv (.int r.1 :: rest) (cells + 0) (slots + 0)) : kG w p l e R s m args below meth c Q nL σ pc lv (.int a2 :: .ref (kL w a1) :: .ref (kL w 0) :: rest) cells slots :=
  k_callVi (As := [.ref (kL w a1), .int a2]) (rest := rest) (n := 2) (C := RX1) (T := TX1) K d kd_0 rfl (kg_V tw_434 tw_436 tw_19 tw_48 tw_437) rfl (by decide +kernel) rfl hR hr rfl hf (mX1_copyToList l w σ a1 a2 h) ⟨rfl, rfl⟩ kk
end C_X1_copyToList
section F_X1_spreadFrom
variable {w : kW} {p : Program} {l : Launch} {e : Env} {s : State} {m : MethodId} {args : Array Value} {below : List Frame} {meth : Method} {c : Code}
def fX1_spreadFrom_47 (c1 : Nat) (c2 : Nat) (x3 : Int32) (x4 : Int32) (σ : kS) : Option ((Int32 × Int32 × kS) ⊕ (Int32 × kS)) :=
  some (.inl (x3, x4 + 1, σ))
def gX1_spreadFrom_20 (c1 : Nat) (c2 : Nat) (x3 : Int32) (x4 : Int32) (σ : kS) : Option ((Int32 × Int32 × kS) ⊕ (Int32 × kS)) :=
  if 64 ≤ x4 then
    some (.inr ((x3, σ)))
  else
    (fX1_isInCare σ c1 c2 x4).bind fun r2 =>
    if r2 = 0 then
      fX1_spreadFrom_47 c1 c2 x3 x4 σ
    else
      (fX1_copyToList σ c1 x4).bind fun r4 =>
      fX1_spreadFrom_47 c1 c2 (x3 + r4.1) x4 r4.2
def fX1_spreadFrom_20 (c1 : Nat) (c2 : Nat) (a : Int32 × Int32 × kS) : Option ((Int32 × Int32 × kS) ⊕ (Int32 × kS)) := gX1_spreadFrom_20 c1 c2 a.1 a.2.1 a.2.2
def fX1_spreadFrom (σ : kS) (c1 : Nat) : Option (Int32 × kS) :=
  if kd c1 = (0, 0, 8) then
    (fX1_liveAt σ (σ.1 c1 6)).bind fun r2 =>
    kmn (r2) (
      some ((0, σ))
    ) fun q3 =>
      kit (fX1_spreadFrom_20 c1 q3) 300 (0, 0, σ)
  else none
def rmX1_spreadFrom : Room := { frames := 3, cells := 0, slots := 0, locals := 69 }
set_option maxRecDepth 20000 in
theorem pX1_spreadFrom_47 (K : kC w p s m args meth c cX1_spreadFrom 5 RX1) (hret : meth.sig.returnType = (some .int)) {c1 : Nat} {c2 : Nat} {x3 : Int32} {x4 : Int32} {σ : kS} {r : ((Int32 × Int32 × kS) ⊕ (Int32 × kS))} {o : (Int32 × kS)} (h : fX1_spreadFrom_47 c1 c2 x3 x4 σ = some r) (hL20 : ∀ z, r = .inl z → kG w p l e rmX1_spreadFrom s m args below meth c (MQ below (kQi w o.1 o.2) args s 0 0 (kA w)) 5 z.2.2 20 [(0, .ref (kL w 0)), (1, .ref (kL w c1)), (2, .ref (kL w c2)), (3, .int (z.1)), (4, .int (z.2.1))] [] 0 0) (hO : ∀ z, r = .inr z → z = o) : kG w p l e rmX1_spreadFrom s m args below meth c (MQ below (kQi w o.1 o.2) args s 0 0 (kA w)) 5 σ 47 [(0, .ref (kL w 0)), (1, .ref (kL w c1)), (2, .ref (kL w c2)), (3, .int x3), (4, .int x4)] [] 0 0 := by
  unfold fX1_spreadFrom_47 at h
  refine k_iinc (v := 1) (lv' := [(4, .int (x4 + 1)), (0, .ref (kL w 0)), (1, .ref (kL w c1)), (2, .ref (kL w c2)), (3, .int x3)]) K dX1_spreadFrom_47 4 rfl (by decide) (by decide) rfl ?_
  refine k_goto K 20 dX1_spreadFrom_50 (by decide) ?_
  refine k_sub [1, 2, 3, 4, 0] rfl ?_
  cases h
  exact hL20 _ rfl
set_option maxRecDepth 20000 in
theorem pX1_spreadFrom_20 (K : kC w p s m args meth c cX1_spreadFrom 5 RX1) (hret : meth.sig.returnType = (some .int)) {c1 : Nat} {c2 : Nat} {x3 : Int32} {x4 : Int32} {σ : kS} {r : ((Int32 × Int32 × kS) ⊕ (Int32 × kS))} {o : (Int32 × kS)} (h : gX1_spreadFrom_20 c1 c2 x3 x4 σ = some r) (hL20 : ∀ z, r = .inl z → kG w p l e rmX1_spreadFrom s m args below meth c (MQ below (kQi w o.1 o.2) args s 0 0 (kA w)) 5 z.2.2 20 [(0, .ref (kL w 0)), (1, .ref (kL w c1)), (2, .ref (kL w c2)), (3, .int (z.1)), (4, .int (z.2.1))] [] 0 0) (hO : ∀ z, r = .inr z → z = o) : kG w p l e rmX1_spreadFrom s m args below meth c (MQ below (kQi w o.1 o.2) args s 0 0 (kA w)) 5 σ 20 [(0, .ref (kL w 0)), (1, .ref (kL w c1)), (2, .ref (kL w c2)), (3, .int x3), (4, .int x4)] [] 0 0 := by
  unfold gX1_spreadFrom_20 at h
  refine k_iload K dX1_spreadFrom_20 4 rfl ?_
  refine k_bipush (v := 64) K dX1_spreadFrom_22 (by decide) ?_
  replace h := k_br h
  rcases h with ⟨b1, h⟩ | ⟨b1, h⟩
  · refine k_icmp_ge K 53 dX1_spreadFrom_24 (by decide) (fun _ => ?_) (fun q => absurd b1 q)
    refine k_iload_n K dX1_spreadFrom_53 3 rfl ?_
    cases h
    obtain rfl := hO _ rfl
    exact k_iret K hret dX1_spreadFrom_54 (by decide) (by decide)
  · refine k_icmp_ge K 53 dX1_spreadFrom_24 (by decide) (fun q => absurd q b1) (fun _ => ?_)
    refine k_aload_n K dX1_spreadFrom_27 1 rfl ?_
    refine k_aload_n K dX1_spreadFrom_28 2 rfl ?_
    refine k_iload K dX1_spreadFrom_29 4 rfl ?_
    replace h := k_bd h
    obtain ⟨r2, hr2, h⟩ := h
    refine cl_X1_251 K dX1_spreadFrom_31 hr2 (by decide) (Nat.le_of_ble_eq_true rfl) (by decide) ?_
    replace h := k_br h
    rcases h with ⟨b3, h⟩ | ⟨b3, h⟩
    · refine k_if_eq K 47 dX1_spreadFrom_34 (by decide) (fun _ => ?_) (fun q => absurd b3 q)
      exact pX1_spreadFrom_47 K hret h hL20 hO
    · refine k_if_eq K 47 dX1_spreadFrom_34 (by decide) (fun q => absurd q b3) (fun _ => ?_)
      refine k_iload_n K dX1_spreadFrom_37 3 rfl ?_
      refine k_aload_n K dX1_spreadFrom_38 0 rfl ?_
      refine k_aload_n K dX1_spreadFrom_39 1 rfl ?_
      refine k_iload K dX1_spreadFrom_40 4 rfl ?_
      replace h := k_bd h
      obtain ⟨r4, hr4, h⟩ := h
      refine cl_X1_168 K dX1_spreadFrom_42 hr4 (by decide) (Nat.le_of_ble_eq_true rfl) (by decide) ?_
      refine k_iadd K dX1_spreadFrom_45 ?_
      refine k_istore_n (lv' := [(3, .int (x3 + r4.1)), (0, .ref (kL w 0)), (1, .ref (kL w c1)), (2, .ref (kL w c2)), (4, .int x4)]) K dX1_spreadFrom_46 (by decide) rfl ?_
      refine k_sub [1, 2, 3, 0, 4] rfl ?_
      exact pX1_spreadFrom_47 K hret h hL20 hO
set_option maxRecDepth 20000 in
theorem lX1_spreadFrom_20 (K : kC w p s m args meth c cX1_spreadFrom 5 RX1) (hret : meth.sig.returnType = (some .int)) {c1 : Nat} {c2 : Nat} {n : Nat} {a : Int32 × Int32 × kS} {r : (Int32 × kS)} {o : (Int32 × kS)} (h : kit (fX1_spreadFrom_20 c1 c2) n a = some r) (hO : ∀ z, r = z → z = o) : kG w p l e rmX1_spreadFrom s m args below meth c (MQ below (kQi w o.1 o.2) args s 0 0 (kA w)) 5 a.2.2 20 [(0, .ref (kL w 0)), (1, .ref (kL w c1)), (2, .ref (kL w c2)), (3, .int (a.1)), (4, .int (a.2.1))] [] 0 0 :=
  kit_ind (body := fX1_spreadFrom_20 c1 c2) (fun a r => (∀ z, r = z → z = o) → kG w p l e rmX1_spreadFrom s m args below meth c (MQ below (kQi w o.1 o.2) args s 0 0 (kA w)) 5 a.2.2 20 [(0, .ref (kL w 0)), (1, .ref (kL w c1)), (2, .ref (kL w c2)), (3, .int (a.1)), (4, .int (a.2.1))] [] 0 0) (fun a a2 r hb ih hO => pX1_spreadFrom_20 K hret hb (fun z e => by cases e; exact ih hO) (fun _ e => by cases e)) (fun a r hb hO => pX1_spreadFrom_20 K hret hb (fun _ e => by cases e) (fun z e => hO z (by cases e; rfl))) n a r h hO
set_option maxRecDepth 20000 in
theorem mX1_spreadFrom (l : Launch) (w : kW) (σ : kS) (c1 : Nat) {o : (Int32 × kS)} (h : fX1_spreadFrom σ c1 = some o) : Met l yX1_spreadFrom (Cond.code yX1_spreadFrom cX1_spreadFrom 5 (some .int) :: TB) rmX1_spreadFrom (va_Pc [.ref (kL w 0), .ref (kL w c1)] (kP w σ)) (kQi w o.1 o.2) 0 0 (kA w) := by
  refine k_met (by decide +kernel) [.ref (kL w 0), .ref (kL w c1)] (Nat.le_of_ble_eq_true rfl) (by simp [lv_args, Value.category]) ?_
  intro p e s m args below meth c K hret
  have K : kC w p s m args meth c cX1_spreadFrom 5 RX1 := K
  obtain ⟨r, hro⟩ : ∃ r, r = o := ⟨o, rfl⟩
  rw [← hro] at h
  have hO : ∀ z, r = z → z = o := fun z e => by rw [← e]; exact hro
  unfold fX1_spreadFrom at h
  refine k_aload_n K dX1_spreadFrom_0 0 rfl ?_
  refine k_aload_n K dX1_spreadFrom_1 1 rfl ?_
  replace h := k_gd h
  obtain ⟨g1, h⟩ := h
  refine fg_X1_75 K dX1_spreadFrom_2 g1 ?_
  replace h := k_bd h
  obtain ⟨r2, hr2, h⟩ := h
  refine cl_X1_204 K dX1_spreadFrom_5 hr2 (by decide) (Nat.le_of_ble_eq_true rfl) (by decide) ?_
  refine k_astore_nQ (lv' := [(2, va_rf ((r2).map (kL w))), (0, .ref (kL w 0)), (1, .ref (kL w c1))]) K dX1_spreadFrom_8 (by decide) rfl ?_
  refine k_aload_nQ K dX1_spreadFrom_9 0 rfl ?_
  replace h := k_mn h
  rcases h with ⟨hq3, h⟩ | ⟨q3, hq3, h⟩
  · subst hq3
    refine k_ifnonnullN K dX1_spreadFrom_10 ?_
    refine k_iconst (v := 0) K dX1_spreadFrom_13 (by decide) ?_
    cases h
    obtain rfl := hO _ rfl
    exact k_iret (v := 0) K hret dX1_spreadFrom_14 (by decide) (by decide)
  · subst hq3
    refine k_ifnonnull K 15 dX1_spreadFrom_10 (by decide) ?_
    refine k_iconst (v := 0) K dX1_spreadFrom_15 (by decide) ?_
    refine k_istore_n (lv' := [(3, .int 0), (2, .ref (kL w q3)), (0, .ref (kL w 0)), (1, .ref (kL w c1))]) K dX1_spreadFrom_16 (by decide) rfl ?_
    refine k_iconst (v := 0) K dX1_spreadFrom_17 (by decide) ?_
    refine k_istore (lv' := [(4, .int 0), (3, .int 0), (2, .ref (kL w q3)), (0, .ref (kL w 0)), (1, .ref (kL w c1))]) K dX1_spreadFrom_18 (by decide) rfl ?_
    refine k_sub [3, 4, 2, 1, 0] rfl ?_
    exact lX1_spreadFrom_20 K hret h hO
end F_X1_spreadFrom
section C_X1_spreadFrom
variable {w : kW} {p : Program} {l : Launch} {e : Env} {R : Room} {s : State} {m : MethodId} {args : Array Value} {below : List Frame} {meth : Method} {c : Code} {Q : State → Prop} {cc : ByteArray} {nL : Nat} {σ : kS} {pc : Nat} {lv : List (Nat × Value)} {st rest : List Value} {cells slots : Nat}
theorem cl_X1_127 (K : kC w p s m args meth c cc nL RX1) {a1 : Nat} {r : (Int32 × kS)} (d : decode cc pc = .ok (.invokevirtual 127, 3)) (h : fX1_spreadFrom σ a1 = some r) (hR : rmX1_spreadFrom.frames + 1 ≤ R.frames ∧ 8 + (5 + 11) + rmX1_spreadFrom.locals ≤ R.locals) (hr : (rest.map fun v => v.category).sum ≤ 8) (hf : cells + 0 ≤ R.cells ∧ slots + 0 ≤ R.slots) (kk : kG w p l e R s m args below meth c Q nL r.2 (pc + 3) lv (.int r.1 :: rest) (cells + 0) (slots + 0)) : kG w p l e R s m args below meth c Q nL σ pc lv (.ref (kL w a1) :: .ref (kL w 0) :: rest) cells slots :=
  k_callVi (As := [.ref (kL w a1)]) (rest := rest) (n := 1) (C := RX1) (T := TX1) K d kd_0 rfl (kg_V tw_430 tw_432 tw_18 tw_48 tw_433) rfl (by decide +kernel) rfl hR hr rfl hf (mX1_spreadFrom l w σ a1 h) ⟨rfl, rfl⟩ kk
end C_X1_spreadFrom
section F_X1_takeTurn
variable {w : kW} {p : Program} {l : Launch} {e : Env} {s : State} {m : MethodId} {args : Array Value} {below : List Frame} {meth : Method} {c : Code}
def fX1_takeTurn (σ : kS) (c1 : Nat) : Option (Int32 × kS) :=
  (fX1_stabiliseMember σ c1).bind fun r1 =>
  if kd c1 = (0, 0, 8) then
    (fX1_mendFinger r1 c1 (r1.1 c1 7)).bind fun r3 =>
    (fX1_takeFromSuccessor (sI r3 c1 7 (((r3.1 c1 7) + 1) - ((r3.1 c1 7) + 1) / 8 * 8)) c1).bind fun r4 =>
    (fX1_spreadFrom r4.2 c1).bind fun r5 =>
    some ((r4.1 + r5.1, r5.2))
  else none
def rmX1_takeTurn : Room := { frames := 6, cells := 0, slots := 0, locals := 134 }
set_option maxRecDepth 20000 in
theorem mX1_takeTurn (l : Launch) (w : kW) (σ : kS) (c1 : Nat) {o : (Int32 × kS)} (h : fX1_takeTurn σ c1 = some o) : Met l yX1_takeTurn (Cond.code yX1_takeTurn cX1_takeTurn 2 (some .int) :: TB) rmX1_takeTurn (va_Pc [.ref (kL w 0), .ref (kL w c1)] (kP w σ)) (kQi w o.1 o.2) 0 0 (kA w) := by
  refine k_met (by decide +kernel) [.ref (kL w 0), .ref (kL w c1)] (Nat.le_of_ble_eq_true rfl) (by simp [lv_args, Value.category]) ?_
  intro p e s m args below meth c K hret
  have K : kC w p s m args meth c cX1_takeTurn 2 RX1 := K
  obtain ⟨r, hro⟩ : ∃ r, r = o := ⟨o, rfl⟩
  rw [← hro] at h
  have hO : ∀ z, r = z → z = o := fun z e => by rw [← e]; exact hro
  unfold fX1_takeTurn at h
  refine k_aload_n K dX1_takeTurn_0 0 rfl ?_
  refine k_aload_n K dX1_takeTurn_1 1 rfl ?_
  replace h := k_bd h
  obtain ⟨r1, hr1, h⟩ := h
  refine cl_X1_104 K dX1_takeTurn_2 hr1 (by decide) (Nat.le_of_ble_eq_true rfl) (by decide) ?_
  refine k_aload_n K dX1_takeTurn_5 0 rfl ?_
  refine k_aload_n K dX1_takeTurn_6 1 rfl ?_
  refine k_aload_n K dX1_takeTurn_7 1 rfl ?_
  replace h := k_gd h
  obtain ⟨g2, h⟩ := h
  refine fg_X1_248 K dX1_takeTurn_8 g2 ?_
  replace h := k_bd h
  obtain ⟨r3, hr3, h⟩ := h
  refine cl_X1_116 K dX1_takeTurn_11 hr3 (by decide) (Nat.le_of_ble_eq_true rfl) (by decide) ?_
  refine k_aload_n K dX1_takeTurn_14 1 rfl ?_
  refine k_aload_n K dX1_takeTurn_15 1 rfl ?_
  refine fg_X1_248 K dX1_takeTurn_16 g2 ?_
  refine k_iconst (v := 1) K dX1_takeTurn_19 (by decide) ?_
  refine k_iadd K dX1_takeTurn_20 ?_
  refine k_bipush (v := 8) K dX1_takeTurn_21 (by decide) ?_
  refine k_irem K dX1_takeTurn_23 (by decide) ?_
  refine fp_X1_248 K dX1_takeTurn_24 g2 ?_
  refine k_aload_n K dX1_takeTurn_27 0 rfl ?_
  refine k_aload_n K dX1_takeTurn_28 1 rfl ?_
  replace h := k_bd h
  obtain ⟨r4, hr4, h⟩ := h
  refine cl_X1_123 K dX1_takeTurn_29 hr4 (by decide) (Nat.le_of_ble_eq_true rfl) (by decide) ?_
  refine k_aload_n K dX1_takeTurn_32 0 rfl ?_
  refine k_aload_n K dX1_takeTurn_33 1 rfl ?_
  replace h := k_bd h
  obtain ⟨r5, hr5, h⟩ := h
  refine cl_X1_127 K dX1_takeTurn_34 hr5 (by decide) (Nat.le_of_ble_eq_true rfl) (by decide) ?_
  refine k_iadd K dX1_takeTurn_37 ?_
  cases h
  obtain rfl := hO _ rfl
  exact k_iret (v := r4.1 + r5.1) K hret dX1_takeTurn_38 (by decide) (by decide)
end F_X1_takeTurn
section F_X1_removeMember
variable {w : kW} {p : Program} {l : Launch} {e : Env} {s : State} {m : MethodId} {args : Array Value} {below : List Frame} {meth : Method} {c : Code}
def fX1_removeMember_45 (c1 : Nat) (x2 : Int32) (σ : kS) : Option ((Int32 × kS) ⊕ kS) :=
  some (.inl (x2 + 1, σ))
def gX1_removeMember_2 (c1 : Nat) (x2 : Int32) (σ : kS) : Option ((Int32 × kS) ⊕ kS) :=
  if ((σ.1 0 9) - 1) ≤ x2 then
    if kd c1 = (0, 0, 8) then
      if vpi (σ.1 c1 5) 256 then
        some (.inr (sI (sI (sR σ 122 (σ.1 c1 5).toNatClampNeg none) 0 9 (((sR σ 122 (σ.1 c1 5).toNatClampNeg none).1 0 9) - 1)) 0 10 (((sI (sR σ 122 (σ.1 c1 5).toNatClampNeg none) 0 9 (((sR σ 122 (σ.1 c1 5).toNatClampNeg none).1 0 9) - 1)).1 0 10) + 1)))
      else none
    else none
  else
    if vpi x2 20 then
      if okq (σ.2.1 1 x2.toNatClampNeg) = true ∧ okq (some c1) = true then
        if σ.2.1 1 x2.toNatClampNeg = some c1 then
          if vpi (x2 + 1) 20 then
            (σ.2.1 1 (x2 + 1).toNatClampNeg).bind fun q8 =>
            if kd q8 = (0, 0, 8) then
              if kd c1 = (0, 0, 8) then
                fX1_removeMember_45 c1 x2 (sR (sR σ 1 x2.toNatClampNeg (some q8)) 1 (x2 + 1).toNatClampNeg (some c1))
              else none
            else none
          else none
        else
          fX1_removeMember_45 c1 x2 σ
      else none
    else none
def fX1_removeMember_2 (c1 : Nat) (a : Int32 × kS) : Option ((Int32 × kS) ⊕ kS) := gX1_removeMember_2 c1 a.1 a.2
def fX1_removeMember (σ : kS) (c1 : Nat) : Option kS :=
  kit (fX1_removeMember_2 c1) 300 (0, σ)
def rmX1_removeMember : Room := { frames := 0, cells := 0, slots := 0, locals := 0 }
set_option maxRecDepth 20000 in
theorem pX1_removeMember_45 (K : kC w p s m args meth c cX1_removeMember 3 RX1) (hret : meth.sig.returnType = none) {c1 : Nat} {x2 : Int32} {σ : kS} {r : ((Int32 × kS) ⊕ kS)} {o : kS} (h : fX1_removeMember_45 c1 x2 σ = some r) (hL2 : ∀ z, r = .inl z → kG w p l e rmX1_removeMember s m args below meth c (MQ below (kQv w o) args s 0 0 (kA w)) 3 z.2 2 [(0, .ref (kL w 0)), (1, .ref (kL w c1)), (2, .int (z.1))] [] 0 0) (hO : ∀ z, r = .inr z → z = o) : kG w p l e rmX1_removeMember s m args below meth c (MQ below (kQv w o) args s 0 0 (kA w)) 3 σ 45 [(0, .ref (kL w 0)), (1, .ref (kL w c1)), (2, .int x2)] [] 0 0 := by
  unfold fX1_removeMember_45 at h
  refine k_iinc (v := 1) (lv' := [(2, .int (x2 + 1)), (0, .ref (kL w 0)), (1, .ref (kL w c1))]) K dX1_removeMember_45 2 rfl (by decide) (by decide) rfl ?_
  refine k_goto K 2 dX1_removeMember_48 (by decide) ?_
  refine k_sub [1, 2, 0] rfl ?_
  cases h
  exact hL2 _ rfl
set_option maxRecDepth 20000 in
theorem pX1_removeMember_2 (K : kC w p s m args meth c cX1_removeMember 3 RX1) (hret : meth.sig.returnType = none) {c1 : Nat} {x2 : Int32} {σ : kS} {r : ((Int32 × kS) ⊕ kS)} {o : kS} (h : gX1_removeMember_2 c1 x2 σ = some r) (hL2 : ∀ z, r = .inl z → kG w p l e rmX1_removeMember s m args below meth c (MQ below (kQv w o) args s 0 0 (kA w)) 3 z.2 2 [(0, .ref (kL w 0)), (1, .ref (kL w c1)), (2, .int (z.1))] [] 0 0) (hO : ∀ z, r = .inr z → z = o) : kG w p l e rmX1_removeMember s m args below meth c (MQ below (kQv w o) args s 0 0 (kA w)) 3 σ 2 [(0, .ref (kL w 0)), (1, .ref (kL w c1)), (2, .int x2)] [] 0 0 := by
  unfold gX1_removeMember_2 at h
  refine k_iload_n K dX1_removeMember_2 2 rfl ?_
  refine k_aload_n K dX1_removeMember_3 0 rfl ?_
  refine fg_X1_41 K dX1_removeMember_4 ?_
  refine k_iconst (v := 1) K dX1_removeMember_7 (by decide) ?_
  refine k_isub K dX1_removeMember_8 ?_
  replace h := k_br h
  rcases h with ⟨b1, h⟩ | ⟨b1, h⟩
  · refine k_icmp_ge K 51 dX1_removeMember_9 (by decide) (fun _ => ?_) (fun q => absurd b1 q)
    refine k_aload_n K dX1_removeMember_51 0 rfl ?_
    refine fg_X1_16 K dX1_removeMember_52 ?_
    refine k_aload_n K dX1_removeMember_55 1 rfl ?_
    replace h := k_gd h
    obtain ⟨g2, h⟩ := h
    refine fg_X1_89 K dX1_removeMember_56 g2 ?_
    refine k_null K dX1_removeMember_59 ?_
    replace h := k_gd h
    obtain ⟨g3, h⟩ := h
    refine k_aastN K dX1_removeMember_60 kd_122 g3 ?_
    refine k_aload_n K dX1_removeMember_61 0 rfl ?_
    refine k_dup K dX1_removeMember_62 rfl ?_
    refine fg_X1_41 K dX1_removeMember_63 ?_
    refine k_iconst (v := 1) K dX1_removeMember_66 (by decide) ?_
    refine k_isub K dX1_removeMember_67 ?_
    refine fp_X1_41 K dX1_removeMember_68 ?_
    refine k_aload_n K dX1_removeMember_71 0 rfl ?_
    refine k_dup K dX1_removeMember_72 rfl ?_
    refine fg_X1_186 K dX1_removeMember_73 ?_
    refine k_iconst (v := 1) K dX1_removeMember_76 (by decide) ?_
    refine k_iadd K dX1_removeMember_77 ?_
    refine fp_X1_186 K dX1_removeMember_78 ?_
    cases h
    obtain rfl := hO _ rfl
    exact k_vret K hret dX1_removeMember_81 (by decide) (by decide)
  · refine k_icmp_ge K 51 dX1_removeMember_9 (by decide) (fun q => absurd q b1) (fun _ => ?_)
    refine k_aload_n K dX1_removeMember_12 0 rfl ?_
    refine fg_X1_11 K dX1_removeMember_13 ?_
    refine k_iload_n K dX1_removeMember_16 2 rfl ?_
    replace h := k_gd h
    obtain ⟨g4, h⟩ := h
    refine k_aald K dX1_removeMember_17 kd_1 g4 ?_
    refine k_aload_n K dX1_removeMember_18 1 rfl ?_
    replace h := k_gd h
    obtain ⟨g6, h⟩ := h
    replace h := k_br h
    rcases h with ⟨b5, h⟩ | ⟨b5, h⟩
    · refine k_acmp_ne (x := σ.2.1 1 x2.toNatClampNeg) (y := some c1) K 45 dX1_removeMember_19 (by decide) (okq_s g6.1) (okq_s g6.2) (fun q => absurd b5 q) (fun _ => ?_)
      refine k_aload_n K dX1_removeMember_22 0 rfl ?_
      refine fg_X1_11 K dX1_removeMember_23 ?_
      refine k_iload_n K dX1_removeMember_26 2 rfl ?_
      refine k_aload_n K dX1_removeMember_27 0 rfl ?_
      refine fg_X1_11 K dX1_removeMember_28 ?_
      refine k_iload_n K dX1_removeMember_31 2 rfl ?_
      refine k_iconst (v := 1) K dX1_removeMember_32 (by decide) ?_
      refine k_iadd K dX1_removeMember_33 ?_
      replace h := k_gd h
      obtain ⟨g7, h⟩ := h
      refine k_aald K dX1_removeMember_34 kd_1 g7 ?_
      replace h := k_bd h
      obtain ⟨q8, hq8, h⟩ := h
      rw [hq8]
      replace h := k_gd h
      obtain ⟨g9, h⟩ := h
      refine k_aast K dX1_removeMember_35 kd_1 g9 g4 ?_
      refine k_aload_n K dX1_removeMember_36 0 rfl ?_
      refine fg_X1_11 K dX1_removeMember_37 ?_
      refine k_iload_n K dX1_removeMember_40 2 rfl ?_
      refine k_iconst (v := 1) K dX1_removeMember_41 (by decide) ?_
      refine k_iadd K dX1_removeMember_42 ?_
      refine k_aload_n K dX1_removeMember_43 1 rfl ?_
      replace h := k_gd h
      obtain ⟨g10, h⟩ := h
      refine k_aast K dX1_removeMember_44 kd_1 g10 g7 ?_
      exact pX1_removeMember_45 K hret h hL2 hO
    · refine k_acmp_ne (x := σ.2.1 1 x2.toNatClampNeg) (y := some c1) K 45 dX1_removeMember_19 (by decide) (okq_s g6.1) (okq_s g6.2) (fun _ => ?_) (fun q => absurd q b5)
      exact pX1_removeMember_45 K hret h hL2 hO
set_option maxRecDepth 20000 in
theorem lX1_removeMember_2 (K : kC w p s m args meth c cX1_removeMember 3 RX1) (hret : meth.sig.returnType = none) {c1 : Nat} {n : Nat} {a : Int32 × kS} {r : kS} {o : kS} (h : kit (fX1_removeMember_2 c1) n a = some r) (hO : ∀ z, r = z → z = o) : kG w p l e rmX1_removeMember s m args below meth c (MQ below (kQv w o) args s 0 0 (kA w)) 3 a.2 2 [(0, .ref (kL w 0)), (1, .ref (kL w c1)), (2, .int (a.1))] [] 0 0 :=
  kit_ind (body := fX1_removeMember_2 c1) (fun a r => (∀ z, r = z → z = o) → kG w p l e rmX1_removeMember s m args below meth c (MQ below (kQv w o) args s 0 0 (kA w)) 3 a.2 2 [(0, .ref (kL w 0)), (1, .ref (kL w c1)), (2, .int (a.1))] [] 0 0) (fun a a2 r hb ih hO => pX1_removeMember_2 K hret hb (fun z e => by cases e; exact ih hO) (fun _ e => by cases e)) (fun a r hb hO => pX1_removeMember_2 K hret hb (fun _ e => by cases e) (fun z e => hO z (by cases e; rfl))) n a r h hO
set_option maxRecDepth 20000 in
theorem mX1_removeMember (l : Launch) (w : kW) (σ : kS) (c1 : Nat) {o : kS} (h : fX1_removeMember σ c1 = some o) : Met l yX1_removeMember (Cond.code yX1_removeMember cX1_removeMember 3 none :: TB) rmX1_removeMember (va_Pc [.ref (kL w 0), .ref (kL w c1)] (kP w σ)) (kQv w o) 0 0 (kA w) := by
  refine k_met (by decide +kernel) [.ref (kL w 0), .ref (kL w c1)] (Nat.le_of_ble_eq_true rfl) (by simp [lv_args, Value.category]) ?_
  intro p e s m args below meth c K hret
  have K : kC w p s m args meth c cX1_removeMember 3 RX1 := K
  obtain ⟨r, hro⟩ : ∃ r, r = o := ⟨o, rfl⟩
  rw [← hro] at h
  have hO : ∀ z, r = z → z = o := fun z e => by rw [← e]; exact hro
  unfold fX1_removeMember at h
  refine k_iconst (v := 0) K dX1_removeMember_0 (by decide) ?_
  refine k_istore_n (lv' := [(2, .int 0), (0, .ref (kL w 0)), (1, .ref (kL w c1))]) K dX1_removeMember_1 (by decide) rfl ?_
  refine k_sub [1, 2, 0] rfl ?_
  exact lX1_removeMember_2 K hret h hO
end F_X1_removeMember
section F_J9_floorMod_7cf53
variable {w : kW} {p : Program} {l : Launch} {e : Env} {s : State} {m : MethodId} {args : Array Value} {below : List Frame} {meth : Method} {c : Code}
def fJ9_floorMod_7cf53 (x0 : Int32) (x1 : Int32) : Option Int32 :=
  if ¬ x1 = 0 then
    if 0 ≤ (x0 ^^^ x1) then
      some (x0 - x0 / x1 * x1)
    else
      if (x0 - x0 / x1 * x1) = 0 then
        some (x0 - x0 / x1 * x1)
      else
        some ((x0 - x0 / x1 * x1) + x1)
  else none
def rmJ9_floorMod_7cf53 : Room := { frames := 0, cells := 0, slots := 0, locals := 0 }
set_option maxRecDepth 20000 in
theorem mJ9_floorMod_7cf53 (l : Launch) (w : kW) (σ0 : kS) (x0 : Int32) (x1 : Int32) {o : Int32} (h : fJ9_floorMod_7cf53 x0 x1 = some o) : Met l yJ9_floorMod_7cf53 (Cond.code yJ9_floorMod_7cf53 cJ9_floorMod_7cf53 3 (some .int) :: TB) rmJ9_floorMod_7cf53 (va_Pc [.int x0, .int x1] (kP w σ0)) (kQi w o σ0) 0 0 (kA w) := by
  refine k_metF (by decide +kernel) [.int x0, .int x1] (Nat.le_of_ble_eq_true rfl) (by simp [lv_args, Value.category]) ?_
  intro p e s m args below meth c K hret
  have K : kC w p s m args meth c cJ9_floorMod_7cf53 3 RJ9 := K
  obtain ⟨r, hro⟩ : ∃ r, r = o := ⟨o, rfl⟩
  rw [← hro] at h
  have hO : ∀ z, r = z → z = o := fun z e => by rw [← e]; exact hro
  unfold fJ9_floorMod_7cf53 at h
  refine k_iload_n K dJ9_floorMod_7cf53_0 0 rfl ?_
  refine k_iload_n K dJ9_floorMod_7cf53_1 1 rfl ?_
  replace h := k_gd h
  obtain ⟨g1, h⟩ := h
  refine k_irem K dJ9_floorMod_7cf53_2 g1 ?_
  refine k_istore_n (lv' := [(2, .int (x0 - x0 / x1 * x1)), (0, .int x0), (1, .int x1)]) K dJ9_floorMod_7cf53_3 (by decide) rfl ?_
  refine k_iload_n K dJ9_floorMod_7cf53_4 1 rfl ?_
  refine k_iload_n K dJ9_floorMod_7cf53_5 2 rfl ?_
  refine k_ixor K dJ9_floorMod_7cf53_6 ?_
  replace h := k_br h
  rcases h with ⟨b2, h⟩ | ⟨b2, h⟩
  · refine k_if_ge K 18 dJ9_floorMod_7cf53_7 (by decide) (fun _ => ?_) (fun q => absurd b2 q)
    refine k_iload_n K dJ9_floorMod_7cf53_18 0 rfl ?_
    cases h
    obtain rfl := hO _ rfl
    exact k_iret (v := x0 - x0 / x1 * x1) K hret dJ9_floorMod_7cf53_19 (by decide) (by decide)
  · refine k_if_ge K 18 dJ9_floorMod_7cf53_7 (by decide) (fun q => absurd q b2) (fun _ => ?_)
    refine k_iload_n K dJ9_floorMod_7cf53_10 0 rfl ?_
    replace h := k_br h
    rcases h with ⟨b3, h⟩ | ⟨b3, h⟩
    · refine k_if_eq K 18 dJ9_floorMod_7cf53_11 (by decide) (fun _ => ?_) (fun q => absurd b3 q)
      refine k_iload_n K dJ9_floorMod_7cf53_18 0 rfl ?_
      cases h
      obtain rfl := hO _ rfl
      exact k_iret (v := x0 - x0 / x1 * x1) K hret dJ9_floorMod_7cf53_19 (by decide) (by decide)
    · refine k_if_eq K 18 dJ9_floorMod_7cf53_11 (by decide) (fun q => absurd q b3) (fun _ => ?_)
      refine k_iload_n K dJ9_floorMod_7cf53_14 0 rfl ?_
      refine k_iload_n K dJ9_floorMod_7cf53_15 2 rfl ?_
      refine k_iadd K dJ9_floorMod_7cf53_16 ?_
      cases h
      obtain rfl := hO _ rfl
      exact k_iret (v := (x0 - x0 / x1 * x1) + x1) K hret dJ9_floorMod_7cf53_17 (by decide) (by decide)
end F_J9_floorMod_7cf53
section C_J9_floorMod_7cf53
variable {w : kW} {p : Program} {l : Launch} {e : Env} {R : Room} {s : State} {m : MethodId} {args : Array Value} {below : List Frame} {meth : Method} {c : Code} {Q : State → Prop} {cc : ByteArray} {nL : Nat} {σ : kS} {pc : Nat} {lv : List (Nat × Value)} {st rest : List Value} {cells slots : Nat}
theorem cl_X1_227 (K : kC w p s m args meth c cc nL RX1) {a1 : Int32} {a2 : Int32} {r : Int32} (d : decode cc pc = .ok (.invokestatic 227, 3)) (h : fJ9_floorMod_7cf53 a1 a2 = some r) (hR : rmJ9_floorMod_7cf53.frames + 1 ≤ R.frames ∧ 8 + (3 + 11) + rmJ9_floorMod_7cf53.locals ≤ R.locals) (hr : (rest.map fun v => v.category).sum ≤ 8) (hf : cells + 0 ≤ R.cells ∧ slots + 0 ≤ R.slots) (kk : kG w p l e R s m args below meth c Q nL σ (pc + 3) lv (.int r :: rest) (cells + 0) (slots + 0)) : kG w p l e R s m args below meth c Q nL σ pc lv (.int a2 :: .int a1 :: rest) cells slots :=
  k_callSi (As := [.int a1, .int a2]) (rest := rest) (n := 2) K d (kg_S tw_159 tw_160 tw_57 tw_161) (by decide +kernel) rfl hR hr rfl hf (mJ9_floorMod_7cf53 l w σ a1 a2 h) ⟨rfl, rfl⟩ kk
end C_J9_floorMod_7cf53
section F_X1_livePointInTurn
variable {w : kW} {p : Program} {l : Launch} {e : Env} {s : State} {m : MethodId} {args : Array Value} {below : List Frame} {meth : Method} {c : Code}
def fX1_livePointInTurn (σ : kS) (x1 : Int32) : Option Int32 :=
  if (σ.1 0 9) = 0 then
    some ((-1))
  else
    (fJ9_floorMod_7cf53 x1 (σ.1 0 9)).bind fun r2 =>
    if vpi r2 20 then
      (σ.2.1 1 r2.toNatClampNeg).bind fun q4 =>
      if kd q4 = (0, 0, 8) then
        some (σ.1 q4 5)
      else none
    else none
def rmX1_livePointInTurn : Room := { frames := 1, cells := 0, slots := 0, locals := 22 }
set_option maxRecDepth 20000 in
theorem mX1_livePointInTurn (l : Launch) (w : kW) (σ : kS) (x1 : Int32) {o : Int32} (h : fX1_livePointInTurn σ x1 = some o) : Met l yX1_livePointInTurn (Cond.code yX1_livePointInTurn cX1_livePointInTurn 2 (some .int) :: TB) rmX1_livePointInTurn (va_Pc [.ref (kL w 0), .int x1] (kP w σ)) (kQi w o σ) 0 0 (kA w) := by
  refine k_met (by decide +kernel) [.ref (kL w 0), .int x1] (Nat.le_of_ble_eq_true rfl) (by simp [lv_args, Value.category]) ?_
  intro p e s m args below meth c K hret
  have K : kC w p s m args meth c cX1_livePointInTurn 2 RX1 := K
  obtain ⟨r, hro⟩ : ∃ r, r = o := ⟨o, rfl⟩
  rw [← hro] at h
  have hO : ∀ z, r = z → z = o := fun z e => by rw [← e]; exact hro
  unfold fX1_livePointInTurn at h
  refine k_aload_n K dX1_livePointInTurn_0 0 rfl ?_
  refine fg_X1_41 K dX1_livePointInTurn_1 ?_
  replace h := k_br h
  rcases h with ⟨b1, h⟩ | ⟨b1, h⟩
  · refine k_if_ne K 11 dX1_livePointInTurn_4 (by decide) (fun q => absurd b1 q) (fun _ => ?_)
    refine k_iconst (v := (-1)) K dX1_livePointInTurn_7 (by decide) ?_
    refine k_goto K 27 dX1_livePointInTurn_8 (by decide) ?_
    cases h
    obtain rfl := hO _ rfl
    exact k_iret (v := (-1)) K hret dX1_livePointInTurn_27 (by decide) (by decide)
  · refine k_if_ne K 11 dX1_livePointInTurn_4 (by decide) (fun _ => ?_) (fun q => absurd q b1)
    refine k_aload_n K dX1_livePointInTurn_11 0 rfl ?_
    refine fg_X1_11 K dX1_livePointInTurn_12 ?_
    refine k_iload_n K dX1_livePointInTurn_15 1 rfl ?_
    refine k_aload_n K dX1_livePointInTurn_16 0 rfl ?_
    refine fg_X1_41 K dX1_livePointInTurn_17 ?_
    replace h := k_bd h
    obtain ⟨r2, hr2, h⟩ := h
    refine cl_X1_227 K dX1_livePointInTurn_20 hr2 (by decide) (Nat.le_of_ble_eq_true rfl) (by decide) ?_
    replace h := k_gd h
    obtain ⟨g3, h⟩ := h
    refine k_aald K dX1_livePointInTurn_23 kd_1 g3 ?_
    replace h := k_bd h
    obtain ⟨q4, hq4, h⟩ := h
    rw [hq4]
    replace h := k_gd h
    obtain ⟨g5, h⟩ := h
    refine fg_X1_89 K dX1_livePointInTurn_24 g5 ?_
    cases h
    obtain rfl := hO _ rfl
    exact k_iret (v := σ.1 q4 5) K hret dX1_livePointInTurn_27 (by decide) (by decide)
end F_X1_livePointInTurn
section C_X1_livePointInTurn
variable {w : kW} {p : Program} {l : Launch} {e : Env} {R : Room} {s : State} {m : MethodId} {args : Array Value} {below : List Frame} {meth : Method} {c : Code} {Q : State → Prop} {cc : ByteArray} {nL : Nat} {σ : kS} {pc : Nat} {lv : List (Nat × Value)} {st rest : List Value} {cells slots : Nat}
theorem cl_X1_71 (K : kC w p s m args meth c cc nL RX1) {a1 : Int32} {r : Int32} (d : decode cc pc = .ok (.invokevirtual 71, 3)) (h : fX1_livePointInTurn σ a1 = some r) (hR : rmX1_livePointInTurn.frames + 1 ≤ R.frames ∧ 8 + (2 + 11) + rmX1_livePointInTurn.locals ≤ R.locals) (hr : (rest.map fun v => v.category).sum ≤ 8) (hf : cells + 0 ≤ R.cells ∧ slots + 0 ≤ R.slots) (kk : kG w p l e R s m args below meth c Q nL σ (pc + 3) lv (.int r :: rest) (cells + 0) (slots + 0)) : kG w p l e R s m args below meth c Q nL σ pc lv (.int a1 :: .ref (kL w 0) :: rest) cells slots :=
  k_callVi (As := [.int a1]) (rest := rest) (n := 1) (C := RX1) (T := TX1) K d kd_0 rfl (kg_V tw_155 tw_157 tw_1 tw_48 tw_158) rfl (by decide +kernel) rfl hR hr rfl hf (mX1_livePointInTurn l w σ a1 h) ⟨rfl, rfl⟩ kk
end C_X1_livePointInTurn
section F_X1_trueOwner
variable {w : kW} {p : Program} {l : Launch} {e : Env} {s : State} {m : MethodId} {args : Array Value} {below : List Frame} {meth : Method} {c : Code}
def gX1_trueOwner_2 (x1 : Int32) (σ : kS) (x2 : Int32) : Option ((Int32) ⊕ Int32) :=
  if (σ.1 0 9) ≤ x2 then
    (fX1_livePointInTurn σ 0).bind fun r2 =>
    some (.inr (r2))
  else
    if vpi x2 20 then
      (σ.2.1 1 x2.toNatClampNeg).bind fun q4 =>
      if kd q4 = (0, 0, 8) then
        if (σ.1 q4 5) < x1 then
          some (.inl (x2 + 1))
        else
          (σ.2.1 1 x2.toNatClampNeg).bind fun q7 =>
          if kd q7 = (0, 0, 8) then
            some (.inr (σ.1 q7 5))
          else none
      else none
    else none
def fX1_trueOwner_2 (x1 : Int32) (σ : kS) (a : Int32) : Option ((Int32) ⊕ Int32) := gX1_trueOwner_2 x1 σ a
def fX1_trueOwner (σ : kS) (x1 : Int32) : Option Int32 :=
  kit (fX1_trueOwner_2 x1 σ) 300 (0)
def rmX1_trueOwner : Room := { frames := 2, cells := 0, slots := 0, locals := 43 }
set_option maxRecDepth 20000 in
theorem pX1_trueOwner_2 (K : kC w p s m args meth c cX1_trueOwner 3 RX1) (hret : meth.sig.returnType = (some .int)) {x1 : Int32} {σ : kS} {x2 : Int32} {r : ((Int32) ⊕ Int32)} {o : Int32} (h : gX1_trueOwner_2 x1 σ x2 = some r) (hL2 : ∀ z, r = .inl z → kG w p l e rmX1_trueOwner s m args below meth c (MQ below (kQi w o σ) args s 0 0 (kA w)) 3 σ 2 [(0, .ref (kL w 0)), (1, .int x1), (2, .int z)] [] 0 0) (hO : ∀ z, r = .inr z → z = o) : kG w p l e rmX1_trueOwner s m args below meth c (MQ below (kQi w o σ) args s 0 0 (kA w)) 3 σ 2 [(0, .ref (kL w 0)), (1, .int x1), (2, .int x2)] [] 0 0 := by
  unfold gX1_trueOwner_2 at h
  refine k_iload_n K dX1_trueOwner_2 2 rfl ?_
  refine k_aload_n K dX1_trueOwner_3 0 rfl ?_
  refine fg_X1_41 K dX1_trueOwner_4 ?_
  replace h := k_br h
  rcases h with ⟨b1, h⟩ | ⟨b1, h⟩
  · refine k_icmp_ge K 39 dX1_trueOwner_7 (by decide) (fun _ => ?_) (fun q => absurd b1 q)
    refine k_aload_n K dX1_trueOwner_39 0 rfl ?_
    refine k_iconst (v := 0) K dX1_trueOwner_40 (by decide) ?_
    replace h := k_bd h
    obtain ⟨r2, hr2, h⟩ := h
    refine cl_X1_71 K dX1_trueOwner_41 hr2 (by decide) (Nat.le_of_ble_eq_true rfl) (by decide) ?_
    cases h
    obtain rfl := hO _ rfl
    exact k_iret K hret dX1_trueOwner_44 (by decide) (by decide)
  · refine k_icmp_ge K 39 dX1_trueOwner_7 (by decide) (fun q => absurd q b1) (fun _ => ?_)
    refine k_aload_n K dX1_trueOwner_10 0 rfl ?_
    refine fg_X1_11 K dX1_trueOwner_11 ?_
    refine k_iload_n K dX1_trueOwner_14 2 rfl ?_
    replace h := k_gd h
    obtain ⟨g3, h⟩ := h
    refine k_aald K dX1_trueOwner_15 kd_1 g3 ?_
    replace h := k_bd h
    obtain ⟨q4, hq4, h⟩ := h
    rw [hq4]
    replace h := k_gd h
    obtain ⟨g5, h⟩ := h
    refine fg_X1_89 K dX1_trueOwner_16 g5 ?_
    refine k_iload_n K dX1_trueOwner_19 1 rfl ?_
    replace h := k_br h
    rcases h with ⟨b6, h⟩ | ⟨b6, h⟩
    · refine k_icmp_lt K 33 dX1_trueOwner_20 (by decide) (fun _ => ?_) (fun q => absurd b6 q)
      refine k_iinc (v := 1) (lv' := [(2, .int (x2 + 1)), (0, .ref (kL w 0)), (1, .int x1)]) K dX1_trueOwner_33 2 rfl (by decide) (by decide) rfl ?_
      refine k_goto K 2 dX1_trueOwner_36 (by decide) ?_
      refine k_sub [1, 2, 0] rfl ?_
      cases h
      exact hL2 _ rfl
    · refine k_icmp_lt K 33 dX1_trueOwner_20 (by decide) (fun q => absurd q b6) (fun _ => ?_)
      refine k_aload_n K dX1_trueOwner_23 0 rfl ?_
      refine fg_X1_11 K dX1_trueOwner_24 ?_
      refine k_iload_n K dX1_trueOwner_27 2 rfl ?_
      refine k_aald K dX1_trueOwner_28 kd_1 g3 ?_
      replace h := k_bd h
      obtain ⟨q7, hq7, h⟩ := h
      rw [hq7]
      replace h := k_gd h
      obtain ⟨g8, h⟩ := h
      refine fg_X1_89 K dX1_trueOwner_29 g8 ?_
      cases h
      obtain rfl := hO _ rfl
      exact k_iret (v := σ.1 q7 5) K hret dX1_trueOwner_32 (by decide) (by decide)
set_option maxRecDepth 20000 in
theorem lX1_trueOwner_2 (K : kC w p s m args meth c cX1_trueOwner 3 RX1) (hret : meth.sig.returnType = (some .int)) {x1 : Int32} {σ : kS} {n : Nat} {a : Int32} {r : Int32} {o : Int32} (h : kit (fX1_trueOwner_2 x1 σ) n a = some r) (hO : ∀ z, r = z → z = o) : kG w p l e rmX1_trueOwner s m args below meth c (MQ below (kQi w o σ) args s 0 0 (kA w)) 3 σ 2 [(0, .ref (kL w 0)), (1, .int x1), (2, .int a)] [] 0 0 :=
  kit_ind (body := fX1_trueOwner_2 x1 σ) (fun a r => (∀ z, r = z → z = o) → kG w p l e rmX1_trueOwner s m args below meth c (MQ below (kQi w o σ) args s 0 0 (kA w)) 3 σ 2 [(0, .ref (kL w 0)), (1, .int x1), (2, .int a)] [] 0 0) (fun a a2 r hb ih hO => pX1_trueOwner_2 K hret hb (fun z e => by cases e; exact ih hO) (fun _ e => by cases e)) (fun a r hb hO => pX1_trueOwner_2 K hret hb (fun _ e => by cases e) (fun z e => hO z (by cases e; rfl))) n a r h hO
set_option maxRecDepth 20000 in
theorem mX1_trueOwner (l : Launch) (w : kW) (σ : kS) (x1 : Int32) {o : Int32} (h : fX1_trueOwner σ x1 = some o) : Met l yX1_trueOwner (Cond.code yX1_trueOwner cX1_trueOwner 3 (some .int) :: TB) rmX1_trueOwner (va_Pc [.ref (kL w 0), .int x1] (kP w σ)) (kQi w o σ) 0 0 (kA w) := by
  refine k_met (by decide +kernel) [.ref (kL w 0), .int x1] (Nat.le_of_ble_eq_true rfl) (by simp [lv_args, Value.category]) ?_
  intro p e s m args below meth c K hret
  have K : kC w p s m args meth c cX1_trueOwner 3 RX1 := K
  obtain ⟨r, hro⟩ : ∃ r, r = o := ⟨o, rfl⟩
  rw [← hro] at h
  have hO : ∀ z, r = z → z = o := fun z e => by rw [← e]; exact hro
  unfold fX1_trueOwner at h
  refine k_iconst (v := 0) K dX1_trueOwner_0 (by decide) ?_
  refine k_istore_n (lv' := [(2, .int 0), (0, .ref (kL w 0)), (1, .int x1)]) K dX1_trueOwner_1 (by decide) rfl ?_
  refine k_sub [1, 2, 0] rfl ?_
  exact lX1_trueOwner_2 K hret h hO
end F_X1_trueOwner
section C_X1_trueOwner
variable {w : kW} {p : Program} {l : Launch} {e : Env} {R : Room} {s : State} {m : MethodId} {args : Array Value} {below : List Frame} {meth : Method} {c : Code} {Q : State → Prop} {cc : ByteArray} {nL : Nat} {σ : kS} {pc : Nat} {lv : List (Nat × Value)} {st rest : List Value} {cells slots : Nat}
theorem cl_X1_179 (K : kC w p s m args meth c cc nL RX1) {a1 : Int32} {r : Int32} (d : decode cc pc = .ok (.invokevirtual 179, 3)) (h : fX1_trueOwner σ a1 = some r) (hR : rmX1_trueOwner.frames + 1 ≤ R.frames ∧ 8 + (3 + 11) + rmX1_trueOwner.locals ≤ R.locals) (hr : (rest.map fun v => v.category).sum ≤ 8) (hf : cells + 0 ≤ R.cells ∧ slots + 0 ≤ R.slots) (kk : kG w p l e R s m args below meth c Q nL σ (pc + 3) lv (.int r :: rest) (cells + 0) (slots + 0)) : kG w p l e R s m args below meth c Q nL σ pc lv (.int a1 :: .ref (kL w 0) :: rest) cells slots :=
  k_callVi (As := [.int a1]) (rest := rest) (n := 1) (C := RX1) (T := TX1) K d kd_0 rfl (kg_V tw_515 tw_517 tw_22 tw_48 tw_518) rfl (by decide +kernel) rfl hR hr rfl hf (mX1_trueOwner l w σ a1 h) ⟨rfl, rfl⟩ kk
end C_X1_trueOwner
section F_X1_countPairs
variable {w : kW} {p : Program} {l : Launch} {e : Env} {s : State} {m : MethodId} {args : Array Value} {below : List Frame} {meth : Method} {c : Code}
def fX1_countPairs_37 (x1 : Int32) (x2 : Int32) (x3 : Int32) (σ : kS) : Option ((Int32 × Int32) ⊕ ((Int32 × Int32) ⊕ Int32)) :=
  some (.inl (x1, x3 + 1))
def gX1_countPairs_14 (x2 : Int32) (σ : kS) (x1 : Int32) (x3 : Int32) : Option ((Int32 × Int32) ⊕ ((Int32 × Int32) ⊕ Int32)) :=
  if 64 ≤ x3 then
    some (.inr (.inl (x1, x2 + 1)))
  else
    if vpi x2 20 then
      (σ.2.1 1 x2.toNatClampNeg).bind fun q3 =>
      if kd q3 = (0, 0, 8) then
        if vpi x3 64 then
          if (σ.1 (q3 + 1 + 2) x3.toNatClampNeg) ≤ 0 then
            fX1_countPairs_37 x1 x2 x3 σ
          else
            fX1_countPairs_37 (x1 + 1) x2 x3 σ
        else none
      else none
    else none
def fX1_countPairs_14 (x2 : Int32) (σ : kS) (a : Int32 × Int32) : Option ((Int32 × Int32) ⊕ ((Int32 × Int32) ⊕ Int32)) := gX1_countPairs_14 x2 σ a.1 a.2
def gX1_countPairs_4 (σ : kS) (x1 : Int32) (x2 : Int32) : Option ((Int32 × Int32) ⊕ Int32) :=
  if (σ.1 0 9) ≤ x2 then
    some (.inr (x1))
  else
    kit (fX1_countPairs_14 x2 σ) 300 (x1, 0)
def fX1_countPairs_4 (σ : kS) (a : Int32 × Int32) : Option ((Int32 × Int32) ⊕ Int32) := gX1_countPairs_4 σ a.1 a.2
def fX1_countPairs (σ : kS) : Option Int32 :=
  kit (fX1_countPairs_4 σ) 300 (0, 0)
def rmX1_countPairs : Room := { frames := 0, cells := 0, slots := 0, locals := 0 }
set_option maxRecDepth 20000 in
theorem pX1_countPairs_37 (K : kC w p s m args meth c cX1_countPairs 4 RX1) (hret : meth.sig.returnType = (some .int)) {x1 : Int32} {x2 : Int32} {x3 : Int32} {σ : kS} {r : ((Int32 × Int32) ⊕ ((Int32 × Int32) ⊕ Int32))} {o : Int32} (h : fX1_countPairs_37 x1 x2 x3 σ = some r) (hL4 : ∀ z, r = .inr (.inl z) → kG w p l e rmX1_countPairs s m args below meth c (MQ below (kQi w o σ) args s 0 0 (kA w)) 4 σ 4 [(0, .ref (kL w 0)), (1, .int (z.1)), (2, .int (z.2))] [] 0 0) (hL14 : ∀ z, r = .inl z → kG w p l e rmX1_countPairs s m args below meth c (MQ below (kQi w o σ) args s 0 0 (kA w)) 4 σ 14 [(0, .ref (kL w 0)), (1, .int (z.1)), (2, .int x2), (3, .int (z.2))] [] 0 0) (hO : ∀ z, r = .inr (.inr z) → z = o) : kG w p l e rmX1_countPairs s m args below meth c (MQ below (kQi w o σ) args s 0 0 (kA w)) 4 σ 37 [(0, .ref (kL w 0)), (1, .int x1), (2, .int x2), (3, .int x3)] [] 0 0 := by
  unfold fX1_countPairs_37 at h
  refine k_iinc (v := 1) (lv' := [(3, .int (x3 + 1)), (0, .ref (kL w 0)), (1, .int x1), (2, .int x2)]) K dX1_countPairs_37 3 rfl (by decide) (by decide) rfl ?_
  refine k_goto K 14 dX1_countPairs_40 (by decide) ?_
  refine k_sub [1, 2, 3, 0] rfl ?_
  cases h
  exact hL14 _ rfl
set_option maxRecDepth 20000 in
theorem pX1_countPairs_14 (K : kC w p s m args meth c cX1_countPairs 4 RX1) (hret : meth.sig.returnType = (some .int)) {x2 : Int32} {σ : kS} {x1 : Int32} {x3 : Int32} {r : ((Int32 × Int32) ⊕ ((Int32 × Int32) ⊕ Int32))} {o : Int32} (h : gX1_countPairs_14 x2 σ x1 x3 = some r) (hL4 : ∀ z, r = .inr (.inl z) → kG w p l e rmX1_countPairs s m args below meth c (MQ below (kQi w o σ) args s 0 0 (kA w)) 4 σ 4 [(0, .ref (kL w 0)), (1, .int (z.1)), (2, .int (z.2))] [] 0 0) (hL14 : ∀ z, r = .inl z → kG w p l e rmX1_countPairs s m args below meth c (MQ below (kQi w o σ) args s 0 0 (kA w)) 4 σ 14 [(0, .ref (kL w 0)), (1, .int (z.1)), (2, .int x2), (3, .int (z.2))] [] 0 0) (hO : ∀ z, r = .inr (.inr z) → z = o) : kG w p l e rmX1_countPairs s m args below meth c (MQ below (kQi w o σ) args s 0 0 (kA w)) 4 σ 14 [(0, .ref (kL w 0)), (1, .int x1), (2, .int x2), (3, .int x3)] [] 0 0 := by
  unfold gX1_countPairs_14 at h
  refine k_iload_n K dX1_countPairs_14 3 rfl ?_
  refine k_bipush (v := 64) K dX1_countPairs_15 (by decide) ?_
  replace h := k_br h
  rcases h with ⟨b1, h⟩ | ⟨b1, h⟩
  · refine k_icmp_ge K 43 dX1_countPairs_17 (by decide) (fun _ => ?_) (fun q => absurd b1 q)
    refine k_iinc (v := 1) (lv' := [(2, .int (x2 + 1)), (0, .ref (kL w 0)), (1, .int x1), (3, .int x3)]) K dX1_countPairs_43 2 rfl (by decide) (by decide) rfl ?_
    refine k_goto K 4 dX1_countPairs_46 (by decide) ?_
    refine k_sub [1, 2, 0] rfl ?_
    cases h
    exact hL4 _ rfl
  · refine k_icmp_ge K 43 dX1_countPairs_17 (by decide) (fun q => absurd q b1) (fun _ => ?_)
    refine k_aload_n K dX1_countPairs_20 0 rfl ?_
    refine fg_X1_11 K dX1_countPairs_21 ?_
    refine k_iload_n K dX1_countPairs_24 2 rfl ?_
    replace h := k_gd h
    obtain ⟨g2, h⟩ := h
    refine k_aald K dX1_countPairs_25 kd_1 g2 ?_
    replace h := k_bd h
    obtain ⟨q3, hq3, h⟩ := h
    rw [hq3]
    replace h := k_gd h
    obtain ⟨g4, h⟩ := h
    refine fg_X1_159 K dX1_countPairs_26 g4 ?_
    refine k_iload_n K dX1_countPairs_29 3 rfl ?_
    replace h := k_gd h
    obtain ⟨g5, h⟩ := h
    refine k_iald K dX1_countPairs_30 (kd_m0 g4).2.2.1 g5 ?_
    replace h := k_br h
    rcases h with ⟨b6, h⟩ | ⟨b6, h⟩
    · refine k_if_le K 37 dX1_countPairs_31 (by decide) (fun _ => ?_) (fun q => absurd b6 q)
      exact pX1_countPairs_37 K hret h hL4 hL14 hO
    · refine k_if_le K 37 dX1_countPairs_31 (by decide) (fun q => absurd q b6) (fun _ => ?_)
      refine k_iinc (v := 1) (lv' := [(1, .int (x1 + 1)), (0, .ref (kL w 0)), (2, .int x2), (3, .int x3)]) K dX1_countPairs_34 1 rfl (by decide) (by decide) rfl ?_
      refine k_sub [1, 0, 2, 3] rfl ?_
      exact pX1_countPairs_37 K hret h hL4 hL14 hO
set_option maxRecDepth 20000 in
theorem lX1_countPairs_14 (K : kC w p s m args meth c cX1_countPairs 4 RX1) (hret : meth.sig.returnType = (some .int)) {x2 : Int32} {σ : kS} {n : Nat} {a : Int32 × Int32} {r : ((Int32 × Int32) ⊕ Int32)} {o : Int32} (h : kit (fX1_countPairs_14 x2 σ) n a = some r) (hL4 : ∀ z, r = .inl z → kG w p l e rmX1_countPairs s m args below meth c (MQ below (kQi w o σ) args s 0 0 (kA w)) 4 σ 4 [(0, .ref (kL w 0)), (1, .int (z.1)), (2, .int (z.2))] [] 0 0) (hO : ∀ z, r = .inr z → z = o) : kG w p l e rmX1_countPairs s m args below meth c (MQ below (kQi w o σ) args s 0 0 (kA w)) 4 σ 14 [(0, .ref (kL w 0)), (1, .int (a.1)), (2, .int x2), (3, .int (a.2))] [] 0 0 :=
  kit_ind (body := fX1_countPairs_14 x2 σ) (fun a r => (∀ z, r = .inl z → kG w p l e rmX1_countPairs s m args below meth c (MQ below (kQi w o σ) args s 0 0 (kA w)) 4 σ 4 [(0, .ref (kL w 0)), (1, .int (z.1)), (2, .int (z.2))] [] 0 0) → (∀ z, r = .inr z → z = o) → kG w p l e rmX1_countPairs s m args below meth c (MQ below (kQi w o σ) args s 0 0 (kA w)) 4 σ 14 [(0, .ref (kL w 0)), (1, .int (a.1)), (2, .int x2), (3, .int (a.2))] [] 0 0) (fun a a2 r hb ih hL4 hO => pX1_countPairs_14 K hret hb (fun _ e => by cases e) (fun z e => by cases e; exact ih hL4 hO) (fun _ e => by cases e)) (fun a r hb hL4 hO => pX1_countPairs_14 K hret hb (fun z e => hL4 z (by cases e; rfl)) (fun _ e => by cases e) (fun z e => hO z (by cases e; rfl))) n a r h hL4 hO
set_option maxRecDepth 20000 in
theorem pX1_countPairs_4 (K : kC w p s m args meth c cX1_countPairs 4 RX1) (hret : meth.sig.returnType = (some .int)) {σ : kS} {x1 : Int32} {x2 : Int32} {r : ((Int32 × Int32) ⊕ Int32)} {o : Int32} (h : gX1_countPairs_4 σ x1 x2 = some r) (hL4 : ∀ z, r = .inl z → kG w p l e rmX1_countPairs s m args below meth c (MQ below (kQi w o σ) args s 0 0 (kA w)) 4 σ 4 [(0, .ref (kL w 0)), (1, .int (z.1)), (2, .int (z.2))] [] 0 0) (hO : ∀ z, r = .inr z → z = o) : kG w p l e rmX1_countPairs s m args below meth c (MQ below (kQi w o σ) args s 0 0 (kA w)) 4 σ 4 [(0, .ref (kL w 0)), (1, .int x1), (2, .int x2)] [] 0 0 := by
  unfold gX1_countPairs_4 at h
  refine k_iload_n K dX1_countPairs_4 2 rfl ?_
  refine k_aload_n K dX1_countPairs_5 0 rfl ?_
  refine fg_X1_41 K dX1_countPairs_6 ?_
  replace h := k_br h
  rcases h with ⟨b1, h⟩ | ⟨b1, h⟩
  · refine k_icmp_ge K 49 dX1_countPairs_9 (by decide) (fun _ => ?_) (fun q => absurd b1 q)
    refine k_iload_n K dX1_countPairs_49 1 rfl ?_
    cases h
    obtain rfl := hO _ rfl
    exact k_iret K hret dX1_countPairs_50 (by decide) (by decide)
  · refine k_icmp_ge K 49 dX1_countPairs_9 (by decide) (fun q => absurd q b1) (fun _ => ?_)
    refine k_iconst (v := 0) K dX1_countPairs_12 (by decide) ?_
    refine k_istore_n (lv' := [(3, .int 0), (0, .ref (kL w 0)), (1, .int x1), (2, .int x2)]) K dX1_countPairs_13 (by decide) rfl ?_
    refine k_sub [1, 2, 3, 0] rfl ?_
    exact lX1_countPairs_14 K hret h hL4 hO
set_option maxRecDepth 20000 in
theorem lX1_countPairs_4 (K : kC w p s m args meth c cX1_countPairs 4 RX1) (hret : meth.sig.returnType = (some .int)) {σ : kS} {n : Nat} {a : Int32 × Int32} {r : Int32} {o : Int32} (h : kit (fX1_countPairs_4 σ) n a = some r) (hO : ∀ z, r = z → z = o) : kG w p l e rmX1_countPairs s m args below meth c (MQ below (kQi w o σ) args s 0 0 (kA w)) 4 σ 4 [(0, .ref (kL w 0)), (1, .int (a.1)), (2, .int (a.2))] [] 0 0 :=
  kit_ind (body := fX1_countPairs_4 σ) (fun a r => (∀ z, r = z → z = o) → kG w p l e rmX1_countPairs s m args below meth c (MQ below (kQi w o σ) args s 0 0 (kA w)) 4 σ 4 [(0, .ref (kL w 0)), (1, .int (a.1)), (2, .int (a.2))] [] 0 0) (fun a a2 r hb ih hO => pX1_countPairs_4 K hret hb (fun z e => by cases e; exact ih hO) (fun _ e => by cases e)) (fun a r hb hO => pX1_countPairs_4 K hret hb (fun _ e => by cases e) (fun z e => hO z (by cases e; rfl))) n a r h hO
set_option maxRecDepth 20000 in
theorem mX1_countPairs (l : Launch) (w : kW) (σ : kS) {o : Int32} (h : fX1_countPairs σ = some o) : Met l yX1_countPairs (Cond.code yX1_countPairs cX1_countPairs 4 (some .int) :: TB) rmX1_countPairs (va_Pc [.ref (kL w 0)] (kP w σ)) (kQi w o σ) 0 0 (kA w) := by
  refine k_met (by decide +kernel) [.ref (kL w 0)] (Nat.le_of_ble_eq_true rfl) (by simp [lv_args, Value.category]) ?_
  intro p e s m args below meth c K hret
  have K : kC w p s m args meth c cX1_countPairs 4 RX1 := K
  obtain ⟨r, hro⟩ : ∃ r, r = o := ⟨o, rfl⟩
  rw [← hro] at h
  have hO : ∀ z, r = z → z = o := fun z e => by rw [← e]; exact hro
  unfold fX1_countPairs at h
  refine k_iconst (v := 0) K dX1_countPairs_0 (by decide) ?_
  refine k_istore_n (lv' := [(1, .int 0), (0, .ref (kL w 0))]) K dX1_countPairs_1 (by decide) rfl ?_
  refine k_iconst (v := 0) K dX1_countPairs_2 (by decide) ?_
  refine k_istore_n (lv' := [(2, .int 0), (1, .int 0), (0, .ref (kL w 0))]) K dX1_countPairs_3 (by decide) rfl ?_
  refine k_sub [2, 1, 0] rfl ?_
  exact lX1_countPairs_4 K hret h hO
end F_X1_countPairs
section F_X1_highestInList
variable {w : kW} {p : Program} {l : Launch} {e : Env} {s : State} {m : MethodId} {args : Array Value} {below : List Frame} {meth : Method} {c : Code}
def fX1_highestInList_45 (c1 : Nat) (x2 : Int32) (c3 : Nat) (x4 : Int32) (σ : kS) : Option ((Nat × Int32) ⊕ Nat) :=
  some (.inl (c3, x4 + 1))
def gX1_highestInList_5 (c1 : Nat) (x2 : Int32) (σ : kS) (c3 : Nat) (x4 : Int32) : Option ((Nat × Int32) ⊕ Nat) :=
  if (σ.1 0 7) ≤ x4 then
    some (.inr (c3))
  else
    if kd c1 = (0, 0, 8) then
      if vpi x4 4 then
        (fX1_liveAt σ (σ.1 (c1 + 1 + 0) x4.toNatClampNeg)).bind fun r4 =>
        kmn (r4) (
          fX1_highestInList_45 c1 x2 c3 x4 σ
        ) fun q5 =>
          (fX1_isHigher σ q5 c3 x2).bind fun r6 =>
          if r6 = 0 then
            fX1_highestInList_45 c1 x2 c3 x4 σ
          else
            fX1_highestInList_45 c1 x2 q5 x4 σ
      else none
    else none
def fX1_highestInList_5 (c1 : Nat) (x2 : Int32) (σ : kS) (a : Nat × Int32) : Option ((Nat × Int32) ⊕ Nat) := gX1_highestInList_5 c1 x2 σ a.1 a.2
def fX1_highestInList (σ : kS) (c1 : Nat) (x2 : Int32) : Option Nat :=
  kit (fX1_highestInList_5 c1 x2 σ) 300 (c1, 0)
def rmX1_highestInList : Room := { frames := 2, cells := 0, slots := 0, locals := 41 }
set_option maxRecDepth 20000 in
theorem pX1_highestInList_45 (K : kC w p s m args meth c cX1_highestInList 6 RX1) (hret : meth.sig.returnType = (some (.object "KeyRing$Member"))) {c1 : Nat} {x2 : Int32} {c3 : Nat} {x4 : Int32} {σ : kS} {r : ((Nat × Int32) ⊕ Nat)} {o : Nat} (h : fX1_highestInList_45 c1 x2 c3 x4 σ = some r) (hL5 : ∀ z, r = .inl z → kG w p l e rmX1_highestInList s m args below meth c (MQ below (kQq w (some o) σ) args s 0 0 (kA w)) 6 σ 5 [(0, .ref (kL w 0)), (1, .ref (kL w c1)), (2, .int x2), (3, .ref (kL w (z.1))), (4, .int (z.2))] [] 0 0) (hO : ∀ z, r = .inr z → z = o) : kG w p l e rmX1_highestInList s m args below meth c (MQ below (kQq w (some o) σ) args s 0 0 (kA w)) 6 σ 45 [(0, .ref (kL w 0)), (1, .ref (kL w c1)), (2, .int x2), (3, .ref (kL w c3)), (4, .int x4)] [] 0 0 := by
  unfold fX1_highestInList_45 at h
  refine k_iinc (v := 1) (lv' := [(4, .int (x4 + 1)), (0, .ref (kL w 0)), (1, .ref (kL w c1)), (2, .int x2), (3, .ref (kL w c3))]) K dX1_highestInList_45 4 rfl (by decide) (by decide) rfl ?_
  refine k_goto K 5 dX1_highestInList_48 (by decide) ?_
  refine k_sub [1, 2, 3, 4, 0] rfl ?_
  cases h
  exact hL5 _ rfl
set_option maxRecDepth 20000 in
theorem pX1_highestInList_5 (K : kC w p s m args meth c cX1_highestInList 6 RX1) (hret : meth.sig.returnType = (some (.object "KeyRing$Member"))) {c1 : Nat} {x2 : Int32} {σ : kS} {c3 : Nat} {x4 : Int32} {r : ((Nat × Int32) ⊕ Nat)} {o : Nat} (h : gX1_highestInList_5 c1 x2 σ c3 x4 = some r) (hL5 : ∀ z, r = .inl z → kG w p l e rmX1_highestInList s m args below meth c (MQ below (kQq w (some o) σ) args s 0 0 (kA w)) 6 σ 5 [(0, .ref (kL w 0)), (1, .ref (kL w c1)), (2, .int x2), (3, .ref (kL w (z.1))), (4, .int (z.2))] [] 0 0) (hO : ∀ z, r = .inr z → z = o) : kG w p l e rmX1_highestInList s m args below meth c (MQ below (kQq w (some o) σ) args s 0 0 (kA w)) 6 σ 5 [(0, .ref (kL w 0)), (1, .ref (kL w c1)), (2, .int x2), (3, .ref (kL w c3)), (4, .int x4)] [] 0 0 := by
  unfold gX1_highestInList_5 at h
  refine k_iload K dX1_highestInList_5 4 rfl ?_
  refine k_aload_n K dX1_highestInList_7 0 rfl ?_
  refine fg_X1_30 K dX1_highestInList_8 ?_
  replace h := k_br h
  rcases h with ⟨b1, h⟩ | ⟨b1, h⟩
  · refine k_icmp_ge K 51 dX1_highestInList_11 (by decide) (fun _ => ?_) (fun q => absurd b1 q)
    refine k_aload_n K dX1_highestInList_51 3 rfl ?_
    cases h
    obtain rfl := hO _ rfl
    exact k_aret (v := some c3) K hret dX1_highestInList_52 (by decide) (by decide)
  · refine k_icmp_ge K 51 dX1_highestInList_11 (by decide) (fun q => absurd q b1) (fun _ => ?_)
    refine k_aload_n K dX1_highestInList_14 0 rfl ?_
    refine k_aload_n K dX1_highestInList_15 1 rfl ?_
    replace h := k_gd h
    obtain ⟨g2, h⟩ := h
    refine fg_X1_68 K dX1_highestInList_16 g2 ?_
    refine k_iload K dX1_highestInList_19 4 rfl ?_
    replace h := k_gd h
    obtain ⟨g3, h⟩ := h
    refine k_iald K dX1_highestInList_21 (kd_m0 g2).1 g3 ?_
    replace h := k_bd h
    obtain ⟨r4, hr4, h⟩ := h
    refine cl_X1_204 K dX1_highestInList_22 hr4 (by decide) (Nat.le_of_ble_eq_true rfl) (by decide) ?_
    refine k_astoreQ (lv' := [(5, va_rf ((r4).map (kL w))), (0, .ref (kL w 0)), (1, .ref (kL w c1)), (2, .int x2), (3, .ref (kL w c3)), (4, .int x4)]) K dX1_highestInList_25 (by decide) rfl ?_
    refine k_aloadQ K dX1_highestInList_27 0 rfl ?_
    replace h := k_mn h
    rcases h with ⟨hq5, h⟩ | ⟨q5, hq5, h⟩
    · subst hq5
      refine k_ifnullN K 45 dX1_highestInList_29 (by decide) ?_
      refine k_sub [1, 2, 3, 4, 5] rfl ?_
      exact pX1_highestInList_45 K hret h hL5 hO
    · subst hq5
      refine k_ifnull K dX1_highestInList_29 ?_
      refine k_aload K dX1_highestInList_32 0 rfl ?_
      refine k_aload_n K dX1_highestInList_34 4 rfl ?_
      refine k_iload_n K dX1_highestInList_35 3 rfl ?_
      replace h := k_bd h
      obtain ⟨r6, hr6, h⟩ := h
      refine cl_X1_258 K dX1_highestInList_36 hr6 (by decide) (Nat.le_of_ble_eq_true rfl) (by decide) ?_
      replace h := k_br h
      rcases h with ⟨b7, h⟩ | ⟨b7, h⟩
      · refine k_if_eq K 45 dX1_highestInList_39 (by decide) (fun _ => ?_) (fun q => absurd b7 q)
        refine k_sub [1, 2, 3, 4, 5] rfl ?_
        exact pX1_highestInList_45 K hret h hL5 hO
      · refine k_if_eq K 45 dX1_highestInList_39 (by decide) (fun q => absurd q b7) (fun _ => ?_)
        refine k_aload K dX1_highestInList_42 0 rfl ?_
        refine k_astore_n (lv' := [(3, .ref (kL w q5)), (5, .ref (kL w q5)), (0, .ref (kL w 0)), (1, .ref (kL w c1)), (2, .int x2), (4, .int x4)]) K dX1_highestInList_44 (by decide) rfl ?_
        refine k_sub [2, 3, 4, 0, 5] rfl ?_
        exact pX1_highestInList_45 K hret h hL5 hO
set_option maxRecDepth 20000 in
theorem lX1_highestInList_5 (K : kC w p s m args meth c cX1_highestInList 6 RX1) (hret : meth.sig.returnType = (some (.object "KeyRing$Member"))) {c1 : Nat} {x2 : Int32} {σ : kS} {n : Nat} {a : Nat × Int32} {r : Nat} {o : Nat} (h : kit (fX1_highestInList_5 c1 x2 σ) n a = some r) (hO : ∀ z, r = z → z = o) : kG w p l e rmX1_highestInList s m args below meth c (MQ below (kQq w (some o) σ) args s 0 0 (kA w)) 6 σ 5 [(0, .ref (kL w 0)), (1, .ref (kL w c1)), (2, .int x2), (3, .ref (kL w (a.1))), (4, .int (a.2))] [] 0 0 :=
  kit_ind (body := fX1_highestInList_5 c1 x2 σ) (fun a r => (∀ z, r = z → z = o) → kG w p l e rmX1_highestInList s m args below meth c (MQ below (kQq w (some o) σ) args s 0 0 (kA w)) 6 σ 5 [(0, .ref (kL w 0)), (1, .ref (kL w c1)), (2, .int x2), (3, .ref (kL w (a.1))), (4, .int (a.2))] [] 0 0) (fun a a2 r hb ih hO => pX1_highestInList_5 K hret hb (fun z e => by cases e; exact ih hO) (fun _ e => by cases e)) (fun a r hb hO => pX1_highestInList_5 K hret hb (fun _ e => by cases e) (fun z e => hO z (by cases e; rfl))) n a r h hO
set_option maxRecDepth 20000 in
theorem mX1_highestInList (l : Launch) (w : kW) (σ : kS) (c1 : Nat) (x2 : Int32) {o : Nat} (h : fX1_highestInList σ c1 x2 = some o) : Met l yX1_highestInList (Cond.code yX1_highestInList cX1_highestInList 6 (some (.object "KeyRing$Member")) :: TB) rmX1_highestInList (va_Pc [.ref (kL w 0), .ref (kL w c1), .int x2] (kP w σ)) (kQq w (some o) σ) 0 0 (kA w) := by
  refine k_met (by decide +kernel) [.ref (kL w 0), .ref (kL w c1), .int x2] (Nat.le_of_ble_eq_true rfl) (by simp [lv_args, Value.category]) ?_
  intro p e s m args below meth c K hret
  have K : kC w p s m args meth c cX1_highestInList 6 RX1 := K
  obtain ⟨r, hro⟩ : ∃ r, r = o := ⟨o, rfl⟩
  rw [← hro] at h
  have hO : ∀ z, r = z → z = o := fun z e => by rw [← e]; exact hro
  unfold fX1_highestInList at h
  refine k_aload_n K dX1_highestInList_0 1 rfl ?_
  refine k_astore_n (lv' := [(3, .ref (kL w c1)), (0, .ref (kL w 0)), (1, .ref (kL w c1)), (2, .int x2)]) K dX1_highestInList_1 (by decide) rfl ?_
  refine k_iconst (v := 0) K dX1_highestInList_2 (by decide) ?_
  refine k_istore (lv' := [(4, .int 0), (3, .ref (kL w c1)), (0, .ref (kL w 0)), (1, .ref (kL w c1)), (2, .int x2)]) K dX1_highestInList_3 (by decide) rfl ?_
  refine k_sub [2, 3, 4, 1, 0] rfl ?_
  exact lX1_highestInList_5 K hret h hO
end F_X1_highestInList
section F_X1_countTrueFingers
variable {w : kW} {p : Program} {l : Launch} {e : Env} {s : State} {m : MethodId} {args : Array Value} {below : List Frame} {meth : Method} {c : Code}
def fX1_countTrueFingers_57 (x1 : Int32) (x2 : Int32) (n3 : Option Nat) (x4 : Int32) (σ : kS) : Option ((Int32 × Int32) ⊕ ((Int32 × Int32) ⊕ Int32)) :=
  some (.inl (x1, x4 + 1))
def gX1_countTrueFingers_22 (x2 : Int32) (n3 : Option Nat) (σ : kS) (x1 : Int32) (x4 : Int32) : Option ((Int32 × Int32) ⊕ ((Int32 × Int32) ⊕ Int32)) :=
  if 8 ≤ x4 then
    some (.inr (.inl (x1, x2 + 1)))
  else
    (n3).bind fun q2 =>
    if kd q2 = (0, 0, 8) then
      if vpi x4 8 then
        (fX1_pointUp (σ.1 q2 5) (1 <<< (x4 &&& 31))).bind fun r5 =>
        (fX1_trueOwner σ r5).bind fun r6 =>
        if (σ.1 (q2 + 1 + 1) x4.toNatClampNeg) = r6 then
          fX1_countTrueFingers_57 (x1 + 1) x2 (some q2) x4 σ
        else
          fX1_countTrueFingers_57 x1 x2 (some q2) x4 σ
      else none
    else none
def fX1_countTrueFingers_22 (x2 : Int32) (n3 : Option Nat) (σ : kS) (a : Int32 × Int32) : Option ((Int32 × Int32) ⊕ ((Int32 × Int32) ⊕ Int32)) := gX1_countTrueFingers_22 x2 n3 σ a.1 a.2
def gX1_countTrueFingers_4 (σ : kS) (x1 : Int32) (x2 : Int32) : Option ((Int32 × Int32) ⊕ Int32) :=
  if (σ.1 0 9) ≤ x2 then
    some (.inr (x1))
  else
    if vpi x2 20 then
      kit (fX1_countTrueFingers_22 x2 (σ.2.1 1 x2.toNatClampNeg) σ) 300 (x1, 0)
    else none
def fX1_countTrueFingers_4 (σ : kS) (a : Int32 × Int32) : Option ((Int32 × Int32) ⊕ Int32) := gX1_countTrueFingers_4 σ a.1 a.2
def fX1_countTrueFingers (σ : kS) : Option Int32 :=
  kit (fX1_countTrueFingers_4 σ) 300 (0, 0)
def rmX1_countTrueFingers : Room := { frames := 3, cells := 0, slots := 0, locals := 65 }
set_option maxRecDepth 20000 in
theorem pX1_countTrueFingers_57 (K : kC w p s m args meth c cX1_countTrueFingers 5 RX1) (hret : meth.sig.returnType = (some .int)) {x1 : Int32} {x2 : Int32} {n3 : Option Nat} {x4 : Int32} {σ : kS} {r : ((Int32 × Int32) ⊕ ((Int32 × Int32) ⊕ Int32))} {o : Int32} (h : fX1_countTrueFingers_57 x1 x2 n3 x4 σ = some r) (hL4 : ∀ z, r = .inr (.inl z) → kG w p l e rmX1_countTrueFingers s m args below meth c (MQ below (kQi w o σ) args s 0 0 (kA w)) 5 σ 4 [(0, .ref (kL w 0)), (1, .int (z.1)), (2, .int (z.2))] [] 0 0) (hL22 : ∀ z, r = .inl z → kG w p l e rmX1_countTrueFingers s m args below meth c (MQ below (kQi w o σ) args s 0 0 (kA w)) 5 σ 22 [(0, .ref (kL w 0)), (1, .int (z.1)), (2, .int x2), (3, va_rf ((n3).map (kL w))), (4, .int (z.2))] [] 0 0) (hO : ∀ z, r = .inr (.inr z) → z = o) : kG w p l e rmX1_countTrueFingers s m args below meth c (MQ below (kQi w o σ) args s 0 0 (kA w)) 5 σ 57 [(0, .ref (kL w 0)), (1, .int x1), (2, .int x2), (3, va_rf ((n3).map (kL w))), (4, .int x4)] [] 0 0 := by
  unfold fX1_countTrueFingers_57 at h
  refine k_iinc (v := 1) (lv' := [(4, .int (x4 + 1)), (0, .ref (kL w 0)), (1, .int x1), (2, .int x2), (3, va_rf ((n3).map (kL w)))]) K dX1_countTrueFingers_57 4 rfl (by decide) (by decide) rfl ?_
  refine k_goto K 22 dX1_countTrueFingers_60 (by decide) ?_
  refine k_sub [1, 2, 3, 4, 0] rfl ?_
  cases h
  exact hL22 _ rfl
set_option maxRecDepth 20000 in
theorem pX1_countTrueFingers_22 (K : kC w p s m args meth c cX1_countTrueFingers 5 RX1) (hret : meth.sig.returnType = (some .int)) {x2 : Int32} {n3 : Option Nat} {σ : kS} {x1 : Int32} {x4 : Int32} {r : ((Int32 × Int32) ⊕ ((Int32 × Int32) ⊕ Int32))} {o : Int32} (h : gX1_countTrueFingers_22 x2 n3 σ x1 x4 = some r) (hL4 : ∀ z, r = .inr (.inl z) → kG w p l e rmX1_countTrueFingers s m args below meth c (MQ below (kQi w o σ) args s 0 0 (kA w)) 5 σ 4 [(0, .ref (kL w 0)), (1, .int (z.1)), (2, .int (z.2))] [] 0 0) (hL22 : ∀ z, r = .inl z → kG w p l e rmX1_countTrueFingers s m args below meth c (MQ below (kQi w o σ) args s 0 0 (kA w)) 5 σ 22 [(0, .ref (kL w 0)), (1, .int (z.1)), (2, .int x2), (3, va_rf ((n3).map (kL w))), (4, .int (z.2))] [] 0 0) (hO : ∀ z, r = .inr (.inr z) → z = o) : kG w p l e rmX1_countTrueFingers s m args below meth c (MQ below (kQi w o σ) args s 0 0 (kA w)) 5 σ 22 [(0, .ref (kL w 0)), (1, .int x1), (2, .int x2), (3, va_rf ((n3).map (kL w))), (4, .int x4)] [] 0 0 := by
  unfold gX1_countTrueFingers_22 at h
  refine k_iload K dX1_countTrueFingers_22 4 rfl ?_
  refine k_bipush (v := 8) K dX1_countTrueFingers_24 (by decide) ?_
  replace h := k_br h
  rcases h with ⟨b1, h⟩ | ⟨b1, h⟩
  · refine k_icmp_ge K 63 dX1_countTrueFingers_26 (by decide) (fun _ => ?_) (fun q => absurd b1 q)
    refine k_iinc (v := 1) (lv' := [(2, .int (x2 + 1)), (0, .ref (kL w 0)), (1, .int x1), (3, va_rf ((n3).map (kL w))), (4, .int x4)]) K dX1_countTrueFingers_63 2 rfl (by decide) (by decide) rfl ?_
    refine k_goto K 4 dX1_countTrueFingers_66 (by decide) ?_
    refine k_sub [1, 2, 0] rfl ?_
    cases h
    exact hL4 _ rfl
  · refine k_icmp_ge K 63 dX1_countTrueFingers_26 (by decide) (fun q => absurd q b1) (fun _ => ?_)
    refine k_aload_nQ K dX1_countTrueFingers_29 3 rfl ?_
    replace h := k_bd h
    obtain ⟨q2, hq2, h⟩ := h
    subst hq2
    replace h := k_gd h
    obtain ⟨g3, h⟩ := h
    refine fg_X1_120 K dX1_countTrueFingers_30 g3 ?_
    refine k_iload K dX1_countTrueFingers_33 4 rfl ?_
    replace h := k_gd h
    obtain ⟨g4, h⟩ := h
    refine k_iald K dX1_countTrueFingers_35 (kd_m0 g3).2.1 g4 ?_
    refine k_aload_n K dX1_countTrueFingers_36 0 rfl ?_
    refine k_aload_n K dX1_countTrueFingers_37 3 rfl ?_
    refine fg_X1_89 K dX1_countTrueFingers_38 g3 ?_
    refine k_iconst (v := 1) K dX1_countTrueFingers_41 (by decide) ?_
    refine k_iload K dX1_countTrueFingers_42 4 rfl ?_
    refine k_ishl K dX1_countTrueFingers_44 ?_
    replace h := k_bd h
    obtain ⟨r5, hr5, h⟩ := h
    refine cl_X1_224 K dX1_countTrueFingers_45 hr5 (by decide) (Nat.le_of_ble_eq_true rfl) (by decide) ?_
    replace h := k_bd h
    obtain ⟨r6, hr6, h⟩ := h
    refine cl_X1_179 K dX1_countTrueFingers_48 hr6 (by decide) (Nat.le_of_ble_eq_true rfl) (by decide) ?_
    replace h := k_br h
    rcases h with ⟨b7, h⟩ | ⟨b7, h⟩
    · refine k_icmp_ne K 57 dX1_countTrueFingers_51 (by decide) (fun q => absurd b7 q) (fun _ => ?_)
      refine k_iinc (v := 1) (lv' := [(1, .int (x1 + 1)), (0, .ref (kL w 0)), (2, .int x2), (3, .ref (kL w q2)), (4, .int x4)]) K dX1_countTrueFingers_54 1 rfl (by decide) (by decide) rfl ?_
      refine k_sub [1, 0, 2, 3, 4] rfl ?_
      exact pX1_countTrueFingers_57 K hret h hL4 hL22 hO
    · refine k_icmp_ne K 57 dX1_countTrueFingers_51 (by decide) (fun _ => ?_) (fun q => absurd q b7)
      exact pX1_countTrueFingers_57 K hret h hL4 hL22 hO
set_option maxRecDepth 20000 in
theorem lX1_countTrueFingers_22 (K : kC w p s m args meth c cX1_countTrueFingers 5 RX1) (hret : meth.sig.returnType = (some .int)) {x2 : Int32} {n3 : Option Nat} {σ : kS} {n : Nat} {a : Int32 × Int32} {r : ((Int32 × Int32) ⊕ Int32)} {o : Int32} (h : kit (fX1_countTrueFingers_22 x2 n3 σ) n a = some r) (hL4 : ∀ z, r = .inl z → kG w p l e rmX1_countTrueFingers s m args below meth c (MQ below (kQi w o σ) args s 0 0 (kA w)) 5 σ 4 [(0, .ref (kL w 0)), (1, .int (z.1)), (2, .int (z.2))] [] 0 0) (hO : ∀ z, r = .inr z → z = o) : kG w p l e rmX1_countTrueFingers s m args below meth c (MQ below (kQi w o σ) args s 0 0 (kA w)) 5 σ 22 [(0, .ref (kL w 0)), (1, .int (a.1)), (2, .int x2), (3, va_rf ((n3).map (kL w))), (4, .int (a.2))] [] 0 0 :=
  kit_ind (body := fX1_countTrueFingers_22 x2 n3 σ) (fun a r => (∀ z, r = .inl z → kG w p l e rmX1_countTrueFingers s m args below meth c (MQ below (kQi w o σ) args s 0 0 (kA w)) 5 σ 4 [(0, .ref (kL w 0)), (1, .int (z.1)), (2, .int (z.2))] [] 0 0) → (∀ z, r = .inr z → z = o) → kG w p l e rmX1_countTrueFingers s m args below meth c (MQ below (kQi w o σ) args s 0 0 (kA w)) 5 σ 22 [(0, .ref (kL w 0)), (1, .int (a.1)), (2, .int x2), (3, va_rf ((n3).map (kL w))), (4, .int (a.2))] [] 0 0) (fun a a2 r hb ih hL4 hO => pX1_countTrueFingers_22 K hret hb (fun _ e => by cases e) (fun z e => by cases e; exact ih hL4 hO) (fun _ e => by cases e)) (fun a r hb hL4 hO => pX1_countTrueFingers_22 K hret hb (fun z e => hL4 z (by cases e; rfl)) (fun _ e => by cases e) (fun z e => hO z (by cases e; rfl))) n a r h hL4 hO
set_option maxRecDepth 20000 in
theorem pX1_countTrueFingers_4 (K : kC w p s m args meth c cX1_countTrueFingers 5 RX1) (hret : meth.sig.returnType = (some .int)) {σ : kS} {x1 : Int32} {x2 : Int32} {r : ((Int32 × Int32) ⊕ Int32)} {o : Int32} (h : gX1_countTrueFingers_4 σ x1 x2 = some r) (hL4 : ∀ z, r = .inl z → kG w p l e rmX1_countTrueFingers s m args below meth c (MQ below (kQi w o σ) args s 0 0 (kA w)) 5 σ 4 [(0, .ref (kL w 0)), (1, .int (z.1)), (2, .int (z.2))] [] 0 0) (hO : ∀ z, r = .inr z → z = o) : kG w p l e rmX1_countTrueFingers s m args below meth c (MQ below (kQi w o σ) args s 0 0 (kA w)) 5 σ 4 [(0, .ref (kL w 0)), (1, .int x1), (2, .int x2)] [] 0 0 := by
  unfold gX1_countTrueFingers_4 at h
  refine k_iload_n K dX1_countTrueFingers_4 2 rfl ?_
  refine k_aload_n K dX1_countTrueFingers_5 0 rfl ?_
  refine fg_X1_41 K dX1_countTrueFingers_6 ?_
  replace h := k_br h
  rcases h with ⟨b1, h⟩ | ⟨b1, h⟩
  · refine k_icmp_ge K 69 dX1_countTrueFingers_9 (by decide) (fun _ => ?_) (fun q => absurd b1 q)
    refine k_iload_n K dX1_countTrueFingers_69 1 rfl ?_
    cases h
    obtain rfl := hO _ rfl
    exact k_iret K hret dX1_countTrueFingers_70 (by decide) (by decide)
  · refine k_icmp_ge K 69 dX1_countTrueFingers_9 (by decide) (fun q => absurd q b1) (fun _ => ?_)
    refine k_aload_n K dX1_countTrueFingers_12 0 rfl ?_
    refine fg_X1_11 K dX1_countTrueFingers_13 ?_
    refine k_iload_n K dX1_countTrueFingers_16 2 rfl ?_
    replace h := k_gd h
    obtain ⟨g2, h⟩ := h
    refine k_aald K dX1_countTrueFingers_17 kd_1 g2 ?_
    refine k_astore_nQ (lv' := [(3, va_rf ((σ.2.1 1 x2.toNatClampNeg).map (kL w))), (0, .ref (kL w 0)), (1, .int x1), (2, .int x2)]) K dX1_countTrueFingers_18 (by decide) rfl ?_
    refine k_iconst (v := 0) K dX1_countTrueFingers_19 (by decide) ?_
    refine k_istore (lv' := [(4, .int 0), (3, va_rf ((σ.2.1 1 x2.toNatClampNeg).map (kL w))), (0, .ref (kL w 0)), (1, .int x1), (2, .int x2)]) K dX1_countTrueFingers_20 (by decide) rfl ?_
    refine k_sub [2, 3, 4, 1, 0] rfl ?_
    exact lX1_countTrueFingers_22 K hret h hL4 hO
set_option maxRecDepth 20000 in
theorem lX1_countTrueFingers_4 (K : kC w p s m args meth c cX1_countTrueFingers 5 RX1) (hret : meth.sig.returnType = (some .int)) {σ : kS} {n : Nat} {a : Int32 × Int32} {r : Int32} {o : Int32} (h : kit (fX1_countTrueFingers_4 σ) n a = some r) (hO : ∀ z, r = z → z = o) : kG w p l e rmX1_countTrueFingers s m args below meth c (MQ below (kQi w o σ) args s 0 0 (kA w)) 5 σ 4 [(0, .ref (kL w 0)), (1, .int (a.1)), (2, .int (a.2))] [] 0 0 :=
  kit_ind (body := fX1_countTrueFingers_4 σ) (fun a r => (∀ z, r = z → z = o) → kG w p l e rmX1_countTrueFingers s m args below meth c (MQ below (kQi w o σ) args s 0 0 (kA w)) 5 σ 4 [(0, .ref (kL w 0)), (1, .int (a.1)), (2, .int (a.2))] [] 0 0) (fun a a2 r hb ih hO => pX1_countTrueFingers_4 K hret hb (fun z e => by cases e; exact ih hO) (fun _ e => by cases e)) (fun a r hb hO => pX1_countTrueFingers_4 K hret hb (fun _ e => by cases e) (fun z e => hO z (by cases e; rfl))) n a r h hO
set_option maxRecDepth 20000 in
theorem mX1_countTrueFingers (l : Launch) (w : kW) (σ : kS) {o : Int32} (h : fX1_countTrueFingers σ = some o) : Met l yX1_countTrueFingers (Cond.code yX1_countTrueFingers cX1_countTrueFingers 5 (some .int) :: TB) rmX1_countTrueFingers (va_Pc [.ref (kL w 0)] (kP w σ)) (kQi w o σ) 0 0 (kA w) := by
  refine k_met (by decide +kernel) [.ref (kL w 0)] (Nat.le_of_ble_eq_true rfl) (by simp [lv_args, Value.category]) ?_
  intro p e s m args below meth c K hret
  have K : kC w p s m args meth c cX1_countTrueFingers 5 RX1 := K
  obtain ⟨r, hro⟩ : ∃ r, r = o := ⟨o, rfl⟩
  rw [← hro] at h
  have hO : ∀ z, r = z → z = o := fun z e => by rw [← e]; exact hro
  unfold fX1_countTrueFingers at h
  refine k_iconst (v := 0) K dX1_countTrueFingers_0 (by decide) ?_
  refine k_istore_n (lv' := [(1, .int 0), (0, .ref (kL w 0))]) K dX1_countTrueFingers_1 (by decide) rfl ?_
  refine k_iconst (v := 0) K dX1_countTrueFingers_2 (by decide) ?_
  refine k_istore_n (lv' := [(2, .int 0), (1, .int 0), (0, .ref (kL w 0))]) K dX1_countTrueFingers_3 (by decide) rfl ?_
  refine k_sub [2, 1, 0] rfl ?_
  exact lX1_countTrueFingers_4 K hret h hO
end F_X1_countTrueFingers
section F_X0_begin
variable {w : kW} {p : Program} {l : Launch} {e : Env} {s : State} {m : MethodId} {args : Array Value} {below : List Frame} {meth : Method} {c : Code}
def fX0_begin (σ : kS) (c0 : Nat) (x1 : Int32) : Option kS :=
  if kd c0 = (0, 0, 8) then
    (fJ7_fill_53178 (sI (sI (sI σ c0 5 x1) c0 6 ((-1))) c0 7 0) (c0 + 1 + 0) ((-1))).bind fun r2 =>
    (fJ7_fill_53178 r2 (c0 + 1 + 1) ((-1))).bind fun r3 =>
    (fJ7_fill_53178 r3 (c0 + 1 + 2) 0).bind fun r4 =>
    (fJ7_fill_53178 r4 (c0 + 1 + 3) ((-1))).bind fun r5 =>
    (fJ7_fill_53178 r5 (c0 + 1 + 4) ((-1))).bind fun r6 =>
    some (r6)
  else none
def rmX0_begin : Room := { frames := 1, cells := 0, slots := 0, locals := 23 }
set_option maxRecDepth 20000 in
theorem mX0_begin (l : Launch) (w : kW) (σ : kS) (c0 : Nat) (x1 : Int32) {o : kS} (h : fX0_begin σ c0 x1 = some o) : Met l yX0_begin (Cond.code yX0_begin cX0_begin 2 none :: TB) rmX0_begin (va_Pc [.ref (kL w c0), .int x1] (kP w σ)) (kQv w o) 0 0 (kA w) := by
  refine k_met (by decide +kernel) [.ref (kL w c0), .int x1] (Nat.le_of_ble_eq_true rfl) (by simp [lv_args, Value.category]) ?_
  intro p e s m args below meth c K hret
  have K : kC w p s m args meth c cX0_begin 2 RX0 := K
  obtain ⟨r, hro⟩ : ∃ r, r = o := ⟨o, rfl⟩
  rw [← hro] at h
  have hO : ∀ z, r = z → z = o := fun z e => by rw [← e]; exact hro
  unfold fX0_begin at h
  refine k_aload_n K dX0_begin_0 0 rfl ?_
  refine k_iload_n K dX0_begin_1 1 rfl ?_
  replace h := k_gd h
  obtain ⟨g1, h⟩ := h
  refine fp_X0_27 K dX0_begin_2 g1 ?_
  refine k_aload_n K dX0_begin_5 0 rfl ?_
  refine k_iconst (v := (-1)) K dX0_begin_6 (by decide) ?_
  refine fp_X0_31 K dX0_begin_7 g1 ?_
  refine k_aload_n K dX0_begin_10 0 rfl ?_
  refine k_iconst (v := 0) K dX0_begin_11 (by decide) ?_
  refine fp_X0_34 K dX0_begin_12 g1 ?_
  refine k_aload_n K dX0_begin_15 0 rfl ?_
  refine fg_X0_9 K dX0_begin_16 g1 ?_
  refine k_iconst (v := (-1)) K dX0_begin_19 (by decide) ?_
  replace h := k_bd h
  obtain ⟨r2, hr2, h⟩ := h
  refine cl_X0_37 K dX0_begin_20 hr2 (by decide) (Nat.le_of_ble_eq_true rfl) (by decide) ?_
  refine k_aload_n K dX0_begin_23 0 rfl ?_
  refine fg_X0_15 K dX0_begin_24 g1 ?_
  refine k_iconst (v := (-1)) K dX0_begin_27 (by decide) ?_
  replace h := k_bd h
  obtain ⟨r3, hr3, h⟩ := h
  refine cl_X0_37 K dX0_begin_28 hr3 (by decide) (Nat.le_of_ble_eq_true rfl) (by decide) ?_
  refine k_aload_n K dX0_begin_31 0 rfl ?_
  refine fg_X0_18 K dX0_begin_32 g1 ?_
  refine k_iconst (v := 0) K dX0_begin_35 (by decide) ?_
  replace h := k_bd h
  obtain ⟨r4, hr4, h⟩ := h
  refine cl_X0_37 K dX0_begin_36 hr4 (by decide) (Nat.le_of_ble_eq_true rfl) (by decide) ?_
  refine k_aload_n K dX0_begin_39 0 rfl ?_
  refine fg_X0_21 K dX0_begin_40 g1 ?_
  refine k_iconst (v := (-1)) K dX0_begin_43 (by decide) ?_
  replace h := k_bd h
  obtain ⟨r5, hr5, h⟩ := h
  refine cl_X0_37 K dX0_begin_44 hr5 (by decide) (Nat.le_of_ble_eq_true rfl) (by decide) ?_
  refine k_aload_n K dX0_begin_47 0 rfl ?_
  refine fg_X0_24 K dX0_begin_48 g1 ?_
  refine k_iconst (v := (-1)) K dX0_begin_51 (by decide) ?_
  replace h := k_bd h
  obtain ⟨r6, hr6, h⟩ := h
  refine cl_X0_37 K dX0_begin_52 hr6 (by decide) (Nat.le_of_ble_eq_true rfl) (by decide) ?_
  cases h
  obtain rfl := hO _ rfl
  exact k_vret K hret dX0_begin_55 (by decide) (by decide)
end F_X0_begin
section C_X0_begin
variable {w : kW} {p : Program} {l : Launch} {e : Env} {R : Room} {s : State} {m : MethodId} {args : Array Value} {below : List Frame} {meth : Method} {c : Code} {Q : State → Prop} {cc : ByteArray} {nL : Nat} {σ : kS} {pc : Nat} {lv : List (Nat × Value)} {st rest : List Value} {cells slots : Nat}
theorem cl_X1_232 (K : kC w p s m args meth c cc nL RX1) {a0 : Nat} {a1 : Int32} {r : kS} (d : decode cc pc = .ok (.invokevirtual 232, 3)) (hk : kd a0 = (0, 0, 8)) (h : fX0_begin σ a0 a1 = some r) (hR : rmX0_begin.frames + 1 ≤ R.frames ∧ 8 + (2 + 11) + rmX0_begin.locals ≤ R.locals) (hr : (rest.map fun v => v.category).sum ≤ 8) (hf : cells + 0 ≤ R.cells ∧ slots + 0 ≤ R.slots) (kk : kG w p l e R s m args below meth c Q nL r (pc + 3) lv (rest) (cells + 0) (slots + 0)) : kG w p l e R s m args below meth c Q nL σ pc lv (.int a1 :: .ref (kL w a0) :: rest) cells slots :=
  k_callVv (As := [.int a1]) (rest := rest) (n := 1) (C := RX0) (T := TX0) K d hk rfl (kg_V tw_280 tw_281 tw_282 tw_49 tw_283) rfl (by decide +kernel) rfl hR hr rfl hf (mX0_begin l w σ a0 a1 h) ⟨rfl, rfl⟩ kk
end C_X0_begin
section F_X1_addMember
variable {w : kW} {p : Program} {l : Launch} {e : Env} {s : State} {m : MethodId} {args : Array Value} {below : List Frame} {meth : Method} {c : Code}
def fX1_addMember_54 (x1 : Int32) (n2 : Option Nat) (x3 : Int32) (σ : kS) : Option (Nat × kS) :=
  (n2).bind fun q1 =>
  if kd q1 = (0, 0, 8) then
    if vpi x3 20 then
      (fX0_begin (sR σ 1 x3.toNatClampNeg (some q1)) q1 x1).bind fun r4 =>
      if vpi x1 256 then
        some ((q1, sI (sI (sR r4 122 x1.toNatClampNeg (some q1)) 123 x1.toNatClampNeg 1) 0 9 (((sI (sR r4 122 x1.toNatClampNeg (some q1)) 123 x1.toNatClampNeg 1).1 0 9) + 1)))
      else none
    else none
  else none
def gX1_addMember_15 (x1 : Int32) (n2 : Option Nat) (x3 : Int32) (σ : kS) : Option ((Int32 × kS) ⊕ (Nat × kS)) :=
  if x3 ≤ 0 then
    (fX1_addMember_54 x1 n2 x3 σ).map .inr
  else
    if vpi (x3 - 1) 20 then
      (σ.2.1 1 (x3 - 1).toNatClampNeg).bind fun q3 =>
      if kd q3 = (0, 0, 8) then
        if (σ.1 q3 5) ≤ x1 then
          (fX1_addMember_54 x1 n2 x3 σ).map .inr
        else
          (σ.2.1 1 (x3 - 1).toNatClampNeg).bind fun q6 =>
          if kd q6 = (0, 0, 8) then
            if vpi x3 20 then
              some (.inl (x3 + (-1), sR σ 1 x3.toNatClampNeg (some q6)))
            else none
          else none
      else none
    else none
def fX1_addMember_15 (x1 : Int32) (n2 : Option Nat) (a : Int32 × kS) : Option ((Int32 × kS) ⊕ (Nat × kS)) := gX1_addMember_15 x1 n2 a.1 a.2
def fX1_addMember (σ : kS) (x1 : Int32) : Option (Nat × kS) :=
  if vpi (σ.1 0 9) 20 then
    kit (fX1_addMember_15 x1 (σ.2.1 1 (σ.1 0 9).toNatClampNeg)) 300 (σ.1 0 9, σ)
  else none
def rmX1_addMember : Room := { frames := 2, cells := 0, slots := 0, locals := 44 }
set_option maxRecDepth 20000 in
theorem pX1_addMember_54 (K : kC w p s m args meth c cX1_addMember 4 RX1) (hret : meth.sig.returnType = (some (.object "KeyRing$Member"))) {x1 : Int32} {n2 : Option Nat} {x3 : Int32} {σ : kS} {r : (Nat × kS)} {o : (Nat × kS)} (h : fX1_addMember_54 x1 n2 x3 σ = some r) (hO : ∀ z, r = z → z = o) : kG w p l e rmX1_addMember s m args below meth c (MQ below (kQq w (some o.1) o.2) args s 0 0 (kA w)) 4 σ 54 [(0, .ref (kL w 0)), (1, .int x1), (2, va_rf ((n2).map (kL w))), (3, .int x3)] [] 0 0 := by
  unfold fX1_addMember_54 at h
  refine k_aload_n K dX1_addMember_54 0 rfl ?_
  refine fg_X1_11 K dX1_addMember_55 ?_
  refine k_iload_n K dX1_addMember_58 3 rfl ?_
  refine k_aload_nQ K dX1_addMember_59 2 rfl ?_
  replace h := k_bd h
  obtain ⟨q1, hq1, h⟩ := h
  subst hq1
  replace h := k_gd h
  obtain ⟨g2, h⟩ := h
  replace h := k_gd h
  obtain ⟨g3, h⟩ := h
  refine k_aast K dX1_addMember_60 kd_1 g2 g3 ?_
  refine k_aload_n K dX1_addMember_61 2 rfl ?_
  refine k_iload_n K dX1_addMember_62 1 rfl ?_
  replace h := k_bd h
  obtain ⟨r4, hr4, h⟩ := h
  refine cl_X1_232 K dX1_addMember_63 g2 hr4 (by decide) (Nat.le_of_ble_eq_true rfl) (by decide) ?_
  refine k_aload_n K dX1_addMember_66 0 rfl ?_
  refine fg_X1_16 K dX1_addMember_67 ?_
  refine k_iload_n K dX1_addMember_70 1 rfl ?_
  refine k_aload_n K dX1_addMember_71 2 rfl ?_
  replace h := k_gd h
  obtain ⟨g5, h⟩ := h
  refine k_aast K dX1_addMember_72 kd_122 g2 g5 ?_
  refine k_aload_n K dX1_addMember_73 0 rfl ?_
  refine fg_X1_19 K dX1_addMember_74 ?_
  refine k_iload_n K dX1_addMember_77 1 rfl ?_
  refine k_iconst (v := 1) K dX1_addMember_78 (by decide) ?_
  refine k_zast K dX1_addMember_79 kd_123 g5 (by decide) ?_
  refine k_aload_n K dX1_addMember_80 0 rfl ?_
  refine k_dup K dX1_addMember_81 rfl ?_
  refine fg_X1_41 K dX1_addMember_82 ?_
  refine k_iconst (v := 1) K dX1_addMember_85 (by decide) ?_
  refine k_iadd K dX1_addMember_86 ?_
  refine fp_X1_41 K dX1_addMember_87 ?_
  refine k_aload_n K dX1_addMember_90 2 rfl ?_
  cases h
  obtain rfl := hO _ rfl
  exact k_aret (v := some q1) K hret dX1_addMember_91 (by decide) (by decide)
set_option maxRecDepth 20000 in
theorem pX1_addMember_15 (K : kC w p s m args meth c cX1_addMember 4 RX1) (hret : meth.sig.returnType = (some (.object "KeyRing$Member"))) {x1 : Int32} {n2 : Option Nat} {x3 : Int32} {σ : kS} {r : ((Int32 × kS) ⊕ (Nat × kS))} {o : (Nat × kS)} (h : gX1_addMember_15 x1 n2 x3 σ = some r) (hL15 : ∀ z, r = .inl z → kG w p l e rmX1_addMember s m args below meth c (MQ below (kQq w (some o.1) o.2) args s 0 0 (kA w)) 4 z.2 15 [(0, .ref (kL w 0)), (1, .int x1), (2, va_rf ((n2).map (kL w))), (3, .int (z.1))] [] 0 0) (hO : ∀ z, r = .inr z → z = o) : kG w p l e rmX1_addMember s m args below meth c (MQ below (kQq w (some o.1) o.2) args s 0 0 (kA w)) 4 σ 15 [(0, .ref (kL w 0)), (1, .int x1), (2, va_rf ((n2).map (kL w))), (3, .int x3)] [] 0 0 := by
  unfold gX1_addMember_15 at h
  refine k_iload_n K dX1_addMember_15 3 rfl ?_
  replace h := k_br h
  rcases h with ⟨b1, h⟩ | ⟨b1, h⟩
  · refine k_if_le K 54 dX1_addMember_16 (by decide) (fun _ => ?_) (fun q => absurd b1 q)
    replace h := k_mp h
    obtain ⟨_, h, rfl⟩ := h
    exact pX1_addMember_54 K hret h (fun z e => hO z (by rw [e]))
  · refine k_if_le K 54 dX1_addMember_16 (by decide) (fun q => absurd q b1) (fun _ => ?_)
    refine k_aload_n K dX1_addMember_19 0 rfl ?_
    refine fg_X1_11 K dX1_addMember_20 ?_
    refine k_iload_n K dX1_addMember_23 3 rfl ?_
    refine k_iconst (v := 1) K dX1_addMember_24 (by decide) ?_
    refine k_isub K dX1_addMember_25 ?_
    replace h := k_gd h
    obtain ⟨g2, h⟩ := h
    refine k_aald K dX1_addMember_26 kd_1 g2 ?_
    replace h := k_bd h
    obtain ⟨q3, hq3, h⟩ := h
    rw [hq3]
    replace h := k_gd h
    obtain ⟨g4, h⟩ := h
    refine fg_X1_89 K dX1_addMember_27 g4 ?_
    refine k_iload_n K dX1_addMember_30 1 rfl ?_
    replace h := k_br h
    rcases h with ⟨b5, h⟩ | ⟨b5, h⟩
    · refine k_icmp_le K 54 dX1_addMember_31 (by decide) (fun _ => ?_) (fun q => absurd b5 q)
      replace h := k_mp h
      obtain ⟨_, h, rfl⟩ := h
      exact pX1_addMember_54 K hret h (fun z e => hO z (by rw [e]))
    · refine k_icmp_le K 54 dX1_addMember_31 (by decide) (fun q => absurd q b5) (fun _ => ?_)
      refine k_aload_n K dX1_addMember_34 0 rfl ?_
      refine fg_X1_11 K dX1_addMember_35 ?_
      refine k_iload_n K dX1_addMember_38 3 rfl ?_
      refine k_aload_n K dX1_addMember_39 0 rfl ?_
      refine fg_X1_11 K dX1_addMember_40 ?_
      refine k_iload_n K dX1_addMember_43 3 rfl ?_
      refine k_iconst (v := 1) K dX1_addMember_44 (by decide) ?_
      refine k_isub K dX1_addMember_45 ?_
      refine k_aald K dX1_addMember_46 kd_1 g2 ?_
      replace h := k_bd h
      obtain ⟨q6, hq6, h⟩ := h
      rw [hq6]
      replace h := k_gd h
      obtain ⟨g7, h⟩ := h
      replace h := k_gd h
      obtain ⟨g8, h⟩ := h
      refine k_aast K dX1_addMember_47 kd_1 g7 g8 ?_
      refine k_iinc (v := (-1)) (lv' := [(3, .int (x3 + (-1))), (0, .ref (kL w 0)), (1, .int x1), (2, va_rf ((n2).map (kL w)))]) K dX1_addMember_48 3 rfl (by decide) (by decide) rfl ?_
      refine k_goto K 15 dX1_addMember_51 (by decide) ?_
      refine k_sub [1, 2, 3, 0] rfl ?_
      cases h
      exact hL15 _ rfl
set_option maxRecDepth 20000 in
theorem lX1_addMember_15 (K : kC w p s m args meth c cX1_addMember 4 RX1) (hret : meth.sig.returnType = (some (.object "KeyRing$Member"))) {x1 : Int32} {n2 : Option Nat} {n : Nat} {a : Int32 × kS} {r : (Nat × kS)} {o : (Nat × kS)} (h : kit (fX1_addMember_15 x1 n2) n a = some r) (hO : ∀ z, r = z → z = o) : kG w p l e rmX1_addMember s m args below meth c (MQ below (kQq w (some o.1) o.2) args s 0 0 (kA w)) 4 a.2 15 [(0, .ref (kL w 0)), (1, .int x1), (2, va_rf ((n2).map (kL w))), (3, .int (a.1))] [] 0 0 :=
  kit_ind (body := fX1_addMember_15 x1 n2) (fun a r => (∀ z, r = z → z = o) → kG w p l e rmX1_addMember s m args below meth c (MQ below (kQq w (some o.1) o.2) args s 0 0 (kA w)) 4 a.2 15 [(0, .ref (kL w 0)), (1, .int x1), (2, va_rf ((n2).map (kL w))), (3, .int (a.1))] [] 0 0) (fun a a2 r hb ih hO => pX1_addMember_15 K hret hb (fun z e => by cases e; exact ih hO) (fun _ e => by cases e)) (fun a r hb hO => pX1_addMember_15 K hret hb (fun _ e => by cases e) (fun z e => hO z (by cases e; rfl))) n a r h hO
set_option maxRecDepth 20000 in
theorem mX1_addMember (l : Launch) (w : kW) (σ : kS) (x1 : Int32) {o : (Nat × kS)} (h : fX1_addMember σ x1 = some o) : Met l yX1_addMember (Cond.code yX1_addMember cX1_addMember 4 (some (.object "KeyRing$Member")) :: TB) rmX1_addMember (va_Pc [.ref (kL w 0), .int x1] (kP w σ)) (kQq w (some o.1) o.2) 0 0 (kA w) := by
  refine k_met (by decide +kernel) [.ref (kL w 0), .int x1] (Nat.le_of_ble_eq_true rfl) (by simp [lv_args, Value.category]) ?_
  intro p e s m args below meth c K hret
  have K : kC w p s m args meth c cX1_addMember 4 RX1 := K
  obtain ⟨r, hro⟩ : ∃ r, r = o := ⟨o, rfl⟩
  rw [← hro] at h
  have hO : ∀ z, r = z → z = o := fun z e => by rw [← e]; exact hro
  unfold fX1_addMember at h
  refine k_aload_n K dX1_addMember_0 0 rfl ?_
  refine fg_X1_11 K dX1_addMember_1 ?_
  refine k_aload_n K dX1_addMember_4 0 rfl ?_
  refine fg_X1_41 K dX1_addMember_5 ?_
  replace h := k_gd h
  obtain ⟨g1, h⟩ := h
  refine k_aald K dX1_addMember_8 kd_1 g1 ?_
  refine k_astore_nQ (lv' := [(2, va_rf ((σ.2.1 1 (σ.1 0 9).toNatClampNeg).map (kL w))), (0, .ref (kL w 0)), (1, .int x1)]) K dX1_addMember_9 (by decide) rfl ?_
  refine k_aload_n K dX1_addMember_10 1 rfl ?_
  refine fg_X1_41 K dX1_addMember_11 ?_
  refine k_istore_n (lv' := [(3, .int (σ.1 0 9)), (2, va_rf ((σ.2.1 1 (σ.1 0 9).toNatClampNeg).map (kL w))), (0, .ref (kL w 0)), (1, .int x1)]) K dX1_addMember_14 (by decide) rfl ?_
  refine k_sub [2, 3, 1, 0] rfl ?_
  exact lX1_addMember_15 K hret h hO
end F_X1_addMember
section F_X1_isIdealMember
variable {w : kW} {p : Program} {l : Launch} {e : Env} {s : State} {m : MethodId} {args : Array Value} {below : List Frame} {meth : Method} {c : Code}
def gX1_isIdealMember_9 (x1 : Int32) (n2 : Option Nat) (σ : kS) (x3 : Int32) : Option ((Int32) ⊕ Int32) :=
  if (σ.1 0 7) ≤ x3 then
    (n2).bind fun q2 =>
    if kd q2 = (0, 0, 8) then
      (fX1_livePointInTurn σ (x1 - 1)).bind fun r4 =>
      if (σ.1 q2 6) = r4 then
        some (.inr (1))
      else
        some (.inr (0))
    else none
  else
    (n2).bind fun q6 =>
    if kd q6 = (0, 0, 8) then
      if vpi x3 4 then
        (fX1_livePointInTurn σ ((x1 + 1) + x3)).bind fun r9 =>
        if (σ.1 (q6 + 1 + 0) x3.toNatClampNeg) = r9 then
          some (.inl (x3 + 1))
        else
          some (.inr (0))
      else none
    else none
def fX1_isIdealMember_9 (x1 : Int32) (n2 : Option Nat) (σ : kS) (a : Int32) : Option ((Int32) ⊕ Int32) := gX1_isIdealMember_9 x1 n2 σ a
def fX1_isIdealMember (σ : kS) (x1 : Int32) : Option Int32 :=
  if vpi x1 20 then
    kit (fX1_isIdealMember_9 x1 (σ.2.1 1 x1.toNatClampNeg) σ) 300 (0)
  else none
def rmX1_isIdealMember : Room := { frames := 2, cells := 0, slots := 0, locals := 43 }
set_option maxRecDepth 20000 in
theorem pX1_isIdealMember_9 (K : kC w p s m args meth c cX1_isIdealMember 4 RX1) (hret : meth.sig.returnType = (some .boolean)) {x1 : Int32} {n2 : Option Nat} {σ : kS} {x3 : Int32} {r : ((Int32) ⊕ Int32)} {o : Int32} (h : gX1_isIdealMember_9 x1 n2 σ x3 = some r) (hL9 : ∀ z, r = .inl z → kG w p l e rmX1_isIdealMember s m args below meth c (MQ below (kQi w o σ) args s 0 0 (kA w)) 4 σ 9 [(0, .ref (kL w 0)), (1, .int x1), (2, va_rf ((n2).map (kL w))), (3, .int z)] [] 0 0) (hO : ∀ z, r = .inr z → z = o) : kG w p l e rmX1_isIdealMember s m args below meth c (MQ below (kQi w o σ) args s 0 0 (kA w)) 4 σ 9 [(0, .ref (kL w 0)), (1, .int x1), (2, va_rf ((n2).map (kL w))), (3, .int x3)] [] 0 0 := by
  unfold gX1_isIdealMember_9 at h
  refine k_iload_n K dX1_isIdealMember_9 3 rfl ?_
  refine k_aload_n K dX1_isIdealMember_10 0 rfl ?_
  refine fg_X1_30 K dX1_isIdealMember_11 ?_
  replace h := k_br h
  rcases h with ⟨b1, h⟩ | ⟨b1, h⟩
  · refine k_icmp_ge K 43 dX1_isIdealMember_14 (by decide) (fun _ => ?_) (fun q => absurd b1 q)
    refine k_aload_nQ K dX1_isIdealMember_43 2 rfl ?_
    replace h := k_bd h
    obtain ⟨q2, hq2, h⟩ := h
    subst hq2
    replace h := k_gd h
    obtain ⟨g3, h⟩ := h
    refine fg_X1_75 K dX1_isIdealMember_44 g3 ?_
    refine k_aload_n K dX1_isIdealMember_47 0 rfl ?_
    refine k_iload_n K dX1_isIdealMember_48 1 rfl ?_
    refine k_iconst (v := 1) K dX1_isIdealMember_49 (by decide) ?_
    refine k_isub K dX1_isIdealMember_50 ?_
    replace h := k_bd h
    obtain ⟨r4, hr4, h⟩ := h
    refine cl_X1_71 K dX1_isIdealMember_51 hr4 (by decide) (Nat.le_of_ble_eq_true rfl) (by decide) ?_
    replace h := k_br h
    rcases h with ⟨b5, h⟩ | ⟨b5, h⟩
    · refine k_icmp_ne K 61 dX1_isIdealMember_54 (by decide) (fun q => absurd b5 q) (fun _ => ?_)
      refine k_iconst (v := 1) K dX1_isIdealMember_57 (by decide) ?_
      refine k_goto K 62 dX1_isIdealMember_58 (by decide) ?_
      cases h
      obtain rfl := hO _ rfl
      exact k_zret (v := 1) K hret (by decide) dX1_isIdealMember_62 (by decide) (by decide)
    · refine k_icmp_ne K 61 dX1_isIdealMember_54 (by decide) (fun _ => ?_) (fun q => absurd q b5)
      refine k_iconst (v := 0) K dX1_isIdealMember_61 (by decide) ?_
      cases h
      obtain rfl := hO _ rfl
      exact k_zret (v := 0) K hret (by decide) dX1_isIdealMember_62 (by decide) (by decide)
  · refine k_icmp_ge K 43 dX1_isIdealMember_14 (by decide) (fun q => absurd q b1) (fun _ => ?_)
    refine k_aload_nQ K dX1_isIdealMember_17 2 rfl ?_
    replace h := k_bd h
    obtain ⟨q6, hq6, h⟩ := h
    subst hq6
    replace h := k_gd h
    obtain ⟨g7, h⟩ := h
    refine fg_X1_68 K dX1_isIdealMember_18 g7 ?_
    refine k_iload_n K dX1_isIdealMember_21 3 rfl ?_
    replace h := k_gd h
    obtain ⟨g8, h⟩ := h
    refine k_iald K dX1_isIdealMember_22 (kd_m0 g7).1 g8 ?_
    refine k_aload_n K dX1_isIdealMember_23 0 rfl ?_
    refine k_iload_n K dX1_isIdealMember_24 1 rfl ?_
    refine k_iconst (v := 1) K dX1_isIdealMember_25 (by decide) ?_
    refine k_iadd K dX1_isIdealMember_26 ?_
    refine k_iload_n K dX1_isIdealMember_27 3 rfl ?_
    refine k_iadd K dX1_isIdealMember_28 ?_
    replace h := k_bd h
    obtain ⟨r9, hr9, h⟩ := h
    refine cl_X1_71 K dX1_isIdealMember_29 hr9 (by decide) (Nat.le_of_ble_eq_true rfl) (by decide) ?_
    replace h := k_br h
    rcases h with ⟨b10, h⟩ | ⟨b10, h⟩
    · refine k_icmp_eq K 37 dX1_isIdealMember_32 (by decide) (fun _ => ?_) (fun q => absurd b10 q)
      refine k_iinc (v := 1) (lv' := [(3, .int (x3 + 1)), (0, .ref (kL w 0)), (1, .int x1), (2, .ref (kL w q6))]) K dX1_isIdealMember_37 3 rfl (by decide) (by decide) rfl ?_
      refine k_goto K 9 dX1_isIdealMember_40 (by decide) ?_
      refine k_sub [1, 2, 3, 0] rfl ?_
      cases h
      exact hL9 _ rfl
    · refine k_icmp_eq K 37 dX1_isIdealMember_32 (by decide) (fun q => absurd q b10) (fun _ => ?_)
      refine k_iconst (v := 0) K dX1_isIdealMember_35 (by decide) ?_
      cases h
      obtain rfl := hO _ rfl
      exact k_zret (v := 0) K hret (by decide) dX1_isIdealMember_36 (by decide) (by decide)
set_option maxRecDepth 20000 in
theorem lX1_isIdealMember_9 (K : kC w p s m args meth c cX1_isIdealMember 4 RX1) (hret : meth.sig.returnType = (some .boolean)) {x1 : Int32} {n2 : Option Nat} {σ : kS} {n : Nat} {a : Int32} {r : Int32} {o : Int32} (h : kit (fX1_isIdealMember_9 x1 n2 σ) n a = some r) (hO : ∀ z, r = z → z = o) : kG w p l e rmX1_isIdealMember s m args below meth c (MQ below (kQi w o σ) args s 0 0 (kA w)) 4 σ 9 [(0, .ref (kL w 0)), (1, .int x1), (2, va_rf ((n2).map (kL w))), (3, .int a)] [] 0 0 :=
  kit_ind (body := fX1_isIdealMember_9 x1 n2 σ) (fun a r => (∀ z, r = z → z = o) → kG w p l e rmX1_isIdealMember s m args below meth c (MQ below (kQi w o σ) args s 0 0 (kA w)) 4 σ 9 [(0, .ref (kL w 0)), (1, .int x1), (2, va_rf ((n2).map (kL w))), (3, .int a)] [] 0 0) (fun a a2 r hb ih hO => pX1_isIdealMember_9 K hret hb (fun z e => by cases e; exact ih hO) (fun _ e => by cases e)) (fun a r hb hO => pX1_isIdealMember_9 K hret hb (fun _ e => by cases e) (fun z e => hO z (by cases e; rfl))) n a r h hO
set_option maxRecDepth 20000 in
theorem mX1_isIdealMember (l : Launch) (w : kW) (σ : kS) (x1 : Int32) {o : Int32} (h : fX1_isIdealMember σ x1 = some o) : Met l yX1_isIdealMember (Cond.code yX1_isIdealMember cX1_isIdealMember 4 (some .boolean) :: TB) rmX1_isIdealMember (va_Pc [.ref (kL w 0), .int x1] (kP w σ)) (kQi w o σ) 0 0 (kA w) := by
  refine k_met (by decide +kernel) [.ref (kL w 0), .int x1] (Nat.le_of_ble_eq_true rfl) (by simp [lv_args, Value.category]) ?_
  intro p e s m args below meth c K hret
  have K : kC w p s m args meth c cX1_isIdealMember 4 RX1 := K
  obtain ⟨r, hro⟩ : ∃ r, r = o := ⟨o, rfl⟩
  rw [← hro] at h
  have hO : ∀ z, r = z → z = o := fun z e => by rw [← e]; exact hro
  unfold fX1_isIdealMember at h
  refine k_aload_n K dX1_isIdealMember_0 0 rfl ?_
  refine fg_X1_11 K dX1_isIdealMember_1 ?_
  refine k_iload_n K dX1_isIdealMember_4 1 rfl ?_
  replace h := k_gd h
  obtain ⟨g1, h⟩ := h
  refine k_aald K dX1_isIdealMember_5 kd_1 g1 ?_
  refine k_astore_nQ (lv' := [(2, va_rf ((σ.2.1 1 x1.toNatClampNeg).map (kL w))), (0, .ref (kL w 0)), (1, .int x1)]) K dX1_isIdealMember_6 (by decide) rfl ?_
  refine k_iconst (v := 0) K dX1_isIdealMember_7 (by decide) ?_
  refine k_istore_n (lv' := [(3, .int 0), (2, va_rf ((σ.2.1 1 x1.toNatClampNeg).map (kL w))), (0, .ref (kL w 0)), (1, .int x1)]) K dX1_isIdealMember_8 (by decide) rfl ?_
  refine k_sub [2, 3, 1, 0] rfl ?_
  exact lX1_isIdealMember_9 K hret h hO
end F_X1_isIdealMember
section C_X1_isIdealMember
variable {w : kW} {p : Program} {l : Launch} {e : Env} {R : Room} {s : State} {m : MethodId} {args : Array Value} {below : List Frame} {meth : Method} {c : Code} {Q : State → Prop} {cc : ByteArray} {nL : Nat} {σ : kS} {pc : Nat} {lv : List (Nat × Value)} {st rest : List Value} {cells slots : Nat}
theorem cl_X1_182 (K : kC w p s m args meth c cc nL RX1) {a1 : Int32} {r : Int32} (d : decode cc pc = .ok (.invokevirtual 182, 3)) (h : fX1_isIdealMember σ a1 = some r) (hR : rmX1_isIdealMember.frames + 1 ≤ R.frames ∧ 8 + (4 + 11) + rmX1_isIdealMember.locals ≤ R.locals) (hr : (rest.map fun v => v.category).sum ≤ 8) (hf : cells + 0 ≤ R.cells ∧ slots + 0 ≤ R.slots) (kk : kG w p l e R s m args below meth c Q nL σ (pc + 3) lv (.int r :: rest) (cells + 0) (slots + 0)) : kG w p l e R s m args below meth c Q nL σ pc lv (.int a1 :: .ref (kL w 0) :: rest) cells slots :=
  k_callVi (As := [.int a1]) (rest := rest) (n := 1) (C := RX1) (T := TX1) K d kd_0 rfl (kg_V tw_151 tw_153 tw_0 tw_48 tw_154) rfl (by decide +kernel) rfl hR hr rfl hf (mX1_isIdealMember l w σ a1 h) ⟨rfl, rfl⟩ kk
end C_X1_isIdealMember
section F_X1_ideal
variable {w : kW} {p : Program} {l : Launch} {e : Env} {s : State} {m : MethodId} {args : Array Value} {below : List Frame} {meth : Method} {c : Code}
def gX1_ideal_11 (σ : kS) (x1 : Int32) : Option ((Int32) ⊕ Int32) :=
  if (σ.1 0 9) ≤ x1 then
    some (.inr (1))
  else
    (fX1_isIdealMember σ x1).bind fun r2 =>
    if r2 = 0 then
      some (.inr (0))
    else
      some (.inl (x1 + 1))
def fX1_ideal_11 (σ : kS) (a : Int32) : Option ((Int32) ⊕ Int32) := gX1_ideal_11 σ a
def fX1_ideal (σ : kS) : Option Int32 :=
  if (σ.1 0 8) = 0 then
    some (0)
  else
    kit (fX1_ideal_11 σ) 300 (0)
def rmX1_ideal : Room := { frames := 3, cells := 0, slots := 0, locals := 66 }
set_option maxRecDepth 20000 in
theorem pX1_ideal_11 (K : kC w p s m args meth c cX1_ideal 2 RX1) (hret : meth.sig.returnType = (some .boolean)) {σ : kS} {x1 : Int32} {r : ((Int32) ⊕ Int32)} {o : Int32} (h : gX1_ideal_11 σ x1 = some r) (hL11 : ∀ z, r = .inl z → kG w p l e rmX1_ideal s m args below meth c (MQ below (kQi w o σ) args s 0 0 (kA w)) 2 σ 11 [(0, .ref (kL w 0)), (1, .int z)] [] 0 0) (hO : ∀ z, r = .inr z → z = o) : kG w p l e rmX1_ideal s m args below meth c (MQ below (kQi w o σ) args s 0 0 (kA w)) 2 σ 11 [(0, .ref (kL w 0)), (1, .int x1)] [] 0 0 := by
  unfold gX1_ideal_11 at h
  refine k_iload_n K dX1_ideal_11 1 rfl ?_
  refine k_aload_n K dX1_ideal_12 0 rfl ?_
  refine fg_X1_41 K dX1_ideal_13 ?_
  replace h := k_br h
  rcases h with ⟨b1, h⟩ | ⟨b1, h⟩
  · refine k_icmp_ge K 35 dX1_ideal_16 (by decide) (fun _ => ?_) (fun q => absurd b1 q)
    refine k_iconst (v := 1) K dX1_ideal_35 (by decide) ?_
    cases h
    obtain rfl := hO _ rfl
    exact k_zret (v := 1) K hret (by decide) dX1_ideal_36 (by decide) (by decide)
  · refine k_icmp_ge K 35 dX1_ideal_16 (by decide) (fun q => absurd q b1) (fun _ => ?_)
    refine k_aload_n K dX1_ideal_19 0 rfl ?_
    refine k_iload_n K dX1_ideal_20 1 rfl ?_
    replace h := k_bd h
    obtain ⟨r2, hr2, h⟩ := h
    refine cl_X1_182 K dX1_ideal_21 hr2 (by decide) (Nat.le_of_ble_eq_true rfl) (by decide) ?_
    replace h := k_br h
    rcases h with ⟨b3, h⟩ | ⟨b3, h⟩
    · refine k_if_ne K 29 dX1_ideal_24 (by decide) (fun q => absurd b3 q) (fun _ => ?_)
      refine k_iconst (v := 0) K dX1_ideal_27 (by decide) ?_
      cases h
      obtain rfl := hO _ rfl
      exact k_zret (v := 0) K hret (by decide) dX1_ideal_28 (by decide) (by decide)
    · refine k_if_ne K 29 dX1_ideal_24 (by decide) (fun _ => ?_) (fun q => absurd q b3)
      refine k_iinc (v := 1) (lv' := [(1, .int (x1 + 1)), (0, .ref (kL w 0))]) K dX1_ideal_29 1 rfl (by decide) (by decide) rfl ?_
      refine k_goto K 11 dX1_ideal_32 (by decide) ?_
      refine k_sub [1, 0] rfl ?_
      cases h
      exact hL11 _ rfl
set_option maxRecDepth 20000 in
theorem lX1_ideal_11 (K : kC w p s m args meth c cX1_ideal 2 RX1) (hret : meth.sig.returnType = (some .boolean)) {σ : kS} {n : Nat} {a : Int32} {r : Int32} {o : Int32} (h : kit (fX1_ideal_11 σ) n a = some r) (hO : ∀ z, r = z → z = o) : kG w p l e rmX1_ideal s m args below meth c (MQ below (kQi w o σ) args s 0 0 (kA w)) 2 σ 11 [(0, .ref (kL w 0)), (1, .int a)] [] 0 0 :=
  kit_ind (body := fX1_ideal_11 σ) (fun a r => (∀ z, r = z → z = o) → kG w p l e rmX1_ideal s m args below meth c (MQ below (kQi w o σ) args s 0 0 (kA w)) 2 σ 11 [(0, .ref (kL w 0)), (1, .int a)] [] 0 0) (fun a a2 r hb ih hO => pX1_ideal_11 K hret hb (fun z e => by cases e; exact ih hO) (fun _ e => by cases e)) (fun a r hb hO => pX1_ideal_11 K hret hb (fun _ e => by cases e) (fun z e => hO z (by cases e; rfl))) n a r h hO
set_option maxRecDepth 20000 in
theorem mX1_ideal (l : Launch) (w : kW) (σ : kS) {o : Int32} (h : fX1_ideal σ = some o) : Met l yX1_ideal (Cond.code yX1_ideal cX1_ideal 2 (some .boolean) :: TB) rmX1_ideal (va_Pc [.ref (kL w 0)] (kP w σ)) (kQi w o σ) 0 0 (kA w) := by
  refine k_met (by decide +kernel) [.ref (kL w 0)] (Nat.le_of_ble_eq_true rfl) (by simp [lv_args, Value.category]) ?_
  intro p e s m args below meth c K hret
  have K : kC w p s m args meth c cX1_ideal 2 RX1 := K
  obtain ⟨r, hro⟩ : ∃ r, r = o := ⟨o, rfl⟩
  rw [← hro] at h
  have hO : ∀ z, r = z → z = o := fun z e => by rw [← e]; exact hro
  unfold fX1_ideal at h
  refine k_aload_n K dX1_ideal_0 0 rfl ?_
  refine fg_X1_53 K dX1_ideal_1 ?_
  replace h := k_br h
  rcases h with ⟨b1, h⟩ | ⟨b1, h⟩
  · refine k_if_ne K 9 dX1_ideal_4 (by decide) (fun q => absurd b1 q) (fun _ => ?_)
    refine k_iconst (v := 0) K dX1_ideal_7 (by decide) ?_
    cases h
    obtain rfl := hO _ rfl
    exact k_zret (v := 0) K hret (by decide) dX1_ideal_8 (by decide) (by decide)
  · refine k_if_ne K 9 dX1_ideal_4 (by decide) (fun _ => ?_) (fun q => absurd q b1)
    refine k_iconst (v := 0) K dX1_ideal_9 (by decide) ?_
    refine k_istore_n (lv' := [(1, .int 0), (0, .ref (kL w 0))]) K dX1_ideal_10 (by decide) rfl ?_
    refine k_sub [1, 0] rfl ?_
    exact lX1_ideal_11 K hret h hO
end F_X1_ideal
section F_X1_countTrueSuccessors
variable {w : kW} {p : Program} {l : Launch} {e : Env} {s : State} {m : MethodId} {args : Array Value} {below : List Frame} {meth : Method} {c : Code}
def fX1_countTrueSuccessors_44 (x1 : Int32) (x2 : Int32) (σ : kS) : Option ((Int32 × Int32) ⊕ Int32) :=
  some (.inl (x1, x2 + 1))
def gX1_countTrueSuccessors_4 (σ : kS) (x1 : Int32) (x2 : Int32) : Option ((Int32 × Int32) ⊕ Int32) :=
  if (σ.1 0 9) ≤ x2 then
    some (.inr (x1))
  else
    if vpi x2 20 then
      (σ.2.1 1 x2.toNatClampNeg).bind fun q3 =>
      (fX1_successor σ q3).bind fun r4 =>
      kmn (r4) (
        fX1_countTrueSuccessors_44 x1 x2 σ
      ) fun q5 =>
        if kd q5 = (0, 0, 8) then
          (fX1_livePointInTurn σ (x2 + 1)).bind fun r7 =>
          if (σ.1 q5 5) = r7 then
            fX1_countTrueSuccessors_44 (x1 + 1) x2 σ
          else
            fX1_countTrueSuccessors_44 x1 x2 σ
        else none
    else none
def fX1_countTrueSuccessors_4 (σ : kS) (a : Int32 × Int32) : Option ((Int32 × Int32) ⊕ Int32) := gX1_countTrueSuccessors_4 σ a.1 a.2
def fX1_countTrueSuccessors (σ : kS) : Option Int32 :=
  kit (fX1_countTrueSuccessors_4 σ) 300 (0, 0)
def rmX1_countTrueSuccessors : Room := { frames := 3, cells := 0, slots := 0, locals := 64 }
set_option maxRecDepth 20000 in
theorem pX1_countTrueSuccessors_44 (K : kC w p s m args meth c cX1_countTrueSuccessors 4 RX1) (hret : meth.sig.returnType = (some .int)) {x1 : Int32} {x2 : Int32} {σ : kS} {r : ((Int32 × Int32) ⊕ Int32)} {o : Int32} (h : fX1_countTrueSuccessors_44 x1 x2 σ = some r) (hL4 : ∀ z, r = .inl z → kG w p l e rmX1_countTrueSuccessors s m args below meth c (MQ below (kQi w o σ) args s 0 0 (kA w)) 4 σ 4 [(0, .ref (kL w 0)), (1, .int (z.1)), (2, .int (z.2))] [] 0 0) (hO : ∀ z, r = .inr z → z = o) : kG w p l e rmX1_countTrueSuccessors s m args below meth c (MQ below (kQi w o σ) args s 0 0 (kA w)) 4 σ 44 [(0, .ref (kL w 0)), (1, .int x1), (2, .int x2)] [] 0 0 := by
  unfold fX1_countTrueSuccessors_44 at h
  refine k_iinc (v := 1) (lv' := [(2, .int (x2 + 1)), (0, .ref (kL w 0)), (1, .int x1)]) K dX1_countTrueSuccessors_44 2 rfl (by decide) (by decide) rfl ?_
  refine k_goto K 4 dX1_countTrueSuccessors_47 (by decide) ?_
  refine k_sub [1, 2, 0] rfl ?_
  cases h
  exact hL4 _ rfl
set_option maxRecDepth 20000 in
theorem pX1_countTrueSuccessors_4 (K : kC w p s m args meth c cX1_countTrueSuccessors 4 RX1) (hret : meth.sig.returnType = (some .int)) {σ : kS} {x1 : Int32} {x2 : Int32} {r : ((Int32 × Int32) ⊕ Int32)} {o : Int32} (h : gX1_countTrueSuccessors_4 σ x1 x2 = some r) (hL4 : ∀ z, r = .inl z → kG w p l e rmX1_countTrueSuccessors s m args below meth c (MQ below (kQi w o σ) args s 0 0 (kA w)) 4 σ 4 [(0, .ref (kL w 0)), (1, .int (z.1)), (2, .int (z.2))] [] 0 0) (hO : ∀ z, r = .inr z → z = o) : kG w p l e rmX1_countTrueSuccessors s m args below meth c (MQ below (kQi w o σ) args s 0 0 (kA w)) 4 σ 4 [(0, .ref (kL w 0)), (1, .int x1), (2, .int x2)] [] 0 0 := by
  unfold gX1_countTrueSuccessors_4 at h
  refine k_iload_n K dX1_countTrueSuccessors_4 2 rfl ?_
  refine k_aload_n K dX1_countTrueSuccessors_5 0 rfl ?_
  refine fg_X1_41 K dX1_countTrueSuccessors_6 ?_
  replace h := k_br h
  rcases h with ⟨b1, h⟩ | ⟨b1, h⟩
  · refine k_icmp_ge K 50 dX1_countTrueSuccessors_9 (by decide) (fun _ => ?_) (fun q => absurd b1 q)
    refine k_iload_n K dX1_countTrueSuccessors_50 1 rfl ?_
    cases h
    obtain rfl := hO _ rfl
    exact k_iret K hret dX1_countTrueSuccessors_51 (by decide) (by decide)
  · refine k_icmp_ge K 50 dX1_countTrueSuccessors_9 (by decide) (fun q => absurd q b1) (fun _ => ?_)
    refine k_aload_n K dX1_countTrueSuccessors_12 0 rfl ?_
    refine k_aload_n K dX1_countTrueSuccessors_13 0 rfl ?_
    refine fg_X1_11 K dX1_countTrueSuccessors_14 ?_
    refine k_iload_n K dX1_countTrueSuccessors_17 2 rfl ?_
    replace h := k_gd h
    obtain ⟨g2, h⟩ := h
    refine k_aald K dX1_countTrueSuccessors_18 kd_1 g2 ?_
    replace h := k_bd h
    obtain ⟨q3, hq3, h⟩ := h
    rw [hq3]
    replace h := k_bd h
    obtain ⟨r4, hr4, h⟩ := h
    refine cl_X1_107 K dX1_countTrueSuccessors_19 hr4 (by decide) (Nat.le_of_ble_eq_true rfl) (by decide) ?_
    refine k_astore_nQ (lv' := [(3, va_rf ((r4).map (kL w))), (0, .ref (kL w 0)), (1, .int x1), (2, .int x2)]) K dX1_countTrueSuccessors_22 (by decide) rfl ?_
    refine k_aload_nQ K dX1_countTrueSuccessors_23 0 rfl ?_
    replace h := k_mn h
    rcases h with ⟨hq5, h⟩ | ⟨q5, hq5, h⟩
    · subst hq5
      refine k_ifnullN K 44 dX1_countTrueSuccessors_24 (by decide) ?_
      refine k_sub [1, 2, 3] rfl ?_
      exact pX1_countTrueSuccessors_44 K hret h hL4 hO
    · subst hq5
      refine k_ifnull K dX1_countTrueSuccessors_24 ?_
      refine k_aload_n K dX1_countTrueSuccessors_27 0 rfl ?_
      replace h := k_gd h
      obtain ⟨g6, h⟩ := h
      refine fg_X1_89 K dX1_countTrueSuccessors_28 g6 ?_
      refine k_aload_n K dX1_countTrueSuccessors_31 1 rfl ?_
      refine k_iload_n K dX1_countTrueSuccessors_32 3 rfl ?_
      refine k_iconst (v := 1) K dX1_countTrueSuccessors_33 (by decide) ?_
      refine k_iadd K dX1_countTrueSuccessors_34 ?_
      replace h := k_bd h
      obtain ⟨r7, hr7, h⟩ := h
      refine cl_X1_71 K dX1_countTrueSuccessors_35 hr7 (by decide) (Nat.le_of_ble_eq_true rfl) (by decide) ?_
      replace h := k_br h
      rcases h with ⟨b8, h⟩ | ⟨b8, h⟩
      · refine k_icmp_ne K 44 dX1_countTrueSuccessors_38 (by decide) (fun q => absurd b8 q) (fun _ => ?_)
        refine k_iinc (v := 1) (lv' := [(1, .int (x1 + 1)), (3, .ref (kL w q5)), (0, .ref (kL w 0)), (2, .int x2)]) K dX1_countTrueSuccessors_41 2 rfl (by decide) (by decide) rfl ?_
        refine k_sub [2, 0, 3] rfl ?_
        exact pX1_countTrueSuccessors_44 K hret h hL4 hO
      · refine k_icmp_ne K 44 dX1_countTrueSuccessors_38 (by decide) (fun _ => ?_) (fun q => absurd q b8)
        refine k_sub [1, 2, 3] rfl ?_
        exact pX1_countTrueSuccessors_44 K hret h hL4 hO
set_option maxRecDepth 20000 in
theorem lX1_countTrueSuccessors_4 (K : kC w p s m args meth c cX1_countTrueSuccessors 4 RX1) (hret : meth.sig.returnType = (some .int)) {σ : kS} {n : Nat} {a : Int32 × Int32} {r : Int32} {o : Int32} (h : kit (fX1_countTrueSuccessors_4 σ) n a = some r) (hO : ∀ z, r = z → z = o) : kG w p l e rmX1_countTrueSuccessors s m args below meth c (MQ below (kQi w o σ) args s 0 0 (kA w)) 4 σ 4 [(0, .ref (kL w 0)), (1, .int (a.1)), (2, .int (a.2))] [] 0 0 :=
  kit_ind (body := fX1_countTrueSuccessors_4 σ) (fun a r => (∀ z, r = z → z = o) → kG w p l e rmX1_countTrueSuccessors s m args below meth c (MQ below (kQi w o σ) args s 0 0 (kA w)) 4 σ 4 [(0, .ref (kL w 0)), (1, .int (a.1)), (2, .int (a.2))] [] 0 0) (fun a a2 r hb ih hO => pX1_countTrueSuccessors_4 K hret hb (fun z e => by cases e; exact ih hO) (fun _ e => by cases e)) (fun a r hb hO => pX1_countTrueSuccessors_4 K hret hb (fun _ e => by cases e) (fun z e => hO z (by cases e; rfl))) n a r h hO
set_option maxRecDepth 20000 in
theorem mX1_countTrueSuccessors (l : Launch) (w : kW) (σ : kS) {o : Int32} (h : fX1_countTrueSuccessors σ = some o) : Met l yX1_countTrueSuccessors (Cond.code yX1_countTrueSuccessors cX1_countTrueSuccessors 4 (some .int) :: TB) rmX1_countTrueSuccessors (va_Pc [.ref (kL w 0)] (kP w σ)) (kQi w o σ) 0 0 (kA w) := by
  refine k_met (by decide +kernel) [.ref (kL w 0)] (Nat.le_of_ble_eq_true rfl) (by simp [lv_args, Value.category]) ?_
  intro p e s m args below meth c K hret
  have K : kC w p s m args meth c cX1_countTrueSuccessors 4 RX1 := K
  obtain ⟨r, hro⟩ : ∃ r, r = o := ⟨o, rfl⟩
  rw [← hro] at h
  have hO : ∀ z, r = z → z = o := fun z e => by rw [← e]; exact hro
  unfold fX1_countTrueSuccessors at h
  refine k_iconst (v := 0) K dX1_countTrueSuccessors_0 (by decide) ?_
  refine k_istore_n (lv' := [(1, .int 0), (0, .ref (kL w 0))]) K dX1_countTrueSuccessors_1 (by decide) rfl ?_
  refine k_iconst (v := 0) K dX1_countTrueSuccessors_2 (by decide) ?_
  refine k_istore_n (lv' := [(2, .int 0), (1, .int 0), (0, .ref (kL w 0))]) K dX1_countTrueSuccessors_3 (by decide) rfl ?_
  refine k_sub [2, 1, 0] rfl ?_
  exact lX1_countTrueSuccessors_4 K hret h hO
end F_X1_countTrueSuccessors
section F_X1_knowsLiveOneBeside
variable {w : kW} {p : Program} {l : Launch} {e : Env} {s : State} {m : MethodId} {args : Array Value} {below : List Frame} {meth : Method} {c : Code}
def fX1_knowsLiveOneBeside_41 (c1 : Nat) (c2 : Nat) (x3 : Int32) (σ : kS) : Option ((Int32) ⊕ Int32) :=
  some (.inl (x3 + 1))
def gX1_knowsLiveOneBeside_2 (c1 : Nat) (c2 : Nat) (σ : kS) (x3 : Int32) : Option ((Int32) ⊕ Int32) :=
  if (σ.1 0 7) ≤ x3 then
    some (.inr (0))
  else
    if kd c1 = (0, 0, 8) then
      if vpi x3 4 then
        (fX1_liveAt σ (σ.1 (c1 + 1 + 0) x3.toNatClampNeg)).bind fun r4 =>
        kmn (r4) (
          fX1_knowsLiveOneBeside_41 c1 c2 x3 σ
        ) fun q5 =>
          if okq (some q5) = true ∧ okq (some c1) = true then
            if some q5 = some c1 then
              fX1_knowsLiveOneBeside_41 c1 c2 x3 σ
            else
              if okq (some q5) = true ∧ okq (some c2) = true then
                if some q5 = some c2 then
                  fX1_knowsLiveOneBeside_41 c1 c2 x3 σ
                else
                  some (.inr (1))
              else none
          else none
      else none
    else none
def fX1_knowsLiveOneBeside_2 (c1 : Nat) (c2 : Nat) (σ : kS) (a : Int32) : Option ((Int32) ⊕ Int32) := gX1_knowsLiveOneBeside_2 c1 c2 σ a
def fX1_knowsLiveOneBeside (σ : kS) (c1 : Nat) (c2 : Nat) : Option Int32 :=
  kit (fX1_knowsLiveOneBeside_2 c1 c2 σ) 300 (0)
def rmX1_knowsLiveOneBeside : Room := { frames := 2, cells := 0, slots := 0, locals := 41 }
set_option maxRecDepth 20000 in
theorem pX1_knowsLiveOneBeside_41 (K : kC w p s m args meth c cX1_knowsLiveOneBeside 5 RX1) (hret : meth.sig.returnType = (some .boolean)) {c1 : Nat} {c2 : Nat} {x3 : Int32} {σ : kS} {r : ((Int32) ⊕ Int32)} {o : Int32} (h : fX1_knowsLiveOneBeside_41 c1 c2 x3 σ = some r) (hL2 : ∀ z, r = .inl z → kG w p l e rmX1_knowsLiveOneBeside s m args below meth c (MQ below (kQi w o σ) args s 0 0 (kA w)) 5 σ 2 [(0, .ref (kL w 0)), (1, .ref (kL w c1)), (2, .ref (kL w c2)), (3, .int z)] [] 0 0) (hO : ∀ z, r = .inr z → z = o) : kG w p l e rmX1_knowsLiveOneBeside s m args below meth c (MQ below (kQi w o σ) args s 0 0 (kA w)) 5 σ 41 [(0, .ref (kL w 0)), (1, .ref (kL w c1)), (2, .ref (kL w c2)), (3, .int x3)] [] 0 0 := by
  unfold fX1_knowsLiveOneBeside_41 at h
  refine k_iinc (v := 1) (lv' := [(3, .int (x3 + 1)), (0, .ref (kL w 0)), (1, .ref (kL w c1)), (2, .ref (kL w c2))]) K dX1_knowsLiveOneBeside_41 3 rfl (by decide) (by decide) rfl ?_
  refine k_goto K 2 dX1_knowsLiveOneBeside_44 (by decide) ?_
  refine k_sub [1, 2, 3, 0] rfl ?_
  cases h
  exact hL2 _ rfl
set_option maxRecDepth 20000 in
theorem pX1_knowsLiveOneBeside_2 (K : kC w p s m args meth c cX1_knowsLiveOneBeside 5 RX1) (hret : meth.sig.returnType = (some .boolean)) {c1 : Nat} {c2 : Nat} {σ : kS} {x3 : Int32} {r : ((Int32) ⊕ Int32)} {o : Int32} (h : gX1_knowsLiveOneBeside_2 c1 c2 σ x3 = some r) (hL2 : ∀ z, r = .inl z → kG w p l e rmX1_knowsLiveOneBeside s m args below meth c (MQ below (kQi w o σ) args s 0 0 (kA w)) 5 σ 2 [(0, .ref (kL w 0)), (1, .ref (kL w c1)), (2, .ref (kL w c2)), (3, .int z)] [] 0 0) (hO : ∀ z, r = .inr z → z = o) : kG w p l e rmX1_knowsLiveOneBeside s m args below meth c (MQ below (kQi w o σ) args s 0 0 (kA w)) 5 σ 2 [(0, .ref (kL w 0)), (1, .ref (kL w c1)), (2, .ref (kL w c2)), (3, .int x3)] [] 0 0 := by
  unfold gX1_knowsLiveOneBeside_2 at h
  refine k_iload_n K dX1_knowsLiveOneBeside_2 3 rfl ?_
  refine k_aload_n K dX1_knowsLiveOneBeside_3 0 rfl ?_
  refine fg_X1_30 K dX1_knowsLiveOneBeside_4 ?_
  replace h := k_br h
  rcases h with ⟨b1, h⟩ | ⟨b1, h⟩
  · refine k_icmp_ge K 47 dX1_knowsLiveOneBeside_7 (by decide) (fun _ => ?_) (fun q => absurd b1 q)
    refine k_iconst (v := 0) K dX1_knowsLiveOneBeside_47 (by decide) ?_
    cases h
    obtain rfl := hO _ rfl
    exact k_zret (v := 0) K hret (by decide) dX1_knowsLiveOneBeside_48 (by decide) (by decide)
  · refine k_icmp_ge K 47 dX1_knowsLiveOneBeside_7 (by decide) (fun q => absurd q b1) (fun _ => ?_)
    refine k_aload_n K dX1_knowsLiveOneBeside_10 0 rfl ?_
    refine k_aload_n K dX1_knowsLiveOneBeside_11 1 rfl ?_
    replace h := k_gd h
    obtain ⟨g2, h⟩ := h
    refine fg_X1_68 K dX1_knowsLiveOneBeside_12 g2 ?_
    refine k_iload_n K dX1_knowsLiveOneBeside_15 3 rfl ?_
    replace h := k_gd h
    obtain ⟨g3, h⟩ := h
    refine k_iald K dX1_knowsLiveOneBeside_16 (kd_m0 g2).1 g3 ?_
    replace h := k_bd h
    obtain ⟨r4, hr4, h⟩ := h
    refine cl_X1_204 K dX1_knowsLiveOneBeside_17 hr4 (by decide) (Nat.le_of_ble_eq_true rfl) (by decide) ?_
    refine k_astoreQ (lv' := [(4, va_rf ((r4).map (kL w))), (0, .ref (kL w 0)), (1, .ref (kL w c1)), (2, .ref (kL w c2)), (3, .int x3)]) K dX1_knowsLiveOneBeside_20 (by decide) rfl ?_
    refine k_aloadQ K dX1_knowsLiveOneBeside_22 0 rfl ?_
    replace h := k_mn h
    rcases h with ⟨hq5, h⟩ | ⟨q5, hq5, h⟩
    · subst hq5
      refine k_ifnullN K 41 dX1_knowsLiveOneBeside_24 (by decide) ?_
      refine k_sub [1, 2, 3, 4] rfl ?_
      exact pX1_knowsLiveOneBeside_41 K hret h hL2 hO
    · subst hq5
      refine k_ifnull K dX1_knowsLiveOneBeside_24 ?_
      refine k_aload K dX1_knowsLiveOneBeside_27 0 rfl ?_
      refine k_aload_n K dX1_knowsLiveOneBeside_29 2 rfl ?_
      replace h := k_gd h
      obtain ⟨g7, h⟩ := h
      replace h := k_br h
      rcases h with ⟨b6, h⟩ | ⟨b6, h⟩
      · refine k_acmp_eq (x := some q5) (y := some c1) K 41 dX1_knowsLiveOneBeside_30 (by decide) (okq_s g7.1) (okq_s g7.2) (fun _ => ?_) (fun q => absurd b6 q)
        refine k_sub [1, 2, 3, 4] rfl ?_
        exact pX1_knowsLiveOneBeside_41 K hret h hL2 hO
      · refine k_acmp_eq (x := some q5) (y := some c1) K 41 dX1_knowsLiveOneBeside_30 (by decide) (okq_s g7.1) (okq_s g7.2) (fun q => absurd q b6) (fun _ => ?_)
        refine k_aload K dX1_knowsLiveOneBeside_33 0 rfl ?_
        refine k_aload_n K dX1_knowsLiveOneBeside_35 3 rfl ?_
        replace h := k_gd h
        obtain ⟨g9, h⟩ := h
        replace h := k_br h
        rcases h with ⟨b8, h⟩ | ⟨b8, h⟩
        · refine k_acmp_eq (x := some q5) (y := some c2) K 41 dX1_knowsLiveOneBeside_36 (by decide) (okq_s g9.1) (okq_s g9.2) (fun _ => ?_) (fun q => absurd b8 q)
          refine k_sub [1, 2, 3, 4] rfl ?_
          exact pX1_knowsLiveOneBeside_41 K hret h hL2 hO
        · refine k_acmp_eq (x := some q5) (y := some c2) K 41 dX1_knowsLiveOneBeside_36 (by decide) (okq_s g9.1) (okq_s g9.2) (fun q => absurd q b8) (fun _ => ?_)
          refine k_iconst (v := 1) K dX1_knowsLiveOneBeside_39 (by decide) ?_
          cases h
          obtain rfl := hO _ rfl
          exact k_zret (v := 1) K hret (by decide) dX1_knowsLiveOneBeside_40 (by decide) (by decide)
set_option maxRecDepth 20000 in
theorem lX1_knowsLiveOneBeside_2 (K : kC w p s m args meth c cX1_knowsLiveOneBeside 5 RX1) (hret : meth.sig.returnType = (some .boolean)) {c1 : Nat} {c2 : Nat} {σ : kS} {n : Nat} {a : Int32} {r : Int32} {o : Int32} (h : kit (fX1_knowsLiveOneBeside_2 c1 c2 σ) n a = some r) (hO : ∀ z, r = z → z = o) : kG w p l e rmX1_knowsLiveOneBeside s m args below meth c (MQ below (kQi w o σ) args s 0 0 (kA w)) 5 σ 2 [(0, .ref (kL w 0)), (1, .ref (kL w c1)), (2, .ref (kL w c2)), (3, .int a)] [] 0 0 :=
  kit_ind (body := fX1_knowsLiveOneBeside_2 c1 c2 σ) (fun a r => (∀ z, r = z → z = o) → kG w p l e rmX1_knowsLiveOneBeside s m args below meth c (MQ below (kQi w o σ) args s 0 0 (kA w)) 5 σ 2 [(0, .ref (kL w 0)), (1, .ref (kL w c1)), (2, .ref (kL w c2)), (3, .int a)] [] 0 0) (fun a a2 r hb ih hO => pX1_knowsLiveOneBeside_2 K hret hb (fun z e => by cases e; exact ih hO) (fun _ e => by cases e)) (fun a r hb hO => pX1_knowsLiveOneBeside_2 K hret hb (fun _ e => by cases e) (fun z e => hO z (by cases e; rfl))) n a r h hO
set_option maxRecDepth 20000 in
theorem mX1_knowsLiveOneBeside (l : Launch) (w : kW) (σ : kS) (c1 : Nat) (c2 : Nat) {o : Int32} (h : fX1_knowsLiveOneBeside σ c1 c2 = some o) : Met l yX1_knowsLiveOneBeside (Cond.code yX1_knowsLiveOneBeside cX1_knowsLiveOneBeside 5 (some .boolean) :: TB) rmX1_knowsLiveOneBeside (va_Pc [.ref (kL w 0), .ref (kL w c1), .ref (kL w c2)] (kP w σ)) (kQi w o σ) 0 0 (kA w) := by
  refine k_met (by decide +kernel) [.ref (kL w 0), .ref (kL w c1), .ref (kL w c2)] (Nat.le_of_ble_eq_true rfl) (by simp [lv_args, Value.category]) ?_
  intro p e s m args below meth c K hret
  have K : kC w p s m args meth c cX1_knowsLiveOneBeside 5 RX1 := K
  obtain ⟨r, hro⟩ : ∃ r, r = o := ⟨o, rfl⟩
  rw [← hro] at h
  have hO : ∀ z, r = z → z = o := fun z e => by rw [← e]; exact hro
  unfold fX1_knowsLiveOneBeside at h
  refine k_iconst (v := 0) K dX1_knowsLiveOneBeside_0 (by decide) ?_
  refine k_istore_n (lv' := [(3, .int 0), (0, .ref (kL w 0)), (1, .ref (kL w c1)), (2, .ref (kL w c2))]) K dX1_knowsLiveOneBeside_1 (by decide) rfl ?_
  refine k_sub [1, 2, 3, 0] rfl ?_
  exact lX1_knowsLiveOneBeside_2 K hret h hO
end F_X1_knowsLiveOneBeside
end
