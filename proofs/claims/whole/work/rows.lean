section
-- ===== PART A: goes FIRST, ahead of the names: the tables' words, and 'selects' of the private methods out of them =====
/-- a private method of a class that the tables say can be made, by its rows of tables_1 -/
def lw_okq (q : MethodName × Nat) : Prop := (q.1.cls ≠ "java/lang/invoke/MethodHandle" ∧ q.1.cls ≠ "java/lang/invoke/VarHandle") ∧ Cond.instantiable q.1.cls q.2 ∈ tables_1 ∧ Cond.privateMethod q.1 ∈ tables_1 ∧ Cond.instanceMethod q.1 ∈ tables_1
theorem lw_p0 : lw_okq (⟨"SnapshotRings", "errorOfBegin", "(I)I"⟩, 5) := ⟨⟨by decide +kernel, by decide +kernel⟩, List.mem_of_getElem? (i := 11) (by decide +kernel), List.mem_of_getElem? (i := 200) (by decide +kernel), List.mem_of_getElem? (i := 201) (by decide +kernel)⟩
theorem lw_p1 : lw_okq (⟨"SnapshotRings", "errorOfRead", "(II)I"⟩, 5) := ⟨⟨by decide +kernel, by decide +kernel⟩, List.mem_of_getElem? (i := 11) (by decide +kernel), List.mem_of_getElem? (i := 222) (by decide +kernel), List.mem_of_getElem? (i := 223) (by decide +kernel)⟩
theorem lw_p2 : lw_okq (⟨"SnapshotRings", "errorOfSlot", "(I)I"⟩, 5) := ⟨⟨by decide +kernel, by decide +kernel⟩, List.mem_of_getElem? (i := 11) (by decide +kernel), List.mem_of_getElem? (i := 229) (by decide +kernel), List.mem_of_getElem? (i := 230) (by decide +kernel)⟩
theorem lw_p3 : lw_okq (⟨"SnapshotRings", "errorOfWrite", "(III)I"⟩, 5) := ⟨⟨by decide +kernel, by decide +kernel⟩, List.mem_of_getElem? (i := 11) (by decide +kernel), List.mem_of_getElem? (i := 241) (by decide +kernel), List.mem_of_getElem? (i := 242) (by decide +kernel)⟩
theorem lw_p4 : lw_okq (⟨"SnapshotRings", "finish", "(LSnapshotRings$State;I)I"⟩, 5) := ⟨⟨by decide +kernel, by decide +kernel⟩, List.mem_of_getElem? (i := 11) (by decide +kernel), List.mem_of_getElem? (i := 259) (by decide +kernel), List.mem_of_getElem? (i := 260) (by decide +kernel)⟩
theorem lw_p5 : lw_okq (⟨"SnapshotRings", "reasonToRefuse", "(LSnapshotRings$State;II)I"⟩, 5) := ⟨⟨by decide +kernel, by decide +kernel⟩, List.mem_of_getElem? (i := 11) (by decide +kernel), List.mem_of_getElem? (i := 263) (by decide +kernel), List.mem_of_getElem? (i := 264) (by decide +kernel)⟩
theorem lw_p6 : lw_okq (⟨"SnapshotRings$Graph", "setNode", "(III)V"⟩, 10) := ⟨⟨by decide +kernel, by decide +kernel⟩, List.mem_of_getElem? (i := 100) (by decide +kernel), List.mem_of_getElem? (i := 284) (by decide +kernel), List.mem_of_getElem? (i := 285) (by decide +kernel)⟩
theorem lw_p7 : lw_okq (⟨"SnapshotRings$Graph", "link", "(LSnapshotRings$State;II)V"⟩, 10) := ⟨⟨by decide +kernel, by decide +kernel⟩, List.mem_of_getElem? (i := 100) (by decide +kernel), List.mem_of_getElem? (i := 288) (by decide +kernel), List.mem_of_getElem? (i := 289) (by decide +kernel)⟩
theorem lw_p8 : lw_okq (⟨"SnapshotRings$Graph", "countSteps", "(I)V"⟩, 10) := ⟨⟨by decide +kernel, by decide +kernel⟩, List.mem_of_getElem? (i := 100) (by decide +kernel), List.mem_of_getElem? (i := 304) (by decide +kernel), List.mem_of_getElem? (i := 305) (by decide +kernel)⟩
theorem lw_p9 : lw_okq (⟨"SnapshotRings$Graph", "lowestBehind", "(II)I"⟩, 10) := ⟨⟨by decide +kernel, by decide +kernel⟩, List.mem_of_getElem? (i := 100) (by decide +kernel), List.mem_of_getElem? (i := 310) (by decide +kernel), List.mem_of_getElem? (i := 311) (by decide +kernel)⟩
theorem lw_p10 : lw_okq (⟨"SnapshotRings$Graph", "tell", "(I)V"⟩, 10) := ⟨⟨by decide +kernel, by decide +kernel⟩, List.mem_of_getElem? (i := 100) (by decide +kernel), List.mem_of_getElem? (i := 314) (by decide +kernel), List.mem_of_getElem? (i := 315) (by decide +kernel)⟩
theorem lw_p11 : lw_okq (⟨"SnapshotRings$State", "free", "(I)V"⟩, 14) := ⟨⟨by decide +kernel, by decide +kernel⟩, List.mem_of_getElem? (i := 19) (by decide +kernel), List.mem_of_getElem? (i := 326) (by decide +kernel), List.mem_of_getElem? (i := 327) (by decide +kernel)⟩
theorem lw_p12 : lw_okq (⟨"SnapshotRings$Graph", "lowestPossible", "(I)I"⟩, 10) := ⟨⟨by decide +kernel, by decide +kernel⟩, List.mem_of_getElem? (i := 100) (by decide +kernel), List.mem_of_getElem? (i := 403) (by decide +kernel), List.mem_of_getElem? (i := 404) (by decide +kernel)⟩
theorem lw_p13 : lw_okq (⟨"SnapshotRings", "carryOutStep", "(I)Z"⟩, 5) := ⟨⟨by decide +kernel, by decide +kernel⟩, List.mem_of_getElem? (i := 11) (by decide +kernel), List.mem_of_getElem? (i := 479) (by decide +kernel), List.mem_of_getElem? (i := 480) (by decide +kernel)⟩
theorem lw_p14 : lw_okq (⟨"SnapshotRings", "carryOutAccess", "(ICI)Z"⟩, 5) := ⟨⟨by decide +kernel, by decide +kernel⟩, List.mem_of_getElem? (i := 11) (by decide +kernel), List.mem_of_getElem? (i := 488) (by decide +kernel), List.mem_of_getElem? (i := 489) (by decide +kernel)⟩
theorem lw_p15 : lw_okq (⟨"SnapshotRings", "withOpenTransactions", "(J)J"⟩, 5) := ⟨⟨by decide +kernel, by decide +kernel⟩, List.mem_of_getElem? (i := 11) (by decide +kernel), List.mem_of_getElem? (i := 522) (by decide +kernel), List.mem_of_getElem? (i := 523) (by decide +kernel)⟩
def lw_privs_1 : List (MethodName × Nat) := [(⟨"SnapshotRings", "errorOfBegin", "(I)I"⟩, 5), (⟨"SnapshotRings", "errorOfRead", "(II)I"⟩, 5), (⟨"SnapshotRings", "errorOfSlot", "(I)I"⟩, 5), (⟨"SnapshotRings", "errorOfWrite", "(III)I"⟩, 5), (⟨"SnapshotRings", "finish", "(LSnapshotRings$State;I)I"⟩, 5), (⟨"SnapshotRings", "reasonToRefuse", "(LSnapshotRings$State;II)I"⟩, 5), (⟨"SnapshotRings$Graph", "setNode", "(III)V"⟩, 10), (⟨"SnapshotRings$Graph", "link", "(LSnapshotRings$State;II)V"⟩, 10), (⟨"SnapshotRings$Graph", "countSteps", "(I)V"⟩, 10), (⟨"SnapshotRings$Graph", "lowestBehind", "(II)I"⟩, 10), (⟨"SnapshotRings$Graph", "tell", "(I)V"⟩, 10), (⟨"SnapshotRings$State", "free", "(I)V"⟩, 14), (⟨"SnapshotRings$Graph", "lowestPossible", "(I)I"⟩, 10), (⟨"SnapshotRings", "carryOutStep", "(I)Z"⟩, 5), (⟨"SnapshotRings", "carryOutAccess", "(ICI)Z"⟩, 5), (⟨"SnapshotRings", "withOpenTransactions", "(J)J"⟩, 5)]
theorem lw_r1 : ∀ q ∈ lw_privs_1, lw_okq q := List.forall_mem_cons.mpr ⟨lw_p0, List.forall_mem_cons.mpr ⟨lw_p1, List.forall_mem_cons.mpr ⟨lw_p2, List.forall_mem_cons.mpr ⟨lw_p3, List.forall_mem_cons.mpr ⟨lw_p4, List.forall_mem_cons.mpr ⟨lw_p5, List.forall_mem_cons.mpr ⟨lw_p6, List.forall_mem_cons.mpr ⟨lw_p7, List.forall_mem_cons.mpr ⟨lw_p8, List.forall_mem_cons.mpr ⟨lw_p9, List.forall_mem_cons.mpr ⟨lw_p10, List.forall_mem_cons.mpr ⟨lw_p11, List.forall_mem_cons.mpr ⟨lw_p12, List.forall_mem_cons.mpr ⟨lw_p13, List.forall_mem_cons.mpr ⟨lw_p14, List.forall_mem_cons.mpr ⟨lw_p15, fun _ h => absurd h List.not_mem_nil⟩⟩⟩⟩⟩⟩⟩⟩⟩⟩⟩⟩⟩⟩⟩⟩
theorem lw_p16 : lw_okq (⟨"SnapshotRings", "withKeptCommits", "(J)J"⟩, 5) := ⟨⟨by decide +kernel, by decide +kernel⟩, List.mem_of_getElem? (i := 11) (by decide +kernel), List.mem_of_getElem? (i := 528) (by decide +kernel), List.mem_of_getElem? (i := 529) (by decide +kernel)⟩
theorem lw_p17 : lw_okq (⟨"SnapshotRings", "withGraph", "(J)J"⟩, 5) := ⟨⟨by decide +kernel, by decide +kernel⟩, List.mem_of_getElem? (i := 11) (by decide +kernel), List.mem_of_getElem? (i := 533) (by decide +kernel), List.mem_of_getElem? (i := 534) (by decide +kernel)⟩
theorem lw_p18 : lw_okq (⟨"SnapshotRingsModel", "whyNotBegun", "(I)I"⟩, 16) := ⟨⟨by decide +kernel, by decide +kernel⟩, List.mem_of_getElem? (i := 538) (by decide +kernel), List.mem_of_getElem? (i := 597) (by decide +kernel), List.mem_of_getElem? (i := 598) (by decide +kernel)⟩
theorem lw_p19 : lw_okq (⟨"SnapshotRingsModel", "isOpen", "(I)Z"⟩, 16) := ⟨⟨by decide +kernel, by decide +kernel⟩, List.mem_of_getElem? (i := 538) (by decide +kernel), List.mem_of_getElem? (i := 607) (by decide +kernel), List.mem_of_getElem? (i := 608) (by decide +kernel)⟩
theorem lw_p20 : lw_okq (⟨"SnapshotRingsModel", "slotPart", "(II)I"⟩, 16) := ⟨⟨by decide +kernel, by decide +kernel⟩, List.mem_of_getElem? (i := 538) (by decide +kernel), List.mem_of_getElem? (i := 611) (by decide +kernel), List.mem_of_getElem? (i := 612) (by decide +kernel)⟩
theorem lw_p21 : lw_okq (⟨"SnapshotRingsModel", "record", "()V"⟩, 16) := ⟨⟨by decide +kernel, by decide +kernel⟩, List.mem_of_getElem? (i := 538) (by decide +kernel), List.mem_of_getElem? (i := 615) (by decide +kernel), List.mem_of_getElem? (i := 616) (by decide +kernel)⟩
theorem lw_p22 : lw_okq (⟨"SnapshotRingsModel", "begins", "(I)I"⟩, 16) := ⟨⟨by decide +kernel, by decide +kernel⟩, List.mem_of_getElem? (i := 538) (by decide +kernel), List.mem_of_getElem? (i := 622) (by decide +kernel), List.mem_of_getElem? (i := 623) (by decide +kernel)⟩
theorem lw_p23 : lw_okq (⟨"SnapshotRingsModel", "frees", "(I)V"⟩, 16) := ⟨⟨by decide +kernel, by decide +kernel⟩, List.mem_of_getElem? (i := 538) (by decide +kernel), List.mem_of_getElem? (i := 626) (by decide +kernel), List.mem_of_getElem? (i := 627) (by decide +kernel)⟩
theorem lw_p24 : lw_okq (⟨"SnapshotRingsModel", "setSlot", "(III)V"⟩, 16) := ⟨⟨by decide +kernel, by decide +kernel⟩, List.mem_of_getElem? (i := 538) (by decide +kernel), List.mem_of_getElem? (i := 630) (by decide +kernel), List.mem_of_getElem? (i := 631) (by decide +kernel)⟩
theorem lw_p25 : lw_okq (⟨"SnapshotRingsModel", "whyNotRead", "(II)I"⟩, 16) := ⟨⟨by decide +kernel, by decide +kernel⟩, List.mem_of_getElem? (i := 538) (by decide +kernel), List.mem_of_getElem? (i := 638) (by decide +kernel), List.mem_of_getElem? (i := 639) (by decide +kernel)⟩
theorem lw_p26 : lw_okq (⟨"SnapshotRingsModel", "reads", "(II)I"⟩, 16) := ⟨⟨by decide +kernel, by decide +kernel⟩, List.mem_of_getElem? (i := 538) (by decide +kernel), List.mem_of_getElem? (i := 645) (by decide +kernel), List.mem_of_getElem? (i := 646) (by decide +kernel)⟩
theorem lw_p27 : lw_okq (⟨"SnapshotRingsModel", "whyNotWritten", "(III)I"⟩, 16) := ⟨⟨by decide +kernel, by decide +kernel⟩, List.mem_of_getElem? (i := 538) (by decide +kernel), List.mem_of_getElem? (i := 653) (by decide +kernel), List.mem_of_getElem? (i := 654) (by decide +kernel)⟩
theorem lw_p28 : lw_okq (⟨"SnapshotRingsModel", "writes", "(III)I"⟩, 16) := ⟨⟨by decide +kernel, by decide +kernel⟩, List.mem_of_getElem? (i := 538) (by decide +kernel), List.mem_of_getElem? (i := 657) (by decide +kernel), List.mem_of_getElem? (i := 658) (by decide +kernel)⟩
theorem lw_p29 : lw_okq (⟨"SnapshotRingsModel", "whyNotOpen", "(I)I"⟩, 16) := ⟨⟨by decide +kernel, by decide +kernel⟩, List.mem_of_getElem? (i := 538) (by decide +kernel), List.mem_of_getElem? (i := 668) (by decide +kernel), List.mem_of_getElem? (i := 669) (by decide +kernel)⟩
theorem lw_p30 : lw_okq (⟨"SnapshotRingsModel", "commits", "(I)I"⟩, 16) := ⟨⟨by decide +kernel, by decide +kernel⟩, List.mem_of_getElem? (i := 538) (by decide +kernel), List.mem_of_getElem? (i := 672) (by decide +kernel), List.mem_of_getElem? (i := 673) (by decide +kernel)⟩
theorem lw_p31 : lw_okq (⟨"SnapshotRingsModel", "whyRefused", "(II)I"⟩, 16) := ⟨⟨by decide +kernel, by decide +kernel⟩, List.mem_of_getElem? (i := 538) (by decide +kernel), List.mem_of_getElem? (i := 676) (by decide +kernel), List.mem_of_getElem? (i := 677) (by decide +kernel)⟩
def lw_privs_2 : List (MethodName × Nat) := [(⟨"SnapshotRings", "withKeptCommits", "(J)J"⟩, 5), (⟨"SnapshotRings", "withGraph", "(J)J"⟩, 5), (⟨"SnapshotRingsModel", "whyNotBegun", "(I)I"⟩, 16), (⟨"SnapshotRingsModel", "isOpen", "(I)Z"⟩, 16), (⟨"SnapshotRingsModel", "slotPart", "(II)I"⟩, 16), (⟨"SnapshotRingsModel", "record", "()V"⟩, 16), (⟨"SnapshotRingsModel", "begins", "(I)I"⟩, 16), (⟨"SnapshotRingsModel", "frees", "(I)V"⟩, 16), (⟨"SnapshotRingsModel", "setSlot", "(III)V"⟩, 16), (⟨"SnapshotRingsModel", "whyNotRead", "(II)I"⟩, 16), (⟨"SnapshotRingsModel", "reads", "(II)I"⟩, 16), (⟨"SnapshotRingsModel", "whyNotWritten", "(III)I"⟩, 16), (⟨"SnapshotRingsModel", "writes", "(III)I"⟩, 16), (⟨"SnapshotRingsModel", "whyNotOpen", "(I)I"⟩, 16), (⟨"SnapshotRingsModel", "commits", "(I)I"⟩, 16), (⟨"SnapshotRingsModel", "whyRefused", "(II)I"⟩, 16)]
theorem lw_r2 : ∀ q ∈ lw_privs_2, lw_okq q := List.forall_mem_cons.mpr ⟨lw_p16, List.forall_mem_cons.mpr ⟨lw_p17, List.forall_mem_cons.mpr ⟨lw_p18, List.forall_mem_cons.mpr ⟨lw_p19, List.forall_mem_cons.mpr ⟨lw_p20, List.forall_mem_cons.mpr ⟨lw_p21, List.forall_mem_cons.mpr ⟨lw_p22, List.forall_mem_cons.mpr ⟨lw_p23, List.forall_mem_cons.mpr ⟨lw_p24, List.forall_mem_cons.mpr ⟨lw_p25, List.forall_mem_cons.mpr ⟨lw_p26, List.forall_mem_cons.mpr ⟨lw_p27, List.forall_mem_cons.mpr ⟨lw_p28, List.forall_mem_cons.mpr ⟨lw_p29, List.forall_mem_cons.mpr ⟨lw_p30, List.forall_mem_cons.mpr ⟨lw_p31, fun _ h => absurd h List.not_mem_nil⟩⟩⟩⟩⟩⟩⟩⟩⟩⟩⟩⟩⟩⟩⟩⟩
theorem lw_p32 : lw_okq (⟨"SnapshotRingsModel", "isOverwritten", "(I)Z"⟩, 16) := ⟨⟨by decide +kernel, by decide +kernel⟩, List.mem_of_getElem? (i := 538) (by decide +kernel), List.mem_of_getElem? (i := 680) (by decide +kernel), List.mem_of_getElem? (i := 681) (by decide +kernel)⟩
theorem lw_p33 : lw_okq (⟨"SnapshotRingsModel", "hasRing", "(I)Z"⟩, 16) := ⟨⟨by decide +kernel, by decide +kernel⟩, List.mem_of_getElem? (i := 538) (by decide +kernel), List.mem_of_getElem? (i := 684) (by decide +kernel), List.mem_of_getElem? (i := 685) (by decide +kernel)⟩
theorem lw_p34 : lw_okq (⟨"SnapshotRingsModel", "findBehind", "(I)V"⟩, 16) := ⟨⟨by decide +kernel, by decide +kernel⟩, List.mem_of_getElem? (i := 538) (by decide +kernel), List.mem_of_getElem? (i := 688) (by decide +kernel), List.mem_of_getElem? (i := 689) (by decide +kernel)⟩
theorem lw_p35 : lw_okq (⟨"SnapshotRingsModel", "isNode", "(I)Z"⟩, 16) := ⟨⟨by decide +kernel, by decide +kernel⟩, List.mem_of_getElem? (i := 538) (by decide +kernel), List.mem_of_getElem? (i := 692) (by decide +kernel), List.mem_of_getElem? (i := 693) (by decide +kernel)⟩
theorem lw_p36 : lw_okq (⟨"SnapshotRingsModel", "keptMany", "()I"⟩, 16) := ⟨⟨by decide +kernel, by decide +kernel⟩, List.mem_of_getElem? (i := 538) (by decide +kernel), List.mem_of_getElem? (i := 696) (by decide +kernel), List.mem_of_getElem? (i := 697) (by decide +kernel)⟩
theorem lw_p37 : lw_okq (⟨"SnapshotRingsModel", "dependencyOf", "(II)I"⟩, 16) := ⟨⟨by decide +kernel, by decide +kernel⟩, List.mem_of_getElem? (i := 538) (by decide +kernel), List.mem_of_getElem? (i := 700) (by decide +kernel), List.mem_of_getElem? (i := 701) (by decide +kernel)⟩
theorem lw_p38 : lw_okq (⟨"SnapshotRingsModel", "placeOf", "(I)I"⟩, 16) := ⟨⟨by decide +kernel, by decide +kernel⟩, List.mem_of_getElem? (i := 538) (by decide +kernel), List.mem_of_getElem? (i := 704) (by decide +kernel), List.mem_of_getElem? (i := 705) (by decide +kernel)⟩
theorem lw_p39 : lw_okq (⟨"SnapshotRingsModel", "numberOf", "(I)I"⟩, 16) := ⟨⟨by decide +kernel, by decide +kernel⟩, List.mem_of_getElem? (i := 538) (by decide +kernel), List.mem_of_getElem? (i := 708) (by decide +kernel), List.mem_of_getElem? (i := 709) (by decide +kernel)⟩
theorem lw_p40 : lw_okq (⟨"SnapshotRingsModel", "firstKept", "()I"⟩, 16) := ⟨⟨by decide +kernel, by decide +kernel⟩, List.mem_of_getElem? (i := 538) (by decide +kernel), List.mem_of_getElem? (i := 712) (by decide +kernel), List.mem_of_getElem? (i := 713) (by decide +kernel)⟩
theorem lw_p41 : lw_okq (⟨"SnapshotRingsModel", "findFar", "(I)V"⟩, 16) := ⟨⟨by decide +kernel, by decide +kernel⟩, List.mem_of_getElem? (i := 538) (by decide +kernel), List.mem_of_getElem? (i := 719) (by decide +kernel), List.mem_of_getElem? (i := 720) (by decide +kernel)⟩
theorem lw_p42 : lw_okq (⟨"SnapshotRingsModel", "nextNode", "(I)I"⟩, 16) := ⟨⟨by decide +kernel, by decide +kernel⟩, List.mem_of_getElem? (i := 538) (by decide +kernel), List.mem_of_getElem? (i := 723) (by decide +kernel), List.mem_of_getElem? (i := 724) (by decide +kernel)⟩
theorem lw_p43 : lw_okq (⟨"SnapshotRingsModel", "isPivot", "(I)Z"⟩, 16) := ⟨⟨by decide +kernel, by decide +kernel⟩, List.mem_of_getElem? (i := 538) (by decide +kernel), List.mem_of_getElem? (i := 727) (by decide +kernel), List.mem_of_getElem? (i := 728) (by decide +kernel)⟩
theorem lw_p44 : lw_okq (⟨"SnapshotRingsModel", "aborts", "(I)I"⟩, 16) := ⟨⟨by decide +kernel, by decide +kernel⟩, List.mem_of_getElem? (i := 538) (by decide +kernel), List.mem_of_getElem? (i := 735) (by decide +kernel), List.mem_of_getElem? (i := 736) (by decide +kernel)⟩
theorem lw_p45 : lw_okq (⟨"SnapshotRingsModel", "countOf", "(I)I"⟩, 16) := ⟨⟨by decide +kernel, by decide +kernel⟩, List.mem_of_getElem? (i := 538) (by decide +kernel), List.mem_of_getElem? (i := 754) (by decide +kernel), List.mem_of_getElem? (i := 755) (by decide +kernel)⟩
theorem lw_p46 : lw_okq (⟨"SnapshotRingsModel", "openMany", "()I"⟩, 16) := ⟨⟨by decide +kernel, by decide +kernel⟩, List.mem_of_getElem? (i := 538) (by decide +kernel), List.mem_of_getElem? (i := 758) (by decide +kernel), List.mem_of_getElem? (i := 759) (by decide +kernel)⟩
theorem lw_p47 : lw_okq (⟨"SnapshotRingsModel", "ofSlot", "(II)I"⟩, 16) := ⟨⟨by decide +kernel, by decide +kernel⟩, List.mem_of_getElem? (i := 538) (by decide +kernel), List.mem_of_getElem? (i := 774) (by decide +kernel), List.mem_of_getElem? (i := 775) (by decide +kernel)⟩
def lw_privs_3 : List (MethodName × Nat) := [(⟨"SnapshotRingsModel", "isOverwritten", "(I)Z"⟩, 16), (⟨"SnapshotRingsModel", "hasRing", "(I)Z"⟩, 16), (⟨"SnapshotRingsModel", "findBehind", "(I)V"⟩, 16), (⟨"SnapshotRingsModel", "isNode", "(I)Z"⟩, 16), (⟨"SnapshotRingsModel", "keptMany", "()I"⟩, 16), (⟨"SnapshotRingsModel", "dependencyOf", "(II)I"⟩, 16), (⟨"SnapshotRingsModel", "placeOf", "(I)I"⟩, 16), (⟨"SnapshotRingsModel", "numberOf", "(I)I"⟩, 16), (⟨"SnapshotRingsModel", "firstKept", "()I"⟩, 16), (⟨"SnapshotRingsModel", "findFar", "(I)V"⟩, 16), (⟨"SnapshotRingsModel", "nextNode", "(I)I"⟩, 16), (⟨"SnapshotRingsModel", "isPivot", "(I)Z"⟩, 16), (⟨"SnapshotRingsModel", "aborts", "(I)I"⟩, 16), (⟨"SnapshotRingsModel", "countOf", "(I)I"⟩, 16), (⟨"SnapshotRingsModel", "openMany", "()I"⟩, 16), (⟨"SnapshotRingsModel", "ofSlot", "(II)I"⟩, 16)]
theorem lw_r3 : ∀ q ∈ lw_privs_3, lw_okq q := List.forall_mem_cons.mpr ⟨lw_p32, List.forall_mem_cons.mpr ⟨lw_p33, List.forall_mem_cons.mpr ⟨lw_p34, List.forall_mem_cons.mpr ⟨lw_p35, List.forall_mem_cons.mpr ⟨lw_p36, List.forall_mem_cons.mpr ⟨lw_p37, List.forall_mem_cons.mpr ⟨lw_p38, List.forall_mem_cons.mpr ⟨lw_p39, List.forall_mem_cons.mpr ⟨lw_p40, List.forall_mem_cons.mpr ⟨lw_p41, List.forall_mem_cons.mpr ⟨lw_p42, List.forall_mem_cons.mpr ⟨lw_p43, List.forall_mem_cons.mpr ⟨lw_p44, List.forall_mem_cons.mpr ⟨lw_p45, List.forall_mem_cons.mpr ⟨lw_p46, List.forall_mem_cons.mpr ⟨lw_p47, fun _ h => absurd h List.not_mem_nil⟩⟩⟩⟩⟩⟩⟩⟩⟩⟩⟩⟩⟩⟩⟩⟩
theorem lw_p48 : lw_okq (⟨"SnapshotRingsModel", "isKept", "(I)Z"⟩, 16) := ⟨⟨by decide +kernel, by decide +kernel⟩, List.mem_of_getElem? (i := 538) (by decide +kernel), List.mem_of_getElem? (i := 782) (by decide +kernel), List.mem_of_getElem? (i := 783) (by decide +kernel)⟩
theorem lw_p49 : lw_okq (⟨"SnapshotRingsModel", "ringsMany", "()I"⟩, 16) := ⟨⟨by decide +kernel, by decide +kernel⟩, List.mem_of_getElem? (i := 538) (by decide +kernel), List.mem_of_getElem? (i := 798) (by decide +kernel), List.mem_of_getElem? (i := 799) (by decide +kernel)⟩
theorem lw_p50 : lw_okq (⟨"SnapshotRingsModel", "findCommits", "(I)V"⟩, 16) := ⟨⟨by decide +kernel, by decide +kernel⟩, List.mem_of_getElem? (i := 538) (by decide +kernel), List.mem_of_getElem? (i := 802) (by decide +kernel), List.mem_of_getElem? (i := 803) (by decide +kernel)⟩
theorem lw_p51 : lw_okq (⟨"SnapshotRingsModel", "findOrder", "()V"⟩, 16) := ⟨⟨by decide +kernel, by decide +kernel⟩, List.mem_of_getElem? (i := 538) (by decide +kernel), List.mem_of_getElem? (i := 810) (by decide +kernel), List.mem_of_getElem? (i := 811) (by decide +kernel)⟩
theorem lw_p52 : lw_okq (⟨"SnapshotRingsModel", "orderOf", "(I)I"⟩, 16) := ⟨⟨by decide +kernel, by decide +kernel⟩, List.mem_of_getElem? (i := 538) (by decide +kernel), List.mem_of_getElem? (i := 814) (by decide +kernel), List.mem_of_getElem? (i := 815) (by decide +kernel)⟩
theorem lw_p53 : lw_okq (⟨"SnapshotRingsModel", "isHeld", "(I)I"⟩, 16) := ⟨⟨by decide +kernel, by decide +kernel⟩, List.mem_of_getElem? (i := 538) (by decide +kernel), List.mem_of_getElem? (i := 826) (by decide +kernel), List.mem_of_getElem? (i := 827) (by decide +kernel)⟩
theorem lw_p54 : lw_okq (⟨"SnapshotRingsModel", "isHeldFor", "(II)I"⟩, 16) := ⟨⟨by decide +kernel, by decide +kernel⟩, List.mem_of_getElem? (i := 538) (by decide +kernel), List.mem_of_getElem? (i := 834) (by decide +kernel), List.mem_of_getElem? (i := 835) (by decide +kernel)⟩
theorem lw_p55 : lw_okq (⟨"SnapshotRingsModel", "findError", "()I"⟩, 16) := ⟨⟨by decide +kernel, by decide +kernel⟩, List.mem_of_getElem? (i := 538) (by decide +kernel), List.mem_of_getElem? (i := 858) (by decide +kernel), List.mem_of_getElem? (i := 859) (by decide +kernel)⟩
theorem lw_p56 : lw_okq (⟨"SnapshotRingsModel", "readsStep", "()Z"⟩, 16) := ⟨⟨by decide +kernel, by decide +kernel⟩, List.mem_of_getElem? (i := 538) (by decide +kernel), List.mem_of_getElem? (i := 862) (by decide +kernel), List.mem_of_getElem? (i := 863) (by decide +kernel)⟩
theorem lw_p57 : lw_okq (⟨"SnapshotRingsModel", "character", "(I)I"⟩, 16) := ⟨⟨by decide +kernel, by decide +kernel⟩, List.mem_of_getElem? (i := 538) (by decide +kernel), List.mem_of_getElem? (i := 866) (by decide +kernel), List.mem_of_getElem? (i := 867) (by decide +kernel)⟩
theorem lw_p58 : lw_okq (⟨"SnapshotRingsModel", "readsSlot", "()Z"⟩, 16) := ⟨⟨by decide +kernel, by decide +kernel⟩, List.mem_of_getElem? (i := 538) (by decide +kernel), List.mem_of_getElem? (i := 870) (by decide +kernel), List.mem_of_getElem? (i := 871) (by decide +kernel)⟩
theorem lw_p59 : lw_okq (⟨"SnapshotRingsModel", "readsKey", "()Z"⟩, 16) := ⟨⟨by decide +kernel, by decide +kernel⟩, List.mem_of_getElem? (i := 538) (by decide +kernel), List.mem_of_getElem? (i := 874) (by decide +kernel), List.mem_of_getElem? (i := 875) (by decide +kernel)⟩
theorem lw_p60 : lw_okq (⟨"SnapshotRingsModel", "isNext", "(I)Z"⟩, 16) := ⟨⟨by decide +kernel, by decide +kernel⟩, List.mem_of_getElem? (i := 538) (by decide +kernel), List.mem_of_getElem? (i := 878) (by decide +kernel), List.mem_of_getElem? (i := 879) (by decide +kernel)⟩
theorem lw_p61 : lw_okq (⟨"SnapshotRingsModel", "readsValue", "()Z"⟩, 16) := ⟨⟨by decide +kernel, by decide +kernel⟩, List.mem_of_getElem? (i := 538) (by decide +kernel), List.mem_of_getElem? (i := 882) (by decide +kernel), List.mem_of_getElem? (i := 883) (by decide +kernel)⟩
theorem lw_p62 : lw_okq (⟨"SnapshotRingsModel", "whyNotDone", "()I"⟩, 16) := ⟨⟨by decide +kernel, by decide +kernel⟩, List.mem_of_getElem? (i := 538) (by decide +kernel), List.mem_of_getElem? (i := 890) (by decide +kernel), List.mem_of_getElem? (i := 891) (by decide +kernel)⟩
theorem lw_p63 : lw_okq (⟨"SnapshotRingsModel", "does", "()V"⟩, 16) := ⟨⟨by decide +kernel, by decide +kernel⟩, List.mem_of_getElem? (i := 538) (by decide +kernel), List.mem_of_getElem? (i := 894) (by decide +kernel), List.mem_of_getElem? (i := 895) (by decide +kernel)⟩
def lw_privs_4 : List (MethodName × Nat) := [(⟨"SnapshotRingsModel", "isKept", "(I)Z"⟩, 16), (⟨"SnapshotRingsModel", "ringsMany", "()I"⟩, 16), (⟨"SnapshotRingsModel", "findCommits", "(I)V"⟩, 16), (⟨"SnapshotRingsModel", "findOrder", "()V"⟩, 16), (⟨"SnapshotRingsModel", "orderOf", "(I)I"⟩, 16), (⟨"SnapshotRingsModel", "isHeld", "(I)I"⟩, 16), (⟨"SnapshotRingsModel", "isHeldFor", "(II)I"⟩, 16), (⟨"SnapshotRingsModel", "findError", "()I"⟩, 16), (⟨"SnapshotRingsModel", "readsStep", "()Z"⟩, 16), (⟨"SnapshotRingsModel", "character", "(I)I"⟩, 16), (⟨"SnapshotRingsModel", "readsSlot", "()Z"⟩, 16), (⟨"SnapshotRingsModel", "readsKey", "()Z"⟩, 16), (⟨"SnapshotRingsModel", "isNext", "(I)Z"⟩, 16), (⟨"SnapshotRingsModel", "readsValue", "()Z"⟩, 16), (⟨"SnapshotRingsModel", "whyNotDone", "()I"⟩, 16), (⟨"SnapshotRingsModel", "does", "()V"⟩, 16)]
theorem lw_r4 : ∀ q ∈ lw_privs_4, lw_okq q := List.forall_mem_cons.mpr ⟨lw_p48, List.forall_mem_cons.mpr ⟨lw_p49, List.forall_mem_cons.mpr ⟨lw_p50, List.forall_mem_cons.mpr ⟨lw_p51, List.forall_mem_cons.mpr ⟨lw_p52, List.forall_mem_cons.mpr ⟨lw_p53, List.forall_mem_cons.mpr ⟨lw_p54, List.forall_mem_cons.mpr ⟨lw_p55, List.forall_mem_cons.mpr ⟨lw_p56, List.forall_mem_cons.mpr ⟨lw_p57, List.forall_mem_cons.mpr ⟨lw_p58, List.forall_mem_cons.mpr ⟨lw_p59, List.forall_mem_cons.mpr ⟨lw_p60, List.forall_mem_cons.mpr ⟨lw_p61, List.forall_mem_cons.mpr ⟨lw_p62, List.forall_mem_cons.mpr ⟨lw_p63, fun _ h => absurd h List.not_mem_nil⟩⟩⟩⟩⟩⟩⟩⟩⟩⟩⟩⟩⟩⟩⟩⟩
def lw_privs : List (MethodName × Nat) := lw_privs_1 ++ (lw_privs_2 ++ (lw_privs_3 ++ (lw_privs_4)))
def lw_tbl : List Cond := k2_sels lw_privs ++ tables_1
theorem lw_privs_ok : ∀ q ∈ lw_privs, lw_okq q := by
  show ∀ q ∈ lw_privs_1 ++ (lw_privs_2 ++ (lw_privs_3 ++ (lw_privs_4))), lw_okq q
  exact List.forall_mem_append.mpr ⟨lw_r1, List.forall_mem_append.mpr ⟨lw_r2, List.forall_mem_append.mpr ⟨lw_r3, lw_r4⟩⟩⟩

/-- the words of the tables that move with a call -/
def sn_TB : List Jvm.Cond := lw_tbl.filter goodWord
theorem sn_tb {w : Jvm.Cond} (ix : Nat) (h : lw_tbl[ix]? = some w) (g : goodWord w = true) : w ∈ sn_TB := List.mem_filter.mpr ⟨List.mem_of_getElem? h, g⟩
end
section
/-! ===== THE TABLES: classes, methods, code, links; printed by wip/gen/tables.py ===== -/
def sn_nth {α : Type} : List α → Nat → Option α
  | [], _ => none
  | a :: _, 0 => some a
  | _ :: l, n + 1 => sn_nth l n
def sn_oNl : List String := ["SnapshotRings", "SnapshotRings$State", "SnapshotRings$History", "SnapshotRings$Graph", "SnapshotRings$Schedule", "SnapshotRingsModel", "SnapshotRingsLaw", "java/lang/Object", "java/lang/Integer", "java/lang/Math"]
def sn_oN (o : Nat) : String := (sn_nth sn_oNl o).getD ""
def sn_T0 : u_T := fun k => match k with
  | 0 => ("SnapshotRings", "state", "LSnapshotRings$State;", true)
  | 1 => ("SnapshotRings", "forecast", "LSnapshotRings$State;", true)
  | 2 => ("SnapshotRings", "history", "LSnapshotRings$History;", true)
  | 3 => ("SnapshotRings", "graph", "LSnapshotRings$Graph;", true)
  | _ => ("SnapshotRings", "schedule", "LSnapshotRings$Schedule;", true)
def sn_ty0 : Nat → FieldType := fun k => match k with
  | 0 => .object "SnapshotRings$State"
  | 1 => .object "SnapshotRings$State"
  | 2 => .object "SnapshotRings$History"
  | 3 => .object "SnapshotRings$Graph"
  | _ => .object "SnapshotRings$Schedule"
def sn_T1 : u_T := fun k => match k with
  | 0 => ("SnapshotRings$State", "policy", "I", false)
  | 1 => ("SnapshotRings$State", "commits", "I", false)
  | 2 => ("SnapshotRings$State", "aborts", "I", false)
  | 3 => ("SnapshotRings$State", "openSlots", "I", false)
  | 4 => ("SnapshotRings$State", "refusals", "[I", true)
  | 5 => ("SnapshotRings$State", "summedKeys", "[I", true)
  | 6 => ("SnapshotRings$State", "leastSums", "[I", true)
  | 7 => ("SnapshotRings$State", "values", "[I", true)
  | 8 => ("SnapshotRings$State", "versions", "[I", true)
  | 9 => ("SnapshotRings$State", "snapshots", "[I", true)
  | 10 => ("SnapshotRings$State", "readKeys", "[I", true)
  | 11 => ("SnapshotRings$State", "writtenKeys", "[I", true)
  | 12 => ("SnapshotRings$State", "seenVersions", "[I", true)
  | _ => ("SnapshotRings$State", "seenValues", "[I", true)
def sn_ty1 : Nat → FieldType := fun k => match k with
  | 0 => .int
  | 1 => .int
  | 2 => .int
  | 3 => .int
  | 4 => .array .int
  | 5 => .array .int
  | 6 => .array .int
  | 7 => .array .int
  | 8 => .array .int
  | 9 => .array .int
  | 10 => .array .int
  | 11 => .array .int
  | 12 => .array .int
  | _ => .array .int
def sn_T2 : u_T := fun k => match k with
  | 0 => ("SnapshotRings$History", "states", "[LSnapshotRings$State;", true)
  | 1 => ("SnapshotRings$History", "saved", "I", false)
  | _ => ("SnapshotRings$History", "next", "I", false)
def sn_ty2 : Nat → FieldType := fun k => match k with
  | 0 => .array (.object "SnapshotRings$State")
  | 1 => .int
  | _ => .int
def sn_T3 : u_T := fun k => match k with
  | 0 => ("SnapshotRings$Graph", "nodes", "I", false)
  | 1 => ("SnapshotRings$Graph", "rows", "[I", true)
  | 2 => ("SnapshotRings$Graph", "numbers", "[I", true)
  | 3 => ("SnapshotRings$Graph", "sums", "[I", true)
  | 4 => ("SnapshotRings$Graph", "behind", "[I", true)
  | 5 => ("SnapshotRings$Graph", "overwriters", "[I", true)
  | 6 => ("SnapshotRings$Graph", "reached", "[I", true)
  | 7 => ("SnapshotRings$Graph", "steps", "[I", true)
  | 8 => ("SnapshotRings$Graph", "toldNumbers", "[I", true)
  | _ => ("SnapshotRings$Graph", "told", "I", false)
def sn_ty3 : Nat → FieldType := fun k => match k with
  | 0 => .int
  | 1 => .array .int
  | 2 => .array .int
  | 3 => .array .int
  | 4 => .array .int
  | 5 => .array .int
  | 6 => .array .int
  | 7 => .array .int
  | 8 => .array .int
  | _ => .int
def sn_T4 : u_T := fun k => match k with
  | 0 => ("SnapshotRings$Schedule", "signs", "[C", true)
  | _ => ("SnapshotRings$Schedule", "length", "I", false)
def sn_ty4 : Nat → FieldType := fun k => match k with
  | 0 => .array .char
  | _ => .int
def sn_T5 : u_T := fun k => match k with
  | 0 => ("SnapshotRingsModel", "state", "[I", true)
  | 1 => ("SnapshotRingsModel", "kept", "[I", true)
  | 2 => ("SnapshotRingsModel", "history", "[I", true)
  | 3 => ("SnapshotRingsModel", "recorded", "I", false)
  | 4 => ("SnapshotRingsModel", "text", "[I", true)
  | 5 => ("SnapshotRingsModel", "textLength", "I", false)
  | 6 => ("SnapshotRingsModel", "mine", "I", false)
  | 7 => ("SnapshotRingsModel", "behind", "[I", true)
  | 8 => ("SnapshotRingsModel", "far", "[I", true)
  | 9 => ("SnapshotRingsModel", "order", "[I", true)
  | 10 => ("SnapshotRingsModel", "ordered", "I", false)
  | 11 => ("SnapshotRingsModel", "at", "I", false)
  | 12 => ("SnapshotRingsModel", "letter", "I", false)
  | 13 => ("SnapshotRingsModel", "slotRead", "I", false)
  | 14 => ("SnapshotRingsModel", "keyRead", "I", false)
  | _ => ("SnapshotRingsModel", "valueRead", "I", false)
def sn_ty5 : Nat → FieldType := fun k => match k with
  | 0 => .array .int
  | 1 => .array .int
  | 2 => .array .int
  | 3 => .int
  | 4 => .array .int
  | 5 => .int
  | 6 => .int
  | 7 => .array .int
  | 8 => .array .int
  | 9 => .array .int
  | 10 => .int
  | 11 => .int
  | 12 => .int
  | 13 => .int
  | 14 => .int
  | _ => .int
def sn_cl : List vw_C := [("SnapshotRings", sn_T0, 5), ("SnapshotRings$State", sn_T1, 14), ("SnapshotRings$History", sn_T2, 3), ("SnapshotRings$Graph", sn_T3, 10), ("SnapshotRings$Schedule", sn_T4, 2), ("SnapshotRingsModel", sn_T5, 16)]
def sn_fN (ci : Nat) : Nat := (sn_nth [5, 14, 3, 10, 2, 16] ci).getD 0
def sn_fRl : List (List Bool) := [[true, true, true, true, true], [false, false, false, false, true, true, true, true, true, true, true, true, true, true], [true, false, false], [false, true, true, true, true, true, true, true, true, false], [true, false], [true, true, true, false, true, false, false, true, true, true, false, false, false, false, false, false]]
/-- is the field a reference? -/
def sn_fR (ci k : Nat) : Bool := (((sn_nth sn_fRl ci).getD []).getD k false)
def sn_ffl : List (List Bool) := [[true, true, true, true, true], [false, false, false, false, true, true, true, true, true, true, true, true, true, true], [true, false, false], [false, true, true, true, true, true, true, true, true, false], [true, false], [true, true, true, false, true, false, false, true, true, true, false, false, false, false, false, false]]
/-- is the field final? -/
def sn_ff (ci k : Nat) : Bool := (((sn_nth sn_ffl ci).getD []).getD k false)
def sn_lyl : List (List Nat) := [[223, 225, 227, 229, 231], [113, 115, 117, 119, 121, 123, 125, 127, 129, 131, 133, 135, 137, 139], [156, 158, 160], [182, 184, 186, 188, 190, 192, 194, 196, 198, 200], [212, 214], [623, 625, 627, 629, 631, 633, 635, 637, 639, 641, 643, 645, 647, 649, 651, 653]]
abbrev sn_E : Type := Instr × Nat × Nat
def sn_NM : Nat := 175
def sn_mYl : List MethodName := [⟨"SnapshotRings", "<init>", "()V"⟩,
  ⟨"SnapshotRings$State", "<init>", "()V"⟩,
  ⟨"SnapshotRings$History", "<init>", "()V"⟩,
  ⟨"SnapshotRings$Graph", "<init>", "()V"⟩,
  ⟨"SnapshotRings$Schedule", "<init>", "()V"⟩,
  ⟨"SnapshotRings", "setPolicy", "(I)I"⟩,
  ⟨"SnapshotRings$History", "push", "(LSnapshotRings$State;)V"⟩,
  ⟨"SnapshotRings$State", "copyFrom", "(LSnapshotRings$State;)V"⟩,
  ⟨"SnapshotRings", "setConstraint", "(III)I"⟩,
  ⟨"SnapshotRings", "isConstraint", "(I)Z"⟩,
  ⟨"SnapshotRings", "begin", "(I)I"⟩,
  ⟨"SnapshotRings", "errorOfBegin", "(I)I"⟩,
  ⟨"SnapshotRings", "isSlot", "(I)Z"⟩,
  ⟨"SnapshotRings$State", "isOpen", "(I)Z"⟩,
  ⟨"SnapshotRings", "hasBit", "(II)Z"⟩,
  ⟨"SnapshotRings$State", "start", "(I)I"⟩,
  ⟨"SnapshotRings", "read", "(II)I"⟩,
  ⟨"SnapshotRings", "errorOfRead", "(II)I"⟩,
  ⟨"SnapshotRings", "isKey", "(I)Z"⟩,
  ⟨"SnapshotRings", "errorOfSlot", "(I)I"⟩,
  ⟨"SnapshotRings$State", "readKey", "(II)I"⟩,
  ⟨"SnapshotRings", "write", "(III)I"⟩,
  ⟨"SnapshotRings", "errorOfWrite", "(III)I"⟩,
  ⟨"SnapshotRings$State", "writeKey", "(III)I"⟩,
  ⟨"java/lang/Integer", "bitCount", "(I)I"⟩,
  ⟨"SnapshotRings", "commit", "(I)I"⟩,
  ⟨"SnapshotRings", "finish", "(LSnapshotRings$State;I)I"⟩,
  ⟨"SnapshotRings", "reasonToRefuse", "(LSnapshotRings$State;II)I"⟩,
  ⟨"SnapshotRings$State", "overwritesNewer", "(I)Z"⟩,
  ⟨"SnapshotRings$Graph", "load", "(LSnapshotRings$State;)V"⟩,
  ⟨"SnapshotRings$State", "keptCommits", "()I"⟩,
  ⟨"SnapshotRings$State", "rowOfCommit", "(I)I"⟩,
  ⟨"SnapshotRings$Graph", "setNode", "(III)V"⟩,
  ⟨"SnapshotRings$Graph", "link", "(LSnapshotRings$State;II)V"⟩,
  ⟨"SnapshotRings$State", "dependencySum", "(IIII)I"⟩,
  ⟨"SnapshotRings$Graph", "join", "(LSnapshotRings$State;I)V"⟩,
  ⟨"SnapshotRings$Graph", "findRing", "()V"⟩,
  ⟨"SnapshotRings$Graph", "countSteps", "(I)V"⟩,
  ⟨"SnapshotRings$Graph", "lowestBehind", "(II)I"⟩,
  ⟨"SnapshotRings$Graph", "tell", "(I)V"⟩,
  ⟨"SnapshotRings$Graph", "hasPivot", "()Z"⟩,
  ⟨"SnapshotRings$State", "refuse", "(II)V"⟩,
  ⟨"SnapshotRings$State", "free", "(I)V"⟩,
  ⟨"SnapshotRings$State", "keepCommit", "(I)I"⟩,
  ⟨"SnapshotRings", "abort", "(I)I"⟩,
  ⟨"SnapshotRings$State", "giveUp", "(I)I"⟩,
  ⟨"SnapshotRings", "count", "(I)I"⟩,
  ⟨"SnapshotRings", "value", "(I)I"⟩,
  ⟨"SnapshotRings", "version", "(I)I"⟩,
  ⟨"SnapshotRings", "of", "(II)I"⟩,
  ⟨"SnapshotRings$State", "partOfRow", "(II)I"⟩,
  ⟨"SnapshotRings", "ofCommit", "(II)I"⟩,
  ⟨"SnapshotRings$State", "isKept", "(I)Z"⟩,
  ⟨"SnapshotRings", "dependency", "(II)I"⟩,
  ⟨"SnapshotRings", "ringOf", "(II)I"⟩,
  ⟨"SnapshotRings$Graph", "toldAt", "(I)I"⟩,
  ⟨"SnapshotRings", "inRings", "()I"⟩,
  ⟨"SnapshotRings$Graph", "countNodesInRings", "()I"⟩,
  ⟨"SnapshotRings", "orderAt", "(I)I"⟩,
  ⟨"SnapshotRings$Graph", "findOrder", "()V"⟩,
  ⟨"SnapshotRings$Graph", "lowestPossible", "(I)I"⟩,
  ⟨"SnapshotRings", "skews", "()I"⟩,
  ⟨"SnapshotRings$Graph", "countSkewPairs", "()I"⟩,
  ⟨"SnapshotRings", "holds", "(I)I"⟩,
  ⟨"SnapshotRings$State", "constraintIsMet", "([III)Z"⟩,
  ⟨"SnapshotRings", "holdsFor", "(II)I"⟩,
  ⟨"SnapshotRings", "ifAllCommitted", "()I"⟩,
  ⟨"SnapshotRings", "refusedBy", "(I)I"⟩,
  ⟨"SnapshotRings", "type", "(I)I"⟩,
  ⟨"SnapshotRings$Schedule", "append", "(C)V"⟩,
  ⟨"SnapshotRings", "clearText", "()I"⟩,
  ⟨"SnapshotRings", "syntaxError", "()I"⟩,
  ⟨"SnapshotRings$Schedule", "firstError", "()I"⟩,
  ⟨"SnapshotRings$Schedule", "signAt", "(I)C"⟩,
  ⟨"SnapshotRings$Schedule", "awaitedAfter", "(IC)I"⟩,
  ⟨"SnapshotRings$Schedule", "awaitedAfterLetter", "(C)I"⟩,
  ⟨"SnapshotRings$Schedule", "isBetween", "(CCC)Z"⟩,
  ⟨"SnapshotRings$Schedule", "awaitedAfterDigit", "(CI)I"⟩,
  ⟨"SnapshotRings$Schedule", "isDigit", "(C)Z"⟩,
  ⟨"SnapshotRings", "carryOut", "()I"⟩,
  ⟨"SnapshotRings", "carryOutStep", "(I)Z"⟩,
  ⟨"SnapshotRings$Schedule", "slotOfStep", "(I)I"⟩,
  ⟨"SnapshotRings", "carryOutAccess", "(ICI)Z"⟩,
  ⟨"SnapshotRings$Schedule", "keyOfStep", "(I)I"⟩,
  ⟨"SnapshotRings$Schedule", "valueOfStep", "(I)I"⟩,
  ⟨"SnapshotRings$Schedule", "nextStep", "(I)I"⟩,
  ⟨"SnapshotRings", "undo", "()I"⟩,
  ⟨"SnapshotRings$History", "popInto", "(LSnapshotRings$State;)V"⟩,
  ⟨"SnapshotRings", "digest", "()J"⟩,
  ⟨"SnapshotRings", "mixed", "(JJ)J"⟩,
  ⟨"SnapshotRings", "withOpenTransactions", "(J)J"⟩,
  ⟨"SnapshotRings", "withKeptCommits", "(J)J"⟩,
  ⟨"SnapshotRings", "withGraph", "(J)J"⟩,
  ⟨"SnapshotRingsModel", "<init>", "()V"⟩,
  ⟨"SnapshotRingsModel", "begin", "(I)I"⟩,
  ⟨"SnapshotRingsModel", "whyNotBegun", "(I)I"⟩,
  ⟨"SnapshotRingsModel", "isSlot", "(I)Z"⟩,
  ⟨"SnapshotRingsModel", "within", "(III)Z"⟩,
  ⟨"SnapshotRingsModel", "isOpen", "(I)Z"⟩,
  ⟨"SnapshotRingsModel", "slotPart", "(II)I"⟩,
  ⟨"SnapshotRingsModel", "record", "()V"⟩,
  ⟨"SnapshotRingsModel", "copies", "([II[II)V"⟩,
  ⟨"SnapshotRingsModel", "begins", "(I)I"⟩,
  ⟨"SnapshotRingsModel", "frees", "(I)V"⟩,
  ⟨"SnapshotRingsModel", "setSlot", "(III)V"⟩,
  ⟨"SnapshotRingsModel", "read", "(II)I"⟩,
  ⟨"SnapshotRingsModel", "whyNotRead", "(II)I"⟩,
  ⟨"SnapshotRingsModel", "isKey", "(I)Z"⟩,
  ⟨"SnapshotRingsModel", "reads", "(II)I"⟩,
  ⟨"SnapshotRingsModel", "write", "(III)I"⟩,
  ⟨"SnapshotRingsModel", "whyNotWritten", "(III)I"⟩,
  ⟨"SnapshotRingsModel", "writes", "(III)I"⟩,
  ⟨"SnapshotRingsModel", "ones", "(I)I"⟩,
  ⟨"SnapshotRingsModel", "commit", "(I)I"⟩,
  ⟨"SnapshotRingsModel", "whyNotOpen", "(I)I"⟩,
  ⟨"SnapshotRingsModel", "commits", "(I)I"⟩,
  ⟨"SnapshotRingsModel", "whyRefused", "(II)I"⟩,
  ⟨"SnapshotRingsModel", "isOverwritten", "(I)Z"⟩,
  ⟨"SnapshotRingsModel", "hasRing", "(I)Z"⟩,
  ⟨"SnapshotRingsModel", "findBehind", "(I)V"⟩,
  ⟨"SnapshotRingsModel", "isNode", "(I)Z"⟩,
  ⟨"SnapshotRingsModel", "keptMany", "()I"⟩,
  ⟨"SnapshotRingsModel", "dependencyOf", "(II)I"⟩,
  ⟨"SnapshotRingsModel", "placeOf", "(I)I"⟩,
  ⟨"SnapshotRingsModel", "numberOf", "(I)I"⟩,
  ⟨"SnapshotRingsModel", "firstKept", "()I"⟩,
  ⟨"SnapshotRingsModel", "keptAt", "(I)I"⟩,
  ⟨"SnapshotRingsModel", "findFar", "(I)V"⟩,
  ⟨"SnapshotRingsModel", "nextNode", "(I)I"⟩,
  ⟨"SnapshotRingsModel", "isPivot", "(I)Z"⟩,
  ⟨"SnapshotRingsModel", "abort", "(I)I"⟩,
  ⟨"SnapshotRingsModel", "aborts", "(I)I"⟩,
  ⟨"SnapshotRingsModel", "setPolicy", "(I)I"⟩,
  ⟨"SnapshotRingsModel", "setConstraint", "(III)I"⟩,
  ⟨"SnapshotRingsModel", "isConstraint", "(I)Z"⟩,
  ⟨"SnapshotRingsModel", "count", "(I)I"⟩,
  ⟨"SnapshotRingsModel", "countOf", "(I)I"⟩,
  ⟨"SnapshotRingsModel", "openMany", "()I"⟩,
  ⟨"SnapshotRingsModel", "value", "(I)I"⟩,
  ⟨"SnapshotRingsModel", "version", "(I)I"⟩,
  ⟨"SnapshotRingsModel", "of", "(II)I"⟩,
  ⟨"SnapshotRingsModel", "ofSlot", "(II)I"⟩,
  ⟨"SnapshotRingsModel", "ofCommit", "(II)I"⟩,
  ⟨"SnapshotRingsModel", "isKept", "(I)Z"⟩,
  ⟨"SnapshotRingsModel", "dependency", "(II)I"⟩,
  ⟨"SnapshotRingsModel", "ringOf", "(II)I"⟩,
  ⟨"SnapshotRingsModel", "inRings", "()I"⟩,
  ⟨"SnapshotRingsModel", "ringsMany", "()I"⟩,
  ⟨"SnapshotRingsModel", "findCommits", "(I)V"⟩,
  ⟨"SnapshotRingsModel", "orderAt", "(I)I"⟩,
  ⟨"SnapshotRingsModel", "findOrder", "()V"⟩,
  ⟨"SnapshotRingsModel", "orderOf", "(I)I"⟩,
  ⟨"SnapshotRingsModel", "skews", "()I"⟩,
  ⟨"SnapshotRingsModel", "holds", "(I)I"⟩,
  ⟨"SnapshotRingsModel", "isHeld", "(I)I"⟩,
  ⟨"SnapshotRingsModel", "holdsFor", "(II)I"⟩,
  ⟨"SnapshotRingsModel", "isHeldFor", "(II)I"⟩,
  ⟨"SnapshotRingsModel", "ifAllCommitted", "()I"⟩,
  ⟨"SnapshotRingsModel", "refusedBy", "(I)I"⟩,
  ⟨"SnapshotRingsModel", "type", "(I)I"⟩,
  ⟨"SnapshotRingsModel", "clearText", "()I"⟩,
  ⟨"SnapshotRingsModel", "syntaxError", "()I"⟩,
  ⟨"SnapshotRingsModel", "findError", "()I"⟩,
  ⟨"SnapshotRingsModel", "readsStep", "()Z"⟩,
  ⟨"SnapshotRingsModel", "character", "(I)I"⟩,
  ⟨"SnapshotRingsModel", "readsSlot", "()Z"⟩,
  ⟨"SnapshotRingsModel", "readsKey", "()Z"⟩,
  ⟨"SnapshotRingsModel", "isNext", "(I)Z"⟩,
  ⟨"SnapshotRingsModel", "readsValue", "()Z"⟩,
  ⟨"SnapshotRingsModel", "carryOut", "()I"⟩,
  ⟨"SnapshotRingsModel", "whyNotDone", "()I"⟩,
  ⟨"SnapshotRingsModel", "does", "()V"⟩,
  ⟨"SnapshotRingsModel", "undo", "()I"⟩,
  ⟨"SnapshotRingsModel", "digest", "()J"⟩,
  ⟨"SnapshotRingsLaw", "law", "([I)Z"⟩]
def sn_mY (m : Nat) : MethodName := (sn_nth sn_mYl m).getD ⟨"", "", ""⟩
def sn_mBl : List ByteArray := [prog_1_method_1_code, prog_5_method_1_code, prog_3_method_1_code, prog_2_method_1_code, prog_4_method_1_code, prog_1_method_2_code, prog_3_method_2_code, prog_5_method_2_code, prog_1_method_3_code, prog_1_method_31_code, prog_1_method_4_code, prog_1_method_34_code, prog_1_method_30_code, prog_5_method_3_code, prog_1_method_32_code, prog_5_method_4_code, prog_1_method_5_code, prog_1_method_36_code, prog_1_method_29_code, prog_1_method_35_code, prog_5_method_5_code, prog_1_method_6_code, prog_1_method_37_code, prog_5_method_6_code, prog_8_method_49_code, prog_1_method_7_code, prog_1_method_39_code, prog_1_method_38_code, prog_5_method_15_code, prog_2_method_2_code, prog_5_method_11_code, prog_5_method_13_code, prog_2_method_4_code, prog_2_method_5_code, prog_5_method_17_code, prog_2_method_3_code, prog_2_method_8_code, prog_2_method_9_code, prog_2_method_10_code, prog_2_method_7_code, prog_2_method_11_code, prog_5_method_8_code, prog_5_method_10_code, prog_5_method_9_code, prog_1_method_8_code, prog_5_method_7_code, prog_1_method_9_code, prog_1_method_10_code, prog_1_method_11_code, prog_1_method_12_code, prog_5_method_14_code, prog_1_method_13_code, prog_5_method_12_code, prog_1_method_14_code, prog_1_method_15_code, prog_2_method_6_code, prog_1_method_16_code, prog_2_method_12_code, prog_1_method_17_code, prog_2_method_13_code, prog_2_method_14_code, prog_1_method_18_code, prog_2_method_15_code, prog_1_method_19_code, prog_5_method_16_code, prog_1_method_20_code, prog_1_method_21_code, prog_1_method_22_code, prog_1_method_23_code, prog_4_method_2_code, prog_1_method_24_code, prog_1_method_25_code, prog_4_method_4_code, prog_4_method_3_code, prog_4_method_5_code, prog_4_method_6_code, prog_4_method_9_code, prog_4_method_7_code, prog_4_method_8_code, prog_1_method_26_code, prog_1_method_40_code, prog_4_method_10_code, prog_1_method_41_code, prog_4_method_11_code, prog_4_method_12_code, prog_4_method_13_code, prog_1_method_27_code, prog_3_method_3_code, prog_1_method_28_code, prog_1_method_33_code, prog_1_method_42_code, prog_1_method_43_code, prog_1_method_44_code, prog_7_method_1_code, prog_7_method_31_code, prog_7_method_29_code, prog_7_method_8_code, prog_7_method_3_code, prog_7_method_12_code, prog_7_method_10_code, prog_7_method_5_code, prog_7_method_4_code, prog_7_method_30_code, prog_7_method_28_code, prog_7_method_11_code, prog_7_method_34_code, prog_7_method_32_code, prog_7_method_7_code, prog_7_method_33_code, prog_7_method_37_code, prog_7_method_35_code, prog_7_method_36_code, prog_7_method_6_code, prog_7_method_40_code, prog_7_method_38_code, prog_7_method_39_code, prog_7_method_27_code, prog_7_method_26_code, prog_7_method_24_code, prog_7_method_21_code, prog_7_method_20_code, prog_7_method_13_code, prog_7_method_19_code, prog_7_method_18_code, prog_7_method_17_code, prog_7_method_14_code, prog_7_method_16_code, prog_7_method_22_code, prog_7_method_23_code, prog_7_method_25_code, prog_7_method_42_code, prog_7_method_41_code, prog_7_method_43_code, prog_7_method_44_code, prog_7_method_9_code, prog_7_method_47_code, prog_7_method_46_code, prog_7_method_45_code, prog_7_method_48_code, prog_7_method_49_code, prog_7_method_51_code, prog_7_method_50_code, prog_7_method_52_code, prog_7_method_15_code, prog_7_method_53_code, prog_7_method_54_code, prog_7_method_57_code, prog_7_method_56_code, prog_7_method_55_code, prog_7_method_60_code, prog_7_method_58_code, prog_7_method_59_code, prog_7_method_61_code, prog_7_method_63_code, prog_7_method_62_code, prog_7_method_65_code, prog_7_method_64_code, prog_7_method_66_code, prog_7_method_67_code, prog_7_method_68_code, prog_7_method_69_code, prog_7_method_77_code, prog_7_method_76_code, prog_7_method_75_code, prog_7_method_70_code, prog_7_method_72_code, prog_7_method_73_code, prog_7_method_71_code, prog_7_method_74_code, prog_7_method_80_code, prog_7_method_78_code, prog_7_method_79_code, prog_7_method_81_code, prog_7_method_82_code, code]
def sn_mB (m : Nat) : ByteArray := (sn_nth sn_mBl m).getD ⟨#[]⟩
def sn_mRl : List (Option FieldType) := [none, none, none, none, none, some .int, none, none, some .int, some .boolean, some .int, some .int, some .boolean, some .boolean, some .boolean, some .int, some .int, some .int, some .boolean, some .int, some .int, some .int, some .int, some .int, some .int, some .int, some .int, some .int, some .boolean, none, some .int, some .int, none, none, some .int, none, none, none, some .int, none, some .boolean, none, none, some .int, some .int, some .int, some .int, some .int, some .int, some .int, some .int, some .int, some .boolean, some .int, some .int, some .int, some .int, some .int, some .int, none, some .int, some .int, some .int, some .int, some .boolean, some .int, some .int, some .int, some .int, none, some .int, some .int, some .int, some .char, some .int, some .int, some .boolean, some .int, some .boolean, some .int, some .boolean, some .int, some .boolean, some .int, some .int, some .int, some .int, none, some .long, some .long, some .long, some .long, some .long, none, some .int, some .int, some .boolean, some .boolean, some .boolean, some .int, none, none, some .int, none, none, some .int, some .int, some .boolean, some .int, some .int, some .int, some .int, some .int, some .int, some .int, some .int, some .int, some .boolean, some .boolean, none, some .boolean, some .int, some .int, some .int, some .int, some .int, some .int, none, some .int, some .boolean, some .int, some .int, some .int, some .int, some .boolean, some .int, some .int, some .int, some .int, some .int, some .int, some .int, some .int, some .boolean, some .int, some .int, some .int, some .int, none, some .int, none, some .int, some .int, some .int, some .int, some .int, some .int, some .int, some .int, some .int, some .int, some .int, some .int, some .boolean, some .int, some .boolean, some .boolean, some .boolean, some .boolean, some .int, some .int, none, some .int, some .long, some .boolean]
def sn_mR (m : Nat) : Option FieldType := (sn_nth sn_mRl m).getD none
def sn_mOl : List Nat := [0, 1, 2, 3, 4, 0, 2, 1, 0, 0, 0, 0, 0, 1, 0, 1, 0, 0, 0, 0, 1, 0, 0, 1, 8, 0, 0, 0, 1, 3, 1, 1, 3, 3, 1, 3, 3, 3, 3, 3, 3, 1, 1, 1, 0, 1, 0, 0, 0, 0, 1, 0, 1, 0, 0, 3, 0, 3, 0, 3, 3, 0, 3, 0, 1, 0, 0, 0, 0, 4, 0, 0, 4, 4, 4, 4, 4, 4, 4, 0, 0, 4, 0, 4, 4, 4, 0, 2, 0, 0, 0, 0, 0, 5, 5, 5, 5, 5, 5, 5, 5, 5, 5, 5, 5, 5, 5, 5, 5, 5, 5, 5, 5, 5, 5, 5, 5, 5, 5, 5, 5, 5, 5, 5, 5, 5, 5, 5, 5, 5, 5, 5, 5, 5, 5, 5, 5, 5, 5, 5, 5, 5, 5, 5, 5, 5, 5, 5, 5, 5, 5, 5, 5, 5, 5, 5, 5, 5, 5, 5, 5, 5, 5, 5, 5, 5, 5, 5, 5, 5, 5, 5, 5, 5, 6]
def sn_mO (m : Nat) : Nat := (sn_nth sn_mOl m).getD 0
def sn_mLl : List Nat := [1, 1, 2, 1, 1, 3, 2, 2, 5, 1, 3, 2, 1, 2, 2, 2, 4, 3, 1, 2, 3, 5, 5, 4, 1, 3, 4, 4, 3, 5, 1, 2, 4, 5, 10, 5, 5, 6, 4, 2, 6, 3, 2, 4, 3, 2, 2, 2, 2, 4, 3, 3, 2, 3, 4, 2, 1, 3, 2, 4, 4, 1, 4, 2, 6, 4, 3, 4, 2, 2, 2, 1, 3, 2, 2, 1, 3, 2, 1, 3, 4, 2, 6, 2, 6, 3, 1, 2, 4, 4, 7, 9, 7, 1, 3, 2, 1, 3, 2, 3, 2, 5, 3, 3, 4, 4, 3, 1, 3, 5, 4, 4, 3, 3, 2, 4, 3, 4, 2, 4, 2, 1, 9, 2, 2, 1, 1, 5, 5, 6, 3, 3, 3, 5, 1, 2, 2, 3, 2, 2, 3, 3, 3, 2, 3, 5, 1, 3, 2, 2, 7, 2, 4, 2, 4, 3, 6, 3, 3, 2, 2, 1, 1, 2, 2, 2, 2, 3, 3, 3, 1, 1, 1, 5, 4]
def sn_mL (m : Nat) : Nat := (sn_nth sn_mLl m).getD 0
def sn_NAl : List Nat := [1, 1, 1, 1, 1, 2, 2, 2, 4, 1, 2, 2, 1, 2, 2, 2, 3, 3, 1, 2, 3, 4, 4, 4, 1, 2, 3, 4, 2, 2, 1, 2, 4, 4, 5, 3, 1, 2, 3, 2, 1, 3, 2, 2, 2, 2, 2, 2, 2, 3, 3, 3, 2, 3, 3, 2, 1, 1, 2, 1, 2, 1, 1, 2, 4, 3, 1, 2, 2, 2, 1, 1, 1, 2, 2, 1, 3, 2, 1, 1, 2, 2, 4, 2, 2, 2, 1, 2, 1, 2, 2, 2, 2, 1, 2, 2, 1, 3, 2, 3, 1, 4, 2, 2, 4, 3, 3, 1, 3, 4, 4, 4, 1, 2, 2, 2, 3, 2, 2, 2, 2, 1, 3, 2, 2, 1, 1, 2, 2, 2, 2, 2, 2, 4, 1, 2, 2, 1, 2, 2, 3, 3, 3, 2, 3, 3, 1, 1, 2, 2, 1, 2, 1, 2, 2, 3, 3, 1, 2, 2, 1, 1, 1, 1, 2, 1, 1, 2, 1, 1, 1, 1, 1, 1, 1]
def sn_NA (m : Nat) : Nat := (sn_nth sn_NAl m).getD 0
def sn_frl : List Nat := [3, 1, 2, 1, 1, 3, 2, 1, 3, 0, 3, 2, 0, 1, 0, 1, 4, 3, 0, 2, 1, 5, 4, 1, 0, 5, 4, 3, 1, 2, 1, 0, 0, 1, 0, 2, 2, 0, 1, 0, 1, 1, 0, 1, 3, 1, 2, 1, 1, 4, 0, 1, 0, 1, 3, 0, 3, 1, 3, 2, 1, 3, 1, 2, 1, 3, 5, 4, 1, 0, 0, 5, 4, 0, 3, 0, 0, 2, 1, 7, 6, 1, 5, 1, 2, 0, 3, 2, 6, 0, 5, 2, 3, 1, 4, 3, 1, 0, 2, 0, 1, 0, 2, 1, 0, 4, 3, 1, 1, 4, 3, 1, 0, 9, 3, 8, 7, 1, 6, 5, 1, 0, 4, 3, 2, 1, 0, 0, 0, 6, 4, 2, 2, 2, 1, 5, 4, 3, 2, 2, 9, 8, 3, 2, 5, 7, 8, 7, 6, 8, 7, 1, 7, 2, 0, 3, 1, 9, 8, 1, 0, 5, 4, 3, 0, 1, 1, 1, 2, 10, 4, 9, 1, 9, 11]
def sn_fr (m : Nat) : Nat := (sn_nth sn_frl m).getD 0
def sn_lol : List Nat := [61, 20, 40, 20, 20, 68, 47, 26, 68, 0, 68, 42, 0, 21, 0, 26, 85, 63, 0, 42, 21, 109, 85, 20, 0, 123, 100, 77, 21, 53, 21, 0, 0, 29, 0, 53, 44, 0, 21, 0, 21, 21, 0, 26, 68, 21, 41, 20, 20, 100, 0, 22, 0, 29, 77, 0, 77, 21, 77, 44, 21, 77, 21, 46, 21, 63, 123, 100, 21, 0, 0, 106, 84, 0, 63, 0, 0, 42, 22, 157, 134, 21, 109, 21, 42, 0, 68, 47, 149, 0, 123, 44, 77, 20, 84, 63, 22, 0, 42, 0, 24, 0, 45, 23, 0, 85, 63, 22, 23, 86, 63, 23, 0, 203, 63, 180, 158, 22, 133, 110, 20, 0, 82, 61, 40, 20, 0, 0, 0, 133, 84, 45, 45, 45, 22, 106, 85, 63, 42, 42, 202, 180, 61, 40, 110, 154, 176, 154, 133, 180, 154, 20, 154, 42, 0, 63, 22, 203, 180, 22, 0, 106, 86, 65, 0, 22, 22, 21, 43, 223, 86, 203, 24, 202, 245]
def sn_lo (m : Nat) : Nat := (sn_nth sn_lol m).getD 0
def sn_mcl : List Nat := [101, 10, 67, 8, 1, 0, 0, 0, 0, 0, 0, 0, 0, 0, 0, 0, 0, 0, 0, 0, 0, 0, 0, 0, 0, 0, 0, 0, 0, 0, 0, 0, 0, 0, 0, 0, 0, 0, 0, 0, 0, 0, 0, 0, 0, 0, 0, 0, 0, 0, 0, 0, 0, 0, 0, 0, 0, 0, 0, 0, 0, 0, 0, 0, 0, 0, 0, 0, 0, 0, 0, 0, 0, 0, 0, 0, 0, 0, 0, 0, 0, 0, 0, 0, 0, 0, 0, 0, 0, 0, 0, 0, 0, 7, 0, 0, 0, 0, 0, 0, 0, 0, 0, 0, 0, 0, 0, 0, 0, 0, 0, 0, 0, 0, 0, 0, 0, 0, 0, 0, 0, 0, 0, 0, 0, 0, 0, 0, 0, 0, 0, 0, 0, 0, 0, 0, 0, 0, 0, 0, 0, 0, 0, 0, 0, 0, 0, 0, 0, 0, 0, 0, 0, 0, 0, 0, 0, 0, 0, 0, 0, 0, 0, 0, 0, 0, 0, 0, 0, 0, 0, 0, 0, 0, 600000]
def sn_mc (m : Nat) : Nat := (sn_nth sn_mcl m).getD 0
def sn_msl : List Nat := [4541, 490, 3030, 408, 80, 0, 0, 0, 0, 0, 0, 0, 0, 0, 0, 0, 0, 0, 0, 0, 0, 0, 0, 0, 0, 0, 0, 0, 0, 0, 0, 0, 0, 0, 0, 0, 0, 0, 0, 0, 0, 0, 0, 0, 0, 0, 0, 0, 0, 0, 0, 0, 0, 0, 0, 0, 0, 0, 0, 0, 0, 0, 0, 0, 0, 0, 0, 0, 0, 0, 0, 0, 0, 0, 0, 0, 0, 0, 0, 0, 0, 0, 0, 0, 0, 0, 0, 0, 0, 0, 0, 0, 0, 4898, 0, 0, 0, 0, 0, 0, 0, 0, 0, 0, 0, 0, 0, 0, 0, 0, 0, 0, 0, 0, 0, 0, 0, 0, 0, 0, 0, 0, 0, 0, 0, 0, 0, 0, 0, 0, 0, 0, 0, 0, 0, 0, 0, 0, 0, 0, 0, 0, 0, 0, 0, 0, 0, 0, 0, 0, 0, 0, 0, 0, 0, 0, 0, 0, 0, 0, 0, 0, 0, 0, 0, 0, 0, 0, 0, 0, 0, 0, 0, 0, 7302250]
def sn_ms (m : Nat) : Nat := (sn_nth sn_msl m).getD 0
def sn_stl : List Bool := [false, false, false, false, false, false, false, false, false, true, false, false, true, false, true, false, false, false, true, false, false, false, false, false, true, false, false, false, false, false, false, false, false, false, false, false, false, false, false, false, false, false, false, false, false, false, false, false, false, false, false, false, false, false, false, false, false, false, false, false, false, false, false, false, false, false, false, false, false, false, false, false, false, false, true, true, true, true, true, false, false, false, false, false, false, false, false, false, false, true, false, false, false, false, false, false, true, true, false, false, false, true, false, false, false, false, false, true, false, false, false, false, true, false, false, false, false, false, false, false, false, false, false, false, false, false, true, false, false, false, false, false, false, false, true, false, false, false, false, false, false, false, false, false, false, false, false, false, false, false, false, false, false, false, false, false, false, false, false, false, false, false, false, false, false, false, false, false, false, false, false, false, false, false, true]
def sn_st (m : Nat) : Bool := (sn_nth sn_stl m).getD false
def sn_icl : List Nat := [78, 86, 147, 167, 207, 237, 241, 245, 255, 258, 262, 266, 269, 273, 276, 280, 284, 288, 291, 295, 299, 303, 307, 311, 314, 321, 325, 329, 333, 337, 341, 346, 350, 354, 358, 362, 366, 370, 376, 380, 384, 388, 392, 396, 401, 405, 409, 415, 419, 423, 427, 431, 435, 440, 445, 449, 453, 457, 461, 465, 469, 473, 477, 481, 485, 489, 493, 498, 502, 506, 510, 514, 518, 522, 525, 528, 531, 534, 537, 541, 545, 550, 554, 558, 562, 566, 570, 574, 578, 583, 588, 594, 599, 605, 659, 663, 666, 669, 673, 677, 681, 684, 688, 692, 696, 700, 704, 707, 711, 715, 719, 723, 726, 730, 734, 738, 742, 746, 750, 754, 758, 762, 766, 770, 774, 778, 781, 785, 789, 793, 797, 801, 805, 809, 812, 816, 820, 824, 828, 832, 836, 840, 844, 848, 852, 856, 860, 864, 868, 872, 876, 880, 884, 888, 892, 896, 900, 904, 908, 912, 916, 920, 924, 928, 932, 936, 940, 944, 948, 952, 956, 960, 964, 968, 0]
def sn_ic (m : Nat) : Nat := (sn_nth sn_icl m).getD 0
def sn_iil : List Nat := [77, 85, 146, 166, 206, 235, 239, 243, 253, 257, 260, 265, 268, 271, 275, 278, 282, 287, 290, 294, 297, 301, 306, 309, 313, 319, 324, 328, 331, 335, 339, 344, 349, 353, 356, 360, 364, 369, 375, 379, 382, 386, 391, 394, 399, 403, 407, 413, 417, 421, 425, 429, 433, 438, 443, 447, 451, 455, 459, 463, 468, 471, 475, 479, 483, 487, 491, 496, 500, 504, 508, 512, 516, 520, 524, 527, 530, 533, 536, 539, 544, 548, 553, 556, 560, 564, 568, 572, 576, 582, 587, 593, 598, 604, 657, 662, 665, 668, 672, 676, 680, 683, 687, 691, 695, 698, 703, 706, 710, 713, 718, 722, 725, 728, 733, 737, 741, 745, 749, 753, 757, 761, 765, 769, 773, 777, 780, 784, 788, 792, 795, 800, 803, 807, 811, 814, 819, 823, 826, 830, 834, 839, 842, 847, 850, 854, 858, 863, 867, 870, 875, 879, 882, 886, 891, 894, 899, 902, 906, 910, 914, 918, 923, 927, 931, 935, 939, 943, 947, 950, 955, 959, 962, 966, 0]
def sn_ii (m : Nat) : Nat := (sn_nth sn_iil m).getD 0
def sn_isl : List Nat := [0, 0, 0, 0, 0, 236, 240, 244, 254, 0, 261, 0, 0, 272, 0, 279, 283, 1, 0, 2, 298, 302, 3, 310, 0, 320, 4, 5, 332, 336, 340, 345, 6, 7, 357, 361, 365, 8, 9, 10, 383, 387, 11, 395, 400, 404, 408, 414, 418, 422, 426, 430, 434, 439, 444, 448, 452, 456, 460, 464, 12, 472, 476, 480, 484, 488, 492, 497, 501, 505, 509, 513, 517, 521, 0, 0, 0, 0, 0, 540, 13, 549, 14, 557, 561, 565, 569, 573, 577, 0, 15, 16, 17, 0, 658, 18, 0, 0, 19, 20, 21, 0, 22, 23, 24, 699, 25, 0, 26, 714, 27, 28, 0, 729, 29, 30, 31, 32, 33, 34, 35, 36, 37, 38, 39, 40, 0, 41, 42, 43, 796, 44, 804, 808, 0, 815, 45, 46, 827, 831, 835, 47, 843, 48, 851, 855, 859, 49, 50, 871, 51, 52, 883, 887, 53, 895, 54, 903, 907, 911, 915, 919, 55, 56, 57, 58, 59, 60, 61, 951, 62, 63, 963, 967, 0]
def sn_is (m : Nat) : Nat := (sn_nth sn_isl m).getD 0
def sn_inl : List Nat := [65, 66, 67, 68, 69, 65, 67, 66, 65, 65, 65, 65, 65, 66, 65, 66, 65, 65, 65, 65, 66, 65, 65, 66, 73, 65, 65, 65, 66, 68, 66, 66, 68, 68, 66, 68, 68, 68, 68, 68, 68, 66, 66, 66, 65, 66, 65, 65, 65, 65, 66, 65, 66, 65, 65, 68, 65, 68, 65, 68, 68, 65, 68, 65, 66, 65, 65, 65, 65, 69, 65, 65, 69, 69, 69, 69, 69, 69, 69, 65, 65, 69, 65, 69, 69, 69, 65, 67, 65, 65, 65, 65, 65, 70, 70, 70, 70, 70, 70, 70, 70, 70, 70, 70, 70, 70, 70, 70, 70, 70, 70, 70, 70, 70, 70, 70, 70, 70, 70, 70, 70, 70, 70, 70, 70, 70, 70, 70, 70, 70, 70, 70, 70, 70, 70, 70, 70, 70, 70, 70, 70, 70, 70, 70, 70, 70, 70, 70, 70, 70, 70, 70, 70, 70, 70, 70, 70, 70, 70, 70, 70, 70, 70, 70, 70, 70, 70, 70, 70, 70, 70, 70, 70, 70, 0]
def sn_in (m : Nat) : Nat := (sn_nth sn_inl m).getD 0
/-- SnapshotRings.<init>()V -/
def sn_c0 : List (List (Nat × sn_E)) := [[(0, .aload_n 0, 0, 0), (1, .invokespecial 3, 9998, 0), (4, .aload_n 0, 0, 0), (5, .new 9, 1, 0)],
  [(8, .dup, 0, 0), (9, .invokespecial 11, 1, 1), (12, .putfield 12, 0, 0), (15, .aload_n 0, 0, 0)],
  [(16, .new 9, 1, 0), (19, .dup, 0, 0), (20, .invokespecial 11, 1, 1), (23, .putfield 16, 0, 1)],
  [(26, .aload_n 0, 0, 0), (27, .new 19, 2, 0), (30, .dup, 0, 0), (31, .invokespecial 21, 2, 0)],
  [(34, .putfield 22, 0, 2), (37, .aload_n 0, 0, 0), (38, .new 26, 3, 0)],
  [(41, .dup, 0, 0), (42, .invokespecial 28, 3, 1), (45, .putfield 29, 0, 3)],
  [(48, .aload_n 0, 0, 0), (49, .new 33, 4, 0), (52, .dup, 0, 0), (53, .invokespecial 35, 4, 1)],
  [(56, .putfield 36, 0, 4), (59, .return_, 0, 0)]]
/-- SnapshotRings$State.<init>()V -/
def sn_c1 : List (List (Nat × sn_E)) := [[(0, .aload_n 0, 0, 0), (1, .invokespecial 3, 9998, 0), (4, .aload_n 0, 0, 0), (5, .iconst (4), 4, 0), (6, .newarray .int, 1, 0)],
  [(8, .putfield 9, 1, 4), (11, .aload_n 0, 0, 0), (12, .iconst (3), 3, 0), (13, .newarray .int, 1, 0), (15, .putfield 15, 1, 5)],
  [(18, .aload_n 0, 0, 0), (19, .iconst (3), 3, 0), (20, .newarray .int, 1, 0), (22, .putfield 18, 1, 6)],
  [(25, .aload_n 0, 0, 0), (26, .bipush (12), 12, 0), (28, .newarray .int, 1, 0), (30, .putfield 21, 1, 7)],
  [(33, .aload_n 0, 0, 0), (34, .bipush (12), 12, 0), (36, .newarray .int, 1, 0), (38, .putfield 24, 1, 8)],
  [(41, .aload_n 0, 0, 0), (42, .bipush (24), 24, 0), (44, .newarray .int, 1, 0), (46, .putfield 27, 1, 9)],
  [(49, .aload_n 0, 0, 0), (50, .bipush (24), 24, 0), (52, .newarray .int, 1, 0), (54, .putfield 30, 1, 10)],
  [(57, .aload_n 0, 0, 0), (58, .bipush (24), 24, 0), (60, .newarray .int, 1, 0), (62, .putfield 33, 1, 11)],
  [(65, .aload_n 0, 0, 0), (66, .sipush (288), 288, 0), (69, .newarray .int, 1, 0), (71, .putfield 36, 1, 12)],
  [(74, .aload_n 0, 0, 0), (75, .bipush (96), 96, 0), (77, .newarray .int, 1, 0), (79, .putfield 39, 1, 13)],
  [(82, .return_, 0, 0)]]
/-- SnapshotRings$History.<init>()V -/
def sn_c2 : List (List (Nat × sn_E)) := [[(0, .aload_n 0, 0, 0), (1, .invokespecial 3, 9998, 0), (4, .aload_n 0, 0, 0), (5, .bipush (6), 6, 0), (7, .anewarray 9, 1, 0)],
  [(10, .putfield 11, 2, 0), (13, .iconst (0), 0, 0), (14, .istore_n 1, 0, 0), (15, .iload_n 1, 0, 0)],
  [(16, .bipush (6), 6, 0), (18, .if_icmp .ge (22), 40, 0), (21, .aload_n 0, 0, 0), (22, .getfield 11, 2, 0)],
  [(25, .iload_n 1, 0, 0), (26, .new 9, 1, 0), (29, .dup, 0, 0), (30, .invokespecial 17, 1, 1)],
  [(33, .aastore, 0, 0), (34, .iinc 1 (1), 1, 0), (37, .goto (-22), 15, 0)],
  [(40, .return_, 0, 0)]]
/-- SnapshotRings$Graph.<init>()V -/
def sn_c3 : List (List (Nat × sn_E)) := [[(0, .aload_n 0, 0, 0), (1, .invokespecial 3, 9998, 0), (4, .aload_n 0, 0, 0), (5, .bipush (17), 17, 0), (7, .newarray .int, 1, 0)],
  [(9, .putfield 9, 3, 1), (12, .aload_n 0, 0, 0), (13, .bipush (17), 17, 0), (15, .newarray .int, 1, 0)],
  [(17, .putfield 15, 3, 2), (20, .aload_n 0, 0, 0), (21, .sipush (289), 289, 0)],
  [(24, .newarray .int, 1, 0), (26, .putfield 18, 3, 3), (29, .aload_n 0, 0, 0), (30, .bipush (17), 17, 0)],
  [(32, .newarray .int, 1, 0), (34, .putfield 21, 3, 4), (37, .aload_n 0, 0, 0), (38, .bipush (17), 17, 0)],
  [(40, .newarray .int, 1, 0), (42, .putfield 24, 3, 5), (45, .aload_n 0, 0, 0), (46, .bipush (17), 17, 0)],
  [(48, .newarray .int, 1, 0), (50, .putfield 27, 3, 6), (53, .aload_n 0, 0, 0), (54, .bipush (17), 17, 0)],
  [(56, .newarray .int, 1, 0), (58, .putfield 30, 3, 7), (61, .aload_n 0, 0, 0), (62, .bipush (17), 17, 0)],
  [(64, .newarray .int, 1, 0), (66, .putfield 33, 3, 8), (69, .return_, 0, 0)]]
/-- SnapshotRings$Schedule.<init>()V -/
def sn_c4 : List (List (Nat × sn_E)) := [[(0, .aload_n 0, 0, 0), (1, .invokespecial 3, 9998, 0), (4, .aload_n 0, 0, 0), (5, .bipush (80), 80, 0), (7, .newarray .char, 2, 0)],
  [(9, .putfield 9, 4, 0), (12, .return_, 0, 0)]]
/-- SnapshotRings.setPolicy(I)I -/
def sn_c5 : List (List (Nat × sn_E)) := [[(0, .iload_n 1, 0, 0), (1, .ifCond .lt (8), 9, 0), (4, .iload_n 1, 0, 0), (5, .iconst (2), 2, 0), (6, .if_icmp .le (7), 13, 0)],
  [(9, .sipush (-20002), 20002, 1), (12, .ireturn, 0, 0), (13, .aload_n 0, 0, 0), (14, .getfield 22, 0, 2)],
  [(17, .aload_n 0, 0, 0), (18, .getfield 12, 0, 0), (21, .invokevirtual 40, 6, 0)],
  [(24, .aload_n 0, 0, 0), (25, .getfield 12, 0, 0), (28, .getfield 44, 1, 0), (31, .istore_n 2, 0, 0)],
  [(32, .aload_n 0, 0, 0), (33, .getfield 12, 0, 0), (36, .iload_n 1, 0, 0), (37, .putfield 44, 1, 0)],
  [(40, .iload_n 2, 0, 0), (41, .ireturn, 0, 0)]]
/-- SnapshotRings$History.push(LSnapshotRings$State;)V -/
def sn_c6 : List (List (Nat × sn_E)) := [[(0, .aload_n 0, 0, 0), (1, .getfield 11, 2, 0), (4, .aload_n 0, 0, 0), (5, .getfield 18, 2, 2)],
  [(8, .aaload, 0, 0), (9, .aload_n 1, 0, 0), (10, .invokevirtual 22, 7, 0), (13, .aload_n 0, 0, 0), (14, .aload_n 0, 0, 0), (15, .getfield 18, 2, 2)],
  [(18, .iconst (1), 1, 0), (19, .iadd, 0, 0), (20, .bipush (6), 6, 0), (22, .irem, 0, 0), (23, .putfield 18, 2, 2)],
  [(26, .aload_n 0, 0, 0), (27, .aload_n 0, 0, 0), (28, .getfield 26, 2, 1), (31, .iconst (1), 1, 0)],
  [(32, .iadd, 0, 0), (33, .bipush (6), 6, 0), (35, .invokestatic 29, 9997, 0), (38, .putfield 26, 2, 1)],
  [(41, .return_, 0, 0)]]
/-- SnapshotRings$State.copyFrom(LSnapshotRings$State;)V -/
def sn_c7 : List (List (Nat × sn_E)) := [[(0, .aload_n 0, 0, 0), (1, .aload_n 1, 0, 0), (2, .getfield 42, 1, 0), (5, .putfield 42, 1, 0)],
  [(8, .aload_n 0, 0, 0), (9, .aload_n 1, 0, 0), (10, .getfield 46, 1, 1), (13, .putfield 46, 1, 1)],
  [(16, .aload_n 0, 0, 0), (17, .aload_n 1, 0, 0), (18, .getfield 49, 1, 2), (21, .putfield 49, 1, 2)],
  [(24, .aload_n 0, 0, 0), (25, .aload_n 1, 0, 0), (26, .getfield 52, 1, 3), (29, .putfield 52, 1, 3)],
  [(32, .aload_n 1, 0, 0), (33, .getfield 9, 1, 4), (36, .iconst (0), 0, 0), (37, .aload_n 0, 0, 0), (38, .getfield 9, 1, 4)],
  [(41, .iconst (0), 0, 0), (42, .iconst (4), 4, 0), (43, .invokestatic 55, 9999, 0), (46, .aload_n 1, 0, 0), (47, .getfield 15, 1, 5)],
  [(50, .iconst (0), 0, 0), (51, .aload_n 0, 0, 0), (52, .getfield 15, 1, 5), (55, .iconst (0), 0, 0)],
  [(56, .iconst (3), 3, 0), (57, .invokestatic 55, 9999, 0), (60, .aload_n 1, 0, 0), (61, .getfield 18, 1, 6)],
  [(64, .iconst (0), 0, 0), (65, .aload_n 0, 0, 0), (66, .getfield 18, 1, 6), (69, .iconst (0), 0, 0), (70, .iconst (3), 3, 0), (71, .invokestatic 55, 9999, 0)],
  [(74, .aload_n 1, 0, 0), (75, .getfield 21, 1, 7), (78, .iconst (0), 0, 0), (79, .aload_n 0, 0, 0)],
  [(80, .getfield 21, 1, 7), (83, .iconst (0), 0, 0), (84, .bipush (12), 12, 0), (86, .invokestatic 55, 9999, 0)],
  [(89, .aload_n 1, 0, 0), (90, .getfield 24, 1, 8), (93, .iconst (0), 0, 0), (94, .aload_n 0, 0, 0), (95, .getfield 24, 1, 8)],
  [(98, .iconst (0), 0, 0), (99, .bipush (12), 12, 0), (101, .invokestatic 55, 9999, 0)],
  [(104, .aload_n 1, 0, 0), (105, .getfield 27, 1, 9), (108, .iconst (0), 0, 0), (109, .aload_n 0, 0, 0), (110, .getfield 27, 1, 9)],
  [(113, .iconst (0), 0, 0), (114, .bipush (24), 24, 0), (116, .invokestatic 55, 9999, 0), (119, .aload_n 1, 0, 0)],
  [(120, .getfield 30, 1, 10), (123, .iconst (0), 0, 0), (124, .aload_n 0, 0, 0), (125, .getfield 30, 1, 10)],
  [(128, .iconst (0), 0, 0), (129, .bipush (24), 24, 0), (131, .invokestatic 55, 9999, 0), (134, .aload_n 1, 0, 0), (135, .getfield 33, 1, 11)],
  [(138, .iconst (0), 0, 0), (139, .aload_n 0, 0, 0), (140, .getfield 33, 1, 11), (143, .iconst (0), 0, 0)],
  [(144, .bipush (24), 24, 0), (146, .invokestatic 55, 9999, 0), (149, .aload_n 1, 0, 0), (150, .getfield 36, 1, 12)],
  [(153, .iconst (0), 0, 0), (154, .aload_n 0, 0, 0), (155, .getfield 36, 1, 12), (158, .iconst (0), 0, 0), (159, .sipush (288), 288, 0)],
  [(162, .invokestatic 55, 9999, 0), (165, .aload_n 1, 0, 0), (166, .getfield 39, 1, 13)],
  [(169, .iconst (0), 0, 0), (170, .aload_n 0, 0, 0), (171, .getfield 39, 1, 13), (174, .iconst (0), 0, 0), (175, .bipush (96), 96, 0)],
  [(177, .invokestatic 55, 9999, 0), (180, .return_, 0, 0)]]
/-- SnapshotRings.setConstraint(III)I -/
def sn_c8 : List (List (Nat × sn_E)) := [[(0, .iload_n 1, 0, 0), (1, .invokestatic 48, 9, 0), (4, .ifCond .ne (7), 11, 0), (7, .sipush (-20001), 20001, 1)],
  [(10, .ireturn, 0, 0), (11, .iload_n 2, 0, 0), (12, .ifCond .lt (24), 36, 0), (15, .iload_n 2, 0, 0)],
  [(16, .sipush (4095), 4095, 0), (19, .if_icmp .gt (17), 36, 0), (22, .iload_n 3, 0, 0), (23, .sipush (-9999), 9999, 1)],
  [(26, .if_icmp .lt (10), 36, 0), (29, .iload_n 3, 0, 0), (30, .sipush (9999), 9999, 0)],
  [(33, .if_icmp .le (7), 40, 0), (36, .sipush (-20002), 20002, 1), (39, .ireturn, 0, 0)],
  [(40, .aload_n 0, 0, 0), (41, .getfield 22, 0, 2), (44, .aload_n 0, 0, 0), (45, .getfield 12, 0, 0)],
  [(48, .invokevirtual 40, 6, 0), (51, .aload_n 0, 0, 0), (52, .getfield 12, 0, 0), (55, .getfield 52, 1, 6)],
  [(58, .iload_n 1, 0, 0), (59, .iaload, 0, 0), (60, .istore 4, 4, 0), (62, .aload_n 0, 0, 0), (63, .getfield 12, 0, 0)],
  [(66, .getfield 56, 1, 5), (69, .iload_n 1, 0, 0), (70, .iload_n 2, 0, 0), (71, .iastore, 0, 0)],
  [(72, .aload_n 0, 0, 0), (73, .getfield 12, 0, 0), (76, .getfield 52, 1, 6), (79, .iload_n 1, 0, 0)],
  [(80, .iload_n 3, 0, 0), (81, .iastore, 0, 0), (82, .iload 4, 4, 0), (84, .ireturn, 0, 0)]]
/-- SnapshotRings.isConstraint(I)Z -/
def sn_c9 : List (List (Nat × sn_E)) := [[(0, .iload_n 0, 0, 0), (1, .ifCond .lt (12), 13, 0), (4, .iload_n 0, 0, 0), (5, .iconst (3), 3, 0), (6, .if_icmp .ge (7), 13, 0)],
  [(9, .iconst (1), 1, 0), (10, .goto (4), 14, 0), (13, .iconst (0), 0, 0), (14, .ireturn, 0, 0)]]
/-- SnapshotRings.begin(I)I -/
def sn_c10 : List (List (Nat × sn_E)) := [[(0, .aload_n 0, 0, 0), (1, .iload_n 1, 0, 0), (2, .invokevirtual 59, 11, 0), (5, .istore_n 2, 0, 0), (6, .iload_n 2, 0, 0), (7, .ifCond .eq (5), 12, 0)],
  [(10, .iload_n 2, 0, 0), (11, .ireturn, 0, 0), (12, .aload_n 0, 0, 0), (13, .getfield 22, 0, 2)],
  [(16, .aload_n 0, 0, 0), (17, .getfield 12, 0, 0), (20, .invokevirtual 40, 6, 0), (23, .aload_n 0, 0, 0)],
  [(24, .getfield 12, 0, 0), (27, .iload_n 1, 0, 0), (28, .invokevirtual 63, 15, 0), (31, .ireturn, 0, 0)]]
/-- SnapshotRings.errorOfBegin(I)I -/
def sn_c11 : List (List (Nat × sn_E)) := [[(0, .iload_n 1, 0, 0), (1, .invokestatic 218, 12, 0), (4, .ifCond .ne (7), 11, 0), (7, .sipush (-20001), 20001, 1)],
  [(10, .ireturn, 0, 0), (11, .aload_n 0, 0, 0), (12, .getfield 12, 0, 0), (15, .iload_n 1, 0, 0)],
  [(16, .invokevirtual 169, 13, 0), (19, .ifCond .eq (9), 28, 0), (22, .sipush (-20003), 20003, 1)],
  [(25, .goto (4), 29, 0), (28, .iconst (0), 0, 0), (29, .ireturn, 0, 0)]]
/-- SnapshotRings.isSlot(I)Z -/
def sn_c12 : List (List (Nat × sn_E)) := [[(0, .iload_n 0, 0, 0), (1, .ifCond .lt (13), 14, 0), (4, .iload_n 0, 0, 0), (5, .bipush (8), 8, 0), (7, .if_icmp .ge (7), 14, 0)],
  [(10, .iconst (1), 1, 0), (11, .goto (4), 15, 0), (14, .iconst (0), 0, 0), (15, .ireturn, 0, 0)]]
/-- SnapshotRings$State.isOpen(I)Z -/
def sn_c13 : List (List (Nat × sn_E)) := [[(0, .aload_n 0, 0, 0), (1, .getfield 52, 1, 3), (4, .iload_n 1, 0, 0), (5, .invokestatic 61, 14, 1)],
  [(8, .ireturn, 0, 0)]]
/-- SnapshotRings.hasBit(II)Z -/
def sn_c14 : List (List (Nat × sn_E)) := [[(0, .iload_n 0, 0, 0), (1, .iload_n 1, 0, 0), (2, .ishr, 0, 0), (3, .iconst (1), 1, 0), (4, .iand, 0, 0), (5, .iconst (1), 1, 0), (6, .if_icmp .ne (7), 13, 0)],
  [(9, .iconst (1), 1, 0), (10, .goto (4), 14, 0), (13, .iconst (0), 0, 0), (14, .ireturn, 0, 0)]]
/-- SnapshotRings$State.start(I)I -/
def sn_c15 : List (List (Nat × sn_E)) := [[(0, .aload_n 0, 0, 0), (1, .dup, 0, 0), (2, .getfield 52, 1, 3), (5, .iconst (1), 1, 0), (6, .iload_n 1, 0, 0), (7, .ishl, 0, 0)],
  [(8, .ior, 0, 0), (9, .putfield 52, 1, 3), (12, .aload_n 0, 0, 0), (13, .getfield 27, 1, 9)],
  [(16, .iload_n 1, 0, 0), (17, .aload_n 0, 0, 0), (18, .getfield 46, 1, 1), (21, .iastore, 0, 0), (22, .aload_n 0, 0, 0), (23, .getfield 30, 1, 10)],
  [(26, .iload_n 1, 0, 0), (27, .iconst (0), 0, 0), (28, .iastore, 0, 0), (29, .aload_n 0, 0, 0), (30, .getfield 33, 1, 11)],
  [(33, .iload_n 1, 0, 0), (34, .iconst (0), 0, 0), (35, .iastore, 0, 0), (36, .aload_n 0, 0, 0), (37, .getfield 24, 1, 8)],
  [(40, .iconst (0), 0, 0), (41, .aload_n 0, 0, 0), (42, .getfield 36, 1, 12), (45, .iload_n 1, 0, 0), (46, .bipush (12), 12, 0)],
  [(48, .imul, 0, 0), (49, .bipush (12), 12, 0), (51, .invokestatic 55, 9999, 0), (54, .aload_n 0, 0, 0), (55, .getfield 21, 1, 7)],
  [(58, .iconst (0), 0, 0), (59, .aload_n 0, 0, 0), (60, .getfield 39, 1, 13), (63, .iload_n 1, 0, 0)],
  [(64, .bipush (12), 12, 0), (66, .imul, 0, 0), (67, .bipush (12), 12, 0), (69, .invokestatic 55, 9999, 0)],
  [(72, .aload_n 0, 0, 0), (73, .getfield 46, 1, 1), (76, .ireturn, 0, 0)]]
/-- SnapshotRings.read(II)I -/
def sn_c16 : List (List (Nat × sn_E)) := [[(0, .aload_n 0, 0, 0), (1, .iload_n 1, 0, 0), (2, .iload_n 2, 0, 0), (3, .invokevirtual 66, 17, 0), (6, .istore_n 3, 0, 0), (7, .iload_n 3, 0, 0)],
  [(8, .ifCond .eq (5), 13, 0), (11, .iload_n 3, 0, 0), (12, .ireturn, 0, 0), (13, .aload_n 0, 0, 0), (14, .getfield 22, 0, 2)],
  [(17, .aload_n 0, 0, 0), (18, .getfield 12, 0, 0), (21, .invokevirtual 40, 6, 0)],
  [(24, .aload_n 0, 0, 0), (25, .getfield 12, 0, 0), (28, .iload_n 1, 0, 0), (29, .iload_n 2, 0, 0), (30, .invokevirtual 70, 20, 0)],
  [(33, .ireturn, 0, 0)]]
/-- SnapshotRings.errorOfRead(II)I -/
def sn_c17 : List (List (Nat × sn_E)) := [[(0, .iload_n 2, 0, 0), (1, .invokestatic 111, 18, 0), (4, .ifCond .eq (11), 15, 0), (7, .aload_n 0, 0, 0)],
  [(8, .iload_n 1, 0, 0), (9, .invokevirtual 80, 19, 0), (12, .goto (6), 18, 0), (15, .sipush (-20001), 20001, 1)],
  [(18, .ireturn, 0, 0)]]
/-- SnapshotRings.isKey(I)Z -/
def sn_c18 : List (List (Nat × sn_E)) := [[(0, .iload_n 0, 0, 0), (1, .ifCond .lt (13), 14, 0), (4, .iload_n 0, 0, 0), (5, .bipush (12), 12, 0), (7, .if_icmp .ge (7), 14, 0)],
  [(10, .iconst (1), 1, 0), (11, .goto (4), 15, 0), (14, .iconst (0), 0, 0), (15, .ireturn, 0, 0)]]
/-- SnapshotRings.errorOfSlot(I)I -/
def sn_c19 : List (List (Nat × sn_E)) := [[(0, .iload_n 1, 0, 0), (1, .invokestatic 218, 12, 0), (4, .ifCond .eq (18), 22, 0), (7, .aload_n 0, 0, 0)],
  [(8, .getfield 12, 0, 0), (11, .iload_n 1, 0, 0), (12, .invokevirtual 169, 13, 0), (15, .ifCond .eq (7), 22, 0)],
  [(18, .iconst (0), 0, 0), (19, .goto (6), 25, 0), (22, .sipush (-20001), 20001, 1)],
  [(25, .ireturn, 0, 0)]]
/-- SnapshotRings$State.readKey(II)I -/
def sn_c20 : List (List (Nat × sn_E)) := [[(0, .aload_n 0, 0, 0), (1, .getfield 33, 1, 11), (4, .iload_n 1, 0, 0), (5, .iaload, 0, 0), (6, .iload_n 2, 0, 0), (7, .invokestatic 61, 14, 1)],
  [(10, .ifCond .ne (15), 25, 0), (13, .aload_n 0, 0, 0), (14, .getfield 30, 1, 10)],
  [(17, .iload_n 1, 0, 0), (18, .dup2, 0, 0), (19, .iaload, 0, 0), (20, .iconst (1), 1, 0), (21, .iload_n 2, 0, 0), (22, .ishl, 0, 0), (23, .ior, 0, 0)],
  [(24, .iastore, 0, 0), (25, .aload_n 0, 0, 0), (26, .getfield 39, 1, 13), (29, .iload_n 1, 0, 0), (30, .bipush (12), 12, 0)],
  [(32, .imul, 0, 0), (33, .iload_n 2, 0, 0), (34, .iadd, 0, 0), (35, .iaload, 0, 0), (36, .ireturn, 0, 0)]]
/-- SnapshotRings.write(III)I -/
def sn_c21 : List (List (Nat × sn_E)) := [[(0, .aload_n 0, 0, 0), (1, .iload_n 1, 0, 0), (2, .iload_n 2, 0, 0), (3, .iload_n 3, 0, 0), (4, .invokevirtual 73, 22, 0), (7, .istore 4, 4, 0)],
  [(9, .iload 4, 4, 0), (11, .ifCond .eq (6), 17, 0), (14, .iload 4, 4, 0)],
  [(16, .ireturn, 0, 0), (17, .aload_n 0, 0, 0), (18, .getfield 22, 0, 2), (21, .aload_n 0, 0, 0), (22, .getfield 12, 0, 0)],
  [(25, .invokevirtual 40, 6, 0), (28, .aload_n 0, 0, 0), (29, .getfield 12, 0, 0)],
  [(32, .iload_n 1, 0, 0), (33, .iload_n 2, 0, 0), (34, .iload_n 3, 0, 0), (35, .invokevirtual 77, 23, 0), (38, .ireturn, 0, 0)]]
/-- SnapshotRings.errorOfWrite(III)I -/
def sn_c22 : List (List (Nat × sn_E)) := [[(0, .aload_n 0, 0, 0), (1, .iload_n 1, 0, 0), (2, .iload_n 2, 0, 0), (3, .invokevirtual 66, 17, 0), (6, .istore 4, 4, 0)],
  [(8, .iload 4, 4, 0), (10, .ifCond .eq (6), 16, 0), (13, .iload 4, 4, 0), (15, .ireturn, 0, 0)],
  [(16, .iload_n 3, 0, 0), (17, .sipush (-999), 999, 1), (20, .if_icmp .lt (10), 30, 0), (23, .iload_n 3, 0, 0)],
  [(24, .sipush (999), 999, 0), (27, .if_icmp .le (9), 36, 0), (30, .sipush (-20002), 20002, 1)],
  [(33, .goto (4), 37, 0), (36, .iconst (0), 0, 0), (37, .ireturn, 0, 0)]]
/-- SnapshotRings$State.writeKey(III)I -/
def sn_c23 : List (List (Nat × sn_E)) := [[(0, .aload_n 0, 0, 0), (1, .getfield 33, 1, 11), (4, .iload_n 1, 0, 0), (5, .dup2, 0, 0), (6, .iaload, 0, 0), (7, .iconst (1), 1, 0)],
  [(8, .iload_n 2, 0, 0), (9, .ishl, 0, 0), (10, .ior, 0, 0), (11, .iastore, 0, 0), (12, .aload_n 0, 0, 0), (13, .getfield 39, 1, 13)],
  [(16, .iload_n 1, 0, 0), (17, .bipush (12), 12, 0), (19, .imul, 0, 0), (20, .iload_n 2, 0, 0), (21, .iadd, 0, 0), (22, .iload_n 3, 0, 0), (23, .iastore, 0, 0)],
  [(24, .aload_n 0, 0, 0), (25, .getfield 33, 1, 11), (28, .iload_n 1, 0, 0), (29, .iaload, 0, 0), (30, .invokestatic 65, 24, 0)],
  [(33, .ireturn, 0, 0)]]
/-- java/lang/Integer.bitCount(I)I -/
def sn_c24 : List (List (Nat × sn_E)) := [[(0, .iload_n 0, 0, 0), (1, .iload_n 0, 0, 0), (2, .iconst (1), 1, 0), (3, .iushr, 0, 0), (4, .ldc_w 265, 1431655765, 0), (7, .iand, 0, 0)],
  [(8, .isub, 0, 0), (9, .istore_n 0, 0, 0), (10, .iload_n 0, 0, 0), (11, .ldc_w 266, 858993459, 0), (14, .iand, 0, 0), (15, .iload_n 0, 0, 0)],
  [(16, .iconst (2), 2, 0), (17, .iushr, 0, 0), (18, .ldc_w 266, 858993459, 0), (21, .iand, 0, 0), (22, .iadd, 0, 0), (23, .istore_n 0, 0, 0)],
  [(24, .iload_n 0, 0, 0), (25, .iload_n 0, 0, 0), (26, .iconst (4), 4, 0), (27, .iushr, 0, 0), (28, .iadd, 0, 0), (29, .ldc_w 267, 252645135, 0)],
  [(32, .iand, 0, 0), (33, .istore_n 0, 0, 0), (34, .iload_n 0, 0, 0), (35, .iload_n 0, 0, 0), (36, .bipush (8), 8, 0), (38, .iushr, 0, 0), (39, .iadd, 0, 0)],
  [(40, .istore_n 0, 0, 0), (41, .iload_n 0, 0, 0), (42, .iload_n 0, 0, 0), (43, .bipush (16), 16, 0), (45, .iushr, 0, 0), (46, .iadd, 0, 0), (47, .istore_n 0, 0, 0)],
  [(48, .iload_n 0, 0, 0), (49, .bipush (63), 63, 0), (51, .iand, 0, 0), (52, .ireturn, 0, 0)]]
/-- SnapshotRings.commit(I)I -/
def sn_c25 : List (List (Nat × sn_E)) := [[(0, .aload_n 0, 0, 0), (1, .iload_n 1, 0, 0), (2, .invokevirtual 80, 19, 0), (5, .istore_n 2, 0, 0), (6, .iload_n 2, 0, 0), (7, .ifCond .eq (5), 12, 0)],
  [(10, .iload_n 2, 0, 0), (11, .ireturn, 0, 0), (12, .aload_n 0, 0, 0), (13, .getfield 22, 0, 2)],
  [(16, .aload_n 0, 0, 0), (17, .getfield 12, 0, 0), (20, .invokevirtual 40, 6, 0), (23, .aload_n 0, 0, 0)],
  [(24, .aload_n 0, 0, 0), (25, .getfield 12, 0, 0), (28, .iload_n 1, 0, 0), (29, .invokevirtual 83, 26, 0)],
  [(32, .ireturn, 0, 0)]]
/-- SnapshotRings.finish(LSnapshotRings$State;I)I -/
def sn_c26 : List (List (Nat × sn_E)) := [[(0, .aload_n 0, 0, 0), (1, .aload_n 1, 0, 0), (2, .iload_n 2, 0, 0), (3, .aload_n 1, 0, 0), (4, .getfield 44, 1, 0), (7, .invokevirtual 120, 27, 0)],
  [(10, .istore_n 3, 0, 0), (11, .iload_n 3, 0, 0), (12, .ifCond .eq (12), 24, 0), (15, .aload_n 1, 0, 0)],
  [(16, .iload_n 2, 0, 0), (17, .iload_n 3, 0, 0), (18, .invokevirtual 231, 41, 0), (21, .iload_n 3, 0, 0), (22, .ineg, 0, 0), (23, .ireturn, 0, 0)],
  [(24, .aload_n 1, 0, 0), (25, .iload_n 2, 0, 0), (26, .invokevirtual 235, 43, 0), (29, .ireturn, 0, 0)]]
/-- SnapshotRings.reasonToRefuse(LSnapshotRings$State;II)I -/
def sn_c27 : List (List (Nat × sn_E)) := [[(0, .aload_n 1, 0, 0), (1, .iload_n 2, 0, 0), (2, .invokevirtual 221, 28, 0), (5, .ifCond .eq (5), 10, 0)],
  [(8, .iconst (1), 1, 0), (9, .ireturn, 0, 0), (10, .iload_n 3, 0, 0), (11, .iconst (1), 1, 0), (12, .if_icmp .ge (5), 17, 0), (15, .iconst (0), 0, 0)],
  [(16, .ireturn, 0, 0), (17, .aload_n 0, 0, 0), (18, .getfield 29, 0, 3), (21, .aload_n 1, 0, 0), (22, .invokevirtual 137, 29, 0)],
  [(25, .aload_n 0, 0, 0), (26, .getfield 29, 0, 3), (29, .aload_n 1, 0, 0), (30, .iload_n 2, 0, 0), (31, .invokevirtual 140, 35, 0)],
  [(34, .aload_n 0, 0, 0), (35, .getfield 29, 0, 3), (38, .invokevirtual 144, 36, 0)],
  [(41, .aload_n 0, 0, 0), (42, .getfield 29, 0, 3), (45, .getfield 224, 3, 9)],
  [(48, .ifCond .le (5), 53, 0), (51, .iconst (2), 2, 0), (52, .ireturn, 0, 0), (53, .iload_n 3, 0, 0), (54, .iconst (2), 2, 0), (55, .if_icmp .ge (5), 60, 0)],
  [(58, .iconst (0), 0, 0), (59, .ireturn, 0, 0), (60, .aload_n 0, 0, 0), (61, .getfield 29, 0, 3)],
  [(64, .invokevirtual 227, 40, 0), (67, .ifCond .eq (7), 74, 0), (70, .iconst (3), 3, 0), (71, .goto (4), 75, 0)],
  [(74, .iconst (0), 0, 0), (75, .ireturn, 0, 0)]]
/-- SnapshotRings$State.overwritesNewer(I)Z -/
def sn_c28 : List (List (Nat × sn_E)) := [[(0, .iconst (0), 0, 0), (1, .istore_n 2, 0, 0), (2, .iload_n 2, 0, 0), (3, .bipush (12), 12, 0), (5, .if_icmp .ge (39), 44, 0)],
  [(8, .aload_n 0, 0, 0), (9, .getfield 33, 1, 11), (12, .iload_n 1, 0, 0), (13, .iaload, 0, 0), (14, .iload_n 2, 0, 0), (15, .invokestatic 61, 14, 1)],
  [(18, .ifCond .eq (20), 38, 0), (21, .aload_n 0, 0, 0), (22, .getfield 24, 1, 8)],
  [(25, .iload_n 2, 0, 0), (26, .iaload, 0, 0), (27, .aload_n 0, 0, 0), (28, .getfield 27, 1, 9), (31, .iload_n 1, 0, 0)],
  [(32, .iaload, 0, 0), (33, .if_icmp .le (5), 38, 0), (36, .iconst (1), 1, 0), (37, .ireturn, 0, 0), (38, .iinc 2 (1), 1, 0)],
  [(41, .goto (-39), 2, 0), (44, .iconst (0), 0, 0), (45, .ireturn, 0, 0)]]
/-- SnapshotRings$Graph.load(LSnapshotRings$State;)V -/
def sn_c29 : List (List (Nat × sn_E)) := [[(0, .aload_n 0, 0, 0), (1, .aload_n 1, 0, 0), (2, .invokevirtual 36, 30, 0), (5, .putfield 42, 3, 0)],
  [(8, .aload_n 1, 0, 0), (9, .getfield 46, 1, 1), (12, .aload_n 0, 0, 0), (13, .getfield 42, 3, 0)],
  [(16, .isub, 0, 0), (17, .iconst (1), 1, 0), (18, .iadd, 0, 0), (19, .istore_n 2, 0, 0), (20, .iconst (0), 0, 0), (21, .istore_n 3, 0, 0), (22, .iload_n 3, 0, 0), (23, .aload_n 0, 0, 0)],
  [(24, .getfield 42, 3, 0), (27, .if_icmp .ge (24), 51, 0), (30, .aload_n 0, 0, 0), (31, .iload_n 3, 0, 0)],
  [(32, .aload_n 1, 0, 0), (33, .iload_n 2, 0, 0), (34, .iload_n 3, 0, 0), (35, .iadd, 0, 0), (36, .invokevirtual 49, 31, 0), (39, .iload_n 2, 0, 0)],
  [(40, .iload_n 3, 0, 0), (41, .iadd, 0, 0), (42, .invokevirtual 53, 32, 0), (45, .iinc 3 (1), 1, 0)],
  [(48, .goto (-26), 22, 0), (51, .iconst (0), 0, 0), (52, .istore_n 3, 0, 0), (53, .iload_n 3, 0, 0), (54, .aload_n 0, 0, 0), (55, .getfield 42, 3, 0)],
  [(58, .if_icmp .ge (41), 99, 0), (61, .iconst (0), 0, 0), (62, .istore 4, 4, 0)],
  [(64, .iload 4, 4, 0), (66, .aload_n 0, 0, 0), (67, .getfield 42, 3, 0), (70, .if_icmp .ge (23), 93, 0)],
  [(73, .iload_n 3, 0, 0), (74, .iload 4, 4, 0), (76, .if_icmp .eq (11), 87, 0), (79, .aload_n 0, 0, 0)],
  [(80, .aload_n 1, 0, 0), (81, .iload_n 3, 0, 0), (82, .iload 4, 4, 0), (84, .invokevirtual 57, 33, 0), (87, .iinc 4 (1), 1, 0)],
  [(90, .goto (-26), 64, 0), (93, .iinc 3 (1), 1, 0)],
  [(96, .goto (-43), 53, 0), (99, .return_, 0, 0)]]
/-- SnapshotRings$State.keptCommits()I -/
def sn_c30 : List (List (Nat × sn_E)) := [[(0, .aload_n 0, 0, 0), (1, .getfield 46, 1, 1), (4, .bipush (16), 16, 0), (6, .invokestatic 78, 9997, 0)],
  [(9, .ireturn, 0, 0)]]
/-- SnapshotRings$State.rowOfCommit(I)I -/
def sn_c31 : List (List (Nat × sn_E)) := [[(0, .bipush (8), 8, 0), (2, .iload_n 1, 0, 0), (3, .iconst (1), 1, 0), (4, .isub, 0, 0), (5, .bipush (15), 15, 0), (7, .iand, 0, 0)],
  [(8, .iadd, 0, 0), (9, .ireturn, 0, 0)]]
/-- SnapshotRings$Graph.setNode(III)V -/
def sn_c32 : List (List (Nat × sn_E)) := [[(0, .aload_n 0, 0, 0), (1, .getfield 9, 3, 1), (4, .iload_n 1, 0, 0), (5, .iload_n 2, 0, 0), (6, .iastore, 0, 0), (7, .aload_n 0, 0, 0)],
  [(8, .getfield 15, 3, 2), (11, .iload_n 1, 0, 0), (12, .iload_n 3, 0, 0), (13, .iastore, 0, 0), (14, .aload_n 0, 0, 0), (15, .getfield 21, 3, 4)],
  [(18, .iload_n 1, 0, 0), (19, .iconst (0), 0, 0), (20, .iastore, 0, 0), (21, .aload_n 0, 0, 0), (22, .getfield 24, 3, 5)],
  [(25, .iload_n 1, 0, 0), (26, .iconst (0), 0, 0), (27, .iastore, 0, 0), (28, .return_, 0, 0)]]
/-- SnapshotRings$Graph.link(LSnapshotRings$State;II)V -/
def sn_c33 : List (List (Nat × sn_E)) := [[(0, .aload_n 1, 0, 0), (1, .aload_n 0, 0, 0), (2, .getfield 9, 3, 1), (5, .iload_n 2, 0, 0), (6, .iaload, 0, 0), (7, .aload_n 0, 0, 0)],
  [(8, .getfield 15, 3, 2), (11, .iload_n 2, 0, 0), (12, .iaload, 0, 0), (13, .aload_n 0, 0, 0), (14, .getfield 9, 3, 1)],
  [(17, .iload_n 3, 0, 0), (18, .iaload, 0, 0), (19, .aload_n 0, 0, 0), (20, .getfield 15, 3, 2), (23, .iload_n 3, 0, 0)],
  [(24, .iaload, 0, 0), (25, .invokevirtual 61, 34, 0), (28, .istore 4, 4, 0), (30, .aload_n 0, 0, 0), (31, .getfield 18, 3, 3)],
  [(34, .iload_n 2, 0, 0), (35, .bipush (17), 17, 0), (37, .imul, 0, 0), (38, .iload_n 3, 0, 0), (39, .iadd, 0, 0)],
  [(40, .iload 4, 4, 0), (42, .iastore, 0, 0), (43, .iload 4, 4, 0), (45, .ifCond .eq (15), 60, 0)],
  [(48, .aload_n 0, 0, 0), (49, .getfield 21, 3, 4), (52, .iload_n 2, 0, 0), (53, .dup2, 0, 0), (54, .iaload, 0, 0), (55, .iconst (1), 1, 0)],
  [(56, .iload_n 3, 0, 0), (57, .ishl, 0, 0), (58, .ior, 0, 0), (59, .iastore, 0, 0), (60, .iload 4, 4, 0), (62, .iconst (4), 4, 0), (63, .iand, 0, 0)],
  [(64, .ifCond .eq (15), 79, 0), (67, .aload_n 0, 0, 0), (68, .getfield 24, 3, 5), (71, .iload_n 2, 0, 0)],
  [(72, .dup2, 0, 0), (73, .iaload, 0, 0), (74, .iconst (1), 1, 0), (75, .iload_n 3, 0, 0), (76, .ishl, 0, 0), (77, .ior, 0, 0), (78, .iastore, 0, 0), (79, .return_, 0, 0)]]
/-- SnapshotRings$State.dependencySum(IIII)I -/
def sn_c34 : List (List (Nat × sn_E)) := [[(0, .iload_n 2, 0, 0), (1, .iload 4, 4, 0), (3, .if_icmp .ge (23), 26, 0), (6, .aload_n 0, 0, 0), (7, .getfield 33, 1, 11)],
  [(10, .iload_n 1, 0, 0), (11, .iaload, 0, 0), (12, .aload_n 0, 0, 0), (13, .getfield 33, 1, 11)],
  [(16, .iload_n 3, 0, 0), (17, .iaload, 0, 0), (18, .iand, 0, 0), (19, .ifCond .eq (7), 26, 0), (22, .iconst (1), 1, 0), (23, .goto (4), 27, 0)],
  [(26, .iconst (0), 0, 0), (27, .istore 5, 5, 0), (29, .aload_n 0, 0, 0), (30, .getfield 33, 1, 11)],
  [(33, .iload_n 1, 0, 0), (34, .iaload, 0, 0), (35, .aload_n 0, 0, 0), (36, .getfield 30, 1, 10), (39, .iload_n 3, 0, 0)],
  [(40, .iaload, 0, 0), (41, .iand, 0, 0), (42, .istore 6, 6, 0), (44, .aload_n 0, 0, 0), (45, .getfield 30, 1, 10)],
  [(48, .iload_n 1, 0, 0), (49, .iaload, 0, 0), (50, .aload_n 0, 0, 0), (51, .getfield 33, 1, 11), (54, .iload_n 3, 0, 0), (55, .iaload, 0, 0)],
  [(56, .iand, 0, 0), (57, .istore 7, 7, 0), (59, .iload 6, 6, 0), (61, .iload 7, 7, 0), (63, .ior, 0, 0)],
  [(64, .ifCond .ne (6), 70, 0), (67, .iload 5, 5, 0), (69, .ireturn, 0, 0), (70, .iconst (0), 0, 0), (71, .istore 8, 8, 0)],
  [(73, .iload 8, 8, 0), (75, .bipush (12), 12, 0), (77, .if_icmp .ge (76), 153, 0)],
  [(80, .iconst (1), 1, 0), (81, .iload 8, 8, 0), (83, .ishl, 0, 0), (84, .istore 9, 9, 0), (86, .iload 6, 6, 0)],
  [(88, .iload 9, 9, 0), (90, .iand, 0, 0), (91, .ifCond .eq (25), 116, 0), (94, .aload_n 0, 0, 0), (95, .getfield 36, 1, 12)],
  [(98, .iload_n 3, 0, 0), (99, .bipush (12), 12, 0), (101, .imul, 0, 0), (102, .iload 8, 8, 0)],
  [(104, .iadd, 0, 0), (105, .iaload, 0, 0), (106, .iload_n 2, 0, 0), (107, .if_icmp .ne (9), 116, 0), (110, .iload 5, 5, 0)],
  [(112, .iconst (2), 2, 0), (113, .ior, 0, 0), (114, .istore 5, 5, 0), (116, .iload 7, 7, 0), (118, .iload 9, 9, 0)],
  [(120, .iand, 0, 0), (121, .ifCond .eq (26), 147, 0), (124, .aload_n 0, 0, 0), (125, .getfield 36, 1, 12)],
  [(128, .iload_n 1, 0, 0), (129, .bipush (12), 12, 0), (131, .imul, 0, 0), (132, .iload 8, 8, 0), (134, .iadd, 0, 0), (135, .iaload, 0, 0)],
  [(136, .iload 4, 4, 0), (138, .if_icmp .ge (9), 147, 0), (141, .iload 5, 5, 0), (143, .iconst (4), 4, 0)],
  [(144, .ior, 0, 0), (145, .istore 5, 5, 0), (147, .iinc 8 (1), 1, 0), (150, .goto (-77), 73, 0)],
  [(153, .iload 5, 5, 0), (155, .ireturn, 0, 0)]]
/-- SnapshotRings$Graph.join(LSnapshotRings$State;I)V -/
def sn_c35 : List (List (Nat × sn_E)) := [[(0, .aload_n 0, 0, 0), (1, .getfield 42, 3, 0), (4, .bipush (17), 17, 0), (6, .if_icmp .lt (4), 10, 0)],
  [(9, .return_, 0, 0), (10, .aload_n 0, 0, 0), (11, .getfield 42, 3, 0), (14, .istore_n 3, 0, 0), (15, .aload_n 0, 0, 0)],
  [(16, .dup, 0, 0), (17, .getfield 42, 3, 0), (20, .iconst (1), 1, 0), (21, .iadd, 0, 0), (22, .putfield 42, 3, 0)],
  [(25, .aload_n 0, 0, 0), (26, .iload_n 3, 0, 0), (27, .iload_n 2, 0, 0), (28, .aload_n 1, 0, 0), (29, .getfield 46, 1, 1)],
  [(32, .iconst (1), 1, 0), (33, .iadd, 0, 0), (34, .invokevirtual 53, 32, 0), (37, .iconst (0), 0, 0), (38, .istore 4, 4, 0)],
  [(40, .iload 4, 4, 0), (42, .iload_n 3, 0, 0), (43, .if_icmp .ge (25), 68, 0), (46, .aload_n 0, 0, 0), (47, .aload_n 1, 0, 0)],
  [(48, .iload 4, 4, 0), (50, .iload_n 3, 0, 0), (51, .invokevirtual 57, 33, 0), (54, .aload_n 0, 0, 0), (55, .aload_n 1, 0, 0)],
  [(56, .iload_n 3, 0, 0), (57, .iload 4, 4, 0), (59, .invokevirtual 57, 33, 0), (62, .iinc 4 (1), 1, 0)],
  [(65, .goto (-25), 40, 0), (68, .return_, 0, 0)]]
/-- SnapshotRings$Graph.findRing()V -/
def sn_c36 : List (List (Nat × sn_E)) := [[(0, .aload_n 0, 0, 0), (1, .iconst (0), 0, 0), (2, .putfield 65, 3, 9), (5, .aload_n 0, 0, 0), (6, .getfield 42, 3, 0)],
  [(9, .iconst (1), 1, 0), (10, .isub, 0, 0), (11, .istore_n 1, 0, 0), (12, .iload_n 1, 0, 0), (13, .ifCond .ge (4), 17, 0)],
  [(16, .return_, 0, 0), (17, .aload_n 0, 0, 0), (18, .iload_n 1, 0, 0), (19, .invokevirtual 68, 37, 0), (22, .bipush (17), 17, 0)],
  [(24, .istore_n 2, 0, 0), (25, .iconst (0), 0, 0), (26, .istore_n 3, 0, 0), (27, .iload_n 3, 0, 0), (28, .iload_n 1, 0, 0), (29, .if_icmp .ge (33), 62, 0)],
  [(32, .aload_n 0, 0, 0), (33, .getfield 21, 3, 4), (36, .iload_n 1, 0, 0), (37, .iaload, 0, 0), (38, .iload_n 3, 0, 0), (39, .invokestatic 72, 14, 1)],
  [(42, .ifCond .eq (14), 56, 0), (45, .iload_n 2, 0, 0), (46, .aload_n 0, 0, 0), (47, .getfield 30, 3, 7)],
  [(50, .iload_n 3, 0, 0), (51, .iaload, 0, 0), (52, .invokestatic 76, 9997, 0), (55, .istore_n 2, 0, 0)],
  [(56, .iinc 3 (1), 1, 0), (59, .goto (-32), 27, 0), (62, .iload_n 2, 0, 0), (63, .bipush (17), 17, 0)],
  [(65, .if_icmp .ne (4), 69, 0), (68, .return_, 0, 0), (69, .iload_n 1, 0, 0), (70, .istore_n 3, 0, 0), (71, .iload_n 2, 0, 0)],
  [(72, .istore 4, 4, 0), (74, .iload 4, 4, 0), (76, .ifCond .le (22), 98, 0), (79, .aload_n 0, 0, 0)],
  [(80, .iload_n 3, 0, 0), (81, .iload 4, 4, 0), (83, .invokevirtual 82, 38, 0), (86, .istore_n 3, 0, 0), (87, .aload_n 0, 0, 0)],
  [(88, .iload_n 3, 0, 0), (89, .invokevirtual 85, 39, 0), (92, .iinc 4 (-1), 1, 1), (95, .goto (-21), 74, 0)],
  [(98, .return_, 0, 0)]]
/-- SnapshotRings$Graph.countSteps(I)V -/
def sn_c37 : List (List (Nat × sn_E)) := [[(0, .iconst (0), 0, 0), (1, .istore_n 2, 0, 0), (2, .iload_n 2, 0, 0), (3, .aload_n 0, 0, 0), (4, .getfield 42, 3, 0), (7, .if_icmp .ge (17), 24, 0)],
  [(10, .aload_n 0, 0, 0), (11, .getfield 30, 3, 7), (14, .iload_n 2, 0, 0), (15, .bipush (17), 17, 0)],
  [(17, .iastore, 0, 0), (18, .iinc 2 (1), 1, 0), (21, .goto (-19), 2, 0)],
  [(24, .aload_n 0, 0, 0), (25, .getfield 30, 3, 7), (28, .iload_n 1, 0, 0), (29, .iconst (0), 0, 0), (30, .iastore, 0, 0), (31, .iconst (1), 1, 0)],
  [(32, .iload_n 1, 0, 0), (33, .ishl, 0, 0), (34, .istore_n 2, 0, 0), (35, .iconst (1), 1, 0), (36, .istore_n 3, 0, 0), (37, .iload_n 3, 0, 0), (38, .aload_n 0, 0, 0), (39, .getfield 42, 3, 0)],
  [(42, .if_icmp .ge (74), 116, 0), (45, .iconst (0), 0, 0), (46, .istore 4, 4, 0)],
  [(48, .iconst (0), 0, 0), (49, .istore 5, 5, 0), (51, .iload 5, 5, 0), (53, .aload_n 0, 0, 0), (54, .getfield 42, 3, 0)],
  [(57, .if_icmp .ge (50), 107, 0), (60, .aload_n 0, 0, 0), (61, .getfield 30, 3, 7)],
  [(64, .iload 5, 5, 0), (66, .iaload, 0, 0), (67, .bipush (17), 17, 0), (69, .if_icmp .ne (32), 101, 0)],
  [(72, .aload_n 0, 0, 0), (73, .getfield 21, 3, 4), (76, .iload 5, 5, 0), (78, .iaload, 0, 0), (79, .iload_n 2, 0, 0)],
  [(80, .iand, 0, 0), (81, .ifCond .eq (20), 101, 0), (84, .aload_n 0, 0, 0), (85, .getfield 30, 3, 7)],
  [(88, .iload 5, 5, 0), (90, .iload_n 3, 0, 0), (91, .iastore, 0, 0), (92, .iload 4, 4, 0), (94, .iconst (1), 1, 0), (95, .iload 5, 5, 0)],
  [(97, .ishl, 0, 0), (98, .ior, 0, 0), (99, .istore 4, 4, 0), (101, .iinc 5 (1), 1, 0)],
  [(104, .goto (-53), 51, 0), (107, .iload 4, 4, 0), (109, .istore_n 2, 0, 0), (110, .iinc 3 (1), 1, 0)],
  [(113, .goto (-76), 37, 0), (116, .return_, 0, 0)]]
/-- SnapshotRings$Graph.lowestBehind(II)I -/
def sn_c38 : List (List (Nat × sn_E)) := [[(0, .iconst (0), 0, 0), (1, .istore_n 3, 0, 0), (2, .iload_n 3, 0, 0), (3, .aload_n 0, 0, 0), (4, .getfield 42, 3, 0), (7, .if_icmp .ge (34), 41, 0)],
  [(10, .aload_n 0, 0, 0), (11, .getfield 21, 3, 4), (14, .iload_n 1, 0, 0), (15, .iaload, 0, 0)],
  [(16, .iload_n 3, 0, 0), (17, .invokestatic 72, 14, 1), (20, .ifCond .eq (15), 35, 0), (23, .aload_n 0, 0, 0)],
  [(24, .getfield 30, 3, 7), (27, .iload_n 3, 0, 0), (28, .iaload, 0, 0), (29, .iload_n 2, 0, 0), (30, .if_icmp .ne (5), 35, 0)],
  [(33, .iload_n 3, 0, 0), (34, .ireturn, 0, 0), (35, .iinc 3 (1), 1, 0), (38, .goto (-36), 2, 0)],
  [(41, .iload_n 1, 0, 0), (42, .ireturn, 0, 0)]]
/-- SnapshotRings$Graph.tell(I)V -/
def sn_c39 : List (List (Nat × sn_E)) := [[(0, .aload_n 0, 0, 0), (1, .getfield 33, 3, 8), (4, .aload_n 0, 0, 0), (5, .getfield 65, 3, 9)],
  [(8, .aload_n 0, 0, 0), (9, .getfield 15, 3, 2), (12, .iload_n 1, 0, 0), (13, .iaload, 0, 0), (14, .iastore, 0, 0), (15, .aload_n 0, 0, 0)],
  [(16, .dup, 0, 0), (17, .getfield 65, 3, 9), (20, .iconst (1), 1, 0), (21, .iadd, 0, 0), (22, .putfield 65, 3, 9)],
  [(25, .return_, 0, 0)]]
/-- SnapshotRings$Graph.hasPivot()Z -/
def sn_c40 : List (List (Nat × sn_E)) := [[(0, .aload_n 0, 0, 0), (1, .getfield 42, 3, 0), (4, .iconst (1), 1, 0), (5, .isub, 0, 0), (6, .istore_n 1, 0, 0), (7, .iload_n 1, 0, 0)],
  [(8, .ifCond .ge (5), 13, 0), (11, .iconst (0), 0, 0), (12, .ireturn, 0, 0), (13, .iconst (0), 0, 0), (14, .istore_n 2, 0, 0), (15, .iconst (0), 0, 0)],
  [(16, .istore_n 3, 0, 0), (17, .iconst (0), 0, 0), (18, .istore 4, 4, 0), (20, .iload 4, 4, 0), (22, .aload_n 0, 0, 0), (23, .getfield 42, 3, 0)],
  [(26, .if_icmp .ge (36), 62, 0), (29, .iload_n 2, 0, 0), (30, .aload_n 0, 0, 0), (31, .getfield 24, 3, 5)],
  [(34, .iload 4, 4, 0), (36, .iaload, 0, 0), (37, .ior, 0, 0), (38, .istore_n 2, 0, 0), (39, .aload_n 0, 0, 0)],
  [(40, .getfield 24, 3, 5), (43, .iload 4, 4, 0), (45, .iaload, 0, 0), (46, .ifCond .eq (10), 56, 0)],
  [(49, .iload_n 3, 0, 0), (50, .iconst (1), 1, 0), (51, .iload 4, 4, 0), (53, .ishl, 0, 0), (54, .ior, 0, 0), (55, .istore_n 3, 0, 0)],
  [(56, .iinc 4 (1), 1, 0), (59, .goto (-39), 20, 0), (62, .iload_n 2, 0, 0), (63, .iload_n 3, 0, 0)],
  [(64, .iand, 0, 0), (65, .istore 4, 4, 0), (67, .iload 4, 4, 0), (69, .iload_n 1, 0, 0), (70, .invokestatic 72, 14, 1)],
  [(73, .ifCond .ne (15), 88, 0), (76, .aload_n 0, 0, 0), (77, .getfield 24, 3, 5)],
  [(80, .iload_n 1, 0, 0), (81, .iaload, 0, 0), (82, .iload 4, 4, 0), (84, .iand, 0, 0), (85, .ifCond .eq (5), 90, 0)],
  [(88, .iconst (1), 1, 0), (89, .ireturn, 0, 0), (90, .iconst (0), 0, 0), (91, .istore 5, 5, 0), (93, .iload 5, 5, 0), (95, .iload_n 1, 0, 0)],
  [(96, .if_icmp .ge (35), 131, 0), (99, .iload 4, 4, 0), (101, .iload 5, 5, 0), (103, .invokestatic 72, 14, 1)],
  [(106, .ifCond .eq (19), 125, 0), (109, .aload_n 0, 0, 0), (110, .getfield 24, 3, 5)],
  [(113, .iload 5, 5, 0), (115, .iaload, 0, 0), (116, .iload_n 1, 0, 0), (117, .invokestatic 72, 14, 1)],
  [(120, .ifCond .eq (5), 125, 0), (123, .iconst (1), 1, 0), (124, .ireturn, 0, 0), (125, .iinc 5 (1), 1, 0)],
  [(128, .goto (-35), 93, 0), (131, .iconst (0), 0, 0), (132, .ireturn, 0, 0)]]
/-- SnapshotRings$State.refuse(II)V -/
def sn_c41 : List (List (Nat × sn_E)) := [[(0, .aload_n 0, 0, 0), (1, .iload_n 1, 0, 0), (2, .invokevirtual 71, 42, 0), (5, .aload_n 0, 0, 0), (6, .getfield 9, 1, 4)],
  [(9, .iload_n 2, 0, 0), (10, .dup2, 0, 0), (11, .iaload, 0, 0), (12, .iconst (1), 1, 0), (13, .iadd, 0, 0), (14, .iastore, 0, 0), (15, .return_, 0, 0)]]
/-- SnapshotRings$State.free(I)V -/
def sn_c42 : List (List (Nat × sn_E)) := [[(0, .aload_n 0, 0, 0), (1, .dup, 0, 0), (2, .getfield 52, 1, 3), (5, .iconst (1), 1, 0), (6, .iload_n 1, 0, 0), (7, .ishl, 0, 0)],
  [(8, .iconst (-1), 1, 1), (9, .ixor, 0, 0), (10, .iand, 0, 0), (11, .putfield 52, 1, 3), (14, .return_, 0, 0)]]
/-- SnapshotRings$State.keepCommit(I)I -/
def sn_c43 : List (List (Nat × sn_E)) := [[(0, .aload_n 0, 0, 0), (1, .iload_n 1, 0, 0), (2, .invokevirtual 71, 42, 0), (5, .aload_n 0, 0, 0), (6, .dup, 0, 0), (7, .getfield 46, 1, 1)],
  [(10, .iconst (1), 1, 0), (11, .iadd, 0, 0), (12, .putfield 46, 1, 1), (15, .aload_n 0, 0, 0)],
  [(16, .aload_n 0, 0, 0), (17, .getfield 46, 1, 1), (20, .invokevirtual 75, 31, 0), (23, .istore_n 2, 0, 0)],
  [(24, .aload_n 0, 0, 0), (25, .getfield 27, 1, 9), (28, .iload_n 2, 0, 0), (29, .aload_n 0, 0, 0), (30, .getfield 27, 1, 9)],
  [(33, .iload_n 1, 0, 0), (34, .iaload, 0, 0), (35, .iastore, 0, 0), (36, .aload_n 0, 0, 0), (37, .getfield 30, 1, 10)],
  [(40, .iload_n 2, 0, 0), (41, .aload_n 0, 0, 0), (42, .getfield 30, 1, 10), (45, .iload_n 1, 0, 0), (46, .iaload, 0, 0), (47, .iastore, 0, 0)],
  [(48, .aload_n 0, 0, 0), (49, .getfield 33, 1, 11), (52, .iload_n 2, 0, 0), (53, .aload_n 0, 0, 0), (54, .getfield 33, 1, 11)],
  [(57, .iload_n 1, 0, 0), (58, .iaload, 0, 0), (59, .iastore, 0, 0), (60, .aload_n 0, 0, 0), (61, .getfield 36, 1, 12)],
  [(64, .iload_n 1, 0, 0), (65, .bipush (12), 12, 0), (67, .imul, 0, 0), (68, .aload_n 0, 0, 0), (69, .getfield 36, 1, 12)],
  [(72, .iload_n 2, 0, 0), (73, .bipush (12), 12, 0), (75, .imul, 0, 0), (76, .bipush (12), 12, 0), (78, .invokestatic 55, 9999, 0)],
  [(81, .iconst (0), 0, 0), (82, .istore_n 3, 0, 0), (83, .iload_n 3, 0, 0), (84, .bipush (12), 12, 0), (86, .if_icmp .ge (49), 135, 0)],
  [(89, .aload_n 0, 0, 0), (90, .getfield 33, 1, 11), (93, .iload_n 1, 0, 0), (94, .iaload, 0, 0), (95, .iload_n 3, 0, 0)],
  [(96, .invokestatic 61, 14, 1), (99, .ifCond .eq (30), 129, 0), (102, .aload_n 0, 0, 0), (103, .getfield 21, 1, 7)],
  [(106, .iload_n 3, 0, 0), (107, .aload_n 0, 0, 0), (108, .getfield 39, 1, 13), (111, .iload_n 1, 0, 0)],
  [(112, .bipush (12), 12, 0), (114, .imul, 0, 0), (115, .iload_n 3, 0, 0), (116, .iadd, 0, 0), (117, .iaload, 0, 0), (118, .iastore, 0, 0), (119, .aload_n 0, 0, 0)],
  [(120, .getfield 24, 1, 8), (123, .iload_n 3, 0, 0), (124, .aload_n 0, 0, 0), (125, .getfield 46, 1, 1)],
  [(128, .iastore, 0, 0), (129, .iinc 3 (1), 1, 0), (132, .goto (-49), 83, 0), (135, .aload_n 0, 0, 0)],
  [(136, .getfield 46, 1, 1), (139, .ireturn, 0, 0)]]
/-- SnapshotRings.abort(I)I -/
def sn_c44 : List (List (Nat × sn_E)) := [[(0, .aload_n 0, 0, 0), (1, .iload_n 1, 0, 0), (2, .invokevirtual 80, 19, 0), (5, .istore_n 2, 0, 0), (6, .iload_n 2, 0, 0), (7, .ifCond .eq (5), 12, 0)],
  [(10, .iload_n 2, 0, 0), (11, .ireturn, 0, 0), (12, .aload_n 0, 0, 0), (13, .getfield 22, 0, 2)],
  [(16, .aload_n 0, 0, 0), (17, .getfield 12, 0, 0), (20, .invokevirtual 40, 6, 0), (23, .aload_n 0, 0, 0)],
  [(24, .getfield 12, 0, 0), (27, .iload_n 1, 0, 0), (28, .invokevirtual 87, 45, 0), (31, .ireturn, 0, 0)]]
/-- SnapshotRings$State.giveUp(I)I -/
def sn_c45 : List (List (Nat × sn_E)) := [[(0, .aload_n 0, 0, 0), (1, .iload_n 1, 0, 0), (2, .invokevirtual 71, 42, 0), (5, .aload_n 0, 0, 0), (6, .dup, 0, 0), (7, .getfield 49, 1, 2)],
  [(10, .iconst (1), 1, 0), (11, .iadd, 0, 0), (12, .putfield 49, 1, 2), (15, .aload_n 0, 0, 0)],
  [(16, .getfield 33, 1, 11), (19, .iload_n 1, 0, 0), (20, .iaload, 0, 0), (21, .invokestatic 65, 24, 0)],
  [(24, .ireturn, 0, 0)]]
/-- SnapshotRings.count(I)I -/
def sn_c46 : List (List (Nat × sn_E)) := [[(0, .iload_n 1, 0, 0), (1, .tableswitch (120) (0) (7) #[47, 55, 66, 74, 82, 92, 102, 112], 0, 0)],
  [],
  [],
  [],
  [],
  [],
  [(48, .aload_n 0, 0, 0), (49, .getfield 12, 0, 0), (52, .getfield 90, 1, 1), (55, .ireturn, 0, 0)],
  [(56, .aload_n 0, 0, 0), (57, .getfield 12, 0, 0), (60, .getfield 93, 1, 3), (63, .invokestatic 96, 24, 0)],
  [(66, .ireturn, 0, 0), (67, .aload_n 0, 0, 0), (68, .getfield 12, 0, 0), (71, .getfield 44, 1, 0)],
  [(74, .ireturn, 0, 0), (75, .aload_n 0, 0, 0), (76, .getfield 12, 0, 0), (79, .invokevirtual 101, 30, 0)],
  [(82, .ireturn, 0, 0), (83, .aload_n 0, 0, 0), (84, .getfield 12, 0, 0), (87, .getfield 105, 1, 4)],
  [(90, .iconst (1), 1, 0), (91, .iaload, 0, 0), (92, .ireturn, 0, 0), (93, .aload_n 0, 0, 0), (94, .getfield 12, 0, 0)],
  [(97, .getfield 105, 1, 4), (100, .iconst (2), 2, 0), (101, .iaload, 0, 0), (102, .ireturn, 0, 0), (103, .aload_n 0, 0, 0)],
  [(104, .getfield 12, 0, 0), (107, .getfield 105, 1, 4), (110, .iconst (3), 3, 0), (111, .iaload, 0, 0)],
  [(112, .ireturn, 0, 0), (113, .aload_n 0, 0, 0), (114, .getfield 12, 0, 0), (117, .getfield 108, 1, 2)],
  [(120, .ireturn, 0, 0), (121, .sipush (-20002), 20002, 1), (124, .ireturn, 0, 0)]]
/-- SnapshotRings.value(I)I -/
def sn_c47 : List (List (Nat × sn_E)) := [[(0, .iload_n 1, 0, 0), (1, .invokestatic 111, 18, 0), (4, .ifCond .eq (15), 19, 0), (7, .aload_n 0, 0, 0)],
  [(8, .getfield 12, 0, 0), (11, .getfield 114, 1, 7), (14, .iload_n 1, 0, 0), (15, .iaload, 0, 0)],
  [(16, .goto (6), 22, 0), (19, .sipush (-20001), 20001, 1), (22, .ireturn, 0, 0)]]
/-- SnapshotRings.version(I)I -/
def sn_c48 : List (List (Nat × sn_E)) := [[(0, .iload_n 1, 0, 0), (1, .invokestatic 111, 18, 0), (4, .ifCond .eq (15), 19, 0), (7, .aload_n 0, 0, 0)],
  [(8, .getfield 12, 0, 0), (11, .getfield 117, 1, 8), (14, .iload_n 1, 0, 0), (15, .iaload, 0, 0)],
  [(16, .goto (6), 22, 0), (19, .sipush (-20001), 20001, 1), (22, .ireturn, 0, 0)]]
/-- SnapshotRings.of(II)I -/
def sn_c49 : List (List (Nat × sn_E)) := [[(0, .aload_n 0, 0, 0), (1, .iload_n 1, 0, 0), (2, .invokevirtual 80, 19, 0), (5, .istore_n 3, 0, 0), (6, .iload_n 3, 0, 0), (7, .ifCond .eq (5), 12, 0)],
  [(10, .iload_n 3, 0, 0), (11, .ireturn, 0, 0), (12, .iload_n 2, 0, 0), (13, .iconst (3), 3, 0), (14, .if_icmp .ne (20), 34, 0)],
  [(17, .aload_n 0, 0, 0), (18, .aload_n 0, 0, 0), (19, .getfield 12, 0, 0), (22, .iload_n 1, 0, 0), (23, .aload_n 0, 0, 0)],
  [(24, .getfield 12, 0, 0), (27, .getfield 44, 1, 0), (30, .invokevirtual 120, 27, 0)],
  [(33, .ireturn, 0, 0), (34, .aload_n 0, 0, 0), (35, .getfield 12, 0, 0), (38, .iload_n 1, 0, 0), (39, .iload_n 2, 0, 0)],
  [(40, .invokevirtual 124, 50, 0), (43, .ireturn, 0, 0)]]
/-- SnapshotRings$State.partOfRow(II)I -/
def sn_c50 : List (List (Nat × sn_E)) := [[(0, .iload_n 2, 0, 0), (1, .tableswitch (48) (0) (2) #[27, 34, 41], 0, 0)],
  [],
  [],
  [(28, .aload_n 0, 0, 0), (29, .getfield 27, 1, 9)],
  [(32, .iload_n 1, 0, 0), (33, .iaload, 0, 0), (34, .ireturn, 0, 0), (35, .aload_n 0, 0, 0), (36, .getfield 30, 1, 10), (39, .iload_n 1, 0, 0)],
  [(40, .iaload, 0, 0), (41, .ireturn, 0, 0), (42, .aload_n 0, 0, 0), (43, .getfield 33, 1, 11), (46, .iload_n 1, 0, 0), (47, .iaload, 0, 0)],
  [(48, .ireturn, 0, 0), (49, .sipush (-20002), 20002, 1), (52, .ireturn, 0, 0)]]
/-- SnapshotRings.ofCommit(II)I -/
def sn_c51 : List (List (Nat × sn_E)) := [[(0, .aload_n 0, 0, 0), (1, .getfield 12, 0, 0), (4, .iload_n 1, 0, 0), (5, .invokevirtual 127, 52, 0)],
  [(8, .ifCond .ne (7), 15, 0), (11, .sipush (-20001), 20001, 1), (14, .ireturn, 0, 0), (15, .aload_n 0, 0, 0)],
  [(16, .getfield 12, 0, 0), (19, .aload_n 0, 0, 0), (20, .getfield 12, 0, 0), (23, .iload_n 1, 0, 0)],
  [(24, .invokevirtual 130, 31, 0), (27, .iload_n 2, 0, 0), (28, .invokevirtual 124, 50, 0), (31, .ireturn, 0, 0)]]
/-- SnapshotRings$State.isKept(I)Z -/
def sn_c52 : List (List (Nat × sn_E)) := [[(0, .iload_n 1, 0, 0), (1, .iconst (1), 1, 0), (2, .if_icmp .lt (26), 28, 0), (5, .iload_n 1, 0, 0), (6, .aload_n 0, 0, 0), (7, .getfield 46, 1, 1)],
  [(10, .if_icmp .gt (18), 28, 0), (13, .iload_n 1, 0, 0), (14, .aload_n 0, 0, 0), (15, .getfield 46, 1, 1)],
  [(18, .bipush (16), 16, 0), (20, .isub, 0, 0), (21, .if_icmp .le (7), 28, 0)],
  [(24, .iconst (1), 1, 0), (25, .goto (4), 29, 0), (28, .iconst (0), 0, 0), (29, .ireturn, 0, 0)]]
/-- SnapshotRings.dependency(II)I -/
def sn_c53 : List (List (Nat × sn_E)) := [[(0, .aload_n 0, 0, 0), (1, .getfield 12, 0, 0), (4, .iload_n 1, 0, 0), (5, .invokevirtual 127, 52, 0)],
  [(8, .ifCond .eq (14), 22, 0), (11, .aload_n 0, 0, 0), (12, .getfield 12, 0, 0), (15, .iload_n 2, 0, 0)],
  [(16, .invokevirtual 127, 52, 0), (19, .ifCond .ne (7), 26, 0), (22, .sipush (-20001), 20001, 1)],
  [(25, .ireturn, 0, 0), (26, .iload_n 1, 0, 0), (27, .iload_n 2, 0, 0), (28, .if_icmp .ne (7), 35, 0), (31, .sipush (-20002), 20002, 1)],
  [(34, .ireturn, 0, 0), (35, .aload_n 0, 0, 0), (36, .getfield 12, 0, 0), (39, .aload_n 0, 0, 0)],
  [(40, .getfield 12, 0, 0), (43, .iload_n 1, 0, 0), (44, .invokevirtual 130, 31, 0), (47, .iload_n 1, 0, 0)],
  [(48, .aload_n 0, 0, 0), (49, .getfield 12, 0, 0), (52, .iload_n 2, 0, 0), (53, .invokevirtual 130, 31, 0)],
  [(56, .iload_n 2, 0, 0), (57, .invokevirtual 133, 34, 0), (60, .ireturn, 0, 0)]]
/-- SnapshotRings.ringOf(II)I -/
def sn_c54 : List (List (Nat × sn_E)) := [[(0, .aload_n 0, 0, 0), (1, .iload_n 1, 0, 0), (2, .invokevirtual 80, 19, 0), (5, .istore_n 3, 0, 0), (6, .iload_n 3, 0, 0), (7, .ifCond .eq (5), 12, 0)],
  [(10, .iload_n 3, 0, 0), (11, .ireturn, 0, 0), (12, .iload_n 2, 0, 0), (13, .iconst (1), 1, 0), (14, .if_icmp .ge (7), 21, 0)],
  [(17, .sipush (-20002), 20002, 1), (20, .ireturn, 0, 0), (21, .aload_n 0, 0, 0), (22, .getfield 29, 0, 3)],
  [(25, .aload_n 0, 0, 0), (26, .getfield 12, 0, 0), (29, .invokevirtual 137, 29, 0)],
  [(32, .aload_n 0, 0, 0), (33, .getfield 29, 0, 3), (36, .aload_n 0, 0, 0), (37, .getfield 12, 0, 0)],
  [(40, .iload_n 1, 0, 0), (41, .invokevirtual 140, 35, 0), (44, .aload_n 0, 0, 0), (45, .getfield 29, 0, 3)],
  [(48, .invokevirtual 144, 36, 0), (51, .aload_n 0, 0, 0), (52, .getfield 29, 0, 3), (55, .iload_n 2, 0, 0)],
  [(56, .iconst (1), 1, 0), (57, .isub, 0, 0), (58, .invokevirtual 147, 55, 0), (61, .ireturn, 0, 0)]]
/-- SnapshotRings$Graph.toldAt(I)I -/
def sn_c55 : List (List (Nat × sn_E)) := [[(0, .iload_n 1, 0, 0), (1, .ifCond .lt (20), 21, 0), (4, .iload_n 1, 0, 0), (5, .aload_n 0, 0, 0), (6, .getfield 65, 3, 9)],
  [(9, .if_icmp .ge (12), 21, 0), (12, .aload_n 0, 0, 0), (13, .getfield 33, 3, 8)],
  [(16, .iload_n 1, 0, 0), (17, .iaload, 0, 0), (18, .goto (6), 24, 0), (21, .sipush (-20006), 20006, 1)],
  [(24, .ireturn, 0, 0)]]
/-- SnapshotRings.inRings()I -/
def sn_c56 : List (List (Nat × sn_E)) := [[(0, .aload_n 0, 0, 0), (1, .getfield 29, 0, 3), (4, .aload_n 0, 0, 0), (5, .getfield 12, 0, 0)],
  [(8, .invokevirtual 137, 29, 0), (11, .aload_n 0, 0, 0), (12, .getfield 29, 0, 3), (15, .invokevirtual 150, 57, 0)],
  [(18, .ireturn, 0, 0)]]
/-- SnapshotRings$Graph.countNodesInRings()I -/
def sn_c57 : List (List (Nat × sn_E)) := [[(0, .iconst (0), 0, 0), (1, .istore_n 1, 0, 0), (2, .iload_n 1, 0, 0), (3, .aload_n 0, 0, 0), (4, .getfield 42, 3, 0), (7, .if_icmp .ge (21), 28, 0)],
  [(10, .aload_n 0, 0, 0), (11, .getfield 27, 3, 6), (14, .iload_n 1, 0, 0), (15, .aload_n 0, 0, 0)],
  [(16, .getfield 21, 3, 4), (19, .iload_n 1, 0, 0), (20, .iaload, 0, 0), (21, .iastore, 0, 0), (22, .iinc 1 (1), 1, 0)],
  [(25, .goto (-23), 2, 0), (28, .iconst (0), 0, 0), (29, .istore_n 1, 0, 0), (30, .iload_n 1, 0, 0), (31, .aload_n 0, 0, 0)],
  [(32, .getfield 42, 3, 0), (35, .if_icmp .ge (53), 88, 0), (38, .iconst (0), 0, 0), (39, .istore_n 2, 0, 0)],
  [(40, .iload_n 2, 0, 0), (41, .aload_n 0, 0, 0), (42, .getfield 42, 3, 0), (45, .if_icmp .ge (37), 82, 0)],
  [(48, .aload_n 0, 0, 0), (49, .getfield 27, 3, 6), (52, .iload_n 2, 0, 0), (53, .iaload, 0, 0), (54, .iload_n 1, 0, 0), (55, .invokestatic 72, 14, 1)],
  [(58, .ifCond .eq (18), 76, 0), (61, .aload_n 0, 0, 0), (62, .getfield 27, 3, 6)],
  [(65, .iload_n 2, 0, 0), (66, .dup2, 0, 0), (67, .iaload, 0, 0), (68, .aload_n 0, 0, 0), (69, .getfield 27, 3, 6)],
  [(72, .iload_n 1, 0, 0), (73, .iaload, 0, 0), (74, .ior, 0, 0), (75, .iastore, 0, 0), (76, .iinc 2 (1), 1, 0), (79, .goto (-39), 40, 0)],
  [(82, .iinc 1 (1), 1, 0), (85, .goto (-55), 30, 0)],
  [(88, .iconst (0), 0, 0), (89, .istore_n 1, 0, 0), (90, .iconst (0), 0, 0), (91, .istore_n 2, 0, 0), (92, .iload_n 2, 0, 0), (93, .aload_n 0, 0, 0), (94, .getfield 42, 3, 0)],
  [(97, .if_icmp .ge (25), 122, 0), (100, .aload_n 0, 0, 0), (101, .getfield 27, 3, 6)],
  [(104, .iload_n 2, 0, 0), (105, .iaload, 0, 0), (106, .iload_n 2, 0, 0), (107, .invokestatic 72, 14, 1), (110, .ifCond .eq (6), 116, 0)],
  [(113, .iinc 1 (1), 1, 0), (116, .iinc 2 (1), 1, 0), (119, .goto (-27), 92, 0)],
  [(122, .iload_n 1, 0, 0), (123, .ireturn, 0, 0)]]
/-- SnapshotRings.orderAt(I)I -/
def sn_c58 : List (List (Nat × sn_E)) := [[(0, .iload_n 1, 0, 0), (1, .ifCond .ge (7), 8, 0), (4, .sipush (-20002), 20002, 1), (7, .ireturn, 0, 0)],
  [(8, .aload_n 0, 0, 0), (9, .getfield 29, 0, 3), (12, .aload_n 0, 0, 0), (13, .getfield 12, 0, 0)],
  [(16, .invokevirtual 137, 29, 0), (19, .aload_n 0, 0, 0), (20, .getfield 29, 0, 3), (23, .invokevirtual 153, 59, 0)],
  [(26, .aload_n 0, 0, 0), (27, .getfield 29, 0, 3), (30, .iload_n 1, 0, 0), (31, .invokevirtual 147, 55, 0)],
  [(34, .ireturn, 0, 0)]]
/-- SnapshotRings$Graph.findOrder()V -/
def sn_c59 : List (List (Nat × sn_E)) := [[(0, .aload_n 0, 0, 0), (1, .iconst (0), 0, 0), (2, .putfield 65, 3, 9), (5, .iconst (0), 0, 0), (6, .istore_n 1, 0, 0), (7, .iconst (0), 0, 0)],
  [(8, .istore_n 2, 0, 0), (9, .iload_n 2, 0, 0), (10, .aload_n 0, 0, 0), (11, .getfield 42, 3, 0), (14, .if_icmp .ge (36), 50, 0)],
  [(17, .aload_n 0, 0, 0), (18, .iload_n 1, 0, 0), (19, .invokevirtual 88, 60, 0), (22, .istore_n 3, 0, 0), (23, .iload_n 3, 0, 0)],
  [(24, .ifCond .ge (9), 33, 0), (27, .aload_n 0, 0, 0), (28, .iconst (0), 0, 0), (29, .putfield 65, 3, 9)],
  [(32, .return_, 0, 0), (33, .aload_n 0, 0, 0), (34, .iload_n 3, 0, 0), (35, .invokevirtual 85, 39, 0), (38, .iload_n 1, 0, 0), (39, .iconst (1), 1, 0)],
  [(40, .iload_n 3, 0, 0), (41, .ishl, 0, 0), (42, .ior, 0, 0), (43, .istore_n 1, 0, 0), (44, .iinc 2 (1), 1, 0), (47, .goto (-38), 9, 0)],
  [(50, .return_, 0, 0)]]
/-- SnapshotRings$Graph.lowestPossible(I)I -/
def sn_c60 : List (List (Nat × sn_E)) := [[(0, .iload_n 1, 0, 0), (1, .istore_n 2, 0, 0), (2, .iconst (0), 0, 0), (3, .istore_n 3, 0, 0), (4, .iload_n 3, 0, 0), (5, .aload_n 0, 0, 0), (6, .getfield 42, 3, 0)],
  [(9, .if_icmp .ge (26), 35, 0), (12, .iload_n 1, 0, 0), (13, .iload_n 3, 0, 0), (14, .invokestatic 72, 14, 1)],
  [(17, .ifCond .ne (12), 29, 0), (20, .iload_n 2, 0, 0), (21, .aload_n 0, 0, 0), (22, .getfield 21, 3, 4)],
  [(25, .iload_n 3, 0, 0), (26, .iaload, 0, 0), (27, .ior, 0, 0), (28, .istore_n 2, 0, 0), (29, .iinc 3 (1), 1, 0)],
  [(32, .goto (-28), 4, 0), (35, .iconst (0), 0, 0), (36, .istore_n 3, 0, 0), (37, .iload_n 3, 0, 0), (38, .aload_n 0, 0, 0), (39, .getfield 42, 3, 0)],
  [(42, .if_icmp .ge (19), 61, 0), (45, .iload_n 2, 0, 0), (46, .iload_n 3, 0, 0), (47, .invokestatic 72, 14, 1)],
  [(50, .ifCond .ne (5), 55, 0), (53, .iload_n 3, 0, 0), (54, .ireturn, 0, 0), (55, .iinc 3 (1), 1, 0)],
  [(58, .goto (-21), 37, 0), (61, .iconst (-1), 1, 1), (62, .ireturn, 0, 0)]]
/-- SnapshotRings.skews()I -/
def sn_c61 : List (List (Nat × sn_E)) := [[(0, .aload_n 0, 0, 0), (1, .getfield 29, 0, 3), (4, .aload_n 0, 0, 0), (5, .getfield 12, 0, 0)],
  [(8, .invokevirtual 137, 29, 0), (11, .aload_n 0, 0, 0), (12, .getfield 29, 0, 3), (15, .invokevirtual 156, 62, 0)],
  [(18, .ireturn, 0, 0)]]
/-- SnapshotRings$Graph.countSkewPairs()I -/
def sn_c62 : List (List (Nat × sn_E)) := [[(0, .iconst (0), 0, 0), (1, .istore_n 1, 0, 0), (2, .iconst (0), 0, 0), (3, .istore_n 2, 0, 0), (4, .iload_n 2, 0, 0), (5, .aload_n 0, 0, 0), (6, .getfield 42, 3, 0)],
  [(9, .if_icmp .ge (56), 65, 0), (12, .iload_n 2, 0, 0), (13, .iconst (1), 1, 0), (14, .iadd, 0, 0), (15, .istore_n 3, 0, 0)],
  [(16, .iload_n 3, 0, 0), (17, .aload_n 0, 0, 0), (18, .getfield 42, 3, 0), (21, .if_icmp .ge (38), 59, 0)],
  [(24, .aload_n 0, 0, 0), (25, .getfield 24, 3, 5), (28, .iload_n 2, 0, 0), (29, .iaload, 0, 0), (30, .iload_n 3, 0, 0), (31, .invokestatic 72, 14, 1)],
  [(34, .ifCond .eq (19), 53, 0), (37, .aload_n 0, 0, 0), (38, .getfield 24, 3, 5)],
  [(41, .iload_n 3, 0, 0), (42, .iaload, 0, 0), (43, .iload_n 2, 0, 0), (44, .invokestatic 72, 14, 1), (47, .ifCond .eq (6), 53, 0)],
  [(50, .iinc 1 (1), 1, 0), (53, .iinc 3 (1), 1, 0)],
  [(56, .goto (-40), 16, 0), (59, .iinc 2 (1), 1, 0), (62, .goto (-58), 4, 0)],
  [(65, .iload_n 1, 0, 0), (66, .ireturn, 0, 0)]]
/-- SnapshotRings.holds(I)I -/
def sn_c63 : List (List (Nat × sn_E)) := [[(0, .iload_n 1, 0, 0), (1, .invokestatic 48, 9, 0), (4, .ifCond .ne (7), 11, 0), (7, .sipush (-20001), 20001, 1)],
  [(10, .ireturn, 0, 0), (11, .aload_n 0, 0, 0), (12, .getfield 12, 0, 0), (15, .aload_n 0, 0, 0)],
  [(16, .getfield 12, 0, 0), (19, .getfield 114, 1, 7), (22, .iconst (0), 0, 0), (23, .iload_n 1, 0, 0)],
  [(24, .invokevirtual 159, 64, 0), (27, .ifCond .eq (7), 34, 0), (30, .iconst (1), 1, 0), (31, .goto (4), 35, 0)],
  [(34, .iconst (0), 0, 0), (35, .ireturn, 0, 0)]]
/-- SnapshotRings$State.constraintIsMet([III)Z -/
def sn_c64 : List (List (Nat × sn_E)) := [[(0, .iconst (0), 0, 0), (1, .istore 4, 4, 0), (3, .iconst (0), 0, 0), (4, .istore 5, 5, 0), (6, .iload 5, 5, 0)],
  [(8, .bipush (12), 12, 0), (10, .if_icmp .ge (34), 44, 0), (13, .aload_n 0, 0, 0), (14, .getfield 15, 1, 5)],
  [(17, .iload_n 3, 0, 0), (18, .iaload, 0, 0), (19, .iload 5, 5, 0), (21, .invokestatic 61, 14, 1)],
  [(24, .ifCond .eq (14), 38, 0), (27, .iload 4, 4, 0), (29, .aload_n 1, 0, 0), (30, .iload_n 2, 0, 0), (31, .iload 5, 5, 0)],
  [(33, .iadd, 0, 0), (34, .iaload, 0, 0), (35, .iadd, 0, 0), (36, .istore 4, 4, 0), (38, .iinc 5 (1), 1, 0)],
  [(41, .goto (-35), 6, 0), (44, .iload 4, 4, 0), (46, .aload_n 0, 0, 0), (47, .getfield 18, 1, 6)],
  [(50, .iload_n 3, 0, 0), (51, .iaload, 0, 0), (52, .if_icmp .lt (7), 59, 0), (55, .iconst (1), 1, 0)],
  [(56, .goto (4), 60, 0), (59, .iconst (0), 0, 0), (60, .ireturn, 0, 0)]]
/-- SnapshotRings.holdsFor(II)I -/
def sn_c65 : List (List (Nat × sn_E)) := [[(0, .aload_n 0, 0, 0), (1, .iload_n 1, 0, 0), (2, .invokevirtual 80, 19, 0), (5, .istore_n 3, 0, 0), (6, .iload_n 3, 0, 0), (7, .ifCond .eq (5), 12, 0)],
  [(10, .iload_n 3, 0, 0), (11, .ireturn, 0, 0), (12, .iload_n 2, 0, 0), (13, .invokestatic 48, 9, 0)],
  [(16, .ifCond .ne (7), 23, 0), (19, .sipush (-20001), 20001, 1), (22, .ireturn, 0, 0), (23, .aload_n 0, 0, 0)],
  [(24, .getfield 12, 0, 0), (27, .aload_n 0, 0, 0), (28, .getfield 12, 0, 0), (31, .getfield 163, 1, 13)],
  [(34, .iload_n 1, 0, 0), (35, .bipush (12), 12, 0), (37, .imul, 0, 0), (38, .iload_n 2, 0, 0), (39, .invokevirtual 159, 64, 0)],
  [(42, .ifCond .eq (7), 49, 0), (45, .iconst (1), 1, 0), (46, .goto (4), 50, 0)],
  [(49, .iconst (0), 0, 0), (50, .ireturn, 0, 0)]]
/-- SnapshotRings.ifAllCommitted()I -/
def sn_c66 : List (List (Nat × sn_E)) := [[(0, .aload_n 0, 0, 0), (1, .getfield 16, 0, 1), (4, .aload_n 0, 0, 0), (5, .getfield 12, 0, 0)],
  [(8, .invokevirtual 166, 7, 0), (11, .iconst (0), 0, 0), (12, .istore_n 1, 0, 0), (13, .iload_n 1, 0, 0), (14, .bipush (8), 8, 0)],
  [(16, .if_icmp .ge (30), 46, 0), (19, .aload_n 0, 0, 0), (20, .getfield 16, 0, 1), (23, .iload_n 1, 0, 0)],
  [(24, .invokevirtual 169, 13, 0), (27, .ifCond .eq (13), 40, 0), (30, .aload_n 0, 0, 0), (31, .aload_n 0, 0, 0)],
  [(32, .getfield 16, 0, 1), (35, .iload_n 1, 0, 0), (36, .invokevirtual 83, 26, 0), (39, .pop, 0, 0)],
  [(40, .iinc 1 (1), 1, 0), (43, .goto (-30), 13, 0), (46, .iconst (0), 0, 0), (47, .istore_n 1, 0, 0)],
  [(48, .iconst (0), 0, 0), (49, .istore_n 2, 0, 0), (50, .iload_n 2, 0, 0), (51, .iconst (3), 3, 0), (52, .if_icmp .ge (31), 83, 0), (55, .aload_n 0, 0, 0)],
  [(56, .getfield 16, 0, 1), (59, .aload_n 0, 0, 0), (60, .getfield 16, 0, 1), (63, .getfield 114, 1, 7)],
  [(66, .iconst (0), 0, 0), (67, .iload_n 2, 0, 0), (68, .invokevirtual 159, 64, 0), (71, .ifCond .eq (6), 77, 0)],
  [(74, .iinc 1 (1), 1, 0), (77, .iinc 2 (1), 1, 0)],
  [(80, .goto (-30), 50, 0), (83, .iload_n 1, 0, 0), (84, .ireturn, 0, 0)]]
/-- SnapshotRings.refusedBy(I)I -/
def sn_c67 : List (List (Nat × sn_E)) := [[(0, .aload_n 0, 0, 0), (1, .iload_n 1, 0, 0), (2, .invokevirtual 80, 19, 0), (5, .istore_n 2, 0, 0), (6, .iload_n 2, 0, 0), (7, .ifCond .eq (5), 12, 0)],
  [(10, .iload_n 2, 0, 0), (11, .ireturn, 0, 0), (12, .iconst (0), 0, 0), (13, .istore_n 3, 0, 0), (14, .iload_n 3, 0, 0), (15, .iconst (2), 2, 0)],
  [(16, .if_icmp .gt (24), 40, 0), (19, .aload_n 0, 0, 0), (20, .aload_n 0, 0, 0), (21, .getfield 12, 0, 0)],
  [(24, .iload_n 1, 0, 0), (25, .iload_n 3, 0, 0), (26, .invokevirtual 120, 27, 0), (29, .ifCond .eq (5), 34, 0)],
  [(32, .iload_n 3, 0, 0), (33, .ireturn, 0, 0), (34, .iinc 3 (1), 1, 0), (37, .goto (-23), 14, 0)],
  [(40, .sipush (-20006), 20006, 1), (43, .ireturn, 0, 0)]]
/-- SnapshotRings.type(I)I -/
def sn_c68 : List (List (Nat × sn_E)) := [[(0, .iload_n 1, 0, 0), (1, .bipush (33), 33, 0), (3, .if_icmp .lt (9), 12, 0), (6, .iload_n 1, 0, 0), (7, .bipush (126), 126, 0)],
  [(9, .if_icmp .le (7), 16, 0), (12, .sipush (-20002), 20002, 1), (15, .ireturn, 0, 0)],
  [(16, .aload_n 0, 0, 0), (17, .getfield 36, 0, 4), (20, .getfield 172, 4, 1), (23, .bipush (80), 80, 0)],
  [(25, .if_icmp .lt (7), 32, 0), (28, .sipush (-20004), 20004, 1), (31, .ireturn, 0, 0)],
  [(32, .aload_n 0, 0, 0), (33, .getfield 36, 0, 4), (36, .iload_n 1, 0, 0), (37, .i2c, 0, 0), (38, .invokevirtual 175, 69, 0)],
  [(41, .aload_n 0, 0, 0), (42, .getfield 36, 0, 4), (45, .getfield 172, 4, 1)],
  [(48, .ireturn, 0, 0)]]
/-- SnapshotRings$Schedule.append(C)V -/
def sn_c69 : List (List (Nat × sn_E)) := [[(0, .aload_n 0, 0, 0), (1, .getfield 15, 4, 1), (4, .bipush (80), 80, 0), (6, .if_icmp .ge (23), 29, 0)],
  [(9, .aload_n 0, 0, 0), (10, .getfield 9, 4, 0), (13, .aload_n 0, 0, 0), (14, .getfield 15, 4, 1)],
  [(17, .iload_n 1, 0, 0), (18, .castore, 0, 0), (19, .aload_n 0, 0, 0), (20, .dup, 0, 0), (21, .getfield 15, 4, 1)],
  [(24, .iconst (1), 1, 0), (25, .iadd, 0, 0), (26, .putfield 15, 4, 1), (29, .return_, 0, 0)]]
/-- SnapshotRings.clearText()I -/
def sn_c70 : List (List (Nat × sn_E)) := [[(0, .aload_n 0, 0, 0), (1, .getfield 36, 0, 4), (4, .getfield 172, 4, 1), (7, .istore_n 1, 0, 0)],
  [(8, .aload_n 0, 0, 0), (9, .getfield 36, 0, 4), (12, .iconst (0), 0, 0), (13, .putfield 172, 4, 1)],
  [(16, .iload_n 1, 0, 0), (17, .ireturn, 0, 0)]]
/-- SnapshotRings.syntaxError()I -/
def sn_c71 : List (List (Nat × sn_E)) := [[(0, .aload_n 0, 0, 0), (1, .getfield 36, 0, 4), (4, .invokevirtual 179, 72, 0), (7, .ireturn, 0, 0)]]
/-- SnapshotRings$Schedule.firstError()I -/
def sn_c72 : List (List (Nat × sn_E)) := [[(0, .iconst (0), 0, 0), (1, .istore_n 1, 0, 0), (2, .iconst (0), 0, 0), (3, .istore_n 2, 0, 0), (4, .iload_n 2, 0, 0), (5, .aload_n 0, 0, 0), (6, .getfield 15, 4, 1)],
  [(9, .if_icmp .ge (26), 35, 0), (12, .iload_n 1, 0, 0), (13, .aload_n 0, 0, 0), (14, .iload_n 2, 0, 0), (15, .invokevirtual 19, 73, 0)],
  [(18, .invokestatic 23, 74, 0), (21, .istore_n 1, 0, 0), (22, .iload_n 1, 0, 0), (23, .iconst (-1), 1, 1)],
  [(24, .if_icmp .ne (5), 29, 0), (27, .iload_n 2, 0, 0), (28, .ireturn, 0, 0), (29, .iinc 2 (1), 1, 0)],
  [(32, .goto (-28), 4, 0), (35, .iload_n 1, 0, 0), (36, .bipush (9), 9, 0), (38, .if_icmp .lt (9), 47, 0)],
  [(41, .sipush (-20006), 20006, 1), (44, .goto (7), 51, 0), (47, .aload_n 0, 0, 0)],
  [(48, .getfield 15, 4, 1), (51, .ireturn, 0, 0)]]
/-- SnapshotRings$Schedule.signAt(I)C -/
def sn_c73 : List (List (Nat × sn_E)) := [[(0, .iload_n 1, 0, 0), (1, .ifCond .lt (20), 21, 0), (4, .iload_n 1, 0, 0), (5, .aload_n 0, 0, 0), (6, .getfield 15, 4, 1)],
  [(9, .if_icmp .ge (12), 21, 0), (12, .aload_n 0, 0, 0), (13, .getfield 9, 4, 0)],
  [(16, .iload_n 1, 0, 0), (17, .caload, 0, 0), (18, .goto (4), 22, 0), (21, .iconst (0), 0, 0), (22, .ireturn, 0, 0)]]
/-- SnapshotRings$Schedule.awaitedAfter(IC)I -/
def sn_c74 : List (List (Nat × sn_E)) := [[(0, .iload_n 0, 0, 0), (1, .tableswitch (224) (0) (10) #[59, 64, 82, 99, 117, 134, 152, 165, 183, 190, 207], 0, 0)],
  [],
  [],
  [],
  [],
  [],
  [],
  [(60, .iload_n 1, 0, 0), (61, .invokestatic 27, 75, 0)],
  [(64, .ireturn, 0, 0), (65, .iload_n 1, 0, 0), (66, .bipush (48), 48, 0), (68, .bipush (55), 55, 0), (70, .invokestatic 31, 76, 0)],
  [(73, .ifCond .eq (8), 81, 0), (76, .bipush (11), 11, 0), (78, .goto (4), 82, 0)],
  [(81, .iconst (-1), 1, 1), (82, .ireturn, 0, 0), (83, .iload_n 1, 0, 0), (84, .bipush (48), 48, 0), (86, .bipush (55), 55, 0)],
  [(88, .invokestatic 31, 76, 0), (91, .ifCond .eq (7), 98, 0), (94, .iconst (3), 3, 0), (95, .goto (4), 99, 0)],
  [(98, .iconst (-1), 1, 1), (99, .ireturn, 0, 0), (100, .iload_n 1, 0, 0), (101, .bipush (97), 97, 0), (103, .bipush (108), 108, 0)],
  [(105, .invokestatic 31, 76, 0), (108, .ifCond .eq (8), 116, 0), (111, .bipush (11), 11, 0)],
  [(113, .goto (4), 117, 0), (116, .iconst (-1), 1, 1), (117, .ireturn, 0, 0), (118, .iload_n 1, 0, 0), (119, .bipush (48), 48, 0)],
  [(121, .bipush (55), 55, 0), (123, .invokestatic 31, 76, 0), (126, .ifCond .eq (7), 133, 0)],
  [(129, .iconst (5), 5, 0), (130, .goto (4), 134, 0), (133, .iconst (-1), 1, 1), (134, .ireturn, 0, 0), (135, .iload_n 1, 0, 0)],
  [(136, .bipush (97), 97, 0), (138, .bipush (108), 108, 0), (140, .invokestatic 31, 76, 0), (143, .ifCond .eq (8), 151, 0)],
  [(146, .bipush (6), 6, 0), (148, .goto (4), 152, 0), (151, .iconst (-1), 1, 1)],
  [(152, .ireturn, 0, 0), (153, .iload_n 1, 0, 0), (154, .bipush (61), 61, 0), (156, .if_icmp .ne (8), 164, 0), (159, .bipush (7), 7, 0)],
  [(161, .goto (4), 165, 0), (164, .iconst (-1), 1, 1), (165, .ireturn, 0, 0), (166, .iload_n 1, 0, 0), (167, .bipush (45), 45, 0)],
  [(169, .if_icmp .ne (8), 177, 0), (172, .bipush (8), 8, 0), (174, .goto (9), 183, 0)],
  [(177, .iload_n 1, 0, 0), (178, .bipush (9), 9, 0), (180, .invokestatic 35, 77, 0), (183, .ireturn, 0, 0)],
  [(184, .iload_n 1, 0, 0), (185, .bipush (9), 9, 0), (187, .invokestatic 35, 77, 0), (190, .ireturn, 0, 0), (191, .iload_n 1, 0, 0)],
  [(192, .bipush (59), 59, 0), (194, .if_icmp .ne (7), 201, 0), (197, .iconst (0), 0, 0), (198, .goto (9), 207, 0)],
  [(201, .iload_n 1, 0, 0), (202, .bipush (10), 10, 0), (204, .invokestatic 35, 77, 0), (207, .ireturn, 0, 0)],
  [(208, .iload_n 1, 0, 0), (209, .bipush (59), 59, 0), (211, .if_icmp .ne (7), 218, 0), (214, .iconst (0), 0, 0), (215, .goto (9), 224, 0)],
  [(218, .iload_n 1, 0, 0), (219, .bipush (11), 11, 0), (221, .invokestatic 35, 77, 0)],
  [(224, .ireturn, 0, 0), (225, .iload_n 1, 0, 0), (226, .bipush (59), 59, 0), (228, .if_icmp .ne (7), 235, 0), (231, .iconst (0), 0, 0)],
  [(232, .goto (4), 236, 0), (235, .iconst (-1), 1, 1), (236, .ireturn, 0, 0)]]
/-- SnapshotRings$Schedule.awaitedAfterLetter(C)I -/
def sn_c75 : List (List (Nat × sn_E)) := [[(0, .iload_n 0, 0, 0), (1, .lookupswitch (57) #[(97, 51), (98, 51), (99, 51), (114, 53), (119, 55)], 0, 0)],
  [],
  [],
  [],
  [],
  [],
  [(52, .iconst (1), 1, 0), (53, .ireturn, 0, 0), (54, .iconst (2), 2, 0), (55, .ireturn, 0, 0)],
  [(56, .iconst (4), 4, 0), (57, .ireturn, 0, 0), (58, .iconst (-1), 1, 1), (59, .ireturn, 0, 0)]]
/-- SnapshotRings$Schedule.isBetween(CCC)Z -/
def sn_c76 : List (List (Nat × sn_E)) := [[(0, .iload_n 0, 0, 0), (1, .iload_n 1, 0, 0), (2, .if_icmp .lt (12), 14, 0), (5, .iload_n 0, 0, 0), (6, .iload_n 2, 0, 0), (7, .if_icmp .gt (7), 14, 0)],
  [(10, .iconst (1), 1, 0), (11, .goto (4), 15, 0), (14, .iconst (0), 0, 0), (15, .ireturn, 0, 0)]]
/-- SnapshotRings$Schedule.awaitedAfterDigit(CI)I -/
def sn_c77 : List (List (Nat × sn_E)) := [[(0, .iload_n 0, 0, 0), (1, .invokestatic 39, 78, 0), (4, .ifCond .eq (7), 11, 0), (7, .iload_n 1, 0, 0)],
  [(8, .goto (4), 12, 0), (11, .iconst (-1), 1, 1), (12, .ireturn, 0, 0)]]
/-- SnapshotRings$Schedule.isDigit(C)Z -/
def sn_c78 : List (List (Nat × sn_E)) := [[(0, .iload_n 0, 0, 0), (1, .bipush (48), 48, 0), (3, .bipush (57), 57, 0), (5, .invokestatic 31, 76, 0)],
  [(8, .ireturn, 0, 0)]]
/-- SnapshotRings.carryOut()I -/
def sn_c79 : List (List (Nat × sn_E)) := [[(0, .aload_n 0, 0, 0), (1, .getfield 36, 0, 4), (4, .invokevirtual 179, 72, 0), (7, .sipush (-20006), 20006, 1)],
  [(10, .if_icmp .eq (7), 17, 0), (13, .sipush (-20005), 20005, 1)],
  [(16, .ireturn, 0, 0), (17, .aload_n 0, 0, 0), (18, .getfield 22, 0, 2), (21, .aload_n 0, 0, 0), (22, .getfield 12, 0, 0)],
  [(25, .invokevirtual 40, 6, 0), (28, .iconst (0), 0, 0), (29, .istore_n 1, 0, 0), (30, .iconst (0), 0, 0), (31, .istore_n 2, 0, 0)],
  [(32, .iload_n 2, 0, 0), (33, .bipush (80), 80, 0), (35, .if_icmp .ge (37), 72, 0), (38, .iload_n 1, 0, 0), (39, .aload_n 0, 0, 0)],
  [(40, .getfield 36, 0, 4), (43, .getfield 172, 4, 1), (46, .if_icmp .ge (26), 72, 0)],
  [(49, .aload_n 0, 0, 0), (50, .iload_n 1, 0, 0), (51, .invokevirtual 182, 80, 0), (54, .ifCond .eq (18), 72, 0)],
  [(57, .iinc 2 (1), 1, 0), (60, .aload_n 0, 0, 0), (61, .getfield 36, 0, 4)],
  [(64, .iload_n 1, 0, 0), (65, .invokevirtual 185, 85, 0), (68, .istore_n 1, 0, 0), (69, .goto (-37), 32, 0)],
  [(72, .aload_n 0, 0, 0), (73, .getfield 36, 0, 4), (76, .iconst (0), 0, 0), (77, .putfield 172, 4, 1)],
  [(80, .iload_n 2, 0, 0), (81, .ireturn, 0, 0)]]
/-- SnapshotRings.carryOutStep(I)Z -/
def sn_c80 : List (List (Nat × sn_E)) := [[(0, .aload_n 0, 0, 0), (1, .getfield 36, 0, 4), (4, .iload_n 1, 0, 0), (5, .invokevirtual 238, 73, 0)],
  [(8, .istore_n 2, 0, 0), (9, .aload_n 0, 0, 0), (10, .getfield 36, 0, 4), (13, .iload_n 1, 0, 0), (14, .invokevirtual 242, 81, 0)],
  [(17, .istore_n 3, 0, 0), (18, .iload_n 2, 0, 0), (19, .bipush (98), 98, 0), (21, .if_icmp .ne (24), 45, 0)],
  [(24, .aload_n 0, 0, 0), (25, .iload_n 3, 0, 0), (26, .invokevirtual 59, 11, 0), (29, .ifCond .eq (5), 34, 0)],
  [(32, .iconst (0), 0, 0), (33, .ireturn, 0, 0), (34, .aload_n 0, 0, 0), (35, .getfield 12, 0, 0), (38, .iload_n 3, 0, 0), (39, .invokevirtual 63, 15, 0)],
  [(42, .pop, 0, 0), (43, .iconst (1), 1, 0), (44, .ireturn, 0, 0), (45, .iload_n 2, 0, 0), (46, .bipush (114), 114, 0)],
  [(48, .if_icmp .eq (9), 57, 0), (51, .iload_n 2, 0, 0), (52, .bipush (119), 119, 0), (54, .if_icmp .ne (11), 65, 0)],
  [(57, .aload_n 0, 0, 0), (58, .iload_n 1, 0, 0), (59, .iload_n 2, 0, 0), (60, .iload_n 3, 0, 0), (61, .invokevirtual 245, 82, 0)],
  [(64, .ireturn, 0, 0), (65, .aload_n 0, 0, 0), (66, .iload_n 3, 0, 0), (67, .invokevirtual 80, 19, 0), (70, .ifCond .eq (5), 75, 0)],
  [(73, .iconst (0), 0, 0), (74, .ireturn, 0, 0), (75, .iload_n 2, 0, 0), (76, .bipush (99), 99, 0), (78, .if_icmp .ne (16), 94, 0)],
  [(81, .aload_n 0, 0, 0), (82, .aload_n 0, 0, 0), (83, .getfield 12, 0, 0), (86, .iload_n 3, 0, 0), (87, .invokevirtual 83, 26, 0)],
  [(90, .pop, 0, 0), (91, .goto (12), 103, 0), (94, .aload_n 0, 0, 0), (95, .getfield 12, 0, 0)],
  [(98, .iload_n 3, 0, 0), (99, .invokevirtual 87, 45, 0), (102, .pop, 0, 0), (103, .iconst (1), 1, 0)],
  [(104, .ireturn, 0, 0)]]
/-- SnapshotRings$Schedule.slotOfStep(I)I -/
def sn_c81 : List (List (Nat × sn_E)) := [[(0, .aload_n 0, 0, 0), (1, .iload_n 1, 0, 0), (2, .iconst (1), 1, 0), (3, .iadd, 0, 0), (4, .invokevirtual 19, 73, 0), (7, .bipush (48), 48, 0)],
  [(9, .isub, 0, 0), (10, .ireturn, 0, 0)]]
/-- SnapshotRings.carryOutAccess(ICI)Z -/
def sn_c82 : List (List (Nat × sn_E)) := [[(0, .aload_n 0, 0, 0), (1, .getfield 36, 0, 4), (4, .iload_n 1, 0, 0), (5, .invokevirtual 249, 83, 0)],
  [(8, .istore 4, 4, 0), (10, .iload_n 2, 0, 0), (11, .bipush (114), 114, 0), (13, .if_icmp .ne (28), 41, 0)],
  [(16, .aload_n 0, 0, 0), (17, .iload_n 3, 0, 0), (18, .iload 4, 4, 0), (20, .invokevirtual 66, 17, 0), (23, .ifCond .eq (5), 28, 0)],
  [(26, .iconst (0), 0, 0), (27, .ireturn, 0, 0), (28, .aload_n 0, 0, 0), (29, .getfield 12, 0, 0)],
  [(32, .iload_n 3, 0, 0), (33, .iload 4, 4, 0), (35, .invokevirtual 70, 20, 0), (38, .pop, 0, 0), (39, .iconst (1), 1, 0)],
  [(40, .ireturn, 0, 0), (41, .aload_n 0, 0, 0), (42, .getfield 36, 0, 4), (45, .iload_n 1, 0, 0), (46, .invokevirtual 252, 84, 0)],
  [(49, .istore 5, 5, 0), (51, .aload_n 0, 0, 0), (52, .iload_n 3, 0, 0), (53, .iload 4, 4, 0), (55, .iload 5, 5, 0)],
  [(57, .invokevirtual 73, 22, 0), (60, .ifCond .eq (5), 65, 0), (63, .iconst (0), 0, 0)],
  [(64, .ireturn, 0, 0), (65, .aload_n 0, 0, 0), (66, .getfield 12, 0, 0), (69, .iload_n 3, 0, 0), (70, .iload 4, 4, 0)],
  [(72, .iload 5, 5, 0), (74, .invokevirtual 77, 23, 0), (77, .pop, 0, 0), (78, .iconst (1), 1, 0), (79, .ireturn, 0, 0)]]
/-- SnapshotRings$Schedule.keyOfStep(I)I -/
def sn_c83 : List (List (Nat × sn_E)) := [[(0, .aload_n 0, 0, 0), (1, .iload_n 1, 0, 0), (2, .iconst (2), 2, 0), (3, .iadd, 0, 0), (4, .invokevirtual 19, 73, 0), (7, .bipush (97), 97, 0)],
  [(9, .isub, 0, 0), (10, .ireturn, 0, 0)]]
/-- SnapshotRings$Schedule.valueOfStep(I)I -/
def sn_c84 : List (List (Nat × sn_E)) := [[(0, .aload_n 0, 0, 0), (1, .iload_n 1, 0, 0), (2, .iconst (4), 4, 0), (3, .iadd, 0, 0), (4, .invokevirtual 19, 73, 0), (7, .bipush (45), 45, 0)],
  [(9, .if_icmp .ne (7), 16, 0), (12, .iconst (1), 1, 0), (13, .goto (4), 17, 0)],
  [(16, .iconst (0), 0, 0), (17, .istore_n 2, 0, 0), (18, .iload_n 2, 0, 0), (19, .ifCond .eq (9), 28, 0), (22, .iload_n 1, 0, 0), (23, .iconst (5), 5, 0)],
  [(24, .iadd, 0, 0), (25, .goto (6), 31, 0), (28, .iload_n 1, 0, 0), (29, .iconst (4), 4, 0), (30, .iadd, 0, 0), (31, .istore_n 3, 0, 0)],
  [(32, .iconst (0), 0, 0), (33, .istore 4, 4, 0), (35, .iload_n 3, 0, 0), (36, .istore 5, 5, 0), (38, .iload 5, 5, 0)],
  [(40, .iload_n 3, 0, 0), (41, .iconst (3), 3, 0), (42, .iadd, 0, 0), (43, .if_icmp .ge (38), 81, 0), (46, .aload_n 0, 0, 0), (47, .iload 5, 5, 0)],
  [(49, .invokevirtual 19, 73, 0), (52, .invokestatic 39, 78, 0), (55, .ifCond .eq (26), 81, 0)],
  [(58, .bipush (10), 10, 0), (60, .iload 4, 4, 0), (62, .imul, 0, 0), (63, .aload_n 0, 0, 0)],
  [(64, .iload 5, 5, 0), (66, .invokevirtual 19, 73, 0), (69, .bipush (48), 48, 0), (71, .isub, 0, 0)],
  [(72, .iadd, 0, 0), (73, .istore 4, 4, 0), (75, .iinc 5 (1), 1, 0), (78, .goto (-40), 38, 0)],
  [(81, .iload_n 2, 0, 0), (82, .ifCond .eq (9), 91, 0), (85, .iload 4, 4, 0), (87, .ineg, 0, 0)],
  [(88, .goto (5), 93, 0), (91, .iload 4, 4, 0), (93, .ireturn, 0, 0)]]
/-- SnapshotRings$Schedule.nextStep(I)I -/
def sn_c85 : List (List (Nat × sn_E)) := [[(0, .iload_n 1, 0, 0), (1, .istore_n 2, 0, 0), (2, .iload_n 2, 0, 0), (3, .aload_n 0, 0, 0), (4, .getfield 15, 4, 1), (7, .if_icmp .ge (24), 31, 0)],
  [(10, .aload_n 0, 0, 0), (11, .getfield 9, 4, 0), (14, .iload_n 2, 0, 0), (15, .caload, 0, 0)],
  [(16, .bipush (59), 59, 0), (18, .if_icmp .ne (7), 25, 0), (21, .iload_n 2, 0, 0), (22, .iconst (1), 1, 0), (23, .iadd, 0, 0)],
  [(24, .ireturn, 0, 0), (25, .iinc 2 (1), 1, 0), (28, .goto (-26), 2, 0), (31, .aload_n 0, 0, 0)],
  [(32, .getfield 15, 4, 1), (35, .ireturn, 0, 0)]]
/-- SnapshotRings.undo()I -/
def sn_c86 : List (List (Nat × sn_E)) := [[(0, .aload_n 0, 0, 0), (1, .getfield 22, 0, 2), (4, .getfield 188, 2, 1), (7, .ifCond .ne (7), 14, 0)],
  [(10, .sipush (-20003), 20003, 1), (13, .ireturn, 0, 0), (14, .aload_n 0, 0, 0), (15, .getfield 22, 0, 2)],
  [(18, .aload_n 0, 0, 0), (19, .getfield 12, 0, 0), (22, .invokevirtual 191, 87, 0)],
  [(25, .aload_n 0, 0, 0), (26, .getfield 22, 0, 2), (29, .getfield 188, 2, 1)],
  [(32, .ireturn, 0, 0)]]
/-- SnapshotRings$History.popInto(LSnapshotRings$State;)V -/
def sn_c87 : List (List (Nat × sn_E)) := [[(0, .aload_n 0, 0, 0), (1, .aload_n 0, 0, 0), (2, .getfield 18, 2, 2), (5, .bipush (6), 6, 0), (7, .iadd, 0, 0)],
  [(8, .iconst (1), 1, 0), (9, .isub, 0, 0), (10, .bipush (6), 6, 0), (12, .irem, 0, 0), (13, .putfield 18, 2, 2)],
  [(16, .aload_n 0, 0, 0), (17, .dup, 0, 0), (18, .getfield 26, 2, 1), (21, .iconst (1), 1, 0), (22, .isub, 0, 0), (23, .putfield 26, 2, 1)],
  [(26, .aload_n 1, 0, 0), (27, .aload_n 0, 0, 0), (28, .getfield 11, 2, 0), (31, .aload_n 0, 0, 0)],
  [(32, .getfield 18, 2, 2), (35, .aaload, 0, 0), (36, .invokevirtual 22, 7, 0), (39, .return_, 0, 0)]]
/-- SnapshotRings.digest()J -/
def sn_c88 : List (List (Nat × sn_E)) := [[(0, .ldc2_w 194, 368, 0), (3, .lstore_n 1, 0, 0), (4, .iconst (0), 0, 0), (5, .istore_n 3, 0, 0), (6, .iload_n 3, 0, 0), (7, .bipush (8), 8, 0)],
  [(9, .if_icmp .ge (20), 29, 0), (12, .lload_n 1, 0, 0), (13, .aload_n 0, 0, 0), (14, .iload_n 3, 0, 0), (15, .invokevirtual 196, 46, 0)],
  [(18, .i2l, 0, 0), (19, .invokestatic 199, 89, 0), (22, .lstore_n 1, 0, 0), (23, .iinc 3 (1), 1, 0)],
  [(26, .goto (-20), 6, 0), (29, .iconst (0), 0, 0), (30, .istore_n 3, 0, 0), (31, .iload_n 3, 0, 0)],
  [(32, .bipush (12), 12, 0), (34, .if_icmp .ge (39), 73, 0), (37, .lload_n 1, 0, 0), (38, .aload_n 0, 0, 0), (39, .getfield 12, 0, 0)],
  [(42, .getfield 114, 1, 7), (45, .iload_n 3, 0, 0), (46, .iaload, 0, 0), (47, .i2l, 0, 0)],
  [(48, .invokestatic 199, 89, 0), (51, .lstore_n 1, 0, 0), (52, .lload_n 1, 0, 0), (53, .aload_n 0, 0, 0), (54, .getfield 12, 0, 0)],
  [(57, .getfield 117, 1, 8), (60, .iload_n 3, 0, 0), (61, .iaload, 0, 0), (62, .i2l, 0, 0), (63, .invokestatic 199, 89, 0)],
  [(66, .lstore_n 1, 0, 0), (67, .iinc 3 (1), 1, 0), (70, .goto (-39), 31, 0)],
  [(73, .aload_n 0, 0, 0), (74, .lload_n 1, 0, 0), (75, .invokevirtual 203, 90, 0), (78, .lstore_n 1, 0, 0), (79, .aload_n 0, 0, 0)],
  [(80, .lload_n 1, 0, 0), (81, .invokevirtual 207, 91, 0), (84, .lstore_n 1, 0, 0), (85, .aload_n 0, 0, 0), (86, .lload_n 1, 0, 0), (87, .invokevirtual 210, 92, 0)],
  [(90, .lstore_n 1, 0, 0), (91, .iconst (0), 0, 0), (92, .istore_n 3, 0, 0), (93, .iload_n 3, 0, 0), (94, .iconst (3), 3, 0), (95, .if_icmp .ge (20), 115, 0)],
  [(98, .lload_n 1, 0, 0), (99, .aload_n 0, 0, 0), (100, .iload_n 3, 0, 0), (101, .invokevirtual 213, 63, 0)],
  [(104, .i2l, 0, 0), (105, .invokestatic 199, 89, 0), (108, .lstore_n 1, 0, 0), (109, .iinc 3 (1), 1, 0)],
  [(112, .goto (-19), 93, 0), (115, .lload_n 1, 0, 0), (116, .lreturn, 0, 0)]]
/-- SnapshotRings.mixed(JJ)J -/
def sn_c89 : List (List (Nat × sn_E)) := [[(0, .ldc2_w 216, 31, 0), (3, .lload_n 0, 0, 0), (4, .lmul, 0, 0), (5, .lload_n 2, 0, 0), (6, .ladd, 0, 0), (7, .lreturn, 0, 0)]]
/-- SnapshotRings.withOpenTransactions(J)J -/
def sn_c90 : List (List (Nat × sn_E)) := [[(0, .lload_n 1, 0, 0), (1, .lstore_n 3, 0, 0), (2, .iconst (0), 0, 0), (3, .istore 5, 5, 0), (5, .iload 5, 5, 0), (7, .bipush (8), 8, 0)],
  [(9, .if_icmp .ge (90), 99, 0), (12, .aload_n 0, 0, 0), (13, .getfield 12, 0, 0)],
  [(16, .iload 5, 5, 0), (18, .invokevirtual 169, 13, 0), (21, .ifCond .ne (6), 27, 0)],
  [(24, .goto (69), 93, 0), (27, .lload_n 3, 0, 0), (28, .iload 5, 5, 0), (30, .i2l, 0, 0), (31, .invokestatic 199, 89, 0)],
  [(34, .lstore_n 3, 0, 0), (35, .iconst (0), 0, 0), (36, .istore 6, 6, 0), (38, .iload 6, 6, 0)],
  [(40, .iconst (4), 4, 0), (41, .if_icmp .ge (23), 64, 0), (44, .lload_n 3, 0, 0), (45, .aload_n 0, 0, 0), (46, .iload 5, 5, 0)],
  [(48, .iload 6, 6, 0), (50, .invokevirtual 255, 49, 0), (53, .i2l, 0, 0), (54, .invokestatic 199, 89, 0)],
  [(57, .lstore_n 3, 0, 0), (58, .iinc 6 (1), 1, 0), (61, .goto (-23), 38, 0)],
  [(64, .iconst (0), 0, 0), (65, .istore 6, 6, 0), (67, .iload 6, 6, 0), (69, .iconst (3), 3, 0), (70, .if_icmp .ge (23), 93, 0)],
  [(73, .lload_n 3, 0, 0), (74, .aload_n 0, 0, 0), (75, .iload 5, 5, 0), (77, .iload 6, 6, 0), (79, .invokevirtual 258, 65, 0)],
  [(82, .i2l, 0, 0), (83, .invokestatic 199, 89, 0), (86, .lstore_n 3, 0, 0), (87, .iinc 6 (1), 1, 0)],
  [(90, .goto (-23), 67, 0), (93, .iinc 5 (1), 1, 0)],
  [(96, .goto (-91), 5, 0), (99, .lload_n 3, 0, 0), (100, .lreturn, 0, 0)]]
/-- SnapshotRings.withKeptCommits(J)J -/
def sn_c91 : List (List (Nat × sn_E)) := [[(0, .lload_n 1, 0, 0), (1, .lstore_n 3, 0, 0), (2, .aload_n 0, 0, 0), (3, .getfield 12, 0, 0), (6, .invokevirtual 101, 30, 0)],
  [(9, .istore 5, 5, 0), (11, .aload_n 0, 0, 0), (12, .getfield 12, 0, 0), (15, .getfield 90, 1, 1)],
  [(18, .iload 5, 5, 0), (20, .isub, 0, 0), (21, .iconst (1), 1, 0), (22, .iadd, 0, 0), (23, .istore 6, 6, 0)],
  [(25, .iconst (0), 0, 0), (26, .istore 7, 7, 0), (28, .iload 7, 7, 0), (30, .iload 5, 5, 0)],
  [(32, .if_icmp .ge (52), 84, 0), (35, .lload_n 3, 0, 0), (36, .iload 6, 6, 0), (38, .iload 7, 7, 0)],
  [(40, .iadd, 0, 0), (41, .i2l, 0, 0), (42, .invokestatic 199, 89, 0), (45, .lstore_n 3, 0, 0), (46, .iconst (0), 0, 0), (47, .istore 8, 8, 0)],
  [(49, .iload 8, 8, 0), (51, .iconst (3), 3, 0), (52, .if_icmp .ge (26), 78, 0), (55, .lload_n 3, 0, 0)],
  [(56, .aload_n 0, 0, 0), (57, .iload 6, 6, 0), (59, .iload 7, 7, 0), (61, .iadd, 0, 0), (62, .iload 8, 8, 0)],
  [(64, .invokevirtual 261, 51, 0), (67, .i2l, 0, 0), (68, .invokestatic 199, 89, 0), (71, .lstore_n 3, 0, 0)],
  [(72, .iinc 8 (1), 1, 0), (75, .goto (-26), 49, 0), (78, .iinc 7 (1), 1, 0)],
  [(81, .goto (-53), 28, 0), (84, .lload_n 3, 0, 0), (85, .lreturn, 0, 0)]]
/-- SnapshotRings.withGraph(J)J -/
def sn_c92 : List (List (Nat × sn_E)) := [[(0, .lload_n 1, 0, 0), (1, .lstore_n 3, 0, 0), (2, .aload_n 0, 0, 0), (3, .getfield 29, 0, 3), (6, .aload_n 0, 0, 0), (7, .getfield 12, 0, 0)],
  [(10, .invokevirtual 137, 29, 0), (13, .iconst (0), 0, 0), (14, .istore 5, 5, 0)],
  [(16, .iload 5, 5, 0), (18, .aload_n 0, 0, 0), (19, .getfield 29, 0, 3), (22, .getfield 264, 3, 0)],
  [(25, .if_icmp .ge (77), 102, 0), (28, .iload 5, 5, 0), (30, .iconst (1), 1, 0), (31, .iadd, 0, 0)],
  [(32, .istore 6, 6, 0), (34, .iload 6, 6, 0), (36, .aload_n 0, 0, 0), (37, .getfield 29, 0, 3)],
  [(40, .getfield 264, 3, 0), (43, .if_icmp .ge (53), 96, 0), (46, .lload_n 3, 0, 0), (47, .aload_n 0, 0, 0)],
  [(48, .getfield 29, 0, 3), (51, .getfield 267, 3, 3), (54, .iload 5, 5, 0)],
  [(56, .bipush (17), 17, 0), (58, .imul, 0, 0), (59, .iload 6, 6, 0), (61, .iadd, 0, 0), (62, .iaload, 0, 0), (63, .i2l, 0, 0)],
  [(64, .invokestatic 199, 89, 0), (67, .lstore_n 3, 0, 0), (68, .lload_n 3, 0, 0), (69, .aload_n 0, 0, 0), (70, .getfield 29, 0, 3)],
  [(73, .getfield 267, 3, 3), (76, .iload 6, 6, 0), (78, .bipush (17), 17, 0)],
  [(80, .imul, 0, 0), (81, .iload 5, 5, 0), (83, .iadd, 0, 0), (84, .iaload, 0, 0), (85, .i2l, 0, 0), (86, .invokestatic 199, 89, 0)],
  [(89, .lstore_n 3, 0, 0), (90, .iinc 6 (1), 1, 0), (93, .goto (-59), 34, 0)],
  [(96, .iinc 5 (1), 1, 0), (99, .goto (-83), 16, 0), (102, .lload_n 3, 0, 0), (103, .aload_n 0, 0, 0)],
  [(104, .getfield 29, 0, 3), (107, .invokevirtual 150, 57, 0), (110, .i2l, 0, 0), (111, .invokestatic 199, 89, 0)],
  [(114, .lstore_n 3, 0, 0), (115, .aload_n 0, 0, 0), (116, .getfield 29, 0, 3), (119, .invokevirtual 153, 59, 0)],
  [(122, .iconst (0), 0, 0), (123, .istore 5, 5, 0), (125, .iload 5, 5, 0), (127, .bipush (16), 16, 0)],
  [(129, .if_icmp .ge (24), 153, 0), (132, .lload_n 3, 0, 0), (133, .aload_n 0, 0, 0), (134, .getfield 29, 0, 3)],
  [(137, .iload 5, 5, 0), (139, .invokevirtual 147, 55, 0), (142, .i2l, 0, 0), (143, .invokestatic 199, 89, 0)],
  [(146, .lstore_n 3, 0, 0), (147, .iinc 5 (1), 1, 0), (150, .goto (-25), 125, 0)],
  [(153, .lload_n 3, 0, 0), (154, .lreturn, 0, 0)]]
/-- SnapshotRingsModel.<init>()V -/
def sn_c93 : List (List (Nat × sn_E)) := [[(0, .aload_n 0, 0, 0), (1, .invokespecial 1, 9998, 0), (4, .aload_n 0, 0, 0), (5, .sipush (596), 596, 0)],
  [(8, .newarray .int, 1, 0), (10, .putfield 7, 5, 0), (13, .aload_n 0, 0, 0), (14, .sipush (596), 596, 0)],
  [(17, .newarray .int, 1, 0), (19, .putfield 13, 5, 1), (22, .aload_n 0, 0, 0), (23, .sipush (3576), 3576, 0)],
  [(26, .newarray .int, 1, 0), (28, .putfield 16, 5, 2), (31, .aload_n 0, 0, 0)],
  [(32, .bipush (80), 80, 0), (34, .newarray .int, 1, 0), (36, .putfield 19, 5, 4), (39, .aload_n 0, 0, 0)],
  [(40, .bipush (17), 17, 0), (42, .newarray .int, 1, 0), (44, .putfield 22, 5, 7), (47, .aload_n 0, 0, 0)],
  [(48, .bipush (17), 17, 0), (50, .newarray .int, 1, 0), (52, .putfield 25, 5, 8), (55, .aload_n 0, 0, 0)],
  [(56, .bipush (16), 16, 0), (58, .newarray .int, 1, 0), (60, .putfield 28, 5, 9), (63, .return_, 0, 0)]]
/-- SnapshotRingsModel.begin(I)I -/
def sn_c94 : List (List (Nat × sn_E)) := [[(0, .aload_n 0, 0, 0), (1, .iload_n 1, 0, 0), (2, .invokevirtual 106, 95, 0), (5, .istore_n 2, 0, 0), (6, .iload_n 2, 0, 0), (7, .ifCond .ge (5), 12, 0)],
  [(10, .iload_n 2, 0, 0), (11, .ireturn, 0, 0), (12, .aload_n 0, 0, 0), (13, .invokevirtual 109, 100, 0)],
  [(16, .aload_n 0, 0, 0), (17, .iload_n 1, 0, 0), (18, .invokevirtual 112, 102, 0), (21, .ireturn, 0, 0)]]
/-- SnapshotRingsModel.whyNotBegun(I)I -/
def sn_c95 : List (List (Nat × sn_E)) := [[(0, .iload_n 1, 0, 0), (1, .invokestatic 43, 96, 0), (4, .ifCond .ne (9), 13, 0), (7, .sipush (-20001), 20001, 1)],
  [(10, .goto (18), 28, 0), (13, .aload_n 0, 0, 0), (14, .iload_n 1, 0, 0), (15, .invokevirtual 100, 98, 0)],
  [(18, .ifCond .eq (9), 27, 0), (21, .sipush (-20003), 20003, 1)],
  [(24, .goto (4), 28, 0), (27, .iconst (0), 0, 0), (28, .ireturn, 0, 0)]]
/-- SnapshotRingsModel.isSlot(I)Z -/
def sn_c96 : List (List (Nat × sn_E)) := [[(0, .iload_n 0, 0, 0), (1, .iconst (0), 0, 0), (2, .bipush (7), 7, 0), (4, .invokestatic 39, 97, 0), (7, .ireturn, 0, 0)]]
/-- SnapshotRingsModel.within(III)Z -/
def sn_c97 : List (List (Nat × sn_E)) := [[(0, .iload_n 0, 0, 0), (1, .iload_n 1, 0, 0), (2, .if_icmp .lt (12), 14, 0), (5, .iload_n 0, 0, 0), (6, .iload_n 2, 0, 0), (7, .if_icmp .gt (7), 14, 0)],
  [(10, .iconst (1), 1, 0), (11, .goto (4), 15, 0), (14, .iconst (0), 0, 0), (15, .ireturn, 0, 0)]]
/-- SnapshotRingsModel.isOpen(I)Z -/
def sn_c98 : List (List (Nat × sn_E)) := [[(0, .iload_n 1, 0, 0), (1, .invokestatic 43, 96, 0), (4, .ifCond .eq (18), 22, 0), (7, .aload_n 0, 0, 0)],
  [(8, .iload_n 1, 0, 0), (9, .bipush (39), 39, 0), (11, .invokevirtual 47, 99, 0), (14, .iconst (1), 1, 0), (15, .if_icmp .ne (7), 22, 0)],
  [(18, .iconst (1), 1, 0), (19, .goto (4), 23, 0), (22, .iconst (0), 0, 0), (23, .ireturn, 0, 0)]]
/-- SnapshotRingsModel.slotPart(II)I -/
def sn_c99 : List (List (Nat × sn_E)) := [[(0, .aload_n 0, 0, 0), (1, .getfield 7, 5, 0), (4, .bipush (36), 36, 0), (6, .bipush (40), 40, 0)],
  [(8, .iload_n 1, 0, 0), (9, .imul, 0, 0), (10, .iadd, 0, 0), (11, .iload_n 2, 0, 0), (12, .iadd, 0, 0), (13, .iaload, 0, 0), (14, .ireturn, 0, 0)]]
/-- SnapshotRingsModel.record()V -/
def sn_c100 : List (List (Nat × sn_E)) := [[(0, .aload_n 0, 0, 0), (1, .getfield 31, 5, 3), (4, .bipush (6), 6, 0), (6, .if_icmp .ne (44), 50, 0)],
  [(9, .iconst (0), 0, 0), (10, .istore_n 1, 0, 0), (11, .iload_n 1, 0, 0), (12, .sipush (2980), 2980, 0), (15, .if_icmp .ge (25), 40, 0)],
  [(18, .aload_n 0, 0, 0), (19, .getfield 16, 5, 2), (22, .iload_n 1, 0, 0), (23, .aload_n 0, 0, 0)],
  [(24, .getfield 16, 5, 2), (27, .iload_n 1, 0, 0), (28, .sipush (596), 596, 0), (31, .iadd, 0, 0)],
  [(32, .iaload, 0, 0), (33, .iastore, 0, 0), (34, .iinc 1 (1), 1, 0), (37, .goto (-26), 11, 0)],
  [(40, .aload_n 0, 0, 0), (41, .dup, 0, 0), (42, .getfield 31, 5, 3), (45, .iconst (1), 1, 0), (46, .isub, 0, 0), (47, .putfield 31, 5, 3)],
  [(50, .aload_n 0, 0, 0), (51, .getfield 7, 5, 0), (54, .iconst (0), 0, 0), (55, .aload_n 0, 0, 0)],
  [(56, .getfield 16, 5, 2), (59, .aload_n 0, 0, 0), (60, .getfield 31, 5, 3), (63, .sipush (596), 596, 0)],
  [(66, .imul, 0, 0), (67, .invokestatic 35, 101, 0), (70, .aload_n 0, 0, 0), (71, .dup, 0, 0)],
  [(72, .getfield 31, 5, 3), (75, .iconst (1), 1, 0), (76, .iadd, 0, 0), (77, .putfield 31, 5, 3)],
  [(80, .return_, 0, 0)]]
/-- SnapshotRingsModel.copies([II[II)V -/
def sn_c101 : List (List (Nat × sn_E)) := [[(0, .iconst (0), 0, 0), (1, .istore 4, 4, 0), (3, .iload 4, 4, 0), (5, .sipush (596), 596, 0)],
  [(8, .if_icmp .ge (21), 29, 0), (11, .aload_n 2, 0, 0), (12, .iload_n 3, 0, 0), (13, .iload 4, 4, 0), (15, .iadd, 0, 0)],
  [(16, .aload_n 0, 0, 0), (17, .iload_n 1, 0, 0), (18, .iload 4, 4, 0), (20, .iadd, 0, 0), (21, .iaload, 0, 0), (22, .iastore, 0, 0), (23, .iinc 4 (1), 1, 0)],
  [(26, .goto (-23), 3, 0), (29, .return_, 0, 0)]]
/-- SnapshotRingsModel.begins(I)I -/
def sn_c102 : List (List (Nat × sn_E)) := [[(0, .aload_n 0, 0, 0), (1, .iload_n 1, 0, 0), (2, .invokevirtual 103, 103, 0), (5, .aload_n 0, 0, 0), (6, .iload_n 1, 0, 0), (7, .bipush (39), 39, 0)],
  [(9, .iconst (1), 1, 0), (10, .invokevirtual 96, 104, 0), (13, .aload_n 0, 0, 0), (14, .iload_n 1, 0, 0), (15, .iconst (0), 0, 0)],
  [(16, .aload_n 0, 0, 0), (17, .getfield 7, 5, 0), (20, .iconst (0), 0, 0), (21, .iaload, 0, 0), (22, .invokevirtual 96, 104, 0)],
  [(25, .iconst (0), 0, 0), (26, .istore_n 2, 0, 0), (27, .iload_n 2, 0, 0), (28, .bipush (12), 12, 0), (30, .if_icmp .ge (44), 74, 0)],
  [(33, .aload_n 0, 0, 0), (34, .iload_n 1, 0, 0), (35, .iconst (3), 3, 0), (36, .iload_n 2, 0, 0), (37, .iadd, 0, 0), (38, .aload_n 0, 0, 0), (39, .getfield 7, 5, 0)],
  [(42, .bipush (24), 24, 0), (44, .iload_n 2, 0, 0), (45, .iadd, 0, 0), (46, .iaload, 0, 0), (47, .invokevirtual 96, 104, 0)],
  [(50, .aload_n 0, 0, 0), (51, .iload_n 1, 0, 0), (52, .bipush (15), 15, 0), (54, .iload_n 2, 0, 0), (55, .iadd, 0, 0)],
  [(56, .aload_n 0, 0, 0), (57, .getfield 7, 5, 0), (60, .bipush (12), 12, 0), (62, .iload_n 2, 0, 0), (63, .iadd, 0, 0)],
  [(64, .iaload, 0, 0), (65, .invokevirtual 96, 104, 0), (68, .iinc 2 (1), 1, 0), (71, .goto (-44), 27, 0)],
  [(74, .aload_n 0, 0, 0), (75, .getfield 7, 5, 0), (78, .iconst (0), 0, 0), (79, .iaload, 0, 0)],
  [(80, .ireturn, 0, 0)]]
/-- SnapshotRingsModel.frees(I)V -/
def sn_c103 : List (List (Nat × sn_E)) := [[(0, .iconst (0), 0, 0), (1, .istore_n 2, 0, 0), (2, .iload_n 2, 0, 0), (3, .bipush (40), 40, 0), (5, .if_icmp .ge (16), 21, 0)],
  [(8, .aload_n 0, 0, 0), (9, .iload_n 1, 0, 0), (10, .iload_n 2, 0, 0), (11, .iconst (0), 0, 0), (12, .invokevirtual 96, 104, 0), (15, .iinc 2 (1), 1, 0)],
  [(18, .goto (-16), 2, 0), (21, .return_, 0, 0)]]
/-- SnapshotRingsModel.setSlot(III)V -/
def sn_c104 : List (List (Nat × sn_E)) := [[(0, .aload_n 0, 0, 0), (1, .getfield 7, 5, 0), (4, .bipush (36), 36, 0), (6, .bipush (40), 40, 0)],
  [(8, .iload_n 1, 0, 0), (9, .imul, 0, 0), (10, .iadd, 0, 0), (11, .iload_n 2, 0, 0), (12, .iadd, 0, 0), (13, .iload_n 3, 0, 0), (14, .iastore, 0, 0), (15, .return_, 0, 0)]]
/-- SnapshotRingsModel.read(II)I -/
def sn_c105 : List (List (Nat × sn_E)) := [[(0, .aload_n 0, 0, 0), (1, .iload_n 1, 0, 0), (2, .iload_n 2, 0, 0), (3, .invokevirtual 118, 106, 0), (6, .istore_n 3, 0, 0), (7, .iload_n 3, 0, 0)],
  [(8, .ifCond .ge (5), 13, 0), (11, .iload_n 3, 0, 0), (12, .ireturn, 0, 0), (13, .aload_n 0, 0, 0), (14, .invokevirtual 109, 100, 0)],
  [(17, .aload_n 0, 0, 0), (18, .iload_n 1, 0, 0), (19, .iload_n 2, 0, 0), (20, .invokevirtual 121, 108, 0), (23, .ireturn, 0, 0)]]
/-- SnapshotRingsModel.whyNotRead(II)I -/
def sn_c106 : List (List (Nat × sn_E)) := [[(0, .aload_n 0, 0, 0), (1, .iload_n 1, 0, 0), (2, .invokevirtual 100, 98, 0), (5, .ifCond .eq (14), 19, 0)],
  [(8, .iload_n 2, 0, 0), (9, .invokestatic 115, 107, 0), (12, .ifCond .eq (7), 19, 0), (15, .iconst (0), 0, 0)],
  [(16, .goto (6), 22, 0), (19, .sipush (-20001), 20001, 1), (22, .ireturn, 0, 0)]]
/-- SnapshotRingsModel.isKey(I)Z -/
def sn_c107 : List (List (Nat × sn_E)) := [[(0, .iload_n 0, 0, 0), (1, .iconst (0), 0, 0), (2, .bipush (11), 11, 0), (4, .invokestatic 39, 97, 0), (7, .ireturn, 0, 0)]]
/-- SnapshotRingsModel.reads(II)I -/
def sn_c108 : List (List (Nat × sn_E)) := [[(0, .aload_n 0, 0, 0), (1, .iload_n 1, 0, 0), (2, .iconst (2), 2, 0), (3, .invokevirtual 47, 99, 0), (6, .iload_n 2, 0, 0), (7, .ishr, 0, 0)],
  [(8, .iconst (1), 1, 0), (9, .iand, 0, 0), (10, .iconst (1), 1, 0), (11, .if_icmp .ne (13), 24, 0), (14, .aload_n 0, 0, 0), (15, .iload_n 1, 0, 0)],
  [(16, .bipush (27), 27, 0), (18, .iload_n 2, 0, 0), (19, .iadd, 0, 0), (20, .invokevirtual 47, 99, 0), (23, .ireturn, 0, 0)],
  [(24, .aload_n 0, 0, 0), (25, .iload_n 1, 0, 0), (26, .iconst (1), 1, 0), (27, .aload_n 0, 0, 0), (28, .iload_n 1, 0, 0), (29, .iconst (1), 1, 0), (30, .invokevirtual 47, 99, 0)],
  [(33, .iconst (1), 1, 0), (34, .iload_n 2, 0, 0), (35, .ishl, 0, 0), (36, .ior, 0, 0), (37, .invokevirtual 96, 104, 0)],
  [(40, .aload_n 0, 0, 0), (41, .iload_n 1, 0, 0), (42, .bipush (15), 15, 0), (44, .iload_n 2, 0, 0), (45, .iadd, 0, 0), (46, .invokevirtual 47, 99, 0)],
  [(49, .ireturn, 0, 0)]]
/-- SnapshotRingsModel.write(III)I -/
def sn_c109 : List (List (Nat × sn_E)) := [[(0, .aload_n 0, 0, 0), (1, .iload_n 1, 0, 0), (2, .iload_n 2, 0, 0), (3, .iload_n 3, 0, 0), (4, .invokevirtual 127, 110, 0), (7, .istore 4, 4, 0)],
  [(9, .iload 4, 4, 0), (11, .ifCond .ge (6), 17, 0), (14, .iload 4, 4, 0)],
  [(16, .ireturn, 0, 0), (17, .aload_n 0, 0, 0), (18, .invokevirtual 109, 100, 0), (21, .aload_n 0, 0, 0), (22, .iload_n 1, 0, 0), (23, .iload_n 2, 0, 0)],
  [(24, .iload_n 3, 0, 0), (25, .invokevirtual 131, 111, 0), (28, .ireturn, 0, 0)]]
/-- SnapshotRingsModel.whyNotWritten(III)I -/
def sn_c110 : List (List (Nat × sn_E)) := [[(0, .aload_n 0, 0, 0), (1, .iload_n 1, 0, 0), (2, .invokevirtual 100, 98, 0), (5, .ifCond .eq (10), 15, 0)],
  [(8, .iload_n 2, 0, 0), (9, .invokestatic 115, 107, 0), (12, .ifCond .ne (9), 21, 0), (15, .sipush (-20001), 20001, 1)],
  [(18, .goto (23), 41, 0), (21, .iload_n 3, 0, 0), (22, .sipush (-999), 999, 1)],
  [(25, .sipush (999), 999, 0), (28, .invokestatic 39, 97, 0), (31, .ifCond .eq (7), 38, 0)],
  [(34, .iconst (0), 0, 0), (35, .goto (6), 41, 0), (38, .sipush (-20002), 20002, 1)],
  [(41, .ireturn, 0, 0)]]
/-- SnapshotRingsModel.writes(III)I -/
def sn_c111 : List (List (Nat × sn_E)) := [[(0, .aload_n 0, 0, 0), (1, .iload_n 1, 0, 0), (2, .iconst (2), 2, 0), (3, .aload_n 0, 0, 0), (4, .iload_n 1, 0, 0), (5, .iconst (2), 2, 0), (6, .invokevirtual 47, 99, 0)],
  [(9, .iconst (1), 1, 0), (10, .iload_n 2, 0, 0), (11, .ishl, 0, 0), (12, .ior, 0, 0), (13, .invokevirtual 96, 104, 0)],
  [(16, .aload_n 0, 0, 0), (17, .iload_n 1, 0, 0), (18, .bipush (27), 27, 0), (20, .iload_n 2, 0, 0), (21, .iadd, 0, 0), (22, .iload_n 3, 0, 0), (23, .invokevirtual 96, 104, 0)],
  [(26, .aload_n 0, 0, 0), (27, .iload_n 1, 0, 0), (28, .iconst (2), 2, 0), (29, .invokevirtual 47, 99, 0)],
  [(32, .invokestatic 124, 112, 0), (35, .ireturn, 0, 0)]]
/-- SnapshotRingsModel.ones(I)I -/
def sn_c112 : List (List (Nat × sn_E)) := [[(0, .iconst (0), 0, 0), (1, .istore_n 1, 0, 0), (2, .iconst (0), 0, 0), (3, .istore_n 2, 0, 0), (4, .iload_n 2, 0, 0), (5, .bipush (12), 12, 0), (7, .if_icmp .ge (17), 24, 0)],
  [(10, .iload_n 1, 0, 0), (11, .iload_n 0, 0, 0), (12, .iload_n 2, 0, 0), (13, .ishr, 0, 0), (14, .iconst (1), 1, 0), (15, .iand, 0, 0)],
  [(16, .iadd, 0, 0), (17, .istore_n 1, 0, 0), (18, .iinc 2 (1), 1, 0), (21, .goto (-17), 4, 0)],
  [(24, .iload_n 1, 0, 0), (25, .ireturn, 0, 0)]]
/-- SnapshotRingsModel.commit(I)I -/
def sn_c113 : List (List (Nat × sn_E)) := [[(0, .aload_n 0, 0, 0), (1, .iload_n 1, 0, 0), (2, .invokevirtual 137, 114, 0), (5, .istore_n 2, 0, 0), (6, .iload_n 2, 0, 0), (7, .ifCond .ge (5), 12, 0)],
  [(10, .iload_n 2, 0, 0), (11, .ireturn, 0, 0), (12, .aload_n 0, 0, 0), (13, .invokevirtual 109, 100, 0)],
  [(16, .aload_n 0, 0, 0), (17, .iload_n 1, 0, 0), (18, .invokevirtual 140, 115, 0), (21, .ireturn, 0, 0)]]
/-- SnapshotRingsModel.whyNotOpen(I)I -/
def sn_c114 : List (List (Nat × sn_E)) := [[(0, .aload_n 0, 0, 0), (1, .iload_n 1, 0, 0), (2, .invokevirtual 100, 98, 0), (5, .ifCond .eq (7), 12, 0)],
  [(8, .iconst (0), 0, 0), (9, .goto (6), 15, 0), (12, .sipush (-20001), 20001, 1), (15, .ireturn, 0, 0)]]
/-- SnapshotRingsModel.commits(I)I -/
def sn_c115 : List (List (Nat × sn_E)) := [[(0, .aload_n 0, 0, 0), (1, .iload_n 1, 0, 0), (2, .aload_n 0, 0, 0), (3, .getfield 7, 5, 0), (6, .iconst (1), 1, 0), (7, .iaload, 0, 0)],
  [(8, .invokevirtual 134, 116, 0), (11, .istore_n 2, 0, 0), (12, .iload_n 2, 0, 0), (13, .ifCond .le (25), 38, 0)],
  [(16, .aload_n 0, 0, 0), (17, .getfield 7, 5, 0), (20, .iconst (2), 2, 0), (21, .iload_n 2, 0, 0), (22, .iadd, 0, 0), (23, .iconst (1), 1, 0)],
  [(24, .isub, 0, 0), (25, .dup2, 0, 0), (26, .iaload, 0, 0), (27, .iconst (1), 1, 0), (28, .iadd, 0, 0), (29, .iastore, 0, 0), (30, .aload_n 0, 0, 0), (31, .iload_n 1, 0, 0)],
  [(32, .invokevirtual 103, 103, 0), (35, .iload_n 2, 0, 0), (36, .ineg, 0, 0), (37, .ireturn, 0, 0), (38, .aload_n 0, 0, 0), (39, .getfield 7, 5, 0)],
  [(42, .iconst (0), 0, 0), (43, .dup2, 0, 0), (44, .iaload, 0, 0), (45, .iconst (1), 1, 0), (46, .iadd, 0, 0), (47, .iastore, 0, 0)],
  [(48, .iconst (0), 0, 0), (49, .istore_n 3, 0, 0), (50, .iload_n 3, 0, 0), (51, .bipush (15), 15, 0), (53, .if_icmp .ge (31), 84, 0)],
  [(56, .aload_n 0, 0, 0), (57, .getfield 7, 5, 0), (60, .aload_n 0, 0, 0), (61, .getfield 7, 5, 0)],
  [(64, .iconst (0), 0, 0), (65, .iaload, 0, 0), (66, .invokestatic 65, 126, 0), (69, .iload_n 3, 0, 0), (70, .iadd, 0, 0), (71, .aload_n 0, 0, 0)],
  [(72, .iload_n 1, 0, 0), (73, .iload_n 3, 0, 0), (74, .invokevirtual 47, 99, 0), (77, .iastore, 0, 0), (78, .iinc 3 (1), 1, 0)],
  [(81, .goto (-31), 50, 0), (84, .iconst (0), 0, 0), (85, .istore_n 3, 0, 0), (86, .iload_n 3, 0, 0), (87, .bipush (12), 12, 0)],
  [(89, .if_icmp .ge (56), 145, 0), (92, .aload_n 0, 0, 0), (93, .iload_n 1, 0, 0), (94, .iconst (2), 2, 0), (95, .invokevirtual 47, 99, 0)],
  [(98, .iload_n 3, 0, 0), (99, .ishr, 0, 0), (100, .iconst (1), 1, 0), (101, .iand, 0, 0), (102, .iconst (1), 1, 0), (103, .if_icmp .ne (36), 139, 0)],
  [(106, .aload_n 0, 0, 0), (107, .getfield 7, 5, 0), (110, .bipush (12), 12, 0)],
  [(112, .iload_n 3, 0, 0), (113, .iadd, 0, 0), (114, .aload_n 0, 0, 0), (115, .iload_n 1, 0, 0), (116, .bipush (27), 27, 0), (118, .iload_n 3, 0, 0), (119, .iadd, 0, 0)],
  [(120, .invokevirtual 47, 99, 0), (123, .iastore, 0, 0), (124, .aload_n 0, 0, 0), (125, .getfield 7, 5, 0)],
  [(128, .bipush (24), 24, 0), (130, .iload_n 3, 0, 0), (131, .iadd, 0, 0), (132, .aload_n 0, 0, 0), (133, .getfield 7, 5, 0)],
  [(136, .iconst (0), 0, 0), (137, .iaload, 0, 0), (138, .iastore, 0, 0), (139, .iinc 3 (1), 1, 0), (142, .goto (-56), 86, 0)],
  [(145, .aload_n 0, 0, 0), (146, .iload_n 1, 0, 0), (147, .invokevirtual 103, 103, 0), (150, .aload_n 0, 0, 0), (151, .getfield 7, 5, 0)],
  [(154, .iconst (0), 0, 0), (155, .iaload, 0, 0), (156, .ireturn, 0, 0)]]
/-- SnapshotRingsModel.whyRefused(II)I -/
def sn_c116 : List (List (Nat × sn_E)) := [[(0, .aload_n 0, 0, 0), (1, .iload_n 1, 0, 0), (2, .invokevirtual 87, 117, 0), (5, .ifCond .eq (5), 10, 0)],
  [(8, .iconst (1), 1, 0), (9, .ireturn, 0, 0), (10, .iload_n 2, 0, 0), (11, .iconst (1), 1, 0), (12, .if_icmp .lt (13), 25, 0), (15, .aload_n 0, 0, 0)],
  [(16, .iload_n 1, 0, 0), (17, .invokevirtual 90, 118, 0), (20, .ifCond .eq (5), 25, 0), (23, .iconst (2), 2, 0)],
  [(24, .ireturn, 0, 0), (25, .iload_n 2, 0, 0), (26, .iconst (2), 2, 0), (27, .if_icmp .ne (15), 42, 0), (30, .aload_n 0, 0, 0), (31, .iload_n 1, 0, 0)],
  [(32, .invokevirtual 93, 129, 0), (35, .ifCond .eq (7), 42, 0), (38, .iconst (3), 3, 0), (39, .goto (4), 43, 0)],
  [(42, .iconst (0), 0, 0), (43, .ireturn, 0, 0)]]
/-- SnapshotRingsModel.isOverwritten(I)Z -/
def sn_c117 : List (List (Nat × sn_E)) := [[(0, .iconst (0), 0, 0), (1, .istore_n 2, 0, 0), (2, .iconst (0), 0, 0), (3, .istore_n 3, 0, 0), (4, .iload_n 3, 0, 0), (5, .bipush (12), 12, 0), (7, .if_icmp .ge (51), 58, 0)],
  [(10, .iload_n 2, 0, 0), (11, .ifCond .ne (35), 46, 0), (14, .aload_n 0, 0, 0), (15, .iload_n 1, 0, 0)],
  [(16, .iconst (2), 2, 0), (17, .invokevirtual 47, 99, 0), (20, .iload_n 3, 0, 0), (21, .ishr, 0, 0), (22, .iconst (1), 1, 0), (23, .iand, 0, 0)],
  [(24, .iconst (1), 1, 0), (25, .if_icmp .ne (25), 50, 0), (28, .aload_n 0, 0, 0), (29, .getfield 7, 5, 0)],
  [(32, .bipush (24), 24, 0), (34, .iload_n 3, 0, 0), (35, .iadd, 0, 0), (36, .iaload, 0, 0), (37, .aload_n 0, 0, 0), (38, .iload_n 1, 0, 0), (39, .iconst (0), 0, 0)],
  [(40, .invokevirtual 47, 99, 0), (43, .if_icmp .le (7), 50, 0), (46, .iconst (1), 1, 0), (47, .goto (4), 51, 0)],
  [(50, .iconst (0), 0, 0), (51, .istore_n 2, 0, 0), (52, .iinc 3 (1), 1, 0), (55, .goto (-51), 4, 0)],
  [(58, .iload_n 2, 0, 0), (59, .ireturn, 0, 0)]]
/-- SnapshotRingsModel.hasRing(I)Z -/
def sn_c118 : List (List (Nat × sn_E)) := [[(0, .aload_n 0, 0, 0), (1, .iload_n 1, 0, 0), (2, .putfield 58, 5, 6), (5, .aload_n 0, 0, 0), (6, .bipush (7), 7, 0)],
  [(8, .invokevirtual 77, 119, 0), (11, .aload_n 0, 0, 0), (12, .bipush (16), 16, 0), (14, .invokevirtual 81, 127, 0)],
  [(17, .aload_n 0, 0, 0), (18, .bipush (16), 16, 0), (20, .invokevirtual 84, 128, 0), (23, .sipush (-20006), 20006, 1)],
  [(26, .if_icmp .eq (7), 33, 0), (29, .iconst (1), 1, 0), (30, .goto (4), 34, 0)],
  [(33, .iconst (0), 0, 0), (34, .ireturn, 0, 0)]]
/-- SnapshotRingsModel.findBehind(I)V -/
def sn_c119 : List (List (Nat × sn_E)) := [[(0, .iconst (0), 0, 0), (1, .istore_n 2, 0, 0), (2, .iload_n 2, 0, 0), (3, .bipush (17), 17, 0), (5, .if_icmp .ge (74), 79, 0)],
  [(8, .aload_n 0, 0, 0), (9, .getfield 22, 5, 7), (12, .iload_n 2, 0, 0), (13, .iconst (0), 0, 0), (14, .iastore, 0, 0), (15, .iconst (0), 0, 0)],
  [(16, .istore_n 3, 0, 0), (17, .iload_n 3, 0, 0), (18, .bipush (17), 17, 0), (20, .if_icmp .ge (53), 73, 0), (23, .iload_n 2, 0, 0)],
  [(24, .iload_n 3, 0, 0), (25, .if_icmp .eq (42), 67, 0), (28, .aload_n 0, 0, 0), (29, .iload_n 2, 0, 0), (30, .invokevirtual 71, 120, 0)],
  [(33, .ifCond .eq (34), 67, 0), (36, .aload_n 0, 0, 0), (37, .iload_n 3, 0, 0), (38, .invokevirtual 71, 120, 0)],
  [(41, .ifCond .eq (26), 67, 0), (44, .aload_n 0, 0, 0), (45, .iload_n 2, 0, 0), (46, .iload_n 3, 0, 0), (47, .invokevirtual 74, 122, 0)],
  [(50, .iload_n 1, 0, 0), (51, .iand, 0, 0), (52, .ifCond .eq (15), 67, 0), (55, .aload_n 0, 0, 0)],
  [(56, .getfield 22, 5, 7), (59, .iload_n 2, 0, 0), (60, .dup2, 0, 0), (61, .iaload, 0, 0), (62, .iconst (1), 1, 0), (63, .iload_n 3, 0, 0)],
  [(64, .ishl, 0, 0), (65, .ior, 0, 0), (66, .iastore, 0, 0), (67, .iinc 3 (1), 1, 0), (70, .goto (-53), 17, 0)],
  [(73, .iinc 2 (1), 1, 0), (76, .goto (-74), 2, 0), (79, .return_, 0, 0)]]
/-- SnapshotRingsModel.isNode(I)Z -/
def sn_c120 : List (List (Nat × sn_E)) := [[(0, .iload_n 1, 0, 0), (1, .bipush (16), 16, 0), (3, .if_icmp .ne (21), 24, 0), (6, .aload_n 0, 0, 0), (7, .getfield 58, 5, 6)],
  [(10, .sipush (-20006), 20006, 1), (13, .if_icmp .eq (7), 20, 0)],
  [(16, .iconst (1), 1, 0), (17, .goto (20), 37, 0), (20, .iconst (0), 0, 0), (21, .goto (16), 37, 0)],
  [(24, .iload_n 1, 0, 0), (25, .aload_n 0, 0, 0), (26, .invokevirtual 51, 121, 0), (29, .if_icmp .ge (7), 36, 0)],
  [(32, .iconst (1), 1, 0), (33, .goto (4), 37, 0), (36, .iconst (0), 0, 0), (37, .ireturn, 0, 0)]]
/-- SnapshotRingsModel.keptMany()I -/
def sn_c121 : List (List (Nat × sn_E)) := [[(0, .aload_n 0, 0, 0), (1, .getfield 7, 5, 0), (4, .iconst (0), 0, 0), (5, .iaload, 0, 0), (6, .bipush (16), 16, 0)],
  [(8, .if_icmp .ge (12), 20, 0), (11, .aload_n 0, 0, 0), (12, .getfield 7, 5, 0), (15, .iconst (0), 0, 0)],
  [(16, .iaload, 0, 0), (17, .goto (5), 22, 0), (20, .bipush (16), 16, 0), (22, .ireturn, 0, 0)]]
/-- SnapshotRingsModel.dependencyOf(II)I -/
def sn_c122 : List (List (Nat × sn_E)) := [[(0, .aload_n 0, 0, 0), (1, .iload_n 1, 0, 0), (2, .invokevirtual 68, 123, 0), (5, .istore_n 3, 0, 0), (6, .aload_n 0, 0, 0), (7, .iload_n 2, 0, 0)],
  [(8, .invokevirtual 68, 123, 0), (11, .istore 4, 4, 0), (13, .aload_n 0, 0, 0), (14, .getfield 7, 5, 0)],
  [(17, .iload_n 3, 0, 0), (18, .iconst (2), 2, 0), (19, .iadd, 0, 0), (20, .iaload, 0, 0), (21, .aload_n 0, 0, 0), (22, .getfield 7, 5, 0)],
  [(25, .iload 4, 4, 0), (27, .iconst (2), 2, 0), (28, .iadd, 0, 0), (29, .iaload, 0, 0), (30, .iand, 0, 0), (31, .ifCond .eq (20), 51, 0)],
  [(34, .aload_n 0, 0, 0), (35, .iload_n 1, 0, 0), (36, .invokevirtual 61, 124, 0), (39, .aload_n 0, 0, 0)],
  [(40, .iload_n 2, 0, 0), (41, .invokevirtual 61, 124, 0), (44, .if_icmp .ge (7), 51, 0), (47, .iconst (1), 1, 0)],
  [(48, .goto (4), 52, 0), (51, .iconst (0), 0, 0), (52, .istore 5, 5, 0), (54, .iconst (0), 0, 0), (55, .istore 6, 6, 0)],
  [(57, .iconst (0), 0, 0), (58, .istore 7, 7, 0), (60, .iconst (0), 0, 0), (61, .istore 8, 8, 0), (63, .iload 8, 8, 0)],
  [(65, .bipush (12), 12, 0), (67, .if_icmp .ge (142), 209, 0), (70, .iload 6, 6, 0)],
  [(72, .ifCond .ne (58), 130, 0), (75, .aload_n 0, 0, 0), (76, .getfield 7, 5, 0), (79, .iload 4, 4, 0)],
  [(81, .iconst (1), 1, 0), (82, .iadd, 0, 0), (83, .iaload, 0, 0), (84, .iload 8, 8, 0), (86, .ishr, 0, 0), (87, .iconst (1), 1, 0)],
  [(88, .iand, 0, 0), (89, .iconst (1), 1, 0), (90, .if_icmp .ne (44), 134, 0), (93, .aload_n 0, 0, 0), (94, .getfield 7, 5, 0)],
  [(97, .iload_n 3, 0, 0), (98, .iconst (2), 2, 0), (99, .iadd, 0, 0), (100, .iaload, 0, 0), (101, .iload 8, 8, 0), (103, .ishr, 0, 0)],
  [(104, .iconst (1), 1, 0), (105, .iand, 0, 0), (106, .iconst (1), 1, 0), (107, .if_icmp .ne (27), 134, 0), (110, .aload_n 0, 0, 0), (111, .getfield 7, 5, 0)],
  [(114, .iload 4, 4, 0), (116, .iconst (3), 3, 0), (117, .iadd, 0, 0), (118, .iload 8, 8, 0)],
  [(120, .iadd, 0, 0), (121, .iaload, 0, 0), (122, .aload_n 0, 0, 0), (123, .iload_n 1, 0, 0), (124, .invokevirtual 61, 124, 0), (127, .if_icmp .ne (7), 134, 0)],
  [(130, .iconst (1), 1, 0), (131, .goto (4), 135, 0), (134, .iconst (0), 0, 0), (135, .istore 6, 6, 0)],
  [(137, .iload 7, 7, 0), (139, .ifCond .ne (57), 196, 0), (142, .aload_n 0, 0, 0), (143, .getfield 7, 5, 0)],
  [(146, .iload_n 3, 0, 0), (147, .iconst (1), 1, 0), (148, .iadd, 0, 0), (149, .iaload, 0, 0), (150, .iload 8, 8, 0)],
  [(152, .ishr, 0, 0), (153, .iconst (1), 1, 0), (154, .iand, 0, 0), (155, .iconst (1), 1, 0), (156, .if_icmp .ne (44), 200, 0), (159, .aload_n 0, 0, 0)],
  [(160, .getfield 7, 5, 0), (163, .iload 4, 4, 0), (165, .iconst (2), 2, 0), (166, .iadd, 0, 0), (167, .iaload, 0, 0)],
  [(168, .iload 8, 8, 0), (170, .ishr, 0, 0), (171, .iconst (1), 1, 0), (172, .iand, 0, 0), (173, .iconst (1), 1, 0), (174, .if_icmp .ne (26), 200, 0)],
  [(177, .aload_n 0, 0, 0), (178, .getfield 7, 5, 0), (181, .iload_n 3, 0, 0), (182, .iconst (3), 3, 0), (183, .iadd, 0, 0)],
  [(184, .iload 8, 8, 0), (186, .iadd, 0, 0), (187, .iaload, 0, 0), (188, .aload_n 0, 0, 0), (189, .iload_n 2, 0, 0), (190, .invokevirtual 61, 124, 0)],
  [(193, .if_icmp .ge (7), 200, 0), (196, .iconst (1), 1, 0), (197, .goto (4), 201, 0)],
  [(200, .iconst (0), 0, 0), (201, .istore 7, 7, 0), (203, .iinc 8 (1), 1, 0), (206, .goto (-143), 63, 0)],
  [(209, .iload 5, 5, 0), (211, .iload 6, 6, 0), (213, .ifCond .eq (7), 220, 0)],
  [(216, .iconst (2), 2, 0), (217, .goto (4), 221, 0), (220, .iconst (0), 0, 0), (221, .iadd, 0, 0), (222, .iload 7, 7, 0)],
  [(224, .ifCond .eq (7), 231, 0), (227, .iconst (4), 4, 0), (228, .goto (4), 232, 0), (231, .iconst (0), 0, 0)],
  [(232, .iadd, 0, 0), (233, .ireturn, 0, 0)]]
/-- SnapshotRingsModel.placeOf(I)I -/
def sn_c123 : List (List (Nat × sn_E)) := [[(0, .iload_n 1, 0, 0), (1, .bipush (16), 16, 0), (3, .if_icmp .ne (16), 19, 0), (6, .bipush (36), 36, 0)],
  [(8, .bipush (40), 40, 0), (10, .aload_n 0, 0, 0), (11, .getfield 58, 5, 6), (14, .imul, 0, 0), (15, .iadd, 0, 0)],
  [(16, .goto (11), 27, 0), (19, .aload_n 0, 0, 0), (20, .iload_n 1, 0, 0), (21, .invokevirtual 61, 124, 0)],
  [(24, .invokestatic 65, 126, 0), (27, .ireturn, 0, 0)]]
/-- SnapshotRingsModel.numberOf(I)I -/
def sn_c124 : List (List (Nat × sn_E)) := [[(0, .iload_n 1, 0, 0), (1, .bipush (16), 16, 0), (3, .if_icmp .ne (14), 17, 0), (6, .aload_n 0, 0, 0), (7, .getfield 7, 5, 0)],
  [(10, .iconst (0), 0, 0), (11, .iaload, 0, 0), (12, .iconst (1), 1, 0), (13, .iadd, 0, 0), (14, .goto (9), 23, 0)],
  [(17, .aload_n 0, 0, 0), (18, .invokevirtual 55, 125, 0), (21, .iload_n 1, 0, 0), (22, .iadd, 0, 0), (23, .ireturn, 0, 0)]]
/-- SnapshotRingsModel.firstKept()I -/
def sn_c125 : List (List (Nat × sn_E)) := [[(0, .aload_n 0, 0, 0), (1, .getfield 7, 5, 0), (4, .iconst (0), 0, 0), (5, .iaload, 0, 0), (6, .aload_n 0, 0, 0), (7, .invokevirtual 51, 121, 0)],
  [(10, .isub, 0, 0), (11, .iconst (1), 1, 0), (12, .iadd, 0, 0), (13, .ireturn, 0, 0)]]
/-- SnapshotRingsModel.keptAt(I)I -/
def sn_c126 : List (List (Nat × sn_E)) := [[(0, .sipush (356), 356, 0), (3, .bipush (15), 15, 0), (5, .iload_n 0, 0, 0), (6, .bipush (16), 16, 0)],
  [(8, .irem, 0, 0), (9, .imul, 0, 0), (10, .iadd, 0, 0), (11, .ireturn, 0, 0)]]
/-- SnapshotRingsModel.findFar(I)V -/
def sn_c127 : List (List (Nat × sn_E)) := [[(0, .iconst (0), 0, 0), (1, .istore_n 2, 0, 0), (2, .iload_n 2, 0, 0), (3, .bipush (17), 17, 0), (5, .if_icmp .ge (27), 32, 0)],
  [(8, .aload_n 0, 0, 0), (9, .getfield 25, 5, 8), (12, .iload_n 2, 0, 0), (13, .iload_n 2, 0, 0), (14, .iload_n 1, 0, 0), (15, .if_icmp .ne (7), 22, 0)],
  [(18, .iconst (0), 0, 0), (19, .goto (6), 25, 0), (22, .sipush (-20006), 20006, 1)],
  [(25, .iastore, 0, 0), (26, .iinc 2 (1), 1, 0), (29, .goto (-27), 2, 0)],
  [(32, .iconst (1), 1, 0), (33, .istore_n 2, 0, 0), (34, .iload_n 2, 0, 0), (35, .bipush (17), 17, 0), (37, .if_icmp .ge (95), 132, 0)],
  [(40, .iconst (0), 0, 0), (41, .istore_n 3, 0, 0), (42, .iload_n 3, 0, 0), (43, .bipush (17), 17, 0), (45, .if_icmp .ge (81), 126, 0)],
  [(48, .iconst (0), 0, 0), (49, .istore 4, 4, 0), (51, .iload 4, 4, 0), (53, .bipush (17), 17, 0), (55, .if_icmp .ge (65), 120, 0)],
  [(58, .aload_n 0, 0, 0), (59, .getfield 25, 5, 8), (62, .iload_n 3, 0, 0), (63, .aload_n 0, 0, 0)],
  [(64, .getfield 25, 5, 8), (67, .iload_n 3, 0, 0), (68, .iaload, 0, 0), (69, .sipush (-20006), 20006, 1)],
  [(72, .if_icmp .ne (35), 107, 0), (75, .aload_n 0, 0, 0), (76, .getfield 22, 5, 7), (79, .iload_n 3, 0, 0)],
  [(80, .iaload, 0, 0), (81, .iload 4, 4, 0), (83, .ishr, 0, 0), (84, .iconst (1), 1, 0), (85, .iand, 0, 0), (86, .iconst (1), 1, 0), (87, .if_icmp .ne (20), 107, 0)],
  [(90, .aload_n 0, 0, 0), (91, .getfield 25, 5, 8), (94, .iload 4, 4, 0)],
  [(96, .iaload, 0, 0), (97, .iload_n 2, 0, 0), (98, .iconst (1), 1, 0), (99, .isub, 0, 0), (100, .if_icmp .ne (7), 107, 0), (103, .iload_n 2, 0, 0)],
  [(104, .goto (9), 113, 0), (107, .aload_n 0, 0, 0), (108, .getfield 25, 5, 8), (111, .iload_n 3, 0, 0)],
  [(112, .iaload, 0, 0), (113, .iastore, 0, 0), (114, .iinc 4 (1), 1, 0), (117, .goto (-66), 51, 0)],
  [(120, .iinc 3 (1), 1, 0), (123, .goto (-81), 42, 0), (126, .iinc 2 (1), 1, 0)],
  [(129, .goto (-95), 34, 0), (132, .return_, 0, 0)]]
/-- SnapshotRingsModel.nextNode(I)I -/
def sn_c128 : List (List (Nat × sn_E)) := [[(0, .sipush (-20006), 20006, 1), (3, .istore_n 2, 0, 0), (4, .iconst (0), 0, 0), (5, .istore_n 3, 0, 0), (6, .iload_n 3, 0, 0), (7, .bipush (17), 17, 0)],
  [(9, .if_icmp .ge (75), 84, 0), (12, .aload_n 0, 0, 0), (13, .getfield 22, 5, 7)],
  [(16, .iload_n 1, 0, 0), (17, .iaload, 0, 0), (18, .iload_n 3, 0, 0), (19, .ishr, 0, 0), (20, .iconst (1), 1, 0), (21, .iand, 0, 0), (22, .iconst (1), 1, 0), (23, .if_icmp .ne (19), 42, 0)],
  [(26, .aload_n 0, 0, 0), (27, .getfield 25, 5, 8), (30, .iload_n 3, 0, 0), (31, .iaload, 0, 0)],
  [(32, .sipush (-20006), 20006, 1), (35, .if_icmp .eq (7), 42, 0), (38, .iconst (1), 1, 0), (39, .goto (4), 43, 0)],
  [(42, .iconst (0), 0, 0), (43, .istore 4, 4, 0), (45, .iload 4, 4, 0), (47, .ifCond .eq (29), 76, 0)],
  [(50, .iload_n 2, 0, 0), (51, .sipush (-20006), 20006, 1), (54, .if_icmp .eq (18), 72, 0)],
  [(57, .aload_n 0, 0, 0), (58, .getfield 25, 5, 8), (61, .iload_n 3, 0, 0), (62, .iaload, 0, 0), (63, .aload_n 0, 0, 0)],
  [(64, .getfield 25, 5, 8), (67, .iload_n 2, 0, 0), (68, .iaload, 0, 0), (69, .if_icmp .ge (7), 76, 0)],
  [(72, .iload_n 3, 0, 0), (73, .goto (4), 77, 0), (76, .iload_n 2, 0, 0), (77, .istore_n 2, 0, 0), (78, .iinc 3 (1), 1, 0)],
  [(81, .goto (-75), 6, 0), (84, .iload_n 2, 0, 0), (85, .ireturn, 0, 0)]]
/-- SnapshotRingsModel.isPivot(I)Z -/
def sn_c129 : List (List (Nat × sn_E)) := [[(0, .aload_n 0, 0, 0), (1, .iload_n 1, 0, 0), (2, .putfield 58, 5, 6), (5, .aload_n 0, 0, 0), (6, .iconst (4), 4, 0), (7, .invokevirtual 77, 119, 0)],
  [(10, .iconst (0), 0, 0), (11, .istore_n 2, 0, 0), (12, .iconst (0), 0, 0), (13, .istore_n 3, 0, 0), (14, .iload_n 3, 0, 0), (15, .bipush (17), 17, 0)],
  [(17, .if_icmp .ge (102), 119, 0), (20, .iconst (0), 0, 0), (21, .istore 4, 4, 0), (23, .iload 4, 4, 0)],
  [(25, .bipush (17), 17, 0), (27, .if_icmp .ge (86), 113, 0), (30, .iconst (0), 0, 0), (31, .istore 5, 5, 0)],
  [(33, .iload 5, 5, 0), (35, .bipush (17), 17, 0), (37, .if_icmp .ge (70), 107, 0)],
  [(40, .iload_n 2, 0, 0), (41, .ifCond .ne (54), 95, 0), (44, .iload_n 3, 0, 0), (45, .bipush (16), 16, 0), (47, .if_icmp .eq (17), 64, 0)],
  [(50, .iload 4, 4, 0), (52, .bipush (16), 16, 0), (54, .if_icmp .eq (10), 64, 0)],
  [(57, .iload 5, 5, 0), (59, .bipush (16), 16, 0), (61, .if_icmp .ne (38), 99, 0)],
  [(64, .aload_n 0, 0, 0), (65, .getfield 22, 5, 7), (68, .iload_n 3, 0, 0), (69, .iaload, 0, 0), (70, .iload 4, 4, 0)],
  [(72, .ishr, 0, 0), (73, .iconst (1), 1, 0), (74, .iand, 0, 0), (75, .iconst (1), 1, 0), (76, .if_icmp .ne (23), 99, 0), (79, .aload_n 0, 0, 0)],
  [(80, .getfield 22, 5, 7), (83, .iload 4, 4, 0), (85, .iaload, 0, 0), (86, .iload 5, 5, 0)],
  [(88, .ishr, 0, 0), (89, .iconst (1), 1, 0), (90, .iand, 0, 0), (91, .iconst (1), 1, 0), (92, .if_icmp .ne (7), 99, 0), (95, .iconst (1), 1, 0)],
  [(96, .goto (4), 100, 0), (99, .iconst (0), 0, 0), (100, .istore_n 2, 0, 0), (101, .iinc 5 (1), 1, 0)],
  [(104, .goto (-71), 33, 0), (107, .iinc 4 (1), 1, 0), (110, .goto (-87), 23, 0)],
  [(113, .iinc 3 (1), 1, 0), (116, .goto (-102), 14, 0), (119, .iload_n 2, 0, 0)],
  [(120, .ireturn, 0, 0)]]
/-- SnapshotRingsModel.abort(I)I -/
def sn_c130 : List (List (Nat × sn_E)) := [[(0, .aload_n 0, 0, 0), (1, .iload_n 1, 0, 0), (2, .invokevirtual 137, 114, 0), (5, .istore_n 2, 0, 0), (6, .iload_n 2, 0, 0), (7, .ifCond .ge (5), 12, 0)],
  [(10, .iload_n 2, 0, 0), (11, .ireturn, 0, 0), (12, .aload_n 0, 0, 0), (13, .invokevirtual 109, 100, 0)],
  [(16, .aload_n 0, 0, 0), (17, .iload_n 1, 0, 0), (18, .invokevirtual 143, 131, 0), (21, .ireturn, 0, 0)]]
/-- SnapshotRingsModel.aborts(I)I -/
def sn_c131 : List (List (Nat × sn_E)) := [[(0, .aload_n 0, 0, 0), (1, .iload_n 1, 0, 0), (2, .iconst (2), 2, 0), (3, .invokevirtual 47, 99, 0), (6, .invokestatic 124, 112, 0)],
  [(9, .istore_n 2, 0, 0), (10, .aload_n 0, 0, 0), (11, .getfield 7, 5, 0), (14, .iconst (5), 5, 0), (15, .dup2, 0, 0)],
  [(16, .iaload, 0, 0), (17, .iconst (1), 1, 0), (18, .iadd, 0, 0), (19, .iastore, 0, 0), (20, .aload_n 0, 0, 0), (21, .iload_n 1, 0, 0), (22, .invokevirtual 103, 103, 0)],
  [(25, .iload_n 2, 0, 0), (26, .ireturn, 0, 0)]]
/-- SnapshotRingsModel.setPolicy(I)I -/
def sn_c132 : List (List (Nat × sn_E)) := [[(0, .iload_n 1, 0, 0), (1, .iconst (0), 0, 0), (2, .iconst (2), 2, 0), (3, .invokestatic 39, 97, 0), (6, .ifCond .ne (7), 13, 0)],
  [(9, .sipush (-20002), 20002, 1), (12, .ireturn, 0, 0), (13, .aload_n 0, 0, 0), (14, .invokevirtual 109, 100, 0)],
  [(17, .aload_n 0, 0, 0), (18, .getfield 7, 5, 0), (21, .iconst (1), 1, 0), (22, .iaload, 0, 0), (23, .istore_n 2, 0, 0)],
  [(24, .aload_n 0, 0, 0), (25, .getfield 7, 5, 0), (28, .iconst (1), 1, 0), (29, .iload_n 1, 0, 0), (30, .iastore, 0, 0), (31, .iload_n 2, 0, 0)],
  [(32, .ireturn, 0, 0)]]
/-- SnapshotRingsModel.setConstraint(III)I -/
def sn_c133 : List (List (Nat × sn_E)) := [[(0, .iload_n 1, 0, 0), (1, .invokestatic 146, 134, 0), (4, .ifCond .ne (7), 11, 0), (7, .sipush (-20001), 20001, 1)],
  [(10, .ireturn, 0, 0), (11, .iload_n 2, 0, 0), (12, .iconst (0), 0, 0), (13, .sipush (4095), 4095, 0)],
  [(16, .invokestatic 39, 97, 0), (19, .ifCond .eq (16), 35, 0), (22, .iload_n 3, 0, 0), (23, .sipush (-9999), 9999, 1)],
  [(26, .sipush (9999), 9999, 0), (29, .invokestatic 39, 97, 0)],
  [(32, .ifCond .ne (7), 39, 0), (35, .sipush (-20002), 20002, 1), (38, .ireturn, 0, 0), (39, .aload_n 0, 0, 0)],
  [(40, .invokevirtual 109, 100, 0), (43, .aload_n 0, 0, 0), (44, .getfield 7, 5, 0), (47, .bipush (6), 6, 0)],
  [(49, .iconst (2), 2, 0), (50, .iload_n 1, 0, 0), (51, .imul, 0, 0), (52, .iadd, 0, 0), (53, .iconst (1), 1, 0), (54, .iadd, 0, 0), (55, .iaload, 0, 0)],
  [(56, .istore 4, 4, 0), (58, .aload_n 0, 0, 0), (59, .getfield 7, 5, 0), (62, .bipush (6), 6, 0)],
  [(64, .iconst (2), 2, 0), (65, .iload_n 1, 0, 0), (66, .imul, 0, 0), (67, .iadd, 0, 0), (68, .iload_n 2, 0, 0), (69, .iastore, 0, 0), (70, .aload_n 0, 0, 0), (71, .getfield 7, 5, 0)],
  [(74, .bipush (6), 6, 0), (76, .iconst (2), 2, 0), (77, .iload_n 1, 0, 0), (78, .imul, 0, 0), (79, .iadd, 0, 0)],
  [(80, .iconst (1), 1, 0), (81, .iadd, 0, 0), (82, .iload_n 3, 0, 0), (83, .iastore, 0, 0), (84, .iload 4, 4, 0), (86, .ireturn, 0, 0)]]
/-- SnapshotRingsModel.isConstraint(I)Z -/
def sn_c134 : List (List (Nat × sn_E)) := [[(0, .iload_n 0, 0, 0), (1, .iconst (0), 0, 0), (2, .iconst (2), 2, 0), (3, .invokestatic 39, 97, 0), (6, .ireturn, 0, 0)]]
/-- SnapshotRingsModel.count(I)I -/
def sn_c135 : List (List (Nat × sn_E)) := [[(0, .iload_n 1, 0, 0), (1, .iconst (0), 0, 0), (2, .bipush (7), 7, 0), (4, .invokestatic 39, 97, 0), (7, .ifCond .eq (11), 18, 0)],
  [(10, .aload_n 0, 0, 0), (11, .iload_n 1, 0, 0), (12, .invokevirtual 152, 136, 0), (15, .goto (6), 21, 0)],
  [(18, .sipush (-20002), 20002, 1), (21, .ireturn, 0, 0)]]
/-- SnapshotRingsModel.countOf(I)I -/
def sn_c136 : List (List (Nat × sn_E)) := [[(0, .iload_n 1, 0, 0), (1, .tableswitch (55) (0) (3) #[31, 38, 43, 50], 0, 0)],
  [],
  [],
  [],
  [(32, .aload_n 0, 0, 0), (33, .getfield 7, 5, 0), (36, .iconst (0), 0, 0), (37, .iaload, 0, 0), (38, .ireturn, 0, 0), (39, .aload_n 0, 0, 0)],
  [(40, .invokevirtual 149, 137, 0), (43, .ireturn, 0, 0), (44, .aload_n 0, 0, 0), (45, .getfield 7, 5, 0)],
  [(48, .iconst (1), 1, 0), (49, .iaload, 0, 0), (50, .ireturn, 0, 0), (51, .aload_n 0, 0, 0), (52, .invokevirtual 51, 121, 0), (55, .ireturn, 0, 0)],
  [(56, .aload_n 0, 0, 0), (57, .getfield 7, 5, 0), (60, .iconst (2), 2, 0), (61, .iload_n 1, 0, 0), (62, .iadd, 0, 0), (63, .iconst (4), 4, 0)],
  [(64, .isub, 0, 0), (65, .iaload, 0, 0), (66, .ireturn, 0, 0)]]
/-- SnapshotRingsModel.openMany()I -/
def sn_c137 : List (List (Nat × sn_E)) := [[(0, .iconst (0), 0, 0), (1, .istore_n 1, 0, 0), (2, .iconst (0), 0, 0), (3, .istore_n 2, 0, 0), (4, .iload_n 2, 0, 0), (5, .bipush (8), 8, 0), (7, .if_icmp .ge (25), 32, 0)],
  [(10, .iload_n 1, 0, 0), (11, .aload_n 0, 0, 0), (12, .iload_n 2, 0, 0), (13, .invokevirtual 100, 98, 0)],
  [(16, .ifCond .eq (7), 23, 0), (19, .iconst (1), 1, 0), (20, .goto (4), 24, 0), (23, .iconst (0), 0, 0)],
  [(24, .iadd, 0, 0), (25, .istore_n 1, 0, 0), (26, .iinc 2 (1), 1, 0), (29, .goto (-25), 4, 0)],
  [(32, .iload_n 1, 0, 0), (33, .ireturn, 0, 0)]]
/-- SnapshotRingsModel.value(I)I -/
def sn_c138 : List (List (Nat × sn_E)) := [[(0, .iload_n 1, 0, 0), (1, .invokestatic 115, 107, 0), (4, .ifCond .eq (15), 19, 0), (7, .aload_n 0, 0, 0)],
  [(8, .getfield 7, 5, 0), (11, .bipush (12), 12, 0), (13, .iload_n 1, 0, 0), (14, .iadd, 0, 0), (15, .iaload, 0, 0)],
  [(16, .goto (6), 22, 0), (19, .sipush (-20001), 20001, 1), (22, .ireturn, 0, 0)]]
/-- SnapshotRingsModel.version(I)I -/
def sn_c139 : List (List (Nat × sn_E)) := [[(0, .iload_n 1, 0, 0), (1, .invokestatic 115, 107, 0), (4, .ifCond .eq (15), 19, 0), (7, .aload_n 0, 0, 0)],
  [(8, .getfield 7, 5, 0), (11, .bipush (24), 24, 0), (13, .iload_n 1, 0, 0), (14, .iadd, 0, 0), (15, .iaload, 0, 0)],
  [(16, .goto (6), 22, 0), (19, .sipush (-20001), 20001, 1), (22, .ireturn, 0, 0)]]
/-- SnapshotRingsModel.of(II)I -/
def sn_c140 : List (List (Nat × sn_E)) := [[(0, .aload_n 0, 0, 0), (1, .iload_n 1, 0, 0), (2, .invokevirtual 100, 98, 0), (5, .ifCond .ne (7), 12, 0)],
  [(8, .sipush (-20001), 20001, 1), (11, .ireturn, 0, 0), (12, .iload_n 2, 0, 0), (13, .iconst (0), 0, 0), (14, .iconst (3), 3, 0), (15, .invokestatic 39, 97, 0)],
  [(18, .ifCond .eq (12), 30, 0), (21, .aload_n 0, 0, 0), (22, .iload_n 1, 0, 0), (23, .iload_n 2, 0, 0)],
  [(24, .invokevirtual 155, 141, 0), (27, .goto (6), 33, 0), (30, .sipush (-20002), 20002, 1)],
  [(33, .ireturn, 0, 0)]]
/-- SnapshotRingsModel.ofSlot(II)I -/
def sn_c141 : List (List (Nat × sn_E)) := [[(0, .iload_n 2, 0, 0), (1, .iconst (3), 3, 0), (2, .if_icmp .ne (17), 19, 0), (5, .aload_n 0, 0, 0), (6, .iload_n 1, 0, 0), (7, .aload_n 0, 0, 0)],
  [(8, .getfield 7, 5, 0), (11, .iconst (1), 1, 0), (12, .iaload, 0, 0), (13, .invokevirtual 134, 116, 0)],
  [(16, .goto (9), 25, 0), (19, .aload_n 0, 0, 0), (20, .iload_n 1, 0, 0), (21, .iload_n 2, 0, 0), (22, .invokevirtual 47, 99, 0)],
  [(25, .ireturn, 0, 0)]]
/-- SnapshotRingsModel.ofCommit(II)I -/
def sn_c142 : List (List (Nat × sn_E)) := [[(0, .aload_n 0, 0, 0), (1, .iload_n 1, 0, 0), (2, .invokevirtual 158, 143, 0), (5, .ifCond .ne (7), 12, 0)],
  [(8, .sipush (-20001), 20001, 1), (11, .ireturn, 0, 0), (12, .iload_n 2, 0, 0), (13, .iconst (0), 0, 0), (14, .iconst (2), 2, 0), (15, .invokestatic 39, 97, 0)],
  [(18, .ifCond .eq (17), 35, 0), (21, .aload_n 0, 0, 0), (22, .getfield 7, 5, 0)],
  [(25, .iload_n 1, 0, 0), (26, .invokestatic 65, 126, 0), (29, .iload_n 2, 0, 0), (30, .iadd, 0, 0), (31, .iaload, 0, 0)],
  [(32, .goto (6), 38, 0), (35, .sipush (-20002), 20002, 1), (38, .ireturn, 0, 0)]]
/-- SnapshotRingsModel.isKept(I)Z -/
def sn_c143 : List (List (Nat × sn_E)) := [[(0, .iload_n 1, 0, 0), (1, .aload_n 0, 0, 0), (2, .invokevirtual 55, 125, 0), (5, .aload_n 0, 0, 0), (6, .getfield 7, 5, 0)],
  [(9, .iconst (0), 0, 0), (10, .iaload, 0, 0), (11, .invokestatic 39, 97, 0), (14, .ireturn, 0, 0)]]
/-- SnapshotRingsModel.dependency(II)I -/
def sn_c144 : List (List (Nat × sn_E)) := [[(0, .aload_n 0, 0, 0), (1, .iload_n 1, 0, 0), (2, .invokevirtual 158, 143, 0), (5, .ifCond .eq (11), 16, 0)],
  [(8, .aload_n 0, 0, 0), (9, .iload_n 2, 0, 0), (10, .invokevirtual 158, 143, 0), (13, .ifCond .ne (7), 20, 0)],
  [(16, .sipush (-20001), 20001, 1), (19, .ireturn, 0, 0), (20, .iload_n 1, 0, 0), (21, .iload_n 2, 0, 0), (22, .if_icmp .ne (9), 31, 0)],
  [(25, .sipush (-20002), 20002, 1), (28, .goto (19), 47, 0), (31, .aload_n 0, 0, 0)],
  [(32, .iload_n 1, 0, 0), (33, .aload_n 0, 0, 0), (34, .invokevirtual 55, 125, 0), (37, .isub, 0, 0), (38, .iload_n 2, 0, 0), (39, .aload_n 0, 0, 0)],
  [(40, .invokevirtual 55, 125, 0), (43, .isub, 0, 0), (44, .invokevirtual 74, 122, 0), (47, .ireturn, 0, 0)]]
/-- SnapshotRingsModel.ringOf(II)I -/
def sn_c145 : List (List (Nat × sn_E)) := [[(0, .aload_n 0, 0, 0), (1, .iload_n 1, 0, 0), (2, .invokevirtual 100, 98, 0), (5, .ifCond .ne (7), 12, 0)],
  [(8, .sipush (-20001), 20001, 1), (11, .ireturn, 0, 0), (12, .iload_n 2, 0, 0), (13, .iconst (1), 1, 0), (14, .if_icmp .ge (7), 21, 0)],
  [(17, .sipush (-20002), 20002, 1), (20, .ireturn, 0, 0), (21, .aload_n 0, 0, 0), (22, .iload_n 1, 0, 0), (23, .invokevirtual 90, 118, 0)],
  [(26, .ifCond .ne (7), 33, 0), (29, .sipush (-20006), 20006, 1)],
  [(32, .ireturn, 0, 0), (33, .bipush (16), 16, 0), (35, .istore_n 3, 0, 0), (36, .iconst (0), 0, 0), (37, .istore 4, 4, 0), (39, .iload 4, 4, 0)],
  [(41, .iload_n 2, 0, 0), (42, .if_icmp .ge (25), 67, 0), (45, .aload_n 0, 0, 0), (46, .iload_n 3, 0, 0), (47, .invokevirtual 84, 128, 0)],
  [(50, .istore_n 3, 0, 0), (51, .iload_n 3, 0, 0), (52, .bipush (16), 16, 0), (54, .if_icmp .ne (7), 61, 0)],
  [(57, .sipush (-20006), 20006, 1), (60, .ireturn, 0, 0), (61, .iinc 4 (1), 1, 0)],
  [(64, .goto (-25), 39, 0), (67, .aload_n 0, 0, 0), (68, .iload_n 3, 0, 0), (69, .invokevirtual 61, 124, 0)],
  [(72, .ireturn, 0, 0)]]
/-- SnapshotRingsModel.inRings()I -/
def sn_c146 : List (List (Nat × sn_E)) := [[(0, .aload_n 0, 0, 0), (1, .invokevirtual 164, 147, 0), (4, .ireturn, 0, 0)]]
/-- SnapshotRingsModel.ringsMany()I -/
def sn_c147 : List (List (Nat × sn_E)) := [[(0, .aload_n 0, 0, 0), (1, .bipush (7), 7, 0), (3, .invokevirtual 161, 148, 0), (6, .iconst (0), 0, 0), (7, .istore_n 1, 0, 0)],
  [(8, .iconst (0), 0, 0), (9, .istore_n 2, 0, 0), (10, .iload_n 2, 0, 0), (11, .aload_n 0, 0, 0), (12, .invokevirtual 51, 121, 0), (15, .if_icmp .ge (33), 48, 0)],
  [(18, .aload_n 0, 0, 0), (19, .iload_n 2, 0, 0), (20, .invokevirtual 81, 127, 0), (23, .iload_n 1, 0, 0)],
  [(24, .aload_n 0, 0, 0), (25, .iload_n 2, 0, 0), (26, .invokevirtual 84, 128, 0), (29, .sipush (-20006), 20006, 1)],
  [(32, .if_icmp .ne (7), 39, 0), (35, .iconst (0), 0, 0), (36, .goto (4), 40, 0), (39, .iconst (1), 1, 0)],
  [(40, .iadd, 0, 0), (41, .istore_n 1, 0, 0), (42, .iinc 2 (1), 1, 0), (45, .goto (-35), 10, 0)],
  [(48, .iload_n 1, 0, 0), (49, .ireturn, 0, 0)]]
/-- SnapshotRingsModel.findCommits(I)V -/
def sn_c148 : List (List (Nat × sn_E)) := [[(0, .aload_n 0, 0, 0), (1, .sipush (-20006), 20006, 1), (4, .putfield 58, 5, 6), (7, .aload_n 0, 0, 0)],
  [(8, .iload_n 1, 0, 0), (9, .invokevirtual 77, 119, 0), (12, .return_, 0, 0)]]
/-- SnapshotRingsModel.orderAt(I)I -/
def sn_c149 : List (List (Nat × sn_E)) := [[(0, .iload_n 1, 0, 0), (1, .ifCond .ge (7), 8, 0), (4, .sipush (-20002), 20002, 1), (7, .ireturn, 0, 0)],
  [(8, .aload_n 0, 0, 0), (9, .invokevirtual 170, 150, 0), (12, .aload_n 0, 0, 0), (13, .iload_n 1, 0, 0), (14, .invokevirtual 173, 151, 0)],
  [(17, .ireturn, 0, 0)]]
/-- SnapshotRingsModel.findOrder()V -/
def sn_c150 : List (List (Nat × sn_E)) := [[(0, .aload_n 0, 0, 0), (1, .bipush (7), 7, 0), (3, .invokevirtual 161, 148, 0), (6, .aload_n 0, 0, 0), (7, .iconst (0), 0, 0)],
  [(8, .putfield 167, 5, 10), (11, .iconst (1), 1, 0), (12, .aload_n 0, 0, 0), (13, .invokevirtual 51, 121, 0)],
  [(16, .ishl, 0, 0), (17, .iconst (1), 1, 0), (18, .isub, 0, 0), (19, .istore_n 1, 0, 0), (20, .iconst (1), 1, 0), (21, .istore_n 2, 0, 0), (22, .iload_n 2, 0, 0), (23, .ifCond .eq (161), 184, 0)],
  [(26, .sipush (-20006), 20006, 1), (29, .istore_n 3, 0, 0), (30, .aload_n 0, 0, 0), (31, .invokevirtual 51, 121, 0)],
  [(34, .iconst (1), 1, 0), (35, .isub, 0, 0), (36, .istore 4, 4, 0), (38, .iload 4, 4, 0)],
  [(40, .ifCond .lt (92), 132, 0), (43, .iload_n 1, 0, 0), (44, .iload 4, 4, 0), (46, .ishr, 0, 0), (47, .iconst (1), 1, 0)],
  [(48, .iand, 0, 0), (49, .iconst (1), 1, 0), (50, .if_icmp .ne (7), 57, 0), (53, .iconst (1), 1, 0), (54, .goto (4), 58, 0)],
  [(57, .iconst (0), 0, 0), (58, .istore 5, 5, 0), (60, .iconst (0), 0, 0), (61, .istore 6, 6, 0), (63, .iload 6, 6, 0)],
  [(65, .aload_n 0, 0, 0), (66, .invokevirtual 51, 121, 0), (69, .if_icmp .ge (45), 114, 0)],
  [(72, .iload 5, 5, 0), (74, .ifCond .eq (31), 105, 0), (77, .iload_n 1, 0, 0), (78, .iload 6, 6, 0)],
  [(80, .ishr, 0, 0), (81, .iconst (1), 1, 0), (82, .iand, 0, 0), (83, .ifCond .eq (18), 101, 0), (86, .aload_n 0, 0, 0), (87, .getfield 22, 5, 7)],
  [(90, .iload 6, 6, 0), (92, .iaload, 0, 0), (93, .iload 4, 4, 0), (95, .ishr, 0, 0)],
  [(96, .iconst (1), 1, 0), (97, .iand, 0, 0), (98, .ifCond .ne (7), 105, 0), (101, .iconst (1), 1, 0), (102, .goto (4), 106, 0)],
  [(105, .iconst (0), 0, 0), (106, .istore 5, 5, 0), (108, .iinc 6 (1), 1, 0), (111, .goto (-48), 63, 0)],
  [(114, .iload 5, 5, 0), (116, .ifCond .eq (8), 124, 0), (119, .iload 4, 4, 0)],
  [(121, .goto (4), 125, 0), (124, .iload_n 3, 0, 0), (125, .istore_n 3, 0, 0), (126, .iinc 4 (-1), 1, 1)],
  [(129, .goto (-91), 38, 0), (132, .iload_n 3, 0, 0), (133, .sipush (-20006), 20006, 1)],
  [(136, .if_icmp .eq (7), 143, 0), (139, .iconst (1), 1, 0), (140, .goto (4), 144, 0), (143, .iconst (0), 0, 0)],
  [(144, .istore_n 2, 0, 0), (145, .iload_n 2, 0, 0), (146, .ifCond .eq (35), 181, 0), (149, .aload_n 0, 0, 0), (150, .getfield 28, 5, 9)],
  [(153, .aload_n 0, 0, 0), (154, .getfield 167, 5, 10), (157, .aload_n 0, 0, 0), (158, .iload_n 3, 0, 0), (159, .invokevirtual 61, 124, 0)],
  [(162, .iastore, 0, 0), (163, .aload_n 0, 0, 0), (164, .dup, 0, 0), (165, .getfield 167, 5, 10)],
  [(168, .iconst (1), 1, 0), (169, .iadd, 0, 0), (170, .putfield 167, 5, 10), (173, .iload_n 1, 0, 0), (174, .iconst (1), 1, 0), (175, .iload_n 3, 0, 0)],
  [(176, .ishl, 0, 0), (177, .iconst (-1), 1, 1), (178, .ixor, 0, 0), (179, .iand, 0, 0), (180, .istore_n 1, 0, 0), (181, .goto (-159), 22, 0)],
  [(184, .return_, 0, 0)]]
/-- SnapshotRingsModel.orderOf(I)I -/
def sn_c151 : List (List (Nat × sn_E)) := [[(0, .aload_n 0, 0, 0), (1, .getfield 167, 5, 10), (4, .aload_n 0, 0, 0), (5, .invokevirtual 51, 121, 0)],
  [(8, .if_icmp .ne (20), 28, 0), (11, .iload_n 1, 0, 0), (12, .aload_n 0, 0, 0), (13, .getfield 167, 5, 10)],
  [(16, .if_icmp .ge (12), 28, 0), (19, .aload_n 0, 0, 0), (20, .getfield 28, 5, 9), (23, .iload_n 1, 0, 0)],
  [(24, .iaload, 0, 0), (25, .goto (6), 31, 0), (28, .sipush (-20006), 20006, 1), (31, .ireturn, 0, 0)]]
/-- SnapshotRingsModel.skews()I -/
def sn_c152 : List (List (Nat × sn_E)) := [[(0, .aload_n 0, 0, 0), (1, .iconst (4), 4, 0), (2, .invokevirtual 161, 148, 0), (5, .iconst (0), 0, 0), (6, .istore_n 1, 0, 0), (7, .iconst (0), 0, 0)],
  [(8, .istore_n 2, 0, 0), (9, .iload_n 2, 0, 0), (10, .aload_n 0, 0, 0), (11, .invokevirtual 51, 121, 0), (14, .if_icmp .ge (63), 77, 0)],
  [(17, .iload_n 2, 0, 0), (18, .iconst (1), 1, 0), (19, .iadd, 0, 0), (20, .istore_n 3, 0, 0), (21, .iload_n 3, 0, 0), (22, .aload_n 0, 0, 0), (23, .invokevirtual 51, 121, 0)],
  [(26, .if_icmp .ge (45), 71, 0), (29, .iload_n 1, 0, 0), (30, .aload_n 0, 0, 0), (31, .getfield 22, 5, 7)],
  [(34, .iload_n 2, 0, 0), (35, .iaload, 0, 0), (36, .iload_n 3, 0, 0), (37, .ishr, 0, 0), (38, .iconst (1), 1, 0), (39, .iand, 0, 0)],
  [(40, .iconst (1), 1, 0), (41, .if_icmp .ne (21), 62, 0), (44, .aload_n 0, 0, 0), (45, .getfield 22, 5, 7)],
  [(48, .iload_n 3, 0, 0), (49, .iaload, 0, 0), (50, .iload_n 2, 0, 0), (51, .ishr, 0, 0), (52, .iconst (1), 1, 0), (53, .iand, 0, 0), (54, .iconst (1), 1, 0), (55, .if_icmp .ne (7), 62, 0)],
  [(58, .iconst (1), 1, 0), (59, .goto (4), 63, 0), (62, .iconst (0), 0, 0), (63, .iadd, 0, 0)],
  [(64, .istore_n 1, 0, 0), (65, .iinc 3 (1), 1, 0), (68, .goto (-47), 21, 0), (71, .iinc 2 (1), 1, 0)],
  [(74, .goto (-65), 9, 0), (77, .iload_n 1, 0, 0), (78, .ireturn, 0, 0)]]
/-- SnapshotRingsModel.holds(I)I -/
def sn_c153 : List (List (Nat × sn_E)) := [[(0, .iload_n 1, 0, 0), (1, .invokestatic 146, 134, 0), (4, .ifCond .eq (11), 15, 0), (7, .aload_n 0, 0, 0)],
  [(8, .iload_n 1, 0, 0), (9, .invokevirtual 176, 154, 0), (12, .goto (6), 18, 0), (15, .sipush (-20001), 20001, 1)],
  [(18, .ireturn, 0, 0)]]
/-- SnapshotRingsModel.isHeld(I)I -/
def sn_c154 : List (List (Nat × sn_E)) := [[(0, .iconst (0), 0, 0), (1, .istore_n 2, 0, 0), (2, .iconst (0), 0, 0), (3, .istore_n 3, 0, 0), (4, .iload_n 3, 0, 0), (5, .bipush (12), 12, 0), (7, .if_icmp .ge (44), 51, 0)],
  [(10, .iload_n 2, 0, 0), (11, .aload_n 0, 0, 0), (12, .getfield 7, 5, 0), (15, .bipush (6), 6, 0)],
  [(17, .iconst (2), 2, 0), (18, .iload_n 1, 0, 0), (19, .imul, 0, 0), (20, .iadd, 0, 0), (21, .iaload, 0, 0), (22, .iload_n 3, 0, 0), (23, .ishr, 0, 0)],
  [(24, .iconst (1), 1, 0), (25, .iand, 0, 0), (26, .iconst (1), 1, 0), (27, .if_icmp .ne (15), 42, 0), (30, .aload_n 0, 0, 0), (31, .getfield 7, 5, 0)],
  [(34, .bipush (12), 12, 0), (36, .iload_n 3, 0, 0), (37, .iadd, 0, 0), (38, .iaload, 0, 0), (39, .goto (4), 43, 0)],
  [(42, .iconst (0), 0, 0), (43, .iadd, 0, 0), (44, .istore_n 2, 0, 0), (45, .iinc 3 (1), 1, 0)],
  [(48, .goto (-44), 4, 0), (51, .iload_n 2, 0, 0), (52, .aload_n 0, 0, 0), (53, .getfield 7, 5, 0)],
  [(56, .bipush (6), 6, 0), (58, .iconst (2), 2, 0), (59, .iload_n 1, 0, 0), (60, .imul, 0, 0), (61, .iadd, 0, 0), (62, .iconst (1), 1, 0), (63, .iadd, 0, 0)],
  [(64, .iaload, 0, 0), (65, .if_icmp .lt (7), 72, 0), (68, .iconst (1), 1, 0), (69, .goto (4), 73, 0)],
  [(72, .iconst (0), 0, 0), (73, .ireturn, 0, 0)]]
/-- SnapshotRingsModel.holdsFor(II)I -/
def sn_c155 : List (List (Nat × sn_E)) := [[(0, .aload_n 0, 0, 0), (1, .iload_n 1, 0, 0), (2, .invokevirtual 100, 98, 0), (5, .ifCond .eq (19), 24, 0)],
  [(8, .iload_n 2, 0, 0), (9, .invokestatic 146, 134, 0), (12, .ifCond .eq (12), 24, 0), (15, .aload_n 0, 0, 0)],
  [(16, .iload_n 1, 0, 0), (17, .iload_n 2, 0, 0), (18, .invokevirtual 179, 156, 0), (21, .goto (6), 27, 0)],
  [(24, .sipush (-20001), 20001, 1), (27, .ireturn, 0, 0)]]
/-- SnapshotRingsModel.isHeldFor(II)I -/
def sn_c156 : List (List (Nat × sn_E)) := [[(0, .iconst (0), 0, 0), (1, .istore_n 3, 0, 0), (2, .iconst (0), 0, 0), (3, .istore 4, 4, 0), (5, .iload 4, 4, 0), (7, .bipush (12), 12, 0)],
  [(9, .if_icmp .ge (78), 87, 0), (12, .aload_n 0, 0, 0), (13, .iload_n 1, 0, 0), (14, .iconst (2), 2, 0), (15, .invokevirtual 47, 99, 0)],
  [(18, .iload 4, 4, 0), (20, .ishr, 0, 0), (21, .iconst (1), 1, 0), (22, .iand, 0, 0), (23, .iconst (1), 1, 0)],
  [(24, .if_icmp .ne (16), 40, 0), (27, .aload_n 0, 0, 0), (28, .iload_n 1, 0, 0), (29, .bipush (27), 27, 0), (31, .iload 4, 4, 0)],
  [(33, .iadd, 0, 0), (34, .invokevirtual 47, 99, 0), (37, .goto (13), 50, 0)],
  [(40, .aload_n 0, 0, 0), (41, .iload_n 1, 0, 0), (42, .bipush (15), 15, 0), (44, .iload 4, 4, 0), (46, .iadd, 0, 0), (47, .invokevirtual 47, 99, 0)],
  [(50, .istore 5, 5, 0), (52, .iload_n 3, 0, 0), (53, .aload_n 0, 0, 0), (54, .getfield 7, 5, 0)],
  [(57, .bipush (6), 6, 0), (59, .iconst (2), 2, 0), (60, .iload_n 2, 0, 0), (61, .imul, 0, 0), (62, .iadd, 0, 0), (63, .iaload, 0, 0)],
  [(64, .iload 4, 4, 0), (66, .ishr, 0, 0), (67, .iconst (1), 1, 0), (68, .iand, 0, 0), (69, .iconst (1), 1, 0), (70, .if_icmp .ne (8), 78, 0)],
  [(73, .iload 5, 5, 0), (75, .goto (4), 79, 0), (78, .iconst (0), 0, 0), (79, .iadd, 0, 0)],
  [(80, .istore_n 3, 0, 0), (81, .iinc 4 (1), 1, 0), (84, .goto (-79), 5, 0), (87, .iload_n 3, 0, 0)],
  [(88, .aload_n 0, 0, 0), (89, .getfield 7, 5, 0), (92, .bipush (6), 6, 0), (94, .iconst (2), 2, 0), (95, .iload_n 2, 0, 0)],
  [(96, .imul, 0, 0), (97, .iadd, 0, 0), (98, .iconst (1), 1, 0), (99, .iadd, 0, 0), (100, .iaload, 0, 0), (101, .if_icmp .lt (7), 108, 0)],
  [(104, .iconst (1), 1, 0), (105, .goto (4), 109, 0), (108, .iconst (0), 0, 0), (109, .ireturn, 0, 0)]]
/-- SnapshotRingsModel.ifAllCommitted()I -/
def sn_c157 : List (List (Nat × sn_E)) := [[(0, .aload_n 0, 0, 0), (1, .getfield 7, 5, 0), (4, .iconst (0), 0, 0), (5, .aload_n 0, 0, 0), (6, .getfield 13, 5, 1)],
  [(9, .iconst (0), 0, 0), (10, .invokestatic 35, 101, 0), (13, .iconst (0), 0, 0), (14, .istore_n 1, 0, 0), (15, .iload_n 1, 0, 0)],
  [(16, .bipush (8), 8, 0), (18, .if_icmp .ge (23), 41, 0), (21, .aload_n 0, 0, 0), (22, .iload_n 1, 0, 0), (23, .invokevirtual 100, 98, 0)],
  [(26, .ifCond .eq (9), 35, 0), (29, .aload_n 0, 0, 0), (30, .iload_n 1, 0, 0), (31, .invokevirtual 140, 115, 0)],
  [(34, .pop, 0, 0), (35, .iinc 1 (1), 1, 0), (38, .goto (-23), 15, 0)],
  [(41, .iconst (0), 0, 0), (42, .istore_n 1, 0, 0), (43, .iconst (0), 0, 0), (44, .istore_n 2, 0, 0), (45, .iload_n 2, 0, 0), (46, .iconst (3), 3, 0), (47, .if_icmp .ge (17), 64, 0)],
  [(50, .iload_n 1, 0, 0), (51, .aload_n 0, 0, 0), (52, .iload_n 2, 0, 0), (53, .invokevirtual 176, 154, 0)],
  [(56, .iadd, 0, 0), (57, .istore_n 1, 0, 0), (58, .iinc 2 (1), 1, 0), (61, .goto (-16), 45, 0)],
  [(64, .aload_n 0, 0, 0), (65, .getfield 13, 5, 1), (68, .iconst (0), 0, 0), (69, .aload_n 0, 0, 0), (70, .getfield 7, 5, 0)],
  [(73, .iconst (0), 0, 0), (74, .invokestatic 35, 101, 0), (77, .iload_n 1, 0, 0), (78, .ireturn, 0, 0)]]
/-- SnapshotRingsModel.refusedBy(I)I -/
def sn_c158 : List (List (Nat × sn_E)) := [[(0, .aload_n 0, 0, 0), (1, .iload_n 1, 0, 0), (2, .invokevirtual 100, 98, 0), (5, .ifCond .ne (7), 12, 0)],
  [(8, .sipush (-20001), 20001, 1), (11, .ireturn, 0, 0), (12, .iconst (0), 0, 0), (13, .istore_n 2, 0, 0), (14, .iload_n 2, 0, 0), (15, .iconst (2), 2, 0)],
  [(16, .if_icmp .gt (20), 36, 0), (19, .aload_n 0, 0, 0), (20, .iload_n 1, 0, 0), (21, .iload_n 2, 0, 0), (22, .invokevirtual 134, 116, 0)],
  [(25, .ifCond .le (5), 30, 0), (28, .iload_n 2, 0, 0), (29, .ireturn, 0, 0), (30, .iinc 2 (1), 1, 0)],
  [(33, .goto (-19), 14, 0), (36, .sipush (-20006), 20006, 1), (39, .ireturn, 0, 0)]]
/-- SnapshotRingsModel.type(I)I -/
def sn_c159 : List (List (Nat × sn_E)) := [[(0, .iload_n 1, 0, 0), (1, .bipush (33), 33, 0), (3, .bipush (126), 126, 0), (5, .invokestatic 39, 97, 0)],
  [(8, .ifCond .ne (7), 15, 0), (11, .sipush (-20002), 20002, 1), (14, .ireturn, 0, 0), (15, .aload_n 0, 0, 0)],
  [(16, .getfield 182, 5, 5), (19, .bipush (80), 80, 0), (21, .if_icmp .ne (7), 28, 0)],
  [(24, .sipush (-20004), 20004, 1), (27, .ireturn, 0, 0), (28, .aload_n 0, 0, 0), (29, .getfield 19, 5, 4)],
  [(32, .aload_n 0, 0, 0), (33, .getfield 182, 5, 5), (36, .iload_n 1, 0, 0), (37, .iastore, 0, 0), (38, .aload_n 0, 0, 0), (39, .dup, 0, 0)],
  [(40, .getfield 182, 5, 5), (43, .iconst (1), 1, 0), (44, .iadd, 0, 0), (45, .putfield 182, 5, 5)],
  [(48, .aload_n 0, 0, 0), (49, .getfield 182, 5, 5), (52, .ireturn, 0, 0)]]
/-- SnapshotRingsModel.clearText()I -/
def sn_c160 : List (List (Nat × sn_E)) := [[(0, .aload_n 0, 0, 0), (1, .getfield 182, 5, 5), (4, .istore_n 1, 0, 0), (5, .aload_n 0, 0, 0), (6, .iconst (0), 0, 0), (7, .putfield 182, 5, 5)],
  [(10, .iload_n 1, 0, 0), (11, .ireturn, 0, 0)]]
/-- SnapshotRingsModel.syntaxError()I -/
def sn_c161 : List (List (Nat × sn_E)) := [[(0, .aload_n 0, 0, 0), (1, .invokevirtual 219, 162, 0), (4, .ireturn, 0, 0)]]
/-- SnapshotRingsModel.findError()I -/
def sn_c162 : List (List (Nat × sn_E)) := [[(0, .aload_n 0, 0, 0), (1, .iconst (0), 0, 0), (2, .putfield 185, 5, 11), (5, .aload_n 0, 0, 0), (6, .invokevirtual 216, 163, 0)],
  [(9, .ifCond .ne (8), 17, 0), (12, .aload_n 0, 0, 0), (13, .getfield 185, 5, 11)],
  [(16, .ireturn, 0, 0), (17, .aload_n 0, 0, 0), (18, .getfield 185, 5, 11), (21, .aload_n 0, 0, 0), (22, .getfield 182, 5, 5)],
  [(25, .if_icmp .ne (7), 32, 0), (28, .sipush (-20006), 20006, 1), (31, .ireturn, 0, 0)],
  [(32, .aload_n 0, 0, 0), (33, .bipush (59), 59, 0), (35, .invokevirtual 197, 167, 0), (38, .ifCond .ne (-33), 5, 0)],
  [(41, .aload_n 0, 0, 0), (42, .getfield 185, 5, 11), (45, .ireturn, 0, 0)]]
/-- SnapshotRingsModel.readsStep()Z -/
def sn_c163 : List (List (Nat × sn_E)) := [[(0, .aload_n 0, 0, 0), (1, .aload_n 0, 0, 0), (2, .aload_n 0, 0, 0), (3, .getfield 185, 5, 11), (6, .invokevirtual 188, 164, 0)],
  [(9, .putfield 203, 5, 12), (12, .aload_n 0, 0, 0), (13, .getfield 203, 5, 12)],
  [(16, .bipush (98), 98, 0), (18, .if_icmp .eq (41), 59, 0), (21, .aload_n 0, 0, 0), (22, .getfield 203, 5, 12)],
  [(25, .bipush (114), 114, 0), (27, .if_icmp .eq (32), 59, 0), (30, .aload_n 0, 0, 0), (31, .getfield 203, 5, 12)],
  [(34, .bipush (119), 119, 0), (36, .if_icmp .eq (23), 59, 0), (39, .aload_n 0, 0, 0)],
  [(40, .getfield 203, 5, 12), (43, .bipush (99), 99, 0), (45, .if_icmp .eq (14), 59, 0)],
  [(48, .aload_n 0, 0, 0), (49, .getfield 203, 5, 12), (52, .bipush (97), 97, 0), (54, .if_icmp .eq (5), 59, 0)],
  [(57, .iconst (0), 0, 0), (58, .ireturn, 0, 0), (59, .aload_n 0, 0, 0), (60, .dup, 0, 0), (61, .getfield 185, 5, 11)],
  [(64, .iconst (1), 1, 0), (65, .iadd, 0, 0), (66, .putfield 185, 5, 11), (69, .aload_n 0, 0, 0), (70, .invokevirtual 206, 165, 0)],
  [(73, .istore_n 1, 0, 0), (74, .aload_n 0, 0, 0), (75, .getfield 203, 5, 12), (78, .bipush (114), 114, 0)],
  [(80, .if_icmp .eq (12), 92, 0), (83, .aload_n 0, 0, 0), (84, .getfield 203, 5, 12), (87, .bipush (119), 119, 0)],
  [(89, .if_icmp .ne (20), 109, 0), (92, .iload_n 1, 0, 0), (93, .ifCond .eq (14), 107, 0)],
  [(96, .aload_n 0, 0, 0), (97, .invokevirtual 210, 166, 0), (100, .ifCond .eq (7), 107, 0), (103, .iconst (1), 1, 0)],
  [(104, .goto (4), 108, 0), (107, .iconst (0), 0, 0), (108, .istore_n 1, 0, 0), (109, .aload_n 0, 0, 0), (110, .getfield 203, 5, 12)],
  [(113, .bipush (119), 119, 0), (115, .if_icmp .ne (31), 146, 0), (118, .iload_n 1, 0, 0), (119, .ifCond .eq (23), 142, 0)],
  [(122, .aload_n 0, 0, 0), (123, .bipush (61), 61, 0), (125, .invokevirtual 197, 167, 0)],
  [(128, .ifCond .eq (14), 142, 0), (131, .aload_n 0, 0, 0), (132, .invokevirtual 213, 168, 0), (135, .ifCond .eq (7), 142, 0)],
  [(138, .iconst (1), 1, 0), (139, .goto (8), 147, 0), (142, .iconst (0), 0, 0), (143, .goto (4), 147, 0)],
  [(146, .iload_n 1, 0, 0), (147, .ireturn, 0, 0)]]
/-- SnapshotRingsModel.character(I)I -/
def sn_c164 : List (List (Nat × sn_E)) := [[(0, .iload_n 1, 0, 0), (1, .aload_n 0, 0, 0), (2, .getfield 182, 5, 5), (5, .if_icmp .ge (12), 17, 0)],
  [(8, .aload_n 0, 0, 0), (9, .getfield 19, 5, 4), (12, .iload_n 1, 0, 0), (13, .iaload, 0, 0), (14, .goto (4), 18, 0)],
  [(17, .iconst (-1), 1, 1), (18, .ireturn, 0, 0)]]
/-- SnapshotRingsModel.readsSlot()Z -/
def sn_c165 : List (List (Nat × sn_E)) := [[(0, .aload_n 0, 0, 0), (1, .aload_n 0, 0, 0), (2, .getfield 185, 5, 11), (5, .invokevirtual 188, 164, 0)],
  [(8, .bipush (48), 48, 0), (10, .bipush (55), 55, 0), (12, .invokestatic 39, 97, 0), (15, .istore_n 1, 0, 0)],
  [(16, .aload_n 0, 0, 0), (17, .aload_n 0, 0, 0), (18, .aload_n 0, 0, 0), (19, .getfield 185, 5, 11), (22, .invokevirtual 188, 164, 0)],
  [(25, .bipush (48), 48, 0), (27, .isub, 0, 0), (28, .putfield 191, 5, 13), (31, .aload_n 0, 0, 0)],
  [(32, .dup, 0, 0), (33, .getfield 185, 5, 11), (36, .iload_n 1, 0, 0), (37, .ifCond .eq (7), 44, 0)],
  [(40, .iconst (1), 1, 0), (41, .goto (4), 45, 0), (44, .iconst (0), 0, 0), (45, .iadd, 0, 0), (46, .putfield 185, 5, 11)],
  [(49, .iload_n 1, 0, 0), (50, .ireturn, 0, 0)]]
/-- SnapshotRingsModel.readsKey()Z -/
def sn_c166 : List (List (Nat × sn_E)) := [[(0, .aload_n 0, 0, 0), (1, .aload_n 0, 0, 0), (2, .getfield 185, 5, 11), (5, .invokevirtual 188, 164, 0)],
  [(8, .bipush (97), 97, 0), (10, .bipush (108), 108, 0), (12, .invokestatic 39, 97, 0), (15, .istore_n 1, 0, 0)],
  [(16, .aload_n 0, 0, 0), (17, .aload_n 0, 0, 0), (18, .aload_n 0, 0, 0), (19, .getfield 185, 5, 11), (22, .invokevirtual 188, 164, 0)],
  [(25, .bipush (97), 97, 0), (27, .isub, 0, 0), (28, .putfield 194, 5, 14), (31, .aload_n 0, 0, 0)],
  [(32, .dup, 0, 0), (33, .getfield 185, 5, 11), (36, .iload_n 1, 0, 0), (37, .ifCond .eq (7), 44, 0)],
  [(40, .iconst (1), 1, 0), (41, .goto (4), 45, 0), (44, .iconst (0), 0, 0), (45, .iadd, 0, 0), (46, .putfield 185, 5, 11)],
  [(49, .iload_n 1, 0, 0), (50, .ireturn, 0, 0)]]
/-- SnapshotRingsModel.isNext(I)Z -/
def sn_c167 : List (List (Nat × sn_E)) := [[(0, .aload_n 0, 0, 0), (1, .aload_n 0, 0, 0), (2, .getfield 185, 5, 11), (5, .invokevirtual 188, 164, 0)],
  [(8, .iload_n 1, 0, 0), (9, .if_icmp .ne (7), 16, 0), (12, .iconst (1), 1, 0), (13, .goto (4), 17, 0)],
  [(16, .iconst (0), 0, 0), (17, .istore_n 2, 0, 0), (18, .aload_n 0, 0, 0), (19, .dup, 0, 0), (20, .getfield 185, 5, 11), (23, .iload_n 2, 0, 0)],
  [(24, .ifCond .eq (7), 31, 0), (27, .iconst (1), 1, 0), (28, .goto (4), 32, 0), (31, .iconst (0), 0, 0)],
  [(32, .iadd, 0, 0), (33, .putfield 185, 5, 11), (36, .iload_n 2, 0, 0), (37, .ireturn, 0, 0)]]
/-- SnapshotRingsModel.readsValue()Z -/
def sn_c168 : List (List (Nat × sn_E)) := [[(0, .aload_n 0, 0, 0), (1, .bipush (45), 45, 0), (3, .invokevirtual 197, 167, 0), (6, .ifCond .eq (7), 13, 0)],
  [(9, .iconst (-1), 1, 1), (10, .goto (4), 14, 0), (13, .iconst (1), 1, 0), (14, .istore_n 1, 0, 0), (15, .aload_n 0, 0, 0)],
  [(16, .iconst (0), 0, 0), (17, .putfield 200, 5, 15), (20, .iconst (0), 0, 0), (21, .istore_n 2, 0, 0), (22, .iload_n 2, 0, 0), (23, .iconst (3), 3, 0)],
  [(24, .if_icmp .ge (62), 86, 0), (27, .aload_n 0, 0, 0), (28, .aload_n 0, 0, 0), (29, .getfield 185, 5, 11)],
  [(32, .invokevirtual 188, 164, 0), (35, .bipush (48), 48, 0), (37, .bipush (57), 57, 0), (39, .invokestatic 39, 97, 0)],
  [(42, .ifCond .eq (44), 86, 0), (45, .aload_n 0, 0, 0), (46, .bipush (10), 10, 0)],
  [(48, .aload_n 0, 0, 0), (49, .getfield 200, 5, 15), (52, .imul, 0, 0), (53, .iload_n 1, 0, 0), (54, .aload_n 0, 0, 0), (55, .aload_n 0, 0, 0)],
  [(56, .getfield 185, 5, 11), (59, .invokevirtual 188, 164, 0), (62, .bipush (48), 48, 0)],
  [(64, .isub, 0, 0), (65, .imul, 0, 0), (66, .iadd, 0, 0), (67, .putfield 200, 5, 15), (70, .iinc 2 (1), 1, 0)],
  [(73, .aload_n 0, 0, 0), (74, .dup, 0, 0), (75, .getfield 185, 5, 11), (78, .iconst (1), 1, 0), (79, .iadd, 0, 0)],
  [(80, .putfield 185, 5, 11), (83, .goto (-61), 22, 0), (86, .iload_n 2, 0, 0), (87, .ifCond .le (7), 94, 0)],
  [(90, .iconst (1), 1, 0), (91, .goto (4), 95, 0), (94, .iconst (0), 0, 0), (95, .ireturn, 0, 0)]]
/-- SnapshotRingsModel.carryOut()I -/
def sn_c169 : List (List (Nat × sn_E)) := [[(0, .aload_n 0, 0, 0), (1, .invokevirtual 219, 162, 0), (4, .sipush (-20006), 20006, 1), (7, .if_icmp .eq (7), 14, 0)],
  [(10, .sipush (-20005), 20005, 1), (13, .ireturn, 0, 0), (14, .aload_n 0, 0, 0), (15, .invokevirtual 109, 100, 0)],
  [(18, .iconst (0), 0, 0), (19, .istore_n 1, 0, 0), (20, .aload_n 0, 0, 0), (21, .iconst (0), 0, 0), (22, .putfield 185, 5, 11)],
  [(25, .iconst (1), 1, 0), (26, .istore_n 2, 0, 0), (27, .iload_n 2, 0, 0), (28, .ifCond .eq (53), 81, 0), (31, .aload_n 0, 0, 0)],
  [(32, .getfield 185, 5, 11), (35, .aload_n 0, 0, 0), (36, .getfield 182, 5, 5), (39, .if_icmp .ge (42), 81, 0)],
  [(42, .aload_n 0, 0, 0), (43, .invokevirtual 216, 163, 0), (46, .pop, 0, 0), (47, .aload_n 0, 0, 0)],
  [(48, .bipush (59), 59, 0), (50, .invokevirtual 197, 167, 0), (53, .pop, 0, 0), (54, .aload_n 0, 0, 0), (55, .invokevirtual 222, 170, 0)],
  [(58, .ifCond .ne (7), 65, 0), (61, .iconst (1), 1, 0), (62, .goto (4), 66, 0)],
  [(65, .iconst (0), 0, 0), (66, .istore_n 2, 0, 0), (67, .iload_n 2, 0, 0), (68, .ifCond .eq (-41), 27, 0), (71, .aload_n 0, 0, 0)],
  [(72, .invokevirtual 225, 171, 0), (75, .iinc 1 (1), 1, 0), (78, .goto (-51), 27, 0)],
  [(81, .aload_n 0, 0, 0), (82, .iconst (0), 0, 0), (83, .putfield 182, 5, 5), (86, .iload_n 1, 0, 0), (87, .ireturn, 0, 0)]]
/-- SnapshotRingsModel.whyNotDone()I -/
def sn_c170 : List (List (Nat × sn_E)) := [[(0, .aload_n 0, 0, 0), (1, .getfield 203, 5, 12), (4, .lookupswitch (75) #[(98, 36), (114, 45), (119, 58)], 0, 0)],
  [],
  [],
  [],
  [],
  [(40, .aload_n 0, 0, 0), (41, .aload_n 0, 0, 0), (42, .getfield 191, 5, 13), (45, .invokevirtual 106, 95, 0)],
  [(48, .ireturn, 0, 0), (49, .aload_n 0, 0, 0), (50, .aload_n 0, 0, 0), (51, .getfield 191, 5, 13), (54, .aload_n 0, 0, 0), (55, .getfield 194, 5, 14)],
  [(58, .invokevirtual 118, 106, 0), (61, .ireturn, 0, 0), (62, .aload_n 0, 0, 0), (63, .aload_n 0, 0, 0)],
  [(64, .getfield 191, 5, 13), (67, .aload_n 0, 0, 0), (68, .getfield 194, 5, 14), (71, .aload_n 0, 0, 0)],
  [(72, .getfield 200, 5, 15), (75, .invokevirtual 127, 110, 0), (78, .ireturn, 0, 0), (79, .aload_n 0, 0, 0)],
  [(80, .aload_n 0, 0, 0), (81, .getfield 191, 5, 13), (84, .invokevirtual 137, 114, 0), (87, .ireturn, 0, 0)]]
/-- SnapshotRingsModel.does()V -/
def sn_c171 : List (List (Nat × sn_E)) := [[(0, .aload_n 0, 0, 0), (1, .getfield 203, 5, 12), (4, .lookupswitch (104) #[(98, 44), (99, 92), (114, 56), (119, 72)], 0, 0)],
  [],
  [],
  [],
  [],
  [],
  [(48, .aload_n 0, 0, 0), (49, .aload_n 0, 0, 0), (50, .getfield 191, 5, 13), (53, .invokevirtual 112, 102, 0)],
  [(56, .pop, 0, 0), (57, .goto (60), 117, 0), (60, .aload_n 0, 0, 0), (61, .aload_n 0, 0, 0), (62, .getfield 191, 5, 13)],
  [(65, .aload_n 0, 0, 0), (66, .getfield 194, 5, 14), (69, .invokevirtual 121, 108, 0)],
  [(72, .pop, 0, 0), (73, .goto (44), 117, 0), (76, .aload_n 0, 0, 0), (77, .aload_n 0, 0, 0), (78, .getfield 191, 5, 13)],
  [(81, .aload_n 0, 0, 0), (82, .getfield 194, 5, 14), (85, .aload_n 0, 0, 0), (86, .getfield 200, 5, 15)],
  [(89, .invokevirtual 131, 111, 0), (92, .pop, 0, 0), (93, .goto (24), 117, 0)],
  [(96, .aload_n 0, 0, 0), (97, .aload_n 0, 0, 0), (98, .getfield 191, 5, 13), (101, .invokevirtual 140, 115, 0)],
  [(104, .pop, 0, 0), (105, .goto (12), 117, 0), (108, .aload_n 0, 0, 0), (109, .aload_n 0, 0, 0), (110, .getfield 191, 5, 13)],
  [(113, .invokevirtual 143, 131, 0), (116, .pop, 0, 0), (117, .return_, 0, 0)]]
/-- SnapshotRingsModel.undo()I -/
def sn_c172 : List (List (Nat × sn_E)) := [[(0, .aload_n 0, 0, 0), (1, .getfield 31, 5, 3), (4, .ifCond .ne (7), 11, 0), (7, .sipush (-20003), 20003, 1)],
  [(10, .ireturn, 0, 0), (11, .aload_n 0, 0, 0), (12, .dup, 0, 0), (13, .getfield 31, 5, 3)],
  [(16, .iconst (1), 1, 0), (17, .isub, 0, 0), (18, .putfield 31, 5, 3), (21, .aload_n 0, 0, 0), (22, .getfield 16, 5, 2)],
  [(25, .aload_n 0, 0, 0), (26, .getfield 31, 5, 3), (29, .sipush (596), 596, 0)],
  [(32, .imul, 0, 0), (33, .aload_n 0, 0, 0), (34, .getfield 7, 5, 0), (37, .iconst (0), 0, 0), (38, .invokestatic 35, 101, 0)],
  [(41, .aload_n 0, 0, 0), (42, .getfield 31, 5, 3), (45, .ireturn, 0, 0)]]
/-- SnapshotRingsModel.digest()J -/
def sn_c173 : List (List (Nat × sn_E)) := [[(0, .ldc2_w 228, 368, 0), (3, .lstore_n 1, 0, 0), (4, .iconst (0), 0, 0), (5, .istore_n 3, 0, 0), (6, .iload_n 3, 0, 0), (7, .bipush (7), 7, 0)],
  [(9, .if_icmp .gt (22), 31, 0), (12, .ldc2_w 230, 31, 0), (15, .lload_n 1, 0, 0)],
  [(16, .lmul, 0, 0), (17, .aload_n 0, 0, 0), (18, .iload_n 3, 0, 0), (19, .invokevirtual 152, 136, 0), (22, .i2l, 0, 0), (23, .ladd, 0, 0)],
  [(24, .lstore_n 1, 0, 0), (25, .iinc 3 (1), 1, 0), (28, .goto (-22), 6, 0), (31, .iconst (0), 0, 0)],
  [(32, .istore_n 3, 0, 0), (33, .iload_n 3, 0, 0), (34, .bipush (12), 12, 0), (36, .if_icmp .ge (43), 79, 0), (39, .ldc2_w 230, 31, 0)],
  [(42, .lload_n 1, 0, 0), (43, .lmul, 0, 0), (44, .aload_n 0, 0, 0), (45, .getfield 7, 5, 0)],
  [(48, .bipush (12), 12, 0), (50, .iload_n 3, 0, 0), (51, .iadd, 0, 0), (52, .iaload, 0, 0), (53, .i2l, 0, 0), (54, .ladd, 0, 0), (55, .lstore_n 1, 0, 0)],
  [(56, .ldc2_w 230, 31, 0), (59, .lload_n 1, 0, 0), (60, .lmul, 0, 0), (61, .aload_n 0, 0, 0), (62, .getfield 7, 5, 0)],
  [(65, .bipush (24), 24, 0), (67, .iload_n 3, 0, 0), (68, .iadd, 0, 0), (69, .iaload, 0, 0), (70, .i2l, 0, 0), (71, .ladd, 0, 0)],
  [(72, .lstore_n 1, 0, 0), (73, .iinc 3 (1), 1, 0), (76, .goto (-43), 33, 0), (79, .iconst (0), 0, 0)],
  [(80, .istore_n 3, 0, 0), (81, .iload_n 3, 0, 0), (82, .bipush (8), 8, 0), (84, .if_icmp .ge (86), 170, 0), (87, .aload_n 0, 0, 0)],
  [(88, .iload_n 3, 0, 0), (89, .invokevirtual 100, 98, 0), (92, .ifCond .eq (72), 164, 0), (95, .ldc2_w 230, 31, 0)],
  [(98, .lload_n 1, 0, 0), (99, .lmul, 0, 0), (100, .iload_n 3, 0, 0), (101, .i2l, 0, 0), (102, .ladd, 0, 0), (103, .lstore_n 1, 0, 0)],
  [(104, .iconst (0), 0, 0), (105, .istore 4, 4, 0), (107, .iload 4, 4, 0), (109, .iconst (3), 3, 0), (110, .if_icmp .gt (24), 134, 0)],
  [(113, .ldc2_w 230, 31, 0), (116, .lload_n 1, 0, 0), (117, .lmul, 0, 0), (118, .aload_n 0, 0, 0), (119, .iload_n 3, 0, 0)],
  [(120, .iload 4, 4, 0), (122, .invokevirtual 155, 141, 0), (125, .i2l, 0, 0), (126, .ladd, 0, 0), (127, .lstore_n 1, 0, 0)],
  [(128, .iinc 4 (1), 1, 0), (131, .goto (-24), 107, 0), (134, .iconst (0), 0, 0), (135, .istore 4, 4, 0)],
  [(137, .iload 4, 4, 0), (139, .iconst (3), 3, 0), (140, .if_icmp .ge (24), 164, 0), (143, .ldc2_w 230, 31, 0)],
  [(146, .lload_n 1, 0, 0), (147, .lmul, 0, 0), (148, .aload_n 0, 0, 0), (149, .iload_n 3, 0, 0), (150, .iload 4, 4, 0)],
  [(152, .invokevirtual 179, 156, 0), (155, .i2l, 0, 0), (156, .ladd, 0, 0), (157, .lstore_n 1, 0, 0), (158, .iinc 4 (1), 1, 0)],
  [(161, .goto (-24), 137, 0), (164, .iinc 3 (1), 1, 0), (167, .goto (-86), 81, 0)],
  [(170, .iconst (0), 0, 0), (171, .istore_n 3, 0, 0), (172, .iload_n 3, 0, 0), (173, .aload_n 0, 0, 0), (174, .invokevirtual 51, 121, 0)],
  [(177, .if_icmp .ge (61), 238, 0), (180, .ldc2_w 230, 31, 0), (183, .lload_n 1, 0, 0)],
  [(184, .lmul, 0, 0), (185, .aload_n 0, 0, 0), (186, .iload_n 3, 0, 0), (187, .invokevirtual 61, 124, 0), (190, .i2l, 0, 0), (191, .ladd, 0, 0)],
  [(192, .lstore_n 1, 0, 0), (193, .iconst (0), 0, 0), (194, .istore 4, 4, 0), (196, .iload 4, 4, 0), (198, .iconst (2), 2, 0), (199, .if_icmp .gt (33), 232, 0)],
  [(202, .ldc2_w 230, 31, 0), (205, .lload_n 1, 0, 0), (206, .lmul, 0, 0), (207, .aload_n 0, 0, 0)],
  [(208, .getfield 7, 5, 0), (211, .aload_n 0, 0, 0), (212, .iload_n 3, 0, 0), (213, .invokevirtual 61, 124, 0)],
  [(216, .invokestatic 65, 126, 0), (219, .iload 4, 4, 0), (221, .iadd, 0, 0), (222, .iaload, 0, 0), (223, .i2l, 0, 0)],
  [(224, .ladd, 0, 0), (225, .lstore_n 1, 0, 0), (226, .iinc 4 (1), 1, 0), (229, .goto (-33), 196, 0)],
  [(232, .iinc 3 (1), 1, 0), (235, .goto (-63), 172, 0), (238, .iconst (0), 0, 0), (239, .istore_n 3, 0, 0)],
  [(240, .iload_n 3, 0, 0), (241, .aload_n 0, 0, 0), (242, .invokevirtual 51, 121, 0), (245, .if_icmp .ge (59), 304, 0)],
  [(248, .iload_n 3, 0, 0), (249, .iconst (1), 1, 0), (250, .iadd, 0, 0), (251, .istore 4, 4, 0), (253, .iload 4, 4, 0), (255, .aload_n 0, 0, 0)],
  [(256, .invokevirtual 51, 121, 0), (259, .if_icmp .ge (39), 298, 0), (262, .ldc2_w 230, 31, 0)],
  [(265, .lload_n 1, 0, 0), (266, .lmul, 0, 0), (267, .aload_n 0, 0, 0), (268, .iload_n 3, 0, 0), (269, .iload 4, 4, 0), (271, .invokevirtual 74, 122, 0)],
  [(274, .i2l, 0, 0), (275, .ladd, 0, 0), (276, .lstore_n 1, 0, 0), (277, .ldc2_w 230, 31, 0)],
  [(280, .lload_n 1, 0, 0), (281, .lmul, 0, 0), (282, .aload_n 0, 0, 0), (283, .iload 4, 4, 0), (285, .iload_n 3, 0, 0), (286, .invokevirtual 74, 122, 0)],
  [(289, .i2l, 0, 0), (290, .ladd, 0, 0), (291, .lstore_n 1, 0, 0), (292, .iinc 4 (1), 1, 0), (295, .goto (-42), 253, 0)],
  [(298, .iinc 3 (1), 1, 0), (301, .goto (-61), 240, 0)],
  [(304, .ldc2_w 230, 31, 0), (307, .lload_n 1, 0, 0), (308, .lmul, 0, 0), (309, .aload_n 0, 0, 0), (310, .invokevirtual 164, 147, 0)],
  [(313, .i2l, 0, 0), (314, .ladd, 0, 0), (315, .lstore_n 1, 0, 0), (316, .aload_n 0, 0, 0), (317, .invokevirtual 170, 150, 0)],
  [(320, .iconst (0), 0, 0), (321, .istore_n 3, 0, 0), (322, .iload_n 3, 0, 0), (323, .bipush (16), 16, 0), (325, .if_icmp .ge (22), 347, 0)],
  [(328, .ldc2_w 230, 31, 0), (331, .lload_n 1, 0, 0), (332, .lmul, 0, 0), (333, .aload_n 0, 0, 0), (334, .iload_n 3, 0, 0), (335, .invokevirtual 173, 151, 0)],
  [(338, .i2l, 0, 0), (339, .ladd, 0, 0), (340, .lstore_n 1, 0, 0), (341, .iinc 3 (1), 1, 0)],
  [(344, .goto (-22), 322, 0), (347, .iconst (0), 0, 0), (348, .istore_n 3, 0, 0), (349, .iload_n 3, 0, 0), (350, .iconst (3), 3, 0), (351, .if_icmp .ge (22), 373, 0)],
  [(354, .ldc2_w 230, 31, 0), (357, .lload_n 1, 0, 0), (358, .lmul, 0, 0), (359, .aload_n 0, 0, 0)],
  [(360, .iload_n 3, 0, 0), (361, .invokevirtual 176, 154, 0), (364, .i2l, 0, 0), (365, .ladd, 0, 0), (366, .lstore_n 1, 0, 0), (367, .iinc 3 (1), 1, 0)],
  [(370, .goto (-21), 349, 0), (373, .lload_n 1, 0, 0), (374, .lreturn, 0, 0)]]
/-- SnapshotRingsLaw.law([I)Z -/
def sn_c174 : List (List (Nat × sn_E)) := [[(0, .new 7, 0, 0), (3, .dup, 0, 0), (4, .invokespecial 9, 0, 0), (7, .astore_n 1, 0, 0)],
  [(8, .new 10, 5, 0), (11, .dup, 0, 0), (12, .invokespecial 12, 93, 0), (15, .astore_n 2, 0, 0)],
  [(16, .iconst (0), 0, 0), (17, .istore_n 3, 0, 0), (18, .iload_n 3, 0, 0), (19, .aload_n 0, 0, 0), (20, .arraylength, 0, 0), (21, .iconst (4), 4, 0), (22, .isub, 0, 0), (23, .if_icmp .gt (781), 804, 0)],
  [(26, .aload_n 0, 0, 0), (27, .iload_n 3, 0, 0), (28, .iaload, 0, 0), (29, .bipush (31), 31, 0), (31, .iand, 0, 0)],
  [(32, .tableswitch (766) (0) (26) #[124, 147, 190, 213, 246, 289, 312, 335, 358, 381, 404, 437, 470, 503, 536, 549, 572, 585, 608, 641, 654, 677, 700, 713, 726, 739, 752], 0, 0)],
  [],
  [],
  [],
  [],
  [],
  [],
  [],
  [],
  [],
  [],
  [],
  [],
  [],
  [],
  [(156, .aload_n 1, 0, 0), (157, .aload_n 0, 0, 0), (158, .iload_n 3, 0, 0), (159, .iconst (1), 1, 0)],
  [(160, .iadd, 0, 0), (161, .iaload, 0, 0), (162, .invokevirtual 13, 5, 0), (165, .aload_n 2, 0, 0), (166, .aload_n 0, 0, 0), (167, .iload_n 3, 0, 0)],
  [(168, .iconst (1), 1, 0), (169, .iadd, 0, 0), (170, .iaload, 0, 0), (171, .invokevirtual 17, 132, 0), (174, .if_icmp .eq (624), 798, 0)],
  [(177, .iconst (0), 0, 0), (178, .ireturn, 0, 0), (179, .aload_n 1, 0, 0), (180, .aload_n 0, 0, 0), (181, .iload_n 3, 0, 0), (182, .iconst (1), 1, 0), (183, .iadd, 0, 0)],
  [(184, .iaload, 0, 0), (185, .aload_n 0, 0, 0), (186, .iload_n 3, 0, 0), (187, .iconst (2), 2, 0), (188, .iadd, 0, 0), (189, .iaload, 0, 0), (190, .aload_n 0, 0, 0), (191, .iload_n 3, 0, 0)],
  [(192, .iconst (3), 3, 0), (193, .iadd, 0, 0), (194, .iaload, 0, 0), (195, .invokevirtual 18, 8, 0), (198, .aload_n 2, 0, 0), (199, .aload_n 0, 0, 0)],
  [(200, .iload_n 3, 0, 0), (201, .iconst (1), 1, 0), (202, .iadd, 0, 0), (203, .iaload, 0, 0), (204, .aload_n 0, 0, 0), (205, .iload_n 3, 0, 0), (206, .iconst (2), 2, 0), (207, .iadd, 0, 0)],
  [(208, .iaload, 0, 0), (209, .aload_n 0, 0, 0), (210, .iload_n 3, 0, 0), (211, .iconst (3), 3, 0), (212, .iadd, 0, 0), (213, .iaload, 0, 0), (214, .invokevirtual 22, 133, 0)],
  [(217, .if_icmp .eq (581), 798, 0), (220, .iconst (0), 0, 0), (221, .ireturn, 0, 0), (222, .aload_n 1, 0, 0), (223, .aload_n 0, 0, 0)],
  [(224, .iload_n 3, 0, 0), (225, .iconst (1), 1, 0), (226, .iadd, 0, 0), (227, .iaload, 0, 0), (228, .invokevirtual 23, 10, 0), (231, .aload_n 2, 0, 0)],
  [(232, .aload_n 0, 0, 0), (233, .iload_n 3, 0, 0), (234, .iconst (1), 1, 0), (235, .iadd, 0, 0), (236, .iaload, 0, 0), (237, .invokevirtual 26, 94, 0)],
  [(240, .if_icmp .eq (558), 798, 0), (243, .iconst (0), 0, 0), (244, .ireturn, 0, 0), (245, .aload_n 1, 0, 0), (246, .aload_n 0, 0, 0), (247, .iload_n 3, 0, 0)],
  [(248, .iconst (1), 1, 0), (249, .iadd, 0, 0), (250, .iaload, 0, 0), (251, .aload_n 0, 0, 0), (252, .iload_n 3, 0, 0), (253, .iconst (2), 2, 0), (254, .iadd, 0, 0), (255, .iaload, 0, 0)],
  [(256, .invokevirtual 27, 16, 0), (259, .aload_n 2, 0, 0), (260, .aload_n 0, 0, 0), (261, .iload_n 3, 0, 0), (262, .iconst (1), 1, 0), (263, .iadd, 0, 0)],
  [(264, .iaload, 0, 0), (265, .aload_n 0, 0, 0), (266, .iload_n 3, 0, 0), (267, .iconst (2), 2, 0), (268, .iadd, 0, 0), (269, .iaload, 0, 0), (270, .invokevirtual 31, 105, 0)],
  [(273, .if_icmp .eq (525), 798, 0), (276, .iconst (0), 0, 0), (277, .ireturn, 0, 0), (278, .aload_n 1, 0, 0), (279, .aload_n 0, 0, 0)],
  [(280, .iload_n 3, 0, 0), (281, .iconst (1), 1, 0), (282, .iadd, 0, 0), (283, .iaload, 0, 0), (284, .aload_n 0, 0, 0), (285, .iload_n 3, 0, 0), (286, .iconst (2), 2, 0), (287, .iadd, 0, 0)],
  [(288, .iaload, 0, 0), (289, .aload_n 0, 0, 0), (290, .iload_n 3, 0, 0), (291, .iconst (3), 3, 0), (292, .iadd, 0, 0), (293, .iaload, 0, 0), (294, .invokevirtual 32, 21, 0)],
  [(297, .aload_n 2, 0, 0), (298, .aload_n 0, 0, 0), (299, .iload_n 3, 0, 0), (300, .iconst (1), 1, 0), (301, .iadd, 0, 0), (302, .iaload, 0, 0), (303, .aload_n 0, 0, 0)],
  [(304, .iload_n 3, 0, 0), (305, .iconst (2), 2, 0), (306, .iadd, 0, 0), (307, .iaload, 0, 0), (308, .aload_n 0, 0, 0), (309, .iload_n 3, 0, 0), (310, .iconst (3), 3, 0), (311, .iadd, 0, 0)],
  [(312, .iaload, 0, 0), (313, .invokevirtual 35, 109, 0), (316, .if_icmp .eq (482), 798, 0), (319, .iconst (0), 0, 0)],
  [(320, .ireturn, 0, 0), (321, .aload_n 1, 0, 0), (322, .aload_n 0, 0, 0), (323, .iload_n 3, 0, 0), (324, .iconst (1), 1, 0), (325, .iadd, 0, 0), (326, .iaload, 0, 0), (327, .invokevirtual 36, 25, 0)],
  [(330, .aload_n 2, 0, 0), (331, .aload_n 0, 0, 0), (332, .iload_n 3, 0, 0), (333, .iconst (1), 1, 0), (334, .iadd, 0, 0), (335, .iaload, 0, 0)],
  [(336, .invokevirtual 39, 113, 0), (339, .if_icmp .eq (459), 798, 0), (342, .iconst (0), 0, 0), (343, .ireturn, 0, 0)],
  [(344, .aload_n 1, 0, 0), (345, .aload_n 0, 0, 0), (346, .iload_n 3, 0, 0), (347, .iconst (1), 1, 0), (348, .iadd, 0, 0), (349, .iaload, 0, 0), (350, .invokevirtual 40, 44, 0)],
  [(353, .aload_n 2, 0, 0), (354, .aload_n 0, 0, 0), (355, .iload_n 3, 0, 0), (356, .iconst (1), 1, 0), (357, .iadd, 0, 0), (358, .iaload, 0, 0), (359, .invokevirtual 43, 130, 0)],
  [(362, .if_icmp .eq (436), 798, 0), (365, .iconst (0), 0, 0), (366, .ireturn, 0, 0), (367, .aload_n 1, 0, 0)],
  [(368, .aload_n 0, 0, 0), (369, .iload_n 3, 0, 0), (370, .iconst (1), 1, 0), (371, .iadd, 0, 0), (372, .iaload, 0, 0), (373, .invokevirtual 44, 46, 0)],
  [(376, .aload_n 2, 0, 0), (377, .aload_n 0, 0, 0), (378, .iload_n 3, 0, 0), (379, .iconst (1), 1, 0), (380, .iadd, 0, 0), (381, .iaload, 0, 0), (382, .invokevirtual 47, 135, 0)],
  [(385, .if_icmp .eq (413), 798, 0), (388, .iconst (0), 0, 0), (389, .ireturn, 0, 0), (390, .aload_n 1, 0, 0), (391, .aload_n 0, 0, 0)],
  [(392, .iload_n 3, 0, 0), (393, .iconst (1), 1, 0), (394, .iadd, 0, 0), (395, .iaload, 0, 0), (396, .invokevirtual 48, 47, 0), (399, .aload_n 2, 0, 0)],
  [(400, .aload_n 0, 0, 0), (401, .iload_n 3, 0, 0), (402, .iconst (1), 1, 0), (403, .iadd, 0, 0), (404, .iaload, 0, 0), (405, .invokevirtual 51, 138, 0)],
  [(408, .if_icmp .eq (390), 798, 0), (411, .iconst (0), 0, 0), (412, .ireturn, 0, 0), (413, .aload_n 1, 0, 0), (414, .aload_n 0, 0, 0), (415, .iload_n 3, 0, 0)],
  [(416, .iconst (1), 1, 0), (417, .iadd, 0, 0), (418, .iaload, 0, 0), (419, .invokevirtual 52, 48, 0), (422, .aload_n 2, 0, 0), (423, .aload_n 0, 0, 0)],
  [(424, .iload_n 3, 0, 0), (425, .iconst (1), 1, 0), (426, .iadd, 0, 0), (427, .iaload, 0, 0), (428, .invokevirtual 55, 139, 0), (431, .if_icmp .eq (367), 798, 0)],
  [(434, .iconst (0), 0, 0), (435, .ireturn, 0, 0), (436, .aload_n 1, 0, 0), (437, .aload_n 0, 0, 0), (438, .iload_n 3, 0, 0), (439, .iconst (1), 1, 0)],
  [(440, .iadd, 0, 0), (441, .iaload, 0, 0), (442, .aload_n 0, 0, 0), (443, .iload_n 3, 0, 0), (444, .iconst (2), 2, 0), (445, .iadd, 0, 0), (446, .iaload, 0, 0), (447, .invokevirtual 56, 49, 0)],
  [(450, .aload_n 2, 0, 0), (451, .aload_n 0, 0, 0), (452, .iload_n 3, 0, 0), (453, .iconst (1), 1, 0), (454, .iadd, 0, 0), (455, .iaload, 0, 0)],
  [(456, .aload_n 0, 0, 0), (457, .iload_n 3, 0, 0), (458, .iconst (2), 2, 0), (459, .iadd, 0, 0), (460, .iaload, 0, 0), (461, .invokevirtual 59, 140, 0)],
  [(464, .if_icmp .eq (334), 798, 0), (467, .iconst (0), 0, 0), (468, .ireturn, 0, 0), (469, .aload_n 1, 0, 0), (470, .aload_n 0, 0, 0), (471, .iload_n 3, 0, 0)],
  [(472, .iconst (1), 1, 0), (473, .iadd, 0, 0), (474, .iaload, 0, 0), (475, .aload_n 0, 0, 0), (476, .iload_n 3, 0, 0), (477, .iconst (2), 2, 0), (478, .iadd, 0, 0), (479, .iaload, 0, 0)],
  [(480, .invokevirtual 60, 51, 0), (483, .aload_n 2, 0, 0), (484, .aload_n 0, 0, 0), (485, .iload_n 3, 0, 0), (486, .iconst (1), 1, 0), (487, .iadd, 0, 0)],
  [(488, .iaload, 0, 0), (489, .aload_n 0, 0, 0), (490, .iload_n 3, 0, 0), (491, .iconst (2), 2, 0), (492, .iadd, 0, 0), (493, .iaload, 0, 0), (494, .invokevirtual 63, 142, 0)],
  [(497, .if_icmp .eq (301), 798, 0), (500, .iconst (0), 0, 0), (501, .ireturn, 0, 0), (502, .aload_n 1, 0, 0), (503, .aload_n 0, 0, 0)],
  [(504, .iload_n 3, 0, 0), (505, .iconst (1), 1, 0), (506, .iadd, 0, 0), (507, .iaload, 0, 0), (508, .aload_n 0, 0, 0), (509, .iload_n 3, 0, 0), (510, .iconst (2), 2, 0), (511, .iadd, 0, 0)],
  [(512, .iaload, 0, 0), (513, .invokevirtual 64, 53, 0), (516, .aload_n 2, 0, 0), (517, .aload_n 0, 0, 0), (518, .iload_n 3, 0, 0), (519, .iconst (1), 1, 0)],
  [(520, .iadd, 0, 0), (521, .iaload, 0, 0), (522, .aload_n 0, 0, 0), (523, .iload_n 3, 0, 0), (524, .iconst (2), 2, 0), (525, .iadd, 0, 0), (526, .iaload, 0, 0), (527, .invokevirtual 67, 144, 0)],
  [(530, .if_icmp .eq (268), 798, 0), (533, .iconst (0), 0, 0), (534, .ireturn, 0, 0), (535, .aload_n 1, 0, 0)],
  [(536, .aload_n 0, 0, 0), (537, .iload_n 3, 0, 0), (538, .iconst (1), 1, 0), (539, .iadd, 0, 0), (540, .iaload, 0, 0), (541, .aload_n 0, 0, 0), (542, .iload_n 3, 0, 0), (543, .iconst (2), 2, 0)],
  [(544, .iadd, 0, 0), (545, .iaload, 0, 0), (546, .invokevirtual 68, 54, 0), (549, .aload_n 2, 0, 0), (550, .aload_n 0, 0, 0), (551, .iload_n 3, 0, 0)],
  [(552, .iconst (1), 1, 0), (553, .iadd, 0, 0), (554, .iaload, 0, 0), (555, .aload_n 0, 0, 0), (556, .iload_n 3, 0, 0), (557, .iconst (2), 2, 0), (558, .iadd, 0, 0), (559, .iaload, 0, 0)],
  [(560, .invokevirtual 71, 145, 0), (563, .if_icmp .eq (235), 798, 0), (566, .iconst (0), 0, 0), (567, .ireturn, 0, 0)],
  [(568, .aload_n 1, 0, 0), (569, .invokevirtual 72, 56, 0), (572, .aload_n 2, 0, 0), (573, .invokevirtual 76, 146, 0)],
  [(576, .if_icmp .eq (222), 798, 0), (579, .iconst (0), 0, 0), (580, .ireturn, 0, 0), (581, .aload_n 1, 0, 0), (582, .aload_n 0, 0, 0), (583, .iload_n 3, 0, 0)],
  [(584, .iconst (1), 1, 0), (585, .iadd, 0, 0), (586, .iaload, 0, 0), (587, .invokevirtual 77, 58, 0), (590, .aload_n 2, 0, 0), (591, .aload_n 0, 0, 0)],
  [(592, .iload_n 3, 0, 0), (593, .iconst (1), 1, 0), (594, .iadd, 0, 0), (595, .iaload, 0, 0), (596, .invokevirtual 80, 149, 0), (599, .if_icmp .eq (199), 798, 0)],
  [(602, .iconst (0), 0, 0), (603, .ireturn, 0, 0), (604, .aload_n 1, 0, 0), (605, .invokevirtual 81, 61, 0)],
  [(608, .aload_n 2, 0, 0), (609, .invokevirtual 84, 152, 0), (612, .if_icmp .eq (186), 798, 0), (615, .iconst (0), 0, 0)],
  [(616, .ireturn, 0, 0), (617, .aload_n 1, 0, 0), (618, .aload_n 0, 0, 0), (619, .iload_n 3, 0, 0), (620, .iconst (1), 1, 0), (621, .iadd, 0, 0), (622, .iaload, 0, 0), (623, .invokevirtual 85, 63, 0)],
  [(626, .aload_n 2, 0, 0), (627, .aload_n 0, 0, 0), (628, .iload_n 3, 0, 0), (629, .iconst (1), 1, 0), (630, .iadd, 0, 0), (631, .iaload, 0, 0)],
  [(632, .invokevirtual 88, 153, 0), (635, .if_icmp .eq (163), 798, 0), (638, .iconst (0), 0, 0), (639, .ireturn, 0, 0)],
  [(640, .aload_n 1, 0, 0), (641, .aload_n 0, 0, 0), (642, .iload_n 3, 0, 0), (643, .iconst (1), 1, 0), (644, .iadd, 0, 0), (645, .iaload, 0, 0), (646, .aload_n 0, 0, 0), (647, .iload_n 3, 0, 0)],
  [(648, .iconst (2), 2, 0), (649, .iadd, 0, 0), (650, .iaload, 0, 0), (651, .invokevirtual 89, 65, 0), (654, .aload_n 2, 0, 0), (655, .aload_n 0, 0, 0)],
  [(656, .iload_n 3, 0, 0), (657, .iconst (1), 1, 0), (658, .iadd, 0, 0), (659, .iaload, 0, 0), (660, .aload_n 0, 0, 0), (661, .iload_n 3, 0, 0), (662, .iconst (2), 2, 0), (663, .iadd, 0, 0)],
  [(664, .iaload, 0, 0), (665, .invokevirtual 92, 155, 0), (668, .if_icmp .eq (130), 798, 0), (671, .iconst (0), 0, 0)],
  [(672, .ireturn, 0, 0), (673, .aload_n 1, 0, 0), (674, .invokevirtual 93, 66, 0), (677, .aload_n 2, 0, 0), (678, .invokevirtual 96, 157, 0)],
  [(681, .if_icmp .eq (117), 798, 0), (684, .iconst (0), 0, 0), (685, .ireturn, 0, 0), (686, .aload_n 1, 0, 0), (687, .aload_n 0, 0, 0)],
  [(688, .iload_n 3, 0, 0), (689, .iconst (1), 1, 0), (690, .iadd, 0, 0), (691, .iaload, 0, 0), (692, .invokevirtual 97, 67, 0), (695, .aload_n 2, 0, 0)],
  [(696, .aload_n 0, 0, 0), (697, .iload_n 3, 0, 0), (698, .iconst (1), 1, 0), (699, .iadd, 0, 0), (700, .iaload, 0, 0), (701, .invokevirtual 100, 158, 0)],
  [(704, .if_icmp .eq (94), 798, 0), (707, .iconst (0), 0, 0), (708, .ireturn, 0, 0), (709, .aload_n 1, 0, 0), (710, .aload_n 0, 0, 0), (711, .iload_n 3, 0, 0)],
  [(712, .iconst (1), 1, 0), (713, .iadd, 0, 0), (714, .iaload, 0, 0), (715, .invokevirtual 101, 68, 0), (718, .aload_n 2, 0, 0), (719, .aload_n 0, 0, 0)],
  [(720, .iload_n 3, 0, 0), (721, .iconst (1), 1, 0), (722, .iadd, 0, 0), (723, .iaload, 0, 0), (724, .invokevirtual 104, 159, 0), (727, .if_icmp .eq (71), 798, 0)],
  [(730, .iconst (0), 0, 0), (731, .ireturn, 0, 0), (732, .aload_n 1, 0, 0), (733, .invokevirtual 105, 70, 0)],
  [(736, .aload_n 2, 0, 0), (737, .invokevirtual 108, 160, 0), (740, .if_icmp .eq (58), 798, 0), (743, .iconst (0), 0, 0)],
  [(744, .ireturn, 0, 0), (745, .aload_n 1, 0, 0), (746, .invokevirtual 109, 71, 0), (749, .aload_n 2, 0, 0), (750, .invokevirtual 112, 161, 0)],
  [(753, .if_icmp .eq (45), 798, 0), (756, .iconst (0), 0, 0), (757, .ireturn, 0, 0), (758, .aload_n 1, 0, 0), (759, .invokevirtual 113, 79, 0)],
  [(762, .aload_n 2, 0, 0), (763, .invokevirtual 116, 169, 0), (766, .if_icmp .eq (32), 798, 0)],
  [(769, .iconst (0), 0, 0), (770, .ireturn, 0, 0), (771, .aload_n 1, 0, 0), (772, .invokevirtual 117, 86, 0), (775, .aload_n 2, 0, 0)],
  [(776, .invokevirtual 120, 172, 0), (779, .if_icmp .eq (19), 798, 0), (782, .iconst (0), 0, 0), (783, .ireturn, 0, 0)],
  [(784, .aload_n 1, 0, 0), (785, .invokevirtual 121, 88, 0), (788, .aload_n 2, 0, 0), (789, .invokevirtual 125, 173, 0)],
  [(792, .lcmp, 0, 0), (793, .ifCond .eq (5), 798, 0), (796, .iconst (0), 0, 0), (797, .ireturn, 0, 0), (798, .iinc 3 (4), 4, 0)],
  [(801, .goto (-783), 18, 0), (804, .iconst (1), 1, 0), (805, .ireturn, 0, 0)]]
def sn_chs : List (List (List (Nat × sn_E))) := [sn_c0, sn_c1, sn_c2, sn_c3, sn_c4, sn_c5, sn_c6, sn_c7, sn_c8, sn_c9, sn_c10, sn_c11, sn_c12, sn_c13, sn_c14, sn_c15, sn_c16, sn_c17, sn_c18, sn_c19, sn_c20, sn_c21, sn_c22, sn_c23, sn_c24, sn_c25, sn_c26, sn_c27, sn_c28, sn_c29, sn_c30, sn_c31, sn_c32, sn_c33, sn_c34, sn_c35, sn_c36, sn_c37, sn_c38, sn_c39, sn_c40, sn_c41, sn_c42, sn_c43, sn_c44, sn_c45, sn_c46, sn_c47, sn_c48, sn_c49, sn_c50, sn_c51, sn_c52, sn_c53, sn_c54, sn_c55, sn_c56, sn_c57, sn_c58, sn_c59, sn_c60, sn_c61, sn_c62, sn_c63, sn_c64, sn_c65, sn_c66, sn_c67, sn_c68, sn_c69, sn_c70, sn_c71, sn_c72, sn_c73, sn_c74, sn_c75, sn_c76, sn_c77, sn_c78, sn_c79, sn_c80, sn_c81, sn_c82, sn_c83, sn_c84, sn_c85, sn_c86, sn_c87, sn_c88, sn_c89, sn_c90, sn_c91, sn_c92, sn_c93, sn_c94, sn_c95, sn_c96, sn_c97, sn_c98, sn_c99, sn_c100, sn_c101, sn_c102, sn_c103, sn_c104, sn_c105, sn_c106, sn_c107, sn_c108, sn_c109, sn_c110, sn_c111, sn_c112, sn_c113, sn_c114, sn_c115, sn_c116, sn_c117, sn_c118, sn_c119, sn_c120, sn_c121, sn_c122, sn_c123, sn_c124, sn_c125, sn_c126, sn_c127, sn_c128, sn_c129, sn_c130, sn_c131, sn_c132, sn_c133, sn_c134, sn_c135, sn_c136, sn_c137, sn_c138, sn_c139, sn_c140, sn_c141, sn_c142, sn_c143, sn_c144, sn_c145, sn_c146, sn_c147, sn_c148, sn_c149, sn_c150, sn_c151, sn_c152, sn_c153, sn_c154, sn_c155, sn_c156, sn_c157, sn_c158, sn_c159, sn_c160, sn_c161, sn_c162, sn_c163, sn_c164, sn_c165, sn_c166, sn_c167, sn_c168, sn_c169, sn_c170, sn_c171, sn_c172, sn_c173, sn_c174]
def sn_find (pc : Nat) : List (Nat × sn_E) → Option sn_E
  | [] => none
  | q :: l => bif Nat.beq q.1 pc then some q.2 else sn_find pc l
def sn_ch (m : Nat) : List (List (Nat × sn_E)) := (sn_nth sn_chs m).getD []
/-- the instruction of a method at a place -/
def sn_cd (m pc : Nat) : Option sn_E := sn_find pc ((sn_nth (sn_ch m) (pc / 8)).getD [])
/-- field links: owner, entry, class, field, place among the words -/
def sn_fl : List (Nat × Nat × Nat × Nat × Nat) := [(0, 12, 0, 0, 218), (0, 16, 0, 1, 219), (0, 22, 0, 2, 220), (0, 29, 0, 3, 221), (0, 36, 0, 4, 222), (1, 9, 1, 4, 97), (1, 15, 1, 5, 99), (1, 18, 1, 6, 101), (1, 21, 1, 7, 103), (1, 24, 1, 8, 105), (1, 27, 1, 9, 107), (1, 30, 1, 10, 108), (1, 33, 1, 11, 109), (1, 36, 1, 12, 110), (1, 39, 1, 13, 111), (2, 11, 2, 0, 152), (3, 9, 3, 1, 171), (3, 15, 3, 2, 172), (3, 18, 3, 3, 173), (3, 21, 3, 4, 175), (3, 24, 3, 5, 176), (3, 27, 3, 6, 177), (3, 30, 3, 7, 178), (3, 33, 3, 8, 179), (4, 9, 4, 0, 209), (0, 44, 1, 0, 89), (2, 18, 2, 2, 155), (2, 26, 2, 1, 153), (1, 42, 1, 0, 88), (1, 46, 1, 1, 91), (1, 49, 1, 2, 93), (1, 52, 1, 3, 95), (0, 52, 1, 6, 102), (0, 56, 1, 5, 100), (0, 224, 3, 9, 181), (3, 42, 3, 0, 169), (3, 46, 1, 1, 90), (3, 65, 3, 9, 180), (0, 90, 1, 1, 92), (0, 93, 1, 3, 96), (0, 105, 1, 4, 98), (0, 108, 1, 2, 94), (0, 114, 1, 7, 104), (0, 117, 1, 8, 106), (0, 163, 1, 13, 112), (0, 172, 4, 1, 211), (4, 15, 4, 1, 210), (0, 188, 2, 1, 154), (0, 264, 3, 0, 170), (0, 267, 3, 3, 174), (5, 7, 5, 0, 607), (5, 13, 5, 1, 608), (5, 16, 5, 2, 609), (5, 19, 5, 4, 611), (5, 22, 5, 7, 614), (5, 25, 5, 8, 615), (5, 28, 5, 9, 616), (5, 31, 5, 3, 610), (5, 58, 5, 6, 613), (5, 167, 5, 10, 617), (5, 182, 5, 5, 612), (5, 185, 5, 11, 618), (5, 203, 5, 12, 619), (5, 191, 5, 13, 620), (5, 194, 5, 14, 621), (5, 200, 5, 15, 622)]
/-- method links: owner, entry, method, nest mate or not, place -/
def sn_lk : List (Nat × Nat × Nat × Nat × Nat) := [(0, 11, 1, 1, 84), (0, 21, 2, 0, 145), (0, 28, 3, 1, 165), (0, 35, 4, 1, 205), (2, 17, 1, 1, 151), (0, 40, 6, 0, 238), (2, 22, 7, 0, 242), (0, 48, 9, 0, 256), (0, 59, 11, 0, 263), (0, 63, 15, 0, 277), (0, 218, 12, 0, 267), (0, 169, 13, 0, 270), (1, 61, 14, 1, 274), (0, 66, 17, 0, 285), (0, 70, 20, 0, 296), (0, 111, 18, 0, 289), (0, 80, 19, 0, 292), (0, 73, 22, 0, 304), (0, 77, 23, 0, 308), (1, 65, 24, 0, 312), (0, 83, 26, 0, 322), (0, 120, 27, 0, 326), (0, 231, 41, 0, 385), (0, 235, 43, 0, 393), (0, 221, 28, 0, 330), (0, 137, 29, 0, 334), (0, 140, 35, 0, 359), (0, 144, 36, 0, 363), (0, 227, 40, 0, 381), (3, 36, 30, 0, 338), (3, 49, 31, 0, 343), (3, 53, 32, 0, 347), (3, 57, 33, 0, 351), (3, 61, 34, 0, 355), (3, 68, 37, 0, 367), (3, 72, 14, 1, 371), (3, 82, 38, 0, 373), (3, 85, 39, 0, 377), (1, 71, 42, 0, 389), (1, 75, 31, 0, 397), (0, 87, 45, 0, 402), (0, 96, 24, 0, 410), (0, 101, 30, 0, 411), (0, 124, 50, 0, 424), (0, 127, 52, 0, 432), (0, 130, 31, 0, 436), (0, 133, 34, 0, 441), (0, 147, 55, 0, 446), (0, 150, 57, 0, 454), (0, 153, 59, 0, 462), (3, 88, 60, 0, 466), (0, 156, 62, 0, 474), (0, 159, 64, 0, 482), (0, 166, 7, 0, 494), (0, 175, 69, 0, 503), (0, 179, 72, 0, 515), (4, 19, 73, 0, 519), (4, 23, 74, 0, 523), (4, 27, 75, 0, 526), (4, 31, 76, 0, 529), (4, 35, 77, 0, 532), (4, 39, 78, 0, 535), (0, 182, 80, 0, 542), (0, 185, 85, 0, 563), (0, 238, 73, 0, 546), (0, 242, 81, 0, 547), (0, 245, 82, 0, 551), (0, 249, 83, 0, 555), (0, 252, 84, 0, 559), (0, 191, 87, 0, 571), (0, 196, 46, 0, 580), (0, 199, 89, 0, 581), (0, 203, 90, 0, 585), (0, 207, 91, 0, 591), (0, 210, 92, 0, 596), (0, 213, 63, 0, 600), (0, 255, 49, 0, 589), (0, 258, 65, 0, 590), (0, 261, 51, 0, 595), (5, 106, 95, 0, 660), (5, 109, 100, 0, 678), (5, 112, 102, 0, 685), (5, 43, 96, 0, 664), (5, 100, 98, 0, 670), (5, 39, 97, 0, 667), (5, 47, 99, 0, 674), (5, 35, 101, 0, 682), (5, 103, 103, 0, 689), (5, 96, 104, 0, 693), (5, 118, 106, 0, 701), (5, 121, 108, 0, 708), (5, 115, 107, 0, 705), (5, 127, 110, 0, 716), (5, 131, 111, 0, 720), (5, 124, 112, 0, 724), (5, 137, 114, 0, 731), (5, 140, 115, 0, 735), (5, 134, 116, 0, 739), (5, 65, 126, 0, 779), (5, 87, 117, 0, 743), (5, 90, 118, 0, 747), (5, 93, 129, 0, 790), (5, 77, 119, 0, 751), (5, 81, 127, 0, 782), (5, 84, 128, 0, 786), (5, 71, 120, 0, 755), (5, 74, 122, 0, 763), (5, 51, 121, 0, 759), (5, 68, 123, 0, 767), (5, 61, 124, 0, 771), (5, 55, 125, 0, 775), (5, 143, 131, 0, 798), (5, 146, 134, 0, 810), (5, 152, 136, 0, 817), (5, 149, 137, 0, 821), (5, 155, 141, 0, 837), (5, 158, 143, 0, 845), (5, 164, 147, 0, 861), (5, 161, 148, 0, 865), (5, 170, 150, 0, 873), (5, 173, 151, 0, 877), (5, 176, 154, 0, 889), (5, 179, 156, 0, 897), (5, 219, 162, 0, 921), (5, 216, 163, 0, 925), (5, 197, 167, 0, 941), (5, 188, 164, 0, 929), (5, 206, 165, 0, 933), (5, 210, 166, 0, 937), (5, 213, 168, 0, 945), (5, 222, 170, 0, 953), (5, 225, 171, 0, 957), (6, 9, 0, 0, 76), (6, 12, 93, 0, 603), (6, 13, 5, 0, 234), (6, 17, 132, 0, 802), (6, 18, 8, 0, 252), (6, 22, 133, 0, 806), (6, 23, 10, 0, 259), (6, 26, 94, 0, 656), (6, 27, 16, 0, 281), (6, 31, 105, 0, 697), (6, 32, 21, 0, 300), (6, 35, 109, 0, 712), (6, 36, 25, 0, 318), (6, 39, 113, 0, 727), (6, 40, 44, 0, 398), (6, 43, 130, 0, 794), (6, 44, 46, 0, 406), (6, 47, 135, 0, 813), (6, 48, 47, 0, 412), (6, 51, 138, 0, 825), (6, 52, 48, 0, 416), (6, 55, 139, 0, 829), (6, 56, 49, 0, 420), (6, 59, 140, 0, 833), (6, 60, 51, 0, 428), (6, 63, 142, 0, 841), (6, 64, 53, 0, 437), (6, 67, 144, 0, 849), (6, 68, 54, 0, 442), (6, 71, 145, 0, 853), (6, 72, 56, 0, 450), (6, 76, 146, 0, 857), (6, 77, 58, 0, 458), (6, 80, 149, 0, 869), (6, 81, 61, 0, 470), (6, 84, 152, 0, 881), (6, 85, 63, 0, 478), (6, 88, 153, 0, 885), (6, 89, 65, 0, 486), (6, 92, 155, 0, 893), (6, 93, 66, 0, 490), (6, 96, 157, 0, 901), (6, 97, 67, 0, 495), (6, 100, 158, 0, 905), (6, 101, 68, 0, 499), (6, 104, 159, 0, 909), (6, 105, 70, 0, 507), (6, 108, 160, 0, 913), (6, 109, 71, 0, 511), (6, 112, 161, 0, 917), (6, 113, 79, 0, 538), (6, 116, 169, 0, 949), (6, 117, 86, 0, 567), (6, 120, 172, 0, 961), (6, 121, 88, 0, 575), (6, 125, 173, 0, 965)]
/-- constants: owner, entry, number, 0 / 1 negative / 2 long, place -/
def sn_cnl : List (Nat × Nat × Nat × Nat × Nat) := [(8, 265, 1431655765, 0, 315), (8, 266, 858993459, 0, 316), (8, 267, 252645135, 0, 317), (0, 194, 368, 2, 579), (0, 216, 31, 2, 584), (5, 228, 368, 2, 969), (5, 230, 31, 2, 970)]
/-- class links: owner, entry, class, place -/
def sn_kl : List (Nat × Nat × Nat × Nat) := [(0, 9, 1, 82), (0, 19, 2, 143), (0, 26, 3, 163), (0, 33, 4, 203), (2, 9, 1, 149), (6, 7, 0, 74), (6, 10, 5, 601)]
/-- links of arraycopy: owner, entry, place -/
def sn_al : List (Nat × Nat × Nat) := [(1, 55, 246)]
def sn_ac : Nat × Nat × Nat := (247, 248, 71)
/-- links of Object.<init>: owner, entry, place -/
def sn_ol : List (Nat × Nat × Nat) := [(0, 3, 79), (1, 3, 87), (2, 3, 148), (3, 3, 168), (4, 3, 208), (5, 1, 606)]
/-- links of Math.min: owner, entry, place -/
def sn_nl : List (Nat × Nat × Nat) := [(2, 29, 249), (1, 78, 342), (3, 76, 372)]
def sn_nc : Nat × Nat × Nat := (250, 72, 251)
def sn_oc : Nat × Nat := (80, 81)
/-- places of instantiable and initialized of each class -/
def sn_ki : List (Nat × Nat) := [(75, 65), (83, 66), (144, 67), (164, 68), (204, 69), (602, 70)]
def sn_ar : Nat × Nat × Nat := (142, 217, 150)
end
section
/-! ===== A MACHINE OF NUMBERED PLACES: the instructions of the methods over a heap of places; what it says is tied to the real machine in a later part ===== -/
abbrev sn_L : Type := List (Option Value)
/-- how many places; each one's kind (0 object: class, fields; 1 int array: 0, length; 2 char array; 3 boolean array; 4 references: class, length); references; numbers -/
abbrev sn_H : Type := Nat × (Nat → Nat × Nat × Nat) × (Nat → Nat → Option Nat) × (Nat → Nat → Int32)
def hN (h : sn_H) : Nat := h.1
def hK (h : sn_H) (p : Nat) : Nat × Nat × Nat := h.2.1 p
def hR (h : sn_H) (p k : Nat) : Option Nat := h.2.2.1 p k
def hG (h : sn_H) (p k : Nat) : Int32 := h.2.2.2 p k
def setG (h : sn_H) (p k : Nat) (v : Int32) : sn_H := (h.1, h.2.1, h.2.2.1, fun q j => if q = p ∧ j = k then v else h.2.2.2 q j)
def setR (h : sn_H) (p k r : Nat) : sn_H := (h.1, h.2.1, fun q j => if q = p ∧ j = k then some r else h.2.2.1 q j, h.2.2.2)
def allocH (h : sn_H) (kd : Nat × Nat × Nat) : sn_H := (h.1 + 1, fun q => if q = h.1 then kd else h.2.1 q, fun q j => if q = h.1 then none else h.2.2.1 q j, fun q j => if q = h.1 then 0 else h.2.2.2 q j)
def cpG (h : sn_H) (a s b d n : Nat) : sn_H := (h.1, h.2.1, h.2.2.1, fun q j => if q = b ∧ d ≤ j ∧ j < d + n then h.2.2.2 a (s + (j - d)) else h.2.2.2 q j)
def kI (a b : Nat) : Int32 := match b with
  | 0 => nI a
  | _ => -(nI a)
def kF (a b : Nat) (k : Int32 → Prop) : Prop := match b with
  | 0 => k (nI a)
  | _ => k (-(nI a))
def brF (c : ClassFile.Cond) (x y : Int32) (t f : Prop) : Prop := match c with
  | .eq => (x = y → t) ∧ (¬ x = y → f)
  | .ne => (¬ x = y → t) ∧ (x = y → f)
  | .lt => (x < y → t) ∧ (¬ x < y → f)
  | .ge => (y ≤ x → t) ∧ (¬ y ≤ x → f)
  | .gt => (y < x → t) ∧ (¬ y < x → f)
  | .le => (x ≤ y → t) ∧ (¬ x ≤ y → f)
def clrL (L : sn_L) : Nat → sn_L
  | 0 => L
  | j + 1 => match sn_nth L j with
    | some (some v) => bif Nat.beq v.category 2 then L.set j none else L
    | _ => L
def stL (L : sn_L) (i : Nat) (v : Value) : sn_L := (clrL L i).set i (some v)
def stLL (L : sn_L) (i : Nat) (v : Value) : sn_L := ((clrL L i).set i (some v)).set (i + 1) none
def ldF (L : sn_L) (i : Nat) (k : Value → Prop) : Prop := match sn_nth L i with
  | some (some v) => k v
  | _ => False
def i1F (st : List Value) (k : Int32 → List Value → Prop) : Prop := match st with
  | .int x :: r => k x r
  | _ => False
def i2F (st : List Value) (k : Int32 → Int32 → List Value → Prop) : Prop := match st with
  | .int y :: .int x :: r => k x y r
  | _ => False
def l2F (st : List Value) (k : Int64 → Int64 → List Value → Prop) : Prop := match st with
  | .long y :: .long x :: r => k x y r
  | _ => False
def r1F (st : List Value) (k : Nat → List Value → Prop) : Prop := match st with
  | .ref p :: r => k p r
  | _ => False
def v1F (st : List Value) (k : Value → List Value → Prop) : Prop := match st with
  | v :: r => k v r
  | _ => False
/-- index and array -/
def irF (st : List Value) (k : Int32 → Nat → List Value → Prop) : Prop := match st with
  | .int i :: .ref p :: r => k i p r
  | _ => False
/-- value, index and array -/
def virF (st : List Value) (k : Value → Int32 → Nat → List Value → Prop) : Prop := match st with
  | v :: .int i :: .ref p :: r => k v i p r
  | _ => False
def popF : Nat → List Value → List Value → Option (List Value × List Value)
  | 0, st, acc => some (acc, st)
  | n + 1, v :: st, acc => popF n st (v :: acc)
  | _ + 1, [], _ => none
def catsF (st : List Value) : Nat := (st.map fun v => v.category).sum
def tswF (x : Int32) (lo : Int) (K : Int → Prop) : List Int → Prop
  | [] => True
  | o :: l => (x.toInt = lo → K o) ∧ tswF x (lo + 1) K l
def lswF (x : Int32) (d : Int) (K : Int → Prop) : List (Int × Int) → Prop
  | [] => K d
  | q :: l => (x.toInt = q.1 → K q.2) ∧ (¬ x.toInt = q.1 → lswF x d K l)
def plF (pc : Nat) (o : Int) : Nat := ((pc : Int) + o).toNat
def semF (K KA : Nat → sn_L → List Value → sn_H → Nat × Nat → Prop) (C : Nat → List Value → sn_H → (Option Value → sn_H → Prop) → Prop) (Q : Option Value → sn_H → Prop) (m pc : Nat) (L : sn_L) (st : List Value) (h : sn_H) (c : Nat × Nat) : Prop :=
  match sn_cd m pc with
  | none => False
  | some (i, a, b) =>
    match i with
    | .iconst _ => kF a b fun v => K (pc + 1) L (.int v :: st) h c
    | .bipush _ => kF a b fun v => K (pc + 2) L (.int v :: st) h c
    | .sipush _ => kF a b fun v => K (pc + 3) L (.int v :: st) h c
    | .ldc _ => kF a b fun v => K (pc + 2) L (.int v :: st) h c
    | .ldc_w _ => kF a b fun v => K (pc + 3) L (.int v :: st) h c
    | .ldc2_w _ => K (pc + 3) L (.long (lN a) :: st) h c
    | .iload_n k => ldF L k fun v => match v with
      | .int x => K (pc + 1) L (.int x :: st) h c
      | _ => False
    | .iload k => ldF L k fun v => match v with
      | .int x => K (pc + 2) L (.int x :: st) h c
      | _ => False
    | .lload_n k => ldF L k fun v => match v with
      | .long x => K (pc + 1) L (.long x :: st) h c
      | _ => False
    | .lload k => ldF L k fun v => match v with
      | .long x => K (pc + 2) L (.long x :: st) h c
      | _ => False
    | .aload_n k => ldF L k fun v => match v with
      | .ref x => K (pc + 1) L (.ref x :: st) h c
      | _ => False
    | .aload k => ldF L k fun v => match v with
      | .ref x => K (pc + 2) L (.ref x :: st) h c
      | _ => False
    | .istore_n k => i1F st fun x r => (k : Nat) < sn_mL m ∧ K (pc + 1) (stL L k (.int x)) r h c
    | .istore k => i1F st fun x r => k < sn_mL m ∧ K (pc + 2) (stL L k (.int x)) r h c
    | .astore_n k => r1F st fun x r => (k : Nat) < sn_mL m ∧ K (pc + 1) (stL L k (.ref x)) r h c
    | .astore k => r1F st fun x r => k < sn_mL m ∧ K (pc + 2) (stL L k (.ref x)) r h c
    | .lstore_n k => v1F st fun v r => match v with
      | .long x => (k : Nat) + 1 < sn_mL m ∧ K (pc + 1) (stLL L k (.long x)) r h c
      | _ => False
    | .lstore k => v1F st fun v r => match v with
      | .long x => k + 1 < sn_mL m ∧ K (pc + 2) (stLL L k (.long x)) r h c
      | _ => False
    | .iinc k _ => ldF L k fun v => match v with
      | .int x => k < sn_mL m ∧ kF a b fun w => K (pc + 3) (stL L k (.int (x + w))) st h c
      | _ => False
    | .iadd => i2F st fun x y r => K (pc + 1) L (.int (x + y) :: r) h c
    | .isub => i2F st fun x y r => K (pc + 1) L (.int (x - y) :: r) h c
    | .imul => i2F st fun x y r => K (pc + 1) L (.int (x * y) :: r) h c
    | .irem => i2F st fun x y r => ¬ y = 0 ∧ K (pc + 1) L (.int (x - x / y * y) :: r) h c
    | .iand => i2F st fun x y r => K (pc + 1) L (.int (x &&& y) :: r) h c
    | .ior => i2F st fun x y r => K (pc + 1) L (.int (x ||| y) :: r) h c
    | .ixor => i2F st fun x y r => K (pc + 1) L (.int (x ^^^ y) :: r) h c
    | .ishl => i2F st fun x y r => K (pc + 1) L (.int (x <<< (y &&& 31)) :: r) h c
    | .ishr => i2F st fun x y r => K (pc + 1) L (.int (x >>> (y &&& 31)) :: r) h c
    | .iushr => i2F st fun x y r => K (pc + 1) L (.int (x.toUInt32 >>> (y.toUInt32 &&& Int32.toUInt32 31)).toInt32 :: r) h c
    | .ineg => i1F st fun x r => K (pc + 1) L (.int (-x) :: r) h c
    | .i2l => i1F st fun x r => K (pc + 1) L (.long x.toInt64 :: r) h c
    | .i2c => i1F st fun x r => K (pc + 1) L (.int (x.toUInt32 % 65536).toInt32 :: r) h c
    | .ladd => l2F st fun x y r => K (pc + 1) L (.long (x + y) :: r) h c
    | .lmul => l2F st fun x y r => K (pc + 1) L (.long (x * y) :: r) h c
    | .lcmp => l2F st fun x y r => K (pc + 1) L (.int (lg_cmp x y) :: r) h c
    | .dup => v1F st fun v r => v.category = 1 ∧ K (pc + 1) L (v :: v :: r) h c
    | .pop => v1F st fun v r => v.category = 1 ∧ K (pc + 1) L r h c
    | .dup2 => v1F st fun v r => v1F r fun w r2 => v.category = 1 ∧ w.category = 1 ∧ K (pc + 1) L (v :: w :: v :: w :: r2) h c
    | .goto _ => K a L st h c
    | .ifCond cc _ => i1F st fun x r => brF cc x 0 (K a L r h c) (K (pc + 3) L r h c)
    | .if_icmp cc _ => i2F st fun x y r => brF cc x y (K a L r h c) (K (pc + 3) L r h c)
    | .tableswitch d lo hi os => i1F st fun x r => tswF x lo (fun o => K (plF pc o) L r h c) os.toList ∧ ((x.toInt < lo ∨ hi < x.toInt) → K (plF pc d) L r h c)
    | .lookupswitch d ps => i1F st fun x r => lswF x d (fun o => K (plF pc o) L r h c) ps.toList
    | .getfield _ => r1F st fun p r => hK h p = (0, a, sn_fN a) ∧ (match sn_fR a b with
      | true => ∃ q, hR h p b = some q ∧ K (pc + 3) L (.ref q :: r) h c
      | false => K (pc + 3) L (.int (hG h p b) :: r) h c)
    | .putfield _ => v1F st fun v st1 => r1F st1 fun p r => hK h p = (0, a, sn_fN a) ∧ (match v with
      | .int x => sn_fR a b = false ∧ K (pc + 3) L r (setG h p b x) c
      | .ref q => sn_fR a b = true ∧ K (pc + 3) L r (setR h p b q) c
      | _ => False)
    | .iaload => irF st fun i p r => ∃ x n, hK h p = (1, x, n) ∧ vp_in i n ∧ K (pc + 1) L (.int (hG h p i.toNatClampNeg) :: r) h c
    | .caload => irF st fun i p r => ∃ n, hK h p = (2, 0, n) ∧ vp_in i n ∧ K (pc + 1) L (.int (hG h p i.toNatClampNeg) :: r) h c
    | .aaload => irF st fun i p r => ∃ ci n q, hK h p = (4, ci, n) ∧ vp_in i n ∧ hR h p i.toNatClampNeg = some q ∧ K (pc + 1) L (.ref q :: r) h c
    | .iastore => virF st fun v i p r => match v with
      | .int x => ∃ n, hK h p = (1, 0, n) ∧ vp_in i n ∧ K (pc + 1) L r (setG h p i.toNatClampNeg x) c
      | _ => False
    | .castore => virF st fun v i p r => match v with
      | .int x => ∃ n, hK h p = (2, 0, n) ∧ vp_in i n ∧ K (pc + 1) L r (setG h p i.toNatClampNeg (vp_nar .char x)) c
      | _ => False
    | .aastore => virF st fun v i p r => match v with
      | .ref q => ∃ ci n, hK h p = (4, ci, n) ∧ hK h q = (0, ci, sn_fN ci) ∧ vp_in i n ∧ K (pc + 1) L r (setR h p i.toNatClampNeg q) c
      | _ => False
    | .arraylength => r1F st fun p r => ∃ x n, hK h p = (1, x, n) ∧ K (pc + 1) L (.int (nI n) :: r) h c
    | .new _ => c.1 + 1 ≤ sn_mc m ∧ c.2 + sn_fN a ≤ sn_ms m ∧ K (pc + 3) L (.ref (hN h) :: st) (allocH h (0, a, sn_fN a)) (c.1 + 1, c.2 + sn_fN a)
    | .newarray _ => i1F st fun x r => ∃ n, x = nI n ∧ n ≤ 65536 ∧ c.1 + 1 ≤ sn_mc m ∧ c.2 + n ≤ sn_ms m ∧ K (pc + 2) L (.ref (hN h) :: r) (allocH h (a, 0, n)) (c.1 + 1, c.2 + n)
    | .anewarray _ => i1F st fun x r => ∃ n, x = nI n ∧ n ≤ 65536 ∧ c.1 + 1 ≤ sn_mc m ∧ c.2 + n ≤ sn_ms m ∧ K (pc + 3) L (.ref (hN h) :: r) (allocH h (4, a, n)) (c.1 + 1, c.2 + n)
    | .invokestatic _ => match Nat.beq a 9999 with
      | true => match st with
        | .int n :: .int d :: .ref pb :: .int s :: .ref pa :: r => ∃ s' d' n' na nb, s = nI s' ∧ d = nI d' ∧ n = nI n' ∧ s' < 65536 ∧ d' < 65536 ∧ n' < 65536 ∧ hK h pa = (1, 0, na) ∧ hK h pb = (1, 0, nb) ∧ s' + n' ≤ na ∧ d' + n' ≤ nb ∧ catsF r ≤ 8 ∧ K (pc + 3) L r (cpG h pa s' pb d' n') c
        | _ => False
      | false => match Nat.beq a 9997 with
      | true => i2F st fun x y r => catsF r ≤ 8 ∧ K (pc + 3) L (.int (if y < x then y else x) :: r) h c
      | false => match popF (sn_NA a) st [] with
        | none => False
        | some (as, r) => catsF r ≤ 8 ∧ c.1 + sn_mc a ≤ sn_mc m ∧ c.2 + sn_ms a ≤ sn_ms m ∧ C a as h (fun v h' => KA (pc + 3) L (v.toList ++ r) h' (c.1 + sn_mc a, c.2 + sn_ms a))
    | .invokespecial _ => match Nat.beq a 9998 with
      | true => r1F st fun p r => catsF r ≤ 8 ∧ K (pc + 3) L r h c
      | false => match popF (sn_NA a) st [] with
        | some (.ref p :: as, r) => catsF r ≤ 8 ∧ c.1 + sn_mc a ≤ sn_mc m ∧ c.2 + sn_ms a ≤ sn_ms m ∧ C a (.ref p :: as) h (fun v h' => KA (pc + 3) L (v.toList ++ r) h' (c.1 + sn_mc a, c.2 + sn_ms a))
        | _ => False
    | .invokevirtual _ => match popF (sn_NA a) st [] with
        | some (.ref p :: as, r) => hK h p = (0, sn_mO a, sn_fN (sn_mO a)) ∧ catsF r ≤ 8 ∧ c.1 + sn_mc a ≤ sn_mc m ∧ c.2 + sn_ms a ≤ sn_ms m ∧ C a (.ref p :: as) h (fun v h' => KA (pc + 3) L (v.toList ++ r) h' (c.1 + sn_mc a, c.2 + sn_ms a))
        | _ => False
    | .ireturn => match st with
      | [.int x] => (match sn_mR m with
        | some .int => Q (some (.int x)) h
        | some ty => narrow ty (.int x) = .int x ∧ Q (some (.int x)) h
        | none => False)
      | _ => False
    | .lreturn => match st with
      | [.long x] => sn_mR m = some .long ∧ Q (some (.long x)) h
      | _ => False
    | .areturn => match st with
      | [.ref x] => sn_mR m = some (.array .int) ∧ Q (some (.ref x)) h
      | _ => False
    | .return_ => match st with
      | [] => sn_mR m = none ∧ Q none h
      | _ => False
    | _ => False
/-- the locals of a method's entry -/
def slL : List Value → sn_L
  | [] => []
  | v :: l => some v :: (bif Nat.beq v.category 2 then none :: slL l else slL l)
def entL (m : Nat) (as : List Value) : sn_L := slL as ++ List.replicate (sn_mL m - (slL as).length) none
/-- it comes to an end of the method, with an answer and a heap of Q: the least relation that the instructions close -/
def sn_cl1 (P : Nat → Nat → sn_L → List Value → sn_H → Nat × Nat → (Option Value → sn_H → Prop) → Prop) : Prop :=
  ∀ m pc L st h c Q, semF (fun pc L st h c => P m pc L st h c Q) (fun pc L st h c => P m pc L st h c Q) (fun y as h Q' => (slL as).length ≤ sn_mL y ∧ P y 0 (entL y as) [] h (0, 0) Q') Q m pc L st h c → P m pc L st h c Q
def wpE (m pc : Nat) (L : sn_L) (st : List Value) (h : sn_H) (c : Nat × Nat) (Q : Option Value → sn_H → Prop) : Prop := ∀ P, sn_cl1 P → P m pc L st h c Q
/-- what must hold for a stretch of the code up to the cuts -/
def vcN (ct : Nat → Bool) (m : Nat) (Q : Option Value → sn_H → Prop) : Nat → Bool → Nat → sn_L → List Value → sn_H → Nat × Nat → Prop
  | 0, _, pc, L, st, h, c => wpE m pc L st h c Q
  | n + 1, b, pc, L, st, h, c => match b && ct pc with
    | true => wpE m pc L st h c Q
    | false => semF (fun pc L st h c => vcN ct m Q n true pc L st h c) (fun pc L st h c => wpE m pc L st h c Q) (fun y as h Q' => (slL as).length ≤ sn_mL y ∧ wpE y 0 (entL y as) [] h (0, 0) Q') Q m pc L st h c
end
section
/-! ===== what the machine of places says grows with what is asked; a stretch of code is enough ===== -/
theorem ldF_m {L : sn_L} {i : Nat} {k k' : Value → Prop} (h : ∀ v, k v → k' v) : ldF L i k → ldF L i k' := by
  unfold ldF; split
  · exact h _
  · exact id
theorem kF_m {a b : Nat} {k k' : Int32 → Prop} (h : ∀ v, k v → k' v) : kF a b k → kF a b k' := by
  unfold kF; split
  · exact h _
  · exact h _
theorem kF_d {a b : Nat} {k : Int32 → Prop} (h : kF a b k) : k (kI a b) := by
  cases b with
  | zero => exact h
  | succ b => exact h
theorem i1F_m {st : List Value} {k k' : Int32 → List Value → Prop} (h : ∀ x r, k x r → k' x r) : i1F st k → i1F st k' := by
  unfold i1F; split
  · exact h _ _
  · exact id
theorem i2F_m {st : List Value} {k k' : Int32 → Int32 → List Value → Prop} (h : ∀ x y r, k x y r → k' x y r) : i2F st k → i2F st k' := by
  unfold i2F; split
  · exact h _ _ _
  · exact id
theorem l2F_m {st : List Value} {k k' : Int64 → Int64 → List Value → Prop} (h : ∀ x y r, k x y r → k' x y r) : l2F st k → l2F st k' := by
  unfold l2F; split
  · exact h _ _ _
  · exact id
theorem r1F_m {st : List Value} {k k' : Nat → List Value → Prop} (h : ∀ x r, k x r → k' x r) : r1F st k → r1F st k' := by
  unfold r1F; split
  · exact h _ _
  · exact id
theorem v1F_m {st : List Value} {k k' : Value → List Value → Prop} (h : ∀ x r, k x r → k' x r) : v1F st k → v1F st k' := by
  unfold v1F; split
  · exact h _ _
  · exact id
theorem irF_m {st : List Value} {k k' : Int32 → Nat → List Value → Prop} (h : ∀ x y r, k x y r → k' x y r) : irF st k → irF st k' := by
  unfold irF; split
  · exact h _ _ _
  · exact id
theorem virF_m {st : List Value} {k k' : Value → Int32 → Nat → List Value → Prop} (h : ∀ v x y r, k v x y r → k' v x y r) : virF st k → virF st k' := by
  unfold virF; split
  · exact h _ _ _ _
  · exact id
theorem brF_m {cc : ClassFile.Cond} {x y : Int32} {t f t' f' : Prop} (h1 : t → t') (h2 : f → f') : brF cc x y t f → brF cc x y t' f' := by
  cases cc <;> exact fun H => ⟨fun q => by first | exact h1 (H.1 q) | exact h2 (H.1 q), fun q => by first | exact h2 (H.2 q) | exact h1 (H.2 q)⟩
theorem tswF_m {x : Int32} {K K' : Int → Prop} (h : ∀ o, K o → K' o) : ∀ (l : List Int) (lo : Int), tswF x lo K l → tswF x lo K' l
  | [], _, _ => trivial
  | _ :: l, lo, H => ⟨fun q => h _ (H.1 q), tswF_m h l (lo + 1) H.2⟩
theorem lswF_m {x : Int32} {d : Int} {K K' : Int → Prop} (h : ∀ o, K o → K' o) : ∀ (l : List (Int × Int)), lswF x d K l → lswF x d K' l
  | [], H => h _ H
  | _ :: l, H => ⟨fun q => h _ (H.1 q), fun q => lswF_m h l (H.2 q)⟩
set_option maxHeartbeats 4000000 in
theorem semF_m {K KA K' KA' : Nat → sn_L → List Value → sn_H → Nat × Nat → Prop} {C C' : Nat → List Value → sn_H → (Option Value → sn_H → Prop) → Prop} {Q Q' : Option Value → sn_H → Prop} {m pc : Nat} {L : sn_L} {st : List Value} {h : sn_H} {c : Nat × Nat}
    (hK1 : ∀ pc L st h c, K pc L st h c → K' pc L st h c) (hA : ∀ pc L st h c, KA pc L st h c → KA' pc L st h c)
    (hC : ∀ y as h (Q1 Q2 : Option Value → sn_H → Prop), (∀ v h, Q1 v h → Q2 v h) → C y as h Q1 → C' y as h Q2) (hQ : ∀ v h, Q v h → Q' v h) :
    semF K KA C Q m pc L st h c → semF K' KA' C' Q' m pc L st h c := by
  unfold semF
  split
  · exact id
  · rename_i i a b _
    have ld : ∀ {pc' : Nat} {i : Nat} {f : Value → Prop} {f' : Value → Prop}, (∀ v, f v → f' v) → ldF L i f → ldF L i f' := fun h => ldF_m h
    cases i with
    | iconst _ => exact kF_m (fun _ => hK1 _ _ _ _ _)
    | bipush _ => exact kF_m (fun _ => hK1 _ _ _ _ _)
    | sipush _ => exact kF_m (fun _ => hK1 _ _ _ _ _)
    | ldc _ => exact kF_m (fun _ => hK1 _ _ _ _ _)
    | ldc_w _ => exact kF_m (fun _ => hK1 _ _ _ _ _)
    | ldc2_w _ => exact hK1 _ _ _ _ _
    | iload_n _ => exact ldF_m (fun v H => by cases v <;> first | exact hK1 _ _ _ _ _ H | exact H)
    | iload _ => exact ldF_m (fun v H => by cases v <;> first | exact hK1 _ _ _ _ _ H | exact H)
    | lload_n _ => exact ldF_m (fun v H => by cases v <;> first | exact hK1 _ _ _ _ _ H | exact H)
    | lload _ => exact ldF_m (fun v H => by cases v <;> first | exact hK1 _ _ _ _ _ H | exact H)
    | aload_n _ => exact ldF_m (fun v H => by cases v <;> first | exact hK1 _ _ _ _ _ H | exact H)
    | aload _ => exact ldF_m (fun v H => by cases v <;> first | exact hK1 _ _ _ _ _ H | exact H)
    | istore_n _ => exact i1F_m (fun x r H => ⟨H.1, hK1 _ _ _ _ _ H.2⟩)
    | istore _ => exact i1F_m (fun x r H => ⟨H.1, hK1 _ _ _ _ _ H.2⟩)
    | astore_n _ => exact r1F_m (fun x r H => ⟨H.1, hK1 _ _ _ _ _ H.2⟩)
    | astore _ => exact r1F_m (fun x r H => ⟨H.1, hK1 _ _ _ _ _ H.2⟩)
    | lstore_n _ => exact v1F_m (fun v r H => by cases v <;> first | exact ⟨H.1, hK1 _ _ _ _ _ H.2⟩ | exact H)
    | lstore _ => exact v1F_m (fun v r H => by cases v <;> first | exact ⟨H.1, hK1 _ _ _ _ _ H.2⟩ | exact H)
    | iinc _ _ => exact ldF_m (fun v H => by cases v <;> first | exact ⟨H.1, kF_m (fun _ => hK1 _ _ _ _ _) H.2⟩ | exact H)
    | iadd => exact i2F_m (fun _ _ _ H => hK1 _ _ _ _ _ H)
    | isub => exact i2F_m (fun _ _ _ H => hK1 _ _ _ _ _ H)
    | imul => exact i2F_m (fun _ _ _ H => hK1 _ _ _ _ _ H)
    | irem => exact i2F_m (fun _ _ _ H => ⟨H.1, hK1 _ _ _ _ _ H.2⟩)
    | iand => exact i2F_m (fun _ _ _ H => hK1 _ _ _ _ _ H)
    | ior => exact i2F_m (fun _ _ _ H => hK1 _ _ _ _ _ H)
    | ixor => exact i2F_m (fun _ _ _ H => hK1 _ _ _ _ _ H)
    | ishl => exact i2F_m (fun _ _ _ H => hK1 _ _ _ _ _ H)
    | ishr => exact i2F_m (fun _ _ _ H => hK1 _ _ _ _ _ H)
    | iushr => exact i2F_m (fun _ _ _ H => hK1 _ _ _ _ _ H)
    | ineg => exact i1F_m (fun _ _ H => hK1 _ _ _ _ _ H)
    | i2l => exact i1F_m (fun _ _ H => hK1 _ _ _ _ _ H)
    | i2c => exact i1F_m (fun _ _ H => hK1 _ _ _ _ _ H)
    | ladd => exact l2F_m (fun _ _ _ H => hK1 _ _ _ _ _ H)
    | lmul => exact l2F_m (fun _ _ _ H => hK1 _ _ _ _ _ H)
    | lcmp => exact l2F_m (fun _ _ _ H => hK1 _ _ _ _ _ H)
    | dup => exact v1F_m (fun _ _ H => ⟨H.1, hK1 _ _ _ _ _ H.2⟩)
    | pop => exact v1F_m (fun _ _ H => ⟨H.1, hK1 _ _ _ _ _ H.2⟩)
    | dup2 => exact v1F_m (fun _ _ => v1F_m (fun _ _ H => ⟨H.1, H.2.1, hK1 _ _ _ _ _ H.2.2⟩))
    | goto _ => exact hK1 _ _ _ _ _
    | ifCond _ _ => exact i1F_m (fun _ _ => brF_m (hK1 _ _ _ _ _) (hK1 _ _ _ _ _))
    | if_icmp _ _ => exact i2F_m (fun _ _ _ => brF_m (hK1 _ _ _ _ _) (hK1 _ _ _ _ _))
    | tableswitch _ _ _ _ => exact i1F_m (fun _ _ H => ⟨tswF_m (fun _ => hK1 _ _ _ _ _) _ _ H.1, fun q => hK1 _ _ _ _ _ (H.2 q)⟩)
    | lookupswitch _ _ => exact i1F_m (fun _ _ => lswF_m (fun _ => hK1 _ _ _ _ _) _)
    | getfield _ => exact r1F_m (fun p r H => ⟨H.1, by
        have H2 := H.2
        revert H2
        cases sn_fR a b
        · exact hK1 _ _ _ _ _
        · exact fun ⟨q, e, H⟩ => ⟨q, e, hK1 _ _ _ _ _ H⟩⟩)
    | putfield _ => exact v1F_m (fun v _ => r1F_m (fun p r H => ⟨H.1, by
        have H2 := H.2
        revert H2
        cases v <;> first | exact fun H => ⟨H.1, hK1 _ _ _ _ _ H.2⟩ | exact id⟩))
    | iaload => exact irF_m (fun _ _ _ ⟨x, n, e, f, H⟩ => ⟨x, n, e, f, hK1 _ _ _ _ _ H⟩)
    | caload => exact irF_m (fun _ _ _ ⟨n, e, f, H⟩ => ⟨n, e, f, hK1 _ _ _ _ _ H⟩)
    | aaload => exact irF_m (fun _ _ _ ⟨ci, n, q, e, f, g, H⟩ => ⟨ci, n, q, e, f, g, hK1 _ _ _ _ _ H⟩)
    | iastore => exact virF_m (fun v _ _ _ => by cases v <;> first | exact fun ⟨n, e, f, H⟩ => ⟨n, e, f, hK1 _ _ _ _ _ H⟩ | exact id)
    | castore => exact virF_m (fun v _ _ _ => by cases v <;> first | exact fun ⟨n, e, f, H⟩ => ⟨n, e, f, hK1 _ _ _ _ _ H⟩ | exact id)
    | aastore => exact virF_m (fun v _ _ _ => by cases v <;> first | exact fun ⟨ci, n, e, f, g, H⟩ => ⟨ci, n, e, f, g, hK1 _ _ _ _ _ H⟩ | exact id)
    | arraylength => exact r1F_m (fun _ _ ⟨x, n, e, H⟩ => ⟨x, n, e, hK1 _ _ _ _ _ H⟩)
    | new _ => exact fun H => ⟨H.1, H.2.1, hK1 _ _ _ _ _ H.2.2⟩
    | newarray _ => exact i1F_m (fun _ _ ⟨n, e, f, g, k, H⟩ => ⟨n, e, f, g, k, hK1 _ _ _ _ _ H⟩)
    | anewarray _ => exact i1F_m (fun _ _ ⟨n, e, f, g, k, H⟩ => ⟨n, e, f, g, k, hK1 _ _ _ _ _ H⟩)
    | invokestatic _ =>
      dsimp only
      cases Nat.beq a 9999 with
      | true =>
        dsimp only
        split
        · exact fun ⟨s', d', n', na, nb, e1, e2, e3, e4, e5, e6, e7, e8, e9, e10, e11, H⟩ => ⟨s', d', n', na, nb, e1, e2, e3, e4, e5, e6, e7, e8, e9, e10, e11, hK1 _ _ _ _ _ H⟩
        · exact id
      | false =>
        dsimp only
        cases Nat.beq a 9997 with
        | true => exact i2F_m (fun _ _ _ H => ⟨H.1, hK1 _ _ _ _ _ H.2⟩)
        | false =>
        dsimp only
        split
        · exact id
        · exact fun ⟨e1, e2, e3, H⟩ => ⟨e1, e2, e3, hC _ _ _ _ _ (fun v h => hA _ _ _ _ _) H⟩
    | invokespecial _ =>
      dsimp only
      cases Nat.beq a 9998 with
      | true => exact r1F_m (fun _ _ H => ⟨H.1, hK1 _ _ _ _ _ H.2⟩)
      | false =>
        dsimp only
        split
        · exact fun ⟨e1, e2, e3, H⟩ => ⟨e1, e2, e3, hC _ _ _ _ _ (fun v h => hA _ _ _ _ _) H⟩
        · exact id
    | invokevirtual _ =>
      dsimp only
      split
      · exact fun ⟨e0, e1, e2, e3, H⟩ => ⟨e0, e1, e2, e3, hC _ _ _ _ _ (fun v h => hA _ _ _ _ _) H⟩
      · exact id
    | ireturn =>
      dsimp only
      split
      · split
        · exact hQ _ _
        · exact fun H => ⟨H.1, hQ _ _ H.2⟩
        · exact id
      · exact id
    | lreturn =>
      dsimp only
      split
      · exact fun H => ⟨H.1, hQ _ _ H.2⟩
      · exact id
    | areturn =>
      dsimp only
      split
      · exact fun H => ⟨H.1, hQ _ _ H.2⟩
      · exact id
    | return_ =>
      dsimp only
      split
      · exact fun H => ⟨H.1, hQ _ _ H.2⟩
      · exact id
    | _ => exact id
theorem wpE_m {m pc : Nat} {L : sn_L} {st : List Value} {h : sn_H} {c : Nat × Nat} {Q Q' : Option Value → sn_H → Prop} (hQ : ∀ v h, Q v h → Q' v h) (H : wpE m pc L st h c Q) : wpE m pc L st h c Q' := by
  intro P hP
  refine H (fun m pc L st h c Q => ∀ Q', (∀ v h, Q v h → Q' v h) → P m pc L st h c Q') ?_ Q' hQ
  intro m pc L st h c Q H Q' hQ
  exact hP m pc L st h c Q' (semF_m (fun _ _ _ _ _ H => H Q' hQ) (fun _ _ _ _ _ H => H Q' hQ) (fun y as h Q1 Q2 h12 H => ⟨H.1, H.2 Q2 h12⟩) hQ H)
theorem wpE_fold {m pc : Nat} {L : sn_L} {st : List Value} {h : sn_H} {c : Nat × Nat} {Q : Option Value → sn_H → Prop}
    (H : semF (fun pc L st h c => wpE m pc L st h c Q) (fun pc L st h c => wpE m pc L st h c Q) (fun y as h Q' => (slL as).length ≤ sn_mL y ∧ wpE y 0 (entL y as) [] h (0, 0) Q') Q m pc L st h c) : wpE m pc L st h c Q := by
  intro P hP
  exact hP m pc L st h c Q (semF_m (fun _ _ _ _ _ H => H P hP) (fun _ _ _ _ _ H => H P hP) (fun y as h Q1 Q2 h12 H => ⟨H.1, wpE_m h12 H.2 P hP⟩) (fun _ _ => id) H)
theorem vc_s {ct : Nat → Bool} {m : Nat} {Q : Option Value → sn_H → Prop} : ∀ (n : Nat) (b : Bool) {pc : Nat} {L : sn_L} {st : List Value} {h : sn_H} {c : Nat × Nat}, vcN ct m Q n b pc L st h c → wpE m pc L st h c Q
  | 0, _, _, _, _, _, _, H => H
  | n + 1, b, pc, L, st, h, c, H => by
    unfold vcN at H
    split at H
    · exact H
    · exact wpE_fold (semF_m (fun _ _ _ _ _ => vc_s n true) (fun _ _ _ _ _ => id) (fun y as h Q1 Q2 h12 H => ⟨H.1, wpE_m h12 H.2⟩) (fun _ _ => id) H)
end
section
/-! ===== the tables are what the methods' bytes and the words say ===== -/
def sn_cT (ci : Nat) : vw_C := (sn_nth sn_cl ci).getD ("", sn_T0, 0)
def dcB (m pc : Nat) (i : Instr) (len : Nat) : Bool := decide (decode (sn_mB m) pc = .ok (i, len))
def sn_lkB (m idx a b : Nat) : Bool := decide ((sn_mO m, idx, a, b) ∈ sn_lk.map (fun q => (q.1, q.2.1, q.2.2.1, q.2.2.2.1)))
def sn_cnB (m idx a b : Nat) : Bool := decide ((sn_mO m, idx, a, b) ∈ sn_cnl.map (fun q => (q.1, q.2.1, q.2.2.1, q.2.2.2.1)))
def sn_flB (m idx a b : Nat) : Bool := decide ((sn_mO m, idx, a, b) ∈ sn_fl.map (fun q => (q.1, q.2.1, q.2.2.1, q.2.2.2.1))) && decide (a < sn_cl.length) && decide (b < sn_fN a)
def sn_rmB (m y : Nat) : Bool := decide (sn_fr y + 1 ≤ sn_fr m) && decide (8 + (sn_mL y + 11) + sn_lo y ≤ sn_lo m) && decide (y + 1 < sn_NM)
def okB (m pc : Nat) (e : sn_E) : Bool := match e with
  | (i, a, b) => match i with
    | .iconst n => dcB m pc (.iconst n) 1 && decide (Int32.ofInt n = kI a b)
    | .bipush n => dcB m pc (.bipush n) 2 && decide ((Int8.ofInt n).toInt32 = kI a b)
    | .sipush n => dcB m pc (.sipush n) 3 && decide ((Int16.ofInt n).toInt32 = kI a b)
    | .ldc n => dcB m pc (.ldc n) 2 && sn_cnB m n a b && decide (b ≤ 1)
    | .ldc_w n => dcB m pc (.ldc_w n) 3 && sn_cnB m n a b && decide (b ≤ 1)
    | .ldc2_w n => dcB m pc (.ldc2_w n) 3 && sn_cnB m n a 2
    | .iload_n k => dcB m pc (.iload_n k) 1
    | .iload k => dcB m pc (.iload k) 2
    | .lload_n k => dcB m pc (.lload_n k) 1
    | .lload k => dcB m pc (.lload k) 2
    | .aload_n k => dcB m pc (.aload_n k) 1
    | .aload k => dcB m pc (.aload k) 2
    | .istore_n k => dcB m pc (.istore_n k) 1
    | .istore k => dcB m pc (.istore k) 2
    | .astore_n k => dcB m pc (.astore_n k) 1
    | .astore k => dcB m pc (.astore k) 2
    | .lstore_n k => dcB m pc (.lstore_n k) 1
    | .lstore k => dcB m pc (.lstore k) 2
    | .iinc k n => dcB m pc (.iinc k n) 3 && decide (Int32.ofInt n = kI a b)
    | .goto o => dcB m pc (.goto o) 3 && decide ((pc : Int) + o = (a : Int))
    | .ifCond cc o => dcB m pc (.ifCond cc o) 3 && decide ((pc : Int) + o = (a : Int))
    | .if_icmp cc o => dcB m pc (.if_icmp cc o) 3 && decide ((pc : Int) + o = (a : Int))
    | .tableswitch d lo hi os => (match decode (sn_mB m) pc with
      | .ok (j, _) => decide (j = .tableswitch d lo hi os)
      | _ => false) && decide (0 ≤ (pc : Int) + d) && os.toList.all (fun o => decide (0 ≤ (pc : Int) + o)) && decide ((os.toList.length : Int) = hi - lo + 1)
    | .lookupswitch d ps => (match decode (sn_mB m) pc with
      | .ok (j, _) => decide (j = .lookupswitch d ps)
      | _ => false) && decide (0 ≤ (pc : Int) + d) && ps.toList.all (fun o => decide (0 ≤ (pc : Int) + o.2)) && (ps.toList.zip (ps.toList.drop 1)).all (fun (a, next) => a.1 < next.1)
    | .getfield n => dcB m pc (.getfield n) 3 && sn_flB m n a b
    | .putfield n => dcB m pc (.putfield n) 3 && sn_flB m n a b && (bif sn_ff a b then decide ((sn_mY m).name = "<init>") && decide (sn_mO m = a) else true)
    | .new n => dcB m pc (.new n) 3 && decide ((sn_mO m, n, a) ∈ sn_kl.map (fun q => (q.1, q.2.1, q.2.2.1))) && decide (a < sn_cl.length)
    | .anewarray n => dcB m pc (.anewarray n) 3 && decide ((sn_mO m, n, a) ∈ sn_kl.map (fun q => (q.1, q.2.1, q.2.2.1))) && decide (a = 1)
    | .newarray t => dcB m pc (.newarray t) 2 && ((decide (t = .int) && decide (a = 1)) || (decide (t = .char) && decide (a = 2)))
    | .invokestatic n => dcB m pc (.invokestatic n) 3 && (bif Nat.beq a 9999 then decide ((sn_mO m, n) ∈ sn_al.map (fun q => (q.1, q.2.1))) && decide (1 ≤ sn_fr m) && decide (26 ≤ sn_lo m) else bif Nat.beq a 9997 then decide ((sn_mO m, n) ∈ sn_nl.map (fun q => (q.1, q.2.1))) && decide (1 ≤ sn_fr m) && decide (21 ≤ sn_lo m) else sn_lkB m n a b && decide (b ≤ 1) && sn_rmB m a && sn_st a)
    | .invokespecial n => dcB m pc (.invokespecial n) 3 && (bif Nat.beq a 9998 then decide ((sn_mO m, n) ∈ sn_ol.map (fun q => (q.1, q.2.1))) && decide (1 ≤ sn_fr m) && decide (20 ≤ sn_lo m) else sn_lkB m n a b && decide (b ≤ 1) && sn_rmB m a && !(sn_st a) && decide ((sn_mY a).name = "<init>"))
    | .invokevirtual n => dcB m pc (.invokevirtual n) 3 && sn_lkB m n a 0 && sn_rmB m a && !(sn_st a) && decide ((sn_mY a).name ≠ "<init>") && decide (sn_mO a < sn_cl.length)
    | i => dcB m pc i 1
def okM (m : Nat) : Bool := (sn_ch m).all (fun l => l.all (fun q => okB m q.1 q.2))
theorem sn_nth_eq {α : Type} : ∀ (l : List α) (i : Nat), sn_nth l i = l[i]?
  | [], i => by simp [sn_nth]
  | a :: l, 0 => rfl
  | a :: l, i + 1 => by simpa [sn_nth] using sn_nth_eq l i
theorem sn_find_mem {pc : Nat} {e : sn_E} : ∀ {l : List (Nat × sn_E)}, sn_find pc l = some e → (pc, e) ∈ l
  | [], h => by simp [sn_find] at h
  | q :: l, h => by
    unfold sn_find at h
    cases hq : Nat.beq q.1 pc with
    | true =>
      rw [hq] at h
      have h1 : q.1 = pc := Nat.eq_of_beq_eq_true hq
      have h2 : q.2 = e := Option.some.inj h
      rw [← h1, ← h2]
      exact List.mem_cons_self
    | false =>
      rw [hq] at h
      exact List.mem_cons_of_mem _ (sn_find_mem h)
theorem sn_ok1 {m pc : Nat} {e : sn_E} (ho : okM m = true) (h : sn_cd m pc = some e) : okB m pc e = true := by
  unfold sn_cd at h
  have h1 := sn_find_mem h
  cases hl : sn_nth (sn_ch m) (pc / 8) with
  | none => rw [hl] at h1; cases h1
  | some l =>
    rw [hl] at h1
    rw [sn_nth_eq] at hl
    exact List.all_eq_true.mp (List.all_eq_true.mp ho l (List.mem_of_getElem? hl)) (pc, e) h1
end
section
/-! ===== every method passes the checks ===== -/
theorem sn_okm0 : okM 0 = true := by decide +kernel
theorem sn_okm1 : okM 1 = true := by decide +kernel
theorem sn_okm2 : okM 2 = true := by decide +kernel
theorem sn_okm3 : okM 3 = true := by decide +kernel
theorem sn_okm4 : okM 4 = true := by decide +kernel
theorem sn_okm5 : okM 5 = true := by decide +kernel
theorem sn_okm6 : okM 6 = true := by decide +kernel
theorem sn_okm7 : okM 7 = true := by decide +kernel
theorem sn_okm8 : okM 8 = true := by decide +kernel
theorem sn_okm9 : okM 9 = true := by decide +kernel
theorem sn_okm10 : okM 10 = true := by decide +kernel
theorem sn_okm11 : okM 11 = true := by decide +kernel
theorem sn_okm12 : okM 12 = true := by decide +kernel
theorem sn_okm13 : okM 13 = true := by decide +kernel
theorem sn_okm14 : okM 14 = true := by decide +kernel
theorem sn_okm15 : okM 15 = true := by decide +kernel
theorem sn_okm16 : okM 16 = true := by decide +kernel
theorem sn_okm17 : okM 17 = true := by decide +kernel
theorem sn_okm18 : okM 18 = true := by decide +kernel
theorem sn_okm19 : okM 19 = true := by decide +kernel
theorem sn_okm20 : okM 20 = true := by decide +kernel
theorem sn_okm21 : okM 21 = true := by decide +kernel
theorem sn_okm22 : okM 22 = true := by decide +kernel
theorem sn_okm23 : okM 23 = true := by decide +kernel
theorem sn_okm24 : okM 24 = true := by decide +kernel
theorem sn_okm25 : okM 25 = true := by decide +kernel
theorem sn_okm26 : okM 26 = true := by decide +kernel
theorem sn_okm27 : okM 27 = true := by decide +kernel
theorem sn_okm28 : okM 28 = true := by decide +kernel
theorem sn_okm29 : okM 29 = true := by decide +kernel
theorem sn_okm30 : okM 30 = true := by decide +kernel
theorem sn_okm31 : okM 31 = true := by decide +kernel
theorem sn_okm32 : okM 32 = true := by decide +kernel
theorem sn_okm33 : okM 33 = true := by decide +kernel
theorem sn_okm34 : okM 34 = true := by decide +kernel
theorem sn_okm35 : okM 35 = true := by decide +kernel
theorem sn_okm36 : okM 36 = true := by decide +kernel
theorem sn_okm37 : okM 37 = true := by decide +kernel
theorem sn_okm38 : okM 38 = true := by decide +kernel
theorem sn_okm39 : okM 39 = true := by decide +kernel
theorem sn_okm40 : okM 40 = true := by decide +kernel
theorem sn_okm41 : okM 41 = true := by decide +kernel
theorem sn_okm42 : okM 42 = true := by decide +kernel
theorem sn_okm43 : okM 43 = true := by decide +kernel
theorem sn_okm44 : okM 44 = true := by decide +kernel
theorem sn_okm45 : okM 45 = true := by decide +kernel
theorem sn_okm46 : okM 46 = true := by decide +kernel
theorem sn_okm47 : okM 47 = true := by decide +kernel
theorem sn_okm48 : okM 48 = true := by decide +kernel
theorem sn_okm49 : okM 49 = true := by decide +kernel
theorem sn_okm50 : okM 50 = true := by decide +kernel
theorem sn_okm51 : okM 51 = true := by decide +kernel
theorem sn_okm52 : okM 52 = true := by decide +kernel
theorem sn_okm53 : okM 53 = true := by decide +kernel
theorem sn_okm54 : okM 54 = true := by decide +kernel
theorem sn_okm55 : okM 55 = true := by decide +kernel
theorem sn_okm56 : okM 56 = true := by decide +kernel
theorem sn_okm57 : okM 57 = true := by decide +kernel
theorem sn_okm58 : okM 58 = true := by decide +kernel
theorem sn_okm59 : okM 59 = true := by decide +kernel
theorem sn_okm60 : okM 60 = true := by decide +kernel
theorem sn_okm61 : okM 61 = true := by decide +kernel
theorem sn_okm62 : okM 62 = true := by decide +kernel
theorem sn_okm63 : okM 63 = true := by decide +kernel
theorem sn_okm64 : okM 64 = true := by decide +kernel
theorem sn_okm65 : okM 65 = true := by decide +kernel
theorem sn_okm66 : okM 66 = true := by decide +kernel
theorem sn_okm67 : okM 67 = true := by decide +kernel
theorem sn_okm68 : okM 68 = true := by decide +kernel
theorem sn_okm69 : okM 69 = true := by decide +kernel
theorem sn_okm70 : okM 70 = true := by decide +kernel
theorem sn_okm71 : okM 71 = true := by decide +kernel
theorem sn_okm72 : okM 72 = true := by decide +kernel
theorem sn_okm73 : okM 73 = true := by decide +kernel
theorem sn_okm74 : okM 74 = true := by decide +kernel
theorem sn_okm75 : okM 75 = true := by decide +kernel
theorem sn_okm76 : okM 76 = true := by decide +kernel
theorem sn_okm77 : okM 77 = true := by decide +kernel
theorem sn_okm78 : okM 78 = true := by decide +kernel
theorem sn_okm79 : okM 79 = true := by decide +kernel
theorem sn_okm80 : okM 80 = true := by decide +kernel
theorem sn_okm81 : okM 81 = true := by decide +kernel
theorem sn_okm82 : okM 82 = true := by decide +kernel
theorem sn_okm83 : okM 83 = true := by decide +kernel
theorem sn_okm84 : okM 84 = true := by decide +kernel
theorem sn_okm85 : okM 85 = true := by decide +kernel
theorem sn_okm86 : okM 86 = true := by decide +kernel
theorem sn_okm87 : okM 87 = true := by decide +kernel
theorem sn_okm88 : okM 88 = true := by decide +kernel
theorem sn_okm89 : okM 89 = true := by decide +kernel
theorem sn_okm90 : okM 90 = true := by decide +kernel
theorem sn_okm91 : okM 91 = true := by decide +kernel
theorem sn_okm92 : okM 92 = true := by decide +kernel
theorem sn_okm93 : okM 93 = true := by decide +kernel
theorem sn_okm94 : okM 94 = true := by decide +kernel
theorem sn_okm95 : okM 95 = true := by decide +kernel
theorem sn_okm96 : okM 96 = true := by decide +kernel
theorem sn_okm97 : okM 97 = true := by decide +kernel
theorem sn_okm98 : okM 98 = true := by decide +kernel
theorem sn_okm99 : okM 99 = true := by decide +kernel
theorem sn_okm100 : okM 100 = true := by decide +kernel
theorem sn_okm101 : okM 101 = true := by decide +kernel
theorem sn_okm102 : okM 102 = true := by decide +kernel
theorem sn_okm103 : okM 103 = true := by decide +kernel
theorem sn_okm104 : okM 104 = true := by decide +kernel
theorem sn_okm105 : okM 105 = true := by decide +kernel
theorem sn_okm106 : okM 106 = true := by decide +kernel
theorem sn_okm107 : okM 107 = true := by decide +kernel
theorem sn_okm108 : okM 108 = true := by decide +kernel
theorem sn_okm109 : okM 109 = true := by decide +kernel
theorem sn_okm110 : okM 110 = true := by decide +kernel
theorem sn_okm111 : okM 111 = true := by decide +kernel
theorem sn_okm112 : okM 112 = true := by decide +kernel
theorem sn_okm113 : okM 113 = true := by decide +kernel
theorem sn_okm114 : okM 114 = true := by decide +kernel
theorem sn_okm115 : okM 115 = true := by decide +kernel
theorem sn_okm116 : okM 116 = true := by decide +kernel
theorem sn_okm117 : okM 117 = true := by decide +kernel
theorem sn_okm118 : okM 118 = true := by decide +kernel
theorem sn_okm119 : okM 119 = true := by decide +kernel
theorem sn_okm120 : okM 120 = true := by decide +kernel
theorem sn_okm121 : okM 121 = true := by decide +kernel
theorem sn_okm122 : okM 122 = true := by decide +kernel
theorem sn_okm123 : okM 123 = true := by decide +kernel
theorem sn_okm124 : okM 124 = true := by decide +kernel
theorem sn_okm125 : okM 125 = true := by decide +kernel
theorem sn_okm126 : okM 126 = true := by decide +kernel
theorem sn_okm127 : okM 127 = true := by decide +kernel
theorem sn_okm128 : okM 128 = true := by decide +kernel
theorem sn_okm129 : okM 129 = true := by decide +kernel
theorem sn_okm130 : okM 130 = true := by decide +kernel
theorem sn_okm131 : okM 131 = true := by decide +kernel
theorem sn_okm132 : okM 132 = true := by decide +kernel
theorem sn_okm133 : okM 133 = true := by decide +kernel
theorem sn_okm134 : okM 134 = true := by decide +kernel
theorem sn_okm135 : okM 135 = true := by decide +kernel
theorem sn_okm136 : okM 136 = true := by decide +kernel
theorem sn_okm137 : okM 137 = true := by decide +kernel
theorem sn_okm138 : okM 138 = true := by decide +kernel
theorem sn_okm139 : okM 139 = true := by decide +kernel
theorem sn_okm140 : okM 140 = true := by decide +kernel
theorem sn_okm141 : okM 141 = true := by decide +kernel
theorem sn_okm142 : okM 142 = true := by decide +kernel
theorem sn_okm143 : okM 143 = true := by decide +kernel
theorem sn_okm144 : okM 144 = true := by decide +kernel
theorem sn_okm145 : okM 145 = true := by decide +kernel
theorem sn_okm146 : okM 146 = true := by decide +kernel
theorem sn_okm147 : okM 147 = true := by decide +kernel
theorem sn_okm148 : okM 148 = true := by decide +kernel
theorem sn_okm149 : okM 149 = true := by decide +kernel
theorem sn_okm150 : okM 150 = true := by decide +kernel
theorem sn_okm151 : okM 151 = true := by decide +kernel
theorem sn_okm152 : okM 152 = true := by decide +kernel
theorem sn_okm153 : okM 153 = true := by decide +kernel
theorem sn_okm154 : okM 154 = true := by decide +kernel
theorem sn_okm155 : okM 155 = true := by decide +kernel
theorem sn_okm156 : okM 156 = true := by decide +kernel
theorem sn_okm157 : okM 157 = true := by decide +kernel
theorem sn_okm158 : okM 158 = true := by decide +kernel
theorem sn_okm159 : okM 159 = true := by decide +kernel
theorem sn_okm160 : okM 160 = true := by decide +kernel
theorem sn_okm161 : okM 161 = true := by decide +kernel
theorem sn_okm162 : okM 162 = true := by decide +kernel
theorem sn_okm163 : okM 163 = true := by decide +kernel
theorem sn_okm164 : okM 164 = true := by decide +kernel
theorem sn_okm165 : okM 165 = true := by decide +kernel
theorem sn_okm166 : okM 166 = true := by decide +kernel
theorem sn_okm167 : okM 167 = true := by decide +kernel
theorem sn_okm168 : okM 168 = true := by decide +kernel
theorem sn_okm169 : okM 169 = true := by decide +kernel
theorem sn_okm170 : okM 170 = true := by decide +kernel
theorem sn_okm171 : okM 171 = true := by decide +kernel
theorem sn_okm172 : okM 172 = true := by decide +kernel
theorem sn_okm173 : okM 173 = true := by decide +kernel
theorem sn_okm174_0 : (((sn_ch 174).drop 0).take 16).all (fun l => l.all (fun q => okB 174 q.1 q.2)) = true := by decide +kernel
theorem sn_okm174_1 : (((sn_ch 174).drop 16).take 16).all (fun l => l.all (fun q => okB 174 q.1 q.2)) = true := by decide +kernel
theorem sn_okm174_2 : (((sn_ch 174).drop 32).take 16).all (fun l => l.all (fun q => okB 174 q.1 q.2)) = true := by decide +kernel
theorem sn_okm174_3 : (((sn_ch 174).drop 48).take 16).all (fun l => l.all (fun q => okB 174 q.1 q.2)) = true := by decide +kernel
theorem sn_okm174_4 : (((sn_ch 174).drop 64).take 16).all (fun l => l.all (fun q => okB 174 q.1 q.2)) = true := by decide +kernel
theorem sn_okm174_5 : (((sn_ch 174).drop 80).take 16).all (fun l => l.all (fun q => okB 174 q.1 q.2)) = true := by decide +kernel
theorem sn_okm174_6 : (((sn_ch 174).drop 96).take 5).all (fun l => l.all (fun q => okB 174 q.1 q.2)) = true := by decide +kernel
end
section
/-! ===== the words behind the tables, one ===== -/
set_option maxRecDepth 100000 in
theorem sn_mw0 : lw_tbl[sn_ic 0]? = some (.code (sn_mY 0) (sn_mB 0) (sn_mL 0) (sn_mR 0)) := rfl
set_option maxRecDepth 100000 in
theorem sn_mw1 : lw_tbl[sn_ic 1]? = some (.code (sn_mY 1) (sn_mB 1) (sn_mL 1) (sn_mR 1)) := rfl
set_option maxRecDepth 100000 in
theorem sn_mw2 : lw_tbl[sn_ic 2]? = some (.code (sn_mY 2) (sn_mB 2) (sn_mL 2) (sn_mR 2)) := rfl
set_option maxRecDepth 100000 in
theorem sn_mw3 : lw_tbl[sn_ic 3]? = some (.code (sn_mY 3) (sn_mB 3) (sn_mL 3) (sn_mR 3)) := rfl
set_option maxRecDepth 100000 in
theorem sn_mw4 : lw_tbl[sn_ic 4]? = some (.code (sn_mY 4) (sn_mB 4) (sn_mL 4) (sn_mR 4)) := rfl
set_option maxRecDepth 100000 in
theorem sn_mw5 : lw_tbl[sn_ic 5]? = some (.code (sn_mY 5) (sn_mB 5) (sn_mL 5) (sn_mR 5)) := rfl
set_option maxRecDepth 100000 in
theorem sn_mw6 : lw_tbl[sn_ic 6]? = some (.code (sn_mY 6) (sn_mB 6) (sn_mL 6) (sn_mR 6)) := rfl
set_option maxRecDepth 100000 in
theorem sn_mw7 : lw_tbl[sn_ic 7]? = some (.code (sn_mY 7) (sn_mB 7) (sn_mL 7) (sn_mR 7)) := rfl
set_option maxRecDepth 100000 in
theorem sn_mw8 : lw_tbl[sn_ic 8]? = some (.code (sn_mY 8) (sn_mB 8) (sn_mL 8) (sn_mR 8)) := rfl
set_option maxRecDepth 100000 in
theorem sn_mw9 : lw_tbl[sn_ic 9]? = some (.code (sn_mY 9) (sn_mB 9) (sn_mL 9) (sn_mR 9)) := rfl
set_option maxRecDepth 100000 in
theorem sn_mw10 : lw_tbl[sn_ic 10]? = some (.code (sn_mY 10) (sn_mB 10) (sn_mL 10) (sn_mR 10)) := rfl
set_option maxRecDepth 100000 in
theorem sn_mw11 : lw_tbl[sn_ic 11]? = some (.code (sn_mY 11) (sn_mB 11) (sn_mL 11) (sn_mR 11)) := rfl
set_option maxRecDepth 100000 in
theorem sn_mw12 : lw_tbl[sn_ic 12]? = some (.code (sn_mY 12) (sn_mB 12) (sn_mL 12) (sn_mR 12)) := rfl
set_option maxRecDepth 100000 in
theorem sn_mw13 : lw_tbl[sn_ic 13]? = some (.code (sn_mY 13) (sn_mB 13) (sn_mL 13) (sn_mR 13)) := rfl
set_option maxRecDepth 100000 in
theorem sn_mw14 : lw_tbl[sn_ic 14]? = some (.code (sn_mY 14) (sn_mB 14) (sn_mL 14) (sn_mR 14)) := rfl
set_option maxRecDepth 100000 in
theorem sn_mw15 : lw_tbl[sn_ic 15]? = some (.code (sn_mY 15) (sn_mB 15) (sn_mL 15) (sn_mR 15)) := rfl
set_option maxRecDepth 100000 in
theorem sn_mw16 : lw_tbl[sn_ic 16]? = some (.code (sn_mY 16) (sn_mB 16) (sn_mL 16) (sn_mR 16)) := rfl
set_option maxRecDepth 100000 in
theorem sn_mw17 : lw_tbl[sn_ic 17]? = some (.code (sn_mY 17) (sn_mB 17) (sn_mL 17) (sn_mR 17)) := rfl
set_option maxRecDepth 100000 in
theorem sn_mw18 : lw_tbl[sn_ic 18]? = some (.code (sn_mY 18) (sn_mB 18) (sn_mL 18) (sn_mR 18)) := rfl
set_option maxRecDepth 100000 in
theorem sn_mw19 : lw_tbl[sn_ic 19]? = some (.code (sn_mY 19) (sn_mB 19) (sn_mL 19) (sn_mR 19)) := rfl
set_option maxRecDepth 100000 in
theorem sn_mw20 : lw_tbl[sn_ic 20]? = some (.code (sn_mY 20) (sn_mB 20) (sn_mL 20) (sn_mR 20)) := rfl
set_option maxRecDepth 100000 in
theorem sn_mw21 : lw_tbl[sn_ic 21]? = some (.code (sn_mY 21) (sn_mB 21) (sn_mL 21) (sn_mR 21)) := rfl
set_option maxRecDepth 100000 in
theorem sn_mw22 : lw_tbl[sn_ic 22]? = some (.code (sn_mY 22) (sn_mB 22) (sn_mL 22) (sn_mR 22)) := rfl
set_option maxRecDepth 100000 in
theorem sn_mw23 : lw_tbl[sn_ic 23]? = some (.code (sn_mY 23) (sn_mB 23) (sn_mL 23) (sn_mR 23)) := rfl
set_option maxRecDepth 100000 in
theorem sn_mw24 : lw_tbl[sn_ic 24]? = some (.code (sn_mY 24) (sn_mB 24) (sn_mL 24) (sn_mR 24)) := rfl
set_option maxRecDepth 100000 in
theorem sn_mw25 : lw_tbl[sn_ic 25]? = some (.code (sn_mY 25) (sn_mB 25) (sn_mL 25) (sn_mR 25)) := rfl
set_option maxRecDepth 100000 in
theorem sn_mw26 : lw_tbl[sn_ic 26]? = some (.code (sn_mY 26) (sn_mB 26) (sn_mL 26) (sn_mR 26)) := rfl
set_option maxRecDepth 100000 in
theorem sn_mw27 : lw_tbl[sn_ic 27]? = some (.code (sn_mY 27) (sn_mB 27) (sn_mL 27) (sn_mR 27)) := rfl
set_option maxRecDepth 100000 in
theorem sn_mw28 : lw_tbl[sn_ic 28]? = some (.code (sn_mY 28) (sn_mB 28) (sn_mL 28) (sn_mR 28)) := rfl
set_option maxRecDepth 100000 in
theorem sn_mw29 : lw_tbl[sn_ic 29]? = some (.code (sn_mY 29) (sn_mB 29) (sn_mL 29) (sn_mR 29)) := rfl
set_option maxRecDepth 100000 in
theorem sn_mw30 : lw_tbl[sn_ic 30]? = some (.code (sn_mY 30) (sn_mB 30) (sn_mL 30) (sn_mR 30)) := rfl
set_option maxRecDepth 100000 in
theorem sn_mw31 : lw_tbl[sn_ic 31]? = some (.code (sn_mY 31) (sn_mB 31) (sn_mL 31) (sn_mR 31)) := rfl
set_option maxRecDepth 100000 in
theorem sn_mw32 : lw_tbl[sn_ic 32]? = some (.code (sn_mY 32) (sn_mB 32) (sn_mL 32) (sn_mR 32)) := rfl
set_option maxRecDepth 100000 in
theorem sn_mw33 : lw_tbl[sn_ic 33]? = some (.code (sn_mY 33) (sn_mB 33) (sn_mL 33) (sn_mR 33)) := rfl
set_option maxRecDepth 100000 in
theorem sn_mw34 : lw_tbl[sn_ic 34]? = some (.code (sn_mY 34) (sn_mB 34) (sn_mL 34) (sn_mR 34)) := rfl
set_option maxRecDepth 100000 in
theorem sn_mw35 : lw_tbl[sn_ic 35]? = some (.code (sn_mY 35) (sn_mB 35) (sn_mL 35) (sn_mR 35)) := rfl
set_option maxRecDepth 100000 in
theorem sn_mw36 : lw_tbl[sn_ic 36]? = some (.code (sn_mY 36) (sn_mB 36) (sn_mL 36) (sn_mR 36)) := rfl
set_option maxRecDepth 100000 in
theorem sn_mw37 : lw_tbl[sn_ic 37]? = some (.code (sn_mY 37) (sn_mB 37) (sn_mL 37) (sn_mR 37)) := rfl
set_option maxRecDepth 100000 in
theorem sn_mw38 : lw_tbl[sn_ic 38]? = some (.code (sn_mY 38) (sn_mB 38) (sn_mL 38) (sn_mR 38)) := rfl
set_option maxRecDepth 100000 in
theorem sn_mw39 : lw_tbl[sn_ic 39]? = some (.code (sn_mY 39) (sn_mB 39) (sn_mL 39) (sn_mR 39)) := rfl
set_option maxRecDepth 100000 in
theorem sn_mw40 : lw_tbl[sn_ic 40]? = some (.code (sn_mY 40) (sn_mB 40) (sn_mL 40) (sn_mR 40)) := rfl
set_option maxRecDepth 100000 in
theorem sn_mw41 : lw_tbl[sn_ic 41]? = some (.code (sn_mY 41) (sn_mB 41) (sn_mL 41) (sn_mR 41)) := rfl
set_option maxRecDepth 100000 in
theorem sn_mw42 : lw_tbl[sn_ic 42]? = some (.code (sn_mY 42) (sn_mB 42) (sn_mL 42) (sn_mR 42)) := rfl
set_option maxRecDepth 100000 in
theorem sn_mw43 : lw_tbl[sn_ic 43]? = some (.code (sn_mY 43) (sn_mB 43) (sn_mL 43) (sn_mR 43)) := rfl
set_option maxRecDepth 100000 in
theorem sn_mw44 : lw_tbl[sn_ic 44]? = some (.code (sn_mY 44) (sn_mB 44) (sn_mL 44) (sn_mR 44)) := rfl
set_option maxRecDepth 100000 in
theorem sn_mw45 : lw_tbl[sn_ic 45]? = some (.code (sn_mY 45) (sn_mB 45) (sn_mL 45) (sn_mR 45)) := rfl
set_option maxRecDepth 100000 in
theorem sn_mw46 : lw_tbl[sn_ic 46]? = some (.code (sn_mY 46) (sn_mB 46) (sn_mL 46) (sn_mR 46)) := rfl
set_option maxRecDepth 100000 in
theorem sn_mw47 : lw_tbl[sn_ic 47]? = some (.code (sn_mY 47) (sn_mB 47) (sn_mL 47) (sn_mR 47)) := rfl
set_option maxRecDepth 100000 in
theorem sn_mw48 : lw_tbl[sn_ic 48]? = some (.code (sn_mY 48) (sn_mB 48) (sn_mL 48) (sn_mR 48)) := rfl
set_option maxRecDepth 100000 in
theorem sn_mw49 : lw_tbl[sn_ic 49]? = some (.code (sn_mY 49) (sn_mB 49) (sn_mL 49) (sn_mR 49)) := rfl
set_option maxRecDepth 100000 in
theorem sn_mw50 : lw_tbl[sn_ic 50]? = some (.code (sn_mY 50) (sn_mB 50) (sn_mL 50) (sn_mR 50)) := rfl
set_option maxRecDepth 100000 in
theorem sn_mw51 : lw_tbl[sn_ic 51]? = some (.code (sn_mY 51) (sn_mB 51) (sn_mL 51) (sn_mR 51)) := rfl
set_option maxRecDepth 100000 in
theorem sn_mw52 : lw_tbl[sn_ic 52]? = some (.code (sn_mY 52) (sn_mB 52) (sn_mL 52) (sn_mR 52)) := rfl
set_option maxRecDepth 100000 in
theorem sn_mw53 : lw_tbl[sn_ic 53]? = some (.code (sn_mY 53) (sn_mB 53) (sn_mL 53) (sn_mR 53)) := rfl
set_option maxRecDepth 100000 in
theorem sn_mw54 : lw_tbl[sn_ic 54]? = some (.code (sn_mY 54) (sn_mB 54) (sn_mL 54) (sn_mR 54)) := rfl
set_option maxRecDepth 100000 in
theorem sn_mw55 : lw_tbl[sn_ic 55]? = some (.code (sn_mY 55) (sn_mB 55) (sn_mL 55) (sn_mR 55)) := rfl
set_option maxRecDepth 100000 in
theorem sn_mw56 : lw_tbl[sn_ic 56]? = some (.code (sn_mY 56) (sn_mB 56) (sn_mL 56) (sn_mR 56)) := rfl
set_option maxRecDepth 100000 in
theorem sn_mw57 : lw_tbl[sn_ic 57]? = some (.code (sn_mY 57) (sn_mB 57) (sn_mL 57) (sn_mR 57)) := rfl
set_option maxRecDepth 100000 in
theorem sn_mw58 : lw_tbl[sn_ic 58]? = some (.code (sn_mY 58) (sn_mB 58) (sn_mL 58) (sn_mR 58)) := rfl
set_option maxRecDepth 100000 in
theorem sn_mw59 : lw_tbl[sn_ic 59]? = some (.code (sn_mY 59) (sn_mB 59) (sn_mL 59) (sn_mR 59)) := rfl
set_option maxRecDepth 100000 in
theorem sn_mw60 : lw_tbl[sn_ic 60]? = some (.code (sn_mY 60) (sn_mB 60) (sn_mL 60) (sn_mR 60)) := rfl
set_option maxRecDepth 100000 in
theorem sn_mw61 : lw_tbl[sn_ic 61]? = some (.code (sn_mY 61) (sn_mB 61) (sn_mL 61) (sn_mR 61)) := rfl
set_option maxRecDepth 100000 in
theorem sn_mw62 : lw_tbl[sn_ic 62]? = some (.code (sn_mY 62) (sn_mB 62) (sn_mL 62) (sn_mR 62)) := rfl
set_option maxRecDepth 100000 in
theorem sn_mw63 : lw_tbl[sn_ic 63]? = some (.code (sn_mY 63) (sn_mB 63) (sn_mL 63) (sn_mR 63)) := rfl
set_option maxRecDepth 100000 in
theorem sn_mw64 : lw_tbl[sn_ic 64]? = some (.code (sn_mY 64) (sn_mB 64) (sn_mL 64) (sn_mR 64)) := rfl
set_option maxRecDepth 100000 in
theorem sn_mw65 : lw_tbl[sn_ic 65]? = some (.code (sn_mY 65) (sn_mB 65) (sn_mL 65) (sn_mR 65)) := rfl
set_option maxRecDepth 100000 in
theorem sn_mw66 : lw_tbl[sn_ic 66]? = some (.code (sn_mY 66) (sn_mB 66) (sn_mL 66) (sn_mR 66)) := rfl
set_option maxRecDepth 100000 in
theorem sn_mw67 : lw_tbl[sn_ic 67]? = some (.code (sn_mY 67) (sn_mB 67) (sn_mL 67) (sn_mR 67)) := rfl
set_option maxRecDepth 100000 in
theorem sn_mw68 : lw_tbl[sn_ic 68]? = some (.code (sn_mY 68) (sn_mB 68) (sn_mL 68) (sn_mR 68)) := rfl
set_option maxRecDepth 100000 in
theorem sn_mw69 : lw_tbl[sn_ic 69]? = some (.code (sn_mY 69) (sn_mB 69) (sn_mL 69) (sn_mR 69)) := rfl
set_option maxRecDepth 100000 in
theorem sn_mw70 : lw_tbl[sn_ic 70]? = some (.code (sn_mY 70) (sn_mB 70) (sn_mL 70) (sn_mR 70)) := rfl
set_option maxRecDepth 100000 in
theorem sn_mw71 : lw_tbl[sn_ic 71]? = some (.code (sn_mY 71) (sn_mB 71) (sn_mL 71) (sn_mR 71)) := rfl
set_option maxRecDepth 100000 in
theorem sn_mw72 : lw_tbl[sn_ic 72]? = some (.code (sn_mY 72) (sn_mB 72) (sn_mL 72) (sn_mR 72)) := rfl
set_option maxRecDepth 100000 in
theorem sn_mw73 : lw_tbl[sn_ic 73]? = some (.code (sn_mY 73) (sn_mB 73) (sn_mL 73) (sn_mR 73)) := rfl
set_option maxRecDepth 100000 in
theorem sn_mw74 : lw_tbl[sn_ic 74]? = some (.code (sn_mY 74) (sn_mB 74) (sn_mL 74) (sn_mR 74)) := rfl
set_option maxRecDepth 100000 in
theorem sn_mw75 : lw_tbl[sn_ic 75]? = some (.code (sn_mY 75) (sn_mB 75) (sn_mL 75) (sn_mR 75)) := rfl
set_option maxRecDepth 100000 in
theorem sn_mw76 : lw_tbl[sn_ic 76]? = some (.code (sn_mY 76) (sn_mB 76) (sn_mL 76) (sn_mR 76)) := rfl
set_option maxRecDepth 100000 in
theorem sn_mw77 : lw_tbl[sn_ic 77]? = some (.code (sn_mY 77) (sn_mB 77) (sn_mL 77) (sn_mR 77)) := rfl
set_option maxRecDepth 100000 in
theorem sn_mw78 : lw_tbl[sn_ic 78]? = some (.code (sn_mY 78) (sn_mB 78) (sn_mL 78) (sn_mR 78)) := rfl
set_option maxRecDepth 100000 in
theorem sn_mw79 : lw_tbl[sn_ic 79]? = some (.code (sn_mY 79) (sn_mB 79) (sn_mL 79) (sn_mR 79)) := rfl
set_option maxRecDepth 100000 in
theorem sn_mw80 : lw_tbl[sn_ic 80]? = some (.code (sn_mY 80) (sn_mB 80) (sn_mL 80) (sn_mR 80)) := rfl
set_option maxRecDepth 100000 in
theorem sn_mw81 : lw_tbl[sn_ic 81]? = some (.code (sn_mY 81) (sn_mB 81) (sn_mL 81) (sn_mR 81)) := rfl
set_option maxRecDepth 100000 in
theorem sn_mw82 : lw_tbl[sn_ic 82]? = some (.code (sn_mY 82) (sn_mB 82) (sn_mL 82) (sn_mR 82)) := rfl
set_option maxRecDepth 100000 in
theorem sn_mw83 : lw_tbl[sn_ic 83]? = some (.code (sn_mY 83) (sn_mB 83) (sn_mL 83) (sn_mR 83)) := rfl
set_option maxRecDepth 100000 in
theorem sn_mw84 : lw_tbl[sn_ic 84]? = some (.code (sn_mY 84) (sn_mB 84) (sn_mL 84) (sn_mR 84)) := rfl
set_option maxRecDepth 100000 in
theorem sn_mw85 : lw_tbl[sn_ic 85]? = some (.code (sn_mY 85) (sn_mB 85) (sn_mL 85) (sn_mR 85)) := rfl
set_option maxRecDepth 100000 in
theorem sn_mw86 : lw_tbl[sn_ic 86]? = some (.code (sn_mY 86) (sn_mB 86) (sn_mL 86) (sn_mR 86)) := rfl
set_option maxRecDepth 100000 in
theorem sn_mw87 : lw_tbl[sn_ic 87]? = some (.code (sn_mY 87) (sn_mB 87) (sn_mL 87) (sn_mR 87)) := rfl
set_option maxRecDepth 100000 in
theorem sn_mw88 : lw_tbl[sn_ic 88]? = some (.code (sn_mY 88) (sn_mB 88) (sn_mL 88) (sn_mR 88)) := rfl
set_option maxRecDepth 100000 in
theorem sn_mw89 : lw_tbl[sn_ic 89]? = some (.code (sn_mY 89) (sn_mB 89) (sn_mL 89) (sn_mR 89)) := rfl
set_option maxRecDepth 100000 in
theorem sn_mw90 : lw_tbl[sn_ic 90]? = some (.code (sn_mY 90) (sn_mB 90) (sn_mL 90) (sn_mR 90)) := rfl
set_option maxRecDepth 100000 in
theorem sn_mw91 : lw_tbl[sn_ic 91]? = some (.code (sn_mY 91) (sn_mB 91) (sn_mL 91) (sn_mR 91)) := rfl
set_option maxRecDepth 100000 in
theorem sn_mw92 : lw_tbl[sn_ic 92]? = some (.code (sn_mY 92) (sn_mB 92) (sn_mL 92) (sn_mR 92)) := rfl
set_option maxRecDepth 100000 in
theorem sn_mw93 : lw_tbl[sn_ic 93]? = some (.code (sn_mY 93) (sn_mB 93) (sn_mL 93) (sn_mR 93)) := rfl
set_option maxRecDepth 100000 in
theorem sn_mw94 : lw_tbl[sn_ic 94]? = some (.code (sn_mY 94) (sn_mB 94) (sn_mL 94) (sn_mR 94)) := rfl
set_option maxRecDepth 100000 in
theorem sn_mw95 : lw_tbl[sn_ic 95]? = some (.code (sn_mY 95) (sn_mB 95) (sn_mL 95) (sn_mR 95)) := rfl
set_option maxRecDepth 100000 in
theorem sn_mw96 : lw_tbl[sn_ic 96]? = some (.code (sn_mY 96) (sn_mB 96) (sn_mL 96) (sn_mR 96)) := rfl
set_option maxRecDepth 100000 in
theorem sn_mw97 : lw_tbl[sn_ic 97]? = some (.code (sn_mY 97) (sn_mB 97) (sn_mL 97) (sn_mR 97)) := rfl
set_option maxRecDepth 100000 in
theorem sn_mw98 : lw_tbl[sn_ic 98]? = some (.code (sn_mY 98) (sn_mB 98) (sn_mL 98) (sn_mR 98)) := rfl
set_option maxRecDepth 100000 in
theorem sn_mw99 : lw_tbl[sn_ic 99]? = some (.code (sn_mY 99) (sn_mB 99) (sn_mL 99) (sn_mR 99)) := rfl
set_option maxRecDepth 100000 in
theorem sn_mw100 : lw_tbl[sn_ic 100]? = some (.code (sn_mY 100) (sn_mB 100) (sn_mL 100) (sn_mR 100)) := rfl
set_option maxRecDepth 100000 in
theorem sn_mw101 : lw_tbl[sn_ic 101]? = some (.code (sn_mY 101) (sn_mB 101) (sn_mL 101) (sn_mR 101)) := rfl
set_option maxRecDepth 100000 in
theorem sn_mw102 : lw_tbl[sn_ic 102]? = some (.code (sn_mY 102) (sn_mB 102) (sn_mL 102) (sn_mR 102)) := rfl
set_option maxRecDepth 100000 in
theorem sn_mw103 : lw_tbl[sn_ic 103]? = some (.code (sn_mY 103) (sn_mB 103) (sn_mL 103) (sn_mR 103)) := rfl
set_option maxRecDepth 100000 in
theorem sn_mw104 : lw_tbl[sn_ic 104]? = some (.code (sn_mY 104) (sn_mB 104) (sn_mL 104) (sn_mR 104)) := rfl
set_option maxRecDepth 100000 in
theorem sn_mw105 : lw_tbl[sn_ic 105]? = some (.code (sn_mY 105) (sn_mB 105) (sn_mL 105) (sn_mR 105)) := rfl
set_option maxRecDepth 100000 in
theorem sn_mw106 : lw_tbl[sn_ic 106]? = some (.code (sn_mY 106) (sn_mB 106) (sn_mL 106) (sn_mR 106)) := rfl
set_option maxRecDepth 100000 in
theorem sn_mw107 : lw_tbl[sn_ic 107]? = some (.code (sn_mY 107) (sn_mB 107) (sn_mL 107) (sn_mR 107)) := rfl
set_option maxRecDepth 100000 in
theorem sn_mw108 : lw_tbl[sn_ic 108]? = some (.code (sn_mY 108) (sn_mB 108) (sn_mL 108) (sn_mR 108)) := rfl
set_option maxRecDepth 100000 in
theorem sn_mw109 : lw_tbl[sn_ic 109]? = some (.code (sn_mY 109) (sn_mB 109) (sn_mL 109) (sn_mR 109)) := rfl
set_option maxRecDepth 100000 in
theorem sn_mw110 : lw_tbl[sn_ic 110]? = some (.code (sn_mY 110) (sn_mB 110) (sn_mL 110) (sn_mR 110)) := rfl
set_option maxRecDepth 100000 in
theorem sn_mw111 : lw_tbl[sn_ic 111]? = some (.code (sn_mY 111) (sn_mB 111) (sn_mL 111) (sn_mR 111)) := rfl
set_option maxRecDepth 100000 in
theorem sn_mw112 : lw_tbl[sn_ic 112]? = some (.code (sn_mY 112) (sn_mB 112) (sn_mL 112) (sn_mR 112)) := rfl
set_option maxRecDepth 100000 in
theorem sn_mw113 : lw_tbl[sn_ic 113]? = some (.code (sn_mY 113) (sn_mB 113) (sn_mL 113) (sn_mR 113)) := rfl
set_option maxRecDepth 100000 in
theorem sn_mw114 : lw_tbl[sn_ic 114]? = some (.code (sn_mY 114) (sn_mB 114) (sn_mL 114) (sn_mR 114)) := rfl
set_option maxRecDepth 100000 in
theorem sn_mw115 : lw_tbl[sn_ic 115]? = some (.code (sn_mY 115) (sn_mB 115) (sn_mL 115) (sn_mR 115)) := rfl
set_option maxRecDepth 100000 in
theorem sn_mw116 : lw_tbl[sn_ic 116]? = some (.code (sn_mY 116) (sn_mB 116) (sn_mL 116) (sn_mR 116)) := rfl
set_option maxRecDepth 100000 in
theorem sn_mw117 : lw_tbl[sn_ic 117]? = some (.code (sn_mY 117) (sn_mB 117) (sn_mL 117) (sn_mR 117)) := rfl
set_option maxRecDepth 100000 in
theorem sn_mw118 : lw_tbl[sn_ic 118]? = some (.code (sn_mY 118) (sn_mB 118) (sn_mL 118) (sn_mR 118)) := rfl
set_option maxRecDepth 100000 in
theorem sn_mw119 : lw_tbl[sn_ic 119]? = some (.code (sn_mY 119) (sn_mB 119) (sn_mL 119) (sn_mR 119)) := rfl
set_option maxRecDepth 100000 in
theorem sn_mw120 : lw_tbl[sn_ic 120]? = some (.code (sn_mY 120) (sn_mB 120) (sn_mL 120) (sn_mR 120)) := rfl
set_option maxRecDepth 100000 in
theorem sn_mw121 : lw_tbl[sn_ic 121]? = some (.code (sn_mY 121) (sn_mB 121) (sn_mL 121) (sn_mR 121)) := rfl
set_option maxRecDepth 100000 in
theorem sn_mw122 : lw_tbl[sn_ic 122]? = some (.code (sn_mY 122) (sn_mB 122) (sn_mL 122) (sn_mR 122)) := rfl
set_option maxRecDepth 100000 in
theorem sn_mw123 : lw_tbl[sn_ic 123]? = some (.code (sn_mY 123) (sn_mB 123) (sn_mL 123) (sn_mR 123)) := rfl
set_option maxRecDepth 100000 in
theorem sn_mw124 : lw_tbl[sn_ic 124]? = some (.code (sn_mY 124) (sn_mB 124) (sn_mL 124) (sn_mR 124)) := rfl
set_option maxRecDepth 100000 in
theorem sn_mw125 : lw_tbl[sn_ic 125]? = some (.code (sn_mY 125) (sn_mB 125) (sn_mL 125) (sn_mR 125)) := rfl
set_option maxRecDepth 100000 in
theorem sn_mw126 : lw_tbl[sn_ic 126]? = some (.code (sn_mY 126) (sn_mB 126) (sn_mL 126) (sn_mR 126)) := rfl
set_option maxRecDepth 100000 in
theorem sn_mw127 : lw_tbl[sn_ic 127]? = some (.code (sn_mY 127) (sn_mB 127) (sn_mL 127) (sn_mR 127)) := rfl
set_option maxRecDepth 100000 in
theorem sn_mw128 : lw_tbl[sn_ic 128]? = some (.code (sn_mY 128) (sn_mB 128) (sn_mL 128) (sn_mR 128)) := rfl
set_option maxRecDepth 100000 in
theorem sn_mw129 : lw_tbl[sn_ic 129]? = some (.code (sn_mY 129) (sn_mB 129) (sn_mL 129) (sn_mR 129)) := rfl
set_option maxRecDepth 100000 in
theorem sn_mw130 : lw_tbl[sn_ic 130]? = some (.code (sn_mY 130) (sn_mB 130) (sn_mL 130) (sn_mR 130)) := rfl
set_option maxRecDepth 100000 in
theorem sn_mw131 : lw_tbl[sn_ic 131]? = some (.code (sn_mY 131) (sn_mB 131) (sn_mL 131) (sn_mR 131)) := rfl
set_option maxRecDepth 100000 in
theorem sn_mw132 : lw_tbl[sn_ic 132]? = some (.code (sn_mY 132) (sn_mB 132) (sn_mL 132) (sn_mR 132)) := rfl
set_option maxRecDepth 100000 in
theorem sn_mw133 : lw_tbl[sn_ic 133]? = some (.code (sn_mY 133) (sn_mB 133) (sn_mL 133) (sn_mR 133)) := rfl
set_option maxRecDepth 100000 in
theorem sn_mw134 : lw_tbl[sn_ic 134]? = some (.code (sn_mY 134) (sn_mB 134) (sn_mL 134) (sn_mR 134)) := rfl
set_option maxRecDepth 100000 in
theorem sn_mw135 : lw_tbl[sn_ic 135]? = some (.code (sn_mY 135) (sn_mB 135) (sn_mL 135) (sn_mR 135)) := rfl
set_option maxRecDepth 100000 in
theorem sn_mw136 : lw_tbl[sn_ic 136]? = some (.code (sn_mY 136) (sn_mB 136) (sn_mL 136) (sn_mR 136)) := rfl
set_option maxRecDepth 100000 in
theorem sn_mw137 : lw_tbl[sn_ic 137]? = some (.code (sn_mY 137) (sn_mB 137) (sn_mL 137) (sn_mR 137)) := rfl
set_option maxRecDepth 100000 in
theorem sn_mw138 : lw_tbl[sn_ic 138]? = some (.code (sn_mY 138) (sn_mB 138) (sn_mL 138) (sn_mR 138)) := rfl
set_option maxRecDepth 100000 in
theorem sn_mw139 : lw_tbl[sn_ic 139]? = some (.code (sn_mY 139) (sn_mB 139) (sn_mL 139) (sn_mR 139)) := rfl
set_option maxRecDepth 100000 in
theorem sn_mw140 : lw_tbl[sn_ic 140]? = some (.code (sn_mY 140) (sn_mB 140) (sn_mL 140) (sn_mR 140)) := rfl
set_option maxRecDepth 100000 in
theorem sn_mw141 : lw_tbl[sn_ic 141]? = some (.code (sn_mY 141) (sn_mB 141) (sn_mL 141) (sn_mR 141)) := rfl
set_option maxRecDepth 100000 in
theorem sn_mw142 : lw_tbl[sn_ic 142]? = some (.code (sn_mY 142) (sn_mB 142) (sn_mL 142) (sn_mR 142)) := rfl
set_option maxRecDepth 100000 in
theorem sn_mw143 : lw_tbl[sn_ic 143]? = some (.code (sn_mY 143) (sn_mB 143) (sn_mL 143) (sn_mR 143)) := rfl
set_option maxRecDepth 100000 in
theorem sn_mw144 : lw_tbl[sn_ic 144]? = some (.code (sn_mY 144) (sn_mB 144) (sn_mL 144) (sn_mR 144)) := rfl
set_option maxRecDepth 100000 in
theorem sn_mw145 : lw_tbl[sn_ic 145]? = some (.code (sn_mY 145) (sn_mB 145) (sn_mL 145) (sn_mR 145)) := rfl
set_option maxRecDepth 100000 in
theorem sn_mw146 : lw_tbl[sn_ic 146]? = some (.code (sn_mY 146) (sn_mB 146) (sn_mL 146) (sn_mR 146)) := rfl
set_option maxRecDepth 100000 in
theorem sn_mw147 : lw_tbl[sn_ic 147]? = some (.code (sn_mY 147) (sn_mB 147) (sn_mL 147) (sn_mR 147)) := rfl
set_option maxRecDepth 100000 in
theorem sn_mw148 : lw_tbl[sn_ic 148]? = some (.code (sn_mY 148) (sn_mB 148) (sn_mL 148) (sn_mR 148)) := rfl
set_option maxRecDepth 100000 in
theorem sn_mw149 : lw_tbl[sn_ic 149]? = some (.code (sn_mY 149) (sn_mB 149) (sn_mL 149) (sn_mR 149)) := rfl
set_option maxRecDepth 100000 in
theorem sn_mw150 : lw_tbl[sn_ic 150]? = some (.code (sn_mY 150) (sn_mB 150) (sn_mL 150) (sn_mR 150)) := rfl
set_option maxRecDepth 100000 in
theorem sn_mw151 : lw_tbl[sn_ic 151]? = some (.code (sn_mY 151) (sn_mB 151) (sn_mL 151) (sn_mR 151)) := rfl
set_option maxRecDepth 100000 in
theorem sn_mw152 : lw_tbl[sn_ic 152]? = some (.code (sn_mY 152) (sn_mB 152) (sn_mL 152) (sn_mR 152)) := rfl
set_option maxRecDepth 100000 in
theorem sn_mw153 : lw_tbl[sn_ic 153]? = some (.code (sn_mY 153) (sn_mB 153) (sn_mL 153) (sn_mR 153)) := rfl
set_option maxRecDepth 100000 in
theorem sn_mw154 : lw_tbl[sn_ic 154]? = some (.code (sn_mY 154) (sn_mB 154) (sn_mL 154) (sn_mR 154)) := rfl
set_option maxRecDepth 100000 in
theorem sn_mw155 : lw_tbl[sn_ic 155]? = some (.code (sn_mY 155) (sn_mB 155) (sn_mL 155) (sn_mR 155)) := rfl
set_option maxRecDepth 100000 in
theorem sn_mw156 : lw_tbl[sn_ic 156]? = some (.code (sn_mY 156) (sn_mB 156) (sn_mL 156) (sn_mR 156)) := rfl
set_option maxRecDepth 100000 in
theorem sn_mw157 : lw_tbl[sn_ic 157]? = some (.code (sn_mY 157) (sn_mB 157) (sn_mL 157) (sn_mR 157)) := rfl
set_option maxRecDepth 100000 in
theorem sn_mw158 : lw_tbl[sn_ic 158]? = some (.code (sn_mY 158) (sn_mB 158) (sn_mL 158) (sn_mR 158)) := rfl
set_option maxRecDepth 100000 in
theorem sn_mw159 : lw_tbl[sn_ic 159]? = some (.code (sn_mY 159) (sn_mB 159) (sn_mL 159) (sn_mR 159)) := rfl
set_option maxRecDepth 100000 in
theorem sn_mw160 : lw_tbl[sn_ic 160]? = some (.code (sn_mY 160) (sn_mB 160) (sn_mL 160) (sn_mR 160)) := rfl
set_option maxRecDepth 100000 in
theorem sn_mw161 : lw_tbl[sn_ic 161]? = some (.code (sn_mY 161) (sn_mB 161) (sn_mL 161) (sn_mR 161)) := rfl
set_option maxRecDepth 100000 in
theorem sn_mw162 : lw_tbl[sn_ic 162]? = some (.code (sn_mY 162) (sn_mB 162) (sn_mL 162) (sn_mR 162)) := rfl
set_option maxRecDepth 100000 in
theorem sn_mw163 : lw_tbl[sn_ic 163]? = some (.code (sn_mY 163) (sn_mB 163) (sn_mL 163) (sn_mR 163)) := rfl
set_option maxRecDepth 100000 in
theorem sn_mw164 : lw_tbl[sn_ic 164]? = some (.code (sn_mY 164) (sn_mB 164) (sn_mL 164) (sn_mR 164)) := rfl
set_option maxRecDepth 100000 in
theorem sn_mw165 : lw_tbl[sn_ic 165]? = some (.code (sn_mY 165) (sn_mB 165) (sn_mL 165) (sn_mR 165)) := rfl
set_option maxRecDepth 100000 in
theorem sn_mw166 : lw_tbl[sn_ic 166]? = some (.code (sn_mY 166) (sn_mB 166) (sn_mL 166) (sn_mR 166)) := rfl
set_option maxRecDepth 100000 in
theorem sn_mw167 : lw_tbl[sn_ic 167]? = some (.code (sn_mY 167) (sn_mB 167) (sn_mL 167) (sn_mR 167)) := rfl
set_option maxRecDepth 100000 in
theorem sn_mw168 : lw_tbl[sn_ic 168]? = some (.code (sn_mY 168) (sn_mB 168) (sn_mL 168) (sn_mR 168)) := rfl
set_option maxRecDepth 100000 in
theorem sn_mw169 : lw_tbl[sn_ic 169]? = some (.code (sn_mY 169) (sn_mB 169) (sn_mL 169) (sn_mR 169)) := rfl
set_option maxRecDepth 100000 in
theorem sn_mw170 : lw_tbl[sn_ic 170]? = some (.code (sn_mY 170) (sn_mB 170) (sn_mL 170) (sn_mR 170)) := rfl
set_option maxRecDepth 100000 in
theorem sn_mw171 : lw_tbl[sn_ic 171]? = some (.code (sn_mY 171) (sn_mB 171) (sn_mL 171) (sn_mR 171)) := rfl
set_option maxRecDepth 100000 in
theorem sn_mw172 : lw_tbl[sn_ic 172]? = some (.code (sn_mY 172) (sn_mB 172) (sn_mL 172) (sn_mR 172)) := rfl
set_option maxRecDepth 100000 in
theorem sn_mw173 : lw_tbl[sn_ic 173]? = some (.code (sn_mY 173) (sn_mB 173) (sn_mL 173) (sn_mR 173)) := rfl
theorem sn_mwall : ∀ y, y < 174 → lw_tbl[sn_ic y]? = some (.code (sn_mY y) (sn_mB y) (sn_mL y) (sn_mR y)) := lt_s (lt_s (lt_s (lt_s (lt_s (lt_s (lt_s (lt_s (lt_s (lt_s (lt_s (lt_s (lt_s (lt_s (lt_s (lt_s (lt_s (lt_s (lt_s (lt_s (lt_s (lt_s (lt_s (lt_s (lt_s (lt_s (lt_s (lt_s (lt_s (lt_s (lt_s (lt_s (lt_s (lt_s (lt_s (lt_s (lt_s (lt_s (lt_s (lt_s (lt_s (lt_s (lt_s (lt_s (lt_s (lt_s (lt_s (lt_s (lt_s (lt_s (lt_s (lt_s (lt_s (lt_s (lt_s (lt_s (lt_s (lt_s (lt_s (lt_s (lt_s (lt_s (lt_s (lt_s (lt_s (lt_s (lt_s (lt_s (lt_s (lt_s (lt_s (lt_s (lt_s (lt_s (lt_s (lt_s (lt_s (lt_s (lt_s (lt_s (lt_s (lt_s (lt_s (lt_s (lt_s (lt_s (lt_s (lt_s (lt_s (lt_s (lt_s (lt_s (lt_s (lt_s (lt_s (lt_s (lt_s (lt_s (lt_s (lt_s (lt_s (lt_s (lt_s (lt_s (lt_s (lt_s (lt_s (lt_s (lt_s (lt_s (lt_s (lt_s (lt_s (lt_s (lt_s (lt_s (lt_s (lt_s (lt_s (lt_s (lt_s (lt_s (lt_s (lt_s (lt_s (lt_s (lt_s (lt_s (lt_s (lt_s (lt_s (lt_s (lt_s (lt_s (lt_s (lt_s (lt_s (lt_s (lt_s (lt_s (lt_s (lt_s (lt_s (lt_s (lt_s (lt_s (lt_s (lt_s (lt_s (lt_s (lt_s (lt_s (lt_s (lt_s (lt_s (lt_s (lt_s (lt_s (lt_s (lt_s (lt_s (lt_s (lt_s (lt_s (lt_s (lt_s (lt_s (lt_s (lt_s (lt_s (lt_s (lt_s (lt_s (lt_s (lt_0) sn_mw0) sn_mw1) sn_mw2) sn_mw3) sn_mw4) sn_mw5) sn_mw6) sn_mw7) sn_mw8) sn_mw9) sn_mw10) sn_mw11) sn_mw12) sn_mw13) sn_mw14) sn_mw15) sn_mw16) sn_mw17) sn_mw18) sn_mw19) sn_mw20) sn_mw21) sn_mw22) sn_mw23) sn_mw24) sn_mw25) sn_mw26) sn_mw27) sn_mw28) sn_mw29) sn_mw30) sn_mw31) sn_mw32) sn_mw33) sn_mw34) sn_mw35) sn_mw36) sn_mw37) sn_mw38) sn_mw39) sn_mw40) sn_mw41) sn_mw42) sn_mw43) sn_mw44) sn_mw45) sn_mw46) sn_mw47) sn_mw48) sn_mw49) sn_mw50) sn_mw51) sn_mw52) sn_mw53) sn_mw54) sn_mw55) sn_mw56) sn_mw57) sn_mw58) sn_mw59) sn_mw60) sn_mw61) sn_mw62) sn_mw63) sn_mw64) sn_mw65) sn_mw66) sn_mw67) sn_mw68) sn_mw69) sn_mw70) sn_mw71) sn_mw72) sn_mw73) sn_mw74) sn_mw75) sn_mw76) sn_mw77) sn_mw78) sn_mw79) sn_mw80) sn_mw81) sn_mw82) sn_mw83) sn_mw84) sn_mw85) sn_mw86) sn_mw87) sn_mw88) sn_mw89) sn_mw90) sn_mw91) sn_mw92) sn_mw93) sn_mw94) sn_mw95) sn_mw96) sn_mw97) sn_mw98) sn_mw99) sn_mw100) sn_mw101) sn_mw102) sn_mw103) sn_mw104) sn_mw105) sn_mw106) sn_mw107) sn_mw108) sn_mw109) sn_mw110) sn_mw111) sn_mw112) sn_mw113) sn_mw114) sn_mw115) sn_mw116) sn_mw117) sn_mw118) sn_mw119) sn_mw120) sn_mw121) sn_mw122) sn_mw123) sn_mw124) sn_mw125) sn_mw126) sn_mw127) sn_mw128) sn_mw129) sn_mw130) sn_mw131) sn_mw132) sn_mw133) sn_mw134) sn_mw135) sn_mw136) sn_mw137) sn_mw138) sn_mw139) sn_mw140) sn_mw141) sn_mw142) sn_mw143) sn_mw144) sn_mw145) sn_mw146) sn_mw147) sn_mw148) sn_mw149) sn_mw150) sn_mw151) sn_mw152) sn_mw153) sn_mw154) sn_mw155) sn_mw156) sn_mw157) sn_mw158) sn_mw159) sn_mw160) sn_mw161) sn_mw162) sn_mw163) sn_mw164) sn_mw165) sn_mw166) sn_mw167) sn_mw168) sn_mw169) sn_mw170) sn_mw171) sn_mw172) sn_mw173
theorem sn_lk_ok : ∀ q ∈ sn_lk, lw_tbl[q.2.2.2.2]? = some (bif Nat.beq q.2.2.2.1 1 then .methodLinkNest (sn_oN q.1) q.2.1 (sn_mY q.2.2.1) "SnapshotRings" else .methodLink (sn_oN q.1) q.2.1 (sn_mY q.2.2.1)) := by decide +kernel
theorem sn_fl_ok : ∀ q ∈ sn_fl, lw_tbl[q.2.2.2.2]? = some (.fieldLink (sn_oN q.1) q.2.1 (sn_cT q.2.2.1).1 ((sn_cT q.2.2.1).2.1 q.2.2.2.1).2.1 ((sn_cT q.2.2.1).2.1 q.2.2.2.1).2.2.1) := by decide +kernel
theorem sn_in1_a : ∀ y, y < 174 → lw_tbl[sn_in y]? = some (.initialized (sn_mY y).cls) := by decide +kernel
theorem sn_in2_a : ∀ y, y < 174 → (sn_mY y).cls = sn_oN (sn_mO y) := by decide +kernel
theorem sn_in3_a : ∀ y, y < 174 → ((sn_mY y).cls ≠ "java/lang/invoke/MethodHandle" ∧ (sn_mY y).cls ≠ "java/lang/invoke/VarHandle") := by decide +kernel
theorem sn_in4_a : ∀ y, y < 174 → Jvm.plainName (sn_mY y).cls = true := by decide +kernel
theorem sn_in5_a : ∀ y, y < 174 → (parseMethodDescriptor (sn_mY y).desc).map (fun d => d.parameters.length) = some (bif sn_st y then sn_NA y else sn_NA y - 1) := by decide +kernel
theorem sn_in6_a : ∀ y, y < 174 → (sn_st y = false → 1 ≤ sn_NA y) := by decide +kernel
theorem sn_in7_a : ∀ y, y < 174 → ((sn_mY y).name = "<init>" → sn_mR y = none) := by decide +kernel
theorem sn_ii_a : ∀ y, y < 174 → lw_tbl[sn_ii y]? = some (bif sn_st y then .static (sn_mY y) else .instanceMethod (sn_mY y)) := by decide +kernel
theorem sn_is_a : ∀ y, y < 174 → (sn_st y = false → (sn_mY y).name ≠ "<init>" → lw_tbl[sn_is y]? = some (.selects (sn_mY y).cls (sn_mY y) (sn_mY y))) := by decide +kernel
end
section
/-! ===== the words behind the tables, two ===== -/
theorem sn_all_split {α : Type} (l : List α) (f : α → Bool) (k : Nat) (h1 : (l.take k).all f = true) (h2 : (l.drop k).all f = true) : l.all f = true := by
  rw [← List.take_append_drop k l, List.all_append, h1, h2]; rfl
theorem sn_okm174 : okM 174 = true := by
  unfold okM
  refine sn_all_split _ _ 16 (by simpa [List.drop_drop] using sn_okm174_0) ?_
  refine sn_all_split _ _ 16 (by simpa [List.drop_drop] using sn_okm174_1) ?_
  rw [List.drop_drop]
  refine sn_all_split _ _ 16 (by simpa [List.drop_drop] using sn_okm174_2) ?_
  rw [List.drop_drop]
  refine sn_all_split _ _ 16 (by simpa [List.drop_drop] using sn_okm174_3) ?_
  rw [List.drop_drop]
  refine sn_all_split _ _ 16 (by simpa [List.drop_drop] using sn_okm174_4) ?_
  rw [List.drop_drop]
  refine sn_all_split _ _ 16 (by simpa [List.drop_drop] using sn_okm174_5) ?_
  rw [List.drop_drop]
  have h := sn_okm174_6
  rw [List.take_of_length_le (by decide +kernel)] at h
  exact h
theorem sn_okall : ∀ m, m < 175 → okM m = true := lt_s (lt_s (lt_s (lt_s (lt_s (lt_s (lt_s (lt_s (lt_s (lt_s (lt_s (lt_s (lt_s (lt_s (lt_s (lt_s (lt_s (lt_s (lt_s (lt_s (lt_s (lt_s (lt_s (lt_s (lt_s (lt_s (lt_s (lt_s (lt_s (lt_s (lt_s (lt_s (lt_s (lt_s (lt_s (lt_s (lt_s (lt_s (lt_s (lt_s (lt_s (lt_s (lt_s (lt_s (lt_s (lt_s (lt_s (lt_s (lt_s (lt_s (lt_s (lt_s (lt_s (lt_s (lt_s (lt_s (lt_s (lt_s (lt_s (lt_s (lt_s (lt_s (lt_s (lt_s (lt_s (lt_s (lt_s (lt_s (lt_s (lt_s (lt_s (lt_s (lt_s (lt_s (lt_s (lt_s (lt_s (lt_s (lt_s (lt_s (lt_s (lt_s (lt_s (lt_s (lt_s (lt_s (lt_s (lt_s (lt_s (lt_s (lt_s (lt_s (lt_s (lt_s (lt_s (lt_s (lt_s (lt_s (lt_s (lt_s (lt_s (lt_s (lt_s (lt_s (lt_s (lt_s (lt_s (lt_s (lt_s (lt_s (lt_s (lt_s (lt_s (lt_s (lt_s (lt_s (lt_s (lt_s (lt_s (lt_s (lt_s (lt_s (lt_s (lt_s (lt_s (lt_s (lt_s (lt_s (lt_s (lt_s (lt_s (lt_s (lt_s (lt_s (lt_s (lt_s (lt_s (lt_s (lt_s (lt_s (lt_s (lt_s (lt_s (lt_s (lt_s (lt_s (lt_s (lt_s (lt_s (lt_s (lt_s (lt_s (lt_s (lt_s (lt_s (lt_s (lt_s (lt_s (lt_s (lt_s (lt_s (lt_s (lt_s (lt_s (lt_s (lt_s (lt_s (lt_s (lt_s (lt_s (lt_s (lt_s (lt_s (lt_s (lt_s (lt_0) sn_okm0) sn_okm1) sn_okm2) sn_okm3) sn_okm4) sn_okm5) sn_okm6) sn_okm7) sn_okm8) sn_okm9) sn_okm10) sn_okm11) sn_okm12) sn_okm13) sn_okm14) sn_okm15) sn_okm16) sn_okm17) sn_okm18) sn_okm19) sn_okm20) sn_okm21) sn_okm22) sn_okm23) sn_okm24) sn_okm25) sn_okm26) sn_okm27) sn_okm28) sn_okm29) sn_okm30) sn_okm31) sn_okm32) sn_okm33) sn_okm34) sn_okm35) sn_okm36) sn_okm37) sn_okm38) sn_okm39) sn_okm40) sn_okm41) sn_okm42) sn_okm43) sn_okm44) sn_okm45) sn_okm46) sn_okm47) sn_okm48) sn_okm49) sn_okm50) sn_okm51) sn_okm52) sn_okm53) sn_okm54) sn_okm55) sn_okm56) sn_okm57) sn_okm58) sn_okm59) sn_okm60) sn_okm61) sn_okm62) sn_okm63) sn_okm64) sn_okm65) sn_okm66) sn_okm67) sn_okm68) sn_okm69) sn_okm70) sn_okm71) sn_okm72) sn_okm73) sn_okm74) sn_okm75) sn_okm76) sn_okm77) sn_okm78) sn_okm79) sn_okm80) sn_okm81) sn_okm82) sn_okm83) sn_okm84) sn_okm85) sn_okm86) sn_okm87) sn_okm88) sn_okm89) sn_okm90) sn_okm91) sn_okm92) sn_okm93) sn_okm94) sn_okm95) sn_okm96) sn_okm97) sn_okm98) sn_okm99) sn_okm100) sn_okm101) sn_okm102) sn_okm103) sn_okm104) sn_okm105) sn_okm106) sn_okm107) sn_okm108) sn_okm109) sn_okm110) sn_okm111) sn_okm112) sn_okm113) sn_okm114) sn_okm115) sn_okm116) sn_okm117) sn_okm118) sn_okm119) sn_okm120) sn_okm121) sn_okm122) sn_okm123) sn_okm124) sn_okm125) sn_okm126) sn_okm127) sn_okm128) sn_okm129) sn_okm130) sn_okm131) sn_okm132) sn_okm133) sn_okm134) sn_okm135) sn_okm136) sn_okm137) sn_okm138) sn_okm139) sn_okm140) sn_okm141) sn_okm142) sn_okm143) sn_okm144) sn_okm145) sn_okm146) sn_okm147) sn_okm148) sn_okm149) sn_okm150) sn_okm151) sn_okm152) sn_okm153) sn_okm154) sn_okm155) sn_okm156) sn_okm157) sn_okm158) sn_okm159) sn_okm160) sn_okm161) sn_okm162) sn_okm163) sn_okm164) sn_okm165) sn_okm166) sn_okm167) sn_okm168) sn_okm169) sn_okm170) sn_okm171) sn_okm172) sn_okm173) sn_okm174
set_option maxRecDepth 100000 in
theorem sn_ok {m pc : Nat} {e : sn_E} (h : sn_cd m pc = some e) : okB m pc e = true := by
  by_cases hm : m < sn_NM
  · exact sn_ok1 (sn_okall m hm) h
  · exfalso
    unfold sn_cd sn_ch at h
    have h1 : sn_nth sn_chs m = none := by
      rw [sn_nth_eq, List.getElem?_eq_none]
      exact Nat.le_trans (show sn_chs.length ≤ sn_NM from Nat.le_of_ble_eq_true rfl) (Nat.not_lt.mp hm)
    rw [h1] at h
    simp [sn_nth, sn_find] at h
theorem sn_cn_ok : ∀ q ∈ sn_cnl, lw_tbl[q.2.2.2.2]? = some (bif Nat.beq q.2.2.2.1 2 then .constantLong (sn_oN q.1) q.2.1 (lN q.2.2.1) else .constant (sn_oN q.1) q.2.1 (kI q.2.2.1 q.2.2.2.1)) := by decide +kernel
theorem sn_kl_ok : ∀ q ∈ sn_kl, lw_tbl[q.2.2.2]? = some (.classLink (sn_oN q.1) q.2.1 (sn_oN q.2.2.1)) := by decide +kernel
theorem sn_al_ok : ∀ q ∈ sn_al, lw_tbl[q.2.2]? = some (.methodLink (sn_oN q.1) q.2.1 arraycopyName) := by decide +kernel
theorem sn_ac_ok : lw_tbl[sn_ac.1]? = some (.static arraycopyName) ∧ lw_tbl[sn_ac.2.1]? = some (.native arraycopyName) ∧ lw_tbl[sn_ac.2.2]? = some (.initialized "java/lang/System") := by decide +kernel
theorem sn_ol_ok : ∀ q ∈ sn_ol, lw_tbl[q.2.2]? = some (.methodLink (sn_oN q.1) q.2.1 objectInit) := by decide +kernel
theorem sn_oc_ok : lw_tbl[sn_oc.1]? = some (.instanceMethod objectInit) ∧ lw_tbl[sn_oc.2]? = some (.code objectInit ⟨#[0xb1]⟩ 1 none) := by decide +kernel
theorem sn_nl_ok : ∀ q ∈ sn_nl, lw_tbl[q.2.2]? = some (.methodLink (sn_oN q.1) q.2.1 Lib.Math.min.name) := by decide +kernel
theorem sn_nc_ok : lw_tbl[sn_nc.1]? = some (.static Lib.Math.min.name) ∧ lw_tbl[sn_nc.2.1]? = some (.initialized "java/lang/Math") ∧ lw_tbl[sn_nc.2.2]? = some (.code Lib.Math.min.name Lib.Math.min.code 2 (some .int)) := by decide +kernel
theorem sn_ki_ok : ∀ ci, ci < sn_cl.length → lw_tbl[((sn_nth sn_ki ci).getD (0, 0)).1]? = some (.instantiable (sn_oN ci) (sn_fN ci)) ∧ lw_tbl[((sn_nth sn_ki ci).getD (0, 0)).2]? = some (.initialized (sn_oN ci)) := by decide +kernel
theorem sn_ar_ok : lw_tbl[sn_ar.1]? = some (.arrayClass .int) ∧ lw_tbl[sn_ar.2.1]? = some (.arrayClass .char) ∧ lw_tbl[sn_ar.2.2]? = some (.arrayOver (.object (sn_oN 1))) := by decide +kernel
theorem sn_meth {y : Nat} (hy : y + 1 < sn_NM) : lw_tbl[sn_in y]? = some (.initialized (sn_mY y).cls) ∧ (sn_mY y).cls = sn_oN (sn_mO y) ∧ ((sn_mY y).cls ≠ "java/lang/invoke/MethodHandle" ∧ (sn_mY y).cls ≠ "java/lang/invoke/VarHandle") ∧ Jvm.plainName (sn_mY y).cls = true ∧ (parseMethodDescriptor (sn_mY y).desc).map (fun d => d.parameters.length) = some (bif sn_st y then sn_NA y else sn_NA y - 1) ∧ (sn_st y = false → 1 ≤ sn_NA y) ∧ ((sn_mY y).name = "<init>" → sn_mR y = none) ∧ lw_tbl[sn_ii y]? = some (bif sn_st y then .static (sn_mY y) else .instanceMethod (sn_mY y)) ∧ (sn_st y = false → (sn_mY y).name ≠ "<init>" → lw_tbl[sn_is y]? = some (.selects (sn_mY y).cls (sn_mY y) (sn_mY y))) ∧ lw_tbl[sn_ic y]? = some (.code (sn_mY y) (sn_mB y) (sn_mL y) (sn_mR y)) := ⟨sn_in1_a y (Nat.lt_of_succ_lt_succ hy), sn_in2_a y (Nat.lt_of_succ_lt_succ hy), sn_in3_a y (Nat.lt_of_succ_lt_succ hy), sn_in4_a y (Nat.lt_of_succ_lt_succ hy), sn_in5_a y (Nat.lt_of_succ_lt_succ hy), sn_in6_a y (Nat.lt_of_succ_lt_succ hy), sn_in7_a y (Nat.lt_of_succ_lt_succ hy), sn_ii_a y (Nat.lt_of_succ_lt_succ hy), sn_is_a y (Nat.lt_of_succ_lt_succ hy), sn_mwall y (Nat.lt_of_succ_lt_succ hy)⟩
def sn_tyc (ci : Nat) : Nat → FieldType := match ci with
  | 0 => sn_ty0
  | 1 => sn_ty1
  | 2 => sn_ty2
  | 3 => sn_ty3
  | 4 => sn_ty4
  | _ => sn_ty5
def sn_clsP (ci : Nat) : Prop := sn_cl[ci]? = some (sn_cT ci) ∧ (sn_cT ci).1 = sn_oN ci ∧ (sn_cT ci).2.2 = sn_fN ci ∧ (∀ k, k < sn_fN ci → lw_tbl[((sn_nth sn_lyl ci).getD []).getD k 0]? = some (u_lay (sn_cT ci).1 (sn_cT ci).2.1 k)) ∧ (∀ k, k < sn_fN ci → parseFieldDescriptor ((sn_cT ci).2.1 k).2.2.1 = some (sn_tyc ci k)) ∧ (∀ k, k < sn_fN ci → ((sn_cT ci).2.1 k).1 = (sn_cT ci).1) ∧ (∀ k, k < sn_fN ci → ((sn_cT ci).2.1 k).2.2.2 = sn_ff ci k) ∧ (∀ k, k < sn_fN ci → sn_fR ci k = true → refKind (sn_tyc ci k) = true ∧ defaultValue (sn_tyc ci k) = .null ∧ fits (sn_tyc ci k) (.ref 0) = true) ∧ (∀ k, k < sn_fN ci → sn_fR ci k = false → sn_tyc ci k = .int) ∧ (∀ a, a < sn_fN ci → ∀ b, b < sn_fN ci → a ≠ b → ((sn_cT ci).2.1 a).2.1 ≠ ((sn_cT ci).2.1 b).2.1)
theorem sn_cls0 : sn_clsP 0 := ⟨rfl, rfl, rfl, by decide +kernel, by decide +kernel, by decide +kernel, by decide +kernel, by decide +kernel, by decide +kernel, by decide +kernel⟩
theorem sn_cls1 : sn_clsP 1 := ⟨rfl, rfl, rfl, by decide +kernel, by decide +kernel, by decide +kernel, by decide +kernel, by decide +kernel, by decide +kernel, by decide +kernel⟩
theorem sn_cls2 : sn_clsP 2 := ⟨rfl, rfl, rfl, by decide +kernel, by decide +kernel, by decide +kernel, by decide +kernel, by decide +kernel, by decide +kernel, by decide +kernel⟩
theorem sn_cls3 : sn_clsP 3 := ⟨rfl, rfl, rfl, by decide +kernel, by decide +kernel, by decide +kernel, by decide +kernel, by decide +kernel, by decide +kernel, by decide +kernel⟩
theorem sn_cls4 : sn_clsP 4 := ⟨rfl, rfl, rfl, by decide +kernel, by decide +kernel, by decide +kernel, by decide +kernel, by decide +kernel, by decide +kernel, by decide +kernel⟩
theorem sn_cls5 : sn_clsP 5 := ⟨rfl, rfl, rfl, by decide +kernel, by decide +kernel, by decide +kernel, by decide +kernel, by decide +kernel, by decide +kernel, by decide +kernel⟩
theorem sn_cls : ∀ ci, ci < sn_cl.length → sn_clsP ci := by
  show ∀ ci, ci < 6 → sn_clsP ci
  exact lt_s (lt_s (lt_s (lt_s (lt_s (lt_s (lt_0) sn_cls0) sn_cls1) sn_cls2) sn_cls3) sn_cls4) sn_cls5
end
section
/-! ===== the world of the machine of places on the real heap: place k lies at the address base + k; the script is the place 0, at the address b ===== -/
def sn_ad (b base k : Nat) : Nat := if k = 0 then b else base + k
def sn_cv (b base : Nat) : Value → Value
  | .ref k => .ref (sn_ad b base k)
  | v => v
def sn_fv (b base : Nat) (h : sn_H) (p ci k : Nat) : Value := match sn_fR ci k with
  | true => (match hR h p k with
    | some q => .ref (sn_ad b base q)
    | none => .null)
  | false => .int (hG h p k)
def sn_cell (b base : Nat) (cs : Nat → ClassId) (h : sn_H) (p : Nat) : va_E := match hK h p with
  | (0, ci, n) => .inr (ci, (List.range n).map (sn_fv b base h p ci))
  | (4, _, n) => .inl (cs 4, n, .inr (.inr (.inr (.inr (fun i => (hR h p i).map (sn_ad b base))))))
  | (t, _, n) => .inl (cs t, n, .inl (hG h p))
def sn_ws (b base : Nat) (cs : Nat → ClassId) (h : sn_H) : va_W := (List.range (hN h - 1)).map (fun j => (base + (j + 1), sn_cell b base cs h (j + 1)))
def sn_tys (cs : Nat → ClassId) : List (ClassId × FieldType) := [(cs 1, .int), (cs 2, .char), (cs 4, .object (sn_oN 1))]
def sn_as (b base : Nat) : Nat → sn_L → List (Nat × Value)
  | _, [] => []
  | i, none :: l => sn_as b base (i + 1) l
  | i, some v :: l => (i, sn_cv b base v) :: sn_as b base (i + 1) l
theorem sn_ws_len {b base : Nat} {cs : Nat → ClassId} {h : sn_H} : (sn_ws b base cs h).length = hN h - 1 := by simp [sn_ws]
theorem sn_ws_get {b base p : Nat} {cs : Nat → ClassId} {h : sn_H} (hp : 0 < p ∧ p < hN h) : (sn_ws b base cs h)[p - 1]? = some (base + p, sn_cell b base cs h p) := by
  have h1 : p - 1 < hN h - 1 := by omega
  have h2 : p - 1 + 1 = p := by omega
  simp [sn_ws, List.getElem?_map, List.getElem?_range h1, h2]
theorem sn_ws_inv {b base k : Nat} {cs : Nat → ClassId} {h : sn_H} {q : Nat × va_E} (hq : (sn_ws b base cs h)[k]? = some q) : (0 < k + 1 ∧ k + 1 < hN h) ∧ q = (base + (k + 1), sn_cell b base cs h (k + 1)) := by
  have hl : k < (sn_ws b base cs h).length := (List.getElem?_eq_some_iff.mp hq).1
  rw [sn_ws_len] at hl
  have hl' : 0 < k + 1 ∧ k + 1 < hN h := by omega
  have := sn_ws_get (b := b) (base := base) (cs := cs) hl'
  rw [Nat.add_sub_cancel, hq] at this
  exact ⟨hl', Option.some.inj this⟩
theorem sn_ws_D {b base : Nat} {cs : Nat → ClassId} {h : sn_H} : va_D (fun q => base < q) (sn_ws b base cs h) := by
  refine ⟨fun i j p q hi hj hpq => ?_, fun k q hq => ?_⟩
  · obtain ⟨-, rfl⟩ := sn_ws_inv hi
    obtain ⟨-, rfl⟩ := sn_ws_inv hj
    dsimp only at hpq
    omega
  · obtain ⟨-, rfl⟩ := sn_ws_inv hq
    dsimp only
    omega
/-- the heap holds the places -/
def sn_Wd (b base Ls : Nat) (xs : Nat → Int32) (D : va_G) (cs : Nat → ClassId) (h : sn_H) (H : Heap) : Prop :=
  H.size = base + hN h ∧ 1 ≤ hN h ∧ va_P D sn_cl (sn_ws b base cs h) H ∧ (∀ p, (hN h ≤ p → (hK h p).1 = 9) ∧ ((hK h p).1 = 4 → (hK h p).2.1 = 1)) ∧ hK h 0 = (1, 1, Ls) ∧ ∀ j, j < Ls → hG h 0 j = xs j
/-- what the tables say -/
def sn_Ks (D : va_G) (cs : Nat → ClassId) (U : State) : Prop := va_K D sn_cl (sn_tys cs) U ∧ va_AO (sn_oN 1) U ∧ ∀ q ∈ sn_lk, q.2.2.2.1 = 1 → va_Nw (.methodLinkNest (sn_oN q.1) q.2.1 (sn_mY q.2.2.1) "SnapshotRings") U
theorem sn_Ks.warm {D : va_G} {cs : Nat → ClassId} {s U : State} (hW : s.WarmedH U.vm) (h : sn_Ks D cs s) : sn_Ks D cs U :=
  ⟨va_K.moved hW.alike h.1, va_AO.moved hW.alike h.2.1, fun q hq h1 => va_Nw.warmM hW (h.2.2 q hq h1)⟩
theorem sn_Ks.same {D : va_G} {cs : Nat → ClassId} {s U : State} (hv : s.vm = U.vm) (h : sn_Ks D cs s) : sn_Ks D cs U :=
  ⟨va_K.moved (by rw [hv]; exact Vm.Alike.refl U.vm) h.1, va_AO.moved (by rw [hv]; exact Vm.Alike.refl U.vm) h.2.1, fun q hq h1 => va_Nw.same rfl hv (h.2.2 q hq h1)⟩
theorem sn_lt {b base Ls : Nat} {xs : Nat → Int32} {D : va_G} {cs : Nat → ClassId} {h : sn_H} {H : Heap} (hw : sn_Wd b base Ls xs D cs h H) {p t x n : Nat} (hk : hK h p = (t, x, n)) (ht : t < 9) (hx : ¬ (t = 1 ∧ x = 1)) : (0 < p ∧ p < hN h) ∧ sn_ad b base p = base + p := by
  obtain ⟨-, -, -, h9, hs, -⟩ := hw
  have hne : p ≠ 0 := by
    intro e
    rw [e, hs] at hk
    exact hx (by simp at hk; exact ⟨hk.1.symm, hk.2.1.symm⟩)
  refine ⟨⟨Nat.pos_of_ne_zero hne, ?_⟩, by unfold sn_ad; rw [if_neg hne]⟩
  rcases Nat.lt_or_ge p (hN h) with q | q
  · exact q
  · have := (h9 p).1 q
    rw [hk] at this
    simp at this
    omega
theorem sn_cell_o {b base : Nat} {cs : Nat → ClassId} {h : sn_H} {p ci n : Nat} (hk : hK h p = (0, ci, n)) : sn_cell b base cs h p = .inr (ci, (List.range n).map (sn_fv b base h p ci)) := by unfold sn_cell; rw [hk]; rfl
theorem sn_cell_q {b base : Nat} {cs : Nat → ClassId} {h : sn_H} {p ci n : Nat} (hk : hK h p = (4, ci, n)) : sn_cell b base cs h p = .inl (cs 4, n, .inr (.inr (.inr (.inr (fun i => (hR h p i).map (sn_ad b base)))))) := by unfold sn_cell; rw [hk]; rfl
theorem sn_cell_i {b base : Nat} {cs : Nat → ClassId} {h : sn_H} {p n : Nat} (hk : hK h p = (1, 0, n)) : sn_cell b base cs h p = .inl (cs 1, n, .inl (hG h p)) := by unfold sn_cell; rw [hk]; rfl
theorem sn_cell_c {b base : Nat} {cs : Nat → ClassId} {h : sn_H} {p n : Nat} (hk : hK h p = (2, 0, n)) : sn_cell b base cs h p = .inl (cs 2, n, .inl (hG h p)) := by unfold sn_cell; rw [hk]; rfl
/-- a cell is the same where kind, references and numbers of it are -/
theorem sn_cell_same {b base : Nat} {cs : Nat → ClassId} {h h' : sn_H} {p : Nat} (h1 : hK h' p = hK h p) (h2 : ∀ k, hR h' p k = hR h p k) (h3 : ∀ k, hG h' p k = hG h p k) : sn_cell b base cs h' p = sn_cell b base cs h p := by
  have e2 : hR h' p = hR h p := funext h2
  have e3 : hG h' p = hG h p := funext h3
  have e4 : ∀ ci, sn_fv b base h' p ci = sn_fv b base h p ci := fun ci => funext fun k => by unfold sn_fv; rw [e2, e3]
  unfold sn_cell
  rw [h1, e2, e3]
  simp only [e4]
theorem sn_as_mem {b base : Nat} : ∀ {L : sn_L} {i0 : Nat} {q : Nat × Value}, q ∈ sn_as b base i0 L ↔ ∃ j v, L[j]? = some (some v) ∧ q = (i0 + j, sn_cv b base v)
  | [], i0, q => by simp [sn_as]
  | none :: l, i0, q => by
    unfold sn_as
    rw [sn_as_mem]
    constructor
    · rintro ⟨j, v, h1, h2⟩
      exact ⟨j + 1, v, by simpa using h1, by rw [h2]; congr 1; omega⟩
    · rintro ⟨j, v, h1, h2⟩
      cases j with
      | zero => simp at h1
      | succ j => exact ⟨j, v, by simpa using h1, by rw [h2]; congr 1; omega⟩
  | some w :: l, i0, q => by
    unfold sn_as
    rw [List.mem_cons, sn_as_mem]
    constructor
    · rintro (h | ⟨j, v, h1, h2⟩)
      · exact ⟨0, w, rfl, h⟩
      · exact ⟨j + 1, v, by simpa using h1, by rw [h2]; congr 1; omega⟩
    · rintro ⟨j, v, h1, h2⟩
      cases j with
      | zero =>
        simp at h1
        subst h1
        exact Or.inl h2
      | succ j => exact Or.inr ⟨j, v, by simpa using h1, by rw [h2]; congr 1; omega⟩
theorem sn_at {b base nL i : Nat} {ls : Array Slot} {L : sn_L} {v : Value} (h : lv_has ls nL (sn_as b base 0 L)) (hv : sn_nth L i = some (some v)) : ls[i]? = some (.val (sn_cv b base v)) := by
  rw [sn_nth_eq] at hv
  have := h.2.2 (i, sn_cv b base v) (sn_as_mem.mpr ⟨i, v, hv, by simp⟩)
  exact this
theorem sn_cv_cat (b base : Nat) (v : Value) : (sn_cv b base v).category = v.category := by cases v <;> rfl
theorem clrL_get {L : sn_L} {i j : Nat} {w : Value} (h : (clrL L i)[j]? = some (some w)) : L[j]? = some (some w) ∧ ¬ (j + 1 = i ∧ w.category = 2) := by
  cases i with
  | zero => exact ⟨h, fun q => by omega⟩
  | succ i =>
    dsimp only [clrL] at h
    rw [sn_nth_eq] at h
    split at h
    · rename_i v hv
      cases hc : Nat.beq v.category 2 with
      | true =>
        rw [hc] at h
        dsimp only [cond_true] at h
        by_cases hj : j = i
        · subst hj
          rw [List.getElem?_set_self (List.getElem?_eq_some_iff.mp hv).1] at h
          simp at h
        · rw [List.getElem?_set_ne (fun q => hj q.symm)] at h
          exact ⟨h, fun q => hj (by omega)⟩
      | false =>
        rw [hc] at h
        dsimp only [cond_false] at h
        refine ⟨h, fun q => ?_⟩
        have hj : j = i := by omega
        subst hj
        rw [hv] at h
        have e : v = w := Option.some.inj (Option.some.inj h)
        rw [← e] at q
        rw [q.2] at hc
        cases hc
    · rename_i hv
      refine ⟨h, fun q => ?_⟩
      have hj : j = i := by omega
      subst hj
      exact hv w h
theorem sn_stl1 {b base nL i : Nat} {ls' : Array Slot} {L : sn_L} {v : Value} (h : lv_has ls' nL ((i, sn_cv b base v) :: (sn_as b base 0 L).filter (fun q => !(q.1 == i) && !(q.1 + 1 == i && q.2.category == 2)))) : lv_has ls' nL (sn_as b base 0 (stL L i v)) := by
  refine ⟨h.1, h.2.1, fun q hq => h.2.2 q ?_⟩
  obtain ⟨j, w, h1, rfl⟩ := sn_as_mem.mp hq
  unfold stL at h1
  by_cases hj : j = i
  · subst hj
    have hl := (List.getElem?_eq_some_iff.mp h1).1
    rw [List.getElem?_set_self (by simpa using hl)] at h1
    have e : v = w := Option.some.inj (Option.some.inj h1)
    rw [e, Nat.zero_add]
    exact List.mem_cons_self
  · rw [List.getElem?_set_ne (fun q => hj q.symm)] at h1
    obtain ⟨g1, g2⟩ := clrL_get h1
    refine List.mem_cons_of_mem _ (List.mem_filter.mpr ⟨sn_as_mem.mpr ⟨j, w, g1, rfl⟩, ?_⟩)
    simp only [Nat.zero_add, sn_cv_cat, Bool.and_eq_true, Bool.not_eq_true', beq_eq_false_iff_ne, ne_eq, Bool.and_eq_false_iff]
    refine ⟨hj, ?_⟩
    by_cases h2 : j + 1 = i
    · exact Or.inr (fun q => g2 ⟨h2, q⟩)
    · exact Or.inl h2
theorem sn_stl2 {b base nL i : Nat} {ls' : Array Slot} {L : sn_L} {v : Value} (h : lv_has ls' nL ((i, sn_cv b base v) :: (sn_as b base 0 L).filter (fun q => !(q.1 == i) && (!(q.1 == i + 1) && !(q.1 + 1 == i && q.2.category == 2))))) : lv_has ls' nL (sn_as b base 0 (stLL L i v)) := by
  refine ⟨h.1, h.2.1, fun q hq => h.2.2 q ?_⟩
  obtain ⟨j, w, h1, rfl⟩ := sn_as_mem.mp hq
  unfold stLL at h1
  by_cases hj1 : j = i + 1
  · subst hj1
    have hl := (List.getElem?_eq_some_iff.mp h1).1
    rw [List.getElem?_set_self (by simpa using hl)] at h1
    simp at h1
  · rw [List.getElem?_set_ne (fun q => hj1 q.symm)] at h1
    by_cases hj : j = i
    · subst hj
      have hl := (List.getElem?_eq_some_iff.mp h1).1
      rw [List.getElem?_set_self (by simpa using hl)] at h1
      have e : v = w := Option.some.inj (Option.some.inj h1)
      rw [e, Nat.zero_add]
      exact List.mem_cons_self
    · rw [List.getElem?_set_ne (fun q => hj q.symm)] at h1
      obtain ⟨g1, g2⟩ := clrL_get h1
      refine List.mem_cons_of_mem _ (List.mem_filter.mpr ⟨sn_as_mem.mpr ⟨j, w, g1, rfl⟩, ?_⟩)
      simp only [Nat.zero_add, sn_cv_cat, Bool.and_eq_true, Bool.not_eq_true', beq_eq_false_iff_ne, ne_eq, Bool.and_eq_false_iff]
      refine ⟨hj, hj1, ?_⟩
      by_cases h2 : j + 1 = i
      · exact Or.inr (fun q => g2 ⟨h2, q⟩)
      · exact Or.inl h2
theorem ldF_d {L : sn_L} {i : Nat} {k : Value → Prop} (h : ldF L i k) : ∃ v, sn_nth L i = some (some v) ∧ k v := by
  unfold ldF at h; split at h
  · rename_i v hv; exact ⟨v, hv, h⟩
  · exact h.elim
theorem i1F_d {st : List Value} {k : Int32 → List Value → Prop} (h : i1F st k) : ∃ x r, st = .int x :: r ∧ k x r := by
  unfold i1F at h; split at h
  · exact ⟨_, _, rfl, h⟩
  · exact h.elim
theorem i2F_d {st : List Value} {k : Int32 → Int32 → List Value → Prop} (h : i2F st k) : ∃ x y r, st = .int y :: .int x :: r ∧ k x y r := by
  unfold i2F at h; split at h
  · exact ⟨_, _, _, rfl, h⟩
  · exact h.elim
theorem l2F_d {st : List Value} {k : Int64 → Int64 → List Value → Prop} (h : l2F st k) : ∃ x y r, st = .long y :: .long x :: r ∧ k x y r := by
  unfold l2F at h; split at h
  · exact ⟨_, _, _, rfl, h⟩
  · exact h.elim
theorem r1F_d {st : List Value} {k : Nat → List Value → Prop} (h : r1F st k) : ∃ x r, st = .ref x :: r ∧ k x r := by
  unfold r1F at h; split at h
  · exact ⟨_, _, rfl, h⟩
  · exact h.elim
theorem v1F_d {st : List Value} {k : Value → List Value → Prop} (h : v1F st k) : ∃ x r, st = x :: r ∧ k x r := by
  unfold v1F at h; split at h
  · exact ⟨_, _, rfl, h⟩
  · exact h.elim
theorem irF_d {st : List Value} {k : Int32 → Nat → List Value → Prop} (h : irF st k) : ∃ i p r, st = .int i :: .ref p :: r ∧ k i p r := by
  unfold irF at h; split at h
  · exact ⟨_, _, _, rfl, h⟩
  · exact h.elim
theorem virF_d {st : List Value} {k : Value → Int32 → Nat → List Value → Prop} (h : virF st k) : ∃ v i p r, st = v :: .int i :: .ref p :: r ∧ k v i p r := by
  unfold virF at h; split at h
  · exact ⟨_, _, _, _, rfl, h⟩
  · exact h.elim
theorem popF_d : ∀ {n : Nat} {st acc as r : List Value}, popF n st acc = some (as, r) → ∃ f, st = f ++ r ∧ as = f.reverse ++ acc ∧ f.length = n
  | 0, st, acc, as, r, h => by
    unfold popF at h
    simp at h
    exact ⟨[], by simp [h.2], by simp [h.1], rfl⟩
  | n + 1, [], acc, as, r, h => by simp [popF] at h
  | n + 1, v :: st, acc, as, r, h => by
    unfold popF at h
    obtain ⟨f, h1, h2, h3⟩ := popF_d h
    exact ⟨v :: f, by simp [h1], by simp [h2], by simp [h3]⟩
theorem sn_cats (b base : Nat) (r : List Value) : ((r.map (sn_cv b base)).map fun v => v.category).sum = catsF r := by
  unfold catsF
  rw [List.map_map]
  congr 1
  apply List.map_congr_left
  intro v _
  exact sn_cv_cat b base v
theorem sn_args {b base : Nat} : ∀ {as : List Value} {i0 : Nat} {n : Nat} {q : Nat × Value}, q ∈ sn_as b base i0 (slL as ++ List.replicate n none) → q ∈ lv_args i0 (as.map (sn_cv b base))
  | [], i0, n, q, h => by
    obtain ⟨j, v, h1, -⟩ := sn_as_mem.mp h
    simp only [slL, List.nil_append, List.getElem?_replicate] at h1
    split at h1 <;> simp at h1
  | v :: l, i0, n, q, h => by
    simp only [slL, List.cons_append, sn_as, List.mem_cons] at h
    simp only [List.map_cons, lv_args, List.mem_cons, sn_cv_cat]
    rcases h with h | h
    · exact Or.inl h
    · refine Or.inr ?_
      cases hc : Nat.beq v.category 2 with
      | true =>
        rw [hc] at h
        simp only [cond_true, List.cons_append, sn_as] at h
        rw [if_pos (Nat.eq_of_beq_eq_true hc)]
        exact sn_args h
      | false =>
        rw [hc] at h
        simp only [cond_false] at h
        rw [if_neg (Nat.ne_of_beq_eq_false hc)]
        exact sn_args h
end
section
/-! ===== stores and new cells: from the world of h to the world of h' ===== -/
section SNS
variable {p : Program} {l : Launch} {e : Env} {R : Room} {s : State} {m : MethodId} {args : Array Value} {below : List Frame} {meth : Method} {c : Code} {H : Heap} {locs : List Loc} {cells slots : Nat} {Q : State → Prop}
variable {cc : ByteArray} {pc : Nat} {ls : Array Slot} {rest : List Value} {D : va_G} {b base Ls : Nat} {xs : Nat → Int32} {cs : Nat → ClassId} {h : sn_H} {H0 : Heap}
theorem sn_Wd_upd {h' : sn_H} {H1 : Heap} {q : Nat} (hw : sn_Wd b base Ls xs D cs h H) (hq : 0 < q ∧ q < hN h) (hn : hN h' = hN h) (hkd : ∀ x, hK h' x = hK h x) (hg : ∀ x j, x ≠ q → hG h' x j = hG h x j) (hr : ∀ x j, x ≠ q → hR h' x j = hR h x j)
    (e1 : va_at D sn_cl (base + q, sn_cell b base cs h' q) H1) (e2 : H1.size = H.size) (e3 : ∀ x, x ≠ base + q → H1[x]? = H[x]?) : sn_Wd b base Ls xs D cs h' H1 := by
  obtain ⟨w1, w2, w3, w4, w5, w6⟩ := hw
  have hqs : q ≠ 0 := by omega
  refine ⟨by rw [e2, hn]; exact w1, by rw [hn]; exact w2, ?_, fun x => by rw [hkd, hn]; exact w4 x, by rw [hkd]; exact w5, fun j hj => by rw [hg _ _ hqs.symm]; exact w6 j hj⟩
  intro k x hx
  obtain ⟨hk, rfl⟩ := sn_ws_inv hx
  rw [hn] at hk
  by_cases hkq : k + 1 = q
  · subst hkq; exact e1
  · have h1 := w3 _ _ (sn_ws_get hk)
    rw [sn_cell_same (h := h) (h' := h') (hkd (k + 1)) (fun j => hr (k + 1) j hkq) (fun j => hg (k + 1) j hkq)]
    exact h1.kept (e3 _ (by dsimp only; omega))
theorem sn_iast (hexec : p.tables.exec = Jvm.exec) (hb : c.code = cc) (hK1 : sn_Ks D cs s) (hw : sn_Wd b base Ls xs D cs h H) (hS : va_S (fun q => base < q) H0 H locs) {q n : Nat} (hk : hK h q = (1, 0, n)) {i x : Int32} (hin : vp_in i n) (hdg : decode cc pc = .ok (.iastore, 1))
    (kk : ∀ (H1 : Heap) (locs1 : List Loc), sn_Wd b base Ls xs D cs (setG h q i.toNatClampNeg x) H1 → va_S (fun q => base < q) H0 H1 locs1 → W p l e R s m args below meth c H1 locs1 cells slots Q (F0 m (pc + 1) ls rest)) : W p l e R s m args below meth c H locs cells slots Q (F0 m pc ls (.int x :: .int i :: .ref (base + q) :: rest)) := by
  obtain ⟨hq, -⟩ := sn_lt hw hk (by decide) (by simp)
  have ha := hw.2.2.1 _ _ (sn_ws_get hq)
  rw [sn_cell_i hk] at ha
  refine W.iast hexec hb ha ((hK1.1.2 0 _ rfl).1 n (fun j => .int (hG h q j))) (fun q => by cases q) (by show ¬ (i < 0 ∨ (arrV _ _ _).slots.size ≤ _); rw [arrV_size]; exact hin) rfl rfl hdg fun H1 e1 z oq => ?_
  refine kk H1 _ (sn_Wd_upd hw hq rfl (fun _ => rfl) (fun x j hx => ?_) (fun _ _ _ => rfl) ?_ z oq) (hS.put z oq (Nat.lt_add_of_pos_right hq.1))
  · show (if x = q ∧ j = i.toNatClampNeg then _ else _) = _
    rw [if_neg (fun z => hx z.1)]; rfl
  · rw [sn_cell_i (h := setG h q i.toNatClampNeg x) (n := n) hk]
    show H1[base + q]? = some (vp_cell _ _)
    rw [e1, vp_cell_i, vp_cell_i, arrV_store]
    congr 2
    funext j
    by_cases hj : j = i.toNatClampNeg
    · subst hj
      simp [updV, hG, setG]
    · simp [updV, hG, setG, hj]
theorem sn_cast (hexec : p.tables.exec = Jvm.exec) (hb : c.code = cc) (hK1 : sn_Ks D cs s) (hw : sn_Wd b base Ls xs D cs h H) (hS : va_S (fun q => base < q) H0 H locs) {q n : Nat} (hk : hK h q = (2, 0, n)) {i x : Int32} (hin : vp_in i n) (hdg : decode cc pc = .ok (.castore, 1))
    (kk : ∀ (H1 : Heap) (locs1 : List Loc), sn_Wd b base Ls xs D cs (setG h q i.toNatClampNeg (vp_nar .char x)) H1 → va_S (fun q => base < q) H0 H1 locs1 → W p l e R s m args below meth c H1 locs1 cells slots Q (F0 m (pc + 1) ls rest)) : W p l e R s m args below meth c H locs cells slots Q (F0 m pc ls (.int x :: .int i :: .ref (base + q) :: rest)) := by
  obtain ⟨hq, -⟩ := sn_lt hw hk (by decide) (by simp)
  have ha := hw.2.2.1 _ _ (sn_ws_get hq)
  rw [sn_cell_c hk] at ha
  refine W.cast hexec hb ha ((hK1.1.2 1 _ rfl).1 n (fun j => .int (hG h q j))) (fun q => by cases q) (by show ¬ (i < 0 ∨ (arrV _ _ _).slots.size ≤ _); rw [arrV_size]; exact hin) rfl rfl hdg fun H1 e1 z oq => ?_
  refine kk H1 _ (sn_Wd_upd hw hq rfl (fun _ => rfl) (fun x j hx => ?_) (fun _ _ _ => rfl) ?_ z oq) (hS.put z oq (Nat.lt_add_of_pos_right hq.1))
  · show (if x = q ∧ j = i.toNatClampNeg then _ else _) = _
    rw [if_neg (fun z => hx z.1)]; rfl
  · rw [sn_cell_c (h := setG h q i.toNatClampNeg (vp_nar .char x)) (n := n) hk]
    show H1[base + q]? = some (vp_cell _ _)
    rw [e1, vp_cell_i, vp_cell_i, arrV_store]
    congr 2
    funext j
    by_cases hj : j = i.toNatClampNeg
    · subst hj
      simp [updV, hG, setG, vp_nar]
      try rfl
    · simp [updV, hG, setG, hj]
theorem sn_aast (hexec : p.tables.exec = Jvm.exec) (hb : c.code = cc) (hK1 : sn_Ks D cs s) (hw : sn_Wd b base Ls xs D cs h H) (hS : va_S (fun q => base < q) H0 H locs) {q n v : Nat} (hk : hK h q = (4, 1, n)) (hv : hK h v = (0, 1, sn_fN 1)) {i : Int32} (hin : vp_in i n) (hdg : decode cc pc = .ok (.aastore, 1))
    (kk : ∀ (H1 : Heap) (locs1 : List Loc), sn_Wd b base Ls xs D cs (setR h q i.toNatClampNeg v) H1 → va_S (fun q => base < q) H0 H1 locs1 → W p l e R s m args below meth c H1 locs1 cells slots Q (F0 m (pc + 1) ls rest)) : W p l e R s m args below meth c H locs cells slots Q (F0 m pc ls (.ref (base + v) :: .int i :: .ref (base + q) :: rest)) := by
  obtain ⟨hq, -⟩ := sn_lt hw hk (by decide) (by simp)
  obtain ⟨hvl, hva⟩ := sn_lt hw hv (by decide) (by simp)
  have ha := hw.2.2.1 _ _ (sn_ws_get hq)
  rw [sn_cell_q hk] at ha
  have hav := hw.2.2.1 _ _ (sn_ws_get hvl)
  rw [sn_cell_o hv] at hav
  have hlt : i.toNatClampNeg < n := Nat.not_le.mp fun q => hin (Or.inr q)
  have h0 : ¬ i < 0 := fun q => hin (Or.inl q)
  obtain ⟨r', hr', cellV, g1, g2, g3, -⟩ := hav
  have hcls := (hK1.1.1 1 _ (sn_cls 1 (by decide)).1).2
  obtain ⟨kA, comp, k1, k2, k3, -⟩ := (hK1.1.2 2 _ rfl).2
  have hcomp : comp = D.1 1 := Option.some.inj (k3.symm.trans hcls.1)
  subst hcomp
  obtain ⟨kC, hkC, -⟩ := hcls.2
  refine W.aast hexec hb ha (fun q h => by cases h) (fun h => by cases h) k1 k2 rfl hkC ⟨h0, by show _ < (arrV _ _ _).slots.size; rw [arrV_size]; exact hlt⟩ g1 (fun q h => by rw [g3] at h; cases h) (by rw [g2]; exact hkC) (by rw [g2]; exact va_assign hcls) rfl rfl hdg fun H1 e1 z oq => ?_
  refine kk H1 _ (sn_Wd_upd hw hq rfl (fun _ => rfl) (fun _ _ _ => rfl) (fun x j hx => ?_) ?_ z oq) (hS.put z oq (Nat.lt_add_of_pos_right hq.1))
  · show (if x = q ∧ j = i.toNatClampNeg then _ else _) = _
    rw [if_neg (fun z => hx z.1)]; rfl
  · rw [sn_cell_q (h := setR h q i.toNatClampNeg v) (ci := 1) (n := n) hk]
    show H1[base + q]? = some (vp_cell _ _)
    rw [e1, vp_cell_q, vp_cell_q, arrV_store]
    congr 2
    funext j
    by_cases hj : j = i.toNatClampNeg
    · subst hj
      simp [updV, hR, setR, va_rf, hva]
    · simp [updV, hR, setR, hj]
/-- a field's store, final in a constructor or not -/
theorem sn_put (hexec : p.tables.exec = Jvm.exec) (hb : c.code = cc) (hts : ∀ w ∈ sn_TB, w.before args s = true) {own : String} (hown : s.vm.findClass own = some m.cls) (hK1 : sn_Ks D cs s) (hw : sn_Wd b base Ls xs D cs h H) (hS : va_S (fun q => base < q) H0 H locs) {q ci k index : Nat} (hci : ci < sn_cl.length) (hkk : k < sn_fN ci) (hk : hK h q = (0, ci, sn_fN ci))
    (hlink : (Jvm.Cond.fieldLink own index (sn_cT ci).1 ((sn_cT ci).2.1 k).2.1 ((sn_cT ci).2.1 k).2.2.1).before args s = true) (hfin : sn_ff ci k = true → meth.name = "<init>" ∧ own = sn_oN ci) {h' : sn_H} {v : Value}
    (hv : sn_fv b base h' q ci k = v) (hfit : fits (sn_tyc ci k) v = true) (hnar : narrow (sn_tyc ci k) v = v) (hn : hN h' = hN h) (hkd : ∀ x, hK h' x = hK h x) (hg : ∀ x j, ¬ (x = q ∧ j = k) → hG h' x j = hG h x j) (hr : ∀ x j, ¬ (x = q ∧ j = k) → hR h' x j = hR h x j)
    (hdg : decode cc pc = .ok (.putfield index, 3))
    (kk : ∀ (H1 : Heap) (locs1 : List Loc), sn_Wd b base Ls xs D cs h' H1 → va_S (fun q => base < q) H0 H1 locs1 → W p l e R s m args below meth c H1 locs1 cells slots Q (F0 m (pc + 3) ls rest)) : W p l e R s m args below meth c H locs cells slots Q (F0 m pc ls (v :: .ref (base + q) :: rest)) := by
  obtain ⟨hq, -⟩ := sn_lt hw hk (by decide) (by simp)
  have ha := hw.2.2.1 _ _ (sn_ws_get hq)
  rw [sn_cell_o hk] at ha
  obtain ⟨c1, c2, c3, c4, c5, c6, c7, c8, c9, c10⟩ := sn_cls ci hci
  have hin : ∀ w ∈ u_ws (sn_cT ci).1 (sn_cT ci).2.1 (sn_fN ci), w ∈ sn_TB := by
    intro w hw'
    obtain ⟨j, hj, rfl⟩ := List.mem_map.mp hw'
    exact sn_tb _ (c4 j (List.mem_range.mp hj)) (by unfold u_lay; split <;> rfl)
  have hcl : sn_cl[ci]? = some ((sn_cT ci).1, (sn_cT ci).2.1, sn_fN ci) := by rw [← c3]; exact c1
  have hap := va_apart (own := own) hts hin (sn_tyc ci) c5 c10 hK1.1 hcl
  obtain ⟨r, h1, cell, q1, q2, q3, q4⟩ := ha
  have hr1 : r = ((sn_cT ci).1, (sn_cT ci).2.1, sn_fN ci) := Option.some.inj (h1.symm.trans hcl)
  subst hr1
  obtain ⟨hSl, hfc, kC, hkC, hkind⟩ := hK1.1.1 ci _ hcl
  obtain ⟨cf, kf, fi, f, hi, hsl⟩ := hSl k hkk
  have hi2 : s.fieldFound? (sn_cT ci).1 ((sn_cT ci).2.1 k).2.1 ((sn_cT ci).2.1 k).2.2.1 = some (cf, kf, fi, f) := by rw [← c6 k hkk]; exact hi
  have hlay := hts _ (hin _ (u_in_lay hkk))
  have hst := (u_facts hfc hkC (u_lays hts hin hkk) hi).1
  have hend : ∀ (H' : Heap), H'[base + q]? = some (cell.setSlot f.slot v) → H'.size = H.size → (∀ x, x ≠ base + q → H'[x]? = H[x]?) → sn_Wd b base Ls xs D cs h' H' := by
    intro H' e1 e2 e3
    refine sn_Wd_upd hw hq hn hkd (fun x j hx => hg x j (fun z => hx z.1)) (fun x j hx => hr x j (fun z => hx z.1)) ?_ e2 e3
    rw [sn_cell_o (h := h') (ci := ci) (n := sn_fN ci) (by rw [hkd]; exact hk)]
    refine ⟨_, hcl, t_OB.to (V := updV (vp_V ((List.range (sn_fN ci)).map (sn_fv b base h q ci))) k v) ⟨cell.setSlot (D.2 ci k) v, by rw [hsl] at e1; exact e1, q2, q3, t_set q4 hap hkk v⟩ (fun j hj => ?_)⟩
    have gt : ∀ (hh : sn_H), vp_V ((List.range (sn_fN ci)).map (sn_fv b base hh q ci)) j = sn_fv b base hh q ci j := fun hh => by
      unfold vp_V
      rw [List.getD_eq_getElem?_getD, List.getElem?_map, List.getElem?_range hj]
      rfl
    rw [gt h']
    by_cases hjk : j = k
    · subst hjk
      simp [updV, hv]
    · simp only [updV, if_neg hjk]
      rw [gt h]
      unfold sn_fv
      rw [hg q j (fun z => hjk z.2), hr q j (fun z => hjk z.2)]
  cases hff : sn_ff ci k with
  | false =>
    unfold u_lay at hlay
    rw [if_neg (by rw [c7 k hkk, hff]; decide)] at hlay
    have h6 := u_store hfc hkC hkind hlay hi (c5 k hkk) hnar hfit
    refine W.putK hexec hb (f := f) ⟨hown, hlink, ⟨_, _, _, hi2⟩, hst⟩ (by rw [q2]; exact h6) q1 q3 (by rw [hsl]; exact k2_hasslot (q4 k hkk)) rfl rfl hdg fun H' e1 e2 e3 => ?_
    exact kk H' _ (hend H' e1 e2 e3) (hS.put e2 e3 (Nat.lt_add_of_pos_right hq.1))
  | true =>
    obtain ⟨hin2, hown2⟩ := hfin hff
    unfold u_lay at hlay
    rw [if_pos (by rw [c7 k hkk, hff])] at hlay
    have hcf : m.cls = cf := by
      obtain ⟨_, _, c', _, _, _, -, -, hf', -, -, -, hown3, -⟩ := Cond.laysFinal_spec hlay
      have e1 : c' = cf := by have := hi.symm.trans hf'; simp at this; exact this.1.symm
      rw [c6 k hkk, c2, ← hown2] at hown3
      rw [← e1]; exact Option.some.inj (hown.symm.trans hown3)
    have h6 := u_fits hfc hkC hkind (Or.inr hlay) hi (c5 k hkk) hnar hfit
    refine W.putFinK hexec hb hown hlink hi2 hst hcf hin2 (by rw [q2]; exact h6) q1 q3 (by rw [hsl]; exact k2_hasslot (q4 k hkk)) rfl rfl hdg fun H' e1 e2 e3 => ?_
    exact kk H' _ (hend H' e1 e2 e3) (hS.put e2 e3 (Nat.lt_add_of_pos_right hq.1))
theorem sn_get (hexec : p.tables.exec = Jvm.exec) (hb : c.code = cc) (hts : ∀ w ∈ sn_TB, w.before args s = true) {own : String} (hown : s.vm.findClass own = some m.cls) (hK1 : sn_Ks D cs s) (hw : sn_Wd b base Ls xs D cs h H) {q ci k index : Nat} (hci : ci < sn_cl.length) (hkk : k < sn_fN ci) (hk : hK h q = (0, ci, sn_fN ci))
    (hlink : (Jvm.Cond.fieldLink own index (sn_cT ci).1 ((sn_cT ci).2.1 k).2.1 ((sn_cT ci).2.1 k).2.2.1).before args s = true) (hdg : decode cc pc = .ok (.getfield index, 3))
    (kk : W p l e R s m args below meth c H locs cells slots Q (F0 m (pc + 3) ls (sn_fv b base h q ci k :: rest))) : W p l e R s m args below meth c H locs cells slots Q (F0 m pc ls (.ref (base + q) :: rest)) := by
  obtain ⟨hq, -⟩ := sn_lt hw hk (by decide) (by simp)
  obtain ⟨c1, c2, c3, c4, c5, c6, c7, c8, c9, c10⟩ := sn_cls ci hci
  have hin : ∀ w ∈ u_ws (sn_cT ci).1 (sn_cT ci).2.1 (sn_fN ci), w ∈ sn_TB := by
    intro w hw'
    obtain ⟨j, hj, rfl⟩ := List.mem_map.mp hw'
    exact sn_tb _ (c4 j (List.mem_range.mp hj)) (by unfold u_lay; split <;> rfl)
  have hcl : sn_cl[ci]? = some ((sn_cT ci).1, (sn_cT ci).2.1, sn_fN ci) := by rw [← c3]; exact c1
  have he := sn_ws_get (b := b) (base := base) (cs := cs) hq
  rw [sn_cell_o hk] at he
  refine va_get (fs := (List.range (sn_fN ci)).map (sn_fv b base h q ci)) hexec hb hts hin hown hK1.1 hw.2.2.1 _ he hcl k hkk hlink (fun x hx => ?_) ?_ hdg kk
  · rw [c6 k hkk] at hx; exact hx
  · rw [List.getElem?_map, List.getElem?_range hkk]; rfl
end SNS
end
section
/-! ===== copies of arrays, new cells, calls: from the world of h to the world of h' ===== -/
section SNM
variable {p : Program} {l : Launch} {e : Env} {R : Room} {s : State} {m : MethodId} {args : Array Value} {below : List Frame} {meth : Method} {c : Code} {H : Heap} {locs : List Loc} {cells slots : Nat} {Q : State → Prop}
variable {cc : ByteArray} {pc : Nat} {ls : Array Slot} {rest : List Value} {D : va_G} {b base Ls : Nat} {xs : Nat → Int32} {cs : Nat → ClassId} {h : sn_H} {H0 : Heap}
theorem sn_copy (hexec : p.tables.exec = Jvm.exec) (hb : c.code = cc) (hml : c.maxLocals = ls.size) {own : String} {index : Nat} (hown : s.vm.findClass own = some m.cls) (hlink : (Jvm.Cond.methodLink own index arraycopyName).before args s = true) (hnat : (Jvm.Cond.native arraycopyName).before args s = true) (hstat : (Jvm.Cond.static arraycopyName).before args s = true) (hini : (Jvm.Cond.initialized "java/lang/System").before args s = true)
    (hK1 : sn_Ks D cs s) (hw : sn_Wd b base Ls xs D cs h H) (hS : va_S (fun q => base < q) H0 H locs) {pa pb na nb sp dp n : Nat} (hsp : sp < 65536) (hdp : dp < 65536) (hn : n < 65536) (hka : hK h pa = (1, 0, na)) (hkb : hK h pb = (1, 0, nb)) (h4 : sp + n ≤ na) (h5 : dp + n ≤ nb)
    (hframes : 1 ≤ R.frames) (hlocals : (rest.map fun v => v.category).sum + (nativeFrameWords "java/lang/System" "arraycopy" 5 + 11) ≤ R.locals) (hdg : decode cc pc = .ok (.invokestatic index, 3))
    (kk : ∀ (H1 : Heap) (locs1 : List Loc), sn_Wd b base Ls xs D cs (cpG h pa sp pb dp n) H1 → va_S (fun q => base < q) H0 H1 locs1 → W p l e R s m args below meth c H1 locs1 cells slots Q (F0 m (pc + 3) ls rest)) : W p l e R s m args below meth c H locs cells slots Q (F0 m pc ls (.int (nI n) :: .int (nI dp) :: .ref (base + pb) :: .int (nI sp) :: .ref (base + pa) :: rest)) := by
  obtain ⟨hqa, -⟩ := sn_lt hw hka (by decide) (by simp)
  obtain ⟨hqb, -⟩ := sn_lt hw hkb (by decide) (by simp)
  have hc0 := hw.2.2.1 _ _ (sn_ws_get hqa)
  have hc1 := hw.2.2.1 _ _ (sn_ws_get hqb)
  rw [sn_cell_i hka] at hc0
  rw [sn_cell_i hkb] at hc1
  have hc0 : H[base + pa]? = some (vp_cell (cs 1) (na, .inl (hG h pa))) := hc0
  have hc1 : H[base + pb]? = some (vp_cell (cs 1) (nb, .inl (hG h pb))) := hc1
  obtain ⟨-, k0, hk0, cm0, hkk0⟩ := (hK1.1.2 0 _ rfl).1 na (fun j => .int (hG h pa j))
  obtain ⟨-, k1, hk1, cm1, hkk1⟩ := (hK1.1.2 0 _ rfl).1 nb (fun j => .int (hG h pb j))
  have ts : (nI sp).toInt = (sp : Int) := nI_toInt (by omega)
  have td : (nI dp).toInt = (dp : Int) := nI_toInt (by omega)
  have tn : (nI n).toInt = (n : Int) := nI_toInt (by omega)
  have cs1 : (nI sp).toNatClampNeg = sp := nI_clamp (by omega)
  have cd1 : (nI dp).toNatClampNeg = dp := nI_clamp (by omega)
  have cn1 : (nI n).toNatClampNeg = n := nI_clamp (by omega)
  intro T hT X
  obtain ⟨vm', X', step⟩ := X.arraycopy hexec hown hlink hnat hstat hini (src := base + pa) (dst := base + pb) (cs := vp_cell (cs 1) (na, .inl (hG h pa))) (cd := vp_cell (cs 1) (nb, .inl (hG h pb))) (srcPos := nI sp) (destPos := nI dp) (n := nI n) (by rw [hT]; exact hc0) (by rw [hT]; exact hc1)
    (fun _ h => by cases h) (fun _ h => by cases h) (fun h => by cases h) (fun h => by cases h) hk0 hk1 hkk0 hkk1 (by rfl) (nI_pos (by omega)) (nI_pos (by omega)) (nI_pos (by omega))
    (by rw [ts, tn]; show ¬ _ > ((arrV (cs 1) na (fun j => .int (hG h pa j))).slots.size : Int); rw [arrV_size]; omega)
    (by rw [td, tn]; show ¬ _ > ((arrV (cs 1) nb (fun j => .int (hG h pb j))).slots.size : Int); rw [arrV_size]; omega)
    (fun vm₁ _ i hi => by
      rw [cn1] at hi
      have e1 : (vp_cell (cs 1) (na, .inl (hG h pa))).slots.getD ((nI sp).toNatClampNeg + i) .null = .int (hG h pa ((nI sp).toNatClampNeg + i)) := by
        show (arrV (cs 1) na (fun j => .int (hG h pa j))).slots.getD _ _ = _
        rw [cs1, Array.getD_eq_getD_getElem?, arrV_read _ _ (by omega)]
        rfl
      refine ⟨?_, ?_⟩
      · rw [e1]; rfl
      · rw [e1]; exact trivial)
    (g := F0 m pc ls (.int (nI n) :: .int (nI dp) :: .ref (base + pb) :: .int (nI sp) :: .ref (base + pa) :: rest)) rfl (by rw [hml]) (rest := rest) rfl (by rw [hb]; exact hdg) hframes (by show 2 * 0 + _ + _ ≤ _; omega)
  have e1 : copied (vp_cell (cs 1) (na, .inl (hG h pa))) (vp_cell (cs 1) (nb, .inl (hG h pb))) (nI sp) (nI dp) (nI n) = vp_cell (cs 1) (nb, .inl (va_cpy (hG h pa) (hG h pb) (nI sp).toNatClampNeg (nI dp).toNatClampNeg (nI n).toNatClampNeg)) := va_copied (fun z => .int z) (cs 1) (cs 1) (hG h pa) (hG h pb) (by rw [cs1, cn1]; exact h4)
  rw [cs1, cd1, cn1] at e1
  rw [e1] at X' step
  have hl : base + pb < H.size := (Array.getElem?_eq_some_iff.mp hc1).1
  have hheap : ((T.setVm vm').setCell (base + pb) (vp_cell (cs 1) (nb, .inl (va_cpy (hG h pa) (hG h pb) sp dp n)))).heap = H.setIfInBounds (base + pb) (vp_cell (cs 1) (nb, .inl (va_cpy (hG h pa) (hG h pb) sp dp n))) := by rw [← hT]; rfl
  have oq : ∀ q : Nat, q ≠ base + pb → (H.setIfInBounds (base + pb) (vp_cell (cs 1) (nb, .inl (va_cpy (hG h pa) (hG h pb) sp dp n))))[q]? = H[q]? := fun q hq => by simp [Array.getElem?_setIfInBounds, Ne.symm hq]
  obtain ⟨t, a1, b1⟩ := kk _ _ (sn_Wd_upd (h' := cpG h pa sp pb dp n) hw hqb rfl (fun _ => rfl) (fun x j hx => by
      show (if x = pb ∧ dp ≤ j ∧ j < dp + n then _ else _) = _
      rw [if_neg (fun z => hx z.1)]; rfl) (fun _ _ _ => rfl) (by
      rw [sn_cell_i (h := cpG h pa sp pb dp n) (n := nb) hkb]
      show (H.setIfInBounds (base + pb) _)[base + pb]? = some (vp_cell _ _)
      simp only [Array.getElem?_setIfInBounds, hl, if_true]
      congr 3
      refine congrArg Sum.inl (funext fun j => ?_)
      simp [va_cpy, hG, cpG]) (by simp) oq) ⟨by simp; exact hS.1, fun q g1 g2 => by
      rw [oq q (fun e => g2 (by rw [e]; exact Nat.lt_add_of_pos_right hqb.1))]
      exact hS.2.1 q g1 g2, fun q hq => by
      rcases List.mem_append.mp hq with h | h
      · exact hS.2.2 q h
      · obtain ⟨z, -, hz⟩ := List.mem_map.mp h
        rw [← hz]
        exact Nat.lt_add_of_pos_right hqb.1⟩ _ hheap X'
  exact ⟨t, step t a1, b1⟩
theorem sn_Wd_new {kd : Nat × Nat × Nat} {H1 : Heap} (hw : sn_Wd b base Ls xs D cs h H) (hkd : kd.1 = 4 → kd.2.1 = 1)
    (e1 : va_at D sn_cl (base + hN h, sn_cell b base cs (allocH h kd) (hN h)) H1) (e2 : H1.size = H.size + 1) (e3 : ∀ x, x < H.size → H1[x]? = H[x]?) : sn_Wd b base Ls xs D cs (allocH h kd) H1 := by
  obtain ⟨w1, w2, w3, w4, w5, w6⟩ := hw
  have hn : hN (allocH h kd) = hN h + 1 := rfl
  have hk : ∀ x, x ≠ hN h → hK (allocH h kd) x = hK h x := fun x hx => if_neg hx
  refine ⟨by rw [e2, hn, w1]; omega, by rw [hn]; omega, ?_, fun x => by
      by_cases hx : x = hN h
      · subst hx
        have e0 : hK (allocH h kd) (hN h) = kd := if_pos rfl
        rw [e0, hn]
        exact ⟨fun q => by omega, hkd⟩
      · rw [hk x hx, hn]
        exact ⟨fun q => (w4 x).1 (by omega), (w4 x).2⟩, by rw [hk 0 (by omega)]; exact w5, fun j hj => by
    rw [← w6 j hj]; exact if_neg (show ¬ 0 = hN h by omega)⟩
  intro k x hx
  obtain ⟨hkl, rfl⟩ := sn_ws_inv hx
  rw [hn] at hkl
  by_cases hkq : k + 1 = hN h
  · rw [hkq]; exact e1
  · have h1 := w3 _ _ (sn_ws_get (p := k + 1) (by omega))
    rw [sn_cell_same (h := h) (h' := allocH h kd) (hk (k + 1) hkq) (fun j => if_neg hkq) (fun j => if_neg hkq)]
    exact h1.kept (e3 _ (by dsimp only; omega))
theorem sn_S_new {H1 : Heap} (hS : va_S (fun q => base < q) H0 H locs) (e2 : H1.size = H.size + 1) (e3 : ∀ x, x < H.size → H1[x]? = H[x]?) : va_S (fun q => base < q) H0 H1 locs :=
  ⟨Nat.le_trans hS.1 (by omega), fun x h1 h2 => (e3 x (Nat.lt_of_lt_of_le h1 hS.1)).trans (hS.2.1 x h1 h2), hS.2.2⟩
theorem sn_new (hexec : p.tables.exec = Jvm.exec) (hb : c.code = cc) (hts : ∀ w ∈ sn_TB, w.before args s = true) {own : String} {ci index : Nat} (hown : s.vm.findClass own = some m.cls) (hci : ci < sn_cl.length) (hcl : (Jvm.Cond.classLink own index (sn_oN ci)).before args s = true)
    (hK1 : sn_Ks D cs s) (hw : sn_Wd b base Ls xs D cs h H) (hS : va_S (fun q => base < q) H0 H locs) (hcells : cells + 1 ≤ R.cells) (hslots : slots + sn_fN ci ≤ R.slots) (hdg : decode cc pc = .ok (.new index, 3))
    (kk : ∀ (H1 : Heap), sn_Wd b base Ls xs D cs (allocH h (0, ci, sn_fN ci)) H1 → va_S (fun q => base < q) H0 H1 locs → W p l e R s m args below meth c H1 locs (cells + 1) (slots + sn_fN ci) Q (F0 m (pc + 3) ls (.ref (base + hN h) :: rest))) : W p l e R s m args below meth c H locs cells slots Q (F0 m pc ls rest) := by
  obtain ⟨c1, c2, c3, c4, c5, c6, c7, c8, c9, c10⟩ := sn_cls ci hci
  have hin : ∀ w ∈ u_ws (sn_cT ci).1 (sn_cT ci).2.1 (sn_fN ci), w ∈ sn_TB := by
    intro w hw'
    obtain ⟨j, hj, rfl⟩ := List.mem_map.mp hw'
    exact sn_tb _ (c4 j (List.mem_range.mp hj)) (by unfold u_lay; split <;> rfl)
  have hcl2 : sn_cl[ci]? = some ((sn_cT ci).1, (sn_cT ci).2.1, sn_fN ci) := by rw [← c3]; exact c1
  obtain ⟨hki1, hki2⟩ := sn_ki_ok ci hci
  have hKn := hK1.1.1 ci _ hcl2
  have hw1 := hw.1
  refine W.newcK hexec hb hown hcl (hts _ (sn_tb _ hki1 rfl)) (hts _ (sn_tb _ hki2 rfl)) rfl hdg hcells hslots (by rw [← c2]; exact hKn.2.1) hw1 fun H1 kC hkC e1 z1 o1 => ?_
  refine kk H1 (sn_Wd_new hw (by simp) ?_ (by rw [z1, hw1]) (fun x hx => o1 x (by rw [← hw1]; exact hx))) (sn_S_new hS (by rw [z1, hw1]) (fun x hx => o1 x (by rw [← hw1]; exact hx)))
  rw [sn_cell_o (p := hN h) (h := allocH h (0, ci, sn_fN ci)) (ci := ci) (n := sn_fN ci) (if_pos rfl)]
  refine ⟨_, hcl2, (u_born (sn_tyc ci) hts hin hKn hkC e1 c5).to (fun j hj => ?_)⟩
  unfold vp_V
  rw [List.getD_eq_getElem?_getD, List.getElem?_map, List.getElem?_range hj]
  show defaultValue (sn_tyc ci j) = sn_fv b base (allocH h (0, ci, sn_fN ci)) (hN h) ci j
  unfold sn_fv
  cases hf : sn_fR ci j with
  | true =>
    rw [(c8 j hj hf).2.1]
    have : hR (allocH h (0, ci, sn_fN ci)) (hN h) j = none := if_pos rfl
    rw [this]
  | false =>
    rw [c9 j hj hf]
    have : hG (allocH h (0, ci, sn_fN ci)) (hN h) j = 0 := if_pos rfl
    rw [this]
    rfl
theorem sn_newI (hexec : p.tables.exec = Jvm.exec) (hb : c.code = cc) {at1 : ArrayType} {t : Nat} (hat : (at1 = .int ∧ t = 1) ∨ (at1 = .char ∧ t = 2)) (harr : (Jvm.Cond.arrayClass (newarray.typeOf at1)).before args s = true)
    (hK1 : sn_Ks D cs s) (hw : sn_Wd b base Ls xs D cs h H) (hS : va_S (fun q => base < q) H0 H locs) {n : Nat} (hn : n ≤ 65536) (hcells : cells + 1 ≤ R.cells) (hslots : slots + n ≤ R.slots) (hdg : decode cc pc = .ok (.newarray at1, 2))
    (kk : ∀ (H1 : Heap), sn_Wd b base Ls xs D cs (allocH h (t, 0, n)) H1 → va_S (fun q => base < q) H0 H1 locs → W p l e R s m args below meth c H1 locs (cells + 1) (slots + n) Q (F0 m (pc + 2) ls (.ref (base + hN h) :: rest))) : W p l e R s m args below meth c H locs cells slots Q (F0 m pc ls (.int (nI n) :: rest)) := by
  have hw1 := hw.1
  refine va_newaK hexec hb harr rfl hdg rfl (nI_pos (by omega)) (nI_clamp (by omega)) (by rcases hat with ⟨rfl, -⟩ | ⟨rfl, -⟩ <;> simp [newarray.typeOf, componentBytes] <;> omega) hcells hslots hw1 fun H1 cA e1 z1 o1 hAr hNm => ?_
  refine kk H1 (sn_Wd_new hw ?_ ?_ (by rw [z1, hw1]) (fun x hx => o1 x (by rw [← hw1]; exact hx))) (sn_S_new hS (by rw [z1, hw1]) (fun x hx => o1 x (by rw [← hw1]; exact hx)))
  · rcases hat with ⟨-, rfl⟩ | ⟨-, rfl⟩ <;> simp
  · have z0 : hG (allocH h (t, 0, n)) (hN h) = fun _ => 0 := funext fun j => if_pos rfl
    rcases hat with ⟨rfl, rfl⟩ | ⟨rfl, rfl⟩
    · rw [sn_cell_i (p := hN h) (h := allocH h (1, 0, n)) (n := n) (if_pos rfl), z0]
      have hcA : cA = cs 1 := Option.some.inj (hNm.symm.trans (hK1.1.2 0 _ rfl).2)
      rw [← hcA]
      exact e1
    · rw [sn_cell_c (p := hN h) (h := allocH h (2, 0, n)) (n := n) (if_pos rfl), z0]
      have hcA : cA = cs 2 := Option.some.inj (hNm.symm.trans (hK1.1.2 1 _ rfl).2)
      rw [← hcA]
      exact e1
theorem sn_newQ (hexec : p.tables.exec = Jvm.exec) (hb : c.code = cc) {own : String} {index : Nat} (hown : s.vm.findClass own = some m.cls) (hclink : (Jvm.Cond.classLink own index (sn_oN 1)).before args s = true)
    (hK1 : sn_Ks D cs s) (hw : sn_Wd b base Ls xs D cs h H) (hS : va_S (fun q => base < q) H0 H locs) {n : Nat} (hn : n ≤ 65536) (hcells : cells + 1 ≤ R.cells) (hslots : slots + n ≤ R.slots) (hdg : decode cc pc = .ok (.anewarray index, 3))
    (kk : ∀ (H1 : Heap), sn_Wd b base Ls xs D cs (allocH h (4, 1, n)) H1 → va_S (fun q => base < q) H0 H1 locs → W p l e R s m args below meth c H1 locs (cells + 1) (slots + n) Q (F0 m (pc + 3) ls (.ref (base + hN h) :: rest))) : W p l e R s m args below meth c H locs cells slots Q (F0 m pc ls (.int (nI n) :: rest)) := by
  have hw1 := hw.1
  have hcn : (nI n).toNatClampNeg = n := nI_clamp (by omega)
  refine W.anew hexec hb hown hclink (va_AO.use hK1.2.1) rfl hdg rfl (nI_pos (by omega)) (by rw [hcn]; omega) hcells (by rw [hcn]; exact hslots) fun cA kA comp f1 f2 f3 f4 => ?_
  rw [hcn, hw1]
  generalize hH1 : H.push ({ cls := cA, slots := Array.replicate n .null, vm := .none } : Cell) = H1
  have z1 : H1.size = H.size + 1 := by rw [← hH1, Array.size_push]
  have e1 : H1[H.size]? = some (arrV cA n (fun _ => .null)) := by rw [← hH1, Array.getElem?_push_size, ← arrV_new]
  have o1 : ∀ x, x < H.size → H1[x]? = H[x]? := fun x hx => by rw [← hH1, Array.getElem?_push, if_neg (Nat.ne_of_lt hx)]
  refine kk H1 (sn_Wd_new hw (by simp) ?_ z1 o1) (sn_S_new hS z1 o1)
  rw [sn_cell_q (p := hN h) (h := allocH h (4, 1, n)) (ci := 1) (n := n) (if_pos rfl)]
  have hcA : cA = cs 4 := by
    obtain ⟨kA', comp', g1, g2, g3, g4⟩ := (hK1.1.2 2 _ rfl).2
    exact Option.some.inj (f1.symm.trans g4)
  rw [← hcA]
  show H1[base + hN h]? = some (vp_cell _ _)
  rw [← hw1, e1, vp_cell_q]
  congr 2
  funext j
  have : hR (allocH h (4, 1, n)) (hN h) j = none := if_pos rfl
  simp [this, va_rf]
end SNM
end
section
/-! ===== THE MACHINE OF PLACES IS SOUND: what wpE says of a method's code, the real machine does ===== -/
/-- an end of a method -/
def sn_rt (m pc : Nat) (st : List Value) (r : Option Value) : Prop :=
  (decode (sn_mB m) pc = .ok (.ireturn, 1) ∧ ∃ x, st = [.int x] ∧ r = some (.int x) ∧ ∃ ty, sn_mR m = some ty ∧ narrow ty (.int x) = .int x) ∨
  (decode (sn_mB m) pc = .ok (.lreturn, 1) ∧ ∃ x, st = [.long x] ∧ r = some (.long x) ∧ sn_mR m = some .long) ∨
  (decode (sn_mB m) pc = .ok (.areturn, 1) ∧ ∃ x, st = [.ref x] ∧ r = some (.ref x) ∧ sn_mR m = some (.array .int)) ∨
  (decode (sn_mB m) pc = .ok (.return_, 1) ∧ st = [] ∧ r = none ∧ sn_mR m = none)
/-- what stays in a frame of method m -/
def sn_FX (b base Ls : Nat) (xs : Nat → Int32) (D : va_G) (cs : Nat → ClassId) (p : Program) (R : Room) (s : State) (mid : MethodId) (args : Array Value) (meth : Method) (cc : Code) (m : Nat) : Prop :=
  p.tables.exec = Jvm.exec ∧ cc.code = sn_mB m ∧ cc.maxLocals = sn_mL m ∧ s.vm.findClass (sn_oN (sn_mO m)) = some mid.cls ∧ (∀ w ∈ sn_TB, w.before args s = true) ∧ ((sn_mY m).name = "<init>" → meth.name = "<init>") ∧
  sn_fr m ≤ R.frames ∧ sn_lo m ≤ R.locals ∧ R.cells = sn_mc m ∧ R.slots = sn_ms m ∧ sn_Ks D cs s ∧ va_X b Ls xs s s.heap ∧ b ≤ base ∧ base < s.heap.size
def sn_END (b base Ls : Nat) (xs : Nat → Int32) (D : va_G) (cs : Nat → ClassId) (p : Program) (l : Launch) (e : Env) (R : Room) (s : State) (mid : MethodId) (args : Array Value) (below : List Frame) (meth : Method) (cc : Code) (Qs : State → Prop) (m : Nat) (Q : Option Value → sn_H → Prop) : Prop :=
  ∀ (r : Option Value) (h' : sn_H) (H' : Heap) (locs' : List Loc) (c1 c2 pc' : Nat) (ls' : Array Slot) (st' : List Value), sn_rt m pc' st' r → Q r h' → sn_Wd b base Ls xs D cs h' H' → va_S (fun q => base < q) s.heap H' locs' → c1 ≤ R.cells → c2 ≤ R.slots →
    W p l e R s mid args below meth cc H' locs' c1 c2 Qs (F0 mid pc' ls' (st'.map (sn_cv b base)))
def sn_SIM (b base Ls : Nat) (xs : Nat → Int32) (D : va_G) (cs : Nat → ClassId) (m pc : Nat) (L : sn_L) (st : List Value) (h : sn_H) (c : Nat × Nat) (Q : Option Value → sn_H → Prop) : Prop :=
  ∀ (p : Program) (l : Launch) (e : Env) (R : Room) (s : State) (mid : MethodId) (args : Array Value) (below : List Frame) (meth : Method) (cc : Code) (H : Heap) (locs : List Loc) (ls : Array Slot) (Qs : State → Prop),
    sn_FX b base Ls xs D cs p R s mid args meth cc m → c.1 ≤ R.cells → c.2 ≤ R.slots → sn_Wd b base Ls xs D cs h H → va_S (fun q => base < q) s.heap H locs → lv_has ls (sn_mL m) (sn_as b base 0 L) →
    sn_END b base Ls xs D cs p l e R s mid args below meth cc Qs m Q → W p l e R s mid args below meth cc H locs c.1 c.2 Qs (F0 mid pc ls (st.map (sn_cv b base)))
/-- a callee's words -/
def sn_wsy (y : Nat) : List Jvm.Cond := Jvm.Cond.code (sn_mY y) (sn_mB y) (sn_mL y) (sn_mR y) :: sn_TB
def sn_rmy (y : Nat) : Room := { frames := sn_fr y, cells := sn_mc y, slots := sn_ms y, locals := sn_lo y }
theorem sn_good {y : Nat} (hy : y + 1 < sn_NM) : GoodIn sn_TB (sn_wsy y) := by
  intro w hw
  have key : ∀ w, w ∈ sn_TB → w ∈ sn_TB ∧ ((w.onTables && w.keeps) = true ∨ ∃ ty, w = .arrayClass ty) := fun w h => ⟨h, good_of_word (List.mem_filter.mp h).2⟩
  rcases List.mem_cons.mp hw with h | h
  · rw [h]
    exact key _ (sn_tb _ (sn_meth hy).2.2.2.2.2.2.2.2.2 rfl)
  · exact key _ h
/-- a callee's end -/
def sn_Qc (b base Ls : Nat) (xs : Nat → Int32) (D : va_G) (cs : Nat → ClassId) (Q : Option Value → sn_H → Prop) : Array Value → State → Outcome → State → Prop := fun _ st oc t => (∃ r h', oc = .returned (r.map (sn_cv b base)) ∧ Q r h' ∧ sn_Wd b base Ls xs D cs h' t.heap) ∧ va_F (fun q => base < q) st t
section SNC
variable {b base Ls : Nat} {xs : Nat → Int32} {D : va_G} {cs : Nat → ClassId}
theorem sn_sl_len : ∀ as : List Value, (lg_sl (as.map (sn_cv b base))).length = (slL as).length
  | [] => rfl
  | v :: t => by
    have e1 : lg_sl ((v :: t).map (sn_cv b base)) = (if (sn_cv b base v).category = 2 then [.val (sn_cv b base v), .second] else [.val (sn_cv b base v)]) ++ lg_sl (t.map (sn_cv b base)) := by
      unfold lg_sl; simp [List.flatMap_cons]
    have e2 : slL (v :: t) = some v :: (bif Nat.beq v.category 2 then none :: slL t else slL t) := rfl
    rw [e1, e2, List.length_append, sn_sl_len t, sn_cv_cat]
    cases hc : Nat.beq v.category 2 with
    | true => rw [if_pos (Nat.eq_of_beq_eq_true hc)]; simp only [cond_true, List.length_cons, List.length_nil]; omega
    | false => rw [if_neg (Nat.ne_of_beq_eq_false hc)]; simp only [cond_false, List.length_cons, List.length_nil]; omega
/-- a callee's contract -/
theorem sn_met {y : Nat} (hy : y + 1 < sn_NM) (l : Launch) {as : List Value} {h : sn_H} {Q : Option Value → sn_H → Prop} (hb : b ≤ base) (hlen : (slL as).length ≤ sn_mL y) (H : sn_SIM b base Ls xs D cs y 0 (entL y as) [] h (0, 0) Q) :
    Met l (sn_mY y) (sn_wsy y) (sn_rmy y) (va_Pc (as.map (sn_cv b base)) (fun U => sn_Wd b base Ls xs D cs h U.heap ∧ sn_Ks D cs U ∧ va_X b Ls xs U U.heap))
      (sn_Qc b base Ls xs D cs Q) (sn_mc y) (sn_ms y) (fun q => base < q) := by
  obtain ⟨m1, m2, m3, m4, m5, m6, m7, m8, m9, m10⟩ := sn_meth hy
  refine Met.ofW (cc := sn_mB y) (maxL := sn_mL y) (ret := sn_mR y) m4 rfl ?_
  intro p e s mid args below meth c s₁ B hml hv
  obtain ⟨rfl, hWd, hKs, hX⟩ := hv
  have hts := atoms_spec (ws := sn_wsy y) B.pre
  have hown : s.vm.findClass (sn_mY y).cls = some mid.cls := findClass_of_methodNamed B.named
  rw [m2] at hown
  have hlocks := B.notSynchronized
  have hr := B.returns
  have hx := B.exec
  have hbb := B.bytes
  have hnm := (name_of_methodNamed B.named B.method).1
  have hsz : base < s.heap.size := by have h1 := hWd.1; have h2 := hWd.2.1; omega
  have hsl := sn_sl_len (b := b) (base := base) as
  have hl := lv_entry (as.map (sn_cv b base)) (n := sn_mL y) (by rw [hsl]; exact hlen)
  have hl2 : lv_has ((lg_sl (as.map (sn_cv b base)) ++ List.replicate (sn_mL y - (lg_sl (as.map (sn_cv b base))).length) Slot.unset).toArray) (sn_mL y) (sn_as b base 0 (entL y as)) :=
    ⟨hl.1, hl.2.1, fun q hq => hl.2.2 q (sn_args hq)⟩
  rw [lg_entry_eq]
  refine H p l e _ s mid _ below meth c s.heap [] _ _ ⟨hx, hbb, hml, hown, fun w hw => hts w (List.mem_cons_of_mem _ hw), fun h1 => hnm.trans h1, Nat.le_refl _, Nat.le_refl _, rfl, rfl, hKs, hX, hb, hsz⟩ (Nat.zero_le _) (Nat.zero_le _) hWd va_S.rf hl2 ?_
  intro r h' H' locs' c1 c2 pc' ls' st' hrt hQ hW' hS' hc1 hc2
  refine W.widen (k := sn_mc y) (n := sn_ms y) hc1 hc2 ?_
  rcases hrt with ⟨hd, x, rfl, rfl, ty, hty, hn⟩ | ⟨hd, x, rfl, rfl, hty⟩ | ⟨hd, x, rfl, rfl, hty⟩ | ⟨hd, rfl, rfl, hty⟩
  · exact W.zret (v := x) hx hbb (hr.trans hty) hn (fun t ht hW => ⟨⟨_, h', rfl, hQ, by rw [ht]; exact hW'⟩, hS'.F ht⟩) hS'.2.2 hd
  · exact W.lret (v := x) hx hbb (hr.trans hty) (fun t ht hW => ⟨⟨_, h', rfl, hQ, by rw [ht]; exact hW'⟩, hS'.F ht⟩) hS'.2.2 hd
  · exact W.aret (v := .ref (sn_ad b base x)) hx hbb (hr.trans hty) (Or.inr ⟨_, rfl⟩) (Or.inr ⟨_, rfl⟩) (fun t ht hW => ⟨⟨_, h', rfl, hQ, by rw [ht]; exact hW'⟩, hS'.F ht⟩) hS'.2.2 hd
  · exact W.vret hx hbb (hr.trans hty) (fun t ht hW => ⟨⟨_, h', rfl, hQ, by rw [ht]; exact hW'⟩, hS'.F ht⟩) hS'.2.2 hd
theorem sn_pre {as : List Value} {h : sn_H} : FrameBlind (va_Pc (as.map (sn_cv b base)) (fun U => sn_Wd b base Ls xs D cs h U.heap ∧ sn_Ks D cs U ∧ va_X b Ls xs U U.heap)) := by
  intro a U g mk q
  obtain ⟨q0, q1, q2, q3⟩ := q
  exact ⟨q0, q1, sn_Ks.same (s := U) (U := U.calling g mk a) rfl q2, va_X.moved (u := U) (U := U.calling g mk a) (Vm.Alike.refl U.vm) q3⟩
theorem sn_preU {as : List Value} {h : sn_H} {s U : State} {H : Heap} {locs : List Loc} (hKs : sn_Ks D cs s) (hX : va_X b Ls xs s s.heap) (hb : b ≤ base) (hsz : base < s.heap.size) (hWd : sn_Wd b base Ls xs D cs h H) (hS : va_S (fun q => base < q) s.heap H locs) (hU : U.heap = H) (hW : s.WarmedH U.vm) :
    va_Pc (as.map (sn_cv b base)) (fun U => sn_Wd b base Ls xs D cs h U.heap ∧ sn_Ks D cs U ∧ va_X b Ls xs U U.heap) (as.map (sn_cv b base)).toArray U :=
  ⟨rfl, by rw [hU]; exact hWd, sn_Ks.warm hW hKs, va_X.moved hW.alike ((by rw [hU]; exact hX.kept (hS.2.1 b (by omega) (by omega))))⟩
theorem sn_toL (r : Option Value) (rest : List Value) : (r.toList ++ rest).map (sn_cv b base) = (r.map (sn_cv b base)).toList ++ rest.map (sn_cv b base) := by cases r <;> rfl
/-- behind a call -/
theorem sn_callx {p : Program} {l : Launch} {e : Env} {R : Room} {s : State} {m : MethodId} {args : Array Value} {below : List Frame} {meth : Method} {c : Code} {H : Heap} {locs : List Loc} {cells slots mc ms pc : Nat} {Qs : State → Prop} {ls : Array Slot} {rest : List Value} {st0 : List Value} {Q : Option Value → sn_H → Prop} {H0 : Heap} {a : Array Value}
    (hr : va_Run p l e R s m args below meth c H locs cells slots mc ms (F0 m pc ls st0) rest (sn_Qc b base Ls xs D cs Q a) (fun q => base < q)) (hS : va_S (fun q => base < q) H0 H locs)
    (kk : ∀ (r : Option Value) (h' : sn_H) (H1 : Heap) (locs1 : List Loc), Q r h' → sn_Wd b base Ls xs D cs h' H1 → va_S (fun q => base < q) H0 H1 locs1 → W p l e R s m args below meth c H1 locs1 (cells + mc) (slots + ms) Qs (F0 m (pc + 3) ls ((r.map (sn_cv b base)).toList ++ rest))) : W p l e R s m args below meth c H locs cells slots Qs (F0 m pc ls st0) := by
  intro T hT X
  obtain ⟨v, st₀, t, T', L, h0, X', hL, e1, e2, ⟨⟨r, h', hv, hQ, hW⟩, hz, hk⟩, st⟩ := hr T hT X
  have hv2 : v = r.map (sn_cv b base) := by injection hv
  subst hv2
  rw [h0] at hz hk
  obtain ⟨t2, a1, b1⟩ := kk r h' T'.heap (locs ++ L) hQ (by rw [e1]; exact hW) ⟨Nat.le_trans hS.1 (by rw [e1]; exact hz), fun q h1 h2 => by rw [e1, hk q (Nat.lt_of_lt_of_le h1 hS.1) h2]; exact hS.2.1 q h1 h2, fun q hq => by
      rcases List.mem_append.mp hq with h | h
      · exact hS.2.2 q h
      · exact hL q h⟩ T' rfl X'
  exact ⟨t2, st t2 a1, b1⟩
end SNC
end
section
/-! ===== the main theorem of the machine of places ===== -/
theorem sn_tswM {x : Int32} {K : Int → Prop} : ∀ (l : List Int) (lo : Int), tswF x lo K l → ∀ (j : Nat) (o : Int), l[j]? = some o → x.toInt = lo + j → K o
  | [], _, _, j, o, h, _ => by simp at h
  | a :: l, lo, H, 0, o, h, hx => by
    simp at h
    subst h
    exact H.1 (by simpa using hx)
  | a :: l, lo, H, j + 1, o, h, hx => sn_tswM l (lo + 1) H.2 j o (by simpa using h) (by rw [hx]; simp; omega)
theorem sn_lswM {x : Int32} {d : Int} {K : Int → Prop} : ∀ (l : List (Int × Int)), lswF x d K l → K (Op.lookupswitch.offset l d x.toInt)
  | [], H => by
    have : Op.lookupswitch.offset [] d x.toInt = d := rfl
    rw [this]; exact H
  | (a, o) :: l, H => by
    rw [Op.lookupswitch.offset_cons]
    by_cases h : x.toInt = a
    · rw [if_pos (by exact h.symm)]
      exact H.1 h
    · rw [if_neg (fun q => h q.symm)]
      exact sn_lswM l (H.2 h)
theorem sn_lswP {d : Int} {x : Int} {P : Int → Prop} (hd : P d) : ∀ (l : List (Int × Int)), (∀ q ∈ l, P q.2) → P (Op.lookupswitch.offset l d x)
  | [], _ => hd
  | (a, o) :: l, h => by
    rw [Op.lookupswitch.offset_cons]
    split
    · exact h _ List.mem_cons_self
    · exact sn_lswP hd l (fun q hq => h q (List.mem_cons_of_mem _ hq))
theorem sn_flD {m n a b : Nat} (h : sn_flB m n a b = true) : a < sn_cl.length ∧ b < sn_fN a ∧ (Jvm.Cond.fieldLink (sn_oN (sn_mO m)) n (sn_cT a).1 ((sn_cT a).2.1 b).2.1 ((sn_cT a).2.1 b).2.2.1) ∈ sn_TB := by
  unfold sn_flB at h
  simp only [Bool.and_eq_true, decide_eq_true_eq] at h
  obtain ⟨⟨h1, h2⟩, h3⟩ := h
  obtain ⟨q, hq, he⟩ := List.mem_map.mp h1
  have hw := sn_fl_ok q hq
  simp only [Prod.mk.injEq] at he
  obtain ⟨e1, e2, e3, e4⟩ := he
  rw [e1, e2, e3, e4] at hw
  exact ⟨h2, h3, sn_tb _ hw rfl⟩
theorem sn_lkD {m n a b : Nat} (h : sn_lkB m n a b = true) : (b = 0 → Jvm.Cond.methodLink (sn_oN (sn_mO m)) n (sn_mY a) ∈ sn_TB) ∧ (∀ {D cs s}, b = 1 → sn_Ks D cs s → va_Nw (.methodLinkNest (sn_oN (sn_mO m)) n (sn_mY a) "SnapshotRings") s) := by
  unfold sn_lkB at h
  simp only [decide_eq_true_eq] at h
  obtain ⟨q, hq, he⟩ := List.mem_map.mp h
  have hw := sn_lk_ok q hq
  simp only [Prod.mk.injEq] at he
  obtain ⟨e1, e2, e3, e4⟩ := he
  rw [e1, e2, e3, e4] at hw
  refine ⟨fun hb => ?_, fun {D cs s} hb hKs => ?_⟩
  · subst hb
    exact sn_tb _ hw rfl
  · have := hKs.2.2 q hq (by rw [e4, hb])
    rw [e1, e2, e3] at this
    exact this
theorem sn_cnD {m n a b : Nat} (h : sn_cnB m n a b = true) (hb : b ≤ 1) : Jvm.Cond.constant (sn_oN (sn_mO m)) n (kI a b) ∈ sn_TB := by
  unfold sn_cnB at h
  simp only [decide_eq_true_eq] at h
  obtain ⟨q, hq, he⟩ := List.mem_map.mp h
  have hw := sn_cn_ok q hq
  simp only [Prod.mk.injEq] at he
  obtain ⟨e1, e2, e3, e4⟩ := he
  rw [e1, e2, e3, e4] at hw
  have : Nat.beq b 2 = false := by
    cases hc : Nat.beq b 2 with
    | false => rfl
    | true => have := Nat.eq_of_beq_eq_true hc; omega
  rw [this] at hw
  exact sn_tb _ hw rfl
theorem sn_cnD2 {m n a : Nat} (h : sn_cnB m n a 2 = true) : Jvm.Cond.constantLong (sn_oN (sn_mO m)) n (lN a) ∈ sn_TB := by
  unfold sn_cnB at h
  simp only [decide_eq_true_eq] at h
  obtain ⟨q, hq, he⟩ := List.mem_map.mp h
  have hw := sn_cn_ok q hq
  simp only [Prod.mk.injEq] at he
  obtain ⟨e1, e2, e3, e4⟩ := he
  rw [e1, e2, e3, e4] at hw
  exact sn_tb _ hw rfl
theorem sn_klD {m n a : Nat} (h : (sn_mO m, n, a) ∈ sn_kl.map (fun q => (q.1, q.2.1, q.2.2.1))) : Jvm.Cond.classLink (sn_oN (sn_mO m)) n (sn_oN a) ∈ sn_TB := by
  obtain ⟨q, hq, he⟩ := List.mem_map.mp h
  have hw := sn_kl_ok q hq
  simp only [Prod.mk.injEq] at he
  obtain ⟨e1, e2, e3⟩ := he
  rw [e1, e2, e3] at hw
  exact sn_tb _ hw rfl
theorem sn_alD {m n : Nat} {l : List (Nat × Nat × Nat)} {y : MethodName} (hl : ∀ q ∈ l, lw_tbl[q.2.2]? = some (.methodLink (sn_oN q.1) q.2.1 y)) (h : (sn_mO m, n) ∈ l.map (fun q => (q.1, q.2.1))) : Jvm.Cond.methodLink (sn_oN (sn_mO m)) n y ∈ sn_TB := by
  obtain ⟨q, hq, he⟩ := List.mem_map.mp h
  have hw := hl q hq
  simp only [Prod.mk.injEq] at he
  obtain ⟨e1, e2⟩ := he
  rw [e1, e2] at hw
  exact sn_tb _ hw rfl
theorem sn_rmD {m y : Nat} (h : sn_rmB m y = true) : sn_fr y + 1 ≤ sn_fr m ∧ 8 + (sn_mL y + 11) + sn_lo y ≤ sn_lo m ∧ y + 1 < sn_NM := by
  unfold sn_rmB at h
  simp only [Bool.and_eq_true, decide_eq_true_eq] at h
  exact ⟨h.1.1, h.1.2, h.2⟩
theorem sn_dcD {m pc len : Nat} {i : Instr} (h : dcB m pc i len = true) : decode (sn_mB m) pc = .ok (i, len) := by
  unfold dcB at h
  exact of_decide_eq_true h
theorem sn_pl {pc : Nat} {o : Int} (h : 0 ≤ (pc : Int) + o) : (pc : Int) + o = ((plF pc o : Nat) : Int) := by
  unfold plF; omega
set_option maxHeartbeats 40000000 in
set_option maxRecDepth 100000 in
theorem sn_step (b base Ls : Nat) (xs : Nat → Int32) (D : va_G) (cs : Nat → ClassId) : sn_cl1 (sn_SIM b base Ls xs D cs) := by
  intro m pc L st h c Q hsem p l e R s mid args below meth cc H locs ls Qs hFX hc1 hc2 hWd hS hL hE
  have hFX' := hFX
  obtain ⟨hx, hb, hml, hown, hts, hinit, hfr, hlo, hRc, hRs, hKs, hX, hbb, hsz⟩ := hFX'
  have go : ∀ {pc' : Nat} {L' : sn_L} {st' : List Value} {h' : sn_H} {c' : Nat × Nat} {H' : Heap} {locs' : List Loc} {ls' : Array Slot}, sn_SIM b base Ls xs D cs m pc' L' st' h' c' Q → c'.1 ≤ R.cells → c'.2 ≤ R.slots → sn_Wd b base Ls xs D cs h' H' → va_S (fun q => base < q) s.heap H' locs' → lv_has ls' (sn_mL m) (sn_as b base 0 L') → W p l e R s mid args below meth cc H' locs' c'.1 c'.2 Qs (F0 mid pc' ls' (st'.map (sn_cv b base))) :=
    fun K h1 h2 h3 h4 h5 => K p l e R s mid args below meth cc _ _ _ Qs hFX h1 h2 h3 h4 h5 hE
  unfold semF at hsem
  split at hsem
  · exact hsem.elim
  · rename_i i a b1 hcd
    have hok := sn_ok hcd
    cases i with
    | iconst n =>
      replace hsem := kF_d hsem
      simp only [okB, Bool.and_eq_true, decide_eq_true_eq] at hok
      exact lv_iconst hx hb (sn_dcD hok.1) hok.2 (go hsem hc1 hc2 hWd hS hL)
    | bipush n =>
      replace hsem := kF_d hsem
      simp only [okB, Bool.and_eq_true, decide_eq_true_eq] at hok
      exact lv_bipush hx hb (sn_dcD hok.1) hok.2 (go hsem hc1 hc2 hWd hS hL)
    | sipush n =>
      replace hsem := kF_d hsem
      simp only [okB, Bool.and_eq_true, decide_eq_true_eq] at hok
      exact lv_sipush hx hb (sn_dcD hok.1) hok.2 (go hsem hc1 hc2 hWd hS hL)
    | ldc n =>
      replace hsem := kF_d hsem
      simp only [okB, Bool.and_eq_true, decide_eq_true_eq] at hok
      exact lv_ldc hx hb hown (hts _ (sn_cnD hok.1.2 hok.2)) (sn_dcD hok.1.1) (go hsem hc1 hc2 hWd hS hL)
    | ldc_w n =>
      replace hsem := kF_d hsem
      simp only [okB, Bool.and_eq_true, decide_eq_true_eq] at hok
      exact lv_ldcw hx hb hown (hts _ (sn_cnD hok.1.2 hok.2)) (sn_dcD hok.1.1) (go hsem hc1 hc2 hWd hS hL)
    | ldc2_w n =>
      simp only [okB, Bool.and_eq_true] at hok
      exact lv_ldc2 hx hb hown (hts _ (sn_cnD2 hok.2)) (sn_dcD hok.1) (go hsem hc1 hc2 hWd hS hL)
    | iload_n k =>
      replace hsem := ldF_d hsem; obtain ⟨v, hv, hsem⟩ := hsem
      cases v <;> first | exact hsem.elim | exact lv_iload_n hx hb (sn_dcD hok) rfl (sn_at hL hv) (go hsem hc1 hc2 hWd hS hL)
    | iload k =>
      replace hsem := ldF_d hsem; obtain ⟨v, hv, hsem⟩ := hsem
      cases v <;> first | exact hsem.elim | exact lv_iload hx hb (sn_dcD hok) (sn_at hL hv) (go hsem hc1 hc2 hWd hS hL)
    | lload_n k =>
      replace hsem := ldF_d hsem; obtain ⟨v, hv, hsem⟩ := hsem
      cases v <;> first | exact hsem.elim | exact lv_lload_n hx hb (sn_dcD hok) rfl (sn_at hL hv) (go hsem hc1 hc2 hWd hS hL)
    | lload k =>
      replace hsem := ldF_d hsem; obtain ⟨v, hv, hsem⟩ := hsem
      cases v <;> first | exact hsem.elim | exact lv_lload hx hb (sn_dcD hok) (sn_at hL hv) (go hsem hc1 hc2 hWd hS hL)
    | aload_n k =>
      replace hsem := ldF_d hsem; obtain ⟨v, hv, hsem⟩ := hsem
      cases v <;> first | exact hsem.elim | exact lv_aload_n hx hb (sn_dcD hok) rfl (sn_at hL hv) (go hsem hc1 hc2 hWd hS hL)
    | aload k =>
      replace hsem := ldF_d hsem; obtain ⟨v, hv, hsem⟩ := hsem
      cases v <;> first | exact hsem.elim | exact lv_aload hx hb (sn_dcD hok) (sn_at hL hv) (go hsem hc1 hc2 hWd hS hL)
    | istore_n k =>
      replace hsem := i1F_d hsem; obtain ⟨x, r, rfl, hk, hsem⟩ := hsem
      exact lv_istore_n hx hb (sn_dcD hok) rfl hL hk rfl (fun ls' hl' => go hsem hc1 hc2 hWd hS (sn_stl1 (v := .int x) hl'))
    | istore k =>
      replace hsem := i1F_d hsem; obtain ⟨x, r, rfl, hk, hsem⟩ := hsem
      exact lv_istore hx hb (sn_dcD hok) hL hk rfl (fun ls' hl' => go hsem hc1 hc2 hWd hS (sn_stl1 (v := .int x) hl'))
    | astore_n k =>
      replace hsem := r1F_d hsem; obtain ⟨x, r, rfl, hk, hsem⟩ := hsem
      exact lv_astore_n hx hb (sn_dcD hok) rfl hL hk rfl (fun ls' hl' => go hsem hc1 hc2 hWd hS (sn_stl1 (v := .ref x) hl'))
    | astore k =>
      replace hsem := r1F_d hsem; obtain ⟨x, r, rfl, hk, hsem⟩ := hsem
      exact lv_astore hx hb (sn_dcD hok) hL hk rfl (fun ls' hl' => go hsem hc1 hc2 hWd hS (sn_stl1 (v := .ref x) hl'))
    | lstore_n k =>
      replace hsem := v1F_d hsem; obtain ⟨v, r, rfl, hsem⟩ := hsem
      cases v <;> first | exact hsem.elim | exact lv_lstore_n hx hb (sn_dcD hok) rfl hL hsem.1 rfl (fun ls' hl' => go hsem.2 hc1 hc2 hWd hS (sn_stl2 (v := .long _) hl'))
    | lstore k =>
      replace hsem := v1F_d hsem; obtain ⟨v, r, rfl, hsem⟩ := hsem
      cases v <;> first | exact hsem.elim | exact lv_lstore hx hb (sn_dcD hok) hL hsem.1 rfl (fun ls' hl' => go hsem.2 hc1 hc2 hWd hS (sn_stl2 (v := .long _) hl'))
    | iinc k n =>
      simp only [okB, Bool.and_eq_true, decide_eq_true_eq] at hok
      replace hsem := ldF_d hsem; obtain ⟨v, hv, hsem⟩ := hsem
      cases v with
      | int x =>
        have hmem : (k, Value.int x) ∈ sn_as b base 0 L := sn_as_mem.mpr ⟨k, .int x, by rw [← sn_nth_eq]; exact hv, by simp [sn_cv]⟩
        obtain ⟨j, hj⟩ := List.getElem?_of_mem hmem
        exact lv_iinc hx hb (sn_dcD hok.1) hL (k := j) hj (by rw [hok.2]) hsem.1 rfl (fun ls' hl' => go (kF_d hsem.2) hc1 hc2 hWd hS (sn_stl1 (v := .int (x + kI a b1)) hl'))
      | _ => exact hsem.elim
    | iadd => replace hsem := i2F_d hsem; obtain ⟨x, y, r, rfl, hsem⟩ := hsem; exact lv_iadd hx hb (sn_dcD hok) (go hsem hc1 hc2 hWd hS hL)
    | isub => replace hsem := i2F_d hsem; obtain ⟨x, y, r, rfl, hsem⟩ := hsem; exact lv_isub hx hb (sn_dcD hok) (go hsem hc1 hc2 hWd hS hL)
    | imul => replace hsem := i2F_d hsem; obtain ⟨x, y, r, rfl, hsem⟩ := hsem; exact lv_imul hx hb (sn_dcD hok) (go hsem hc1 hc2 hWd hS hL)
    | irem => replace hsem := i2F_d hsem; obtain ⟨x, y, r, rfl, hsem⟩ := hsem; exact lv_irem hx hb (sn_dcD hok) hsem.1 (go hsem.2 hc1 hc2 hWd hS hL)
    | iand => replace hsem := i2F_d hsem; obtain ⟨x, y, r, rfl, hsem⟩ := hsem; exact lv_iand hx hb (sn_dcD hok) (go hsem hc1 hc2 hWd hS hL)
    | ior => replace hsem := i2F_d hsem; obtain ⟨x, y, r, rfl, hsem⟩ := hsem; exact lv_ior hx hb (sn_dcD hok) (go hsem hc1 hc2 hWd hS hL)
    | ixor => replace hsem := i2F_d hsem; obtain ⟨x, y, r, rfl, hsem⟩ := hsem; exact lv_ixor hx hb (sn_dcD hok) (go hsem hc1 hc2 hWd hS hL)
    | ishl => replace hsem := i2F_d hsem; obtain ⟨x, y, r, rfl, hsem⟩ := hsem; exact lv_ishl hx hb (sn_dcD hok) (go hsem hc1 hc2 hWd hS hL)
    | ishr => replace hsem := i2F_d hsem; obtain ⟨x, y, r, rfl, hsem⟩ := hsem; exact lv_ishr hx hb (sn_dcD hok) (go hsem hc1 hc2 hWd hS hL)
    | iushr => replace hsem := i2F_d hsem; obtain ⟨x, y, r, rfl, hsem⟩ := hsem; exact lv_iushr hx hb (sn_dcD hok) rfl (go hsem hc1 hc2 hWd hS hL)
    | ineg => replace hsem := i1F_d hsem; obtain ⟨x, r, rfl, hsem⟩ := hsem; exact lv_ineg hx hb (sn_dcD hok) (go hsem hc1 hc2 hWd hS hL)
    | i2l => replace hsem := i1F_d hsem; obtain ⟨x, r, rfl, hsem⟩ := hsem; exact lv_i2l hx hb (sn_dcD hok) rfl (go hsem hc1 hc2 hWd hS hL)
    | i2c => replace hsem := i1F_d hsem; obtain ⟨x, r, rfl, hsem⟩ := hsem; exact lv_i2c hx hb (sn_dcD hok) rfl (go hsem hc1 hc2 hWd hS hL)
    | ladd => replace hsem := l2F_d hsem; obtain ⟨x, y, r, rfl, hsem⟩ := hsem; exact lv_ladd hx hb (sn_dcD hok) (go hsem hc1 hc2 hWd hS hL)
    | lmul => replace hsem := l2F_d hsem; obtain ⟨x, y, r, rfl, hsem⟩ := hsem; exact lv_lmul hx hb (sn_dcD hok) (go hsem hc1 hc2 hWd hS hL)
    | lcmp => replace hsem := l2F_d hsem; obtain ⟨x, y, r, rfl, hsem⟩ := hsem; exact W.lcmp hx hb (sn_dcD hok) (go hsem hc1 hc2 hWd hS hL)
    | dup => replace hsem := v1F_d hsem; obtain ⟨v, r, rfl, hc, hsem⟩ := hsem; exact lv_dup hx hb (sn_dcD hok) (by rw [sn_cv_cat]; exact hc) (go hsem hc1 hc2 hWd hS hL)
    | pop => replace hsem := v1F_d hsem; obtain ⟨v, r, rfl, hc, hsem⟩ := hsem; exact lv_pop hx hb (sn_dcD hok) (by rw [sn_cv_cat]; exact hc) (go hsem hc1 hc2 hWd hS hL)
    | dup2 =>
      replace hsem := v1F_d hsem; obtain ⟨v, r, rfl, hsem⟩ := hsem
      replace hsem := v1F_d (st := r) hsem; obtain ⟨w, r2, rfl, hcv, hcw, hsem⟩ := hsem
      exact lv_dup2_11 hx hb (sn_dcD hok) (by rw [sn_cv_cat]; exact hcv) (by rw [sn_cv_cat]; exact hcw) (go hsem hc1 hc2 hWd hS hL)
    | goto o =>
      simp only [okB, Bool.and_eq_true, decide_eq_true_eq] at hok
      exact lv_goto hx hb (sn_dcD hok.1) hok.2 (go hsem hc1 hc2 hWd hS hL)
    | ifCond co o =>
      simp only [okB, Bool.and_eq_true, decide_eq_true_eq] at hok
      replace hsem := i1F_d hsem; obtain ⟨x, r, rfl, hsem⟩ := hsem
      have hd := sn_dcD hok.1
      cases co with
      | eq => exact lv_if_eq hx hb hd hok.2 (fun q => go (hsem.1 q) hc1 hc2 hWd hS hL) (fun q => go (hsem.2 q) hc1 hc2 hWd hS hL)
      | ne => exact lv_if_ne hx hb hd hok.2 (fun q => go (hsem.1 q) hc1 hc2 hWd hS hL) (fun q => go (hsem.2 q) hc1 hc2 hWd hS hL)
      | lt => exact lv_if_lt hx hb hd hok.2 (fun q => go (hsem.1 q) hc1 hc2 hWd hS hL) (fun q => go (hsem.2 q) hc1 hc2 hWd hS hL)
      | ge => exact lv_if_ge hx hb hd hok.2 (fun q => go (hsem.1 q) hc1 hc2 hWd hS hL) (fun q => go (hsem.2 q) hc1 hc2 hWd hS hL)
      | gt => exact lv_if_gt hx hb hd hok.2 (fun q => go (hsem.1 q) hc1 hc2 hWd hS hL) (fun q => go (hsem.2 q) hc1 hc2 hWd hS hL)
      | le => exact lv_if_le hx hb hd hok.2 (fun q => go (hsem.1 q) hc1 hc2 hWd hS hL) (fun q => go (hsem.2 q) hc1 hc2 hWd hS hL)
    | if_icmp co o =>
      simp only [okB, Bool.and_eq_true, decide_eq_true_eq] at hok
      replace hsem := i2F_d hsem; obtain ⟨x, y, r, rfl, hsem⟩ := hsem
      have hd := sn_dcD hok.1
      cases co with
      | eq => exact lv_icmp_eq hx hb hd hok.2 (fun q => go (hsem.1 q) hc1 hc2 hWd hS hL) (fun q => go (hsem.2 q) hc1 hc2 hWd hS hL)
      | ne => exact lv_icmp_ne hx hb hd hok.2 (fun q => go (hsem.1 q) hc1 hc2 hWd hS hL) (fun q => go (hsem.2 q) hc1 hc2 hWd hS hL)
      | lt => exact lv_icmp_lt hx hb hd hok.2 (fun q => go (hsem.1 q) hc1 hc2 hWd hS hL) (fun q => go (hsem.2 q) hc1 hc2 hWd hS hL)
      | ge => exact lv_icmp_ge hx hb hd hok.2 (fun q => go (hsem.1 q) hc1 hc2 hWd hS hL) (fun q => go (hsem.2 q) hc1 hc2 hWd hS hL)
      | gt => exact lv_icmp_gt hx hb hd hok.2 (fun q => go (hsem.1 q) hc1 hc2 hWd hS hL) (fun q => go (hsem.2 q) hc1 hc2 hWd hS hL)
      | le => exact lv_icmp_le hx hb hd hok.2 (fun q => go (hsem.1 q) hc1 hc2 hWd hS hL) (fun q => go (hsem.2 q) hc1 hc2 hWd hS hL)
    | tableswitch d lo hi os =>
      simp only [okB, Bool.and_eq_true, decide_eq_true_eq] at hok
      obtain ⟨⟨⟨o1, o2⟩, o3⟩, o4⟩ := hok
      obtain ⟨len, hd⟩ : ∃ len, decode (sn_mB m) pc = .ok (.tableswitch d lo hi os, len) := by
        revert o1
        cases decode (sn_mB m) pc with
        | error => simp
        | ok q => obtain ⟨j, len⟩ := q; intro o1; simp at o1; subst o1; exact ⟨len, rfl⟩
      replace hsem := i1F_d hsem; obtain ⟨x, r, rfl, hsem⟩ := hsem
      by_cases hlo : x.toInt < lo
      · exact lv_tableOut hx hb hd (Or.inl hlo) (sn_pl o2) (go (hsem.2 (Or.inl hlo)) hc1 hc2 hWd hS hL)
      · by_cases hhi : hi < x.toInt
        · exact lv_tableOut hx hb hd (Or.inr hhi) (sn_pl o2) (go (hsem.2 (Or.inr hhi)) hc1 hc2 hWd hS hL)
        · have hlt : (x.toInt - lo).toNat < os.toList.length := by omega
          have hg : os.toList[(x.toInt - lo).toNat]? = some (os.toList[(x.toInt - lo).toNat]'hlt) := List.getElem?_eq_getElem hlt
          have hpos := List.all_eq_true.mp o3 _ (List.mem_of_getElem? hg)
          simp only [decide_eq_true_eq] at hpos
          refine lv_tableIn hx hb hd hlo hhi (by rw [← Array.getElem?_toList]; exact hg) (sn_pl hpos) (go (sn_tswM _ _ hsem.1 _ _ hg (by omega)) hc1 hc2 hWd hS hL)
    | lookupswitch d ps =>
      simp only [okB, Bool.and_eq_true, decide_eq_true_eq] at hok
      obtain ⟨⟨⟨o1, o2⟩, o3⟩, o4⟩ := hok
      obtain ⟨len, hd⟩ : ∃ len, decode (sn_mB m) pc = .ok (.lookupswitch d ps, len) := by
        revert o1
        cases decode (sn_mB m) pc with
        | error => simp
        | ok q => obtain ⟨j, len⟩ := q; intro o1; simp at o1; subst o1; exact ⟨len, rfl⟩
      replace hsem := i1F_d hsem; obtain ⟨x, r, rfl, hsem⟩ := hsem
      refine lv_lookup hx hb hd o4 rfl (sn_pl ?_) (go (sn_lswM _ hsem) hc1 hc2 hWd hS hL)
      exact sn_lswP (P := fun o => 0 ≤ (pc : Int) + o) o2 _ (fun q hq => by simpa using List.all_eq_true.mp o3 q hq)
    | getfield n =>
      simp only [okB, Bool.and_eq_true] at hok
      replace hsem := r1F_d hsem; obtain ⟨q1, r, rfl, hk, hsem⟩ := hsem
      obtain ⟨f1, f2, f3⟩ := sn_flD hok.2
      have had := (sn_lt hWd hk (by omega) (by simp)).2
      show W p l e R s mid args below meth cc H locs c.1 c.2 Qs (F0 mid pc ls (.ref (sn_ad b base q1) :: r.map (sn_cv b base)))
      rw [had]
      refine sn_get hx hb hts hown hKs hWd f1 f2 hk (hts _ f3) (sn_dcD hok.1) ?_
      unfold sn_fv
      cases hf : sn_fR a b1 with
      | true =>
        rw [hf] at hsem
        obtain ⟨q2, hq2, hsem⟩ := hsem
        rw [hq2]
        exact go hsem hc1 hc2 hWd hS hL
      | false =>
        rw [hf] at hsem
        exact go hsem hc1 hc2 hWd hS hL
    | putfield n =>
      simp only [okB, Bool.and_eq_true] at hok
      replace hsem := v1F_d hsem; obtain ⟨v, st1, rfl, hsem⟩ := hsem
      replace hsem := r1F_d hsem; obtain ⟨q1, r, rfl, hk, hsem⟩ := hsem
      obtain ⟨f1, f2, f3⟩ := sn_flD hok.1.2
      have had := (sn_lt hWd hk (by omega) (by simp)).2
      have hfin : sn_ff a b1 = true → meth.name = "<init>" ∧ sn_oN (sn_mO m) = sn_oN a := fun hf => by
        have h2 := hok.2
        rw [hf] at h2
        simp only [cond_true, Bool.and_eq_true, decide_eq_true_eq] at h2
        exact ⟨hinit h2.1, by rw [h2.2]⟩
      obtain ⟨g1, g2, g3, g4, g5, g6, g7, g8, g9, g10⟩ := sn_cls a f1
      show W p l e R s mid args below meth cc H locs c.1 c.2 Qs (F0 mid pc ls (sn_cv b base v :: .ref (sn_ad b base q1) :: r.map (sn_cv b base)))
      rw [had]
      cases v with
      | int x =>
        refine sn_put (h' := setG h q1 b1 x) (v := .int x) hx hb hts hown hKs hWd hS f1 f2 hk (hts _ f3) hfin ?_ ?_ ?_ rfl (fun _ => rfl) (fun y j hy => ?_) (fun _ _ _ => rfl) (sn_dcD hok.1.1) (fun H1 locs1 hW1 hS1 => go hsem.2 hc1 hc2 hW1 hS1 hL)
        · unfold sn_fv
          rw [hsem.1]
          show Value.int (if q1 = q1 ∧ b1 = b1 then x else _) = _
          rw [if_pos ⟨rfl, rfl⟩]
        · rw [g9 b1 f2 hsem.1]; rfl
        · rw [g9 b1 f2 hsem.1]; rfl
        · exact if_neg hy
      | ref q2 =>
        obtain ⟨k1, k2, k3⟩ := g8 b1 f2 hsem.1
        have hty : (∃ n, sn_tyc a b1 = .object n) ∨ (∃ t, sn_tyc a b1 = .array t) := by
          revert k3
          cases sn_tyc a b1 with
          | object n => exact fun _ => Or.inl ⟨n, rfl⟩
          | array t => exact fun _ => Or.inr ⟨t, rfl⟩
          | _ => simp [fits]
        refine sn_put (h' := setR h q1 b1 q2) (v := .ref (sn_ad b base q2)) hx hb hts hown hKs hWd hS f1 f2 hk (hts _ f3) hfin ?_ ?_ ?_ rfl (fun _ => rfl) (fun _ _ _ => rfl) (fun y j hy => ?_) (sn_dcD hok.1.1) (fun H1 locs1 hW1 hS1 => go hsem.2 hc1 hc2 hW1 hS1 hL)
        · unfold sn_fv
          rw [hsem.1]
          have : hR (setR h q1 b1 q2) q1 b1 = some q2 := if_pos ⟨rfl, rfl⟩
          rw [this]
        · rcases hty with ⟨n, hn⟩ | ⟨t, hn⟩ <;> rw [hn] <;> rfl
        · rcases hty with ⟨n, hn⟩ | ⟨t, hn⟩ <;> rw [hn] <;> rfl
        · exact if_neg hy
      | _ => exact hsem.elim
    | iaload =>
      replace hsem := irF_d hsem; obtain ⟨i, q1, r, rfl, x, n, hk, hin, hsem⟩ := hsem
      show W p l e R s mid args below meth cc H locs c.1 c.2 Qs (F0 mid pc ls (.int i :: .ref (sn_ad b base q1) :: r.map (sn_cv b base)))
      by_cases hq0 : q1 = 0
      · subst hq0
        have hk0 := hWd.2.2.2.2.1
        rw [hk] at hk0
        have hn : n = Ls := by simp at hk0; exact hk0.2
        subst hn
        have hlt : i.toNatClampNeg < n := Nat.not_le.mp fun q => hin (Or.inr q)
        refine va_sld (b := b) hx hb hX (by omega) (by omega) hS hin (sn_dcD hok) ?_
        rw [← hWd.2.2.2.2.2 _ hlt]
        exact go hsem hc1 hc2 hWd hS hL
      · have hq : 0 < q1 ∧ q1 < hN h := ⟨Nat.pos_of_ne_zero hq0, by
          rcases Nat.lt_or_ge q1 (hN h) with q | q
          · exact q
          · have := (hWd.2.2.2.1 q1).1 q
            rw [hk] at this
            simp at this⟩
        have had : sn_ad b base q1 = base + q1 := by unfold sn_ad; rw [if_neg hq0]
        rw [had]
        have he := sn_ws_get (b := b) (base := base) (cs := cs) hq
        have hcell : sn_cell b base cs h q1 = .inl (cs 1, n, .inl (hG h q1)) := by unfold sn_cell; rw [hk]; rfl
        rw [hcell] at he
        exact va_iald hx hb hKs.1 hWd.2.2.1 _ 0 he rfl hin (sn_dcD hok) (go hsem hc1 hc2 hWd hS hL)
    | caload =>
      replace hsem := irF_d hsem; obtain ⟨i, q1, r, rfl, n, hk, hin, hsem⟩ := hsem
      obtain ⟨hq, had⟩ := sn_lt hWd hk (by omega) (by simp)
      show W p l e R s mid args below meth cc H locs c.1 c.2 Qs (F0 mid pc ls (.int i :: .ref (sn_ad b base q1) :: r.map (sn_cv b base)))
      rw [had]
      have he := sn_ws_get (b := b) (base := base) (cs := cs) hq
      rw [sn_cell_c hk] at he
      exact va_cald hx hb hKs.1 hWd.2.2.1 _ 1 he rfl hin (sn_dcD hok) (go hsem hc1 hc2 hWd hS hL)
    | aaload =>
      replace hsem := irF_d hsem; obtain ⟨i, q1, r, rfl, ci, n, q2, hk, hin, hq2, hsem⟩ := hsem
      obtain ⟨hq, had⟩ := sn_lt hWd hk (by omega) (by simp)
      show W p l e R s mid args below meth cc H locs c.1 c.2 Qs (F0 mid pc ls (.int i :: .ref (sn_ad b base q1) :: r.map (sn_cv b base)))
      rw [had]
      have he := sn_ws_get (b := b) (base := base) (cs := cs) hq
      rw [sn_cell_q hk] at he
      refine va_aldq hx hb hKs.1 hWd.2.2.1 _ 2 he rfl hin (sn_dcD hok) ?_
      simp only [hq2, Option.map_some]
      exact go hsem hc1 hc2 hWd hS hL
    | iastore =>
      replace hsem := virF_d hsem; obtain ⟨v, i, q1, r, rfl, hsem⟩ := hsem
      cases v with
      | int x =>
        obtain ⟨n, hk, hin, hsem⟩ := hsem
        have had := (sn_lt hWd hk (by omega) (by simp)).2
        show W p l e R s mid args below meth cc H locs c.1 c.2 Qs (F0 mid pc ls (.int x :: .int i :: .ref (sn_ad b base q1) :: r.map (sn_cv b base)))
        rw [had]
        exact sn_iast hx hb hKs hWd hS hk hin (sn_dcD hok) (fun H1 locs1 hW1 hS1 => go hsem hc1 hc2 hW1 hS1 hL)
      | _ => exact hsem.elim
    | castore =>
      replace hsem := virF_d hsem; obtain ⟨v, i, q1, r, rfl, hsem⟩ := hsem
      cases v with
      | int x =>
        obtain ⟨n, hk, hin, hsem⟩ := hsem
        have had := (sn_lt hWd hk (by omega) (by simp)).2
        show W p l e R s mid args below meth cc H locs c.1 c.2 Qs (F0 mid pc ls (.int x :: .int i :: .ref (sn_ad b base q1) :: r.map (sn_cv b base)))
        rw [had]
        exact sn_cast hx hb hKs hWd hS hk hin (sn_dcD hok) (fun H1 locs1 hW1 hS1 => go hsem hc1 hc2 hW1 hS1 hL)
      | _ => exact hsem.elim
    | aastore =>
      replace hsem := virF_d hsem; obtain ⟨v, i, q1, r, rfl, hsem⟩ := hsem
      cases v with
      | ref q2 =>
        obtain ⟨ci, n, hk, hv, hin, hsem⟩ := hsem
        have hci : ci = 1 := by
          have := (hWd.2.2.2.1 q1).2
          rw [hk] at this
          exact this rfl
        subst hci
        have had := (sn_lt hWd hk (by omega) (by simp)).2
        have had2 := (sn_lt hWd hv (by omega) (by simp)).2
        show W p l e R s mid args below meth cc H locs c.1 c.2 Qs (F0 mid pc ls (.ref (sn_ad b base q2) :: .int i :: .ref (sn_ad b base q1) :: r.map (sn_cv b base)))
        rw [had, had2]
        exact sn_aast hx hb hKs hWd hS hk hv hin (sn_dcD hok) (fun H1 locs1 hW1 hS1 => go hsem hc1 hc2 hW1 hS1 hL)
      | _ => exact hsem.elim
    | arraylength =>
      replace hsem := r1F_d hsem; obtain ⟨q1, r, rfl, x, n, hk, hsem⟩ := hsem
      show W p l e R s mid args below meth cc H locs c.1 c.2 Qs (F0 mid pc ls (.ref (sn_ad b base q1) :: r.map (sn_cv b base)))
      by_cases hq0 : q1 = 0
      · subst hq0
        have hk0 := hWd.2.2.2.2.1
        rw [hk] at hk0
        have hn : n = Ls := by simp at hk0; exact hk0.2
        rw [hn] at hsem
        exact va_slen (b := b) hx hb hX (by omega) (by omega) hS (sn_dcD hok) (go hsem hc1 hc2 hWd hS hL)
      · have hq : 0 < q1 ∧ q1 < hN h := ⟨Nat.pos_of_ne_zero hq0, by
          rcases Nat.lt_or_ge q1 (hN h) with q | q
          · exact q
          · have := (hWd.2.2.2.1 q1).1 q
            rw [hk] at this
            simp at this⟩
        have had : sn_ad b base q1 = base + q1 := by unfold sn_ad; rw [if_neg hq0]
        rw [had]
        have he := sn_ws_get (b := b) (base := base) (cs := cs) hq
        have hcell : sn_cell b base cs h q1 = .inl (cs 1, n, .inl (hG h q1)) := by unfold sn_cell; rw [hk]; rfl
        rw [hcell] at he
        exact va_alen hx hb hKs.1 hWd.2.2.1 _ 0 he (ty := .int) rfl rfl (sn_dcD hok) (go hsem hc1 hc2 hWd hS hL)
    | new n =>
      simp only [okB, Bool.and_eq_true, decide_eq_true_eq] at hok
      obtain ⟨k1, k2, hsem⟩ := hsem
      have g1 : c.1 + 1 ≤ R.cells := by rw [hRc]; exact k1
      have g2 : c.2 + sn_fN a ≤ R.slots := by rw [hRs]; exact k2
      have had : sn_ad b base (hN h) = base + hN h := by unfold sn_ad; rw [if_neg (by have := hWd.2.1; omega)]
      refine sn_new hx hb hts hown hok.2 (hts _ (sn_klD hok.1.2)) hKs hWd hS g1 g2 (sn_dcD hok.1.1) (fun H1 hW1 hS1 => ?_)
      rw [← had]
      exact go hsem g1 g2 hW1 hS1 hL
    | newarray t =>
      simp only [okB, Bool.and_eq_true, Bool.or_eq_true, decide_eq_true_eq] at hok
      replace hsem := i1F_d hsem; obtain ⟨x, r, rfl, n, rfl, k0, k1, k2, hsem⟩ := hsem
      have g1 : c.1 + 1 ≤ R.cells := by rw [hRc]; exact k1
      have g2 : c.2 + n ≤ R.slots := by rw [hRs]; exact k2
      have had : sn_ad b base (hN h) = base + hN h := by unfold sn_ad; rw [if_neg (by have := hWd.2.1; omega)]
      refine sn_newI hx hb hok.2 ?_ hKs hWd hS k0 g1 g2 (sn_dcD hok.1) (fun H1 hW1 hS1 => ?_)
      · rcases hok.2 with ⟨rfl, -⟩ | ⟨rfl, -⟩
        · exact hts _ (sn_tb _ sn_ar_ok.1 rfl)
        · exact hts _ (sn_tb _ sn_ar_ok.2.1 rfl)
      · rw [← had]
        exact go hsem g1 g2 hW1 hS1 hL
    | anewarray n =>
      simp only [okB, Bool.and_eq_true, decide_eq_true_eq] at hok
      replace hsem := i1F_d hsem; obtain ⟨x, r, rfl, n1, rfl, k0, k1, k2, hsem⟩ := hsem
      have g1 : c.1 + 1 ≤ R.cells := by rw [hRc]; exact k1
      have g2 : c.2 + n1 ≤ R.slots := by rw [hRs]; exact k2
      have had : sn_ad b base (hN h) = base + hN h := by unfold sn_ad; rw [if_neg (by have := hWd.2.1; omega)]
      obtain ⟨⟨o1, o2⟩, o3⟩ := hok
      subst o3
      refine sn_newQ hx hb hown (hts _ (sn_klD o2)) hKs hWd hS k0 g1 g2 (sn_dcD o1) (fun H1 hW1 hS1 => ?_)
      rw [← had]
      exact go hsem g1 g2 hW1 hS1 hL
    | invokestatic n =>
      dsimp only at hsem
      simp only [okB, Bool.and_eq_true] at hok
      obtain ⟨o1, o2⟩ := hok
      have hd := sn_dcD o1
      cases h9 : Nat.beq a 9999 with
      | true =>
        rw [h9] at o2
        rw [h9] at hsem
        dsimp only at hsem
        simp only [cond_true, Bool.and_eq_true, decide_eq_true_eq] at o2
        obtain ⟨⟨p1, p2⟩, p3⟩ := o2
        split at hsem
        · rename_i n9 d9 pb s9 pa r
          obtain ⟨s', d', n', na, nb, rfl, rfl, rfl, z1, z2, z3, ka, kb, z4, z5, z6, hsem⟩ := hsem
          have ha1 := (sn_lt hWd ka (by omega) (by simp)).2
          have ha2 := (sn_lt hWd kb (by omega) (by simp)).2
          show W p l e R s mid args below meth cc H locs c.1 c.2 Qs (F0 mid pc ls (.int (nI n') :: .int (nI d') :: .ref (sn_ad b base pb) :: .int (nI s') :: .ref (sn_ad b base pa) :: r.map (sn_cv b base)))
          rw [ha1, ha2]
          refine sn_copy hx hb (by rw [hml]; exact hL.1.symm) hown (hts _ (sn_alD sn_al_ok p1)) (hts _ (sn_tb _ sn_ac_ok.2.1 rfl)) (hts _ (sn_tb _ sn_ac_ok.1 rfl)) (hts _ (sn_tb _ sn_ac_ok.2.2 rfl)) hKs hWd hS z1 z2 z3 ka kb z4 z5 (by omega) ?_ hd (fun H1 locs1 hW1 hS1 => go hsem hc1 hc2 hW1 hS1 hL)
          rw [sn_cats]
          have : nativeFrameWords "java/lang/System" "arraycopy" 5 = 7 := by decide +kernel
          rw [this]
          omega
        · exact hsem.elim
      | false =>
        rw [h9] at o2
        rw [h9] at hsem
        dsimp only at hsem
        simp only [cond_false] at o2
        cases h7 : Nat.beq a 9997 with
        | true =>
          rw [h7] at o2
          rw [h7] at hsem
          dsimp only at hsem
          simp only [cond_true, Bool.and_eq_true, decide_eq_true_eq] at o2
          obtain ⟨⟨p1, p2⟩, p3⟩ := o2
          replace hsem := i2F_d hsem; obtain ⟨x, y, r, rfl, z1, hsem⟩ := hsem
          refine va_mmin hx hb (by rw [hml]; exact hL.1.symm) hown (hts _ (sn_alD sn_nl_ok p1)) (hts _ (sn_tb _ sn_nc_ok.1 rfl)) (hts _ (sn_tb _ sn_nc_ok.2.1 rfl)) (hts _ (sn_tb _ sn_nc_ok.2.2 rfl)) (by omega) ?_ hc1 hc2 hd (go hsem hc1 hc2 hWd hS hL)
          show ((r.map (sn_cv b base)).map fun v => v.category).sum + 13 ≤ R.locals
          rw [sn_cats]
          omega
        | false =>
          rw [h7] at o2
          rw [h7] at hsem
          dsimp only at hsem
          simp only [cond_false, Bool.and_eq_true, decide_eq_true_eq] at o2
          obtain ⟨⟨⟨p1, p2⟩, p3⟩, p4⟩ := o2
          obtain ⟨r1, r2, hy⟩ := sn_rmD p3
          split at hsem
          · exact hsem.elim
          · rename_i as r hpop
            obtain ⟨z1, z2, z3, hlen, hsim⟩ := hsem
            obtain ⟨f, e1, e2, e3⟩ := popF_d hpop
            rw [List.append_nil] at e2
            subst e1
            subst e2
            obtain ⟨m1, m2, m3, m4, m5, m6, m7, m8, m9, m10⟩ := sn_meth hy
            rw [p4] at m5 m8
            have hM := sn_met hy l hbb hlen hsim
            have hn1 : (f.reverse.map (sn_cv b base)).length = sn_NA a := by simp [e3]
            have hst1 : (f ++ r).map (sn_cv b base) = (f.reverse.map (sn_cv b base)).reverse ++ r.map (sn_cv b base) := by simp
            have g1 : c.1 + sn_mc a ≤ R.cells := by rw [hRc]; exact z2
            have g2 : c.2 + sn_ms a ≤ R.slots := by rw [hRs]; exact z3
            have hini := hts _ (sn_tb _ m1 rfl)
            have hroom : (sn_rmy a).frames + 1 ≤ R.frames ∧ 8 + (sn_mL a + 11) + (sn_rmy a).locals ≤ R.locals := ⟨Nat.le_trans r1 hfr, Nat.le_trans r2 hlo⟩
            obtain ⟨lk1, lk2⟩ := sn_lkD p1
            have fin : va_Run p l e R s mid args below meth cc H locs c.1 c.2 (sn_mc a) (sn_ms a) (F0 mid pc ls ((f ++ r).map (sn_cv b base))) (r.map (sn_cv b base)) (sn_Qc b base Ls xs D cs (fun v h' => sn_SIM b base Ls xs D cs m (pc + 3) L (v.toList ++ r) h' (c.1 + sn_mc a, c.2 + sn_ms a) Q) (f.reverse.map (sn_cv b base)).toArray) (fun q => base < q) := by
              rcases Nat.eq_zero_or_pos b1 with hb0 | hb0
              · exact va_runS (As := f.reverse.map (sn_cv b base)) (rest := r.map (sn_cv b base)) ⟨hx, hb, hml, hown, hts⟩ hM ⟨callB_of (sn_NA a) hts (sn_good hy) rfl rfl rfl hini (hts _ (lk1 hb0)) ⟨m3.1, m3.2, m5⟩ hroom, hts _ (sn_tb _ m8 rfl)⟩ ⟨sn_pre, fun U hU hW => sn_preU hKs hX hbb hsz hWd hS hU hW⟩ rfl hn1 hL.1 hst1 (lv_room (by rw [sn_cats]; exact z1)) hd ⟨g1, g2⟩
              · exact va_runSN (As := f.reverse.map (sn_cv b base)) (rest := r.map (sn_cv b base)) ⟨hx, hb, hml, hown, hts⟩ hM ⟨va_cnB (sn_NA a) hts (sn_good hy) rfl rfl rfl (lk2 (by omega) hKs) hini ⟨m3.1, m3.2, m5⟩ hroom, hts _ (sn_tb _ m8 rfl), trivial⟩ ⟨sn_pre, fun U hU hW => sn_preU hKs hX hbb hsz hWd hS hU hW⟩ rfl hn1 hL.1 hst1 (lv_room (by rw [sn_cats]; exact z1)) hd ⟨g1, g2⟩
            refine sn_callx fin hS (fun v h' H1 locs1 hQ hW1 hS1 => ?_)
            rw [← sn_toL]
            exact go hQ g1 g2 hW1 hS1 hL
    | invokespecial n =>
      dsimp only at hsem
      simp only [okB, Bool.and_eq_true] at hok
      obtain ⟨o1, o2⟩ := hok
      have hd := sn_dcD o1
      cases h9 : Nat.beq a 9998 with
      | true =>
        rw [h9] at o2
        rw [h9] at hsem
        dsimp only at hsem
        simp only [cond_true, Bool.and_eq_true, decide_eq_true_eq] at o2
        obtain ⟨⟨p1, p2⟩, p3⟩ := o2
        replace hsem := r1F_d hsem; obtain ⟨q1, r, rfl, z1, hsem⟩ := hsem
        refine W.objInit hx hb hown (hts _ (sn_alD sn_ol_ok p1)) (hts _ (sn_tb _ sn_oc_ok.1 rfl)) (hts _ (sn_tb _ sn_oc_ok.2 rfl)) rfl (by rw [hml]; exact hL.1) (a := sn_ad b base q1) (rest := r.map (sn_cv b base)) rfl hd (by omega) ?_ (go hsem hc1 hc2 hWd hS hL)
        show 2 * 0 + ((r.map (sn_cv b base)).map fun v => v.category).sum + 12 ≤ R.locals
        rw [sn_cats]
        omega
      | false =>
        rw [h9] at o2
        rw [h9] at hsem
        dsimp only at hsem
        simp only [cond_false, Bool.and_eq_true, Bool.not_eq_true', decide_eq_true_eq] at o2
        obtain ⟨⟨⟨⟨p1, p2⟩, p3⟩, p4⟩, p5⟩ := o2
        obtain ⟨r1, r2, hy⟩ := sn_rmD p3
        split at hsem
        · rename_i q1 as r hpop
          obtain ⟨z1, z2, z3, hlen, hsim⟩ := hsem
          obtain ⟨f, e1, e2, e3⟩ := popF_d hpop
          rw [List.append_nil] at e2
          subst e1
          obtain ⟨m1, m2, m3, m4, m5, m6, m7, m8, m9, m10⟩ := sn_meth hy
          rw [p4] at m5 m8
          have hM := sn_met hy l hbb hlen hsim
          have hf : f = as.reverse ++ [.ref q1] := by
            have := congrArg List.reverse e2
            simpa using this.symm
          have hn1 : (as.map (sn_cv b base)).length = sn_NA a - 1 := by
            rw [hf] at e3
            simp at e3
            simp; omega
          have hst1 : (f ++ r).map (sn_cv b base) = (as.map (sn_cv b base)).reverse ++ .ref (sn_ad b base q1) :: r.map (sn_cv b base) := by
            rw [hf]; simp [sn_cv]
          have g1 : c.1 + sn_mc a ≤ R.cells := by rw [hRc]; exact z2
          have g2 : c.2 + sn_ms a ≤ R.slots := by rw [hRs]; exact z3
          have hini := hts _ (sn_tb _ m1 rfl)
          have hroom : (sn_rmy a).frames + 1 ≤ R.frames ∧ 8 + (sn_mL a + 11) + (sn_rmy a).locals ≤ R.locals := ⟨Nat.le_trans r1 hfr, Nat.le_trans r2 hlo⟩
          obtain ⟨lk1, lk2⟩ := sn_lkD p1
          have hgd := sn_good hy
          unfold sn_wsy at hM hgd
          rw [m7 p5] at hM hgd
          have fin : va_Run p l e R s mid args below meth cc H locs c.1 c.2 (sn_mc a) (sn_ms a) (F0 mid pc ls ((f ++ r).map (sn_cv b base))) (r.map (sn_cv b base)) (sn_Qc b base Ls xs D cs (fun v h' => sn_SIM b base Ls xs D cs m (pc + 3) L (v.toList ++ r) h' (c.1 + sn_mc a, c.2 + sn_ms a) Q) (Value.ref (sn_ad b base q1) :: as.map (sn_cv b base)).toArray) (fun q => base < q) := by
            rcases Nat.eq_zero_or_pos b1 with hb0 | hb0
            · exact va_runI (As := as.map (sn_cv b base)) (rest := r.map (sn_cv b base)) (b := sn_ad b base q1) ⟨hx, hb, hml, hown, hts⟩ hM ⟨callB_of (sn_NA a - 1) hts hgd rfl rfl rfl hini (hts _ (lk1 hb0)) ⟨m3.1, m3.2, m5⟩ hroom, p5, hts _ (sn_tb _ m8 rfl)⟩ ⟨sn_pre, fun U hU hW => sn_preU (as := .ref q1 :: as) hKs hX hbb hsz hWd hS hU hW⟩ rfl hn1 hL.1 hst1 (lv_room (by rw [sn_cats]; exact z1)) hd ⟨g1, g2⟩
            · exact va_runIN (As := as.map (sn_cv b base)) (rest := r.map (sn_cv b base)) (b := sn_ad b base q1) ⟨hx, hb, hml, hown, hts⟩ hM ⟨va_cnB (sn_NA a - 1) hts hgd rfl rfl rfl (lk2 (by omega) hKs) hini ⟨m3.1, m3.2, m5⟩ hroom, p5, hts _ (sn_tb _ m8 rfl)⟩ ⟨sn_pre, fun U hU hW => sn_preU (as := .ref q1 :: as) hKs hX hbb hsz hWd hS hU hW⟩ rfl hn1 hL.1 hst1 (lv_room (by rw [sn_cats]; exact z1)) hd ⟨g1, g2⟩
          refine sn_callx fin hS (fun v h' H1 locs1 hQ hW1 hS1 => ?_)
          rw [← sn_toL]
          exact go hQ g1 g2 hW1 hS1 hL
        · exact hsem.elim
    | invokevirtual n =>
      simp only [okB, Bool.and_eq_true, Bool.not_eq_true', decide_eq_true_eq] at hok
      obtain ⟨⟨⟨⟨⟨o1, p1⟩, p3⟩, p4⟩, p5⟩, p6⟩ := hok
      have hd := sn_dcD o1
      obtain ⟨r1, r2, hy⟩ := sn_rmD p3
      dsimp only at hsem
      split at hsem
      · rename_i q1 as r hpop
        obtain ⟨hk, z1, z2, z3, hlen, hsim⟩ := hsem
        obtain ⟨f, e1, e2, e3⟩ := popF_d hpop
        rw [List.append_nil] at e2
        subst e1
        obtain ⟨m1, m2, m3, m4, m5, m6, m7, m8, m9, m10⟩ := sn_meth hy
        rw [p4] at m5 m8
        have hM := sn_met hy l hbb hlen hsim
        have hf : f = as.reverse ++ [.ref q1] := by
          have := congrArg List.reverse e2
          simpa using this.symm
        have hn1 : (as.map (sn_cv b base)).length = sn_NA a - 1 := by
          rw [hf] at e3
          simp at e3
          simp; omega
        obtain ⟨hq, had⟩ := sn_lt hWd hk (by omega) (by simp)
        have hst1 : (f ++ r).map (sn_cv b base) = (as.map (sn_cv b base)).reverse ++ .ref (base + q1) :: r.map (sn_cv b base) := by
          rw [hf]; simp [sn_cv, had]
        have g1 : c.1 + sn_mc a ≤ R.cells := by rw [hRc]; exact z2
        have g2 : c.2 + sn_ms a ≤ R.slots := by rw [hRs]; exact z3
        have hini := hts _ (sn_tb _ m1 rfl)
        have hroom : (sn_rmy a).frames + 1 ≤ R.frames ∧ 8 + (sn_mL a + 11) + (sn_rmy a).locals ≤ R.locals := ⟨Nat.le_trans r1 hfr, Nat.le_trans r2 hlo⟩
        obtain ⟨lk1, lk2⟩ := sn_lkD p1
        obtain ⟨c1, c2, c3, c4, c5, c6, c7, c8, c9, c10⟩ := sn_cls (sn_mO a) p6
        have he := sn_ws_get (b := b) (base := base) (cs := cs) hq
        rw [sn_cell_o hk] at he
        obtain ⟨cellB, y1, y2, y3⟩ := va_recv hKs.1 hWd.2.2.1 c1 he
        rw [c2, ← m2] at y3
        have fin : va_Run p l e R s mid args below meth cc H locs c.1 c.2 (sn_mc a) (sn_ms a) (F0 mid pc ls ((f ++ r).map (sn_cv b base))) (r.map (sn_cv b base)) (sn_Qc b base Ls xs D cs (fun v h' => sn_SIM b base Ls xs D cs m (pc + 3) L (v.toList ++ r) h' (c.1 + sn_mc a, c.2 + sn_ms a) Q) (Value.ref (base + q1) :: as.map (sn_cv b base)).toArray) (fun q => base < q) :=
          va_runV (C := (sn_mY a).cls) (As := as.map (sn_cv b base)) (rest := r.map (sn_cv b base)) (b := base + q1) ⟨hx, hb, hml, hown, hts⟩ hM ⟨callB_of (sn_NA a - 1) hts (sn_good hy) rfl rfl rfl hini (hts _ (lk1 rfl)) ⟨m3.1, m3.2, m5⟩ hroom, hts _ (sn_tb _ m8 rfl), hts _ (sn_tb _ (m9 p4 p5) rfl)⟩ ⟨sn_pre, ⟨cellB, y1, y2, y3⟩, fun U hU hW => by
            have := sn_preU (as := .ref q1 :: as) hKs hX hbb hsz hWd hS hU hW
            rw [← had]
            exact this⟩ rfl hn1 hL.1 hst1 (lv_room (by rw [sn_cats]; exact z1)) hd ⟨g1, g2⟩
        refine sn_callx fin hS (fun v h' H1 locs1 hQ hW1 hS1 => ?_)
        rw [← sn_toL]
        exact go hQ g1 g2 hW1 hS1 hL
      · exact hsem.elim
    | ireturn =>
      dsimp only at hsem
      split at hsem
      · rename_i x
        have hd := sn_dcD hok
        split at hsem
        · rename_i hR
          exact hE (some (.int x)) h H locs c.1 c.2 pc ls [.int x] (Or.inl ⟨hd, x, rfl, rfl, .int, hR, rfl⟩) hsem hWd hS hc1 hc2
        · rename_i ty hR1 hR
          exact hE (some (.int x)) h H locs c.1 c.2 pc ls [.int x] (Or.inl ⟨hd, x, rfl, rfl, ty, hR, hsem.1⟩) hsem.2 hWd hS hc1 hc2
        · exact hsem.elim
      · exact hsem.elim
    | lreturn =>
      dsimp only at hsem
      split at hsem
      · rename_i x
        exact hE (some (.long x)) h H locs c.1 c.2 pc ls [.long x] (Or.inr (Or.inl ⟨sn_dcD hok, x, rfl, rfl, hsem.1⟩)) hsem.2 hWd hS hc1 hc2
      · exact hsem.elim
    | areturn =>
      dsimp only at hsem
      split at hsem
      · rename_i x
        exact hE (some (.ref x)) h H locs c.1 c.2 pc ls [.ref x] (Or.inr (Or.inr (Or.inl ⟨sn_dcD hok, x, rfl, rfl, hsem.1⟩))) hsem.2 hWd hS hc1 hc2
      · exact hsem.elim
    | return_ =>
      dsimp only at hsem
      split at hsem
      · exact hE none h H locs c.1 c.2 pc ls [] (Or.inr (Or.inr (Or.inr ⟨sn_dcD hok, rfl, rfl, hsem.1⟩))) hsem.2 hWd hS hc1 hc2
      · exact hsem.elim
    | _ => exact hsem.elim
end
section
/-! ===== fewer known locals say more; words for what follows ===== -/
def LEl (L L' : sn_L) : Prop := L.length ≤ L'.length ∧ ∀ (i : Nat) (v : Value), L[i]? = some (some v) → L'[i]? = some (some v)
theorem clrL_len (L : sn_L) (i : Nat) : (clrL L i).length = L.length := by
  cases i with
  | zero => rfl
  | succ i =>
    dsimp only [clrL]
    split
    · rename_i v _
      cases Nat.beq v.category 2 <;> simp
    · rfl
theorem clrL_set {L : sn_L} {i j : Nat} {w : Value} (h : L[j]? = some (some w)) (hw : ¬ (j + 1 = i ∧ w.category = 2)) : (clrL L i)[j]? = some (some w) := by
  cases i with
  | zero => exact h
  | succ i =>
    dsimp only [clrL]
    rw [sn_nth_eq]
    split
    · rename_i v hv
      cases hc : Nat.beq v.category 2 with
      | true =>
        simp only [cond_true]
        by_cases hj : j = i
        · subst hj
          rw [hv] at h
          have e : v = w := Option.some.inj (Option.some.inj h)
          exact absurd ⟨rfl, by rw [← e]; exact Nat.eq_of_beq_eq_true hc⟩ hw
        · rw [List.getElem?_set_ne (fun q => hj q.symm)]
          exact h
      | false => exact h
    · exact h
theorem LEl_clr {L L' : sn_L} (h : LEl L L') (i : Nat) : LEl (clrL L i) (clrL L' i) := by
  refine ⟨by rw [clrL_len, clrL_len]; exact h.1, fun j w hj => ?_⟩
  obtain ⟨g1, g2⟩ := clrL_get hj
  exact clrL_set (h.2 j w g1) g2
theorem LEl_set {L L' : sn_L} (h : LEl L L') (i : Nat) (x : Option Value) : LEl (L.set i x) (L'.set i x) := by
  refine ⟨by simpa using h.1, fun j w hj => ?_⟩
  by_cases hji : j = i
  · subst hji
    have hl := (List.getElem?_eq_some_iff.mp hj).1
    have hl2 : j < L.length := by simpa using hl
    rw [List.getElem?_set_self hl2] at hj
    rw [List.getElem?_set_self (Nat.lt_of_lt_of_le hl2 h.1)]
    exact hj
  · rw [List.getElem?_set_ne (fun q => hji q.symm)] at hj ⊢
    exact h.2 j w hj
theorem LEl_stL {L L' : sn_L} (h : LEl L L') (i : Nat) (v : Value) : LEl (stL L i v) (stL L' i v) := LEl_set (LEl_clr h i) i _
theorem LEl_stLL {L L' : sn_L} (h : LEl L L') (i : Nat) (v : Value) : LEl (stLL L i v) (stLL L' i v) := LEl_set (LEl_set (LEl_clr h i) i _) (i + 1) none
theorem ldF_w {L L' : sn_L} (hL : LEl L L') {i : Nat} {k k' : Value → Prop} (h : ∀ v, k v → k' v) (H : ldF L i k) : ldF L' i k' := by
  obtain ⟨v, hv, H⟩ := ldF_d H
  rw [sn_nth_eq] at hv
  have := hL.2 i v hv
  unfold ldF
  rw [sn_nth_eq, this]
  exact h v H
set_option maxHeartbeats 4000000 in
theorem semF_w {K KA K' KA' : Nat → sn_L → List Value → sn_H → Nat × Nat → Prop} {C C' : Nat → List Value → sn_H → (Option Value → sn_H → Prop) → Prop} {Q Q' : Option Value → sn_H → Prop} {m pc : Nat} {L L1 : sn_L} {st : List Value} {h : sn_H} {c : Nat × Nat}
    (hL : LEl L L1) (hK1 : ∀ pc L L1 st h c, LEl L L1 → K pc L st h c → K' pc L1 st h c) (hA : ∀ pc L L1 st h c, LEl L L1 → KA pc L st h c → KA' pc L1 st h c)
    (hC : ∀ y as h (Q1 Q2 : Option Value → sn_H → Prop), (∀ v h, Q1 v h → Q2 v h) → C y as h Q1 → C' y as h Q2) (hQ : ∀ v h, Q v h → Q' v h) :
    semF K KA C Q m pc L st h c → semF K' KA' C' Q' m pc L1 st h c := by
  unfold semF
  split
  · exact id
  · rename_i i a b _
    cases i with
    | iconst _ => exact kF_m (fun _ => hK1 _ _ _ _ _ _ hL)
    | bipush _ => exact kF_m (fun _ => hK1 _ _ _ _ _ _ hL)
    | sipush _ => exact kF_m (fun _ => hK1 _ _ _ _ _ _ hL)
    | ldc _ => exact kF_m (fun _ => hK1 _ _ _ _ _ _ hL)
    | ldc_w _ => exact kF_m (fun _ => hK1 _ _ _ _ _ _ hL)
    | ldc2_w _ => exact hK1 _ _ _ _ _ _ hL
    | iload_n _ => exact ldF_w hL (fun v H => by cases v <;> first | exact hK1 _ _ _ _ _ _ hL H | exact H)
    | iload _ => exact ldF_w hL (fun v H => by cases v <;> first | exact hK1 _ _ _ _ _ _ hL H | exact H)
    | lload_n _ => exact ldF_w hL (fun v H => by cases v <;> first | exact hK1 _ _ _ _ _ _ hL H | exact H)
    | lload _ => exact ldF_w hL (fun v H => by cases v <;> first | exact hK1 _ _ _ _ _ _ hL H | exact H)
    | aload_n _ => exact ldF_w hL (fun v H => by cases v <;> first | exact hK1 _ _ _ _ _ _ hL H | exact H)
    | aload _ => exact ldF_w hL (fun v H => by cases v <;> first | exact hK1 _ _ _ _ _ _ hL H | exact H)
    | istore_n _ => exact i1F_m (fun x r H => ⟨H.1, hK1 _ _ _ _ _ _ (LEl_stL hL _ _) H.2⟩)
    | istore _ => exact i1F_m (fun x r H => ⟨H.1, hK1 _ _ _ _ _ _ (LEl_stL hL _ _) H.2⟩)
    | astore_n _ => exact r1F_m (fun x r H => ⟨H.1, hK1 _ _ _ _ _ _ (LEl_stL hL _ _) H.2⟩)
    | astore _ => exact r1F_m (fun x r H => ⟨H.1, hK1 _ _ _ _ _ _ (LEl_stL hL _ _) H.2⟩)
    | lstore_n _ => exact v1F_m (fun v r H => by cases v <;> first | exact ⟨H.1, hK1 _ _ _ _ _ _ (LEl_stLL hL _ _) H.2⟩ | exact H)
    | lstore _ => exact v1F_m (fun v r H => by cases v <;> first | exact ⟨H.1, hK1 _ _ _ _ _ _ (LEl_stLL hL _ _) H.2⟩ | exact H)
    | iinc _ _ => exact ldF_w hL (fun v H => by cases v <;> first | exact ⟨H.1, kF_m (fun _ => hK1 _ _ _ _ _ _ (LEl_stL hL _ _)) H.2⟩ | exact H)
    | iadd => exact i2F_m (fun _ _ _ H => hK1 _ _ _ _ _ _ hL H)
    | isub => exact i2F_m (fun _ _ _ H => hK1 _ _ _ _ _ _ hL H)
    | imul => exact i2F_m (fun _ _ _ H => hK1 _ _ _ _ _ _ hL H)
    | irem => exact i2F_m (fun _ _ _ H => ⟨H.1, hK1 _ _ _ _ _ _ hL H.2⟩)
    | iand => exact i2F_m (fun _ _ _ H => hK1 _ _ _ _ _ _ hL H)
    | ior => exact i2F_m (fun _ _ _ H => hK1 _ _ _ _ _ _ hL H)
    | ixor => exact i2F_m (fun _ _ _ H => hK1 _ _ _ _ _ _ hL H)
    | ishl => exact i2F_m (fun _ _ _ H => hK1 _ _ _ _ _ _ hL H)
    | ishr => exact i2F_m (fun _ _ _ H => hK1 _ _ _ _ _ _ hL H)
    | iushr => exact i2F_m (fun _ _ _ H => hK1 _ _ _ _ _ _ hL H)
    | ineg => exact i1F_m (fun _ _ H => hK1 _ _ _ _ _ _ hL H)
    | i2l => exact i1F_m (fun _ _ H => hK1 _ _ _ _ _ _ hL H)
    | i2c => exact i1F_m (fun _ _ H => hK1 _ _ _ _ _ _ hL H)
    | ladd => exact l2F_m (fun _ _ _ H => hK1 _ _ _ _ _ _ hL H)
    | lmul => exact l2F_m (fun _ _ _ H => hK1 _ _ _ _ _ _ hL H)
    | lcmp => exact l2F_m (fun _ _ _ H => hK1 _ _ _ _ _ _ hL H)
    | dup => exact v1F_m (fun _ _ H => ⟨H.1, hK1 _ _ _ _ _ _ hL H.2⟩)
    | pop => exact v1F_m (fun _ _ H => ⟨H.1, hK1 _ _ _ _ _ _ hL H.2⟩)
    | dup2 => exact v1F_m (fun _ _ => v1F_m (fun _ _ H => ⟨H.1, H.2.1, hK1 _ _ _ _ _ _ hL H.2.2⟩))
    | goto _ => exact hK1 _ _ _ _ _ _ hL
    | ifCond _ _ => exact i1F_m (fun _ _ => brF_m (hK1 _ _ _ _ _ _ hL) (hK1 _ _ _ _ _ _ hL))
    | if_icmp _ _ => exact i2F_m (fun _ _ _ => brF_m (hK1 _ _ _ _ _ _ hL) (hK1 _ _ _ _ _ _ hL))
    | tableswitch _ _ _ _ => exact i1F_m (fun _ _ H => ⟨tswF_m (fun _ => hK1 _ _ _ _ _ _ hL) _ _ H.1, fun q => hK1 _ _ _ _ _ _ hL (H.2 q)⟩)
    | lookupswitch _ _ => exact i1F_m (fun _ _ => lswF_m (fun _ => hK1 _ _ _ _ _ _ hL) _)
    | getfield _ => exact r1F_m (fun p r H => ⟨H.1, by
        have H2 := H.2
        revert H2
        cases sn_fR a b
        · exact hK1 _ _ _ _ _ _ hL
        · exact fun ⟨q, e, H⟩ => ⟨q, e, hK1 _ _ _ _ _ _ hL H⟩⟩)
    | putfield _ => exact v1F_m (fun v _ => r1F_m (fun p r H => ⟨H.1, by
        have H2 := H.2
        revert H2
        cases v <;> first | exact fun H => ⟨H.1, hK1 _ _ _ _ _ _ hL H.2⟩ | exact id⟩))
    | iaload => exact irF_m (fun _ _ _ ⟨x, n, e, f, H⟩ => ⟨x, n, e, f, hK1 _ _ _ _ _ _ hL H⟩)
    | caload => exact irF_m (fun _ _ _ ⟨n, e, f, H⟩ => ⟨n, e, f, hK1 _ _ _ _ _ _ hL H⟩)
    | aaload => exact irF_m (fun _ _ _ ⟨ci, n, q, e, f, g, H⟩ => ⟨ci, n, q, e, f, g, hK1 _ _ _ _ _ _ hL H⟩)
    | iastore => exact virF_m (fun v _ _ _ => by cases v <;> first | exact fun ⟨n, e, f, H⟩ => ⟨n, e, f, hK1 _ _ _ _ _ _ hL H⟩ | exact id)
    | castore => exact virF_m (fun v _ _ _ => by cases v <;> first | exact fun ⟨n, e, f, H⟩ => ⟨n, e, f, hK1 _ _ _ _ _ _ hL H⟩ | exact id)
    | aastore => exact virF_m (fun v _ _ _ => by cases v <;> first | exact fun ⟨ci, n, e, f, g, H⟩ => ⟨ci, n, e, f, g, hK1 _ _ _ _ _ _ hL H⟩ | exact id)
    | arraylength => exact r1F_m (fun _ _ ⟨x, n, e, H⟩ => ⟨x, n, e, hK1 _ _ _ _ _ _ hL H⟩)
    | new _ => exact fun H => ⟨H.1, H.2.1, hK1 _ _ _ _ _ _ hL H.2.2⟩
    | newarray _ => exact i1F_m (fun _ _ ⟨n, e, f, g, k, H⟩ => ⟨n, e, f, g, k, hK1 _ _ _ _ _ _ hL H⟩)
    | anewarray _ => exact i1F_m (fun _ _ ⟨n, e, f, g, k, H⟩ => ⟨n, e, f, g, k, hK1 _ _ _ _ _ _ hL H⟩)
    | invokestatic _ =>
      dsimp only
      cases Nat.beq a 9999 with
      | true =>
        dsimp only
        split
        · exact fun ⟨s', d', n', na, nb, e1, e2, e3, e4, e5, e6, e7, e8, e9, e10, e11, H⟩ => ⟨s', d', n', na, nb, e1, e2, e3, e4, e5, e6, e7, e8, e9, e10, e11, hK1 _ _ _ _ _ _ hL H⟩
        · exact id
      | false =>
        dsimp only
        cases Nat.beq a 9997 with
        | true => exact i2F_m (fun _ _ _ H => ⟨H.1, hK1 _ _ _ _ _ _ hL H.2⟩)
        | false =>
        dsimp only
        split
        · exact id
        · exact fun ⟨e1, e2, e3, H⟩ => ⟨e1, e2, e3, hC _ _ _ _ _ (fun v h => hA _ _ _ _ _ _ hL) H⟩
    | invokespecial _ =>
      dsimp only
      cases Nat.beq a 9998 with
      | true => exact r1F_m (fun _ _ H => ⟨H.1, hK1 _ _ _ _ _ _ hL H.2⟩)
      | false =>
        dsimp only
        split
        · exact fun ⟨e1, e2, e3, H⟩ => ⟨e1, e2, e3, hC _ _ _ _ _ (fun v h => hA _ _ _ _ _ _ hL) H⟩
        · exact id
    | invokevirtual _ =>
      dsimp only
      split
      · exact fun ⟨e0, e1, e2, e3, H⟩ => ⟨e0, e1, e2, e3, hC _ _ _ _ _ (fun v h => hA _ _ _ _ _ _ hL) H⟩
      · exact id
    | ireturn =>
      dsimp only
      split
      · split
        · exact hQ _ _
        · exact fun H => ⟨H.1, hQ _ _ H.2⟩
        · exact id
      · exact id
    | lreturn =>
      dsimp only
      split
      · exact fun H => ⟨H.1, hQ _ _ H.2⟩
      · exact id
    | areturn =>
      dsimp only
      split
      · exact fun H => ⟨H.1, hQ _ _ H.2⟩
      · exact id
    | return_ =>
      dsimp only
      split
      · exact fun H => ⟨H.1, hQ _ _ H.2⟩
      · exact id
    | _ => exact id
def LeL : sn_L → sn_L → Prop
  | [], _ => True
  | none :: l, _ :: l' => LeL l l'
  | some v :: l, some w :: l' => v = w ∧ LeL l l'
  | _ :: _, _ => False
theorem LeL_LEl : ∀ {L L' : sn_L}, LeL L L' → LEl L L'
  | [], L', _ => ⟨Nat.zero_le _, fun i v h => by simp at h⟩
  | none :: l, [], h => by cases h
  | none :: l, x :: l', h => by
    have h : LeL l l' := h
    obtain ⟨g1, g2⟩ := LeL_LEl h
    refine ⟨by simpa using g1, fun i v hi => ?_⟩
    cases i with
    | zero => simp at hi
    | succ i => simpa using g2 i v (by simpa using hi)
  | some v :: l, [], h => by cases h
  | some v :: l, none :: l', h => by cases h
  | some v :: l, some w :: l', h => by
    obtain ⟨e, h⟩ : v = w ∧ LeL l l' := h
    obtain ⟨g1, g2⟩ := LeL_LEl h
    refine ⟨by simpa using g1, fun i u hi => ?_⟩
    cases i with
    | zero => rw [← e]; simpa using hi
    | succ i => simpa using g2 i u (by simpa using hi)
theorem wpE_w {m pc : Nat} {L L' : sn_L} {st : List Value} {h : sn_H} {c : Nat × Nat} {Q : Option Value → sn_H → Prop} (hL : LeL L L') (H : wpE m pc L st h c Q) : wpE m pc L' st h c Q := by
  intro P hP
  refine H (fun m pc L st h c Q => ∀ (L' : sn_L) (Q' : Option Value → sn_H → Prop), LEl L L' → (∀ v h, Q v h → Q' v h) → P m pc L' st h c Q') ?_ L' Q (LeL_LEl hL) (fun _ _ => id)
  intro m pc L st h c Q H L' Q' hL hQ
  have rf : ∀ L : sn_L, LEl L L := fun L => ⟨Nat.le_refl _, fun _ _ => id⟩
  exact hP m pc L' st h c Q' (semF_w hL (fun pc L L1 st h c hL H => H L1 Q' hL hQ) (fun pc L L1 st h c hL H => H L1 Q' hL hQ) (fun y as h Q1 Q2 h12 H => ⟨H.1, H.2 (entL y as) Q2 (rf _) h12⟩) hQ H)
end
section
/-! ===== regions of the methods, printed by wip/gen/mkregions.py ===== -/
/-- SnapshotRings$State.copyFrom from 0 -/
theorem r_S_copyFrom_0 {v0 : Nat} {v1 : Nat} {h : sn_H} {Q : Option Value → sn_H → Prop}
    (k1 : hK h v1 = (0, 1, 14))
    (k2 : hK h v0 = (0, 1, 14))
    (H1 : wpE 7 24 [some (.ref v0), some (.ref v1)] [] (setG (setG (setG h v0 0 (hG h v1 0)) v0 1 (hG (setG h v0 0 (hG h v1 0)) v1 1)) v0 2 (hG (setG (setG h v0 0 (hG h v1 0)) v0 1 (hG (setG h v0 0 (hG h v1 0)) v1 1)) v1 2)) (0, 0) Q) :
    wpE 7 0 [some (.ref v0), some (.ref v1)] [] h (0, 0) Q :=
  vc_s (ct := fun pc => Nat.beq pc 24 || Nat.beq pc 119) 1000 false (And.intro k1 (And.intro k2 (And.intro rfl (And.intro k1 (And.intro k2 (And.intro rfl (And.intro k1 (And.intro k2 (And.intro rfl H1)))))))))
/-- SnapshotRings$State.copyFrom from 24 -/
theorem r_S_copyFrom_24 {v0 : Nat} {v1 : Nat} {q1 : Nat} {q2 : Nat} {n1 : Nat} {n2 : Nat} {q3 : Nat} {q4 : Nat} {n3 : Nat} {n4 : Nat} {q5 : Nat} {q6 : Nat} {n5 : Nat} {n6 : Nat} {q7 : Nat} {q8 : Nat} {n7 : Nat} {n8 : Nat} {q9 : Nat} {q10 : Nat} {n9 : Nat} {n10 : Nat} {q11 : Nat} {q12 : Nat} {n11 : Nat} {n12 : Nat} {h : sn_H} {Q : Option Value → sn_H → Prop}
    (k1 : hK h v1 = (0, 1, 14))
    (k2 : hK h v0 = (0, 1, 14))
    (k3 : hR h v1 4 = some q1)
    (k4 : hR h v0 4 = some q2)
    (k5 : hK h q1 = (1, 0, n1))
    (k6 : hK h q2 = (1, 0, n2))
    (k7 : hR h v1 5 = some q3)
    (k8 : hR h v0 5 = some q4)
    (k9 : hK h q3 = (1, 0, n3))
    (k10 : hK h q4 = (1, 0, n4))
    (k11 : hR h v1 6 = some q5)
    (k12 : hR h v0 6 = some q6)
    (k13 : hK h q5 = (1, 0, n5))
    (k14 : hK h q6 = (1, 0, n6))
    (k15 : hR h v1 7 = some q7)
    (k16 : hR h v0 7 = some q8)
    (k17 : hK h q7 = (1, 0, n7))
    (k18 : hK h q8 = (1, 0, n8))
    (k19 : hR h v1 8 = some q9)
    (k20 : hR h v0 8 = some q10)
    (k21 : hK h q9 = (1, 0, n9))
    (k22 : hK h q10 = (1, 0, n10))
    (k23 : hR h v1 9 = some q11)
    (k24 : hR h v0 9 = some q12)
    (k25 : hK h q11 = (1, 0, n11))
    (k26 : hK h q12 = (1, 0, n12))
    (B1 : 0 + 4 ≤ n1)
    (B2 : 0 + 4 ≤ n2)
    (B3 : 0 + 3 ≤ n3)
    (B4 : 0 + 3 ≤ n4)
    (B5 : 0 + 3 ≤ n5)
    (B6 : 0 + 3 ≤ n6)
    (B7 : 0 + 12 ≤ n7)
    (B8 : 0 + 12 ≤ n8)
    (B9 : 0 + 12 ≤ n9)
    (B10 : 0 + 12 ≤ n10)
    (B11 : 0 + 24 ≤ n11)
    (B12 : 0 + 24 ≤ n12)
    (H13 : wpE 7 119 [some (.ref v0), some (.ref v1)] [] (cpG (cpG (cpG (cpG (cpG (cpG (setG h v0 3 (hG h v1 3)) q1 0 q2 0 4) q3 0 q4 0 3) q5 0 q6 0 3) q7 0 q8 0 12) q9 0 q10 0 12) q11 0 q12 0 24) (0, 0) Q) :
    wpE 7 24 [some (.ref v0), some (.ref v1)] [] h (0, 0) Q :=
  vc_s (ct := fun pc => Nat.beq pc 24 || Nat.beq pc 119) 1000 false (And.intro k1 (And.intro k2 (And.intro rfl (And.intro k1 (Exists.intro q1 (And.intro k3 (And.intro k2 (Exists.intro q2 (And.intro k4 (Exists.intro 0 (Exists.intro 0 (Exists.intro 4 (Exists.intro n1 (Exists.intro n2 (And.intro rfl (And.intro rfl (And.intro rfl (And.intro (Nat.le_of_ble_eq_true rfl) (And.intro (Nat.le_of_ble_eq_true rfl) (And.intro (Nat.le_of_ble_eq_true rfl) (And.intro k5 (And.intro k6 (And.intro B1 (And.intro B2 (And.intro (Nat.le_of_ble_eq_true rfl) (And.intro k1 (Exists.intro q3 (And.intro k7 (And.intro k2 (Exists.intro q4 (And.intro k8 (Exists.intro 0 (Exists.intro 0 (Exists.intro 3 (Exists.intro n3 (Exists.intro n4 (And.intro rfl (And.intro rfl (And.intro rfl (And.intro (Nat.le_of_ble_eq_true rfl) (And.intro (Nat.le_of_ble_eq_true rfl) (And.intro (Nat.le_of_ble_eq_true rfl) (And.intro k9 (And.intro k10 (And.intro B3 (And.intro B4 (And.intro (Nat.le_of_ble_eq_true rfl) (And.intro k1 (Exists.intro q5 (And.intro k11 (And.intro k2 (Exists.intro q6 (And.intro k12 (Exists.intro 0 (Exists.intro 0 (Exists.intro 3 (Exists.intro n5 (Exists.intro n6 (And.intro rfl (And.intro rfl (And.intro rfl (And.intro (Nat.le_of_ble_eq_true rfl) (And.intro (Nat.le_of_ble_eq_true rfl) (And.intro (Nat.le_of_ble_eq_true rfl) (And.intro k13 (And.intro k14 (And.intro B5 (And.intro B6 (And.intro (Nat.le_of_ble_eq_true rfl) (And.intro k1 (Exists.intro q7 (And.intro k15 (And.intro k2 (Exists.intro q8 (And.intro k16 (Exists.intro 0 (Exists.intro 0 (Exists.intro 12 (Exists.intro n7 (Exists.intro n8 (And.intro rfl (And.intro rfl (And.intro rfl (And.intro (Nat.le_of_ble_eq_true rfl) (And.intro (Nat.le_of_ble_eq_true rfl) (And.intro (Nat.le_of_ble_eq_true rfl) (And.intro k17 (And.intro k18 (And.intro B7 (And.intro B8 (And.intro (Nat.le_of_ble_eq_true rfl) (And.intro k1 (Exists.intro q9 (And.intro k19 (And.intro k2 (Exists.intro q10 (And.intro k20 (Exists.intro 0 (Exists.intro 0 (Exists.intro 12 (Exists.intro n9 (Exists.intro n10 (And.intro rfl (And.intro rfl (And.intro rfl (And.intro (Nat.le_of_ble_eq_true rfl) (And.intro (Nat.le_of_ble_eq_true rfl) (And.intro (Nat.le_of_ble_eq_true rfl) (And.intro k21 (And.intro k22 (And.intro B9 (And.intro B10 (And.intro (Nat.le_of_ble_eq_true rfl) (And.intro k1 (Exists.intro q11 (And.intro k23 (And.intro k2 (Exists.intro q12 (And.intro k24 (Exists.intro 0 (Exists.intro 0 (Exists.intro 24 (Exists.intro n11 (Exists.intro n12 (And.intro rfl (And.intro rfl (And.intro rfl (And.intro (Nat.le_of_ble_eq_true rfl) (And.intro (Nat.le_of_ble_eq_true rfl) (And.intro (Nat.le_of_ble_eq_true rfl) (And.intro k25 (And.intro k26 (And.intro B11 (And.intro B12 (And.intro (Nat.le_of_ble_eq_true rfl) H13)))))))))))))))))))))))))))))))))))))))))))))))))))))))))))))))))))))))))))))))))))))))))))))))))))))))))))))))))))))))))))))))))))))))
/-- SnapshotRings$State.copyFrom from 119 -/
theorem r_S_copyFrom_119 {v0 : Nat} {v1 : Nat} {q1 : Nat} {q2 : Nat} {n1 : Nat} {n2 : Nat} {q3 : Nat} {q4 : Nat} {n3 : Nat} {n4 : Nat} {q5 : Nat} {q6 : Nat} {n5 : Nat} {n6 : Nat} {q7 : Nat} {q8 : Nat} {n7 : Nat} {n8 : Nat} {h : sn_H} {Q : Option Value → sn_H → Prop}
    (k1 : hK h v1 = (0, 1, 14))
    (k2 : hR h v1 10 = some q1)
    (k3 : hK h v0 = (0, 1, 14))
    (k4 : hR h v0 10 = some q2)
    (k5 : hK h q1 = (1, 0, n1))
    (k6 : hK h q2 = (1, 0, n2))
    (k7 : hR h v1 11 = some q3)
    (k8 : hR h v0 11 = some q4)
    (k9 : hK h q3 = (1, 0, n3))
    (k10 : hK h q4 = (1, 0, n4))
    (k11 : hR h v1 12 = some q5)
    (k12 : hR h v0 12 = some q6)
    (k13 : hK h q5 = (1, 0, n5))
    (k14 : hK h q6 = (1, 0, n6))
    (k15 : hR h v1 13 = some q7)
    (k16 : hR h v0 13 = some q8)
    (k17 : hK h q7 = (1, 0, n7))
    (k18 : hK h q8 = (1, 0, n8))
    (B1 : 0 + 24 ≤ n1)
    (B2 : 0 + 24 ≤ n2)
    (B3 : 0 + 24 ≤ n3)
    (B4 : 0 + 24 ≤ n4)
    (B5 : 0 + 288 ≤ n5)
    (B6 : 0 + 288 ≤ n6)
    (B7 : 0 + 96 ≤ n7)
    (B8 : 0 + 96 ≤ n8)
    (H9 : Q none (cpG (cpG (cpG (cpG h q1 0 q2 0 24) q3 0 q4 0 24) q5 0 q6 0 288) q7 0 q8 0 96)) :
    wpE 7 119 [some (.ref v0), some (.ref v1)] [] h (0, 0) Q :=
  vc_s (ct := fun pc => Nat.beq pc 24 || Nat.beq pc 119) 1000 false (And.intro k1 (Exists.intro q1 (And.intro k2 (And.intro k3 (Exists.intro q2 (And.intro k4 (Exists.intro 0 (Exists.intro 0 (Exists.intro 24 (Exists.intro n1 (Exists.intro n2 (And.intro rfl (And.intro rfl (And.intro rfl (And.intro (Nat.le_of_ble_eq_true rfl) (And.intro (Nat.le_of_ble_eq_true rfl) (And.intro (Nat.le_of_ble_eq_true rfl) (And.intro k5 (And.intro k6 (And.intro B1 (And.intro B2 (And.intro (Nat.le_of_ble_eq_true rfl) (And.intro k1 (Exists.intro q3 (And.intro k7 (And.intro k3 (Exists.intro q4 (And.intro k8 (Exists.intro 0 (Exists.intro 0 (Exists.intro 24 (Exists.intro n3 (Exists.intro n4 (And.intro rfl (And.intro rfl (And.intro rfl (And.intro (Nat.le_of_ble_eq_true rfl) (And.intro (Nat.le_of_ble_eq_true rfl) (And.intro (Nat.le_of_ble_eq_true rfl) (And.intro k9 (And.intro k10 (And.intro B3 (And.intro B4 (And.intro (Nat.le_of_ble_eq_true rfl) (And.intro k1 (Exists.intro q5 (And.intro k11 (And.intro k3 (Exists.intro q6 (And.intro k12 (Exists.intro 0 (Exists.intro 0 (Exists.intro 288 (Exists.intro n5 (Exists.intro n6 (And.intro rfl (And.intro rfl (And.intro rfl (And.intro (Nat.le_of_ble_eq_true rfl) (And.intro (Nat.le_of_ble_eq_true rfl) (And.intro (Nat.le_of_ble_eq_true rfl) (And.intro k13 (And.intro k14 (And.intro B5 (And.intro B6 (And.intro (Nat.le_of_ble_eq_true rfl) (And.intro k1 (Exists.intro q7 (And.intro k15 (And.intro k3 (Exists.intro q8 (And.intro k16 (Exists.intro 0 (Exists.intro 0 (Exists.intro 96 (Exists.intro n7 (Exists.intro n8 (And.intro rfl (And.intro rfl (And.intro rfl (And.intro (Nat.le_of_ble_eq_true rfl) (And.intro (Nat.le_of_ble_eq_true rfl) (And.intro (Nat.le_of_ble_eq_true rfl) (And.intro k17 (And.intro k18 (And.intro B7 (And.intro B8 (And.intro (Nat.le_of_ble_eq_true rfl) (And.intro rfl H9)))))))))))))))))))))))))))))))))))))))))))))))))))))))))))))))))))))))))))))))))))))))))
/-- SnapshotRings.isConstraint from 0 -/
theorem r_X_isConstraint_0 {v0 : Int32} {h : sn_H} {Q : Option Value → sn_H → Prop}
    (H1 : v0 < 0 → Q (some (.int (nI 0))) h)
    (H2 : ¬ v0 < 0 → nI 3 ≤ v0 → Q (some (.int (nI 0))) h)
    (H3 : ¬ v0 < 0 → ¬ nI 3 ≤ v0 → Q (some (.int (nI 1))) h) :
    wpE 9 0 [some (.int v0)] [] h (0, 0) Q :=
  vc_s (ct := fun _ => false) 1000 false (And.intro (fun c1 => (And.intro rfl (H1 c1))) (fun c2 => (And.intro (fun c3 => (And.intro rfl (H2 c2 c3))) (fun c4 => (And.intro rfl (H3 c2 c4))))))
/-- SnapshotRings.isSlot from 0 -/
theorem r_X_isSlot_0 {v0 : Int32} {h : sn_H} {Q : Option Value → sn_H → Prop}
    (H1 : v0 < 0 → Q (some (.int (nI 0))) h)
    (H2 : ¬ v0 < 0 → nI 8 ≤ v0 → Q (some (.int (nI 0))) h)
    (H3 : ¬ v0 < 0 → ¬ nI 8 ≤ v0 → Q (some (.int (nI 1))) h) :
    wpE 12 0 [some (.int v0)] [] h (0, 0) Q :=
  vc_s (ct := fun _ => false) 1000 false (And.intro (fun c1 => (And.intro rfl (H1 c1))) (fun c2 => (And.intro (fun c3 => (And.intro rfl (H2 c2 c3))) (fun c4 => (And.intro rfl (H3 c2 c4))))))
/-- SnapshotRings.hasBit from 0 -/
theorem r_X_hasBit_0 {v0 : Int32} {v1 : Int32} {h : sn_H} {Q : Option Value → sn_H → Prop}
    (H1 : ¬ ((v0 >>> (v1 &&& 31)) &&& nI 1) = nI 1 → Q (some (.int (nI 0))) h)
    (H2 : ((v0 >>> (v1 &&& 31)) &&& nI 1) = nI 1 → Q (some (.int (nI 1))) h) :
    wpE 14 0 [some (.int v0), some (.int v1)] [] h (0, 0) Q :=
  vc_s (ct := fun _ => false) 1000 false (And.intro (fun c1 => (And.intro rfl (H1 c1))) (fun c2 => (And.intro rfl (H2 c2))))
/-- SnapshotRings$State.isOpen from 0 -/
theorem r_S_isOpen_0 {v0 : Nat} {v1 : Int32} {h : sn_H} {Q : Option Value → sn_H → Prop}
    (k1 : hK h v0 = (0, 1, 14))
    (H1 : ¬ (((hG h v0 3) >>> (v1 &&& 31)) &&& nI 1) = nI 1 → Q (some (.int (nI 0))) h)
    (H2 : (((hG h v0 3) >>> (v1 &&& 31)) &&& nI 1) = nI 1 → Q (some (.int (nI 1))) h) :
    wpE 13 0 [some (.ref v0), some (.int v1)] [] h (0, 0) Q :=
  vc_s (ct := fun _ => false) 1000 false (And.intro k1 (And.intro (Nat.le_of_ble_eq_true rfl) (And.intro (Nat.le_of_ble_eq_true rfl) (And.intro (Nat.le_of_ble_eq_true rfl) (And.intro (Nat.le_of_ble_eq_true rfl) (r_X_hasBit_0 (v0 := (hG h v0 3)) (v1 := v1) (h := h) (fun c1 => (vc_s (ct := fun _ => false) 1000 false (And.intro rfl (H1 c1)))) (fun c2 => (vc_s (ct := fun _ => false) 1000 false (And.intro rfl (H2 c2))))))))))
/-- SnapshotRings$State.start from 0 -/
theorem r_S_start_0 {v0 : Nat} {v1 : Int32} {q1 : Nat} {n1 : Nat} {h : sn_H} {Q : Option Value → sn_H → Prop}
    (k1 : hK h v0 = (0, 1, 14))
    (k2 : hR h v0 9 = some q1)
    (k3 : hK h q1 = (1, 0, n1))
    (B1 : vp_in v1 n1)
    (H2 : wpE 15 22 [some (.ref v0), some (.int v1)] [] (setG (setG h v0 3 ((hG h v0 3) ||| (nI 1 <<< (v1 &&& 31)))) q1 v1.toNatClampNeg (hG (setG h v0 3 ((hG h v0 3) ||| (nI 1 <<< (v1 &&& 31)))) v0 1)) (0, 0) Q) :
    wpE 15 0 [some (.ref v0), some (.int v1)] [] h (0, 0) Q :=
  vc_s (ct := fun pc => Nat.beq pc 22) 1000 false (And.intro rfl (And.intro k1 (And.intro k1 (And.intro rfl (And.intro k1 (Exists.intro q1 (And.intro k2 (And.intro k1 (Exists.intro n1 (And.intro k3 (And.intro B1 H2)))))))))))
/-- SnapshotRings$State.start from 22 -/
theorem r_S_start_22 {v0 : Nat} {v1 : Int32} {q1 : Nat} {n1 : Nat} {q2 : Nat} {n2 : Nat} {q3 : Nat} {q4 : Nat} {n3 : Nat} {n4 : Nat} {n5 : Nat} {q5 : Nat} {q6 : Nat} {n6 : Nat} {n7 : Nat} {n8 : Nat} {h : sn_H} {Q : Option Value → sn_H → Prop}
    (k1 : hK h v0 = (0, 1, 14))
    (k2 : hR h v0 10 = some q1)
    (k3 : hK h q1 = (1, 0, n1))
    (k4 : hR h v0 11 = some q2)
    (k5 : hK h q2 = (1, 0, n2))
    (k6 : hR h v0 8 = some q3)
    (k7 : hR h v0 12 = some q4)
    (k8 : hK h q3 = (1, 0, n3))
    (k9 : hK h q4 = (1, 0, n4))
    (k10 : hR h v0 7 = some q5)
    (k11 : hR h v0 13 = some q6)
    (k12 : hK h q5 = (1, 0, n6))
    (k13 : hK h q6 = (1, 0, n7))
    (B1 : vp_in v1 n1)
    (B2 : vp_in v1 n2)
    (B3 : (v1 * nI 12) = nI n5)
    (B4 : n5 < 65536)
    (B5 : 0 + 12 ≤ n3)
    (B6 : n5 + 12 ≤ n4)
    (B7 : (v1 * nI 12) = nI n8)
    (B8 : n8 < 65536)
    (B9 : 0 + 12 ≤ n6)
    (B10 : n8 + 12 ≤ n7)
    (H11 : Q (some (.int (hG (cpG (cpG (setG (setG h q1 v1.toNatClampNeg (nI 0)) q2 v1.toNatClampNeg (nI 0)) q3 0 q4 n5 12) q5 0 q6 n8 12) v0 1))) (cpG (cpG (setG (setG h q1 v1.toNatClampNeg (nI 0)) q2 v1.toNatClampNeg (nI 0)) q3 0 q4 n5 12) q5 0 q6 n8 12)) :
    wpE 15 22 [some (.ref v0), some (.int v1)] [] h (0, 0) Q :=
  vc_s (ct := fun pc => Nat.beq pc 22) 1000 false (And.intro k1 (Exists.intro q1 (And.intro k2 (Exists.intro n1 (And.intro k3 (And.intro B1 (And.intro k1 (Exists.intro q2 (And.intro k4 (Exists.intro n2 (And.intro k5 (And.intro B2 (And.intro k1 (Exists.intro q3 (And.intro k6 (And.intro k1 (Exists.intro q4 (And.intro k7 (Exists.intro 0 (Exists.intro n5 (Exists.intro 12 (Exists.intro n3 (Exists.intro n4 (And.intro rfl (And.intro B3 (And.intro rfl (And.intro (Nat.le_of_ble_eq_true rfl) (And.intro B4 (And.intro (Nat.le_of_ble_eq_true rfl) (And.intro k8 (And.intro k9 (And.intro B5 (And.intro B6 (And.intro (Nat.le_of_ble_eq_true rfl) (And.intro k1 (Exists.intro q5 (And.intro k10 (And.intro k1 (Exists.intro q6 (And.intro k11 (Exists.intro 0 (Exists.intro n8 (Exists.intro 12 (Exists.intro n6 (Exists.intro n7 (And.intro rfl (And.intro B7 (And.intro rfl (And.intro (Nat.le_of_ble_eq_true rfl) (And.intro B8 (And.intro (Nat.le_of_ble_eq_true rfl) (And.intro k12 (And.intro k13 (And.intro B9 (And.intro B10 (And.intro (Nat.le_of_ble_eq_true rfl) (And.intro k1 H11)))))))))))))))))))))))))))))))))))))))))))))))))))))))))
/-- SnapshotRings.isKey from 0 -/
theorem r_X_isKey_0 {v0 : Int32} {h : sn_H} {Q : Option Value → sn_H → Prop}
    (H1 : v0 < 0 → Q (some (.int (nI 0))) h)
    (H2 : ¬ v0 < 0 → nI 12 ≤ v0 → Q (some (.int (nI 0))) h)
    (H3 : ¬ v0 < 0 → ¬ nI 12 ≤ v0 → Q (some (.int (nI 1))) h) :
    wpE 18 0 [some (.int v0)] [] h (0, 0) Q :=
  vc_s (ct := fun _ => false) 1000 false (And.intro (fun c1 => (And.intro rfl (H1 c1))) (fun c2 => (And.intro (fun c3 => (And.intro rfl (H2 c2 c3))) (fun c4 => (And.intro rfl (H3 c2 c4))))))
/-- SnapshotRings$State.readKey from 0 -/
theorem r_S_readKey_0 {v0 : Nat} {v1 : Int32} {v2 : Int32} {q1 : Nat} {n1 : Nat} {q2 : Nat} {n2 : Nat} {q3 : Nat} {n3 : Nat} {h : sn_H} {Q : Option Value → sn_H → Prop}
    (k1 : hK h v0 = (0, 1, 14))
    (k2 : hR h v0 11 = some q1)
    (k3 : hK h q1 = (1, 0, n1))
    (k4 : hR h v0 10 = some q2)
    (k5 : hK h q2 = (1, 0, n2))
    (k6 : hR h v0 13 = some q3)
    (k7 : hK h q3 = (1, 0, n3))
    (B1 : vp_in v1 n1)
    (B2 : ¬ (((hG h q1 v1.toNatClampNeg) >>> (v2 &&& 31)) &&& nI 1) = nI 1 → vp_in v1 n2)
    (B3 : ¬ (((hG h q1 v1.toNatClampNeg) >>> (v2 &&& 31)) &&& nI 1) = nI 1 → vp_in ((v1 * nI 12) + v2) n3)
    (H4 : ¬ (((hG h q1 v1.toNatClampNeg) >>> (v2 &&& 31)) &&& nI 1) = nI 1 → Q (some (.int (hG (setG h q2 v1.toNatClampNeg ((hG h q2 v1.toNatClampNeg) ||| (nI 1 <<< (v2 &&& 31)))) q3 ((v1 * nI 12) + v2).toNatClampNeg))) (setG h q2 v1.toNatClampNeg ((hG h q2 v1.toNatClampNeg) ||| (nI 1 <<< (v2 &&& 31)))))
    (B5 : (((hG h q1 v1.toNatClampNeg) >>> (v2 &&& 31)) &&& nI 1) = nI 1 → vp_in ((v1 * nI 12) + v2) n3)
    (H6 : (((hG h q1 v1.toNatClampNeg) >>> (v2 &&& 31)) &&& nI 1) = nI 1 → Q (some (.int (hG h q3 ((v1 * nI 12) + v2).toNatClampNeg))) h) :
    wpE 20 0 [some (.ref v0), some (.int v1), some (.int v2)] [] h (0, 0) Q :=
  vc_s (ct := fun _ => false) 1000 false (And.intro k1 (Exists.intro q1 (And.intro k2 (Exists.intro 0 (Exists.intro n1 (And.intro k3 (And.intro B1 (And.intro (Nat.le_of_ble_eq_true rfl) (And.intro (Nat.le_of_ble_eq_true rfl) (And.intro (Nat.le_of_ble_eq_true rfl) (And.intro (Nat.le_of_ble_eq_true rfl) (r_X_hasBit_0 (v0 := (hG h q1 v1.toNatClampNeg)) (v1 := v2) (h := h) (fun c1 => (vc_s (ct := fun _ => false) 1000 false (And.intro (fun c2 => absurd c2 (by decide)) (fun c2 => (And.intro k1 (Exists.intro q2 (And.intro k4 (And.intro rfl (And.intro rfl (Exists.intro 0 (Exists.intro n2 (And.intro k5 (And.intro (B2 c1) (Exists.intro n2 (And.intro k5 (And.intro (B2 c1) (And.intro k1 (Exists.intro q3 (And.intro k6 (Exists.intro 0 (Exists.intro n3 (And.intro k7 (And.intro (B3 c1) (H4 c1)))))))))))))))))))))))) (fun c3 => (vc_s (ct := fun _ => false) 1000 false (And.intro (fun c4 => (And.intro k1 (Exists.intro q3 (And.intro k6 (Exists.intro 0 (Exists.intro n3 (And.intro k7 (And.intro (B5 c3) (H6 c3))))))))) (fun c4 => absurd c4 (by decide)))))))))))))))))
/-- java/lang/Integer.bitCount from 0 -/
theorem r_I_bitCount_0 {v0 : Int32} {h : sn_H} {Q : Option Value → sn_H → Prop}
    (H1 : Q (some (.int ((((((((v0 - ((v0.toUInt32 >>> ((nI 1).toUInt32 &&& Int32.toUInt32 31)).toInt32 &&& nI 1431655765)) &&& nI 858993459) + (((v0 - ((v0.toUInt32 >>> ((nI 1).toUInt32 &&& Int32.toUInt32 31)).toInt32 &&& nI 1431655765)).toUInt32 >>> ((nI 2).toUInt32 &&& Int32.toUInt32 31)).toInt32 &&& nI 858993459)) + ((((v0 - ((v0.toUInt32 >>> ((nI 1).toUInt32 &&& Int32.toUInt32 31)).toInt32 &&& nI 1431655765)) &&& nI 858993459) + (((v0 - ((v0.toUInt32 >>> ((nI 1).toUInt32 &&& Int32.toUInt32 31)).toInt32 &&& nI 1431655765)).toUInt32 >>> ((nI 2).toUInt32 &&& Int32.toUInt32 31)).toInt32 &&& nI 858993459)).toUInt32 >>> ((nI 4).toUInt32 &&& Int32.toUInt32 31)).toInt32) &&& nI 252645135) + ((((((v0 - ((v0.toUInt32 >>> ((nI 1).toUInt32 &&& Int32.toUInt32 31)).toInt32 &&& nI 1431655765)) &&& nI 858993459) + (((v0 - ((v0.toUInt32 >>> ((nI 1).toUInt32 &&& Int32.toUInt32 31)).toInt32 &&& nI 1431655765)).toUInt32 >>> ((nI 2).toUInt32 &&& Int32.toUInt32 31)).toInt32 &&& nI 858993459)) + ((((v0 - ((v0.toUInt32 >>> ((nI 1).toUInt32 &&& Int32.toUInt32 31)).toInt32 &&& nI 1431655765)) &&& nI 858993459) + (((v0 - ((v0.toUInt32 >>> ((nI 1).toUInt32 &&& Int32.toUInt32 31)).toInt32 &&& nI 1431655765)).toUInt32 >>> ((nI 2).toUInt32 &&& Int32.toUInt32 31)).toInt32 &&& nI 858993459)).toUInt32 >>> ((nI 4).toUInt32 &&& Int32.toUInt32 31)).toInt32) &&& nI 252645135).toUInt32 >>> ((nI 8).toUInt32 &&& Int32.toUInt32 31)).toInt32) + (((((((v0 - ((v0.toUInt32 >>> ((nI 1).toUInt32 &&& Int32.toUInt32 31)).toInt32 &&& nI 1431655765)) &&& nI 858993459) + (((v0 - ((v0.toUInt32 >>> ((nI 1).toUInt32 &&& Int32.toUInt32 31)).toInt32 &&& nI 1431655765)).toUInt32 >>> ((nI 2).toUInt32 &&& Int32.toUInt32 31)).toInt32 &&& nI 858993459)) + ((((v0 - ((v0.toUInt32 >>> ((nI 1).toUInt32 &&& Int32.toUInt32 31)).toInt32 &&& nI 1431655765)) &&& nI 858993459) + (((v0 - ((v0.toUInt32 >>> ((nI 1).toUInt32 &&& Int32.toUInt32 31)).toInt32 &&& nI 1431655765)).toUInt32 >>> ((nI 2).toUInt32 &&& Int32.toUInt32 31)).toInt32 &&& nI 858993459)).toUInt32 >>> ((nI 4).toUInt32 &&& Int32.toUInt32 31)).toInt32) &&& nI 252645135) + ((((((v0 - ((v0.toUInt32 >>> ((nI 1).toUInt32 &&& Int32.toUInt32 31)).toInt32 &&& nI 1431655765)) &&& nI 858993459) + (((v0 - ((v0.toUInt32 >>> ((nI 1).toUInt32 &&& Int32.toUInt32 31)).toInt32 &&& nI 1431655765)).toUInt32 >>> ((nI 2).toUInt32 &&& Int32.toUInt32 31)).toInt32 &&& nI 858993459)) + ((((v0 - ((v0.toUInt32 >>> ((nI 1).toUInt32 &&& Int32.toUInt32 31)).toInt32 &&& nI 1431655765)) &&& nI 858993459) + (((v0 - ((v0.toUInt32 >>> ((nI 1).toUInt32 &&& Int32.toUInt32 31)).toInt32 &&& nI 1431655765)).toUInt32 >>> ((nI 2).toUInt32 &&& Int32.toUInt32 31)).toInt32 &&& nI 858993459)).toUInt32 >>> ((nI 4).toUInt32 &&& Int32.toUInt32 31)).toInt32) &&& nI 252645135).toUInt32 >>> ((nI 8).toUInt32 &&& Int32.toUInt32 31)).toInt32).toUInt32 >>> ((nI 16).toUInt32 &&& Int32.toUInt32 31)).toInt32) &&& nI 63))) h) :
    wpE 24 0 [some (.int v0)] [] h (0, 0) Q :=
  vc_s (ct := fun _ => false) 1000 false (And.intro (Nat.le_of_ble_eq_true rfl) (And.intro (Nat.le_of_ble_eq_true rfl) (And.intro (Nat.le_of_ble_eq_true rfl) (And.intro (Nat.le_of_ble_eq_true rfl) (And.intro (Nat.le_of_ble_eq_true rfl) H1)))))
/-- SnapshotRings$State.writeKey from 0 -/
theorem r_S_writeKey_0 {v0 : Nat} {v1 : Int32} {v2 : Int32} {v3 : Int32} {q1 : Nat} {n1 : Nat} {q2 : Nat} {n2 : Nat} {h : sn_H} {Q : Option Value → sn_H → Prop}
    (k1 : hK h v0 = (0, 1, 14))
    (k2 : hR h v0 11 = some q1)
    (k3 : hK h q1 = (1, 0, n1))
    (k4 : hR h v0 13 = some q2)
    (k5 : hK h q2 = (1, 0, n2))
    (B1 : vp_in v1 n1)
    (B2 : vp_in ((v1 * nI 12) + v2) n2)
    (H3 : wpE 23 24 [some (.ref v0), some (.int v1), none, none] [] (setG (setG h q1 v1.toNatClampNeg ((hG h q1 v1.toNatClampNeg) ||| (nI 1 <<< (v2 &&& 31)))) q2 ((v1 * nI 12) + v2).toNatClampNeg v3) (0, 0) Q) :
    wpE 23 0 [some (.ref v0), some (.int v1), some (.int v2), some (.int v3)] [] h (0, 0) Q :=
  vc_s (ct := fun pc => Nat.beq pc 24) 1000 false (And.intro k1 (Exists.intro q1 (And.intro k2 (And.intro rfl (And.intro rfl (Exists.intro 0 (Exists.intro n1 (And.intro k3 (And.intro B1 (Exists.intro n1 (And.intro k3 (And.intro B1 (And.intro k1 (Exists.intro q2 (And.intro k4 (Exists.intro n2 (And.intro k5 (And.intro B2 (@wpE_w _ _ [some (.ref v0), some (.int v1), none, none] _ _ _ _ _ (show LeL [some (.ref v0), some (.int v1), none, none] [some (.ref v0), some (.int v1), some (.int v2), some (.int v3)] from (And.intro rfl (And.intro rfl trivial))) H3)))))))))))))))))))
/-- SnapshotRings$State.writeKey from 24 -/
theorem r_S_writeKey_24 {v0 : Nat} {v1 : Int32} {q1 : Nat} {n1 : Nat} {h : sn_H} {Q : Option Value → sn_H → Prop}
    (k1 : hK h v0 = (0, 1, 14))
    (k2 : hR h v0 11 = some q1)
    (k3 : hK h q1 = (1, 0, n1))
    (B1 : vp_in v1 n1)
    (H2 : wpE 24 0 [some (.int (hG h q1 v1.toNatClampNeg))] [] h (0, 0) (fun r hh => wpE 23 33 [none, none, none, none] (r.toList ++ []) hh (0, 0) Q)) :
    wpE 23 24 [some (.ref v0), some (.int v1), none, none] [] h (0, 0) Q :=
  vc_s (ct := fun pc => Nat.beq pc 24) 1000 false (And.intro k1 (Exists.intro q1 (And.intro k2 (Exists.intro 0 (Exists.intro n1 (And.intro k3 (And.intro B1 (And.intro (Nat.le_of_ble_eq_true rfl) (And.intro (Nat.le_of_ble_eq_true rfl) (And.intro (Nat.le_of_ble_eq_true rfl) (And.intro (Nat.le_of_ble_eq_true rfl) (wpE_m (fun _ _ HH => @wpE_w _ _ [none, none, none, none] _ _ _ _ _ (show LeL [none, none, none, none] [some (.ref v0), some (.int v1), none, none] from trivial) HH) H2))))))))))))
/-- SnapshotRings$State.writeKey from 33 -/
theorem r_S_writeKey_33 {s0 : Int32} {h : sn_H} {Q : Option Value → sn_H → Prop}
    (H1 : Q (some (.int s0)) h) :
    wpE 23 33 [none, none, none, none] [.int s0] h (0, 0) Q :=
  vc_s (ct := fun pc => Nat.beq pc 24) 1000 false H1
/-- SnapshotRings$State.overwritesNewer from 0 -/
theorem r_S_overwritesNewer_0 {v0 : Nat} {v1 : Int32} {h : sn_H} {Q : Option Value → sn_H → Prop}
    (H1 : wpE 28 2 [some (.ref v0), some (.int v1), some (.int (nI 0))] [] h (0, 0) Q) :
    wpE 28 0 [some (.ref v0), some (.int v1), none] [] h (0, 0) Q :=
  vc_s (ct := fun pc => Nat.beq pc 2) 1000 false (And.intro (Nat.le_of_ble_eq_true rfl) H1)
/-- SnapshotRings$State.overwritesNewer from 2 -/
theorem r_S_overwritesNewer_2 {v0 : Nat} {v1 : Int32} {v2 : Int32} {q1 : Nat} {n1 : Nat} {q2 : Nat} {n2 : Nat} {q3 : Nat} {n3 : Nat} {h : sn_H} {Q : Option Value → sn_H → Prop}
    (k1 : hK h v0 = (0, 1, 14))
    (k2 : hR h v0 11 = some q1)
    (k3 : hK h q1 = (1, 0, n1))
    (k4 : hR h v0 8 = some q2)
    (k5 : hK h q2 = (1, 0, n2))
    (k6 : hR h v0 9 = some q3)
    (k7 : hK h q3 = (1, 0, n3))
    (H1 : nI 12 ≤ v2 → Q (some (.int (nI 0))) h)
    (B2 : ¬ nI 12 ≤ v2 → vp_in v1 n1)
    (H3 : ¬ nI 12 ≤ v2 → ¬ (((hG h q1 v1.toNatClampNeg) >>> (v2 &&& 31)) &&& nI 1) = nI 1 → wpE 28 2 [some (.ref v0), some (.int v1), some (.int (v2 + nI 1))] [] h (0, 0) Q)
    (B4 : ¬ nI 12 ≤ v2 → (((hG h q1 v1.toNatClampNeg) >>> (v2 &&& 31)) &&& nI 1) = nI 1 → vp_in v2 n2)
    (B5 : ¬ nI 12 ≤ v2 → (((hG h q1 v1.toNatClampNeg) >>> (v2 &&& 31)) &&& nI 1) = nI 1 → vp_in v1 n3)
    (H6 : ¬ nI 12 ≤ v2 → (((hG h q1 v1.toNatClampNeg) >>> (v2 &&& 31)) &&& nI 1) = nI 1 → (hG h q2 v2.toNatClampNeg) ≤ (hG h q3 v1.toNatClampNeg) → wpE 28 2 [some (.ref v0), some (.int v1), some (.int (v2 + nI 1))] [] h (0, 0) Q)
    (H7 : ¬ nI 12 ≤ v2 → (((hG h q1 v1.toNatClampNeg) >>> (v2 &&& 31)) &&& nI 1) = nI 1 → ¬ (hG h q2 v2.toNatClampNeg) ≤ (hG h q3 v1.toNatClampNeg) → Q (some (.int (nI 1))) h) :
    wpE 28 2 [some (.ref v0), some (.int v1), some (.int v2)] [] h (0, 0) Q :=
  vc_s (ct := fun pc => Nat.beq pc 2) 1000 false (And.intro (fun c1 => (And.intro rfl (H1 c1))) (fun c2 => (And.intro k1 (Exists.intro q1 (And.intro k2 (Exists.intro 0 (Exists.intro n1 (And.intro k3 (And.intro (B2 c2) (And.intro (Nat.le_of_ble_eq_true rfl) (And.intro (Nat.le_of_ble_eq_true rfl) (And.intro (Nat.le_of_ble_eq_true rfl) (And.intro (Nat.le_of_ble_eq_true rfl) (r_X_hasBit_0 (v0 := (hG h q1 v1.toNatClampNeg)) (v1 := v2) (h := h) (fun c3 => (vc_s (ct := fun pc => Nat.beq pc 2) 1000 false (And.intro (fun c4 => (And.intro (Nat.le_of_ble_eq_true rfl) (H3 c2 c3))) (fun c4 => absurd c4 (by decide))))) (fun c5 => (vc_s (ct := fun pc => Nat.beq pc 2) 1000 false (And.intro (fun c6 => absurd c6 (by decide)) (fun c6 => (And.intro k1 (Exists.intro q2 (And.intro k4 (Exists.intro 0 (Exists.intro n2 (And.intro k5 (And.intro (B4 c2 c5) (And.intro k1 (Exists.intro q3 (And.intro k6 (Exists.intro 0 (Exists.intro n3 (And.intro k7 (And.intro (B5 c2 c5) (And.intro (fun c7 => (And.intro (Nat.le_of_ble_eq_true rfl) (H6 c2 c5 c7))) (fun c8 => (And.intro rfl (H7 c2 c5 c8))))))))))))))))))))))))))))))))))))
/-- SnapshotRings$State.keptCommits from 0 -/
theorem r_S_keptCommits_0 {v0 : Nat} {h : sn_H} {Q : Option Value → sn_H → Prop}
    (k1 : hK h v0 = (0, 1, 14))
    (H1 : Q (some (.int (if nI 16 < (hG h v0 1) then nI 16 else (hG h v0 1)))) h) :
    wpE 30 0 [some (.ref v0)] [] h (0, 0) Q :=
  vc_s (ct := fun _ => false) 1000 false (And.intro k1 (And.intro (Nat.le_of_ble_eq_true rfl) H1))
/-- SnapshotRings$State.rowOfCommit from 0 -/
theorem r_S_rowOfCommit_0 {v0 : Nat} {v1 : Int32} {h : sn_H} {Q : Option Value → sn_H → Prop}
    (H1 : Q (some (.int (nI 8 + ((v1 - nI 1) &&& nI 15)))) h) :
    wpE 31 0 [some (.ref v0), some (.int v1)] [] h (0, 0) Q :=
  vc_s (ct := fun _ => false) 1000 false H1
/-- SnapshotRings$State.dependencySum from 0 -/
theorem r_S_dependencySum_0 {v0 : Nat} {v1 : Int32} {v2 : Int32} {v3 : Int32} {v4 : Int32} {q1 : Nat} {n1 : Nat} {q2 : Nat} {n2 : Nat} {h : sn_H} {Q : Option Value → sn_H → Prop}
    (k1 : hK h v0 = (0, 1, 14))
    (k2 : hR h v0 11 = some q1)
    (k3 : hK h q1 = (1, 0, n1))
    (k4 : hR h v0 10 = some q2)
    (k5 : hK h q2 = (1, 0, n2))
    (B1 : v4 ≤ v2 → vp_in v1 n1)
    (B2 : v4 ≤ v2 → vp_in v3 n2)
    (B3 : v4 ≤ v2 → vp_in v1 n2)
    (B4 : v4 ≤ v2 → vp_in v3 n1)
    (H5 : v4 ≤ v2 → ¬ (((hG h q1 v1.toNatClampNeg) &&& (hG h q2 v3.toNatClampNeg)) ||| ((hG h q2 v1.toNatClampNeg) &&& (hG h q1 v3.toNatClampNeg))) = 0 → wpE 34 73 [some (.ref v0), some (.int v1), some (.int v2), some (.int v3), some (.int v4), some (.int (nI 0)), some (.int ((hG h q1 v1.toNatClampNeg) &&& (hG h q2 v3.toNatClampNeg))), some (.int ((hG h q2 v1.toNatClampNeg) &&& (hG h q1 v3.toNatClampNeg))), some (.int (nI 0)), none] [] h (0, 0) Q)
    (H6 : v4 ≤ v2 → (((hG h q1 v1.toNatClampNeg) &&& (hG h q2 v3.toNatClampNeg)) ||| ((hG h q2 v1.toNatClampNeg) &&& (hG h q1 v3.toNatClampNeg))) = 0 → Q (some (.int (nI 0))) h)
    (B7 : ¬ v4 ≤ v2 → vp_in v1 n1)
    (B8 : ¬ v4 ≤ v2 → vp_in v3 n1)
    (B9 : ¬ v4 ≤ v2 → ((hG h q1 v1.toNatClampNeg) &&& (hG h q1 v3.toNatClampNeg)) = 0 → vp_in v3 n2)
    (B10 : ¬ v4 ≤ v2 → ((hG h q1 v1.toNatClampNeg) &&& (hG h q1 v3.toNatClampNeg)) = 0 → vp_in v1 n2)
    (H11 : ¬ v4 ≤ v2 → ((hG h q1 v1.toNatClampNeg) &&& (hG h q1 v3.toNatClampNeg)) = 0 → ¬ (((hG h q1 v1.toNatClampNeg) &&& (hG h q2 v3.toNatClampNeg)) ||| ((hG h q2 v1.toNatClampNeg) &&& (hG h q1 v3.toNatClampNeg))) = 0 → wpE 34 73 [some (.ref v0), some (.int v1), some (.int v2), some (.int v3), some (.int v4), some (.int (nI 0)), some (.int ((hG h q1 v1.toNatClampNeg) &&& (hG h q2 v3.toNatClampNeg))), some (.int ((hG h q2 v1.toNatClampNeg) &&& (hG h q1 v3.toNatClampNeg))), some (.int (nI 0)), none] [] h (0, 0) Q)
    (H12 : ¬ v4 ≤ v2 → ((hG h q1 v1.toNatClampNeg) &&& (hG h q1 v3.toNatClampNeg)) = 0 → (((hG h q1 v1.toNatClampNeg) &&& (hG h q2 v3.toNatClampNeg)) ||| ((hG h q2 v1.toNatClampNeg) &&& (hG h q1 v3.toNatClampNeg))) = 0 → Q (some (.int (nI 0))) h)
    (B13 : ¬ v4 ≤ v2 → ¬ ((hG h q1 v1.toNatClampNeg) &&& (hG h q1 v3.toNatClampNeg)) = 0 → vp_in v3 n2)
    (B14 : ¬ v4 ≤ v2 → ¬ ((hG h q1 v1.toNatClampNeg) &&& (hG h q1 v3.toNatClampNeg)) = 0 → vp_in v1 n2)
    (H15 : ¬ v4 ≤ v2 → ¬ ((hG h q1 v1.toNatClampNeg) &&& (hG h q1 v3.toNatClampNeg)) = 0 → ¬ (((hG h q1 v1.toNatClampNeg) &&& (hG h q2 v3.toNatClampNeg)) ||| ((hG h q2 v1.toNatClampNeg) &&& (hG h q1 v3.toNatClampNeg))) = 0 → wpE 34 73 [some (.ref v0), some (.int v1), some (.int v2), some (.int v3), some (.int v4), some (.int (nI 1)), some (.int ((hG h q1 v1.toNatClampNeg) &&& (hG h q2 v3.toNatClampNeg))), some (.int ((hG h q2 v1.toNatClampNeg) &&& (hG h q1 v3.toNatClampNeg))), some (.int (nI 0)), none] [] h (0, 0) Q)
    (H16 : ¬ v4 ≤ v2 → ¬ ((hG h q1 v1.toNatClampNeg) &&& (hG h q1 v3.toNatClampNeg)) = 0 → (((hG h q1 v1.toNatClampNeg) &&& (hG h q2 v3.toNatClampNeg)) ||| ((hG h q2 v1.toNatClampNeg) &&& (hG h q1 v3.toNatClampNeg))) = 0 → Q (some (.int (nI 1))) h) :
    wpE 34 0 [some (.ref v0), some (.int v1), some (.int v2), some (.int v3), some (.int v4), none, none, none, none, none] [] h (0, 0) Q :=
  vc_s (ct := fun pc => Nat.beq pc 73) 1000 false (And.intro (fun c1 => (And.intro (Nat.le_of_ble_eq_true rfl) (And.intro k1 (Exists.intro q1 (And.intro k2 (Exists.intro 0 (Exists.intro n1 (And.intro k3 (And.intro (B1 c1) (And.intro k1 (Exists.intro q2 (And.intro k4 (Exists.intro 0 (Exists.intro n2 (And.intro k5 (And.intro (B2 c1) (And.intro (Nat.le_of_ble_eq_true rfl) (And.intro k1 (Exists.intro q2 (And.intro k4 (Exists.intro 0 (Exists.intro n2 (And.intro k5 (And.intro (B3 c1) (And.intro k1 (Exists.intro q1 (And.intro k2 (Exists.intro 0 (Exists.intro n1 (And.intro k3 (And.intro (B4 c1) (And.intro (Nat.le_of_ble_eq_true rfl) (And.intro (fun c2 => (And.intro (Nat.le_of_ble_eq_true rfl) (H5 c1 c2))) (fun c3 => (H6 c1 c3))))))))))))))))))))))))))))))))))) (fun c4 => (And.intro k1 (Exists.intro q1 (And.intro k2 (Exists.intro 0 (Exists.intro n1 (And.intro k3 (And.intro (B7 c4) (And.intro k1 (Exists.intro q1 (And.intro k2 (Exists.intro 0 (Exists.intro n1 (And.intro k3 (And.intro (B8 c4) (And.intro (fun c5 => (And.intro (Nat.le_of_ble_eq_true rfl) (And.intro k1 (Exists.intro q1 (And.intro k2 (Exists.intro 0 (Exists.intro n1 (And.intro k3 (And.intro (B7 c4) (And.intro k1 (Exists.intro q2 (And.intro k4 (Exists.intro 0 (Exists.intro n2 (And.intro k5 (And.intro (B9 c4 c5) (And.intro (Nat.le_of_ble_eq_true rfl) (And.intro k1 (Exists.intro q2 (And.intro k4 (Exists.intro 0 (Exists.intro n2 (And.intro k5 (And.intro (B10 c4 c5) (And.intro k1 (Exists.intro q1 (And.intro k2 (Exists.intro 0 (Exists.intro n1 (And.intro k3 (And.intro (B8 c4) (And.intro (Nat.le_of_ble_eq_true rfl) (And.intro (fun c6 => (And.intro (Nat.le_of_ble_eq_true rfl) (H11 c4 c5 c6))) (fun c7 => (H12 c4 c5 c7))))))))))))))))))))))))))))))))))) (fun c8 => (And.intro (Nat.le_of_ble_eq_true rfl) (And.intro k1 (Exists.intro q1 (And.intro k2 (Exists.intro 0 (Exists.intro n1 (And.intro k3 (And.intro (B7 c4) (And.intro k1 (Exists.intro q2 (And.intro k4 (Exists.intro 0 (Exists.intro n2 (And.intro k5 (And.intro (B13 c4 c8) (And.intro (Nat.le_of_ble_eq_true rfl) (And.intro k1 (Exists.intro q2 (And.intro k4 (Exists.intro 0 (Exists.intro n2 (And.intro k5 (And.intro (B14 c4 c8) (And.intro k1 (Exists.intro q1 (And.intro k2 (Exists.intro 0 (Exists.intro n1 (And.intro k3 (And.intro (B8 c4) (And.intro (Nat.le_of_ble_eq_true rfl) (And.intro (fun c9 => (And.intro (Nat.le_of_ble_eq_true rfl) (H15 c4 c8 c9))) (fun c10 => (H16 c4 c8 c10))))))))))))))))))))))))))))))))))))))))))))))))))))
/-- SnapshotRings$State.dependencySum from 73 -/
theorem r_S_dependencySum_73 {v0 : Nat} {v1 : Int32} {v2 : Int32} {v3 : Int32} {v4 : Int32} {v5 : Int32} {v6 : Int32} {v7 : Int32} {v8 : Int32} {q1 : Nat} {n1 : Nat} {h : sn_H} {Q : Option Value → sn_H → Prop}
    (k1 : hK h v0 = (0, 1, 14))
    (k2 : hR h v0 12 = some q1)
    (k3 : hK h q1 = (1, 0, n1))
    (H1 : nI 12 ≤ v8 → Q (some (.int v5)) h)
    (H2 : ¬ nI 12 ≤ v8 → (v6 &&& (nI 1 <<< (v8 &&& 31))) = 0 → (v7 &&& (nI 1 <<< (v8 &&& 31))) = 0 → wpE 34 73 [some (.ref v0), some (.int v1), some (.int v2), some (.int v3), some (.int v4), some (.int v5), some (.int v6), some (.int v7), some (.int (v8 + nI 1)), none] [] h (0, 0) Q)
    (B3 : ¬ nI 12 ≤ v8 → (v6 &&& (nI 1 <<< (v8 &&& 31))) = 0 → ¬ (v7 &&& (nI 1 <<< (v8 &&& 31))) = 0 → vp_in ((v1 * nI 12) + v8) n1)
    (H4 : ¬ nI 12 ≤ v8 → (v6 &&& (nI 1 <<< (v8 &&& 31))) = 0 → ¬ (v7 &&& (nI 1 <<< (v8 &&& 31))) = 0 → v4 ≤ (hG h q1 ((v1 * nI 12) + v8).toNatClampNeg) → wpE 34 73 [some (.ref v0), some (.int v1), some (.int v2), some (.int v3), some (.int v4), some (.int v5), some (.int v6), some (.int v7), some (.int (v8 + nI 1)), none] [] h (0, 0) Q)
    (H5 : ¬ nI 12 ≤ v8 → (v6 &&& (nI 1 <<< (v8 &&& 31))) = 0 → ¬ (v7 &&& (nI 1 <<< (v8 &&& 31))) = 0 → ¬ v4 ≤ (hG h q1 ((v1 * nI 12) + v8).toNatClampNeg) → wpE 34 73 [some (.ref v0), some (.int v1), some (.int v2), some (.int v3), some (.int v4), some (.int (v5 ||| nI 4)), some (.int v6), some (.int v7), some (.int (v8 + nI 1)), none] [] h (0, 0) Q)
    (B6 : ¬ nI 12 ≤ v8 → ¬ (v6 &&& (nI 1 <<< (v8 &&& 31))) = 0 → vp_in ((v3 * nI 12) + v8) n1)
    (H7 : ¬ nI 12 ≤ v8 → ¬ (v6 &&& (nI 1 <<< (v8 &&& 31))) = 0 → ¬ (hG h q1 ((v3 * nI 12) + v8).toNatClampNeg) = v2 → (v7 &&& (nI 1 <<< (v8 &&& 31))) = 0 → wpE 34 73 [some (.ref v0), some (.int v1), some (.int v2), some (.int v3), some (.int v4), some (.int v5), some (.int v6), some (.int v7), some (.int (v8 + nI 1)), none] [] h (0, 0) Q)
    (B8 : ¬ nI 12 ≤ v8 → ¬ (v6 &&& (nI 1 <<< (v8 &&& 31))) = 0 → ¬ (hG h q1 ((v3 * nI 12) + v8).toNatClampNeg) = v2 → ¬ (v7 &&& (nI 1 <<< (v8 &&& 31))) = 0 → vp_in ((v1 * nI 12) + v8) n1)
    (H9 : ¬ nI 12 ≤ v8 → ¬ (v6 &&& (nI 1 <<< (v8 &&& 31))) = 0 → ¬ (hG h q1 ((v3 * nI 12) + v8).toNatClampNeg) = v2 → ¬ (v7 &&& (nI 1 <<< (v8 &&& 31))) = 0 → v4 ≤ (hG h q1 ((v1 * nI 12) + v8).toNatClampNeg) → wpE 34 73 [some (.ref v0), some (.int v1), some (.int v2), some (.int v3), some (.int v4), some (.int v5), some (.int v6), some (.int v7), some (.int (v8 + nI 1)), none] [] h (0, 0) Q)
    (H10 : ¬ nI 12 ≤ v8 → ¬ (v6 &&& (nI 1 <<< (v8 &&& 31))) = 0 → ¬ (hG h q1 ((v3 * nI 12) + v8).toNatClampNeg) = v2 → ¬ (v7 &&& (nI 1 <<< (v8 &&& 31))) = 0 → ¬ v4 ≤ (hG h q1 ((v1 * nI 12) + v8).toNatClampNeg) → wpE 34 73 [some (.ref v0), some (.int v1), some (.int v2), some (.int v3), some (.int v4), some (.int (v5 ||| nI 4)), some (.int v6), some (.int v7), some (.int (v8 + nI 1)), none] [] h (0, 0) Q)
    (H11 : ¬ nI 12 ≤ v8 → ¬ (v6 &&& (nI 1 <<< (v8 &&& 31))) = 0 → (hG h q1 ((v3 * nI 12) + v8).toNatClampNeg) = v2 → (v7 &&& (nI 1 <<< (v8 &&& 31))) = 0 → wpE 34 73 [some (.ref v0), some (.int v1), some (.int v2), some (.int v3), some (.int v4), some (.int (v5 ||| nI 2)), some (.int v6), some (.int v7), some (.int (v8 + nI 1)), none] [] h (0, 0) Q)
    (B12 : ¬ nI 12 ≤ v8 → ¬ (v6 &&& (nI 1 <<< (v8 &&& 31))) = 0 → (hG h q1 ((v3 * nI 12) + v8).toNatClampNeg) = v2 → ¬ (v7 &&& (nI 1 <<< (v8 &&& 31))) = 0 → vp_in ((v1 * nI 12) + v8) n1)
    (H13 : ¬ nI 12 ≤ v8 → ¬ (v6 &&& (nI 1 <<< (v8 &&& 31))) = 0 → (hG h q1 ((v3 * nI 12) + v8).toNatClampNeg) = v2 → ¬ (v7 &&& (nI 1 <<< (v8 &&& 31))) = 0 → v4 ≤ (hG h q1 ((v1 * nI 12) + v8).toNatClampNeg) → wpE 34 73 [some (.ref v0), some (.int v1), some (.int v2), some (.int v3), some (.int v4), some (.int (v5 ||| nI 2)), some (.int v6), some (.int v7), some (.int (v8 + nI 1)), none] [] h (0, 0) Q)
    (H14 : ¬ nI 12 ≤ v8 → ¬ (v6 &&& (nI 1 <<< (v8 &&& 31))) = 0 → (hG h q1 ((v3 * nI 12) + v8).toNatClampNeg) = v2 → ¬ (v7 &&& (nI 1 <<< (v8 &&& 31))) = 0 → ¬ v4 ≤ (hG h q1 ((v1 * nI 12) + v8).toNatClampNeg) → wpE 34 73 [some (.ref v0), some (.int v1), some (.int v2), some (.int v3), some (.int v4), some (.int ((v5 ||| nI 2) ||| nI 4)), some (.int v6), some (.int v7), some (.int (v8 + nI 1)), none] [] h (0, 0) Q) :
    wpE 34 73 [some (.ref v0), some (.int v1), some (.int v2), some (.int v3), some (.int v4), some (.int v5), some (.int v6), some (.int v7), some (.int v8), none] [] h (0, 0) Q :=
  vc_s (ct := fun pc => Nat.beq pc 73) 1000 false (And.intro (fun c1 => (H1 c1)) (fun c2 => (And.intro (Nat.le_of_ble_eq_true rfl) (And.intro (fun c3 => (And.intro (fun c4 => (And.intro (Nat.le_of_ble_eq_true rfl) (@wpE_w _ _ [some (.ref v0), some (.int v1), some (.int v2), some (.int v3), some (.int v4), some (.int v5), some (.int v6), some (.int v7), some (.int (v8 + nI 1)), none] _ _ _ _ _ (show LeL [some (.ref v0), some (.int v1), some (.int v2), some (.int v3), some (.int v4), some (.int v5), some (.int v6), some (.int v7), some (.int (v8 + nI 1)), none] [some (.ref v0), some (.int v1), some (.int v2), some (.int v3), some (.int v4), some (.int v5), some (.int v6), some (.int v7), some (.int (v8 + nI 1)), some (.int (nI 1 <<< (v8 &&& 31)))] from (And.intro rfl (And.intro rfl (And.intro rfl (And.intro rfl (And.intro rfl (And.intro rfl (And.intro rfl (And.intro rfl (And.intro rfl trivial)))))))))) (H2 c2 c3 c4)))) (fun c5 => (And.intro k1 (Exists.intro q1 (And.intro k2 (Exists.intro 0 (Exists.intro n1 (And.intro k3 (And.intro (B3 c2 c3 c5) (And.intro (fun c6 => (And.intro (Nat.le_of_ble_eq_true rfl) (@wpE_w _ _ [some (.ref v0), some (.int v1), some (.int v2), some (.int v3), some (.int v4), some (.int v5), some (.int v6), some (.int v7), some (.int (v8 + nI 1)), none] _ _ _ _ _ (show LeL [some (.ref v0), some (.int v1), some (.int v2), some (.int v3), some (.int v4), some (.int v5), some (.int v6), some (.int v7), some (.int (v8 + nI 1)), none] [some (.ref v0), some (.int v1), some (.int v2), some (.int v3), some (.int v4), some (.int v5), some (.int v6), some (.int v7), some (.int (v8 + nI 1)), some (.int (nI 1 <<< (v8 &&& 31)))] from (And.intro rfl (And.intro rfl (And.intro rfl (And.intro rfl (And.intro rfl (And.intro rfl (And.intro rfl (And.intro rfl (And.intro rfl trivial)))))))))) (H4 c2 c3 c5 c6)))) (fun c7 => (And.intro (Nat.le_of_ble_eq_true rfl) (And.intro (Nat.le_of_ble_eq_true rfl) (@wpE_w _ _ [some (.ref v0), some (.int v1), some (.int v2), some (.int v3), some (.int v4), some (.int (v5 ||| nI 4)), some (.int v6), some (.int v7), some (.int (v8 + nI 1)), none] _ _ _ _ _ (show LeL [some (.ref v0), some (.int v1), some (.int v2), some (.int v3), some (.int v4), some (.int (v5 ||| nI 4)), some (.int v6), some (.int v7), some (.int (v8 + nI 1)), none] [some (.ref v0), some (.int v1), some (.int v2), some (.int v3), some (.int v4), some (.int (v5 ||| nI 4)), some (.int v6), some (.int v7), some (.int (v8 + nI 1)), some (.int (nI 1 <<< (v8 &&& 31)))] from (And.intro rfl (And.intro rfl (And.intro rfl (And.intro rfl (And.intro rfl (And.intro rfl (And.intro rfl (And.intro rfl (And.intro rfl trivial)))))))))) (H5 c2 c3 c5 c7)))))))))))))))) (fun c8 => (And.intro k1 (Exists.intro q1 (And.intro k2 (Exists.intro 0 (Exists.intro n1 (And.intro k3 (And.intro (B6 c2 c8) (And.intro (fun c9 => (And.intro (fun c10 => (And.intro (Nat.le_of_ble_eq_true rfl) (@wpE_w _ _ [some (.ref v0), some (.int v1), some (.int v2), some (.int v3), some (.int v4), some (.int v5), some (.int v6), some (.int v7), some (.int (v8 + nI 1)), none] _ _ _ _ _ (show LeL [some (.ref v0), some (.int v1), some (.int v2), some (.int v3), some (.int v4), some (.int v5), some (.int v6), some (.int v7), some (.int (v8 + nI 1)), none] [some (.ref v0), some (.int v1), some (.int v2), some (.int v3), some (.int v4), some (.int v5), some (.int v6), some (.int v7), some (.int (v8 + nI 1)), some (.int (nI 1 <<< (v8 &&& 31)))] from (And.intro rfl (And.intro rfl (And.intro rfl (And.intro rfl (And.intro rfl (And.intro rfl (And.intro rfl (And.intro rfl (And.intro rfl trivial)))))))))) (H7 c2 c8 c9 c10)))) (fun c11 => (And.intro k1 (Exists.intro q1 (And.intro k2 (Exists.intro 0 (Exists.intro n1 (And.intro k3 (And.intro (B8 c2 c8 c9 c11) (And.intro (fun c12 => (And.intro (Nat.le_of_ble_eq_true rfl) (@wpE_w _ _ [some (.ref v0), some (.int v1), some (.int v2), some (.int v3), some (.int v4), some (.int v5), some (.int v6), some (.int v7), some (.int (v8 + nI 1)), none] _ _ _ _ _ (show LeL [some (.ref v0), some (.int v1), some (.int v2), some (.int v3), some (.int v4), some (.int v5), some (.int v6), some (.int v7), some (.int (v8 + nI 1)), none] [some (.ref v0), some (.int v1), some (.int v2), some (.int v3), some (.int v4), some (.int v5), some (.int v6), some (.int v7), some (.int (v8 + nI 1)), some (.int (nI 1 <<< (v8 &&& 31)))] from (And.intro rfl (And.intro rfl (And.intro rfl (And.intro rfl (And.intro rfl (And.intro rfl (And.intro rfl (And.intro rfl (And.intro rfl trivial)))))))))) (H9 c2 c8 c9 c11 c12)))) (fun c13 => (And.intro (Nat.le_of_ble_eq_true rfl) (And.intro (Nat.le_of_ble_eq_true rfl) (@wpE_w _ _ [some (.ref v0), some (.int v1), some (.int v2), some (.int v3), some (.int v4), some (.int (v5 ||| nI 4)), some (.int v6), some (.int v7), some (.int (v8 + nI 1)), none] _ _ _ _ _ (show LeL [some (.ref v0), some (.int v1), some (.int v2), some (.int v3), some (.int v4), some (.int (v5 ||| nI 4)), some (.int v6), some (.int v7), some (.int (v8 + nI 1)), none] [some (.ref v0), some (.int v1), some (.int v2), some (.int v3), some (.int v4), some (.int (v5 ||| nI 4)), some (.int v6), some (.int v7), some (.int (v8 + nI 1)), some (.int (nI 1 <<< (v8 &&& 31)))] from (And.intro rfl (And.intro rfl (And.intro rfl (And.intro rfl (And.intro rfl (And.intro rfl (And.intro rfl (And.intro rfl (And.intro rfl trivial)))))))))) (H10 c2 c8 c9 c11 c13)))))))))))))))) (fun c14 => (And.intro (Nat.le_of_ble_eq_true rfl) (And.intro (fun c15 => (And.intro (Nat.le_of_ble_eq_true rfl) (@wpE_w _ _ [some (.ref v0), some (.int v1), some (.int v2), some (.int v3), some (.int v4), some (.int (v5 ||| nI 2)), some (.int v6), some (.int v7), some (.int (v8 + nI 1)), none] _ _ _ _ _ (show LeL [some (.ref v0), some (.int v1), some (.int v2), some (.int v3), some (.int v4), some (.int (v5 ||| nI 2)), some (.int v6), some (.int v7), some (.int (v8 + nI 1)), none] [some (.ref v0), some (.int v1), some (.int v2), some (.int v3), some (.int v4), some (.int (v5 ||| nI 2)), some (.int v6), some (.int v7), some (.int (v8 + nI 1)), some (.int (nI 1 <<< (v8 &&& 31)))] from (And.intro rfl (And.intro rfl (And.intro rfl (And.intro rfl (And.intro rfl (And.intro rfl (And.intro rfl (And.intro rfl (And.intro rfl trivial)))))))))) (H11 c2 c8 c14 c15)))) (fun c16 => (And.intro k1 (Exists.intro q1 (And.intro k2 (Exists.intro 0 (Exists.intro n1 (And.intro k3 (And.intro (B12 c2 c8 c14 c16) (And.intro (fun c17 => (And.intro (Nat.le_of_ble_eq_true rfl) (@wpE_w _ _ [some (.ref v0), some (.int v1), some (.int v2), some (.int v3), some (.int v4), some (.int (v5 ||| nI 2)), some (.int v6), some (.int v7), some (.int (v8 + nI 1)), none] _ _ _ _ _ (show LeL [some (.ref v0), some (.int v1), some (.int v2), some (.int v3), some (.int v4), some (.int (v5 ||| nI 2)), some (.int v6), some (.int v7), some (.int (v8 + nI 1)), none] [some (.ref v0), some (.int v1), some (.int v2), some (.int v3), some (.int v4), some (.int (v5 ||| nI 2)), some (.int v6), some (.int v7), some (.int (v8 + nI 1)), some (.int (nI 1 <<< (v8 &&& 31)))] from (And.intro rfl (And.intro rfl (And.intro rfl (And.intro rfl (And.intro rfl (And.intro rfl (And.intro rfl (And.intro rfl (And.intro rfl trivial)))))))))) (H13 c2 c8 c14 c16 c17)))) (fun c18 => (And.intro (Nat.le_of_ble_eq_true rfl) (And.intro (Nat.le_of_ble_eq_true rfl) (@wpE_w _ _ [some (.ref v0), some (.int v1), some (.int v2), some (.int v3), some (.int v4), some (.int ((v5 ||| nI 2) ||| nI 4)), some (.int v6), some (.int v7), some (.int (v8 + nI 1)), none] _ _ _ _ _ (show LeL [some (.ref v0), some (.int v1), some (.int v2), some (.int v3), some (.int v4), some (.int ((v5 ||| nI 2) ||| nI 4)), some (.int v6), some (.int v7), some (.int (v8 + nI 1)), none] [some (.ref v0), some (.int v1), some (.int v2), some (.int v3), some (.int v4), some (.int ((v5 ||| nI 2) ||| nI 4)), some (.int v6), some (.int v7), some (.int (v8 + nI 1)), some (.int (nI 1 <<< (v8 &&& 31)))] from (And.intro rfl (And.intro rfl (And.intro rfl (And.intro rfl (And.intro rfl (And.intro rfl (And.intro rfl (And.intro rfl (And.intro rfl trivial)))))))))) (H14 c2 c8 c14 c16 c18))))))))))))))))))))))))))))))
/-- SnapshotRings$State.free from 0 -/
theorem r_S_free_0 {v0 : Nat} {v1 : Int32} {h : sn_H} {Q : Option Value → sn_H → Prop}
    (k1 : hK h v0 = (0, 1, 14))
    (H1 : Q none (setG h v0 3 ((hG h v0 3) &&& ((nI 1 <<< (v1 &&& 31)) ^^^ -(nI 1))))) :
    wpE 42 0 [some (.ref v0), some (.int v1)] [] h (0, 0) Q :=
  vc_s (ct := fun _ => false) 1000 false (And.intro rfl (And.intro k1 (And.intro k1 (And.intro rfl (And.intro rfl H1)))))
/-- SnapshotRings$State.refuse from 0 -/
theorem r_S_refuse_0 {v0 : Nat} {v1 : Int32} {v2 : Int32} {q1 : Nat} {n1 : Nat} {h : sn_H} {Q : Option Value → sn_H → Prop}
    (k1 : hK h v0 = (0, 1, 14))
    (k2 : hR h v0 4 = some q1)
    (k3 : hK h q1 = (1, 0, n1))
    (B1 : vp_in v2 n1)
    (H2 : Q none (setG (setG h v0 3 ((hG h v0 3) &&& ((nI 1 <<< (v1 &&& 31)) ^^^ -(nI 1)))) q1 v2.toNatClampNeg ((hG (setG h v0 3 ((hG h v0 3) &&& ((nI 1 <<< (v1 &&& 31)) ^^^ -(nI 1)))) q1 v2.toNatClampNeg) + nI 1))) :
    wpE 41 0 [some (.ref v0), some (.int v1), some (.int v2)] [] h (0, 0) Q :=
  vc_s (ct := fun _ => false) 1000 false (And.intro k1 (And.intro (Nat.le_of_ble_eq_true rfl) (And.intro (Nat.le_of_ble_eq_true rfl) (And.intro (Nat.le_of_ble_eq_true rfl) (And.intro (Nat.le_of_ble_eq_true rfl) (r_S_free_0 (v0 := v0) (v1 := v1) (h := h) k1 ((vc_s (ct := fun _ => false) 1000 false (And.intro k1 (Exists.intro q1 (And.intro k2 (And.intro rfl (And.intro rfl (Exists.intro 0 (Exists.intro n1 (And.intro k3 (And.intro B1 (Exists.intro n1 (And.intro k3 (And.intro B1 (And.intro rfl H2)))))))))))))))))))))
/-- SnapshotRings$State.keepCommit from 0 -/
theorem r_S_keepCommit_0 {v0 : Nat} {v1 : Int32} {h : sn_H} {Q : Option Value → sn_H → Prop}
    (k1 : hK h v0 = (0, 1, 14))
    (H1 : wpE 43 15 [some (.ref v0), some (.int v1), none, none] [] (setG (setG h v0 3 ((hG h v0 3) &&& ((nI 1 <<< (v1 &&& 31)) ^^^ -(nI 1)))) v0 1 ((hG (setG h v0 3 ((hG h v0 3) &&& ((nI 1 <<< (v1 &&& 31)) ^^^ -(nI 1)))) v0 1) + nI 1)) (0, 0) Q) :
    wpE 43 0 [some (.ref v0), some (.int v1), none, none] [] h (0, 0) Q :=
  vc_s (ct := fun pc => Nat.beq pc 15 || Nat.beq pc 48 || Nat.beq pc 83 || Nat.beq pc 129) 1000 false (And.intro k1 (And.intro (Nat.le_of_ble_eq_true rfl) (And.intro (Nat.le_of_ble_eq_true rfl) (And.intro (Nat.le_of_ble_eq_true rfl) (And.intro (Nat.le_of_ble_eq_true rfl) (r_S_free_0 (v0 := v0) (v1 := v1) (h := h) k1 ((vc_s (ct := fun pc => Nat.beq pc 15 || Nat.beq pc 48 || Nat.beq pc 83 || Nat.beq pc 129) 1000 false (And.intro rfl (And.intro k1 (And.intro k1 (And.intro rfl H1))))))))))))
/-- SnapshotRings$State.keepCommit from 15 -/
theorem r_S_keepCommit_15 {v0 : Nat} {v1 : Int32} {q1 : Nat} {n1 : Nat} {q2 : Nat} {n2 : Nat} {h : sn_H} {Q : Option Value → sn_H → Prop}
    (k1 : hK h v0 = (0, 1, 14))
    (k2 : hR h v0 9 = some q1)
    (k3 : hK h q1 = (1, 0, n1))
    (k4 : hR h v0 10 = some q2)
    (k5 : hK h q2 = (1, 0, n2))
    (B1 : vp_in v1 n1)
    (B2 : vp_in (nI 8 + (((hG h v0 1) - nI 1) &&& nI 15)) n1)
    (B3 : vp_in v1 n2)
    (B4 : vp_in (nI 8 + (((hG h v0 1) - nI 1) &&& nI 15)) n2)
    (H5 : wpE 43 48 [some (.ref v0), some (.int v1), some (.int (nI 8 + (((hG h v0 1) - nI 1) &&& nI 15))), none] [] (setG (setG h q1 (nI 8 + (((hG h v0 1) - nI 1) &&& nI 15)).toNatClampNeg (hG h q1 v1.toNatClampNeg)) q2 (nI 8 + (((hG h v0 1) - nI 1) &&& nI 15)).toNatClampNeg (hG (setG h q1 (nI 8 + (((hG h v0 1) - nI 1) &&& nI 15)).toNatClampNeg (hG h q1 v1.toNatClampNeg)) q2 v1.toNatClampNeg)) (0, 0) Q) :
    wpE 43 15 [some (.ref v0), some (.int v1), none, none] [] h (0, 0) Q :=
  vc_s (ct := fun pc => Nat.beq pc 15 || Nat.beq pc 48 || Nat.beq pc 83 || Nat.beq pc 129) 1000 false (And.intro k1 (And.intro k1 (And.intro (Nat.le_of_ble_eq_true rfl) (And.intro (Nat.le_of_ble_eq_true rfl) (And.intro (Nat.le_of_ble_eq_true rfl) (And.intro (Nat.le_of_ble_eq_true rfl) (r_S_rowOfCommit_0 (v0 := v0) (v1 := (hG h v0 1)) (h := h) ((vc_s (ct := fun pc => Nat.beq pc 15 || Nat.beq pc 48 || Nat.beq pc 83 || Nat.beq pc 129) 1000 false (And.intro (Nat.le_of_ble_eq_true rfl) (And.intro k1 (Exists.intro q1 (And.intro k2 (And.intro k1 (Exists.intro q1 (And.intro k2 (Exists.intro 0 (Exists.intro n1 (And.intro k3 (And.intro B1 (Exists.intro n1 (And.intro k3 (And.intro B2 (And.intro k1 (Exists.intro q2 (And.intro k4 (And.intro k1 (Exists.intro q2 (And.intro k4 (Exists.intro 0 (Exists.intro n2 (And.intro k5 (And.intro B3 (Exists.intro n2 (And.intro k5 (And.intro B4 H5))))))))))))))))))))))))))))))))))))
/-- SnapshotRings$State.keepCommit from 48 -/
theorem r_S_keepCommit_48 {v0 : Nat} {v1 : Int32} {v2 : Int32} {q1 : Nat} {n1 : Nat} {q2 : Nat} {n2 : Nat} {n3 : Nat} {n4 : Nat} {h : sn_H} {Q : Option Value → sn_H → Prop}
    (k1 : hK h v0 = (0, 1, 14))
    (k2 : hR h v0 11 = some q1)
    (k3 : hK h q1 = (1, 0, n1))
    (k4 : hR h v0 12 = some q2)
    (k5 : hK h q2 = (1, 0, n2))
    (B1 : vp_in v1 n1)
    (B2 : vp_in v2 n1)
    (B3 : (v1 * nI 12) = nI n3)
    (B4 : n3 < 65536)
    (B5 : (v2 * nI 12) = nI n4)
    (B6 : n4 < 65536)
    (B7 : n3 + 12 ≤ n2)
    (B8 : n4 + 12 ≤ n2)
    (H9 : wpE 43 83 [some (.ref v0), some (.int v1), none, some (.int (nI 0))] [] (cpG (setG h q1 v2.toNatClampNeg (hG h q1 v1.toNatClampNeg)) q2 n3 q2 n4 12) (0, 0) Q) :
    wpE 43 48 [some (.ref v0), some (.int v1), some (.int v2), none] [] h (0, 0) Q :=
  vc_s (ct := fun pc => Nat.beq pc 15 || Nat.beq pc 48 || Nat.beq pc 83 || Nat.beq pc 129) 1000 false (And.intro k1 (Exists.intro q1 (And.intro k2 (And.intro k1 (Exists.intro q1 (And.intro k2 (Exists.intro 0 (Exists.intro n1 (And.intro k3 (And.intro B1 (Exists.intro n1 (And.intro k3 (And.intro B2 (And.intro k1 (Exists.intro q2 (And.intro k4 (And.intro k1 (Exists.intro q2 (And.intro k4 (Exists.intro n3 (Exists.intro n4 (Exists.intro 12 (Exists.intro n2 (Exists.intro n2 (And.intro B3 (And.intro B5 (And.intro rfl (And.intro B4 (And.intro B6 (And.intro (Nat.le_of_ble_eq_true rfl) (And.intro k5 (And.intro k5 (And.intro B7 (And.intro B8 (And.intro (Nat.le_of_ble_eq_true rfl) (And.intro (Nat.le_of_ble_eq_true rfl) (@wpE_w _ _ [some (.ref v0), some (.int v1), none, some (.int (nI 0))] _ _ _ _ _ (show LeL [some (.ref v0), some (.int v1), none, some (.int (nI 0))] [some (.ref v0), some (.int v1), some (.int v2), some (.int (nI 0))] from (And.intro rfl (And.intro rfl (And.intro rfl trivial)))) H9)))))))))))))))))))))))))))))))))))))
/-- SnapshotRings$State.keepCommit from 83 -/
theorem r_S_keepCommit_83 {v0 : Nat} {v1 : Int32} {v3 : Int32} {q1 : Nat} {n1 : Nat} {q2 : Nat} {q3 : Nat} {n2 : Nat} {n3 : Nat} {q4 : Nat} {n4 : Nat} {h : sn_H} {Q : Option Value → sn_H → Prop}
    (k1 : hK h v0 = (0, 1, 14))
    (k2 : hR h v0 11 = some q1)
    (k3 : hK h q1 = (1, 0, n1))
    (k4 : hR h v0 7 = some q2)
    (k5 : hR h v0 13 = some q3)
    (k6 : hK h q3 = (1, 0, n2))
    (k7 : hK h q2 = (1, 0, n3))
    (k8 : hR h v0 8 = some q4)
    (k9 : hK h q4 = (1, 0, n4))
    (H1 : nI 12 ≤ v3 → Q (some (.int (hG h v0 1))) h)
    (B2 : ¬ nI 12 ≤ v3 → vp_in v1 n1)
    (H3 : ¬ nI 12 ≤ v3 → ¬ (((hG h q1 v1.toNatClampNeg) >>> (v3 &&& 31)) &&& nI 1) = nI 1 → wpE 43 129 [some (.ref v0), some (.int v1), none, some (.int v3)] [] h (0, 0) Q)
    (B4 : ¬ nI 12 ≤ v3 → (((hG h q1 v1.toNatClampNeg) >>> (v3 &&& 31)) &&& nI 1) = nI 1 → vp_in ((v1 * nI 12) + v3) n2)
    (B5 : ¬ nI 12 ≤ v3 → (((hG h q1 v1.toNatClampNeg) >>> (v3 &&& 31)) &&& nI 1) = nI 1 → vp_in v3 n3)
    (B6 : ¬ nI 12 ≤ v3 → (((hG h q1 v1.toNatClampNeg) >>> (v3 &&& 31)) &&& nI 1) = nI 1 → vp_in v3 n4)
    (H7 : ¬ nI 12 ≤ v3 → (((hG h q1 v1.toNatClampNeg) >>> (v3 &&& 31)) &&& nI 1) = nI 1 → wpE 43 129 [some (.ref v0), some (.int v1), none, some (.int v3)] [] (setG (setG h q2 v3.toNatClampNeg (hG h q3 ((v1 * nI 12) + v3).toNatClampNeg)) q4 v3.toNatClampNeg (hG (setG h q2 v3.toNatClampNeg (hG h q3 ((v1 * nI 12) + v3).toNatClampNeg)) v0 1)) (0, 0) Q) :
    wpE 43 83 [some (.ref v0), some (.int v1), none, some (.int v3)] [] h (0, 0) Q :=
  vc_s (ct := fun pc => Nat.beq pc 15 || Nat.beq pc 48 || Nat.beq pc 83 || Nat.beq pc 129) 1000 false (And.intro (fun c1 => (And.intro k1 (H1 c1))) (fun c2 => (And.intro k1 (Exists.intro q1 (And.intro k2 (Exists.intro 0 (Exists.intro n1 (And.intro k3 (And.intro (B2 c2) (And.intro (Nat.le_of_ble_eq_true rfl) (And.intro (Nat.le_of_ble_eq_true rfl) (And.intro (Nat.le_of_ble_eq_true rfl) (And.intro (Nat.le_of_ble_eq_true rfl) (r_X_hasBit_0 (v0 := (hG h q1 v1.toNatClampNeg)) (v1 := v3) (h := h) (fun c3 => (vc_s (ct := fun pc => Nat.beq pc 15 || Nat.beq pc 48 || Nat.beq pc 83 || Nat.beq pc 129) 1000 false (And.intro (fun c4 => (H3 c2 c3)) (fun c4 => absurd c4 (by decide))))) (fun c5 => (vc_s (ct := fun pc => Nat.beq pc 15 || Nat.beq pc 48 || Nat.beq pc 83 || Nat.beq pc 129) 1000 false (And.intro (fun c6 => absurd c6 (by decide)) (fun c6 => (And.intro k1 (Exists.intro q2 (And.intro k4 (And.intro k1 (Exists.intro q3 (And.intro k5 (Exists.intro 0 (Exists.intro n2 (And.intro k6 (And.intro (B4 c2 c5) (Exists.intro n3 (And.intro k7 (And.intro (B5 c2 c5) (And.intro k1 (Exists.intro q4 (And.intro k8 (And.intro k1 (Exists.intro n4 (And.intro k9 (And.intro (B6 c2 c5) (H7 c2 c5)))))))))))))))))))))))))))))))))))))))
/-- SnapshotRings$State.keepCommit from 129 -/
theorem r_S_keepCommit_129 {v0 : Nat} {v1 : Int32} {v3 : Int32} {h : sn_H} {Q : Option Value → sn_H → Prop}
    (H1 : wpE 43 83 [some (.ref v0), some (.int v1), none, some (.int (v3 + nI 1))] [] h (0, 0) Q) :
    wpE 43 129 [some (.ref v0), some (.int v1), none, some (.int v3)] [] h (0, 0) Q :=
  vc_s (ct := fun pc => Nat.beq pc 15 || Nat.beq pc 48 || Nat.beq pc 83 || Nat.beq pc 129) 1000 false (And.intro (Nat.le_of_ble_eq_true rfl) H1)
/-- SnapshotRings$State.giveUp from 0 -/
theorem r_S_giveUp_0 {v0 : Nat} {v1 : Int32} {h : sn_H} {Q : Option Value → sn_H → Prop}
    (k1 : hK h v0 = (0, 1, 14))
    (H1 : wpE 45 15 [some (.ref v0), some (.int v1)] [] (setG (setG h v0 3 ((hG h v0 3) &&& ((nI 1 <<< (v1 &&& 31)) ^^^ -(nI 1)))) v0 2 ((hG (setG h v0 3 ((hG h v0 3) &&& ((nI 1 <<< (v1 &&& 31)) ^^^ -(nI 1)))) v0 2) + nI 1)) (0, 0) Q) :
    wpE 45 0 [some (.ref v0), some (.int v1)] [] h (0, 0) Q :=
  vc_s (ct := fun pc => Nat.beq pc 15) 1000 false (And.intro k1 (And.intro (Nat.le_of_ble_eq_true rfl) (And.intro (Nat.le_of_ble_eq_true rfl) (And.intro (Nat.le_of_ble_eq_true rfl) (And.intro (Nat.le_of_ble_eq_true rfl) (r_S_free_0 (v0 := v0) (v1 := v1) (h := h) k1 ((vc_s (ct := fun pc => Nat.beq pc 15) 1000 false (And.intro rfl (And.intro k1 (And.intro k1 (And.intro rfl H1))))))))))))
/-- SnapshotRings$State.giveUp from 15 -/
theorem r_S_giveUp_15 {v0 : Nat} {v1 : Int32} {q1 : Nat} {n1 : Nat} {h : sn_H} {Q : Option Value → sn_H → Prop}
    (k1 : hK h v0 = (0, 1, 14))
    (k2 : hR h v0 11 = some q1)
    (k3 : hK h q1 = (1, 0, n1))
    (B1 : vp_in v1 n1)
    (H2 : wpE 24 0 [some (.int (hG h q1 v1.toNatClampNeg))] [] h (0, 0) (fun r hh => wpE 45 24 [none, none] (r.toList ++ []) hh (0, 0) Q)) :
    wpE 45 15 [some (.ref v0), some (.int v1)] [] h (0, 0) Q :=
  vc_s (ct := fun pc => Nat.beq pc 15) 1000 false (And.intro k1 (Exists.intro q1 (And.intro k2 (Exists.intro 0 (Exists.intro n1 (And.intro k3 (And.intro B1 (And.intro (Nat.le_of_ble_eq_true rfl) (And.intro (Nat.le_of_ble_eq_true rfl) (And.intro (Nat.le_of_ble_eq_true rfl) (And.intro (Nat.le_of_ble_eq_true rfl) (wpE_m (fun _ _ HH => @wpE_w _ _ [none, none] _ _ _ _ _ (show LeL [none, none] [some (.ref v0), some (.int v1)] from trivial) HH) H2))))))))))))
/-- SnapshotRings$State.giveUp from 24 -/
theorem r_S_giveUp_24 {s0 : Int32} {h : sn_H} {Q : Option Value → sn_H → Prop}
    (H1 : Q (some (.int s0)) h) :
    wpE 45 24 [none, none] [.int s0] h (0, 0) Q :=
  vc_s (ct := fun pc => Nat.beq pc 15) 1000 false H1
/-- SnapshotRings$State.partOfRow from 0 -/
theorem r_S_partOfRow_0 {v0 : Nat} {v1 : Int32} {v2 : Int32} {q1 : Nat} {n1 : Nat} {q2 : Nat} {n2 : Nat} {q3 : Nat} {n3 : Nat} {h : sn_H} {Q : Option Value → sn_H → Prop}
    (k1 : hK h v0 = (0, 1, 14))
    (k2 : hR h v0 9 = some q1)
    (k3 : hK h q1 = (1, 0, n1))
    (k4 : hR h v0 10 = some q2)
    (k5 : hK h q2 = (1, 0, n2))
    (k6 : hR h v0 11 = some q3)
    (k7 : hK h q3 = (1, 0, n3))
    (B1 : v2.toInt = 0 → vp_in v1 n1)
    (H2 : v2.toInt = 0 → Q (some (.int (hG h q1 v1.toNatClampNeg))) h)
    (B3 : v2.toInt = 1 → vp_in v1 n2)
    (H4 : v2.toInt = 1 → Q (some (.int (hG h q2 v1.toNatClampNeg))) h)
    (B5 : v2.toInt = 2 → vp_in v1 n3)
    (H6 : v2.toInt = 2 → Q (some (.int (hG h q3 v1.toNatClampNeg))) h)
    (H7 : (v2.toInt < 0 ∨ 2 < v2.toInt) → Q (some (.int (-(nI 20002)))) h) :
    wpE 50 0 [some (.ref v0), some (.int v1), some (.int v2)] [] h (0, 0) Q :=
  vc_s (ct := fun _ => false) 1000 false (And.intro (And.intro (fun c1 => (And.intro k1 (Exists.intro q1 (And.intro k2 (Exists.intro 0 (Exists.intro n1 (And.intro k3 (And.intro (B1 c1) (H2 c1))))))))) (And.intro (fun c2 => (And.intro k1 (Exists.intro q2 (And.intro k4 (Exists.intro 0 (Exists.intro n2 (And.intro k5 (And.intro (B3 c2) (H4 c2))))))))) (And.intro (fun c3 => (And.intro k1 (Exists.intro q3 (And.intro k6 (Exists.intro 0 (Exists.intro n3 (And.intro k7 (And.intro (B5 c3) (H6 c3))))))))) True.intro))) (fun c4 => (H7 c4)))
/-- SnapshotRings$State.isKept from 0 -/
theorem r_S_isKept_0 {v0 : Nat} {v1 : Int32} {h : sn_H} {Q : Option Value → sn_H → Prop}
    (k1 : hK h v0 = (0, 1, 14))
    (H1 : v1 < nI 1 → Q (some (.int (nI 0))) h)
    (H2 : ¬ v1 < nI 1 → (hG h v0 1) < v1 → Q (some (.int (nI 0))) h)
    (H3 : ¬ v1 < nI 1 → ¬ (hG h v0 1) < v1 → v1 ≤ ((hG h v0 1) - nI 16) → Q (some (.int (nI 0))) h)
    (H4 : ¬ v1 < nI 1 → ¬ (hG h v0 1) < v1 → ¬ v1 ≤ ((hG h v0 1) - nI 16) → Q (some (.int (nI 1))) h) :
    wpE 52 0 [some (.ref v0), some (.int v1)] [] h (0, 0) Q :=
  vc_s (ct := fun _ => false) 1000 false (And.intro (fun c1 => (And.intro rfl (H1 c1))) (fun c2 => (And.intro k1 (And.intro (fun c3 => (And.intro rfl (H2 c2 c3))) (fun c4 => (And.intro k1 (And.intro (fun c5 => (And.intro rfl (H3 c2 c4 c5))) (fun c6 => (And.intro rfl (H4 c2 c4 c6))))))))))
/-- SnapshotRings$State.constraintIsMet from 0 -/
theorem r_S_constraintIsMet_0 {v0 : Nat} {v1 : Nat} {v2 : Int32} {v3 : Int32} {h : sn_H} {Q : Option Value → sn_H → Prop}
    (H1 : wpE 64 6 [some (.ref v0), some (.ref v1), some (.int v2), some (.int v3), some (.int (nI 0)), some (.int (nI 0))] [] h (0, 0) Q) :
    wpE 64 0 [some (.ref v0), some (.ref v1), some (.int v2), some (.int v3), none, none] [] h (0, 0) Q :=
  vc_s (ct := fun pc => Nat.beq pc 6) 1000 false (And.intro (Nat.le_of_ble_eq_true rfl) (And.intro (Nat.le_of_ble_eq_true rfl) H1))
/-- SnapshotRings$State.constraintIsMet from 6 -/
theorem r_S_constraintIsMet_6 {v0 : Nat} {v1 : Nat} {v2 : Int32} {v3 : Int32} {v4 : Int32} {v5 : Int32} {q1 : Nat} {n1 : Nat} {q2 : Nat} {n2 : Nat} {n3 : Nat} {h : sn_H} {Q : Option Value → sn_H → Prop}
    (k1 : hK h v0 = (0, 1, 14))
    (k2 : hR h v0 6 = some q1)
    (k3 : hK h q1 = (1, 0, n1))
    (k4 : hR h v0 5 = some q2)
    (k5 : hK h q2 = (1, 0, n2))
    (k6 : hK h v1 = (1, 0, n3))
    (B1 : nI 12 ≤ v5 → vp_in v3 n1)
    (H2 : nI 12 ≤ v5 → v4 < (hG h q1 v3.toNatClampNeg) → Q (some (.int (nI 0))) h)
    (H3 : nI 12 ≤ v5 → ¬ v4 < (hG h q1 v3.toNatClampNeg) → Q (some (.int (nI 1))) h)
    (B4 : ¬ nI 12 ≤ v5 → vp_in v3 n2)
    (H5 : ¬ nI 12 ≤ v5 → ¬ (((hG h q2 v3.toNatClampNeg) >>> (v5 &&& 31)) &&& nI 1) = nI 1 → wpE 64 6 [some (.ref v0), some (.ref v1), some (.int v2), some (.int v3), some (.int v4), some (.int (v5 + nI 1))] [] h (0, 0) Q)
    (B6 : ¬ nI 12 ≤ v5 → (((hG h q2 v3.toNatClampNeg) >>> (v5 &&& 31)) &&& nI 1) = nI 1 → vp_in (v2 + v5) n3)
    (H7 : ¬ nI 12 ≤ v5 → (((hG h q2 v3.toNatClampNeg) >>> (v5 &&& 31)) &&& nI 1) = nI 1 → wpE 64 6 [some (.ref v0), some (.ref v1), some (.int v2), some (.int v3), some (.int (v4 + (hG h v1 (v2 + v5).toNatClampNeg))), some (.int (v5 + nI 1))] [] h (0, 0) Q) :
    wpE 64 6 [some (.ref v0), some (.ref v1), some (.int v2), some (.int v3), some (.int v4), some (.int v5)] [] h (0, 0) Q :=
  vc_s (ct := fun pc => Nat.beq pc 6) 1000 false (And.intro (fun c1 => (And.intro k1 (Exists.intro q1 (And.intro k2 (Exists.intro 0 (Exists.intro n1 (And.intro k3 (And.intro (B1 c1) (And.intro (fun c2 => (And.intro rfl (H2 c1 c2))) (fun c3 => (And.intro rfl (H3 c1 c3)))))))))))) (fun c4 => (And.intro k1 (Exists.intro q2 (And.intro k4 (Exists.intro 0 (Exists.intro n2 (And.intro k5 (And.intro (B4 c4) (And.intro (Nat.le_of_ble_eq_true rfl) (And.intro (Nat.le_of_ble_eq_true rfl) (And.intro (Nat.le_of_ble_eq_true rfl) (And.intro (Nat.le_of_ble_eq_true rfl) (r_X_hasBit_0 (v0 := (hG h q2 v3.toNatClampNeg)) (v1 := v5) (h := h) (fun c5 => (vc_s (ct := fun pc => Nat.beq pc 6) 1000 false (And.intro (fun c6 => (And.intro (Nat.le_of_ble_eq_true rfl) (H5 c4 c5))) (fun c6 => absurd c6 (by decide))))) (fun c7 => (vc_s (ct := fun pc => Nat.beq pc 6) 1000 false (And.intro (fun c8 => absurd c8 (by decide)) (fun c8 => (Exists.intro 0 (Exists.intro n3 (And.intro k6 (And.intro (B6 c4 c7) (And.intro (Nat.le_of_ble_eq_true rfl) (And.intro (Nat.le_of_ble_eq_true rfl) (H7 c4 c7)))))))))))))))))))))))))
end
section
/-! ===== regions of the methods, printed by wip/gen/mkregions.py ===== -/
/-- SnapshotRings$History.push from 0 -/
theorem r_H_push_0 {v0 : Nat} {v1 : Nat} {q1 : Nat} {n1 : Nat} {q2 : Nat} {h : sn_H} {Q : Option Value → sn_H → Prop}
    (k1 : hK h v0 = (0, 2, 3))
    (k2 : hR h v0 0 = some q1)
    (k3 : hK h q1 = (4, 1, n1))
    (k4 : hR h q1 ((hG h v0 2).toNatClampNeg) = some q2)
    (k5 : hK h q2 = (0, 1, 14))
    (B1 : vp_in (hG h v0 2) n1)
    (H2 : wpE 7 0 [some (.ref q2), some (.ref v1)] [] h (0, 0) (fun r hh => wpE 6 13 [some (.ref v0), none] (r.toList ++ []) hh (0, 0) Q)) :
    wpE 6 0 [some (.ref v0), some (.ref v1)] [] h (0, 0) Q :=
  vc_s (ct := fun _ => false) 1000 false (And.intro k1 (Exists.intro q1 (And.intro k2 (And.intro k1 (Exists.intro 1 (Exists.intro n1 (Exists.intro q2 (And.intro k3 (And.intro B1 (And.intro k4 (And.intro k5 (And.intro (Nat.le_of_ble_eq_true rfl) (And.intro (Nat.le_of_ble_eq_true rfl) (And.intro (Nat.le_of_ble_eq_true rfl) (And.intro (Nat.le_of_ble_eq_true rfl) (wpE_m (fun _ _ HH => @wpE_w _ _ [some (.ref v0), none] _ _ _ _ _ (show LeL [some (.ref v0), none] [some (.ref v0), some (.ref v1)] from (And.intro rfl trivial)) HH) H2))))))))))))))))
/-- SnapshotRings$History.push from 13 -/
theorem r_H_push_13 {v0 : Nat} {h : sn_H} {Q : Option Value → sn_H → Prop}
    (k1 : hK h v0 = (0, 2, 3))
    (H1 : Q none (setG (setG h v0 2 (((hG h v0 2) + nI 1) - ((hG h v0 2) + nI 1) / nI 6 * nI 6)) v0 1 (if nI 6 < ((hG (setG h v0 2 (((hG h v0 2) + nI 1) - ((hG h v0 2) + nI 1) / nI 6 * nI 6)) v0 1) + nI 1) then nI 6 else ((hG (setG h v0 2 (((hG h v0 2) + nI 1) - ((hG h v0 2) + nI 1) / nI 6 * nI 6)) v0 1) + nI 1)))) :
    wpE 6 13 [some (.ref v0), none] [] h (0, 0) Q :=
  vc_s (ct := fun _ => false) 1000 false (And.intro k1 (And.intro (by decide) (And.intro k1 (And.intro rfl (And.intro k1 (And.intro (Nat.le_of_ble_eq_true rfl) (And.intro k1 (And.intro rfl (And.intro rfl H1)))))))))
/-- SnapshotRings$Graph.setNode from 0 -/
theorem r_G_setNode_0 {v0 : Nat} {v1 : Int32} {v2 : Int32} {v3 : Int32} {q1 : Nat} {n1 : Nat} {q2 : Nat} {n2 : Nat} {q3 : Nat} {n3 : Nat} {q4 : Nat} {n4 : Nat} {h : sn_H} {Q : Option Value → sn_H → Prop}
    (k1 : hK h v0 = (0, 3, 10))
    (k2 : hR h v0 1 = some q1)
    (k3 : hK h q1 = (1, 0, n1))
    (k4 : hR h v0 2 = some q2)
    (k5 : hK h q2 = (1, 0, n2))
    (k6 : hR h v0 4 = some q3)
    (k7 : hK h q3 = (1, 0, n3))
    (k8 : hR h v0 5 = some q4)
    (k9 : hK h q4 = (1, 0, n4))
    (B1 : vp_in v1 n1)
    (B2 : vp_in v1 n2)
    (B3 : vp_in v1 n3)
    (B4 : vp_in v1 n4)
    (H5 : Q none (setG (setG (setG (setG h q1 v1.toNatClampNeg v2) q2 v1.toNatClampNeg v3) q3 v1.toNatClampNeg (nI 0)) q4 v1.toNatClampNeg (nI 0))) :
    wpE 32 0 [some (.ref v0), some (.int v1), some (.int v2), some (.int v3)] [] h (0, 0) Q :=
  vc_s (ct := fun _ => false) 1000 false (And.intro k1 (Exists.intro q1 (And.intro k2 (Exists.intro n1 (And.intro k3 (And.intro B1 (And.intro k1 (Exists.intro q2 (And.intro k4 (Exists.intro n2 (And.intro k5 (And.intro B2 (And.intro k1 (Exists.intro q3 (And.intro k6 (Exists.intro n3 (And.intro k7 (And.intro B3 (And.intro k1 (Exists.intro q4 (And.intro k8 (Exists.intro n4 (And.intro k9 (And.intro B4 (And.intro rfl H5)))))))))))))))))))))))))
/-- SnapshotRings$Graph.link from 0 -/
theorem r_G_link_0 {v0 : Nat} {v1 : Nat} {v2 : Int32} {v3 : Int32} {q1 : Nat} {n1 : Nat} {q2 : Nat} {n2 : Nat} {h : sn_H} {Q : Option Value → sn_H → Prop}
    (k1 : hK h v0 = (0, 3, 10))
    (k2 : hR h v0 1 = some q1)
    (k3 : hK h q1 = (1, 0, n1))
    (k4 : hR h v0 2 = some q2)
    (k5 : hK h q2 = (1, 0, n2))
    (k6 : hK h v1 = (0, 1, 14))
    (B1 : vp_in v2 n1)
    (B2 : vp_in v2 n2)
    (B3 : vp_in v3 n1)
    (B4 : vp_in v3 n2)
    (H5 : wpE 34 0 [some (.ref v1), some (.int (hG h q1 v2.toNatClampNeg)), some (.int (hG h q2 v2.toNatClampNeg)), some (.int (hG h q1 v3.toNatClampNeg)), some (.int (hG h q2 v3.toNatClampNeg)), none, none, none, none, none] [] h (0, 0) (fun r hh => wpE 33 28 [some (.ref v0), none, some (.int v2), some (.int v3), none] (r.toList ++ []) hh (0, 0) Q)) :
    wpE 33 0 [some (.ref v0), some (.ref v1), some (.int v2), some (.int v3), none] [] h (0, 0) Q :=
  vc_s (ct := fun pc => Nat.beq pc 60) 1000 false (And.intro k1 (Exists.intro q1 (And.intro k2 (Exists.intro 0 (Exists.intro n1 (And.intro k3 (And.intro B1 (And.intro k1 (Exists.intro q2 (And.intro k4 (Exists.intro 0 (Exists.intro n2 (And.intro k5 (And.intro B2 (And.intro k1 (Exists.intro q1 (And.intro k2 (Exists.intro 0 (Exists.intro n1 (And.intro k3 (And.intro B3 (And.intro k1 (Exists.intro q2 (And.intro k4 (Exists.intro 0 (Exists.intro n2 (And.intro k5 (And.intro B4 (And.intro k6 (And.intro (Nat.le_of_ble_eq_true rfl) (And.intro (Nat.le_of_ble_eq_true rfl) (And.intro (Nat.le_of_ble_eq_true rfl) (And.intro (Nat.le_of_ble_eq_true rfl) (wpE_m (fun _ _ HH => @wpE_w _ _ [some (.ref v0), none, some (.int v2), some (.int v3), none] _ _ _ _ _ (show LeL [some (.ref v0), none, some (.int v2), some (.int v3), none] [some (.ref v0), some (.ref v1), some (.int v2), some (.int v3), none] from (And.intro rfl (And.intro rfl (And.intro rfl trivial)))) HH) H5))))))))))))))))))))))))))))))))))
/-- SnapshotRings$Graph.link from 28 -/
theorem r_G_link_28 {v0 : Nat} {v2 : Int32} {v3 : Int32} {s0 : Int32} {q1 : Nat} {n1 : Nat} {q2 : Nat} {n2 : Nat} {h : sn_H} {Q : Option Value → sn_H → Prop}
    (k1 : hK h v0 = (0, 3, 10))
    (k2 : hR h v0 3 = some q1)
    (k3 : hK h q1 = (1, 0, n1))
    (k4 : hR h v0 4 = some q2)
    (k5 : hK h q2 = (1, 0, n2))
    (B1 : vp_in ((v2 * nI 17) + v3) n1)
    (H2 : s0 = 0 → wpE 33 60 [some (.ref v0), none, some (.int v2), some (.int v3), some (.int s0)] [] (setG h q1 ((v2 * nI 17) + v3).toNatClampNeg s0) (0, 0) Q)
    (B3 : ¬ s0 = 0 → vp_in v2 n2)
    (H4 : ¬ s0 = 0 → wpE 33 60 [some (.ref v0), none, some (.int v2), some (.int v3), some (.int s0)] [] (setG (setG h q1 ((v2 * nI 17) + v3).toNatClampNeg s0) q2 v2.toNatClampNeg ((hG (setG h q1 ((v2 * nI 17) + v3).toNatClampNeg s0) q2 v2.toNatClampNeg) ||| (nI 1 <<< (v3 &&& 31)))) (0, 0) Q) :
    wpE 33 28 [some (.ref v0), none, some (.int v2), some (.int v3), none] [.int s0] h (0, 0) Q :=
  vc_s (ct := fun pc => Nat.beq pc 60) 1000 false (And.intro (Nat.le_of_ble_eq_true rfl) (And.intro k1 (Exists.intro q1 (And.intro k2 (Exists.intro n1 (And.intro k3 (And.intro B1 (And.intro (fun c1 => (H2 c1)) (fun c2 => (And.intro k1 (Exists.intro q2 (And.intro k4 (And.intro rfl (And.intro rfl (Exists.intro 0 (Exists.intro n2 (And.intro k5 (And.intro (B3 c2) (Exists.intro n2 (And.intro k5 (And.intro (B3 c2) (H4 c2))))))))))))))))))))))
/-- SnapshotRings$Graph.link from 60 -/
theorem r_G_link_60 {v0 : Nat} {v2 : Int32} {v3 : Int32} {v4 : Int32} {q1 : Nat} {n1 : Nat} {h : sn_H} {Q : Option Value → sn_H → Prop}
    (k1 : hK h v0 = (0, 3, 10))
    (k2 : hR h v0 5 = some q1)
    (k3 : hK h q1 = (1, 0, n1))
    (H1 : (v4 &&& nI 4) = 0 → Q none h)
    (B2 : ¬ (v4 &&& nI 4) = 0 → vp_in v2 n1)
    (H3 : ¬ (v4 &&& nI 4) = 0 → Q none (setG h q1 v2.toNatClampNeg ((hG h q1 v2.toNatClampNeg) ||| (nI 1 <<< (v3 &&& 31))))) :
    wpE 33 60 [some (.ref v0), none, some (.int v2), some (.int v3), some (.int v4)] [] h (0, 0) Q :=
  vc_s (ct := fun pc => Nat.beq pc 60) 1000 false (And.intro (fun c1 => (And.intro rfl (H1 c1))) (fun c2 => (And.intro k1 (Exists.intro q1 (And.intro k2 (And.intro rfl (And.intro rfl (Exists.intro 0 (Exists.intro n1 (And.intro k3 (And.intro (B2 c2) (Exists.intro n1 (And.intro k3 (And.intro (B2 c2) (And.intro rfl (H3 c2))))))))))))))))
/-- SnapshotRings$Graph.load from 0 -/
theorem r_G_load_0 {v0 : Nat} {v1 : Nat} {h : sn_H} {Q : Option Value → sn_H → Prop}
    (k1 : hK h v1 = (0, 1, 14))
    (k2 : hK h v0 = (0, 3, 10))
    (H1 : wpE 29 22 [some (.ref v0), some (.ref v1), some (.int (((hG (setG h v0 0 (if nI 16 < (hG h v1 1) then nI 16 else (hG h v1 1))) v1 1) - (hG (setG h v0 0 (if nI 16 < (hG h v1 1) then nI 16 else (hG h v1 1))) v0 0)) + nI 1)), some (.int (nI 0)), none] [] (setG h v0 0 (if nI 16 < (hG h v1 1) then nI 16 else (hG h v1 1))) (0, 0) Q) :
    wpE 29 0 [some (.ref v0), some (.ref v1), none, none, none] [] h (0, 0) Q :=
  vc_s (ct := fun pc => Nat.beq pc 22 || Nat.beq pc 48 || Nat.beq pc 53 || Nat.beq pc 64) 1000 false (And.intro k1 (And.intro (Nat.le_of_ble_eq_true rfl) (And.intro (Nat.le_of_ble_eq_true rfl) (And.intro (Nat.le_of_ble_eq_true rfl) (And.intro (Nat.le_of_ble_eq_true rfl) (r_S_keptCommits_0 (v0 := v1) (h := h) k1 ((vc_s (ct := fun pc => Nat.beq pc 22 || Nat.beq pc 48 || Nat.beq pc 53 || Nat.beq pc 64) 1000 false (And.intro k2 (And.intro rfl (And.intro k1 (And.intro k2 (And.intro (Nat.le_of_ble_eq_true rfl) (And.intro (Nat.le_of_ble_eq_true rfl) H1))))))))))))))
/-- SnapshotRings$Graph.load from 22 -/
theorem r_G_load_22 {v0 : Nat} {v1 : Nat} {v2 : Int32} {v3 : Int32} {q1 : Nat} {n1 : Nat} {q2 : Nat} {n2 : Nat} {q3 : Nat} {n3 : Nat} {q4 : Nat} {n4 : Nat} {h : sn_H} {Q : Option Value → sn_H → Prop}
    (k1 : hK h v0 = (0, 3, 10))
    (k2 : hK h v1 = (0, 1, 14))
    (k3 : hR h v0 1 = some q1)
    (k4 : hK h q1 = (1, 0, n1))
    (k5 : hR h v0 2 = some q2)
    (k6 : hK h q2 = (1, 0, n2))
    (k7 : hR h v0 4 = some q3)
    (k8 : hK h q3 = (1, 0, n3))
    (k9 : hR h v0 5 = some q4)
    (k10 : hK h q4 = (1, 0, n4))
    (H1 : (hG h v0 0) ≤ v3 → wpE 29 53 [some (.ref v0), some (.ref v1), none, some (.int (nI 0)), none] [] h (0, 0) Q)
    (B2 : ¬ (hG h v0 0) ≤ v3 → vp_in v3 n1)
    (B3 : ¬ (hG h v0 0) ≤ v3 → vp_in v3 n2)
    (B4 : ¬ (hG h v0 0) ≤ v3 → vp_in v3 n3)
    (B5 : ¬ (hG h v0 0) ≤ v3 → vp_in v3 n4)
    (H6 : ¬ (hG h v0 0) ≤ v3 → wpE 29 48 [some (.ref v0), some (.ref v1), some (.int v2), some (.int (v3 + nI 1)), none] [] (setG (setG (setG (setG h q1 v3.toNatClampNeg (nI 8 + (((v2 + v3) - nI 1) &&& nI 15))) q2 v3.toNatClampNeg (v2 + v3)) q3 v3.toNatClampNeg (nI 0)) q4 v3.toNatClampNeg (nI 0)) (0, 0) Q) :
    wpE 29 22 [some (.ref v0), some (.ref v1), some (.int v2), some (.int v3), none] [] h (0, 0) Q :=
  vc_s (ct := fun pc => Nat.beq pc 22 || Nat.beq pc 48 || Nat.beq pc 53 || Nat.beq pc 64) 1000 false (And.intro k1 (And.intro (fun c1 => (And.intro (Nat.le_of_ble_eq_true rfl) (@wpE_w _ _ [some (.ref v0), some (.ref v1), none, some (.int (nI 0)), none] _ _ _ _ _ (show LeL [some (.ref v0), some (.ref v1), none, some (.int (nI 0)), none] [some (.ref v0), some (.ref v1), some (.int v2), some (.int (nI 0)), none] from (And.intro rfl (And.intro rfl (And.intro rfl trivial)))) (H1 c1)))) (fun c2 => (And.intro k2 (And.intro (Nat.le_of_ble_eq_true rfl) (And.intro (Nat.le_of_ble_eq_true rfl) (And.intro (Nat.le_of_ble_eq_true rfl) (And.intro (Nat.le_of_ble_eq_true rfl) (r_S_rowOfCommit_0 (v0 := v1) (v1 := (v2 + v3)) (h := h) ((vc_s (ct := fun pc => Nat.beq pc 22 || Nat.beq pc 48 || Nat.beq pc 53 || Nat.beq pc 64) 1000 false (And.intro k1 (And.intro (Nat.le_of_ble_eq_true rfl) (And.intro (Nat.le_of_ble_eq_true rfl) (And.intro (Nat.le_of_ble_eq_true rfl) (And.intro (Nat.le_of_ble_eq_true rfl) (r_G_setNode_0 (v0 := v0) (v1 := v3) (v2 := (nI 8 + (((v2 + v3) - nI 1) &&& nI 15))) (v3 := (v2 + v3)) (q1 := q1) (n1 := n1) (q2 := q2) (n2 := n2) (q3 := q3) (n3 := n3) (q4 := q4) (n4 := n4) (h := h) k1 k3 k4 k5 k6 k7 k8 k9 k10 ((B2 c2)) ((B3 c2)) ((B4 c2)) ((B5 c2)) ((vc_s (ct := fun pc => Nat.beq pc 22 || Nat.beq pc 48 || Nat.beq pc 53 || Nat.beq pc 64) 1000 false (And.intro (Nat.le_of_ble_eq_true rfl) (H6 c2)))))))))))))))))))))
/-- SnapshotRings$Graph.load from 53 -/
theorem r_G_load_53 {v0 : Nat} {v1 : Nat} {v3 : Int32} {h : sn_H} {Q : Option Value → sn_H → Prop}
    (k1 : hK h v0 = (0, 3, 10))
    (H1 : (hG h v0 0) ≤ v3 → Q none h)
    (H2 : ¬ (hG h v0 0) ≤ v3 → wpE 29 64 [some (.ref v0), some (.ref v1), none, some (.int v3), some (.int (nI 0))] [] h (0, 0) Q) :
    wpE 29 53 [some (.ref v0), some (.ref v1), none, some (.int v3), none] [] h (0, 0) Q :=
  vc_s (ct := fun pc => Nat.beq pc 22 || Nat.beq pc 48 || Nat.beq pc 53 || Nat.beq pc 64) 1000 false (And.intro k1 (And.intro (fun c1 => (And.intro rfl (H1 c1))) (fun c2 => (And.intro (Nat.le_of_ble_eq_true rfl) (H2 c2)))))
/-- SnapshotRings$Graph.load from 48 -/
theorem r_G_load_48 {v0 : Nat} {v1 : Nat} {v2 : Int32} {v3 : Int32} {h : sn_H} {Q : Option Value → sn_H → Prop}
    (H1 : wpE 29 22 [some (.ref v0), some (.ref v1), some (.int v2), some (.int v3), none] [] h (0, 0) Q) :
    wpE 29 48 [some (.ref v0), some (.ref v1), some (.int v2), some (.int v3), none] [] h (0, 0) Q :=
  vc_s (ct := fun pc => Nat.beq pc 22 || Nat.beq pc 48 || Nat.beq pc 53 || Nat.beq pc 64) 1000 false H1
/-- SnapshotRings$Graph.load from 64 -/
theorem r_G_load_64 {v0 : Nat} {v1 : Nat} {v3 : Int32} {v4 : Int32} {h : sn_H} {Q : Option Value → sn_H → Prop}
    (k1 : hK h v0 = (0, 3, 10))
    (H1 : (hG h v0 0) ≤ v4 → wpE 29 53 [some (.ref v0), some (.ref v1), none, some (.int (v3 + nI 1)), none] [] h (0, 0) Q)
    (H2 : ¬ (hG h v0 0) ≤ v4 → v3 = v4 → wpE 29 64 [some (.ref v0), some (.ref v1), none, some (.int v3), some (.int (v4 + nI 1))] [] h (0, 0) Q)
    (H3 : ¬ (hG h v0 0) ≤ v4 → ¬ v3 = v4 → wpE 33 0 [some (.ref v0), some (.ref v1), some (.int v3), some (.int v4), none] [] h (0, 0) (fun r hh => wpE 29 87 [some (.ref v0), some (.ref v1), none, some (.int v3), some (.int v4)] (r.toList ++ []) hh (0, 0) Q)) :
    wpE 29 64 [some (.ref v0), some (.ref v1), none, some (.int v3), some (.int v4)] [] h (0, 0) Q :=
  vc_s (ct := fun pc => Nat.beq pc 22 || Nat.beq pc 48 || Nat.beq pc 53 || Nat.beq pc 64) 1000 false (And.intro k1 (And.intro (fun c1 => (And.intro (Nat.le_of_ble_eq_true rfl) (@wpE_w _ _ [some (.ref v0), some (.ref v1), none, some (.int (v3 + nI 1)), none] _ _ _ _ _ (show LeL [some (.ref v0), some (.ref v1), none, some (.int (v3 + nI 1)), none] [some (.ref v0), some (.ref v1), none, some (.int (v3 + nI 1)), some (.int v4)] from (And.intro rfl (And.intro rfl (And.intro rfl trivial)))) (H1 c1)))) (fun c2 => (And.intro (fun c3 => (And.intro (Nat.le_of_ble_eq_true rfl) (H2 c2 c3))) (fun c4 => (And.intro k1 (And.intro (Nat.le_of_ble_eq_true rfl) (And.intro (Nat.le_of_ble_eq_true rfl) (And.intro (Nat.le_of_ble_eq_true rfl) (And.intro (Nat.le_of_ble_eq_true rfl) (H3 c2 c4)))))))))))
/-- SnapshotRings$Graph.load from 87 -/
theorem r_G_load_87 {v0 : Nat} {v1 : Nat} {v3 : Int32} {v4 : Int32} {h : sn_H} {Q : Option Value → sn_H → Prop}
    (H1 : wpE 29 64 [some (.ref v0), some (.ref v1), none, some (.int v3), some (.int (v4 + nI 1))] [] h (0, 0) Q) :
    wpE 29 87 [some (.ref v0), some (.ref v1), none, some (.int v3), some (.int v4)] [] h (0, 0) Q :=
  vc_s (ct := fun pc => Nat.beq pc 22 || Nat.beq pc 48 || Nat.beq pc 53 || Nat.beq pc 64) 1000 false (And.intro (Nat.le_of_ble_eq_true rfl) H1)
/-- SnapshotRings$Graph.join from 0 -/
theorem r_G_join_0 {v0 : Nat} {v1 : Nat} {v2 : Int32} {q1 : Nat} {n1 : Nat} {q2 : Nat} {n2 : Nat} {q3 : Nat} {n3 : Nat} {q4 : Nat} {n4 : Nat} {h : sn_H} {Q : Option Value → sn_H → Prop}
    (k1 : hK h v0 = (0, 3, 10))
    (k2 : hK h v1 = (0, 1, 14))
    (k3 : hR h v0 1 = some q1)
    (k4 : hK h q1 = (1, 0, n1))
    (k5 : hR h v0 2 = some q2)
    (k6 : hK h q2 = (1, 0, n2))
    (k7 : hR h v0 4 = some q3)
    (k8 : hK h q3 = (1, 0, n3))
    (k9 : hR h v0 5 = some q4)
    (k10 : hK h q4 = (1, 0, n4))
    (B1 : (hG h v0 0) < nI 17 → vp_in (hG h v0 0) n1)
    (B2 : (hG h v0 0) < nI 17 → vp_in (hG h v0 0) n2)
    (B3 : (hG h v0 0) < nI 17 → vp_in (hG h v0 0) n3)
    (B4 : (hG h v0 0) < nI 17 → vp_in (hG h v0 0) n4)
    (H5 : (hG h v0 0) < nI 17 → wpE 35 40 [some (.ref v0), some (.ref v1), none, some (.int (hG h v0 0)), some (.int (nI 0))] [] (setG (setG (setG (setG (setG h v0 0 ((hG h v0 0) + nI 1)) q1 (hG h v0 0).toNatClampNeg v2) q2 (hG h v0 0).toNatClampNeg ((hG (setG h v0 0 ((hG h v0 0) + nI 1)) v1 1) + nI 1)) q3 (hG h v0 0).toNatClampNeg (nI 0)) q4 (hG h v0 0).toNatClampNeg (nI 0)) (0, 0) Q)
    (H6 : ¬ (hG h v0 0) < nI 17 → Q none h) :
    wpE 35 0 [some (.ref v0), some (.ref v1), some (.int v2), none, none] [] h (0, 0) Q :=
  vc_s (ct := fun pc => Nat.beq pc 40) 1000 false (And.intro k1 (And.intro (fun c1 => (And.intro k1 (And.intro (Nat.le_of_ble_eq_true rfl) (And.intro rfl (And.intro k1 (And.intro k1 (And.intro rfl (And.intro k2 (And.intro k1 (And.intro (Nat.le_of_ble_eq_true rfl) (And.intro (Nat.le_of_ble_eq_true rfl) (And.intro (Nat.le_of_ble_eq_true rfl) (And.intro (Nat.le_of_ble_eq_true rfl) (r_G_setNode_0 (v0 := v0) (v1 := (hG h v0 0)) (v2 := v2) (v3 := ((hG (setG h v0 0 ((hG h v0 0) + nI 1)) v1 1) + nI 1)) (q1 := q1) (n1 := n1) (q2 := q2) (n2 := n2) (q3 := q3) (n3 := n3) (q4 := q4) (n4 := n4) (h := (setG h v0 0 ((hG h v0 0) + nI 1))) k1 k3 k4 k5 k6 k7 k8 k9 k10 ((B1 c1)) ((B2 c1)) ((B3 c1)) ((B4 c1)) ((vc_s (ct := fun pc => Nat.beq pc 40) 1000 false (And.intro (Nat.le_of_ble_eq_true rfl) (@wpE_w _ _ [some (.ref v0), some (.ref v1), none, some (.int (hG h v0 0)), some (.int (nI 0))] _ _ _ _ _ (show LeL [some (.ref v0), some (.ref v1), none, some (.int (hG h v0 0)), some (.int (nI 0))] [some (.ref v0), some (.ref v1), some (.int v2), some (.int (hG h v0 0)), some (.int (nI 0))] from (And.intro rfl (And.intro rfl (And.intro rfl (And.intro rfl trivial))))) (H5 c1))))))))))))))))))) (fun c2 => (And.intro rfl (H6 c2)))))
/-- SnapshotRings$Graph.join from 40 -/
theorem r_G_join_40 {v0 : Nat} {v1 : Nat} {v3 : Int32} {v4 : Int32} {h : sn_H} {Q : Option Value → sn_H → Prop}
    (k1 : hK h v0 = (0, 3, 10))
    (H1 : v3 ≤ v4 → Q none h)
    (H2 : ¬ v3 ≤ v4 → wpE 33 0 [some (.ref v0), some (.ref v1), some (.int v4), some (.int v3), none] [] h (0, 0) (fun r hh => wpE 35 54 [some (.ref v0), some (.ref v1), none, some (.int v3), some (.int v4)] (r.toList ++ []) hh (0, 0) Q)) :
    wpE 35 40 [some (.ref v0), some (.ref v1), none, some (.int v3), some (.int v4)] [] h (0, 0) Q :=
  vc_s (ct := fun pc => Nat.beq pc 40) 1000 false (And.intro (fun c1 => (And.intro rfl (H1 c1))) (fun c2 => (And.intro k1 (And.intro (Nat.le_of_ble_eq_true rfl) (And.intro (Nat.le_of_ble_eq_true rfl) (And.intro (Nat.le_of_ble_eq_true rfl) (And.intro (Nat.le_of_ble_eq_true rfl) (H2 c2))))))))
/-- SnapshotRings$Graph.join from 54 -/
theorem r_G_join_54 {v0 : Nat} {v1 : Nat} {v3 : Int32} {v4 : Int32} {h : sn_H} {Q : Option Value → sn_H → Prop}
    (k1 : hK h v0 = (0, 3, 10))
    (H1 : wpE 33 0 [some (.ref v0), some (.ref v1), some (.int v3), some (.int v4), none] [] h (0, 0) (fun r hh => wpE 35 62 [some (.ref v0), some (.ref v1), none, some (.int v3), some (.int v4)] (r.toList ++ []) hh (0, 0) Q)) :
    wpE 35 54 [some (.ref v0), some (.ref v1), none, some (.int v3), some (.int v4)] [] h (0, 0) Q :=
  vc_s (ct := fun pc => Nat.beq pc 40) 1000 false (And.intro k1 (And.intro (Nat.le_of_ble_eq_true rfl) (And.intro (Nat.le_of_ble_eq_true rfl) (And.intro (Nat.le_of_ble_eq_true rfl) (And.intro (Nat.le_of_ble_eq_true rfl) H1)))))
/-- SnapshotRings$Graph.join from 62 -/
theorem r_G_join_62 {v0 : Nat} {v1 : Nat} {v3 : Int32} {v4 : Int32} {h : sn_H} {Q : Option Value → sn_H → Prop}
    (H1 : wpE 35 40 [some (.ref v0), some (.ref v1), none, some (.int v3), some (.int (v4 + nI 1))] [] h (0, 0) Q) :
    wpE 35 62 [some (.ref v0), some (.ref v1), none, some (.int v3), some (.int v4)] [] h (0, 0) Q :=
  vc_s (ct := fun pc => Nat.beq pc 40) 1000 false (And.intro (Nat.le_of_ble_eq_true rfl) H1)
/-- SnapshotRings$Graph.countSteps from 0 -/
theorem r_G_countSteps_0 {v0 : Nat} {v1 : Int32} {h : sn_H} {Q : Option Value → sn_H → Prop}
    (H1 : wpE 37 2 [some (.ref v0), some (.int v1), some (.int (nI 0)), none, none, none] [] h (0, 0) Q) :
    wpE 37 0 [some (.ref v0), some (.int v1), none, none, none, none] [] h (0, 0) Q :=
  vc_s (ct := fun pc => Nat.beq pc 2 || Nat.beq pc 37 || Nat.beq pc 51) 1000 false (And.intro (Nat.le_of_ble_eq_true rfl) H1)
/-- SnapshotRings$Graph.countSteps from 2 -/
theorem r_G_countSteps_2 {v0 : Nat} {v1 : Int32} {v2 : Int32} {q1 : Nat} {n1 : Nat} {h : sn_H} {Q : Option Value → sn_H → Prop}
    (k1 : hK h v0 = (0, 3, 10))
    (k2 : hR h v0 7 = some q1)
    (k3 : hK h q1 = (1, 0, n1))
    (B1 : (hG h v0 0) ≤ v2 → vp_in v1 n1)
    (H2 : (hG h v0 0) ≤ v2 → wpE 37 37 [some (.ref v0), none, some (.int (nI 1 <<< (v1 &&& 31))), some (.int (nI 1)), none, none] [] (setG h q1 v1.toNatClampNeg (nI 0)) (0, 0) Q)
    (B3 : ¬ (hG h v0 0) ≤ v2 → vp_in v2 n1)
    (H4 : ¬ (hG h v0 0) ≤ v2 → wpE 37 2 [some (.ref v0), some (.int v1), some (.int (v2 + nI 1)), none, none, none] [] (setG h q1 v2.toNatClampNeg (nI 17)) (0, 0) Q) :
    wpE 37 2 [some (.ref v0), some (.int v1), some (.int v2), none, none, none] [] h (0, 0) Q :=
  vc_s (ct := fun pc => Nat.beq pc 2 || Nat.beq pc 37 || Nat.beq pc 51) 1000 false (And.intro k1 (And.intro (fun c1 => (And.intro k1 (Exists.intro q1 (And.intro k2 (Exists.intro n1 (And.intro k3 (And.intro (B1 c1) (And.intro (Nat.le_of_ble_eq_true rfl) (And.intro (Nat.le_of_ble_eq_true rfl) (@wpE_w _ _ [some (.ref v0), none, some (.int (nI 1 <<< (v1 &&& 31))), some (.int (nI 1)), none, none] _ _ _ _ _ (show LeL [some (.ref v0), none, some (.int (nI 1 <<< (v1 &&& 31))), some (.int (nI 1)), none, none] [some (.ref v0), some (.int v1), some (.int (nI 1 <<< (v1 &&& 31))), some (.int (nI 1)), none, none] from (And.intro rfl (And.intro rfl (And.intro rfl trivial)))) (H2 c1))))))))))) (fun c2 => (And.intro k1 (Exists.intro q1 (And.intro k2 (Exists.intro n1 (And.intro k3 (And.intro (B3 c2) (And.intro (Nat.le_of_ble_eq_true rfl) (H4 c2)))))))))))
/-- SnapshotRings$Graph.countSteps from 37 -/
theorem r_G_countSteps_37 {v0 : Nat} {v2 : Int32} {v3 : Int32} {h : sn_H} {Q : Option Value → sn_H → Prop}
    (k1 : hK h v0 = (0, 3, 10))
    (H1 : (hG h v0 0) ≤ v3 → Q none h)
    (H2 : ¬ (hG h v0 0) ≤ v3 → wpE 37 51 [some (.ref v0), none, some (.int v2), some (.int v3), some (.int (nI 0)), some (.int (nI 0))] [] h (0, 0) Q) :
    wpE 37 37 [some (.ref v0), none, some (.int v2), some (.int v3), none, none] [] h (0, 0) Q :=
  vc_s (ct := fun pc => Nat.beq pc 2 || Nat.beq pc 37 || Nat.beq pc 51) 1000 false (And.intro k1 (And.intro (fun c1 => (And.intro rfl (H1 c1))) (fun c2 => (And.intro (Nat.le_of_ble_eq_true rfl) (And.intro (Nat.le_of_ble_eq_true rfl) (H2 c2))))))
/-- SnapshotRings$Graph.countSteps from 51 -/
theorem r_G_countSteps_51 {v0 : Nat} {v2 : Int32} {v3 : Int32} {v4 : Int32} {v5 : Int32} {q1 : Nat} {n1 : Nat} {q2 : Nat} {n2 : Nat} {h : sn_H} {Q : Option Value → sn_H → Prop}
    (k1 : hK h v0 = (0, 3, 10))
    (k2 : hR h v0 7 = some q1)
    (k3 : hK h q1 = (1, 0, n1))
    (k4 : hR h v0 4 = some q2)
    (k5 : hK h q2 = (1, 0, n2))
    (H1 : (hG h v0 0) ≤ v5 → wpE 37 37 [some (.ref v0), none, some (.int v4), some (.int (v3 + nI 1)), none, none] [] h (0, 0) Q)
    (B2 : ¬ (hG h v0 0) ≤ v5 → vp_in v5 n1)
    (H3 : ¬ (hG h v0 0) ≤ v5 → ¬ (hG h q1 v5.toNatClampNeg) = nI 17 → wpE 37 51 [some (.ref v0), none, some (.int v2), some (.int v3), some (.int v4), some (.int (v5 + nI 1))] [] h (0, 0) Q)
    (B4 : ¬ (hG h v0 0) ≤ v5 → (hG h q1 v5.toNatClampNeg) = nI 17 → vp_in v5 n2)
    (H5 : ¬ (hG h v0 0) ≤ v5 → (hG h q1 v5.toNatClampNeg) = nI 17 → ((hG h q2 v5.toNatClampNeg) &&& v2) = 0 → wpE 37 51 [some (.ref v0), none, some (.int v2), some (.int v3), some (.int v4), some (.int (v5 + nI 1))] [] h (0, 0) Q)
    (H6 : ¬ (hG h v0 0) ≤ v5 → (hG h q1 v5.toNatClampNeg) = nI 17 → ¬ ((hG h q2 v5.toNatClampNeg) &&& v2) = 0 → wpE 37 51 [some (.ref v0), none, some (.int v2), some (.int v3), some (.int (v4 ||| (nI 1 <<< (v5 &&& 31)))), some (.int (v5 + nI 1))] [] (setG h q1 v5.toNatClampNeg v3) (0, 0) Q) :
    wpE 37 51 [some (.ref v0), none, some (.int v2), some (.int v3), some (.int v4), some (.int v5)] [] h (0, 0) Q :=
  vc_s (ct := fun pc => Nat.beq pc 2 || Nat.beq pc 37 || Nat.beq pc 51) 1000 false (And.intro k1 (And.intro (fun c1 => (And.intro (Nat.le_of_ble_eq_true rfl) (And.intro (Nat.le_of_ble_eq_true rfl) (@wpE_w _ _ [some (.ref v0), none, some (.int v4), some (.int (v3 + nI 1)), none, none] _ _ _ _ _ (show LeL [some (.ref v0), none, some (.int v4), some (.int (v3 + nI 1)), none, none] [some (.ref v0), none, some (.int v4), some (.int (v3 + nI 1)), some (.int v4), some (.int v5)] from (And.intro rfl (And.intro rfl (And.intro rfl trivial)))) (H1 c1))))) (fun c2 => (And.intro k1 (Exists.intro q1 (And.intro k2 (Exists.intro 0 (Exists.intro n1 (And.intro k3 (And.intro (B2 c2) (And.intro (fun c3 => (And.intro (Nat.le_of_ble_eq_true rfl) (H3 c2 c3))) (fun c4 => (And.intro k1 (Exists.intro q2 (And.intro k4 (Exists.intro 0 (Exists.intro n2 (And.intro k5 (And.intro (B4 c2 c4) (And.intro (fun c5 => (And.intro (Nat.le_of_ble_eq_true rfl) (H5 c2 c4 c5))) (fun c6 => (And.intro k1 (Exists.intro q1 (And.intro k2 (Exists.intro n1 (And.intro k3 (And.intro (B2 c2) (And.intro (Nat.le_of_ble_eq_true rfl) (And.intro (Nat.le_of_ble_eq_true rfl) (H6 c2 c4 c6))))))))))))))))))))))))))))))
/-- SnapshotRings$Graph.lowestBehind from 0 -/
theorem r_G_lowestBehind_0 {v0 : Nat} {v1 : Int32} {v2 : Int32} {h : sn_H} {Q : Option Value → sn_H → Prop}
    (H1 : wpE 38 2 [some (.ref v0), some (.int v1), some (.int v2), some (.int (nI 0))] [] h (0, 0) Q) :
    wpE 38 0 [some (.ref v0), some (.int v1), some (.int v2), none] [] h (0, 0) Q :=
  vc_s (ct := fun pc => Nat.beq pc 2) 1000 false (And.intro (Nat.le_of_ble_eq_true rfl) H1)
/-- SnapshotRings$Graph.lowestBehind from 2 -/
theorem r_G_lowestBehind_2 {v0 : Nat} {v1 : Int32} {v2 : Int32} {v3 : Int32} {q1 : Nat} {n1 : Nat} {q2 : Nat} {n2 : Nat} {h : sn_H} {Q : Option Value → sn_H → Prop}
    (k1 : hK h v0 = (0, 3, 10))
    (k2 : hR h v0 4 = some q1)
    (k3 : hK h q1 = (1, 0, n1))
    (k4 : hR h v0 7 = some q2)
    (k5 : hK h q2 = (1, 0, n2))
    (H1 : (hG h v0 0) ≤ v3 → Q (some (.int v1)) h)
    (B2 : ¬ (hG h v0 0) ≤ v3 → vp_in v1 n1)
    (H3 : ¬ (hG h v0 0) ≤ v3 → ¬ (((hG h q1 v1.toNatClampNeg) >>> (v3 &&& 31)) &&& nI 1) = nI 1 → wpE 38 2 [some (.ref v0), some (.int v1), some (.int v2), some (.int (v3 + nI 1))] [] h (0, 0) Q)
    (B4 : ¬ (hG h v0 0) ≤ v3 → (((hG h q1 v1.toNatClampNeg) >>> (v3 &&& 31)) &&& nI 1) = nI 1 → vp_in v3 n2)
    (H5 : ¬ (hG h v0 0) ≤ v3 → (((hG h q1 v1.toNatClampNeg) >>> (v3 &&& 31)) &&& nI 1) = nI 1 → ¬ (hG h q2 v3.toNatClampNeg) = v2 → wpE 38 2 [some (.ref v0), some (.int v1), some (.int v2), some (.int (v3 + nI 1))] [] h (0, 0) Q)
    (H6 : ¬ (hG h v0 0) ≤ v3 → (((hG h q1 v1.toNatClampNeg) >>> (v3 &&& 31)) &&& nI 1) = nI 1 → (hG h q2 v3.toNatClampNeg) = v2 → Q (some (.int v3)) h) :
    wpE 38 2 [some (.ref v0), some (.int v1), some (.int v2), some (.int v3)] [] h (0, 0) Q :=
  vc_s (ct := fun pc => Nat.beq pc 2) 1000 false (And.intro k1 (And.intro (fun c1 => (H1 c1)) (fun c2 => (And.intro k1 (Exists.intro q1 (And.intro k2 (Exists.intro 0 (Exists.intro n1 (And.intro k3 (And.intro (B2 c2) (And.intro (Nat.le_of_ble_eq_true rfl) (And.intro (Nat.le_of_ble_eq_true rfl) (And.intro (Nat.le_of_ble_eq_true rfl) (And.intro (Nat.le_of_ble_eq_true rfl) (r_X_hasBit_0 (v0 := (hG h q1 v1.toNatClampNeg)) (v1 := v3) (h := h) (fun c3 => (vc_s (ct := fun pc => Nat.beq pc 2) 1000 false (And.intro (fun c4 => (And.intro (Nat.le_of_ble_eq_true rfl) (H3 c2 c3))) (fun c4 => absurd c4 (by decide))))) (fun c5 => (vc_s (ct := fun pc => Nat.beq pc 2) 1000 false (And.intro (fun c6 => absurd c6 (by decide)) (fun c6 => (And.intro k1 (Exists.intro q2 (And.intro k4 (Exists.intro 0 (Exists.intro n2 (And.intro k5 (And.intro (B4 c2 c5) (And.intro (fun c7 => (And.intro (Nat.le_of_ble_eq_true rfl) (H5 c2 c5 c7))) (fun c8 => (H6 c2 c5 c8)))))))))))))))))))))))))))))
/-- SnapshotRings$Graph.tell from 0 -/
theorem r_G_tell_0 {v0 : Nat} {v1 : Int32} {q1 : Nat} {q2 : Nat} {n1 : Nat} {n2 : Nat} {h : sn_H} {Q : Option Value → sn_H → Prop}
    (k1 : hK h v0 = (0, 3, 10))
    (k2 : hR h v0 8 = some q1)
    (k3 : hR h v0 2 = some q2)
    (k4 : hK h q2 = (1, 0, n1))
    (k5 : hK h q1 = (1, 0, n2))
    (B1 : vp_in v1 n1)
    (B2 : vp_in (hG h v0 9) n2)
    (H3 : Q none (setG (setG h q1 (hG h v0 9).toNatClampNeg (hG h q2 v1.toNatClampNeg)) v0 9 ((hG (setG h q1 (hG h v0 9).toNatClampNeg (hG h q2 v1.toNatClampNeg)) v0 9) + nI 1))) :
    wpE 39 0 [some (.ref v0), some (.int v1)] [] h (0, 0) Q :=
  vc_s (ct := fun _ => false) 1000 false (And.intro k1 (Exists.intro q1 (And.intro k2 (And.intro k1 (And.intro k1 (Exists.intro q2 (And.intro k3 (Exists.intro 0 (Exists.intro n1 (And.intro k4 (And.intro B1 (Exists.intro n2 (And.intro k5 (And.intro B2 (And.intro rfl (And.intro k1 (And.intro k1 (And.intro rfl (And.intro rfl H3)))))))))))))))))))
/-- SnapshotRings$Graph.findRing from 0 -/
theorem r_G_findRing_0 {v0 : Nat} {h : sn_H} {Q : Option Value → sn_H → Prop}
    (k1 : hK h v0 = (0, 3, 10))
    (H1 : 0 ≤ ((hG (setG h v0 9 (nI 0)) v0 0) - nI 1) → wpE 37 0 [some (.ref v0), some (.int ((hG (setG h v0 9 (nI 0)) v0 0) - nI 1)), none, none, none, none] [] (setG h v0 9 (nI 0)) (0, 0) (fun r hh => wpE 36 22 [some (.ref v0), some (.int ((hG (setG h v0 9 (nI 0)) v0 0) - nI 1)), none, none, none] (r.toList ++ []) hh (0, 0) Q))
    (H2 : ¬ 0 ≤ ((hG (setG h v0 9 (nI 0)) v0 0) - nI 1) → Q none (setG h v0 9 (nI 0))) :
    wpE 36 0 [some (.ref v0), none, none, none, none] [] h (0, 0) Q :=
  vc_s (ct := fun pc => Nat.beq pc 27 || Nat.beq pc 74 || Nat.beq pc 95) 1000 false (And.intro k1 (And.intro rfl (And.intro k1 (And.intro (Nat.le_of_ble_eq_true rfl) (And.intro (fun c1 => (And.intro k1 (And.intro (Nat.le_of_ble_eq_true rfl) (And.intro (Nat.le_of_ble_eq_true rfl) (And.intro (Nat.le_of_ble_eq_true rfl) (And.intro (Nat.le_of_ble_eq_true rfl) (H1 c1))))))) (fun c2 => (And.intro rfl (H2 c2))))))))
/-- SnapshotRings$Graph.findRing from 22 -/
theorem r_G_findRing_22 {v0 : Nat} {v1 : Int32} {h : sn_H} {Q : Option Value → sn_H → Prop}
    (H1 : wpE 36 27 [some (.ref v0), some (.int v1), some (.int (nI 17)), some (.int (nI 0)), none] [] h (0, 0) Q) :
    wpE 36 22 [some (.ref v0), some (.int v1), none, none, none] [] h (0, 0) Q :=
  vc_s (ct := fun pc => Nat.beq pc 27 || Nat.beq pc 74 || Nat.beq pc 95) 1000 false (And.intro (Nat.le_of_ble_eq_true rfl) (And.intro (Nat.le_of_ble_eq_true rfl) H1))
/-- SnapshotRings$Graph.findRing from 27 -/
theorem r_G_findRing_27 {v0 : Nat} {v1 : Int32} {v2 : Int32} {v3 : Int32} {q1 : Nat} {n1 : Nat} {q2 : Nat} {n2 : Nat} {h : sn_H} {Q : Option Value → sn_H → Prop}
    (k1 : hK h v0 = (0, 3, 10))
    (k2 : hR h v0 4 = some q1)
    (k3 : hK h q1 = (1, 0, n1))
    (k4 : hR h v0 7 = some q2)
    (k5 : hK h q2 = (1, 0, n2))
    (H1 : v1 ≤ v3 → ¬ v2 = nI 17 → wpE 36 74 [some (.ref v0), none, none, some (.int v1), some (.int v2)] [] h (0, 0) Q)
    (H2 : v1 ≤ v3 → v2 = nI 17 → Q none h)
    (B3 : ¬ v1 ≤ v3 → vp_in v1 n1)
    (H4 : ¬ v1 ≤ v3 → ¬ (((hG h q1 v1.toNatClampNeg) >>> (v3 &&& 31)) &&& nI 1) = nI 1 → wpE 36 27 [some (.ref v0), some (.int v1), some (.int v2), some (.int (v3 + nI 1)), none] [] h (0, 0) Q)
    (B5 : ¬ v1 ≤ v3 → (((hG h q1 v1.toNatClampNeg) >>> (v3 &&& 31)) &&& nI 1) = nI 1 → vp_in v3 n2)
    (H6 : ¬ v1 ≤ v3 → (((hG h q1 v1.toNatClampNeg) >>> (v3 &&& 31)) &&& nI 1) = nI 1 → wpE 36 27 [some (.ref v0), some (.int v1), some (.int (if (hG h q2 v3.toNatClampNeg) < v2 then (hG h q2 v3.toNatClampNeg) else v2)), some (.int (v3 + nI 1)), none] [] h (0, 0) Q) :
    wpE 36 27 [some (.ref v0), some (.int v1), some (.int v2), some (.int v3), none] [] h (0, 0) Q :=
  vc_s (ct := fun pc => Nat.beq pc 27 || Nat.beq pc 74 || Nat.beq pc 95) 1000 false (And.intro (fun c1 => (And.intro (fun c2 => (And.intro (Nat.le_of_ble_eq_true rfl) (And.intro (Nat.le_of_ble_eq_true rfl) (@wpE_w _ _ [some (.ref v0), none, none, some (.int v1), some (.int v2)] _ _ _ _ _ (show LeL [some (.ref v0), none, none, some (.int v1), some (.int v2)] [some (.ref v0), some (.int v1), some (.int v2), some (.int v1), some (.int v2)] from (And.intro rfl (And.intro rfl (And.intro rfl trivial)))) (H1 c1 c2))))) (fun c3 => (And.intro rfl (H2 c1 c3))))) (fun c4 => (And.intro k1 (Exists.intro q1 (And.intro k2 (Exists.intro 0 (Exists.intro n1 (And.intro k3 (And.intro (B3 c4) (And.intro (Nat.le_of_ble_eq_true rfl) (And.intro (Nat.le_of_ble_eq_true rfl) (And.intro (Nat.le_of_ble_eq_true rfl) (And.intro (Nat.le_of_ble_eq_true rfl) (r_X_hasBit_0 (v0 := (hG h q1 v1.toNatClampNeg)) (v1 := v3) (h := h) (fun c5 => (vc_s (ct := fun pc => Nat.beq pc 27 || Nat.beq pc 74 || Nat.beq pc 95) 1000 false (And.intro (fun c6 => (And.intro (Nat.le_of_ble_eq_true rfl) (H4 c4 c5))) (fun c6 => absurd c6 (by decide))))) (fun c7 => (vc_s (ct := fun pc => Nat.beq pc 27 || Nat.beq pc 74 || Nat.beq pc 95) 1000 false (And.intro (fun c8 => absurd c8 (by decide)) (fun c8 => (And.intro k1 (Exists.intro q2 (And.intro k4 (Exists.intro 0 (Exists.intro n2 (And.intro k5 (And.intro (B5 c4 c7) (And.intro (Nat.le_of_ble_eq_true rfl) (And.intro (Nat.le_of_ble_eq_true rfl) (And.intro (Nat.le_of_ble_eq_true rfl) (H6 c4 c7)))))))))))))))))))))))))))))
/-- SnapshotRings$Graph.findRing from 74 -/
theorem r_G_findRing_74 {v0 : Nat} {v3 : Int32} {v4 : Int32} {h : sn_H} {Q : Option Value → sn_H → Prop}
    (k1 : hK h v0 = (0, 3, 10))
    (H1 : v4 ≤ 0 → Q none h)
    (H2 : ¬ v4 ≤ 0 → wpE 38 0 [some (.ref v0), some (.int v3), some (.int v4), none] [] h (0, 0) (fun r hh => wpE 36 86 [some (.ref v0), none, none, none, some (.int v4)] (r.toList ++ []) hh (0, 0) Q)) :
    wpE 36 74 [some (.ref v0), none, none, some (.int v3), some (.int v4)] [] h (0, 0) Q :=
  vc_s (ct := fun pc => Nat.beq pc 27 || Nat.beq pc 74 || Nat.beq pc 95) 1000 false (And.intro (fun c1 => (And.intro rfl (H1 c1))) (fun c2 => (And.intro k1 (And.intro (Nat.le_of_ble_eq_true rfl) (And.intro (Nat.le_of_ble_eq_true rfl) (And.intro (Nat.le_of_ble_eq_true rfl) (And.intro (Nat.le_of_ble_eq_true rfl) (wpE_m (fun _ _ HH => @wpE_w _ _ [some (.ref v0), none, none, none, some (.int v4)] _ _ _ _ _ (show LeL [some (.ref v0), none, none, none, some (.int v4)] [some (.ref v0), none, none, some (.int v3), some (.int v4)] from (And.intro rfl (And.intro rfl trivial))) HH) (H2 c2)))))))))
/-- SnapshotRings$Graph.findRing from 86 -/
theorem r_G_findRing_86 {v0 : Nat} {v4 : Int32} {s0 : Int32} {q1 : Nat} {q2 : Nat} {n1 : Nat} {n2 : Nat} {h : sn_H} {Q : Option Value → sn_H → Prop}
    (k1 : hK h v0 = (0, 3, 10))
    (k2 : hR h v0 8 = some q1)
    (k3 : hR h v0 2 = some q2)
    (k4 : hK h q2 = (1, 0, n1))
    (k5 : hK h q1 = (1, 0, n2))
    (B1 : vp_in s0 n1)
    (B2 : vp_in (hG h v0 9) n2)
    (H3 : wpE 36 95 [some (.ref v0), none, none, some (.int s0), some (.int (v4 + -(nI 1)))] [] (setG (setG h q1 (hG h v0 9).toNatClampNeg (hG h q2 s0.toNatClampNeg)) v0 9 ((hG (setG h q1 (hG h v0 9).toNatClampNeg (hG h q2 s0.toNatClampNeg)) v0 9) + nI 1)) (0, 0) Q) :
    wpE 36 86 [some (.ref v0), none, none, none, some (.int v4)] [.int s0] h (0, 0) Q :=
  vc_s (ct := fun pc => Nat.beq pc 27 || Nat.beq pc 74 || Nat.beq pc 95) 1000 false (And.intro (Nat.le_of_ble_eq_true rfl) (And.intro k1 (And.intro (Nat.le_of_ble_eq_true rfl) (And.intro (Nat.le_of_ble_eq_true rfl) (And.intro (Nat.le_of_ble_eq_true rfl) (And.intro (Nat.le_of_ble_eq_true rfl) (r_G_tell_0 (v0 := v0) (v1 := s0) (q1 := q1) (q2 := q2) (n1 := n1) (n2 := n2) (h := h) k1 k2 k3 k4 k5 (B1) (B2) ((vc_s (ct := fun pc => Nat.beq pc 27 || Nat.beq pc 74 || Nat.beq pc 95) 1000 false (And.intro (Nat.le_of_ble_eq_true rfl) H3))))))))))
/-- SnapshotRings$Graph.findRing from 95 -/
theorem r_G_findRing_95 {v0 : Nat} {v3 : Int32} {v4 : Int32} {h : sn_H} {Q : Option Value → sn_H → Prop}
    (H1 : wpE 36 74 [some (.ref v0), none, none, some (.int v3), some (.int v4)] [] h (0, 0) Q) :
    wpE 36 95 [some (.ref v0), none, none, some (.int v3), some (.int v4)] [] h (0, 0) Q :=
  vc_s (ct := fun pc => Nat.beq pc 27 || Nat.beq pc 74 || Nat.beq pc 95) 1000 false H1
/-- SnapshotRings$Graph.hasPivot from 0 -/
theorem r_G_hasPivot_0 {v0 : Nat} {h : sn_H} {Q : Option Value → sn_H → Prop}
    (k1 : hK h v0 = (0, 3, 10))
    (H1 : 0 ≤ ((hG h v0 0) - nI 1) → wpE 40 20 [some (.ref v0), some (.int ((hG h v0 0) - nI 1)), some (.int (nI 0)), some (.int (nI 0)), some (.int (nI 0)), none] [] h (0, 0) Q)
    (H2 : ¬ 0 ≤ ((hG h v0 0) - nI 1) → Q (some (.int (nI 0))) h) :
    wpE 40 0 [some (.ref v0), none, none, none, none, none] [] h (0, 0) Q :=
  vc_s (ct := fun pc => Nat.beq pc 20 || Nat.beq pc 93) 1000 false (And.intro k1 (And.intro (Nat.le_of_ble_eq_true rfl) (And.intro (fun c1 => (And.intro (Nat.le_of_ble_eq_true rfl) (And.intro (Nat.le_of_ble_eq_true rfl) (And.intro (Nat.le_of_ble_eq_true rfl) (H1 c1))))) (fun c2 => (And.intro rfl (H2 c2))))))
/-- SnapshotRings$Graph.hasPivot from 20 -/
theorem r_G_hasPivot_20 {v0 : Nat} {v1 : Int32} {v2 : Int32} {v3 : Int32} {v4 : Int32} {q1 : Nat} {n1 : Nat} {h : sn_H} {Q : Option Value → sn_H → Prop}
    (k1 : hK h v0 = (0, 3, 10))
    (k2 : hR h v0 5 = some q1)
    (k3 : hK h q1 = (1, 0, n1))
    (B1 : (hG h v0 0) ≤ v4 → ¬ (((v2 &&& v3) >>> (v1 &&& 31)) &&& nI 1) = nI 1 → vp_in v1 n1)
    (H2 : (hG h v0 0) ≤ v4 → ¬ (((v2 &&& v3) >>> (v1 &&& 31)) &&& nI 1) = nI 1 → ((hG h q1 v1.toNatClampNeg) &&& (v2 &&& v3)) = 0 → wpE 40 93 [some (.ref v0), some (.int v1), none, none, some (.int (v2 &&& v3)), some (.int (nI 0))] [] h (0, 0) Q)
    (H3 : (hG h v0 0) ≤ v4 → ¬ (((v2 &&& v3) >>> (v1 &&& 31)) &&& nI 1) = nI 1 → ¬ ((hG h q1 v1.toNatClampNeg) &&& (v2 &&& v3)) = 0 → Q (some (.int (nI 1))) h)
    (H4 : (hG h v0 0) ≤ v4 → (((v2 &&& v3) >>> (v1 &&& 31)) &&& nI 1) = nI 1 → Q (some (.int (nI 1))) h)
    (B5 : ¬ (hG h v0 0) ≤ v4 → vp_in v4 n1)
    (H6 : ¬ (hG h v0 0) ≤ v4 → (hG h q1 v4.toNatClampNeg) = 0 → wpE 40 20 [some (.ref v0), some (.int v1), some (.int (v2 ||| (hG h q1 v4.toNatClampNeg))), some (.int v3), some (.int (v4 + nI 1)), none] [] h (0, 0) Q)
    (H7 : ¬ (hG h v0 0) ≤ v4 → ¬ (hG h q1 v4.toNatClampNeg) = 0 → wpE 40 20 [some (.ref v0), some (.int v1), some (.int (v2 ||| (hG h q1 v4.toNatClampNeg))), some (.int (v3 ||| (nI 1 <<< (v4 &&& 31)))), some (.int (v4 + nI 1)), none] [] h (0, 0) Q) :
    wpE 40 20 [some (.ref v0), some (.int v1), some (.int v2), some (.int v3), some (.int v4), none] [] h (0, 0) Q :=
  vc_s (ct := fun pc => Nat.beq pc 20 || Nat.beq pc 93) 1000 false (And.intro k1 (And.intro (fun c1 => (And.intro (Nat.le_of_ble_eq_true rfl) (And.intro (Nat.le_of_ble_eq_true rfl) (And.intro (Nat.le_of_ble_eq_true rfl) (And.intro (Nat.le_of_ble_eq_true rfl) (And.intro (Nat.le_of_ble_eq_true rfl) (r_X_hasBit_0 (v0 := (v2 &&& v3)) (v1 := v1) (h := h) (fun c2 => (vc_s (ct := fun pc => Nat.beq pc 20 || Nat.beq pc 93) 1000 false (And.intro (fun c3 => absurd c3 (by decide)) (fun c3 => (And.intro k1 (Exists.intro q1 (And.intro k2 (Exists.intro 0 (Exists.intro n1 (And.intro k3 (And.intro (B1 c1 c2) (And.intro (fun c4 => (And.intro (Nat.le_of_ble_eq_true rfl) (@wpE_w _ _ [some (.ref v0), some (.int v1), none, none, some (.int (v2 &&& v3)), some (.int (nI 0))] _ _ _ _ _ (show LeL [some (.ref v0), some (.int v1), none, none, some (.int (v2 &&& v3)), some (.int (nI 0))] [some (.ref v0), some (.int v1), some (.int v2), some (.int v3), some (.int (v2 &&& v3)), some (.int (nI 0))] from (And.intro rfl (And.intro rfl (And.intro rfl (And.intro rfl trivial))))) (H2 c1 c2 c4)))) (fun c5 => (And.intro rfl (H3 c1 c2 c5))))))))))))))) (fun c6 => (vc_s (ct := fun pc => Nat.beq pc 20 || Nat.beq pc 93) 1000 false (And.intro (fun c7 => (And.intro rfl (H4 c1 c6))) (fun c7 => absurd c7 (by decide)))))))))))) (fun c8 => (And.intro k1 (Exists.intro q1 (And.intro k2 (Exists.intro 0 (Exists.intro n1 (And.intro k3 (And.intro (B5 c8) (And.intro (Nat.le_of_ble_eq_true rfl) (And.intro k1 (Exists.intro q1 (And.intro k2 (Exists.intro 0 (Exists.intro n1 (And.intro k3 (And.intro (B5 c8) (And.intro (fun c9 => (And.intro (Nat.le_of_ble_eq_true rfl) (H6 c8 c9))) (fun c10 => (And.intro (Nat.le_of_ble_eq_true rfl) (And.intro (Nat.le_of_ble_eq_true rfl) (H7 c8 c10)))))))))))))))))))))))
/-- SnapshotRings$Graph.hasPivot from 93 -/
theorem r_G_hasPivot_93 {v0 : Nat} {v1 : Int32} {v4 : Int32} {v5 : Int32} {q1 : Nat} {n1 : Nat} {h : sn_H} {Q : Option Value → sn_H → Prop}
    (k1 : hK h v0 = (0, 3, 10))
    (k2 : hR h v0 5 = some q1)
    (k3 : hK h q1 = (1, 0, n1))
    (H1 : v1 ≤ v5 → Q (some (.int (nI 0))) h)
    (H2 : ¬ v1 ≤ v5 → ¬ ((v4 >>> (v5 &&& 31)) &&& nI 1) = nI 1 → wpE 40 93 [some (.ref v0), some (.int v1), none, none, some (.int v4), some (.int (v5 + nI 1))] [] h (0, 0) Q)
    (B3 : ¬ v1 ≤ v5 → ((v4 >>> (v5 &&& 31)) &&& nI 1) = nI 1 → vp_in v5 n1)
    (H4 : ¬ v1 ≤ v5 → ((v4 >>> (v5 &&& 31)) &&& nI 1) = nI 1 → ¬ (((hG h q1 v5.toNatClampNeg) >>> (v1 &&& 31)) &&& nI 1) = nI 1 → wpE 40 93 [some (.ref v0), some (.int v1), none, none, some (.int v4), some (.int (v5 + nI 1))] [] h (0, 0) Q)
    (H5 : ¬ v1 ≤ v5 → ((v4 >>> (v5 &&& 31)) &&& nI 1) = nI 1 → (((hG h q1 v5.toNatClampNeg) >>> (v1 &&& 31)) &&& nI 1) = nI 1 → Q (some (.int (nI 1))) h) :
    wpE 40 93 [some (.ref v0), some (.int v1), none, none, some (.int v4), some (.int v5)] [] h (0, 0) Q :=
  vc_s (ct := fun pc => Nat.beq pc 20 || Nat.beq pc 93) 1000 false (And.intro (fun c1 => (And.intro rfl (H1 c1))) (fun c2 => (And.intro (Nat.le_of_ble_eq_true rfl) (And.intro (Nat.le_of_ble_eq_true rfl) (And.intro (Nat.le_of_ble_eq_true rfl) (And.intro (Nat.le_of_ble_eq_true rfl) (r_X_hasBit_0 (v0 := v4) (v1 := v5) (h := h) (fun c3 => (vc_s (ct := fun pc => Nat.beq pc 20 || Nat.beq pc 93) 1000 false (And.intro (fun c4 => (And.intro (Nat.le_of_ble_eq_true rfl) (H2 c2 c3))) (fun c4 => absurd c4 (by decide))))) (fun c5 => (vc_s (ct := fun pc => Nat.beq pc 20 || Nat.beq pc 93) 1000 false (And.intro (fun c6 => absurd c6 (by decide)) (fun c6 => (And.intro k1 (Exists.intro q1 (And.intro k2 (Exists.intro 0 (Exists.intro n1 (And.intro k3 (And.intro (B3 c2 c5) (And.intro (Nat.le_of_ble_eq_true rfl) (And.intro (Nat.le_of_ble_eq_true rfl) (And.intro (Nat.le_of_ble_eq_true rfl) (And.intro (Nat.le_of_ble_eq_true rfl) (r_X_hasBit_0 (v0 := (hG h q1 v5.toNatClampNeg)) (v1 := v1) (h := h) (fun c7 => (vc_s (ct := fun pc => Nat.beq pc 20 || Nat.beq pc 93) 1000 false (And.intro (fun c8 => (And.intro (Nat.le_of_ble_eq_true rfl) (H4 c2 c5 c7))) (fun c8 => absurd c8 (by decide))))) (fun c9 => (vc_s (ct := fun pc => Nat.beq pc 20 || Nat.beq pc 93) 1000 false (And.intro (fun c10 => absurd c10 (by decide)) (fun c10 => (And.intro rfl (H5 c2 c5 c9)))))))))))))))))))))))))))))
/-- SnapshotRings$Graph.toldAt from 0 -/
theorem r_G_toldAt_0 {v0 : Nat} {v1 : Int32} {q1 : Nat} {n1 : Nat} {h : sn_H} {Q : Option Value → sn_H → Prop}
    (k1 : hK h v0 = (0, 3, 10))
    (k2 : hR h v0 8 = some q1)
    (k3 : hK h q1 = (1, 0, n1))
    (H1 : v1 < 0 → Q (some (.int (-(nI 20006)))) h)
    (H2 : ¬ v1 < 0 → (hG h v0 9) ≤ v1 → Q (some (.int (-(nI 20006)))) h)
    (B3 : ¬ v1 < 0 → ¬ (hG h v0 9) ≤ v1 → vp_in v1 n1)
    (H4 : ¬ v1 < 0 → ¬ (hG h v0 9) ≤ v1 → Q (some (.int (hG h q1 v1.toNatClampNeg))) h) :
    wpE 55 0 [some (.ref v0), some (.int v1)] [] h (0, 0) Q :=
  vc_s (ct := fun _ => false) 1000 false (And.intro (fun c1 => (H1 c1)) (fun c2 => (And.intro k1 (And.intro (fun c3 => (H2 c2 c3)) (fun c4 => (And.intro k1 (Exists.intro q1 (And.intro k2 (Exists.intro 0 (Exists.intro n1 (And.intro k3 (And.intro (B3 c2 c4) (H4 c2 c4)))))))))))))
/-- SnapshotRings$Graph.countNodesInRings from 0 -/
theorem r_G_countNodesInRings_0 {v0 : Nat} {h : sn_H} {Q : Option Value → sn_H → Prop}
    (H1 : wpE 57 2 [some (.ref v0), some (.int (nI 0)), none] [] h (0, 0) Q) :
    wpE 57 0 [some (.ref v0), none, none] [] h (0, 0) Q :=
  vc_s (ct := fun pc => Nat.beq pc 2 || Nat.beq pc 30 || Nat.beq pc 40 || Nat.beq pc 92) 1000 false (And.intro (Nat.le_of_ble_eq_true rfl) H1)
/-- SnapshotRings$Graph.countNodesInRings from 2 -/
theorem r_G_countNodesInRings_2 {v0 : Nat} {v1 : Int32} {q1 : Nat} {q2 : Nat} {n1 : Nat} {n2 : Nat} {h : sn_H} {Q : Option Value → sn_H → Prop}
    (k1 : hK h v0 = (0, 3, 10))
    (k2 : hR h v0 6 = some q1)
    (k3 : hR h v0 4 = some q2)
    (k4 : hK h q2 = (1, 0, n1))
    (k5 : hK h q1 = (1, 0, n2))
    (H1 : (hG h v0 0) ≤ v1 → wpE 57 30 [some (.ref v0), some (.int (nI 0)), none] [] h (0, 0) Q)
    (B2 : ¬ (hG h v0 0) ≤ v1 → vp_in v1 n1)
    (B3 : ¬ (hG h v0 0) ≤ v1 → vp_in v1 n2)
    (H4 : ¬ (hG h v0 0) ≤ v1 → wpE 57 2 [some (.ref v0), some (.int (v1 + nI 1)), none] [] (setG h q1 v1.toNatClampNeg (hG h q2 v1.toNatClampNeg)) (0, 0) Q) :
    wpE 57 2 [some (.ref v0), some (.int v1), none] [] h (0, 0) Q :=
  vc_s (ct := fun pc => Nat.beq pc 2 || Nat.beq pc 30 || Nat.beq pc 40 || Nat.beq pc 92) 1000 false (And.intro k1 (And.intro (fun c1 => (And.intro (Nat.le_of_ble_eq_true rfl) (H1 c1))) (fun c2 => (And.intro k1 (Exists.intro q1 (And.intro k2 (And.intro k1 (Exists.intro q2 (And.intro k3 (Exists.intro 0 (Exists.intro n1 (And.intro k4 (And.intro (B2 c2) (Exists.intro n2 (And.intro k5 (And.intro (B3 c2) (And.intro (Nat.le_of_ble_eq_true rfl) (H4 c2))))))))))))))))))
/-- SnapshotRings$Graph.countNodesInRings from 30 -/
theorem r_G_countNodesInRings_30 {v0 : Nat} {v1 : Int32} {h : sn_H} {Q : Option Value → sn_H → Prop}
    (k1 : hK h v0 = (0, 3, 10))
    (H1 : (hG h v0 0) ≤ v1 → wpE 57 92 [some (.ref v0), some (.int (nI 0)), some (.int (nI 0))] [] h (0, 0) Q)
    (H2 : ¬ (hG h v0 0) ≤ v1 → wpE 57 40 [some (.ref v0), some (.int v1), some (.int (nI 0))] [] h (0, 0) Q) :
    wpE 57 30 [some (.ref v0), some (.int v1), none] [] h (0, 0) Q :=
  vc_s (ct := fun pc => Nat.beq pc 2 || Nat.beq pc 30 || Nat.beq pc 40 || Nat.beq pc 92) 1000 false (And.intro k1 (And.intro (fun c1 => (And.intro (Nat.le_of_ble_eq_true rfl) (And.intro (Nat.le_of_ble_eq_true rfl) (H1 c1)))) (fun c2 => (And.intro (Nat.le_of_ble_eq_true rfl) (H2 c2)))))
/-- SnapshotRings$Graph.countNodesInRings from 92 -/
theorem r_G_countNodesInRings_92 {v0 : Nat} {v1 : Int32} {v2 : Int32} {q1 : Nat} {n1 : Nat} {h : sn_H} {Q : Option Value → sn_H → Prop}
    (k1 : hK h v0 = (0, 3, 10))
    (k2 : hR h v0 6 = some q1)
    (k3 : hK h q1 = (1, 0, n1))
    (H1 : (hG h v0 0) ≤ v2 → Q (some (.int v1)) h)
    (B2 : ¬ (hG h v0 0) ≤ v2 → vp_in v2 n1)
    (H3 : ¬ (hG h v0 0) ≤ v2 → ¬ (((hG h q1 v2.toNatClampNeg) >>> (v2 &&& 31)) &&& nI 1) = nI 1 → wpE 57 92 [some (.ref v0), some (.int v1), some (.int (v2 + nI 1))] [] h (0, 0) Q)
    (H4 : ¬ (hG h v0 0) ≤ v2 → (((hG h q1 v2.toNatClampNeg) >>> (v2 &&& 31)) &&& nI 1) = nI 1 → wpE 57 92 [some (.ref v0), some (.int (v1 + nI 1)), some (.int (v2 + nI 1))] [] h (0, 0) Q) :
    wpE 57 92 [some (.ref v0), some (.int v1), some (.int v2)] [] h (0, 0) Q :=
  vc_s (ct := fun pc => Nat.beq pc 2 || Nat.beq pc 30 || Nat.beq pc 40 || Nat.beq pc 92) 1000 false (And.intro k1 (And.intro (fun c1 => (H1 c1)) (fun c2 => (And.intro k1 (Exists.intro q1 (And.intro k2 (Exists.intro 0 (Exists.intro n1 (And.intro k3 (And.intro (B2 c2) (And.intro (Nat.le_of_ble_eq_true rfl) (And.intro (Nat.le_of_ble_eq_true rfl) (And.intro (Nat.le_of_ble_eq_true rfl) (And.intro (Nat.le_of_ble_eq_true rfl) (r_X_hasBit_0 (v0 := (hG h q1 v2.toNatClampNeg)) (v1 := v2) (h := h) (fun c3 => (vc_s (ct := fun pc => Nat.beq pc 2 || Nat.beq pc 30 || Nat.beq pc 40 || Nat.beq pc 92) 1000 false (And.intro (fun c4 => (And.intro (Nat.le_of_ble_eq_true rfl) (H3 c2 c3))) (fun c4 => absurd c4 (by decide))))) (fun c5 => (vc_s (ct := fun pc => Nat.beq pc 2 || Nat.beq pc 30 || Nat.beq pc 40 || Nat.beq pc 92) 1000 false (And.intro (fun c6 => absurd c6 (by decide)) (fun c6 => (And.intro (Nat.le_of_ble_eq_true rfl) (And.intro (Nat.le_of_ble_eq_true rfl) (H4 c2 c5))))))))))))))))))))))
/-- SnapshotRings$Graph.countNodesInRings from 40 -/
theorem r_G_countNodesInRings_40 {v0 : Nat} {v1 : Int32} {v2 : Int32} {q1 : Nat} {n1 : Nat} {h : sn_H} {Q : Option Value → sn_H → Prop}
    (k1 : hK h v0 = (0, 3, 10))
    (k2 : hR h v0 6 = some q1)
    (k3 : hK h q1 = (1, 0, n1))
    (H1 : (hG h v0 0) ≤ v2 → wpE 57 30 [some (.ref v0), some (.int (v1 + nI 1)), none] [] h (0, 0) Q)
    (B2 : ¬ (hG h v0 0) ≤ v2 → vp_in v2 n1)
    (H3 : ¬ (hG h v0 0) ≤ v2 → ¬ (((hG h q1 v2.toNatClampNeg) >>> (v1 &&& 31)) &&& nI 1) = nI 1 → wpE 57 40 [some (.ref v0), some (.int v1), some (.int (v2 + nI 1))] [] h (0, 0) Q)
    (B4 : ¬ (hG h v0 0) ≤ v2 → (((hG h q1 v2.toNatClampNeg) >>> (v1 &&& 31)) &&& nI 1) = nI 1 → vp_in v1 n1)
    (H5 : ¬ (hG h v0 0) ≤ v2 → (((hG h q1 v2.toNatClampNeg) >>> (v1 &&& 31)) &&& nI 1) = nI 1 → wpE 57 40 [some (.ref v0), some (.int v1), some (.int (v2 + nI 1))] [] (setG h q1 v2.toNatClampNeg ((hG h q1 v2.toNatClampNeg) ||| (hG h q1 v1.toNatClampNeg))) (0, 0) Q) :
    wpE 57 40 [some (.ref v0), some (.int v1), some (.int v2)] [] h (0, 0) Q :=
  vc_s (ct := fun pc => Nat.beq pc 2 || Nat.beq pc 30 || Nat.beq pc 40 || Nat.beq pc 92) 1000 false (And.intro k1 (And.intro (fun c1 => (And.intro (Nat.le_of_ble_eq_true rfl) (@wpE_w _ _ [some (.ref v0), some (.int (v1 + nI 1)), none] _ _ _ _ _ (show LeL [some (.ref v0), some (.int (v1 + nI 1)), none] [some (.ref v0), some (.int (v1 + nI 1)), some (.int v2)] from (And.intro rfl (And.intro rfl trivial))) (H1 c1)))) (fun c2 => (And.intro k1 (Exists.intro q1 (And.intro k2 (Exists.intro 0 (Exists.intro n1 (And.intro k3 (And.intro (B2 c2) (And.intro (Nat.le_of_ble_eq_true rfl) (And.intro (Nat.le_of_ble_eq_true rfl) (And.intro (Nat.le_of_ble_eq_true rfl) (And.intro (Nat.le_of_ble_eq_true rfl) (r_X_hasBit_0 (v0 := (hG h q1 v2.toNatClampNeg)) (v1 := v1) (h := h) (fun c3 => (vc_s (ct := fun pc => Nat.beq pc 2 || Nat.beq pc 30 || Nat.beq pc 40 || Nat.beq pc 92) 1000 false (And.intro (fun c4 => (And.intro (Nat.le_of_ble_eq_true rfl) (H3 c2 c3))) (fun c4 => absurd c4 (by decide))))) (fun c5 => (vc_s (ct := fun pc => Nat.beq pc 2 || Nat.beq pc 30 || Nat.beq pc 40 || Nat.beq pc 92) 1000 false (And.intro (fun c6 => absurd c6 (by decide)) (fun c6 => (And.intro k1 (Exists.intro q1 (And.intro k2 (And.intro rfl (And.intro rfl (Exists.intro 0 (Exists.intro n1 (And.intro k3 (And.intro (B2 c2) (And.intro k1 (Exists.intro q1 (And.intro k2 (Exists.intro 0 (Exists.intro n1 (And.intro k3 (And.intro (B4 c2 c5) (Exists.intro n1 (And.intro k3 (And.intro (B2 c2) (And.intro (Nat.le_of_ble_eq_true rfl) (H5 c2 c5))))))))))))))))))))))))))))))))))))))))
/-- SnapshotRings$Graph.lowestPossible from 0 -/
theorem r_G_lowestPossible_0 {v0 : Nat} {v1 : Int32} {h : sn_H} {Q : Option Value → sn_H → Prop}
    (H1 : wpE 60 4 [some (.ref v0), some (.int v1), some (.int v1), some (.int (nI 0))] [] h (0, 0) Q) :
    wpE 60 0 [some (.ref v0), some (.int v1), none, none] [] h (0, 0) Q :=
  vc_s (ct := fun pc => Nat.beq pc 4 || Nat.beq pc 37) 1000 false (And.intro (Nat.le_of_ble_eq_true rfl) (And.intro (Nat.le_of_ble_eq_true rfl) H1))
/-- SnapshotRings$Graph.lowestPossible from 4 -/
theorem r_G_lowestPossible_4 {v0 : Nat} {v1 : Int32} {v2 : Int32} {v3 : Int32} {q1 : Nat} {n1 : Nat} {h : sn_H} {Q : Option Value → sn_H → Prop}
    (k1 : hK h v0 = (0, 3, 10))
    (k2 : hR h v0 4 = some q1)
    (k3 : hK h q1 = (1, 0, n1))
    (H1 : (hG h v0 0) ≤ v3 → wpE 60 37 [some (.ref v0), none, some (.int v2), some (.int (nI 0))] [] h (0, 0) Q)
    (B2 : ¬ (hG h v0 0) ≤ v3 → ¬ ((v1 >>> (v3 &&& 31)) &&& nI 1) = nI 1 → vp_in v3 n1)
    (H3 : ¬ (hG h v0 0) ≤ v3 → ¬ ((v1 >>> (v3 &&& 31)) &&& nI 1) = nI 1 → wpE 60 4 [some (.ref v0), some (.int v1), some (.int (v2 ||| (hG h q1 v3.toNatClampNeg))), some (.int (v3 + nI 1))] [] h (0, 0) Q)
    (H4 : ¬ (hG h v0 0) ≤ v3 → ((v1 >>> (v3 &&& 31)) &&& nI 1) = nI 1 → wpE 60 4 [some (.ref v0), some (.int v1), some (.int v2), some (.int (v3 + nI 1))] [] h (0, 0) Q) :
    wpE 60 4 [some (.ref v0), some (.int v1), some (.int v2), some (.int v3)] [] h (0, 0) Q :=
  vc_s (ct := fun pc => Nat.beq pc 4 || Nat.beq pc 37) 1000 false (And.intro k1 (And.intro (fun c1 => (And.intro (Nat.le_of_ble_eq_true rfl) (@wpE_w _ _ [some (.ref v0), none, some (.int v2), some (.int (nI 0))] _ _ _ _ _ (show LeL [some (.ref v0), none, some (.int v2), some (.int (nI 0))] [some (.ref v0), some (.int v1), some (.int v2), some (.int (nI 0))] from (And.intro rfl (And.intro rfl (And.intro rfl trivial)))) (H1 c1)))) (fun c2 => (And.intro (Nat.le_of_ble_eq_true rfl) (And.intro (Nat.le_of_ble_eq_true rfl) (And.intro (Nat.le_of_ble_eq_true rfl) (And.intro (Nat.le_of_ble_eq_true rfl) (r_X_hasBit_0 (v0 := v1) (v1 := v3) (h := h) (fun c3 => (vc_s (ct := fun pc => Nat.beq pc 4 || Nat.beq pc 37) 1000 false (And.intro (fun c4 => absurd c4 (by decide)) (fun c4 => (And.intro k1 (Exists.intro q1 (And.intro k2 (Exists.intro 0 (Exists.intro n1 (And.intro k3 (And.intro (B2 c2 c3) (And.intro (Nat.le_of_ble_eq_true rfl) (And.intro (Nat.le_of_ble_eq_true rfl) (H3 c2 c3)))))))))))))) (fun c5 => (vc_s (ct := fun pc => Nat.beq pc 4 || Nat.beq pc 37) 1000 false (And.intro (fun c6 => (And.intro (Nat.le_of_ble_eq_true rfl) (H4 c2 c5))) (fun c6 => absurd c6 (by decide)))))))))))))
/-- SnapshotRings$Graph.lowestPossible from 37 -/
theorem r_G_lowestPossible_37 {v0 : Nat} {v2 : Int32} {v3 : Int32} {h : sn_H} {Q : Option Value → sn_H → Prop}
    (k1 : hK h v0 = (0, 3, 10))
    (H1 : (hG h v0 0) ≤ v3 → Q (some (.int (-(nI 1)))) h)
    (H2 : ¬ (hG h v0 0) ≤ v3 → ¬ ((v2 >>> (v3 &&& 31)) &&& nI 1) = nI 1 → Q (some (.int v3)) h)
    (H3 : ¬ (hG h v0 0) ≤ v3 → ((v2 >>> (v3 &&& 31)) &&& nI 1) = nI 1 → wpE 60 37 [some (.ref v0), none, some (.int v2), some (.int (v3 + nI 1))] [] h (0, 0) Q) :
    wpE 60 37 [some (.ref v0), none, some (.int v2), some (.int v3)] [] h (0, 0) Q :=
  vc_s (ct := fun pc => Nat.beq pc 4 || Nat.beq pc 37) 1000 false (And.intro k1 (And.intro (fun c1 => (H1 c1)) (fun c2 => (And.intro (Nat.le_of_ble_eq_true rfl) (And.intro (Nat.le_of_ble_eq_true rfl) (And.intro (Nat.le_of_ble_eq_true rfl) (And.intro (Nat.le_of_ble_eq_true rfl) (r_X_hasBit_0 (v0 := v2) (v1 := v3) (h := h) (fun c3 => (vc_s (ct := fun pc => Nat.beq pc 4 || Nat.beq pc 37) 1000 false (And.intro (fun c4 => absurd c4 (by decide)) (fun c4 => (H2 c2 c3))))) (fun c5 => (vc_s (ct := fun pc => Nat.beq pc 4 || Nat.beq pc 37) 1000 false (And.intro (fun c6 => (And.intro (Nat.le_of_ble_eq_true rfl) (H3 c2 c5))) (fun c6 => absurd c6 (by decide)))))))))))))
/-- SnapshotRings$Graph.findOrder from 0 -/
theorem r_G_findOrder_0 {v0 : Nat} {h : sn_H} {Q : Option Value → sn_H → Prop}
    (k1 : hK h v0 = (0, 3, 10))
    (H1 : wpE 59 9 [some (.ref v0), some (.int (nI 0)), some (.int (nI 0)), none] [] (setG h v0 9 (nI 0)) (0, 0) Q) :
    wpE 59 0 [some (.ref v0), none, none, none] [] h (0, 0) Q :=
  vc_s (ct := fun pc => Nat.beq pc 9 || Nat.beq pc 44) 1000 false (And.intro k1 (And.intro rfl (And.intro (Nat.le_of_ble_eq_true rfl) (And.intro (Nat.le_of_ble_eq_true rfl) H1))))
/-- SnapshotRings$Graph.findOrder from 9 -/
theorem r_G_findOrder_9 {v0 : Nat} {v1 : Int32} {v2 : Int32} {h : sn_H} {Q : Option Value → sn_H → Prop}
    (k1 : hK h v0 = (0, 3, 10))
    (H1 : (hG h v0 0) ≤ v2 → Q none h)
    (H2 : ¬ (hG h v0 0) ≤ v2 → wpE 60 0 [some (.ref v0), some (.int v1), none, none] [] h (0, 0) (fun r hh => wpE 59 22 [some (.ref v0), some (.int v1), some (.int v2), none] (r.toList ++ []) hh (0, 0) Q)) :
    wpE 59 9 [some (.ref v0), some (.int v1), some (.int v2), none] [] h (0, 0) Q :=
  vc_s (ct := fun pc => Nat.beq pc 9 || Nat.beq pc 44) 1000 false (And.intro k1 (And.intro (fun c1 => (And.intro rfl (H1 c1))) (fun c2 => (And.intro k1 (And.intro (Nat.le_of_ble_eq_true rfl) (And.intro (Nat.le_of_ble_eq_true rfl) (And.intro (Nat.le_of_ble_eq_true rfl) (And.intro (Nat.le_of_ble_eq_true rfl) (H2 c2)))))))))
/-- SnapshotRings$Graph.findOrder from 22 -/
theorem r_G_findOrder_22 {v0 : Nat} {v1 : Int32} {v2 : Int32} {s0 : Int32} {q1 : Nat} {q2 : Nat} {n1 : Nat} {n2 : Nat} {h : sn_H} {Q : Option Value → sn_H → Prop}
    (k1 : hK h v0 = (0, 3, 10))
    (k2 : hR h v0 8 = some q1)
    (k3 : hR h v0 2 = some q2)
    (k4 : hK h q2 = (1, 0, n1))
    (k5 : hK h q1 = (1, 0, n2))
    (B1 : 0 ≤ s0 → vp_in s0 n1)
    (B2 : 0 ≤ s0 → vp_in (hG h v0 9) n2)
    (H3 : 0 ≤ s0 → wpE 59 44 [some (.ref v0), some (.int (v1 ||| (nI 1 <<< (s0 &&& 31)))), some (.int v2), none] [] (setG (setG h q1 (hG h v0 9).toNatClampNeg (hG h q2 s0.toNatClampNeg)) v0 9 ((hG (setG h q1 (hG h v0 9).toNatClampNeg (hG h q2 s0.toNatClampNeg)) v0 9) + nI 1)) (0, 0) Q)
    (H4 : ¬ 0 ≤ s0 → Q none (setG h v0 9 (nI 0))) :
    wpE 59 22 [some (.ref v0), some (.int v1), some (.int v2), none] [.int s0] h (0, 0) Q :=
  vc_s (ct := fun pc => Nat.beq pc 9 || Nat.beq pc 44) 1000 false (And.intro (Nat.le_of_ble_eq_true rfl) (And.intro (fun c1 => (And.intro k1 (And.intro (Nat.le_of_ble_eq_true rfl) (And.intro (Nat.le_of_ble_eq_true rfl) (And.intro (Nat.le_of_ble_eq_true rfl) (And.intro (Nat.le_of_ble_eq_true rfl) (r_G_tell_0 (v0 := v0) (v1 := s0) (q1 := q1) (q2 := q2) (n1 := n1) (n2 := n2) (h := h) k1 k2 k3 k4 k5 ((B1 c1)) ((B2 c1)) ((vc_s (ct := fun pc => Nat.beq pc 9 || Nat.beq pc 44) 1000 false (And.intro (Nat.le_of_ble_eq_true rfl) (@wpE_w _ _ [some (.ref v0), some (.int (v1 ||| (nI 1 <<< (s0 &&& 31)))), some (.int v2), none] _ _ _ _ _ (show LeL [some (.ref v0), some (.int (v1 ||| (nI 1 <<< (s0 &&& 31)))), some (.int v2), none] [some (.ref v0), some (.int (v1 ||| (nI 1 <<< (s0 &&& 31)))), some (.int v2), some (.int s0)] from (And.intro rfl (And.intro rfl (And.intro rfl trivial)))) (H3 c1)))))))))))) (fun c2 => (And.intro k1 (And.intro rfl (And.intro rfl (H4 c2)))))))
/-- SnapshotRings$Graph.findOrder from 44 -/
theorem r_G_findOrder_44 {v0 : Nat} {v1 : Int32} {v2 : Int32} {h : sn_H} {Q : Option Value → sn_H → Prop}
    (H1 : wpE 59 9 [some (.ref v0), some (.int v1), some (.int (v2 + nI 1)), none] [] h (0, 0) Q) :
    wpE 59 44 [some (.ref v0), some (.int v1), some (.int v2), none] [] h (0, 0) Q :=
  vc_s (ct := fun pc => Nat.beq pc 9 || Nat.beq pc 44) 1000 false (And.intro (Nat.le_of_ble_eq_true rfl) H1)
/-- SnapshotRings$Graph.countSkewPairs from 0 -/
theorem r_G_countSkewPairs_0 {v0 : Nat} {h : sn_H} {Q : Option Value → sn_H → Prop}
    (H1 : wpE 62 4 [some (.ref v0), some (.int (nI 0)), some (.int (nI 0)), none] [] h (0, 0) Q) :
    wpE 62 0 [some (.ref v0), none, none, none] [] h (0, 0) Q :=
  vc_s (ct := fun pc => Nat.beq pc 4 || Nat.beq pc 16) 1000 false (And.intro (Nat.le_of_ble_eq_true rfl) (And.intro (Nat.le_of_ble_eq_true rfl) H1))
/-- SnapshotRings$Graph.countSkewPairs from 4 -/
theorem r_G_countSkewPairs_4 {v0 : Nat} {v1 : Int32} {v2 : Int32} {h : sn_H} {Q : Option Value → sn_H → Prop}
    (k1 : hK h v0 = (0, 3, 10))
    (H1 : (hG h v0 0) ≤ v2 → Q (some (.int v1)) h)
    (H2 : ¬ (hG h v0 0) ≤ v2 → wpE 62 16 [some (.ref v0), some (.int v1), some (.int v2), some (.int (v2 + nI 1))] [] h (0, 0) Q) :
    wpE 62 4 [some (.ref v0), some (.int v1), some (.int v2), none] [] h (0, 0) Q :=
  vc_s (ct := fun pc => Nat.beq pc 4 || Nat.beq pc 16) 1000 false (And.intro k1 (And.intro (fun c1 => (H1 c1)) (fun c2 => (And.intro (Nat.le_of_ble_eq_true rfl) (H2 c2)))))
/-- SnapshotRings$Graph.countSkewPairs from 16 -/
theorem r_G_countSkewPairs_16 {v0 : Nat} {v1 : Int32} {v2 : Int32} {v3 : Int32} {q1 : Nat} {n1 : Nat} {h : sn_H} {Q : Option Value → sn_H → Prop}
    (k1 : hK h v0 = (0, 3, 10))
    (k2 : hR h v0 5 = some q1)
    (k3 : hK h q1 = (1, 0, n1))
    (H1 : (hG h v0 0) ≤ v3 → wpE 62 4 [some (.ref v0), some (.int v1), some (.int (v2 + nI 1)), none] [] h (0, 0) Q)
    (B2 : ¬ (hG h v0 0) ≤ v3 → vp_in v2 n1)
    (H3 : ¬ (hG h v0 0) ≤ v3 → ¬ (((hG h q1 v2.toNatClampNeg) >>> (v3 &&& 31)) &&& nI 1) = nI 1 → wpE 62 16 [some (.ref v0), some (.int v1), some (.int v2), some (.int (v3 + nI 1))] [] h (0, 0) Q)
    (B4 : ¬ (hG h v0 0) ≤ v3 → (((hG h q1 v2.toNatClampNeg) >>> (v3 &&& 31)) &&& nI 1) = nI 1 → vp_in v3 n1)
    (H5 : ¬ (hG h v0 0) ≤ v3 → (((hG h q1 v2.toNatClampNeg) >>> (v3 &&& 31)) &&& nI 1) = nI 1 → ¬ (((hG h q1 v3.toNatClampNeg) >>> (v2 &&& 31)) &&& nI 1) = nI 1 → wpE 62 16 [some (.ref v0), some (.int v1), some (.int v2), some (.int (v3 + nI 1))] [] h (0, 0) Q)
    (H6 : ¬ (hG h v0 0) ≤ v3 → (((hG h q1 v2.toNatClampNeg) >>> (v3 &&& 31)) &&& nI 1) = nI 1 → (((hG h q1 v3.toNatClampNeg) >>> (v2 &&& 31)) &&& nI 1) = nI 1 → wpE 62 16 [some (.ref v0), some (.int (v1 + nI 1)), some (.int v2), some (.int (v3 + nI 1))] [] h (0, 0) Q) :
    wpE 62 16 [some (.ref v0), some (.int v1), some (.int v2), some (.int v3)] [] h (0, 0) Q :=
  vc_s (ct := fun pc => Nat.beq pc 4 || Nat.beq pc 16) 1000 false (And.intro k1 (And.intro (fun c1 => (And.intro (Nat.le_of_ble_eq_true rfl) (@wpE_w _ _ [some (.ref v0), some (.int v1), some (.int (v2 + nI 1)), none] _ _ _ _ _ (show LeL [some (.ref v0), some (.int v1), some (.int (v2 + nI 1)), none] [some (.ref v0), some (.int v1), some (.int (v2 + nI 1)), some (.int v3)] from (And.intro rfl (And.intro rfl (And.intro rfl trivial)))) (H1 c1)))) (fun c2 => (And.intro k1 (Exists.intro q1 (And.intro k2 (Exists.intro 0 (Exists.intro n1 (And.intro k3 (And.intro (B2 c2) (And.intro (Nat.le_of_ble_eq_true rfl) (And.intro (Nat.le_of_ble_eq_true rfl) (And.intro (Nat.le_of_ble_eq_true rfl) (And.intro (Nat.le_of_ble_eq_true rfl) (r_X_hasBit_0 (v0 := (hG h q1 v2.toNatClampNeg)) (v1 := v3) (h := h) (fun c3 => (vc_s (ct := fun pc => Nat.beq pc 4 || Nat.beq pc 16) 1000 false (And.intro (fun c4 => (And.intro (Nat.le_of_ble_eq_true rfl) (H3 c2 c3))) (fun c4 => absurd c4 (by decide))))) (fun c5 => (vc_s (ct := fun pc => Nat.beq pc 4 || Nat.beq pc 16) 1000 false (And.intro (fun c6 => absurd c6 (by decide)) (fun c6 => (And.intro k1 (Exists.intro q1 (And.intro k2 (Exists.intro 0 (Exists.intro n1 (And.intro k3 (And.intro (B4 c2 c5) (And.intro (Nat.le_of_ble_eq_true rfl) (And.intro (Nat.le_of_ble_eq_true rfl) (And.intro (Nat.le_of_ble_eq_true rfl) (And.intro (Nat.le_of_ble_eq_true rfl) (r_X_hasBit_0 (v0 := (hG h q1 v3.toNatClampNeg)) (v1 := v2) (h := h) (fun c7 => (vc_s (ct := fun pc => Nat.beq pc 4 || Nat.beq pc 16) 1000 false (And.intro (fun c8 => (And.intro (Nat.le_of_ble_eq_true rfl) (H5 c2 c5 c7))) (fun c8 => absurd c8 (by decide))))) (fun c9 => (vc_s (ct := fun pc => Nat.beq pc 4 || Nat.beq pc 16) 1000 false (And.intro (fun c10 => absurd c10 (by decide)) (fun c10 => (And.intro (Nat.le_of_ble_eq_true rfl) (And.intro (Nat.le_of_ble_eq_true rfl) (H6 c2 c5 c9))))))))))))))))))))))))))))))))))))))
/-- SnapshotRings$Schedule.append from 0 -/
theorem r_T_append_0 {v0 : Nat} {v1 : Int32} {q1 : Nat} {n1 : Nat} {h : sn_H} {Q : Option Value → sn_H → Prop}
    (k1 : hK h v0 = (0, 4, 2))
    (k2 : hR h v0 0 = some q1)
    (k3 : hK h q1 = (2, 0, n1))
    (H1 : nI 80 ≤ (hG h v0 1) → Q none h)
    (B2 : ¬ nI 80 ≤ (hG h v0 1) → vp_in (hG h v0 1) n1)
    (H3 : ¬ nI 80 ≤ (hG h v0 1) → Q none (setG (setG h q1 (hG h v0 1).toNatClampNeg (vp_nar .char v1)) v0 1 ((hG (setG h q1 (hG h v0 1).toNatClampNeg (vp_nar .char v1)) v0 1) + nI 1))) :
    wpE 69 0 [some (.ref v0), some (.int v1)] [] h (0, 0) Q :=
  vc_s (ct := fun _ => false) 1000 false (And.intro k1 (And.intro (fun c1 => (And.intro rfl (H1 c1))) (fun c2 => (And.intro k1 (Exists.intro q1 (And.intro k2 (And.intro k1 (Exists.intro n1 (And.intro k3 (And.intro (B2 c2) (And.intro rfl (And.intro k1 (And.intro k1 (And.intro rfl (And.intro rfl (H3 c2))))))))))))))))
/-- SnapshotRings$Schedule.signAt from 0 -/
theorem r_T_signAt_0 {v0 : Nat} {v1 : Int32} {q1 : Nat} {n1 : Nat} {h : sn_H} {Q : Option Value → sn_H → Prop}
    (k1 : hK h v0 = (0, 4, 2))
    (k2 : hR h v0 0 = some q1)
    (k3 : hK h q1 = (2, 0, n1))
    (H1 : v1 < 0 → Q (some (.int (nI 0))) h)
    (H2 : ¬ v1 < 0 → (hG h v0 1) ≤ v1 → Q (some (.int (nI 0))) h)
    (B3 : ¬ v1 < 0 → ¬ (hG h v0 1) ≤ v1 → vp_in v1 n1)
    (H4 : ¬ v1 < 0 → ¬ (hG h v0 1) ≤ v1 → Q (some (.int (hG h q1 v1.toNatClampNeg))) h)
    (B5 : ¬ v1 < 0 → ¬ (hG h v0 1) ≤ v1 → narrow .char (.int (hG h q1 v1.toNatClampNeg)) = .int (hG h q1 v1.toNatClampNeg)) :
    wpE 73 0 [some (.ref v0), some (.int v1)] [] h (0, 0) Q :=
  vc_s (ct := fun _ => false) 1000 false (And.intro (fun c1 => (And.intro rfl (H1 c1))) (fun c2 => (And.intro k1 (And.intro (fun c3 => (And.intro rfl (H2 c2 c3))) (fun c4 => (And.intro k1 (Exists.intro q1 (And.intro k2 (Exists.intro n1 (And.intro k3 (And.intro (B3 c2 c4) (And.intro (B5 c2 c4) (H4 c2 c4)))))))))))))
/-- SnapshotRings$Schedule.awaitedAfterLetter from 0 -/
theorem r_T_awaitedAfterLetter_0 {v0 : Int32} {h : sn_H} {Q : Option Value → sn_H → Prop}
    (H1 : v0.toInt = 97 → Q (some (.int (nI 1))) h)
    (H2 : ¬ v0.toInt = 97 → v0.toInt = 98 → Q (some (.int (nI 1))) h)
    (H3 : ¬ v0.toInt = 97 → ¬ v0.toInt = 98 → v0.toInt = 99 → Q (some (.int (nI 1))) h)
    (H4 : ¬ v0.toInt = 97 → ¬ v0.toInt = 98 → ¬ v0.toInt = 99 → v0.toInt = 114 → Q (some (.int (nI 2))) h)
    (H5 : ¬ v0.toInt = 97 → ¬ v0.toInt = 98 → ¬ v0.toInt = 99 → ¬ v0.toInt = 114 → v0.toInt = 119 → Q (some (.int (nI 4))) h)
    (H6 : ¬ v0.toInt = 97 → ¬ v0.toInt = 98 → ¬ v0.toInt = 99 → ¬ v0.toInt = 114 → ¬ v0.toInt = 119 → Q (some (.int (-(nI 1)))) h) :
    wpE 75 0 [some (.int v0)] [] h (0, 0) Q :=
  vc_s (ct := fun _ => false) 1000 false (And.intro (fun c1 => (H1 c1)) (fun c2 => (And.intro (fun c3 => (H2 c2 c3)) (fun c4 => (And.intro (fun c5 => (H3 c2 c4 c5)) (fun c6 => (And.intro (fun c7 => (H4 c2 c4 c6 c7)) (fun c8 => (And.intro (fun c9 => (H5 c2 c4 c6 c8 c9)) (fun c10 => (H6 c2 c4 c6 c8 c10)))))))))))
/-- SnapshotRings$Schedule.isBetween from 0 -/
theorem r_T_isBetween_0 {v0 : Int32} {v1 : Int32} {v2 : Int32} {h : sn_H} {Q : Option Value → sn_H → Prop}
    (H1 : v0 < v1 → Q (some (.int (nI 0))) h)
    (H2 : ¬ v0 < v1 → v2 < v0 → Q (some (.int (nI 0))) h)
    (H3 : ¬ v0 < v1 → ¬ v2 < v0 → Q (some (.int (nI 1))) h) :
    wpE 76 0 [some (.int v0), some (.int v1), some (.int v2)] [] h (0, 0) Q :=
  vc_s (ct := fun _ => false) 1000 false (And.intro (fun c1 => (And.intro rfl (H1 c1))) (fun c2 => (And.intro (fun c3 => (And.intro rfl (H2 c2 c3))) (fun c4 => (And.intro rfl (H3 c2 c4))))))
/-- SnapshotRings$Schedule.isDigit from 0 -/
theorem r_T_isDigit_0 {v0 : Int32} {h : sn_H} {Q : Option Value → sn_H → Prop}
    (H1 : v0 < (nI 48) → Q (some (.int (nI 0))) h)
    (H2 : ¬ v0 < (nI 48) → (nI 57) < v0 → Q (some (.int (nI 0))) h)
    (H3 : ¬ v0 < (nI 48) → ¬ (nI 57) < v0 → Q (some (.int (nI 1))) h) :
    wpE 78 0 [some (.int v0)] [] h (0, 0) Q :=
  vc_s (ct := fun _ => false) 1000 false (And.intro (Nat.le_of_ble_eq_true rfl) (And.intro (Nat.le_of_ble_eq_true rfl) (And.intro (Nat.le_of_ble_eq_true rfl) (And.intro (Nat.le_of_ble_eq_true rfl) (r_T_isBetween_0 (v0 := v0) (v1 := (nI 48)) (v2 := (nI 57)) (h := h) (fun c1 => (vc_s (ct := fun _ => false) 1000 false (And.intro rfl (H1 c1)))) (fun c2 c3 => (vc_s (ct := fun _ => false) 1000 false (And.intro rfl (H2 c2 c3)))) (fun c4 c5 => (vc_s (ct := fun _ => false) 1000 false (And.intro rfl (H3 c4 c5)))))))))
/-- SnapshotRings$Schedule.awaitedAfterDigit from 0 -/
theorem r_T_awaitedAfterDigit_0 {v0 : Int32} {v1 : Int32} {h : sn_H} {Q : Option Value → sn_H → Prop}
    (H1 : v0 < (nI 48) → Q (some (.int (-(nI 1)))) h)
    (H2 : ¬ v0 < (nI 48) → (nI 57) < v0 → Q (some (.int (-(nI 1)))) h)
    (H3 : ¬ v0 < (nI 48) → ¬ (nI 57) < v0 → Q (some (.int v1)) h) :
    wpE 77 0 [some (.int v0), some (.int v1)] [] h (0, 0) Q :=
  vc_s (ct := fun _ => false) 1000 false (And.intro (Nat.le_of_ble_eq_true rfl) (And.intro (Nat.le_of_ble_eq_true rfl) (And.intro (Nat.le_of_ble_eq_true rfl) (And.intro (Nat.le_of_ble_eq_true rfl) (r_T_isDigit_0 (v0 := v0) (h := h) (fun c1 => (vc_s (ct := fun _ => false) 1000 false (And.intro (fun c2 => (H1 c1)) (fun c2 => absurd c2 (by decide))))) (fun c3 c4 => (vc_s (ct := fun _ => false) 1000 false (And.intro (fun c5 => (H2 c3 c4)) (fun c5 => absurd c5 (by decide))))) (fun c6 c7 => (vc_s (ct := fun _ => false) 1000 false (And.intro (fun c8 => absurd c8 (by decide)) (fun c8 => (H3 c6 c7))))))))))
/-- SnapshotRings$Schedule.awaitedAfter from 0 -/
theorem r_T_awaitedAfter_0 {v0 : Int32} {v1 : Int32} {h : sn_H} {Q : Option Value → sn_H → Prop}
    (H1 : v0.toInt = 0 → v1.toInt = 97 → Q (some (.int (nI 1))) h)
    (H2 : v0.toInt = 0 → ¬ v1.toInt = 97 → v1.toInt = 98 → Q (some (.int (nI 1))) h)
    (H3 : v0.toInt = 0 → ¬ v1.toInt = 97 → ¬ v1.toInt = 98 → v1.toInt = 99 → Q (some (.int (nI 1))) h)
    (H4 : v0.toInt = 0 → ¬ v1.toInt = 97 → ¬ v1.toInt = 98 → ¬ v1.toInt = 99 → v1.toInt = 114 → Q (some (.int (nI 2))) h)
    (H5 : v0.toInt = 0 → ¬ v1.toInt = 97 → ¬ v1.toInt = 98 → ¬ v1.toInt = 99 → ¬ v1.toInt = 114 → v1.toInt = 119 → Q (some (.int (nI 4))) h)
    (H6 : v0.toInt = 0 → ¬ v1.toInt = 97 → ¬ v1.toInt = 98 → ¬ v1.toInt = 99 → ¬ v1.toInt = 114 → ¬ v1.toInt = 119 → Q (some (.int (-(nI 1)))) h)
    (H7 : v0.toInt = 1 → v1 < (nI 48) → Q (some (.int (-(nI 1)))) h)
    (H8 : v0.toInt = 1 → ¬ v1 < (nI 48) → (nI 55) < v1 → Q (some (.int (-(nI 1)))) h)
    (H9 : v0.toInt = 1 → ¬ v1 < (nI 48) → ¬ (nI 55) < v1 → Q (some (.int (nI 11))) h)
    (H10 : v0.toInt = 2 → v1 < (nI 48) → Q (some (.int (-(nI 1)))) h)
    (H11 : v0.toInt = 2 → ¬ v1 < (nI 48) → (nI 55) < v1 → Q (some (.int (-(nI 1)))) h)
    (H12 : v0.toInt = 2 → ¬ v1 < (nI 48) → ¬ (nI 55) < v1 → Q (some (.int (nI 3))) h)
    (H13 : v0.toInt = 3 → v1 < (nI 97) → Q (some (.int (-(nI 1)))) h)
    (H14 : v0.toInt = 3 → ¬ v1 < (nI 97) → (nI 108) < v1 → Q (some (.int (-(nI 1)))) h)
    (H15 : v0.toInt = 3 → ¬ v1 < (nI 97) → ¬ (nI 108) < v1 → Q (some (.int (nI 11))) h)
    (H16 : v0.toInt = 4 → v1 < (nI 48) → Q (some (.int (-(nI 1)))) h)
    (H17 : v0.toInt = 4 → ¬ v1 < (nI 48) → (nI 55) < v1 → Q (some (.int (-(nI 1)))) h)
    (H18 : v0.toInt = 4 → ¬ v1 < (nI 48) → ¬ (nI 55) < v1 → Q (some (.int (nI 5))) h)
    (H19 : v0.toInt = 5 → v1 < (nI 97) → Q (some (.int (-(nI 1)))) h)
    (H20 : v0.toInt = 5 → ¬ v1 < (nI 97) → (nI 108) < v1 → Q (some (.int (-(nI 1)))) h)
    (H21 : v0.toInt = 5 → ¬ v1 < (nI 97) → ¬ (nI 108) < v1 → Q (some (.int (nI 6))) h)
    (H22 : v0.toInt = 6 → ¬ v1 = nI 61 → Q (some (.int (-(nI 1)))) h)
    (H23 : v0.toInt = 6 → v1 = nI 61 → Q (some (.int (nI 7))) h)
    (H24 : v0.toInt = 7 → ¬ v1 = nI 45 → v1 < (nI 48) → Q (some (.int (-(nI 1)))) h)
    (H25 : v0.toInt = 7 → ¬ v1 = nI 45 → ¬ v1 < (nI 48) → (nI 57) < v1 → Q (some (.int (-(nI 1)))) h)
    (H26 : v0.toInt = 7 → ¬ v1 = nI 45 → ¬ v1 < (nI 48) → ¬ (nI 57) < v1 → Q (some (.int (nI 9))) h)
    (H27 : v0.toInt = 7 → v1 = nI 45 → Q (some (.int (nI 8))) h)
    (H28 : v0.toInt = 8 → v1 < (nI 48) → Q (some (.int (-(nI 1)))) h)
    (H29 : v0.toInt = 8 → ¬ v1 < (nI 48) → (nI 57) < v1 → Q (some (.int (-(nI 1)))) h)
    (H30 : v0.toInt = 8 → ¬ v1 < (nI 48) → ¬ (nI 57) < v1 → Q (some (.int (nI 9))) h)
    (H31 : v0.toInt = 9 → ¬ v1 = nI 59 → v1 < (nI 48) → Q (some (.int (-(nI 1)))) h)
    (H32 : v0.toInt = 9 → ¬ v1 = nI 59 → ¬ v1 < (nI 48) → (nI 57) < v1 → Q (some (.int (-(nI 1)))) h)
    (H33 : v0.toInt = 9 → ¬ v1 = nI 59 → ¬ v1 < (nI 48) → ¬ (nI 57) < v1 → Q (some (.int (nI 10))) h)
    (H34 : v0.toInt = 9 → v1 = nI 59 → Q (some (.int (nI 0))) h)
    (H35 : v0.toInt = 10 → ¬ v1 = nI 59 → v1 < (nI 48) → Q (some (.int (-(nI 1)))) h)
    (H36 : v0.toInt = 10 → ¬ v1 = nI 59 → ¬ v1 < (nI 48) → (nI 57) < v1 → Q (some (.int (-(nI 1)))) h)
    (H37 : v0.toInt = 10 → ¬ v1 = nI 59 → ¬ v1 < (nI 48) → ¬ (nI 57) < v1 → Q (some (.int (nI 11))) h)
    (H38 : v0.toInt = 10 → v1 = nI 59 → Q (some (.int (nI 0))) h)
    (H39 : (v0.toInt < 0 ∨ 10 < v0.toInt) → ¬ v1 = nI 59 → Q (some (.int (-(nI 1)))) h)
    (H40 : (v0.toInt < 0 ∨ 10 < v0.toInt) → v1 = nI 59 → Q (some (.int (nI 0))) h) :
    wpE 74 0 [some (.int v0), some (.int v1)] [] h (0, 0) Q :=
  vc_s (ct := fun _ => false) 1000 false (And.intro (And.intro (fun c1 => (And.intro (Nat.le_of_ble_eq_true rfl) (And.intro (Nat.le_of_ble_eq_true rfl) (And.intro (Nat.le_of_ble_eq_true rfl) (And.intro (Nat.le_of_ble_eq_true rfl) (r_T_awaitedAfterLetter_0 (v0 := v1) (h := h) (fun c2 => (vc_s (ct := fun _ => false) 1000 false (H1 c1 c2))) (fun c3 c4 => (vc_s (ct := fun _ => false) 1000 false (H2 c1 c3 c4))) (fun c5 c6 c7 => (vc_s (ct := fun _ => false) 1000 false (H3 c1 c5 c6 c7))) (fun c8 c9 c10 c11 => (vc_s (ct := fun _ => false) 1000 false (H4 c1 c8 c9 c10 c11))) (fun c12 c13 c14 c15 c16 => (vc_s (ct := fun _ => false) 1000 false (H5 c1 c12 c13 c14 c15 c16))) (fun c17 c18 c19 c20 c21 => (vc_s (ct := fun _ => false) 1000 false (H6 c1 c17 c18 c19 c20 c21))))))))) (And.intro (fun c22 => (And.intro (Nat.le_of_ble_eq_true rfl) (And.intro (Nat.le_of_ble_eq_true rfl) (And.intro (Nat.le_of_ble_eq_true rfl) (And.intro (Nat.le_of_ble_eq_true rfl) (r_T_isBetween_0 (v0 := v1) (v1 := (nI 48)) (v2 := (nI 55)) (h := h) (fun c23 => (vc_s (ct := fun _ => false) 1000 false (And.intro (fun c24 => (H7 c22 c23)) (fun c24 => absurd c24 (by decide))))) (fun c25 c26 => (vc_s (ct := fun _ => false) 1000 false (And.intro (fun c27 => (H8 c22 c25 c26)) (fun c27 => absurd c27 (by decide))))) (fun c28 c29 => (vc_s (ct := fun _ => false) 1000 false (And.intro (fun c30 => absurd c30 (by decide)) (fun c30 => (H9 c22 c28 c29))))))))))) (And.intro (fun c31 => (And.intro (Nat.le_of_ble_eq_true rfl) (And.intro (Nat.le_of_ble_eq_true rfl) (And.intro (Nat.le_of_ble_eq_true rfl) (And.intro (Nat.le_of_ble_eq_true rfl) (r_T_isBetween_0 (v0 := v1) (v1 := (nI 48)) (v2 := (nI 55)) (h := h) (fun c32 => (vc_s (ct := fun _ => false) 1000 false (And.intro (fun c33 => (H10 c31 c32)) (fun c33 => absurd c33 (by decide))))) (fun c34 c35 => (vc_s (ct := fun _ => false) 1000 false (And.intro (fun c36 => (H11 c31 c34 c35)) (fun c36 => absurd c36 (by decide))))) (fun c37 c38 => (vc_s (ct := fun _ => false) 1000 false (And.intro (fun c39 => absurd c39 (by decide)) (fun c39 => (H12 c31 c37 c38))))))))))) (And.intro (fun c40 => (And.intro (Nat.le_of_ble_eq_true rfl) (And.intro (Nat.le_of_ble_eq_true rfl) (And.intro (Nat.le_of_ble_eq_true rfl) (And.intro (Nat.le_of_ble_eq_true rfl) (r_T_isBetween_0 (v0 := v1) (v1 := (nI 97)) (v2 := (nI 108)) (h := h) (fun c41 => (vc_s (ct := fun _ => false) 1000 false (And.intro (fun c42 => (H13 c40 c41)) (fun c42 => absurd c42 (by decide))))) (fun c43 c44 => (vc_s (ct := fun _ => false) 1000 false (And.intro (fun c45 => (H14 c40 c43 c44)) (fun c45 => absurd c45 (by decide))))) (fun c46 c47 => (vc_s (ct := fun _ => false) 1000 false (And.intro (fun c48 => absurd c48 (by decide)) (fun c48 => (H15 c40 c46 c47))))))))))) (And.intro (fun c49 => (And.intro (Nat.le_of_ble_eq_true rfl) (And.intro (Nat.le_of_ble_eq_true rfl) (And.intro (Nat.le_of_ble_eq_true rfl) (And.intro (Nat.le_of_ble_eq_true rfl) (r_T_isBetween_0 (v0 := v1) (v1 := (nI 48)) (v2 := (nI 55)) (h := h) (fun c50 => (vc_s (ct := fun _ => false) 1000 false (And.intro (fun c51 => (H16 c49 c50)) (fun c51 => absurd c51 (by decide))))) (fun c52 c53 => (vc_s (ct := fun _ => false) 1000 false (And.intro (fun c54 => (H17 c49 c52 c53)) (fun c54 => absurd c54 (by decide))))) (fun c55 c56 => (vc_s (ct := fun _ => false) 1000 false (And.intro (fun c57 => absurd c57 (by decide)) (fun c57 => (H18 c49 c55 c56))))))))))) (And.intro (fun c58 => (And.intro (Nat.le_of_ble_eq_true rfl) (And.intro (Nat.le_of_ble_eq_true rfl) (And.intro (Nat.le_of_ble_eq_true rfl) (And.intro (Nat.le_of_ble_eq_true rfl) (r_T_isBetween_0 (v0 := v1) (v1 := (nI 97)) (v2 := (nI 108)) (h := h) (fun c59 => (vc_s (ct := fun _ => false) 1000 false (And.intro (fun c60 => (H19 c58 c59)) (fun c60 => absurd c60 (by decide))))) (fun c61 c62 => (vc_s (ct := fun _ => false) 1000 false (And.intro (fun c63 => (H20 c58 c61 c62)) (fun c63 => absurd c63 (by decide))))) (fun c64 c65 => (vc_s (ct := fun _ => false) 1000 false (And.intro (fun c66 => absurd c66 (by decide)) (fun c66 => (H21 c58 c64 c65))))))))))) (And.intro (fun c67 => (And.intro (fun c68 => (H22 c67 c68)) (fun c69 => (H23 c67 c69)))) (And.intro (fun c70 => (And.intro (fun c71 => (And.intro (Nat.le_of_ble_eq_true rfl) (And.intro (Nat.le_of_ble_eq_true rfl) (And.intro (Nat.le_of_ble_eq_true rfl) (And.intro (Nat.le_of_ble_eq_true rfl) (r_T_awaitedAfterDigit_0 (v0 := v1) (v1 := (nI 9)) (h := h) (fun c72 => (vc_s (ct := fun _ => false) 1000 false (H24 c70 c71 c72))) (fun c73 c74 => (vc_s (ct := fun _ => false) 1000 false (H25 c70 c71 c73 c74))) (fun c75 c76 => (vc_s (ct := fun _ => false) 1000 false (H26 c70 c71 c75 c76))))))))) (fun c77 => (H27 c70 c77)))) (And.intro (fun c78 => (And.intro (Nat.le_of_ble_eq_true rfl) (And.intro (Nat.le_of_ble_eq_true rfl) (And.intro (Nat.le_of_ble_eq_true rfl) (And.intro (Nat.le_of_ble_eq_true rfl) (r_T_awaitedAfterDigit_0 (v0 := v1) (v1 := (nI 9)) (h := h) (fun c79 => (vc_s (ct := fun _ => false) 1000 false (H28 c78 c79))) (fun c80 c81 => (vc_s (ct := fun _ => false) 1000 false (H29 c78 c80 c81))) (fun c82 c83 => (vc_s (ct := fun _ => false) 1000 false (H30 c78 c82 c83))))))))) (And.intro (fun c84 => (And.intro (fun c85 => (And.intro (Nat.le_of_ble_eq_true rfl) (And.intro (Nat.le_of_ble_eq_true rfl) (And.intro (Nat.le_of_ble_eq_true rfl) (And.intro (Nat.le_of_ble_eq_true rfl) (r_T_awaitedAfterDigit_0 (v0 := v1) (v1 := (nI 10)) (h := h) (fun c86 => (vc_s (ct := fun _ => false) 1000 false (H31 c84 c85 c86))) (fun c87 c88 => (vc_s (ct := fun _ => false) 1000 false (H32 c84 c85 c87 c88))) (fun c89 c90 => (vc_s (ct := fun _ => false) 1000 false (H33 c84 c85 c89 c90))))))))) (fun c91 => (H34 c84 c91)))) (And.intro (fun c92 => (And.intro (fun c93 => (And.intro (Nat.le_of_ble_eq_true rfl) (And.intro (Nat.le_of_ble_eq_true rfl) (And.intro (Nat.le_of_ble_eq_true rfl) (And.intro (Nat.le_of_ble_eq_true rfl) (r_T_awaitedAfterDigit_0 (v0 := v1) (v1 := (nI 11)) (h := h) (fun c94 => (vc_s (ct := fun _ => false) 1000 false (H35 c92 c93 c94))) (fun c95 c96 => (vc_s (ct := fun _ => false) 1000 false (H36 c92 c93 c95 c96))) (fun c97 c98 => (vc_s (ct := fun _ => false) 1000 false (H37 c92 c93 c97 c98))))))))) (fun c99 => (H38 c92 c99)))) True.intro))))))))))) (fun c100 => (And.intro (fun c101 => (H39 c100 c101)) (fun c102 => (H40 c100 c102)))))
/-- SnapshotRings$Schedule.firstError from 0 -/
theorem r_T_firstError_0 {v0 : Nat} {h : sn_H} {Q : Option Value → sn_H → Prop}
    (H1 : wpE 72 4 [some (.ref v0), some (.int (nI 0)), some (.int (nI 0))] [] h (0, 0) Q) :
    wpE 72 0 [some (.ref v0), none, none] [] h (0, 0) Q :=
  vc_s (ct := fun pc => Nat.beq pc 4) 1000 false (And.intro (Nat.le_of_ble_eq_true rfl) (And.intro (Nat.le_of_ble_eq_true rfl) H1))
/-- SnapshotRings$Schedule.firstError from 4 -/
theorem r_T_firstError_4 {v0 : Nat} {v1 : Int32} {v2 : Int32} {q1 : Nat} {n1 : Nat} {h : sn_H} {Q : Option Value → sn_H → Prop}
    (k1 : hK h v0 = (0, 4, 2))
    (k2 : hR h v0 0 = some q1)
    (k3 : hK h q1 = (2, 0, n1))
    (H1 : (hG h v0 1) ≤ v2 → v1 < nI 9 → Q (some (.int (hG h v0 1))) h)
    (H2 : (hG h v0 1) ≤ v2 → ¬ v1 < nI 9 → Q (some (.int (-(nI 20006)))) h)
    (H3 : ¬ (hG h v0 1) ≤ v2 → v2 < 0 → wpE 74 0 [some (.int v1), some (.int (nI 0))] [] h (0, 0) (fun r hh => wpE 72 21 [some (.ref v0), none, some (.int v2)] (r.toList ++ []) hh (0, 0) Q))
    (B4 : ¬ (hG h v0 1) ≤ v2 → ¬ v2 < 0 → vp_in v2 n1)
    (H5 : ¬ (hG h v0 1) ≤ v2 → ¬ v2 < 0 → wpE 74 0 [some (.int v1), some (.int (hG h q1 v2.toNatClampNeg))] [] h (0, 0) (fun r hh => wpE 72 21 [some (.ref v0), none, some (.int v2)] (r.toList ++ []) hh (0, 0) Q))
    (B6 : ¬ (hG h v0 1) ≤ v2 → ¬ v2 < 0 → narrow .char (.int (hG h q1 v2.toNatClampNeg)) = .int (hG h q1 v2.toNatClampNeg)) :
    wpE 72 4 [some (.ref v0), some (.int v1), some (.int v2)] [] h (0, 0) Q :=
  vc_s (ct := fun pc => Nat.beq pc 4) 1000 false (And.intro k1 (And.intro (fun c1 => (And.intro (fun c2 => (And.intro k1 (H1 c1 c2))) (fun c3 => (H2 c1 c3)))) (fun c4 => (And.intro k1 (And.intro (Nat.le_of_ble_eq_true rfl) (And.intro (Nat.le_of_ble_eq_true rfl) (And.intro (Nat.le_of_ble_eq_true rfl) (And.intro (Nat.le_of_ble_eq_true rfl) (r_T_signAt_0 (v0 := v0) (v1 := v2) (q1 := q1) (n1 := n1) (h := h) k1 k2 k3 (fun c5 => (vc_s (ct := fun pc => Nat.beq pc 4) 1000 false (And.intro (Nat.le_of_ble_eq_true rfl) (And.intro (Nat.le_of_ble_eq_true rfl) (And.intro (Nat.le_of_ble_eq_true rfl) (And.intro (Nat.le_of_ble_eq_true rfl) (wpE_m (fun _ _ HH => @wpE_w _ _ [some (.ref v0), none, some (.int v2)] _ _ _ _ _ (show LeL [some (.ref v0), none, some (.int v2)] [some (.ref v0), some (.int v1), some (.int v2)] from (And.intro rfl (And.intro rfl trivial))) HH) (H3 c4 c5)))))))) (fun c6 c7 => absurd c7 c4) (fun c8 c9 => (B4 c4 c8)) (fun c10 c11 => (vc_s (ct := fun pc => Nat.beq pc 4) 1000 false (And.intro (Nat.le_of_ble_eq_true rfl) (And.intro (Nat.le_of_ble_eq_true rfl) (And.intro (Nat.le_of_ble_eq_true rfl) (And.intro (Nat.le_of_ble_eq_true rfl) (wpE_m (fun _ _ HH => @wpE_w _ _ [some (.ref v0), none, some (.int v2)] _ _ _ _ _ (show LeL [some (.ref v0), none, some (.int v2)] [some (.ref v0), some (.int v1), some (.int v2)] from (And.intro rfl (And.intro rfl trivial))) HH) (H5 c4 c10)))))))) (fun c12 c13 => (B6 c4 c12)))))))))))
/-- SnapshotRings$Schedule.firstError from 21 -/
theorem r_T_firstError_21 {v0 : Nat} {v2 : Int32} {s0 : Int32} {h : sn_H} {Q : Option Value → sn_H → Prop}
    (H1 : ¬ s0 = -(nI 1) → wpE 72 4 [some (.ref v0), some (.int s0), some (.int (v2 + nI 1))] [] h (0, 0) Q)
    (H2 : s0 = -(nI 1) → Q (some (.int v2)) h) :
    wpE 72 21 [some (.ref v0), none, some (.int v2)] [.int s0] h (0, 0) Q :=
  vc_s (ct := fun pc => Nat.beq pc 4) 1000 false (And.intro (Nat.le_of_ble_eq_true rfl) (And.intro (fun c1 => (And.intro (Nat.le_of_ble_eq_true rfl) (H1 c1))) (fun c2 => (H2 c2))))
/-- SnapshotRings$Schedule.slotOfStep from 0 -/
theorem r_T_slotOfStep_0 {v0 : Nat} {v1 : Int32} {q1 : Nat} {n1 : Nat} {h : sn_H} {Q : Option Value → sn_H → Prop}
    (k1 : hK h v0 = (0, 4, 2))
    (k2 : hR h v0 0 = some q1)
    (k3 : hK h q1 = (2, 0, n1))
    (H1 : (v1 + nI 1) < 0 → Q (some (.int (nI 0 - nI 48))) h)
    (H2 : ¬ (v1 + nI 1) < 0 → (hG h v0 1) ≤ (v1 + nI 1) → Q (some (.int (nI 0 - nI 48))) h)
    (B3 : ¬ (v1 + nI 1) < 0 → ¬ (hG h v0 1) ≤ (v1 + nI 1) → vp_in (v1 + nI 1) n1)
    (H4 : ¬ (v1 + nI 1) < 0 → ¬ (hG h v0 1) ≤ (v1 + nI 1) → Q (some (.int ((hG h q1 (v1 + nI 1).toNatClampNeg) - nI 48))) h)
    (B5 : ¬ (v1 + nI 1) < 0 → ¬ (hG h v0 1) ≤ (v1 + nI 1) → narrow .char (.int (hG h q1 (v1 + nI 1).toNatClampNeg)) = .int (hG h q1 (v1 + nI 1).toNatClampNeg)) :
    wpE 81 0 [some (.ref v0), some (.int v1)] [] h (0, 0) Q :=
  vc_s (ct := fun _ => false) 1000 false (And.intro k1 (And.intro (Nat.le_of_ble_eq_true rfl) (And.intro (Nat.le_of_ble_eq_true rfl) (And.intro (Nat.le_of_ble_eq_true rfl) (And.intro (Nat.le_of_ble_eq_true rfl) (r_T_signAt_0 (v0 := v0) (v1 := (v1 + nI 1)) (q1 := q1) (n1 := n1) (h := h) k1 k2 k3 (fun c1 => (vc_s (ct := fun _ => false) 1000 false (H1 c1))) (fun c2 c3 => (vc_s (ct := fun _ => false) 1000 false (H2 c2 c3))) (fun c4 c5 => (B3 c4 c5)) (fun c6 c7 => (vc_s (ct := fun _ => false) 1000 false (H4 c6 c7))) (fun c8 c9 => (B5 c8 c9))))))))
/-- SnapshotRings$Schedule.keyOfStep from 0 -/
theorem r_T_keyOfStep_0 {v0 : Nat} {v1 : Int32} {q1 : Nat} {n1 : Nat} {h : sn_H} {Q : Option Value → sn_H → Prop}
    (k1 : hK h v0 = (0, 4, 2))
    (k2 : hR h v0 0 = some q1)
    (k3 : hK h q1 = (2, 0, n1))
    (H1 : (v1 + nI 2) < 0 → Q (some (.int (nI 0 - nI 97))) h)
    (H2 : ¬ (v1 + nI 2) < 0 → (hG h v0 1) ≤ (v1 + nI 2) → Q (some (.int (nI 0 - nI 97))) h)
    (B3 : ¬ (v1 + nI 2) < 0 → ¬ (hG h v0 1) ≤ (v1 + nI 2) → vp_in (v1 + nI 2) n1)
    (H4 : ¬ (v1 + nI 2) < 0 → ¬ (hG h v0 1) ≤ (v1 + nI 2) → Q (some (.int ((hG h q1 (v1 + nI 2).toNatClampNeg) - nI 97))) h)
    (B5 : ¬ (v1 + nI 2) < 0 → ¬ (hG h v0 1) ≤ (v1 + nI 2) → narrow .char (.int (hG h q1 (v1 + nI 2).toNatClampNeg)) = .int (hG h q1 (v1 + nI 2).toNatClampNeg)) :
    wpE 83 0 [some (.ref v0), some (.int v1)] [] h (0, 0) Q :=
  vc_s (ct := fun _ => false) 1000 false (And.intro k1 (And.intro (Nat.le_of_ble_eq_true rfl) (And.intro (Nat.le_of_ble_eq_true rfl) (And.intro (Nat.le_of_ble_eq_true rfl) (And.intro (Nat.le_of_ble_eq_true rfl) (r_T_signAt_0 (v0 := v0) (v1 := (v1 + nI 2)) (q1 := q1) (n1 := n1) (h := h) k1 k2 k3 (fun c1 => (vc_s (ct := fun _ => false) 1000 false (H1 c1))) (fun c2 c3 => (vc_s (ct := fun _ => false) 1000 false (H2 c2 c3))) (fun c4 c5 => (B3 c4 c5)) (fun c6 c7 => (vc_s (ct := fun _ => false) 1000 false (H4 c6 c7))) (fun c8 c9 => (B5 c8 c9))))))))
/-- SnapshotRings$Schedule.valueOfStep from 0 -/
theorem r_T_valueOfStep_0 {v0 : Nat} {v1 : Int32} {q1 : Nat} {n1 : Nat} {h : sn_H} {Q : Option Value → sn_H → Prop}
    (k1 : hK h v0 = (0, 4, 2))
    (k2 : hR h v0 0 = some q1)
    (k3 : hK h q1 = (2, 0, n1))
    (H1 : (v1 + nI 4) < 0 → wpE 84 38 [some (.ref v0), none, some (.int (nI 0)), some (.int (v1 + nI 4)), some (.int (nI 0)), some (.int (v1 + nI 4))] [] h (0, 0) Q)
    (H2 : ¬ (v1 + nI 4) < 0 → (hG h v0 1) ≤ (v1 + nI 4) → wpE 84 38 [some (.ref v0), none, some (.int (nI 0)), some (.int (v1 + nI 4)), some (.int (nI 0)), some (.int (v1 + nI 4))] [] h (0, 0) Q)
    (B3 : ¬ (v1 + nI 4) < 0 → ¬ (hG h v0 1) ≤ (v1 + nI 4) → vp_in (v1 + nI 4) n1)
    (H4 : ¬ (v1 + nI 4) < 0 → ¬ (hG h v0 1) ≤ (v1 + nI 4) → ¬ (hG h q1 (v1 + nI 4).toNatClampNeg) = nI 45 → wpE 84 38 [some (.ref v0), none, some (.int (nI 0)), some (.int (v1 + nI 4)), some (.int (nI 0)), some (.int (v1 + nI 4))] [] h (0, 0) Q)
    (H5 : ¬ (v1 + nI 4) < 0 → ¬ (hG h v0 1) ≤ (v1 + nI 4) → (hG h q1 (v1 + nI 4).toNatClampNeg) = nI 45 → wpE 84 38 [some (.ref v0), none, some (.int (nI 1)), some (.int (v1 + nI 5)), some (.int (nI 0)), some (.int (v1 + nI 5))] [] h (0, 0) Q)
    (B6 : ¬ (v1 + nI 4) < 0 → ¬ (hG h v0 1) ≤ (v1 + nI 4) → narrow .char (.int (hG h q1 (v1 + nI 4).toNatClampNeg)) = .int (hG h q1 (v1 + nI 4).toNatClampNeg)) :
    wpE 84 0 [some (.ref v0), some (.int v1), none, none, none, none] [] h (0, 0) Q :=
  vc_s (ct := fun pc => Nat.beq pc 38) 1000 false (And.intro k1 (And.intro (Nat.le_of_ble_eq_true rfl) (And.intro (Nat.le_of_ble_eq_true rfl) (And.intro (Nat.le_of_ble_eq_true rfl) (And.intro (Nat.le_of_ble_eq_true rfl) (r_T_signAt_0 (v0 := v0) (v1 := (v1 + nI 4)) (q1 := q1) (n1 := n1) (h := h) k1 k2 k3 (fun c1 => (vc_s (ct := fun pc => Nat.beq pc 38) 1000 false (And.intro (fun c2 => (And.intro (Nat.le_of_ble_eq_true rfl) (And.intro (fun c3 => (And.intro (Nat.le_of_ble_eq_true rfl) (And.intro (Nat.le_of_ble_eq_true rfl) (And.intro (Nat.le_of_ble_eq_true rfl) (@wpE_w _ _ [some (.ref v0), none, some (.int (nI 0)), some (.int (v1 + nI 4)), some (.int (nI 0)), some (.int (v1 + nI 4))] _ _ _ _ _ (show LeL [some (.ref v0), none, some (.int (nI 0)), some (.int (v1 + nI 4)), some (.int (nI 0)), some (.int (v1 + nI 4))] [some (.ref v0), some (.int v1), some (.int (nI 0)), some (.int (v1 + nI 4)), some (.int (nI 0)), some (.int (v1 + nI 4))] from (And.intro rfl (And.intro rfl (And.intro rfl (And.intro rfl (And.intro rfl trivial)))))) (H1 c1)))))) (fun c3 => absurd c3 (by decide))))) (fun c2 => absurd c2 (by decide))))) (fun c4 c5 => (vc_s (ct := fun pc => Nat.beq pc 38) 1000 false (And.intro (fun c6 => (And.intro (Nat.le_of_ble_eq_true rfl) (And.intro (fun c7 => (And.intro (Nat.le_of_ble_eq_true rfl) (And.intro (Nat.le_of_ble_eq_true rfl) (And.intro (Nat.le_of_ble_eq_true rfl) (@wpE_w _ _ [some (.ref v0), none, some (.int (nI 0)), some (.int (v1 + nI 4)), some (.int (nI 0)), some (.int (v1 + nI 4))] _ _ _ _ _ (show LeL [some (.ref v0), none, some (.int (nI 0)), some (.int (v1 + nI 4)), some (.int (nI 0)), some (.int (v1 + nI 4))] [some (.ref v0), some (.int v1), some (.int (nI 0)), some (.int (v1 + nI 4)), some (.int (nI 0)), some (.int (v1 + nI 4))] from (And.intro rfl (And.intro rfl (And.intro rfl (And.intro rfl (And.intro rfl trivial)))))) (H2 c4 c5)))))) (fun c7 => absurd c7 (by decide))))) (fun c6 => absurd c6 (by decide))))) (fun c8 c9 => (B3 c8 c9)) (fun c10 c11 => (vc_s (ct := fun pc => Nat.beq pc 38) 1000 false (And.intro (fun c12 => (And.intro (Nat.le_of_ble_eq_true rfl) (And.intro (fun c13 => (And.intro (Nat.le_of_ble_eq_true rfl) (And.intro (Nat.le_of_ble_eq_true rfl) (And.intro (Nat.le_of_ble_eq_true rfl) (@wpE_w _ _ [some (.ref v0), none, some (.int (nI 0)), some (.int (v1 + nI 4)), some (.int (nI 0)), some (.int (v1 + nI 4))] _ _ _ _ _ (show LeL [some (.ref v0), none, some (.int (nI 0)), some (.int (v1 + nI 4)), some (.int (nI 0)), some (.int (v1 + nI 4))] [some (.ref v0), some (.int v1), some (.int (nI 0)), some (.int (v1 + nI 4)), some (.int (nI 0)), some (.int (v1 + nI 4))] from (And.intro rfl (And.intro rfl (And.intro rfl (And.intro rfl (And.intro rfl trivial)))))) (H4 c10 c11 c12)))))) (fun c13 => absurd c13 (by decide))))) (fun c14 => (And.intro (Nat.le_of_ble_eq_true rfl) (And.intro (fun c15 => absurd c15 (by decide)) (fun c15 => (And.intro (Nat.le_of_ble_eq_true rfl) (And.intro (Nat.le_of_ble_eq_true rfl) (And.intro (Nat.le_of_ble_eq_true rfl) (@wpE_w _ _ [some (.ref v0), none, some (.int (nI 1)), some (.int (v1 + nI 5)), some (.int (nI 0)), some (.int (v1 + nI 5))] _ _ _ _ _ (show LeL [some (.ref v0), none, some (.int (nI 1)), some (.int (v1 + nI 5)), some (.int (nI 0)), some (.int (v1 + nI 5))] [some (.ref v0), some (.int v1), some (.int (nI 1)), some (.int (v1 + nI 5)), some (.int (nI 0)), some (.int (v1 + nI 5))] from (And.intro rfl (And.intro rfl (And.intro rfl (And.intro rfl (And.intro rfl trivial)))))) (H5 c10 c11 c14)))))))))))) (fun c16 c17 => (B6 c16 c17))))))))
/-- SnapshotRings$Schedule.valueOfStep from 38 -/
theorem r_T_valueOfStep_38 {v0 : Nat} {v2 : Int32} {v3 : Int32} {v4 : Int32} {v5 : Int32} {q1 : Nat} {n1 : Nat} {h : sn_H} {Q : Option Value → sn_H → Prop}
    (k1 : hK h v0 = (0, 4, 2))
    (k2 : hR h v0 0 = some q1)
    (k3 : hK h q1 = (2, 0, n1))
    (H1 : (v3 + nI 3) ≤ v5 → v2 = 0 → Q (some (.int v4)) h)
    (H2 : (v3 + nI 3) ≤ v5 → ¬ v2 = 0 → Q (some (.int (-v4))) h)
    (H3 : ¬ (v3 + nI 3) ≤ v5 → v5 < 0 → v2 = 0 → Q (some (.int v4)) h)
    (H4 : ¬ (v3 + nI 3) ≤ v5 → v5 < 0 → ¬ v2 = 0 → Q (some (.int (-v4))) h)
    (H5 : ¬ (v3 + nI 3) ≤ v5 → ¬ v5 < 0 → (hG h v0 1) ≤ v5 → v2 = 0 → Q (some (.int v4)) h)
    (H6 : ¬ (v3 + nI 3) ≤ v5 → ¬ v5 < 0 → (hG h v0 1) ≤ v5 → ¬ v2 = 0 → Q (some (.int (-v4))) h)
    (B7 : ¬ (v3 + nI 3) ≤ v5 → ¬ v5 < 0 → ¬ (hG h v0 1) ≤ v5 → vp_in v5 n1)
    (H8 : ¬ (v3 + nI 3) ≤ v5 → ¬ v5 < 0 → ¬ (hG h v0 1) ≤ v5 → (hG h q1 v5.toNatClampNeg) < (nI 48) → v2 = 0 → Q (some (.int v4)) h)
    (H9 : ¬ (v3 + nI 3) ≤ v5 → ¬ v5 < 0 → ¬ (hG h v0 1) ≤ v5 → (hG h q1 v5.toNatClampNeg) < (nI 48) → ¬ v2 = 0 → Q (some (.int (-v4))) h)
    (H10 : ¬ (v3 + nI 3) ≤ v5 → ¬ v5 < 0 → ¬ (hG h v0 1) ≤ v5 → ¬ (hG h q1 v5.toNatClampNeg) < (nI 48) → (nI 57) < (hG h q1 v5.toNatClampNeg) → v2 = 0 → Q (some (.int v4)) h)
    (H11 : ¬ (v3 + nI 3) ≤ v5 → ¬ v5 < 0 → ¬ (hG h v0 1) ≤ v5 → ¬ (hG h q1 v5.toNatClampNeg) < (nI 48) → (nI 57) < (hG h q1 v5.toNatClampNeg) → ¬ v2 = 0 → Q (some (.int (-v4))) h)
    (B12 : ¬ (v3 + nI 3) ≤ v5 → ¬ v5 < 0 → ¬ (hG h v0 1) ≤ v5 → ¬ (hG h q1 v5.toNatClampNeg) < (nI 48) → ¬ (nI 57) < (hG h q1 v5.toNatClampNeg) → vp_in v5 n1)
    (H13 : ¬ (v3 + nI 3) ≤ v5 → ¬ v5 < 0 → ¬ (hG h v0 1) ≤ v5 → ¬ (hG h q1 v5.toNatClampNeg) < (nI 48) → ¬ (nI 57) < (hG h q1 v5.toNatClampNeg) → wpE 84 38 [some (.ref v0), none, some (.int v2), some (.int v3), some (.int ((nI 10 * v4) + ((hG h q1 v5.toNatClampNeg) - nI 48))), some (.int (v5 + nI 1))] [] h (0, 0) Q)
    (B14 : ¬ (v3 + nI 3) ≤ v5 → ¬ v5 < 0 → ¬ (hG h v0 1) ≤ v5 → ¬ (hG h q1 v5.toNatClampNeg) < (nI 48) → ¬ (nI 57) < (hG h q1 v5.toNatClampNeg) → narrow .char (.int (hG h q1 v5.toNatClampNeg)) = .int (hG h q1 v5.toNatClampNeg))
    (B15 : ¬ (v3 + nI 3) ≤ v5 → ¬ v5 < 0 → ¬ (hG h v0 1) ≤ v5 → narrow .char (.int (hG h q1 v5.toNatClampNeg)) = .int (hG h q1 v5.toNatClampNeg)) :
    wpE 84 38 [some (.ref v0), none, some (.int v2), some (.int v3), some (.int v4), some (.int v5)] [] h (0, 0) Q :=
  vc_s (ct := fun pc => Nat.beq pc 38) 1000 false (And.intro (fun c1 => (And.intro (fun c2 => (H1 c1 c2)) (fun c3 => (H2 c1 c3)))) (fun c4 => (And.intro k1 (And.intro (Nat.le_of_ble_eq_true rfl) (And.intro (Nat.le_of_ble_eq_true rfl) (And.intro (Nat.le_of_ble_eq_true rfl) (And.intro (Nat.le_of_ble_eq_true rfl) (r_T_signAt_0 (v0 := v0) (v1 := v5) (q1 := q1) (n1 := n1) (h := h) k1 k2 k3 (fun c5 => (vc_s (ct := fun pc => Nat.beq pc 38) 1000 false (And.intro (Nat.le_of_ble_eq_true rfl) (And.intro (Nat.le_of_ble_eq_true rfl) (And.intro (Nat.le_of_ble_eq_true rfl) (And.intro (Nat.le_of_ble_eq_true rfl) (r_T_isDigit_0 (v0 := (nI 0)) (h := h) (fun c6 => (vc_s (ct := fun pc => Nat.beq pc 38) 1000 false (And.intro (fun c7 => (And.intro (fun c8 => (H3 c4 c5 c8)) (fun c9 => (H4 c4 c5 c9)))) (fun c7 => absurd c7 (by decide))))) (fun c10 c11 => absurd c11 (by decide)) (fun c12 c13 => absurd c12 (by decide))))))))) (fun c14 c15 => (vc_s (ct := fun pc => Nat.beq pc 38) 1000 false (And.intro (Nat.le_of_ble_eq_true rfl) (And.intro (Nat.le_of_ble_eq_true rfl) (And.intro (Nat.le_of_ble_eq_true rfl) (And.intro (Nat.le_of_ble_eq_true rfl) (r_T_isDigit_0 (v0 := (nI 0)) (h := h) (fun c16 => (vc_s (ct := fun pc => Nat.beq pc 38) 1000 false (And.intro (fun c17 => (And.intro (fun c18 => (H5 c4 c14 c15 c18)) (fun c19 => (H6 c4 c14 c15 c19)))) (fun c17 => absurd c17 (by decide))))) (fun c20 c21 => absurd c21 (by decide)) (fun c22 c23 => absurd c22 (by decide))))))))) (fun c24 c25 => (B7 c4 c24 c25)) (fun c26 c27 => (vc_s (ct := fun pc => Nat.beq pc 38) 1000 false (And.intro (Nat.le_of_ble_eq_true rfl) (And.intro (Nat.le_of_ble_eq_true rfl) (And.intro (Nat.le_of_ble_eq_true rfl) (And.intro (Nat.le_of_ble_eq_true rfl) (r_T_isDigit_0 (v0 := (hG h q1 v5.toNatClampNeg)) (h := h) (fun c28 => (vc_s (ct := fun pc => Nat.beq pc 38) 1000 false (And.intro (fun c29 => (And.intro (fun c30 => (H8 c4 c26 c27 c28 c30)) (fun c31 => (H9 c4 c26 c27 c28 c31)))) (fun c29 => absurd c29 (by decide))))) (fun c32 c33 => (vc_s (ct := fun pc => Nat.beq pc 38) 1000 false (And.intro (fun c34 => (And.intro (fun c35 => (H10 c4 c26 c27 c32 c33 c35)) (fun c36 => (H11 c4 c26 c27 c32 c33 c36)))) (fun c34 => absurd c34 (by decide))))) (fun c37 c38 => (vc_s (ct := fun pc => Nat.beq pc 38) 1000 false (And.intro (fun c39 => absurd c39 (by decide)) (fun c39 => (And.intro k1 (And.intro (Nat.le_of_ble_eq_true rfl) (And.intro (Nat.le_of_ble_eq_true rfl) (And.intro (Nat.le_of_ble_eq_true rfl) (And.intro (Nat.le_of_ble_eq_true rfl) (r_T_signAt_0 (v0 := v0) (v1 := v5) (q1 := q1) (n1 := n1) (h := h) k1 k2 k3 (fun c40 => absurd c40 c26) (fun c41 c42 => absurd c42 c27) (fun c43 c44 => (B12 c4 c26 c27 c37 c38)) (fun c45 c46 => (vc_s (ct := fun pc => Nat.beq pc 38) 1000 false (And.intro (Nat.le_of_ble_eq_true rfl) (And.intro (Nat.le_of_ble_eq_true rfl) (H13 c4 c26 c27 c37 c38))))) (fun c47 c48 => (B14 c4 c26 c27 c37 c38))))))))))))))))))) (fun c49 c50 => (B15 c4 c49 c50))))))))))
/-- SnapshotRings$Schedule.nextStep from 0 -/
theorem r_T_nextStep_0 {v0 : Nat} {v1 : Int32} {h : sn_H} {Q : Option Value → sn_H → Prop}
    (H1 : wpE 85 2 [some (.ref v0), none, some (.int v1)] [] h (0, 0) Q) :
    wpE 85 0 [some (.ref v0), some (.int v1), none] [] h (0, 0) Q :=
  vc_s (ct := fun pc => Nat.beq pc 2) 1000 false (And.intro (Nat.le_of_ble_eq_true rfl) (@wpE_w _ _ [some (.ref v0), none, some (.int v1)] _ _ _ _ _ (show LeL [some (.ref v0), none, some (.int v1)] [some (.ref v0), some (.int v1), some (.int v1)] from (And.intro rfl (And.intro rfl trivial))) H1))
/-- SnapshotRings$Schedule.nextStep from 2 -/
theorem r_T_nextStep_2 {v0 : Nat} {v2 : Int32} {q1 : Nat} {n1 : Nat} {h : sn_H} {Q : Option Value → sn_H → Prop}
    (k1 : hK h v0 = (0, 4, 2))
    (k2 : hR h v0 0 = some q1)
    (k3 : hK h q1 = (2, 0, n1))
    (H1 : (hG h v0 1) ≤ v2 → Q (some (.int (hG h v0 1))) h)
    (B2 : ¬ (hG h v0 1) ≤ v2 → vp_in v2 n1)
    (H3 : ¬ (hG h v0 1) ≤ v2 → ¬ (hG h q1 v2.toNatClampNeg) = nI 59 → wpE 85 2 [some (.ref v0), none, some (.int (v2 + nI 1))] [] h (0, 0) Q)
    (H4 : ¬ (hG h v0 1) ≤ v2 → (hG h q1 v2.toNatClampNeg) = nI 59 → Q (some (.int (v2 + nI 1))) h) :
    wpE 85 2 [some (.ref v0), none, some (.int v2)] [] h (0, 0) Q :=
  vc_s (ct := fun pc => Nat.beq pc 2) 1000 false (And.intro k1 (And.intro (fun c1 => (And.intro k1 (H1 c1))) (fun c2 => (And.intro k1 (Exists.intro q1 (And.intro k2 (Exists.intro n1 (And.intro k3 (And.intro (B2 c2) (And.intro (fun c3 => (And.intro (Nat.le_of_ble_eq_true rfl) (H3 c2 c3))) (fun c4 => (H4 c2 c4))))))))))))
/-- SnapshotRings$History.popInto from 0 -/
theorem r_H_popInto_0 {v0 : Nat} {v1 : Nat} {h : sn_H} {Q : Option Value → sn_H → Prop}
    (k1 : hK h v0 = (0, 2, 3))
    (H1 : wpE 87 26 [some (.ref v0), some (.ref v1)] [] (setG (setG h v0 2 ((((hG h v0 2) + nI 6) - nI 1) - (((hG h v0 2) + nI 6) - nI 1) / nI 6 * nI 6)) v0 1 ((hG (setG h v0 2 ((((hG h v0 2) + nI 6) - nI 1) - (((hG h v0 2) + nI 6) - nI 1) / nI 6 * nI 6)) v0 1) - nI 1)) (0, 0) Q) :
    wpE 87 0 [some (.ref v0), some (.ref v1)] [] h (0, 0) Q :=
  vc_s (ct := fun pc => Nat.beq pc 26) 1000 false (And.intro k1 (And.intro (by decide) (And.intro k1 (And.intro rfl (And.intro rfl (And.intro k1 (And.intro k1 (And.intro rfl H1))))))))
/-- SnapshotRings$History.popInto from 26 -/
theorem r_H_popInto_26 {v0 : Nat} {v1 : Nat} {q1 : Nat} {n1 : Nat} {q2 : Nat} {h : sn_H} {Q : Option Value → sn_H → Prop}
    (k1 : hK h v0 = (0, 2, 3))
    (k2 : hR h v0 0 = some q1)
    (k3 : hK h q1 = (4, 1, n1))
    (k4 : hR h q1 ((hG h v0 2).toNatClampNeg) = some q2)
    (k5 : hK h v1 = (0, 1, 14))
    (B1 : vp_in (hG h v0 2) n1)
    (H2 : wpE 7 0 [some (.ref v1), some (.ref q2)] [] h (0, 0) (fun r hh => wpE 87 39 [none, none] (r.toList ++ []) hh (0, 0) Q)) :
    wpE 87 26 [some (.ref v0), some (.ref v1)] [] h (0, 0) Q :=
  vc_s (ct := fun pc => Nat.beq pc 26) 1000 false (And.intro k1 (Exists.intro q1 (And.intro k2 (And.intro k1 (Exists.intro 1 (Exists.intro n1 (Exists.intro q2 (And.intro k3 (And.intro B1 (And.intro k4 (And.intro k5 (And.intro (Nat.le_of_ble_eq_true rfl) (And.intro (Nat.le_of_ble_eq_true rfl) (And.intro (Nat.le_of_ble_eq_true rfl) (And.intro (Nat.le_of_ble_eq_true rfl) (wpE_m (fun _ _ HH => @wpE_w _ _ [none, none] _ _ _ _ _ (show LeL [none, none] [some (.ref v0), some (.ref v1)] from trivial) HH) H2))))))))))))))))
/-- SnapshotRings$History.popInto from 39 -/
theorem r_H_popInto_39  {h : sn_H} {Q : Option Value → sn_H → Prop}
    (H1 : Q none h) :
    wpE 87 39 [none, none] [] h (0, 0) Q :=
  vc_s (ct := fun pc => Nat.beq pc 26) 1000 false (And.intro rfl H1)
end
section
/-! ===== bits: the kit's family of Int32 by its bits (kit/laws/BITS.to-paste, pasted), and what hasBit asks ===== -/
def bt (x : Int32) (i : Nat) : Bool := x.toBitVec.getLsbD i
theorem b_ext {x y : Int32} (h : ∀ i, i < 32 → bt x i = bt y i) : x = y := Int32.toBitVec_inj.mp (BitVec.eq_of_getLsbD_eq (fun i hi => h i hi))
theorem b_or (x y : Int32) (i : Nat) : bt (x ||| y) i = (bt x i || bt y i) := by unfold bt; rw [Int32.toBitVec_or, BitVec.getLsbD_or]
theorem b_and (x y : Int32) (i : Nat) : bt (x &&& y) i = (bt x i && bt y i) := by unfold bt; rw [Int32.toBitVec_and, BitVec.getLsbD_and]
theorem b_xor (x y : Int32) (i : Nat) : bt (x ^^^ y) i = (bt x i ^^ bt y i) := by unfold bt; rw [Int32.toBitVec_xor, BitVec.getLsbD_xor]
theorem b_big {x : Int32} {i : Nat} (h : 32 ≤ i) : bt x i = false := BitVec.getLsbD_of_ge _ _ h
theorem b_255 (i : Nat) : bt 255 i = decide (i < 8) := by
  rcases Nat.lt_or_ge i 32 with h | h
  · exact (by decide +kernel : ∀ i, i < 32 → bt 255 i = decide (i < 8)) i h
  · rw [b_big h, decide_eq_false (by omega)]
theorem b_65535 (i : Nat) : bt 65535 i = decide (i < 16) := by
  rcases Nat.lt_or_ge i 32 with h | h
  · exact (by decide +kernel : ∀ i, i < 32 → bt 65535 i = decide (i < 16)) i h
  · rw [b_big h, decide_eq_false (by omega)]
theorem b_m1 : ∀ i, i < 32 → bt (-1) i = true := by decide +kernel
theorem b_0 (i : Nat) : bt 0 i = false := BitVec.getLsbD_zero
theorem s_l : ∀ n, n < 32 → ((nI n &&& 31).toBitVec.smod 32).toNat = n := by decide +kernel
theorem s_u : ∀ n, n < 32 → (((nI n).toUInt32 &&& Int32.toUInt32 31).toBitVec % 32).toNat = n := by decide +kernel
theorem b_shl (n : Nat) (hn : n < 32) (x : Int32) {i : Nat} (hi : i < 32) : bt (x <<< (nI n &&& 31)) i = (decide (n ≤ i) && bt x (i - n)) := by
  unfold bt
  rw [Int32.toBitVec_shiftLeft]
  show (x.toBitVec <<< ((nI n &&& 31).toBitVec.smod 32).toNat).getLsbD i = _
  rw [s_l n hn, BitVec.getLsbD_shiftLeft]
  rcases Nat.lt_or_ge i n with h | h
  · simp [h, Nat.not_le.mpr h]
  · simp [hi, h, Nat.not_lt.mpr h]
theorem b_ushr (n : Nat) (hn : n < 32) (x : Int32) (i : Nat) : bt ((x.toUInt32 >>> ((nI n).toUInt32 &&& Int32.toUInt32 31)).toInt32) i = bt x (n + i) := by
  show (x.toUInt32 >>> ((nI n).toUInt32 &&& Int32.toUInt32 31)).toBitVec.getLsbD i = x.toUInt32.toBitVec.getLsbD (n + i)
  rw [UInt32.toBitVec_shiftRight]
  show (x.toUInt32.toBitVec >>> (((nI n).toUInt32 &&& Int32.toUInt32 31).toBitVec % 32).toNat).getLsbD i = _
  rw [s_u n hn, BitVec.getLsbD_ushiftRight]
theorem b_sshr (n : Nat) (hn : n < 32) (x : Int32) {i : Nat} (hi : i < 32) : bt (x >>> (nI n &&& 31)) i = if n + i < 32 then bt x (n + i) else bt x 31 := by
  unfold bt
  rw [Int32.toBitVec_shiftRight]
  show (x.toBitVec.sshiftRight ((nI n &&& 31).toBitVec.smod 32).toNat).getLsbD i = _
  rw [s_l n hn, BitVec.getLsbD_sshiftRight, BitVec.msb_eq_getLsbD_last]
  simp [hi]
abbrev bitP (x : Int32) (k : Nat) : Prop := ((x >>> (nI k &&& 31)) &&& nI 1) = nI 1
theorem bt_1 : ∀ i, i < 32 → bt (nI 1) i = decide (i = 0) := by decide +kernel
theorem bt_m1 : ∀ i, i < 32 → bt (-(nI 1)) i = true := by decide +kernel
theorem bt_s1 (k : Nat) (hk : k < 32) {i : Nat} (hi : i < 32) : bt (nI 1 <<< (nI k &&& 31)) i = decide (i = k) := by
  rw [b_shl k hk _ hi]
  by_cases h : k ≤ i
  · rw [bt_1 (i - k) (by omega)]
    simp only [h, decide_true, Bool.true_and, decide_eq_decide]
    omega
  · simp only [h, decide_false, Bool.false_and]
    exact (decide_eq_false (by omega)).symm
theorem bitP_bt {x : Int32} {k : Nat} (hk : k < 32) : bitP x k ↔ bt x k = true := by
  have e0 : bt (x >>> (nI k &&& 31)) 0 = bt x k := by rw [b_sshr k hk x (by omega), if_pos (by omega)]; rfl
  constructor
  · intro h
    have h1 := congrArg (fun z => bt z 0) h
    simp only [b_and, bt_1 0 (by omega)] at h1
    rw [e0] at h1
    simpa using h1
  · intro h
    refine b_ext fun i hi => ?_
    rw [b_and, bt_1 i hi]
    by_cases hi0 : i = 0
    · subst hi0; rw [e0, h]; rfl
    · simp [hi0]
theorem bitP_and {x y : Int32} {k : Nat} (hk : k < 32) : bitP (x &&& y) k ↔ bitP x k ∧ bitP y k := by
  rw [bitP_bt hk, bitP_bt hk, bitP_bt hk, b_and, Bool.and_eq_true]
theorem bitP_or {x y : Int32} {k : Nat} (hk : k < 32) : bitP (x ||| y) k ↔ bitP x k ∨ bitP y k := by
  rw [bitP_bt hk, bitP_bt hk, bitP_bt hk, b_or, Bool.or_eq_true]
theorem bitP_0 {k : Nat} (hk : k < 32) : ¬ bitP 0 k := by rw [bitP_bt hk, b_0]; decide
theorem bitP_s1 {k j : Nat} (hk : k < 32) (hj : j < 32) : bitP (nI 1 <<< (nI k &&& 31)) j ↔ j = k := by
  rw [bitP_bt hj, bt_s1 k hk hj, decide_eq_true_eq]
theorem bitP_put {x : Int32} {k j : Nat} (hk : k < 32) (hj : j < 32) : bitP (x ||| (nI 1 <<< (nI k &&& 31))) j ↔ bitP x j ∨ j = k := by
  rw [bitP_or hj, bitP_s1 hk hj]
theorem bitP_clr {x : Int32} {k j : Nat} (hk : k < 32) (hj : j < 32) : bitP (x &&& ((nI 1 <<< (nI k &&& 31)) ^^^ -(nI 1))) j ↔ bitP x j ∧ j ≠ k := by
  rw [bitP_and hj, bitP_bt (x := _ ^^^ _) hj, b_xor, bt_s1 k hk hj, bt_m1 j hj]
  by_cases h : j = k <;> simp [h]
theorem and_bit {x : Int32} {k : Nat} (hk : k < 32) : (x &&& (nI 1 <<< (nI k &&& 31))) = 0 ↔ ¬ bitP x k := by
  rw [bitP_bt hk]
  constructor
  · intro h hb
    have h1 := congrArg (fun z => bt z k) h
    simp only [b_and, bt_s1 k hk hk, hb, b_0] at h1
    simp at h1
  · intro h
    refine b_ext fun i hi => ?_
    rw [b_and, bt_s1 k hk hi, b_0]
    by_cases hik : i = k
    · subst hik
      cases hb : bt x i with
      | true => exact absurd hb h
      | false => rfl
    · simp [hik]
theorem or_0 {x y : Int32} (h : (x ||| y) = 0) : x = 0 ∧ y = 0 := by
  constructor <;> refine b_ext fun i hi => ?_ <;> have h1 := congrArg (fun z => bt z i) h <;> simp only [b_or, b_0, Bool.or_eq_false_iff] at h1
  · rw [h1.1, b_0]
  · rw [h1.2, b_0]
/-- somewhere below n -/
def anyN (p : Nat → Bool) : Nat → Bool
  | 0 => false
  | n + 1 => anyN p n || p n
theorem anyN_t {p : Nat → Bool} : ∀ {n : Nat}, anyN p n = true ↔ ∃ k, k < n ∧ p k = true
  | 0 => by simp [anyN]
  | n + 1 => by
    unfold anyN
    rw [Bool.or_eq_true, anyN_t]
    constructor
    · rintro (⟨k, h1, h2⟩ | h)
      · exact ⟨k, by omega, h2⟩
      · exact ⟨n, by omega, h⟩
    · rintro ⟨k, h1, h2⟩
      by_cases hk : k = n
      · exact Or.inr (hk ▸ h2)
      · exact Or.inl ⟨k, by omega, h2⟩
theorem anyN_f {p : Nat → Bool} {n : Nat} (h : ∀ k, k < n → p k = false) : anyN p n = false := by
  cases ha : anyN p n with
  | false => rfl
  | true =>
    obtain ⟨k, h1, h2⟩ := anyN_t.mp ha
    rw [h k h1] at h2
    cases h2
/-! ===== a State object's view: eleven cells at a place ===== -/
def stLen (j : Nat) : Nat := (sn_nth [4, 3, 3, 12, 12, 24, 24, 24, 288, 96] j).getD 0
abbrev sn_V : Type := Nat → Nat → Int32
def up (σ : sn_V) (j k : Nat) (v : Int32) : sn_V := fun j' k' => if j' = j ∧ k' = k then v else σ j' k'
def cpV (σ : sn_V) (a s d t n : Nat) : sn_V := fun j' k' => if j' = d ∧ t ≤ k' ∧ k' < t + n then σ a (s + (k' - t)) else σ j' k'
def hput (h : sn_H) (b : Nat) (σ : sn_V) : sn_H := (h.1, h.2.1, h.2.2.1, fun p k => if b ≤ p ∧ p ≤ b + 10 then σ (p - b) k else h.2.2.2 p k)
def StS (h : sn_H) (b : Nat) : Prop := hK h b = (0, 1, 14) ∧ ∀ j, j < 10 → hR h b (4 + j) = some (b + (1 + j)) ∧ hK h (b + (1 + j)) = (1, 0, stLen j)
/-- the State at b holds σ -/
def StA (h : sn_H) (b : Nat) (σ : sn_V) : Prop := StS h b ∧ ∀ j, j ≤ 10 → ∀ k, hG h (b + j) k = σ j k
theorem hput_S {h : sn_H} {b b' : Nat} {σ : sn_V} (S : StS h b') : StS (hput h b σ) b' := S
theorem hput_A {h : sn_H} {b : Nat} {σ : sn_V} (S : StS h b) : StA (hput h b σ) b σ := ⟨S, fun j hj k => by
  show (if b ≤ b + j ∧ b + j ≤ b + 10 then σ (b + j - b) k else _) = _
  rw [if_pos (by omega), Nat.add_sub_cancel_left]⟩
theorem hput_o {h : sn_H} {b p k : Nat} {σ : sn_V} (hp : ¬ (b ≤ p ∧ p ≤ b + 10)) : hG (hput h b σ) p k = hG h p k := if_neg hp
theorem hput_A' {h : sn_H} {b b' : Nat} {σ τ : sn_V} (A : StA h b' τ) (hb : b' + 10 < b ∨ b + 10 < b') : StA (hput h b σ) b' τ := ⟨A.1, fun j hj k => by rw [hput_o (by omega)]; exact A.2 j hj k⟩
theorem hput_hput {h : sn_H} {b : Nat} {σ τ : sn_V} : hput (hput h b σ) b τ = hput h b τ := by
  unfold hput
  simp only [Prod.mk.injEq, true_and]
  funext p k
  by_cases hp : b ≤ p ∧ p ≤ b + 10 <;> simp [hp]
theorem StA.put {h : sn_H} {b : Nat} {σ : sn_V} (A : StA h b σ) : h = hput h b σ := by
  obtain ⟨n, kd, rf, g⟩ := h
  unfold hput
  simp only [Prod.mk.injEq, true_and]
  funext p k
  by_cases hp : b ≤ p ∧ p ≤ b + 10
  · rw [if_pos hp]
    have := A.2 (p - b) (by omega) k
    rw [show b + (p - b) = p by omega] at this
    exact this
  · rw [if_neg hp]
theorem StA.ex {h : sn_H} {b : Nat} {σ : sn_V} (A : StA h b σ) : ∃ h0, h = hput h0 b σ := ⟨h, A.put⟩
theorem hput_get {h : sn_H} {b j k : Nat} {σ : sn_V} (hj : j ≤ 10) : hG (hput h b σ) (b + j) k = σ j k := by
  show (if b ≤ b + j ∧ b + j ≤ b + 10 then σ (b + j - b) k else _) = _
  rw [if_pos (by omega), Nat.add_sub_cancel_left]
theorem hput_get0 {h : sn_H} {b k : Nat} {σ : sn_V} : hG (hput h b σ) b k = σ 0 k := hput_get (j := 0) (by omega)
theorem hput_set {h : sn_H} {b j k : Nat} {σ : sn_V} {v : Int32} (hj : j ≤ 10) : setG (hput h b σ) (b + j) k v = hput h b (up σ j k v) := by
  unfold hput setG up
  simp only [Prod.mk.injEq, true_and]
  funext p i
  by_cases hp : b ≤ p ∧ p ≤ b + 10
  · simp only [hp, and_self, if_true]
    by_cases hq : p = b + j
    · subst hq; simp
    · rw [if_neg (fun z => hq z.1), if_neg (fun z => hq (by omega))]
  · rw [if_neg (fun z => hp (by omega)), if_neg hp, if_neg hp]
theorem hput_set0 {h : sn_H} {b k : Nat} {σ : sn_V} {v : Int32} : setG (hput h b σ) b k v = hput h b (up σ 0 k v) := hput_set (j := 0) (by omega)
theorem hput_cp {h : sn_H} {b a d s t n : Nat} {σ : sn_V} (ha : a ≤ 10) (hd : d ≤ 10) : cpG (hput h b σ) (b + a) s (b + d) t n = hput h b (cpV σ a s d t n) := by
  unfold hput cpG cpV
  simp only [Prod.mk.injEq, true_and]
  funext p i
  by_cases hp : b ≤ p ∧ p ≤ b + 10
  · simp only [hp, and_self, if_true]
    by_cases hq : p = b + d
    · subst hq
      simp only [Nat.add_sub_cancel_left, true_and]
      rw [if_pos (by omega : b ≤ b + a ∧ b + a ≤ b + 10)]
    · rw [if_neg (fun z => hq z.1), if_neg (fun z => hq (by omega))]
  · rw [if_neg (fun z => hp (by omega)), if_neg hp, if_neg hp]
theorem nI_s (a : Nat) : nI a + nI 1 = nI (a + 1) := nI_add a 1
theorem cl {n : Nat} (h : n < 2 ^ 31) : (nI n).toNatClampNeg = n := nI_clamp h
theorem ixm (i k : Nat) : nI i * nI 12 + nI k = nI (i * 12 + k) := by rw [pk_mul, nI_add]
theorem inb {i n : Nat} (h : i < n) (hn : n < 2 ^ 31 := by omega) : vp_in (nI i) n := vp_in_nI h hn
theorem StS.f4 {h : sn_H} {b : Nat} (S : StS h b) : hR h b 4 = some (b + 1) := (S.2 0 (by decide)).1
theorem StS.k1 {h : sn_H} {b : Nat} (S : StS h b) : hK h (b + 1) = (1, 0, 4) := (S.2 0 (by decide)).2
theorem StS.f5 {h : sn_H} {b : Nat} (S : StS h b) : hR h b 5 = some (b + 2) := (S.2 1 (by decide)).1
theorem StS.k2 {h : sn_H} {b : Nat} (S : StS h b) : hK h (b + 2) = (1, 0, 3) := (S.2 1 (by decide)).2
theorem StS.f6 {h : sn_H} {b : Nat} (S : StS h b) : hR h b 6 = some (b + 3) := (S.2 2 (by decide)).1
theorem StS.k3 {h : sn_H} {b : Nat} (S : StS h b) : hK h (b + 3) = (1, 0, 3) := (S.2 2 (by decide)).2
theorem StS.f7 {h : sn_H} {b : Nat} (S : StS h b) : hR h b 7 = some (b + 4) := (S.2 3 (by decide)).1
theorem StS.k4 {h : sn_H} {b : Nat} (S : StS h b) : hK h (b + 4) = (1, 0, 12) := (S.2 3 (by decide)).2
theorem StS.f8 {h : sn_H} {b : Nat} (S : StS h b) : hR h b 8 = some (b + 5) := (S.2 4 (by decide)).1
theorem StS.k5 {h : sn_H} {b : Nat} (S : StS h b) : hK h (b + 5) = (1, 0, 12) := (S.2 4 (by decide)).2
theorem StS.f9 {h : sn_H} {b : Nat} (S : StS h b) : hR h b 9 = some (b + 6) := (S.2 5 (by decide)).1
theorem StS.k6 {h : sn_H} {b : Nat} (S : StS h b) : hK h (b + 6) = (1, 0, 24) := (S.2 5 (by decide)).2
theorem StS.f10 {h : sn_H} {b : Nat} (S : StS h b) : hR h b 10 = some (b + 7) := (S.2 6 (by decide)).1
theorem StS.k7 {h : sn_H} {b : Nat} (S : StS h b) : hK h (b + 7) = (1, 0, 24) := (S.2 6 (by decide)).2
theorem StS.f11 {h : sn_H} {b : Nat} (S : StS h b) : hR h b 11 = some (b + 8) := (S.2 7 (by decide)).1
theorem StS.k8 {h : sn_H} {b : Nat} (S : StS h b) : hK h (b + 8) = (1, 0, 24) := (S.2 7 (by decide)).2
theorem StS.f12 {h : sn_H} {b : Nat} (S : StS h b) : hR h b 12 = some (b + 9) := (S.2 8 (by decide)).1
theorem StS.k9 {h : sn_H} {b : Nat} (S : StS h b) : hK h (b + 9) = (1, 0, 288) := (S.2 8 (by decide)).2
theorem StS.f13 {h : sn_H} {b : Nat} (S : StS h b) : hR h b 13 = some (b + 10) := (S.2 9 (by decide)).1
theorem StS.k10 {h : sn_H} {b : Nat} (S : StS h b) : hK h (b + 10) = (1, 0, 96) := (S.2 9 (by decide)).2
abbrev bitI (x i : Int32) : Prop := ((x >>> (i &&& 31)) &&& nI 1) = nI 1
/-- start -/
def fStart (σ : sn_V) (i : Nat) : sn_V :=
  cpV (cpV (up (up (up (up σ 0 3 (σ 0 3 ||| (nI 1 <<< (nI i &&& 31)))) 6 i (σ 0 1)) 7 i (nI 0)) 8 i (nI 0)) 5 0 9 (i * 12) 12) 4 0 10 (i * 12) 12
theorem s_S_start {h : sn_H} {b i : Nat} {σ : sn_V} {Q : Option Value → sn_H → Prop} (A : StA h b σ) (hi : i < 8) (H : Q (some (.int (σ 0 1))) (hput h b (fStart σ i))) : wpE 15 0 [some (.ref b), some (.int (nI i))] [] h (0, 0) Q := by
  have ci : (nI i).toNatClampNeg = i := cl (by omega)
  have S := A.1
  refine r_S_start_0 S.1 S.f9 S.k6 (inb (by omega)) ?_
  refine r_S_start_22 S.1 S.f10 S.k7 S.f11 S.k8 S.f8 S.f12 S.k5 S.k9 S.f7 S.f13 S.k4 S.k10 (inb (by omega)) (inb (by omega)) (pk_mul i 12) (by omega) (by omega) (by omega) (pk_mul i 12) (by omega) (by omega) (by omega) ?_
  obtain ⟨h0, rfl⟩ := A.ex
  rw [hput_hput] at H
  simp only [ci, hput_set0, hput_set, hput_cp, hput_get0, hput_get, Nat.reduceLeDiff]
  exact H
/-- read -/
def fRead (σ : sn_V) (i k : Nat) : sn_V := up σ 7 i (σ 7 i ||| (nI 1 <<< (nI k &&& 31)))
theorem s_S_readKey {h : sn_H} {b i k : Nat} {σ : sn_V} {Q : Option Value → sn_H → Prop} (A : StA h b σ) (hi : i < 8) (hk : k < 12) (H1 : ¬ bitI (σ 8 i) (nI k) → Q (some (.int (σ 10 (i * 12 + k)))) (hput h b (fRead σ i k))) (H2 : bitI (σ 8 i) (nI k) → Q (some (.int (σ 10 (i * 12 + k)))) h) : wpE 20 0 [some (.ref b), some (.int (nI i)), some (.int (nI k))] [] h (0, 0) Q := by
  have ci : (nI i).toNatClampNeg = i := cl (by omega)
  have cik : (nI (i * 12 + k)).toNatClampNeg = i * 12 + k := cl (by omega)
  have S := A.1
  obtain ⟨h0, rfl⟩ := A.ex
  have e8 : hG (hput h0 b σ) (b + 8) i = σ 8 i := hput_get (by decide)
  refine r_S_readKey_0 S.1 S.f11 S.k8 S.f10 S.k7 S.f13 S.k10 (inb (by omega)) (fun _ => inb (by omega)) (fun _ => by rw [ixm]; exact inb (by omega)) ?_ (fun _ => by rw [ixm]; exact inb (by omega)) ?_
  · rw [ixm, ci, cik, e8]
    intro c
    have := H1 c
    rw [hput_hput] at this
    simp only [hput_set, hput_get, Nat.reduceLeDiff]
    exact this
  · rw [ixm, ci, cik, e8]
    intro c
    simp only [hput_get, Nat.reduceLeDiff]
    exact H2 c
/-- write -/
def fWrite (σ : sn_V) (i k : Nat) (v : Int32) : sn_V := up (up σ 8 i (σ 8 i ||| (nI 1 <<< (nI k &&& 31)))) 10 (i * 12 + k) v
/-- nothing lies behind the ends of the arrays -/
def stL0 (j : Nat) : Nat := match j with
  | 0 => 4
  | j + 1 => stLen j
def StZ (σ : sn_V) : Prop := ∀ j k, j ≤ 10 → stL0 j ≤ k → σ j k = 0
theorem StZ.upz {σ : sn_V} (h : StZ σ) {j k : Nat} {v : Int32} (hk : k < stL0 j) : StZ (up σ j k v) := by
  intro j' k' hj hk'
  unfold up
  rw [if_neg (fun z => by rw [z.1, z.2] at hk'; omega)]
  exact h j' k' hj hk'
theorem StZ.cpz {σ : sn_V} (h : StZ σ) {a s d t n : Nat} (hk : t + n ≤ stL0 d) : StZ (cpV σ a s d t n) := by
  intro j' k' hj hk'
  unfold cpV
  rw [if_neg (fun z => by rw [z.1] at hk'; omega)]
  exact h j' k' hj hk'
theorem nle_nI {a b : Nat} (h : ¬ nI a ≤ nI b) (ha : a < 2 ^ 31) (hb : b < 2 ^ 31) : b < a := by
  rcases Nat.lt_or_ge b a with q | q
  · exact q
  · exact absurd (nI_le q hb) h
/-- does the transaction of slot i overwrite newer versions? -/
def oNew (σ : sn_V) (i : Nat) : Prop := ∃ k, k < 12 ∧ bitP (σ 8 i) k ∧ σ 6 i < σ 5 k
theorem s_S_overwritesNewer {h : sn_H} {b i : Nat} {σ : sn_V} {Q : Option Value → sn_H → Prop} (A : StA h b σ) (hi : i < 8) (H1 : oNew σ i → Q (some (.int (nI 1))) h) (H2 : ¬ oNew σ i → Q (some (.int (nI 0))) h) : wpE 28 0 [some (.ref b), some (.int (nI i)), none] [] h (0, 0) Q := by
  have ci : (nI i).toNatClampNeg = i := cl (by omega)
  have S := A.1
  have key : ∀ n k, k + n = 12 → (∀ j, j < k → ¬ (bitP (σ 8 i) j ∧ σ 6 i < σ 5 j)) → wpE 28 2 [some (.ref b), some (.int (nI i)), some (.int (nI k))] [] h (0, 0) Q := by
    intro n
    induction n with
    | zero =>
      intro k hk hno
      have hk : k = 12 := by omega
      subst hk
      refine r_S_overwritesNewer_2 S.1 S.f11 S.k8 S.f8 S.k5 S.f9 S.k6 (fun _ => H2 ?_) (fun c => absurd (nI_le (Nat.le_refl 12) (by decide)) c) (fun c => absurd (nI_le (Nat.le_refl 12) (by decide)) c) (fun c => absurd (nI_le (Nat.le_refl 12) (by decide)) c) (fun c => absurd (nI_le (Nat.le_refl 12) (by decide)) c) (fun c => absurd (nI_le (Nat.le_refl 12) (by decide)) c) (fun c => absurd (nI_le (Nat.le_refl 12) (by decide)) c)
      rintro ⟨j, h1, h2⟩
      exact hno j h1 h2
    | succ n ih =>
      intro k hk hno
      have ck : (nI k).toNatClampNeg = k := cl (by omega)
      have hc : ¬ nI 12 ≤ nI k := nI_ge (by omega) (by decide)
      refine r_S_overwritesNewer_2 S.1 S.f11 S.k8 S.f8 S.k5 S.f9 S.k6 (fun c => absurd c hc) (fun _ => inb (by omega)) (fun _ c => ?_) (fun _ _ => inb (by omega)) (fun _ _ => inb (by omega)) (fun _ c c2 => ?_) (fun _ c c2 => ?_)
      · rw [nI_s]
        refine ih (k + 1) (by omega) (lt_s hno (fun z => c ?_))
        rw [ci, A.2 8 (by decide)]; exact z.1
      · rw [nI_s]
        refine ih (k + 1) (by omega) (lt_s hno (fun z => ?_))
        rw [ck, ci, A.2 5 (by decide), A.2 6 (by decide)] at c2
        exact Int32.not_lt.mpr c2 z.2
      · refine H1 ⟨k, by omega, ?_, ?_⟩
        · rw [ci, A.2 8 (by decide)] at c; exact c
        · rw [ck, ci, A.2 5 (by decide), A.2 6 (by decide)] at c2
          exact Int32.not_le.mp c2
  exact r_S_overwritesNewer_0 (key 12 0 rfl lt_0)
/-- a commit's loop over the keys -/
def fKC (σ : sn_V) (i n : Nat) : sn_V := fun j k => if j = 4 ∧ k < n ∧ bitP (σ 8 i) k then σ 10 (i * 12 + k) else if j = 5 ∧ k < n ∧ bitP (σ 8 i) k then σ 0 1 else σ j k
theorem fKC_0 {σ : sn_V} {i : Nat} : fKC σ i 0 = σ := by
  funext j k
  simp [fKC]
theorem fKC_t {σ : sn_V} {i n : Nat} (h : bitP (σ 8 i) n) : up (up (fKC σ i n) 4 n (σ 10 (i * 12 + n))) 5 n (σ 0 1) = fKC σ i (n + 1) := by
  funext j k
  simp only [up, fKC]
  by_cases hk : k = n
  · subst hk
    by_cases h4 : j = 4
    · subst h4; simp [h]
    · by_cases h5 : j = 5
      · subst h5; simp [h]
      · simp [h4, h5]
  · have : k < n + 1 ↔ k < n := by omega
    simp [hk, this]
theorem fKC_f {σ : sn_V} {i n : Nat} (h : ¬ bitP (σ 8 i) n) : fKC σ i n = fKC σ i (n + 1) := by
  funext j k
  simp only [fKC]
  by_cases hk : k = n
  · subst hk; simp [h]
  · have : k < n + 1 ↔ k < n := by omega
    simp [this]

theorem s_S_keepLoop {h : sn_H} {b i : Nat} {σ : sn_V} {Q : Option Value → sn_H → Prop} (S : StS h b) (hi : i < 8) (H : Q (some (.int (σ 0 1))) (hput h b (fKC σ i 12))) : ∀ (n k : Nat), k + n = 12 → wpE 43 83 [some (.ref b), some (.int (nI i)), none, some (.int (nI k))] [] (hput h b (fKC σ i k)) (0, 0) Q := by
  have ci : (nI i).toNatClampNeg = i := cl (by omega)
  have e8 : ∀ k, hG (hput h b (fKC σ i k)) (b + 8) i = σ 8 i := fun k => by rw [hput_get (by decide)]; rfl
  have e01 : ∀ k, hG (hput h b (fKC σ i k)) b 1 = σ 0 1 := fun k => by rw [hput_get0]; rfl
  intro n
  induction n with
  | zero =>
    intro k hk
    have hk : k = 12 := by omega
    subst hk
    have c0 : nI 12 ≤ nI 12 := nI_le (Nat.le_refl 12) (by decide)
    exact r_S_keepCommit_83 S.1 S.f11 S.k8 S.f7 S.f13 S.k10 S.k4 S.f8 S.k5 (fun _ => by rw [e01]; exact H) (fun c => absurd c0 c) (fun c => absurd c0 c) (fun c => absurd c0 c) (fun c => absurd c0 c) (fun c => absurd c0 c) (fun c => absurd c0 c)
  | succ n ih =>
    intro k hk
    have ck : (nI k).toNatClampNeg = k := cl (by omega)
    have cik : (nI (i * 12 + k)).toNatClampNeg = i * 12 + k := cl (by omega)
    have hc : ¬ nI 12 ≤ nI k := nI_ge (by omega) (by decide)
    refine r_S_keepCommit_83 S.1 S.f11 S.k8 S.f7 S.f13 S.k10 S.k4 S.f8 S.k5 (fun c => absurd c hc) (fun _ => inb (by omega)) (fun _ c => ?_) (fun _ _ => by rw [ixm]; exact inb (by omega)) (fun _ _ => inb (by omega)) (fun _ _ => inb (by omega)) (fun _ c => ?_)
    · rw [ci, e8] at c
      refine r_S_keepCommit_129 ?_
      rw [nI_s, fKC_f c]
      exact ih (k + 1) (by omega)
    · rw [ci, e8] at c
      refine r_S_keepCommit_129 ?_
      rw [nI_s, ixm, ck, cik]
      simp only [hput_set, hput_get, hput_get0, Nat.reduceLeDiff]
      have h9 := ih (k + 1) (by omega)
      rw [← fKC_t c] at h9
      exact h9

/-- commit: the row of the commit c + 1, then the loop -/
def fKeep0 (σ : sn_V) (i : Nat) : sn_V := up (up σ 0 3 (σ 0 3 &&& ((nI 1 <<< (nI i &&& 31)) ^^^ -(nI 1)))) 0 1 (σ 0 1 + nI 1)
def fKeep1 (σ : sn_V) (i r : Nat) : sn_V := cpV (up (up (up (fKeep0 σ i) 6 r (σ 6 i)) 7 r (σ 7 i)) 8 r (σ 8 i)) 9 (i * 12) 9 (r * 12) 12
def fKeep (σ : sn_V) (i r : Nat) : sn_V := fKC (fKeep1 σ i r) i 12
theorem row_of {c : Nat} (hc : c < 2 ^ 30) : nI 8 + ((nI c + nI 1 - nI 1) &&& nI 15) = nI (8 + c % 16) := by
  rw [nI_add, pk_sub (by omega), Nat.add_sub_cancel, show (nI 15 : Int32) = nI (2 ^ 4 - 1) from rfl, pk_andN (by omega) 4 (by decide), nI_add]
theorem s_S_keepCommit {h : sn_H} {b i c : Nat} {σ : sn_V} {Q : Option Value → sn_H → Prop} (A : StA h b σ) (hi : i < 8) (hc : c < 2 ^ 30) (hσ : σ 0 1 = nI c) (H : Q (some (.int (nI (c + 1)))) (hput h b (fKeep σ i (8 + c % 16)))) : wpE 43 0 [some (.ref b), some (.int (nI i)), none, none] [] h (0, 0) Q := by
  have ci : (nI i).toNatClampNeg = i := cl (by omega)
  have S := A.1
  have hr : 8 + c % 16 < 24 := by omega
  have cr : (nI (8 + c % 16)).toNatClampNeg = 8 + c % 16 := cl (by omega)
  obtain ⟨h0, rfl⟩ := A.ex
  refine r_S_keepCommit_0 S.1 ?_
  simp only [hput_set0, hput_get0]
  have e1 : up (up σ 0 3 (σ 0 3 &&& ((nI 1 <<< (nI i &&& 31)) ^^^ -(nI 1)))) 0 1 (up σ 0 3 (σ 0 3 &&& ((nI 1 <<< (nI i &&& 31)) ^^^ -(nI 1))) 0 1 + nI 1) = fKeep0 σ i := rfl
  rw [e1]
  have hrow : nI 8 + ((fKeep0 σ i 0 1 - nI 1) &&& nI 15) = nI (8 + c % 16) := by
    show nI 8 + ((σ 0 1 + nI 1 - nI 1) &&& nI 15) = _
    rw [hσ]; exact row_of hc
  refine r_S_keepCommit_15 S.1 S.f9 S.k6 S.f10 S.k7 (inb (by omega)) ?_ (inb (by omega)) ?_ ?_
  · rw [hput_get0, hrow]; exact inb (by omega)
  · rw [hput_get0, hrow]; exact inb (by omega)
  rw [hput_get0, hrow, cr, ci]
  simp only [hput_set, hput_get, Nat.reduceLeDiff]
  refine r_S_keepCommit_48 S.1 S.f11 S.k8 S.f12 S.k9 (inb (by omega)) (inb (by omega)) (pk_mul i 12) (by omega) (pk_mul (8 + c % 16) 12) (by omega) (by omega) (by omega) ?_
  rw [cr, ci]
  simp only [hput_set, hput_get, hput_cp, Nat.reduceLeDiff]
  have hne : ¬ i = 8 + c % 16 := by omega
  have e2 : cpV (up (up (up (fKeep0 σ i) 6 (8 + c % 16) (fKeep0 σ i 6 i)) 7 (8 + c % 16) (up (fKeep0 σ i) 6 (8 + c % 16) (fKeep0 σ i 6 i) 7 i)) 8 (8 + c % 16) (up (up (fKeep0 σ i) 6 (8 + c % 16) (fKeep0 σ i 6 i)) 7 (8 + c % 16) (up (fKeep0 σ i) 6 (8 + c % 16) (fKeep0 σ i 6 i) 7 i) 8 i)) 9 (i * 12) 9 ((8 + c % 16) * 12) 12 = fKeep1 σ i (8 + c % 16) := by
    rfl
  rw [e2]
  have h9 := s_S_keepLoop (h := h0) (b := b) (i := i) (σ := fKeep1 σ i (8 + c % 16)) (Q := Q) S hi (by
    have e3 : fKeep1 σ i (8 + c % 16) 0 1 = nI (c + 1) := by
      show σ 0 1 + nI 1 = _
      rw [hσ, nI_s]
    rw [e3]
    rw [hput_hput] at H
    exact H) 12 0 rfl
  rw [fKC_0] at h9
  exact h9
/-- dependencies -/
def dB1 (σ : sn_V) (ra : Nat) (a : Int32) (rb : Nat) (b : Int32) : Bool := decide (¬ b ≤ a) && decide (¬ (σ 8 ra &&& σ 8 rb) = 0)
def dB2 (σ : sn_V) (ra : Nat) (a : Int32) (rb n : Nat) : Bool := anyN (fun k => (decide (bitP (σ 8 ra) k) && decide (bitP (σ 7 rb) k)) && decide (σ 9 (rb * 12 + k) = a)) n
def dB3 (σ : sn_V) (ra rb : Nat) (b : Int32) (n : Nat) : Bool := anyN (fun k => (decide (bitP (σ 7 ra) k) && decide (bitP (σ 8 rb) k)) && decide (¬ b ≤ σ 9 (ra * 12 + k))) n
def dV (x y z : Bool) : Int32 := ((if x then nI 1 else nI 0) ||| (if y then nI 2 else nI 0)) ||| (if z then nI 4 else nI 0)
def dS (σ : sn_V) (ra : Nat) (a : Int32) (rb : Nat) (b : Int32) : Int32 := dV (dB1 σ ra a rb b) (dB2 σ ra a rb 12) (dB3 σ ra rb b 12)
theorem dV_2 (x z : Bool) (y : Bool) : dV x y z ||| nI 2 = dV x true z := by cases x <;> cases y <;> cases z <;> decide
theorem dV_4 (x y : Bool) (z : Bool) : dV x y z ||| nI 4 = dV x y true := by cases x <;> cases y <;> cases z <;> decide
theorem s_S_depLoop {h : sn_H} {b ra rb : Nat} {a bb : Int32} {σ : sn_V} {Q : Option Value → sn_H → Prop} (A : StA h b σ) (hra : ra < 24) (hrb : rb < 24) (x : Bool) (H : Q (some (.int (dV x (dB2 σ ra a rb 12) (dB3 σ ra rb bb 12)))) h) :
    ∀ (n k : Nat), k + n = 12 → wpE 34 73 [some (.ref b), some (.int (nI ra)), some (.int a), some (.int (nI rb)), some (.int bb), some (.int (dV x (dB2 σ ra a rb k) (dB3 σ ra rb bb k))), some (.int (σ 8 ra &&& σ 7 rb)), some (.int (σ 7 ra &&& σ 8 rb)), some (.int (nI k)), none] [] h (0, 0) Q := by
  have S := A.1
  intro n
  induction n with
  | zero =>
    intro k hk
    have hk : k = 12 := by omega
    subst hk
    have c0 : nI 12 ≤ nI 12 := nI_le (Nat.le_refl 12) (by decide)
    exact r_S_dependencySum_73 S.1 S.f12 S.k9 (fun _ => H) (fun c => absurd c0 c) (fun c => absurd c0 c) (fun c => absurd c0 c) (fun c => absurd c0 c) (fun c => absurd c0 c) (fun c => absurd c0 c) (fun c => absurd c0 c) (fun c => absurd c0 c) (fun c => absurd c0 c) (fun c => absurd c0 c) (fun c => absurd c0 c) (fun c => absurd c0 c) (fun c => absurd c0 c)
  | succ n ih =>
    intro k hk
    have hc : ¬ nI 12 ≤ nI k := nI_ge (by omega) (by decide)
    have ca : (nI (ra * 12 + k)).toNatClampNeg = ra * 12 + k := cl (by omega)
    have cb : (nI (rb * 12 + k)).toNatClampNeg = rb * 12 + k := cl (by omega)
    have h9 := ih (k + 1) (by omega)
    have ba : vp_in (nI ra * nI 12 + nI k) 288 := by rw [ixm]; exact inb (by omega)
    have bb2 : vp_in (nI rb * nI 12 + nI k) 288 := by rw [ixm]; exact inb (by omega)
    have ga : hG h (b + 9) (nI ra * nI 12 + nI k).toNatClampNeg = σ 9 (ra * 12 + k) := by rw [ixm, ca, A.2 9 (by decide)]
    have gb : hG h (b + 9) (nI rb * nI 12 + nI k).toNatClampNeg = σ 9 (rb * 12 + k) := by rw [ixm, cb, A.2 9 (by decide)]
    have t2 : ∀ z, ((decide (bitP (σ 8 ra) k) && decide (bitP (σ 7 rb) k)) && decide (σ 9 (rb * 12 + k) = a)) = z → dB2 σ ra a rb (k + 1) = (dB2 σ ra a rb k || z) := fun z hz => by rw [← hz]; rfl
    have t3 : ∀ z, ((decide (bitP (σ 7 ra) k) && decide (bitP (σ 8 rb) k)) && decide (¬ bb ≤ σ 9 (ra * 12 + k))) = z → dB3 σ ra rb bb (k + 1) = (dB3 σ ra rb bb k || z) := fun z hz => by rw [← hz]; rfl
    have n2 : (σ 8 ra &&& σ 7 rb) &&& (nI 1 <<< (nI k &&& 31)) = 0 → dB2 σ ra a rb (k + 1) = dB2 σ ra a rb k := fun c => by
      rw [and_bit (by omega), bitP_and (by omega)] at c
      rw [t2 false (by simp only [← Bool.decide_and, c, decide_false, Bool.false_and]), Bool.or_false]
    have n2' : ¬ (σ 9 (rb * 12 + k) = a) → dB2 σ ra a rb (k + 1) = dB2 σ ra a rb k := fun c => by
      rw [t2 false (by simp only [c, decide_false, Bool.and_false]), Bool.or_false]
    have y2 : ¬ (σ 8 ra &&& σ 7 rb) &&& (nI 1 <<< (nI k &&& 31)) = 0 → σ 9 (rb * 12 + k) = a → dB2 σ ra a rb (k + 1) = true := fun c c2 => by
      rw [and_bit (by omega), bitP_and (by omega), Classical.not_not] at c
      rw [t2 true (by rw [decide_eq_true c.1, decide_eq_true c.2, decide_eq_true c2]; rfl), Bool.or_true]
    have n3 : (σ 7 ra &&& σ 8 rb) &&& (nI 1 <<< (nI k &&& 31)) = 0 → dB3 σ ra rb bb (k + 1) = dB3 σ ra rb bb k := fun c => by
      rw [and_bit (by omega), bitP_and (by omega)] at c
      rw [t3 false (by simp only [← Bool.decide_and, c, decide_false, Bool.false_and]), Bool.or_false]
    have n3' : bb ≤ σ 9 (ra * 12 + k) → dB3 σ ra rb bb (k + 1) = dB3 σ ra rb bb k := fun c => by
      rw [t3 false (by simp only [c, not_true, decide_false, Bool.and_false]), Bool.or_false]
    have y3 : ¬ (σ 7 ra &&& σ 8 rb) &&& (nI 1 <<< (nI k &&& 31)) = 0 → ¬ bb ≤ σ 9 (ra * 12 + k) → dB3 σ ra rb bb (k + 1) = true := fun c c2 => by
      rw [and_bit (by omega), bitP_and (by omega), Classical.not_not] at c
      rw [t3 true (by rw [decide_eq_true c.1, decide_eq_true c.2, decide_eq_true c2]; rfl), Bool.or_true]
    refine r_S_dependencySum_73 S.1 S.f12 S.k9 (fun c => absurd c hc) (fun _ c1 c2 => ?_) (fun _ _ _ => ba) (fun _ c1 c2 c3 => ?_) (fun _ c1 c2 c3 => ?_) (fun _ _ => bb2) (fun _ c1 c2 c3 => ?_) (fun _ _ _ _ => ba) (fun _ c1 c2 c3 c4 => ?_) (fun _ c1 c2 c3 c4 => ?_) (fun _ c1 c2 c3 => ?_) (fun _ _ _ _ => ba) (fun _ c1 c2 c3 c4 => ?_) (fun _ c1 c2 c3 c4 => ?_)
    · rw [nI_s]; rw [n2 c1, n3 c2] at h9; exact h9
    · rw [ga] at c3; rw [nI_s]; rw [n2 c1, n3' c3] at h9; exact h9
    · rw [ga] at c3; rw [nI_s, dV_4]; rw [n2 c1, y3 c2 c3] at h9; exact h9
    · rw [gb] at c2; rw [nI_s]; rw [n2' c2, n3 c3] at h9; exact h9
    · rw [gb] at c2; rw [ga] at c4; rw [nI_s]; rw [n2' c2, n3' c4] at h9; exact h9
    · rw [gb] at c2; rw [ga] at c4; rw [nI_s, dV_4]; rw [n2' c2, y3 c3 c4] at h9; exact h9
    · rw [gb] at c2; rw [nI_s, dV_2]; rw [y2 c1 c2, n3 c3] at h9; exact h9
    · rw [gb] at c2; rw [ga] at c4; rw [nI_s, dV_2]; rw [y2 c1 c2, n3' c4] at h9; exact h9
    · rw [gb] at c2; rw [ga] at c4; rw [nI_s, dV_2, dV_4]; rw [y2 c1 c2, y3 c3 c4] at h9; exact h9
theorem s_S_dependencySum {h : sn_H} {b ra rb : Nat} {a bb : Int32} {σ : sn_V} {Q : Option Value → sn_H → Prop} (A : StA h b σ) (hra : ra < 24) (hrb : rb < 24) (H : Q (some (.int (dS σ ra a rb bb))) h) : wpE 34 0 [some (.ref b), some (.int (nI ra)), some (.int a), some (.int (nI rb)), some (.int bb), none, none, none, none, none] [] h (0, 0) Q := by
  have S := A.1
  have ca : (nI ra).toNatClampNeg = ra := cl (by omega)
  have cb : (nI rb).toNatClampNeg = rb := cl (by omega)
  have g8a : hG h (b + 8) ra = σ 8 ra := A.2 8 (by decide) _
  have g8b : hG h (b + 8) rb = σ 8 rb := A.2 8 (by decide) _
  have g7a : hG h (b + 7) ra = σ 7 ra := A.2 7 (by decide) _
  have g7b : hG h (b + 7) rb = σ 7 rb := A.2 7 (by decide) _
  have z0 : ∀ x, dV x (dB2 σ ra a rb 0) (dB3 σ ra rb bb 0) = if x then nI 1 else nI 0 := fun x => by
    show dV x false false = _
    cases x <;> decide
  have none' : ((σ 8 ra &&& σ 7 rb) ||| (σ 7 ra &&& σ 8 rb)) = 0 → dB2 σ ra a rb 12 = false ∧ dB3 σ ra rb bb 12 = false := by
    intro c
    obtain ⟨c1, c2⟩ := or_0 c
    refine ⟨anyN_f fun k hk => ?_, anyN_f fun k hk => ?_⟩
    · have : ¬ (bitP (σ 8 ra) k ∧ bitP (σ 7 rb) k) := by rw [← bitP_and (by omega), c1]; exact bitP_0 (by omega)
      simp only [← Bool.decide_and, this, decide_false, Bool.false_and]
    · have : ¬ (bitP (σ 7 ra) k ∧ bitP (σ 8 rb) k) := by rw [← bitP_and (by omega), c2]; exact bitP_0 (by omega)
      simp only [← Bool.decide_and, this, decide_false, Bool.false_and]
  have loop := fun x (hx : dB1 σ ra a rb bb = x) => s_S_depLoop (Q := Q) A hra hrb x (a := a) (bb := bb) (by unfold dS at H; rw [hx] at H; exact H) 12 0 rfl
  have i8a : vp_in (nI ra) 24 := inb (by omega)
  have i8b : vp_in (nI rb) 24 := inb (by omega)
  have b1f : ∀ _ : bb ≤ a, dB1 σ ra a rb bb = false := fun c => by simp [dB1, c]
  have b1f' : ∀ _ : (σ 8 ra &&& σ 8 rb) = 0, dB1 σ ra a rb bb = false := fun c => by simp [dB1, c]
  have b1t : ¬ bb ≤ a → ¬ (σ 8 ra &&& σ 8 rb) = 0 → dB1 σ ra a rb bb = true := fun c c2 => by simp only [dB1, c, c2, not_false_eq_true, decide_true, Bool.and_self]
  refine r_S_dependencySum_0 S.1 S.f11 S.k8 S.f10 S.k7 (fun _ => i8a) (fun _ => i8b) (fun _ => i8a) (fun _ => i8b) (fun c c2 => ?_) (fun c c2 => ?_) (fun _ => i8a) (fun _ => i8b) (fun _ _ => i8b) (fun _ _ => i8a) (fun c c1 c2 => ?_) (fun c c1 c2 => ?_) (fun _ _ => i8b) (fun _ _ => i8a) (fun c c1 c2 => ?_) (fun c c1 c2 => ?_)
  · rw [ca, cb, g8a, g8b, g7a, g7b]
    have := loop false (b1f c)
    rw [z0] at this
    exact this
  · rw [ca, cb, g8a, g8b, g7a, g7b] at c2
    obtain ⟨e1, e2⟩ := none' c2
    unfold dS at H
    rw [b1f c, e1, e2] at H
    exact H
  · rw [ca, cb, g8a, g8b] at c1
    rw [ca, cb, g8a, g8b, g7a, g7b]
    have := loop false (b1f' c1)
    rw [z0] at this
    exact this
  · rw [ca, cb, g8a, g8b] at c1
    rw [ca, cb, g8a, g8b, g7a, g7b] at c2
    obtain ⟨e1, e2⟩ := none' c2
    unfold dS at H
    rw [b1f' c1, e1, e2] at H
    exact H
  · rw [ca, cb, g8a, g8b] at c1
    rw [ca, cb, g8a, g8b, g7a, g7b]
    have := loop true (b1t c c1)
    rw [z0] at this
    exact this
  · rw [ca, cb, g8a, g8b] at c1
    rw [ca, cb, g8a, g8b, g7a, g7b] at c2
    obtain ⟨e1, e2⟩ := none' c2
    unfold dS at H
    rw [b1t c c1, e1, e2] at H
    exact H
/-- sums of keys -/
def sumK (m : Int32) (f : Nat → Int32) : Nat → Int32
  | 0 => nI 0
  | n + 1 => if bitP m n then sumK m f n + f n else sumK m f n
theorem s_S_constraintIsMet {h : sn_H} {b p fr n0 c : Nat} {σ : sn_V} {Q : Option Value → sn_H → Prop} (A : StA h b σ) (hp : hK h p = (1, 0, n0)) (hf : fr + 12 ≤ n0) (hn : n0 < 65536) (hc : c < 3) (H1 : sumK (σ 2 c) (fun k => hG h p (fr + k)) 12 < σ 3 c → Q (some (.int (nI 0))) h) (H2 : ¬ sumK (σ 2 c) (fun k => hG h p (fr + k)) 12 < σ 3 c → Q (some (.int (nI 1))) h) :
    wpE 64 0 [some (.ref b), some (.ref p), some (.int (nI fr)), some (.int (nI c)), none, none] [] h (0, 0) Q := by
  have S := A.1
  have cc : (nI c).toNatClampNeg = c := cl (by omega)
  have g2 : hG h (b + 2) c = σ 2 c := A.2 2 (by decide) _
  have g3 : hG h (b + 3) c = σ 3 c := A.2 3 (by decide) _
  have ic : vp_in (nI c) 3 := inb (by omega)
  have key : ∀ n k, k + n = 12 → wpE 64 6 [some (.ref b), some (.ref p), some (.int (nI fr)), some (.int (nI c)), some (.int (sumK (σ 2 c) (fun k => hG h p (fr + k)) k)), some (.int (nI k))] [] h (0, 0) Q := by
    intro n
    induction n with
    | zero =>
      intro k hk
      have hk : k = 12 := by omega
      subst hk
      have c0 : nI 12 ≤ nI 12 := nI_le (Nat.le_refl 12) (by decide)
      refine r_S_constraintIsMet_6 S.1 S.f6 S.k3 S.f5 S.k2 hp (fun _ => ic) (fun _ z => ?_) (fun _ z => ?_) (fun c => absurd c0 c) (fun c => absurd c0 c) (fun c => absurd c0 c) (fun c => absurd c0 c)
      · rw [cc, g3] at z; exact H1 z
      · rw [cc, g3] at z; exact H2 z
    | succ n ih =>
      intro k hk
      have hck : ¬ nI 12 ≤ nI k := nI_ge (by omega) (by decide)
      have h9 := ih (k + 1) (by omega)
      refine r_S_constraintIsMet_6 S.1 S.f6 S.k3 S.f5 S.k2 hp (fun c => absurd c hck) (fun c => absurd c hck) (fun c => absurd c hck) (fun _ => ic) (fun _ z => ?_) (fun _ _ => by rw [nI_add]; exact inb (by omega)) (fun _ z => ?_)
      · rw [cc, g2] at z
        unfold sumK at h9
        rw [if_neg z] at h9
        rw [nI_s]; exact h9
      · rw [cc, g2] at z
        unfold sumK at h9
        rw [if_pos z] at h9
        rw [nI_s, nI_add, cl (by omega)]; exact h9
  exact r_S_constraintIsMet_0 (key 12 0 rfl)
end
section
/-! ===== State's methods, two ===== -/
/-- what Integer.bitCount answers -/
def bcI (v0 : Int32) : Int32 := ((((((((v0 - ((v0.toUInt32 >>> ((nI 1).toUInt32 &&& Int32.toUInt32 31)).toInt32 &&& nI 1431655765)) &&& nI 858993459) + (((v0 - ((v0.toUInt32 >>> ((nI 1).toUInt32 &&& Int32.toUInt32 31)).toInt32 &&& nI 1431655765)).toUInt32 >>> ((nI 2).toUInt32 &&& Int32.toUInt32 31)).toInt32 &&& nI 858993459)) + ((((v0 - ((v0.toUInt32 >>> ((nI 1).toUInt32 &&& Int32.toUInt32 31)).toInt32 &&& nI 1431655765)) &&& nI 858993459) + (((v0 - ((v0.toUInt32 >>> ((nI 1).toUInt32 &&& Int32.toUInt32 31)).toInt32 &&& nI 1431655765)).toUInt32 >>> ((nI 2).toUInt32 &&& Int32.toUInt32 31)).toInt32 &&& nI 858993459)).toUInt32 >>> ((nI 4).toUInt32 &&& Int32.toUInt32 31)).toInt32) &&& nI 252645135) + ((((((v0 - ((v0.toUInt32 >>> ((nI 1).toUInt32 &&& Int32.toUInt32 31)).toInt32 &&& nI 1431655765)) &&& nI 858993459) + (((v0 - ((v0.toUInt32 >>> ((nI 1).toUInt32 &&& Int32.toUInt32 31)).toInt32 &&& nI 1431655765)).toUInt32 >>> ((nI 2).toUInt32 &&& Int32.toUInt32 31)).toInt32 &&& nI 858993459)) + ((((v0 - ((v0.toUInt32 >>> ((nI 1).toUInt32 &&& Int32.toUInt32 31)).toInt32 &&& nI 1431655765)) &&& nI 858993459) + (((v0 - ((v0.toUInt32 >>> ((nI 1).toUInt32 &&& Int32.toUInt32 31)).toInt32 &&& nI 1431655765)).toUInt32 >>> ((nI 2).toUInt32 &&& Int32.toUInt32 31)).toInt32 &&& nI 858993459)).toUInt32 >>> ((nI 4).toUInt32 &&& Int32.toUInt32 31)).toInt32) &&& nI 252645135).toUInt32 >>> ((nI 8).toUInt32 &&& Int32.toUInt32 31)).toInt32) + (((((((v0 - ((v0.toUInt32 >>> ((nI 1).toUInt32 &&& Int32.toUInt32 31)).toInt32 &&& nI 1431655765)) &&& nI 858993459) + (((v0 - ((v0.toUInt32 >>> ((nI 1).toUInt32 &&& Int32.toUInt32 31)).toInt32 &&& nI 1431655765)).toUInt32 >>> ((nI 2).toUInt32 &&& Int32.toUInt32 31)).toInt32 &&& nI 858993459)) + ((((v0 - ((v0.toUInt32 >>> ((nI 1).toUInt32 &&& Int32.toUInt32 31)).toInt32 &&& nI 1431655765)) &&& nI 858993459) + (((v0 - ((v0.toUInt32 >>> ((nI 1).toUInt32 &&& Int32.toUInt32 31)).toInt32 &&& nI 1431655765)).toUInt32 >>> ((nI 2).toUInt32 &&& Int32.toUInt32 31)).toInt32 &&& nI 858993459)).toUInt32 >>> ((nI 4).toUInt32 &&& Int32.toUInt32 31)).toInt32) &&& nI 252645135) + ((((((v0 - ((v0.toUInt32 >>> ((nI 1).toUInt32 &&& Int32.toUInt32 31)).toInt32 &&& nI 1431655765)) &&& nI 858993459) + (((v0 - ((v0.toUInt32 >>> ((nI 1).toUInt32 &&& Int32.toUInt32 31)).toInt32 &&& nI 1431655765)).toUInt32 >>> ((nI 2).toUInt32 &&& Int32.toUInt32 31)).toInt32 &&& nI 858993459)) + ((((v0 - ((v0.toUInt32 >>> ((nI 1).toUInt32 &&& Int32.toUInt32 31)).toInt32 &&& nI 1431655765)) &&& nI 858993459) + (((v0 - ((v0.toUInt32 >>> ((nI 1).toUInt32 &&& Int32.toUInt32 31)).toInt32 &&& nI 1431655765)).toUInt32 >>> ((nI 2).toUInt32 &&& Int32.toUInt32 31)).toInt32 &&& nI 858993459)).toUInt32 >>> ((nI 4).toUInt32 &&& Int32.toUInt32 31)).toInt32) &&& nI 252645135).toUInt32 >>> ((nI 8).toUInt32 &&& Int32.toUInt32 31)).toInt32).toUInt32 >>> ((nI 16).toUInt32 &&& Int32.toUInt32 31)).toInt32) &&& nI 63)
theorem s_I_bitCount {x : Int32} {h : sn_H} {Q : Option Value → sn_H → Prop} (H : Q (some (.int (bcI x))) h) : wpE 24 0 [some (.int x)] [] h (0, 0) Q := r_I_bitCount_0 H
/-- ones among the lowest n bits, as a number -/
def onesI (x : Int32) : Nat → Int32
  | 0 => nI 0
  | n + 1 => onesI x n + ((x >>> (nI n &&& 31)) &&& nI 1)
set_option maxRecDepth 100000 in
theorem bc_ones : ∀ w, w < 4096 → bcI (nI w) = onesI (nI w) 12 := by decide +kernel
theorem s_S_writeKey {h : sn_H} {b i k : Nat} {v : Int32} {σ : sn_V} {Q : Option Value → sn_H → Prop} (A : StA h b σ) (hi : i < 8) (hk : k < 12) (H : Q (some (.int (bcI (fWrite σ i k v 8 i)))) (hput h b (fWrite σ i k v))) : wpE 23 0 [some (.ref b), some (.int (nI i)), some (.int (nI k)), some (.int v)] [] h (0, 0) Q := by
  have ci : (nI i).toNatClampNeg = i := cl (by omega)
  have cik : (nI (i * 12 + k)).toNatClampNeg = i * 12 + k := cl (by omega)
  have S := A.1
  obtain ⟨h0, rfl⟩ := A.ex
  rw [hput_hput] at H
  refine r_S_writeKey_0 S.1 S.f11 S.k8 S.f13 S.k10 (inb (by omega)) (by rw [ixm]; exact inb (by omega)) ?_
  rw [ixm, ci, cik]
  simp only [hput_set, hput_get, Nat.reduceLeDiff]
  refine r_S_writeKey_24 S.1 S.f11 S.k8 (inb (by omega)) ?_
  rw [ci]
  simp only [hput_get, Nat.reduceLeDiff]
  exact s_I_bitCount (r_S_writeKey_33 H)
/-- abort -/
def fFree (σ : sn_V) (i : Nat) : sn_V := up σ 0 3 (σ 0 3 &&& ((nI 1 <<< (nI i &&& 31)) ^^^ -(nI 1)))
def fGive (σ : sn_V) (i : Nat) : sn_V := up (fFree σ i) 0 2 (σ 0 2 + nI 1)
theorem s_S_giveUp {h : sn_H} {b i : Nat} {σ : sn_V} {Q : Option Value → sn_H → Prop} (A : StA h b σ) (hi : i < 8) (H : Q (some (.int (bcI (σ 8 i)))) (hput h b (fGive σ i))) : wpE 45 0 [some (.ref b), some (.int (nI i))] [] h (0, 0) Q := by
  have ci : (nI i).toNatClampNeg = i := cl (by omega)
  have S := A.1
  obtain ⟨h0, rfl⟩ := A.ex
  rw [hput_hput] at H
  refine r_S_giveUp_0 S.1 ?_
  simp only [hput_set0, hput_get0]
  have e1 : up (up σ 0 3 (σ 0 3 &&& ((nI 1 <<< (nI i &&& 31)) ^^^ -(nI 1)))) 0 2 (up σ 0 3 (σ 0 3 &&& ((nI 1 <<< (nI i &&& 31)) ^^^ -(nI 1))) 0 2 + nI 1) = fGive σ i := rfl
  rw [e1]
  refine r_S_giveUp_15 S.1 S.f11 S.k8 (inb (by omega)) ?_
  rw [ci, hput_get (by decide)]
  exact s_I_bitCount (r_S_giveUp_24 H)
/-- a State takes another one's numbers -/
theorem hput_set0' {h : sn_H} {b k : Nat} {σ : sn_V} {v : Int32} : setG (hput h b σ) b k v = hput h b (up σ 0 k v) := hput_set0
def cpO (σ τ : sn_V) (j n : Nat) : sn_V := fun j' k' => if j' = j ∧ k' < n then τ j k' else σ j' k'
theorem hput_cpO {h : sn_H} {b b' j n : Nat} {σ τ : sn_V} (A : StA h b' τ) (hb : b' + 10 < b ∨ b + 10 < b') (hj : j ≤ 10) : cpG (hput h b σ) (b' + j) 0 (b + j) 0 n = hput h b (cpO σ τ j n) := by
  unfold hput cpG cpO
  simp only [Prod.mk.injEq, true_and]
  funext p i
  by_cases hp : b ≤ p ∧ p ≤ b + 10
  · simp only [hp, and_self, if_true]
    by_cases hq : p = b + j
    · subst hq
      simp only [Nat.add_sub_cancel_left, true_and, Nat.zero_add, Nat.zero_le, Nat.sub_zero]
      rw [if_neg (by omega : ¬ (b ≤ b' + j ∧ b' + j ≤ b + 10))]
      by_cases hi : i < n
      · rw [if_pos hi, if_pos hi]
        exact A.2 j hj i
      · rw [if_neg hi, if_neg hi]
    · rw [if_neg (fun z => hq z.1), if_neg (fun z => hq (by omega))]
  · rw [if_neg (fun z => hp (by omega)), if_neg hp, if_neg hp]
theorem fCopy_eq {σ τ : sn_V} (Z : StZ σ) (Z' : StZ τ) : ∀ j k, j ≤ 10 → cpO (cpO (cpO (cpO (cpO (cpO (cpO (cpO (cpO (cpO (up (up (up (up σ 0 0 (τ 0 0)) 0 1 (τ 0 1)) 0 2 (τ 0 2)) 0 3 (τ 0 3)) τ 1 4) τ 2 3) τ 3 3) τ 4 12) τ 5 12) τ 6 24) τ 7 24) τ 8 24) τ 9 288) τ 10 96 j k = τ j k := by
  intro j k hj
  by_cases hk : k < stL0 j
  · have : j = 0 ∨ j = 1 ∨ j = 2 ∨ j = 3 ∨ j = 4 ∨ j = 5 ∨ j = 6 ∨ j = 7 ∨ j = 8 ∨ j = 9 ∨ j = 10 := by omega
    rcases this with rfl | rfl | rfl | rfl | rfl | rfl | rfl | rfl | rfl | rfl | rfl
    · have hk : k < 4 := hk
      have : k = 0 ∨ k = 1 ∨ k = 2 ∨ k = 3 := by omega
      rcases this with rfl | rfl | rfl | rfl <;> rfl
    all_goals
      simp [stL0, stLen, sn_nth] at hk
      simp [cpO, hk]
  · have h1 : τ j k = 0 := Z' j k hj (by omega)
    have h2 : σ j k = 0 := Z j k hj (by omega)
    rw [h1]
    have : j = 0 ∨ j = 1 ∨ j = 2 ∨ j = 3 ∨ j = 4 ∨ j = 5 ∨ j = 6 ∨ j = 7 ∨ j = 8 ∨ j = 9 ∨ j = 10 := by omega
    rcases this with rfl | rfl | rfl | rfl | rfl | rfl | rfl | rfl | rfl | rfl | rfl
    · have hk : ¬ k < 4 := hk
      have e0 : ¬ k = 0 := by omega
      have e1 : ¬ k = 1 := by omega
      have e2 : ¬ k = 2 := by omega
      have e3 : ¬ k = 3 := by omega
      simp [cpO, up, e0, e1, e2, e3, h2]
    all_goals
      simp [stL0, stLen, sn_nth] at hk
      simp [cpO, up, hk, h2]
      try omega
theorem hput_cong {h : sn_H} {b : Nat} {σ τ : sn_V} (e : ∀ j k, j ≤ 10 → σ j k = τ j k) : hput h b σ = hput h b τ := by
  unfold hput
  simp only [Prod.mk.injEq, true_and]
  funext p k
  by_cases hp : b ≤ p ∧ p ≤ b + 10
  · rw [if_pos hp, if_pos hp, e _ _ (by omega)]
  · rw [if_neg hp, if_neg hp]
theorem s_S_copyFrom {h : sn_H} {b b' : Nat} {σ τ : sn_V} {Q : Option Value → sn_H → Prop} (A : StA h b σ) (A' : StA h b' τ) (hb : b' + 10 < b ∨ b + 10 < b') (Z : StZ σ) (Z' : StZ τ) (H : Q none (hput h b τ)) : wpE 7 0 [some (.ref b), some (.ref b')] [] h (0, 0) Q := by
  have S := A.1
  have S' := A'.1
  have g0 : ∀ (ρ : sn_V) k, hG (hput h b ρ) b' k = τ 0 k := fun ρ k => (hput_o (by omega)).trans (A'.2 0 (by decide) k)
  have hh := A.put
  have e0 : ∀ k, hG h b' k = τ 0 k := fun k => A'.2 0 (by decide) k
  refine r_S_copyFrom_0 S'.1 S.1 ?_
  have E : ∀ h1, h1 = hput h b σ → (setG (setG (setG h1 b 0 (hG h1 b' 0)) b 1 (hG (setG h1 b 0 (hG h1 b' 0)) b' 1)) b 2 (hG (setG (setG h1 b 0 (hG h1 b' 0)) b 1 (hG (setG h1 b 0 (hG h1 b' 0)) b' 1)) b' 2)) = hput h b (up (up (up σ 0 0 (τ 0 0)) 0 1 (τ 0 1)) 0 2 (τ 0 2)) := by
    intro h1 e1
    subst e1
    simp only [g0, hput_set0]
  rw [E h hh]
  refine r_S_copyFrom_24 S'.1 S.1 S'.f4 S.f4 S'.k1 S.k1 S'.f5 S.f5 S'.k2 S.k2 S'.f6 S.f6 S'.k3 S.k3 S'.f7 S.f7 S'.k4 S.k4 S'.f8 S.f8 S'.k5 S.k5 S'.f9 S.f9 S'.k6 S.k6 (by decide) (by decide) (by decide) (by decide) (by decide) (by decide) (by decide) (by decide) (by decide) (by decide) (by decide) (by decide) ?_
  simp only [g0, hput_set0, hput_cpO (j := 1) A' hb (by decide), hput_cpO (j := 2) A' hb (by decide), hput_cpO (j := 3) A' hb (by decide), hput_cpO (j := 4) A' hb (by decide), hput_cpO (j := 5) A' hb (by decide), hput_cpO (j := 6) A' hb (by decide)]
  refine r_S_copyFrom_119 S'.1 S'.f10 S.1 S.f10 S'.k7 S.k7 S'.f11 S.f11 S'.k8 S.k8 S'.f12 S.f12 S'.k9 S.k9 S'.f13 S.f13 S'.k10 S.k10 (by decide) (by decide) (by decide) (by decide) (by decide) (by decide) (by decide) (by decide) ?_
  simp only [hput_cpO (j := 7) A' hb (by decide), hput_cpO (j := 8) A' hb (by decide), hput_cpO (j := 9) A' hb (by decide), hput_cpO (j := 10) A' hb (by decide)]
  rw [hput_cong (fCopy_eq Z Z')]
  exact H
end
section
/-! ===== the Graph: its view, link, load, join ===== -/
def hpg (h : sn_H) (g : Nat) (γ : sn_V) : sn_H := (h.1, h.2.1, h.2.2.1, fun p k => if g ≤ p ∧ p ≤ g + 8 then γ (p - g) k else h.2.2.2 p k)
def grLen (j : Nat) : Nat := (sn_nth [17, 17, 289, 17, 17, 17, 17, 17] j).getD 0
def GrS (h : sn_H) (g : Nat) : Prop := hK h g = (0, 3, 10) ∧ ∀ j, j < 8 → hR h g (1 + j) = some (g + (1 + j)) ∧ hK h (g + (1 + j)) = (1, 0, grLen j)
def GrA (h : sn_H) (g : Nat) (γ : sn_V) : Prop := GrS h g ∧ ∀ j, j ≤ 8 → ∀ k, hG h (g + j) k = γ j k
theorem hpg_A {h : sn_H} {g : Nat} {γ : sn_V} (S : GrS h g) : GrA (hpg h g γ) g γ := ⟨S, fun j hj k => by
  show (if g ≤ g + j ∧ g + j ≤ g + 8 then γ (g + j - g) k else _) = _
  rw [if_pos (by omega), Nat.add_sub_cancel_left]⟩
theorem hpg_o {h : sn_H} {g p k : Nat} {γ : sn_V} (hp : ¬ (g ≤ p ∧ p ≤ g + 8)) : hG (hpg h g γ) p k = hG h p k := if_neg hp
theorem hpg_St {h : sn_H} {g b : Nat} {γ σ : sn_V} (A : StA h b σ) (hb : b + 10 < g ∨ g + 8 < b) : StA (hpg h g γ) b σ := ⟨A.1, fun j hj k => by rw [hpg_o (by omega)]; exact A.2 j hj k⟩
theorem hpg_hpg {h : sn_H} {g : Nat} {γ γ' : sn_V} : hpg (hpg h g γ) g γ' = hpg h g γ' := by
  unfold hpg
  simp only [Prod.mk.injEq, true_and]
  funext p k
  by_cases hp : g ≤ p ∧ p ≤ g + 8 <;> simp [hp]
theorem GrA.put {h : sn_H} {g : Nat} {γ : sn_V} (A : GrA h g γ) : h = hpg h g γ := by
  obtain ⟨n, kd, rf, gg⟩ := h
  unfold hpg
  simp only [Prod.mk.injEq, true_and]
  funext p k
  by_cases hp : g ≤ p ∧ p ≤ g + 8
  · rw [if_pos hp]
    have := A.2 (p - g) (by omega) k
    rw [show g + (p - g) = p by omega] at this
    exact this
  · rw [if_neg hp]
theorem hpg_get {h : sn_H} {g j k : Nat} {γ : sn_V} (hj : j ≤ 8) : hG (hpg h g γ) (g + j) k = γ j k := by
  show (if g ≤ g + j ∧ g + j ≤ g + 8 then γ (g + j - g) k else _) = _
  rw [if_pos (by omega), Nat.add_sub_cancel_left]
theorem hpg_get0 {h : sn_H} {g k : Nat} {γ : sn_V} : hG (hpg h g γ) g k = γ 0 k := hpg_get (j := 0) (by omega)
theorem hpg_set {h : sn_H} {g j k : Nat} {γ : sn_V} {v : Int32} (hj : j ≤ 8) : setG (hpg h g γ) (g + j) k v = hpg h g (up γ j k v) := by
  unfold hpg setG up
  simp only [Prod.mk.injEq, true_and]
  funext p i
  by_cases hp : g ≤ p ∧ p ≤ g + 8
  · simp only [hp, and_self, if_true]
    by_cases hq : p = g + j
    · subst hq; simp
    · rw [if_neg (fun z => hq z.1), if_neg (fun z => hq (by omega))]
  · rw [if_neg (fun z => hp (by omega)), if_neg hp, if_neg hp]
theorem hpg_set0 {h : sn_H} {g k : Nat} {γ : sn_V} {v : Int32} : setG (hpg h g γ) g k v = hpg h g (up γ 0 k v) := hpg_set (j := 0) (by omega)
theorem GrS.f1 {h : sn_H} {g : Nat} (S : GrS h g) : hR h g 1 = some (g + 1) ∧ hK h (g + 1) = (1, 0, 17) := S.2 0 (by decide)
theorem GrS.f2 {h : sn_H} {g : Nat} (S : GrS h g) : hR h g 2 = some (g + 2) ∧ hK h (g + 2) = (1, 0, 17) := S.2 1 (by decide)
theorem GrS.f3 {h : sn_H} {g : Nat} (S : GrS h g) : hR h g 3 = some (g + 3) ∧ hK h (g + 3) = (1, 0, 289) := S.2 2 (by decide)
theorem GrS.f4 {h : sn_H} {g : Nat} (S : GrS h g) : hR h g 4 = some (g + 4) ∧ hK h (g + 4) = (1, 0, 17) := S.2 3 (by decide)
theorem GrS.f5 {h : sn_H} {g : Nat} (S : GrS h g) : hR h g 5 = some (g + 5) ∧ hK h (g + 5) = (1, 0, 17) := S.2 4 (by decide)
theorem GrS.f6 {h : sn_H} {g : Nat} (S : GrS h g) : hR h g 6 = some (g + 6) ∧ hK h (g + 6) = (1, 0, 17) := S.2 5 (by decide)
theorem GrS.f7 {h : sn_H} {g : Nat} (S : GrS h g) : hR h g 7 = some (g + 7) ∧ hK h (g + 7) = (1, 0, 17) := S.2 6 (by decide)
theorem GrS.f8 {h : sn_H} {g : Nat} (S : GrS h g) : hR h g 8 = some (g + 8) ∧ hK h (g + 8) = (1, 0, 17) := S.2 7 (by decide)
theorem up_s {γ : sn_V} {j k : Nat} {v : Int32} : up γ j k v j k = v := by simp [up]
theorem up_n {γ : sn_V} {j k j' k' : Nat} {v : Int32} (h : ¬ (j' = j ∧ k' = k)) : up γ j k v j' k' = γ j' k' := if_neg h
/-- a dependency between nodes, told by rows and numbers -/
def ed (σ : sn_V) (nr nn : Nat → Nat) (i j : Nat) : Int32 := dS σ (nr i) (nI (nn i)) (nr j) (nI (nn j))
def o4 (σ : sn_V) (nr nn : Nat → Nat) (i j : Nat) : Prop := dB3 σ (nr i) (nr j) (nI (nn j)) 12 = true
theorem dV_0 (x y z : Bool) : dV x y z &&& nI 4 = 0 ↔ z = false := by cases x <;> cases y <;> cases z <;> decide
theorem ed_4 {σ : sn_V} {nr nn : Nat → Nat} {i j : Nat} : (ed σ nr nn i j &&& nI 4 = 0) ↔ ¬ o4 σ nr nn i j := by
  unfold ed dS o4
  rw [dV_0, Bool.not_eq_true]
/-- what the graph knows: n nodes, and the dependencies of the pairs that are done -/
def GG (γ σ : sn_V) (n : Nat) (nr nn : Nat → Nat) (dn : Nat → Nat → Prop) : Prop :=
  γ 0 0 = nI n ∧ ∀ i, i < n → γ 1 i = nI (nr i) ∧ γ 2 i = nI (nn i) ∧ (∀ j, j < 32 → (bitP (γ 4 i) j ↔ dn i j ∧ ¬ ed σ nr nn i j = 0)) ∧ (∀ j, j < 32 → (bitP (γ 5 i) j ↔ dn i j ∧ o4 σ nr nn i j)) ∧ ∀ j, dn i j → γ 3 (i * 17 + j) = ed σ nr nn i j
theorem GG.mono {γ σ : sn_V} {n : Nat} {nr nn : Nat → Nat} {dn dn' : Nat → Nat → Prop} (G : GG γ σ n nr nn dn) (e : ∀ i j, i < n → (dn i j ↔ dn' i j)) : GG γ σ n nr nn dn' :=
  ⟨G.1, fun i hi => ⟨(G.2 i hi).1, (G.2 i hi).2.1, fun j hj => by rw [← e i j hi]; exact (G.2 i hi).2.2.1 j hj, fun j hj => by rw [← e i j hi]; exact (G.2 i hi).2.2.2.1 j hj, fun j hj => (G.2 i hi).2.2.2.2 j ((e i j hi).mpr hj)⟩⟩
theorem s_G_link {h : sn_H} {g b n a d : Nat} {γ σ : sn_V} {nr nn : Nat → Nat} {dn : Nat → Nat → Prop} {Q : Option Value → sn_H → Prop} (S : GrS h g) (A : StA h b σ) (hb : b + 10 < g ∨ g + 8 < b) (hn : n ≤ 17) (hnr : ∀ i, i < n → nr i < 24) (hdn : ∀ i j, dn i j → j < n) (G : GG γ σ n nr nn dn) (ha : a < n) (hd : d < n)
    (H : ∀ γ', GG γ' σ n nr nn (fun i j => dn i j ∨ (i = a ∧ j = d)) → Q none (hpg h g γ')) : wpE 33 0 [some (.ref g), some (.ref b), some (.int (nI a)), some (.int (nI d)), none] [] (hpg h g γ) (0, 0) Q := by
  have ca : (nI a).toNatClampNeg = a := cl (by omega)
  have cd : (nI d).toNatClampNeg = d := cl (by omega)
  have cad : (nI (a * 17 + d)).toNatClampNeg = a * 17 + d := cl (by omega)
  have ix : nI a * nI 17 + nI d = nI (a * 17 + d) := by rw [pk_mul, nI_add]
  have A2 : StA (hpg h g γ) b σ := hpg_St A hb
  obtain ⟨g1, g2, g3, g4, g5⟩ := G.2 a ha
  obtain ⟨d1, d2, -, -, -⟩ := G.2 d hd
  refine r_G_link_0 S.1 S.f1.1 S.f1.2 S.f2.1 S.f2.2 A.1.1 (inb (by omega)) (inb (by omega)) (inb (by omega)) (inb (by omega)) ?_
  rw [ca, cd, hpg_get (by decide), hpg_get (by decide), hpg_get (by decide), hpg_get (by decide), g1, g2, d1, d2]
  refine s_S_dependencySum A2 (hnr a ha) (hnr d hd) ?_
  show wpE 33 28 [some (.ref g), none, some (.int (nI a)), some (.int (nI d)), none] [.int (ed σ nr nn a d)] (hpg h g γ) (0, 0) Q
  generalize hs : ed σ nr nn a d = s0
  -- what the end must show
  have fin : ∀ γ', (∀ j k, ¬ (j = 3 ∨ j = 4 ∨ j = 5) → γ' j k = γ j k) → (∀ k, k ≠ a → γ' 4 k = γ 4 k ∧ γ' 5 k = γ 5 k) → (∀ k, k ≠ a * 17 + d → γ' 3 k = γ 3 k) → γ' 3 (a * 17 + d) = s0 →
      γ' 4 a = (if s0 = 0 then γ 4 a else γ 4 a ||| (nI 1 <<< (nI d &&& 31))) → γ' 5 a = (if (s0 &&& nI 4) = 0 then γ 5 a else γ 5 a ||| (nI 1 <<< (nI d &&& 31))) → Q none (hpg h g γ') := by
    intro γ' f0 f1 f3 f3' f4 f5
    refine H γ' ⟨by rw [f0 0 0 (by omega)]; exact G.1, fun i hi => ?_⟩
    obtain ⟨w1, w2, w3, w4, w5⟩ := G.2 i hi
    refine ⟨by rw [f0 1 i (by omega)]; exact w1, by rw [f0 2 i (by omega)]; exact w2, fun j hj => ?_, fun j hj => ?_, fun j hj => ?_⟩
    · by_cases hia : i = a
      · subst hia
        rw [f4]
        by_cases z : s0 = 0
        · rw [if_pos z, w3 j hj]
          constructor
          · exact fun q => ⟨Or.inl q.1, q.2⟩
          · rintro ⟨q | ⟨-, q⟩, q2⟩
            · exact ⟨q, q2⟩
            · rw [q, hs] at q2; exact absurd z q2
        · rw [if_neg z, bitP_put (by omega) (by omega), w3 j hj]
          constructor
          · rintro (q | q)
            · exact ⟨Or.inl q.1, q.2⟩
            · exact ⟨Or.inr ⟨rfl, q⟩, by rw [q, hs]; exact z⟩
          · rintro ⟨q | ⟨-, q⟩, q2⟩
            · exact Or.inl ⟨q, q2⟩
            · exact Or.inr q
      · rw [(f1 i hia).1, w3 j hj]
        simp [hia]
    · have h4 : (s0 &&& nI 4 = 0) ↔ ¬ o4 σ nr nn a d := by rw [← hs]; exact ed_4
      by_cases hia : i = a
      · subst hia
        rw [f5]
        by_cases z : s0 &&& nI 4 = 0
        · rw [if_pos z, w4 j hj]
          constructor
          · exact fun q => ⟨Or.inl q.1, q.2⟩
          · rintro ⟨q | ⟨-, q⟩, q2⟩
            · exact ⟨q, q2⟩
            · rw [q] at q2; exact absurd q2 (h4.mp z)
        · rw [if_neg z, bitP_put (by omega) (by omega), w4 j hj]
          constructor
          · rintro (q | q)
            · exact ⟨Or.inl q.1, q.2⟩
            · exact ⟨Or.inr ⟨rfl, q⟩, by rw [q]; exact Classical.not_not.mp (fun y => z (h4.mpr y))⟩
          · rintro ⟨q | ⟨-, q⟩, q2⟩
            · exact Or.inl ⟨q, q2⟩
            · exact Or.inr q
      · rw [(f1 i hia).2, w4 j hj]
        simp [hia]
    · rcases hj with q | ⟨q1, q2⟩
      · by_cases e : i * 17 + j = a * 17 + d
        · have hj1 := hdn i j q
          have hia : i = a := by omega
          have hjd : j = d := by omega
          rw [e, f3', ← hs, hia, hjd]
        · rw [f3 _ e]; exact w5 j q
      · rw [q1, q2, f3', ← hs]
  have step60 : ∀ γ1, (∀ j k, ¬ (j = 3 ∨ j = 4) → γ1 j k = γ j k) → (∀ k, k ≠ a → γ1 4 k = γ 4 k) → (∀ k, k ≠ a * 17 + d → γ1 3 k = γ 3 k) → γ1 3 (a * 17 + d) = s0 → γ1 4 a = (if s0 = 0 then γ 4 a else γ 4 a ||| (nI 1 <<< (nI d &&& 31))) →
      wpE 33 60 [some (.ref g), none, some (.int (nI a)), some (.int (nI d)), some (.int s0)] [] (hpg h g γ1) (0, 0) Q := by
    intro γ1 f0 f1 f3 f3' f4
    refine r_G_link_60 S.1 S.f5.1 S.f5.2 (fun z => ?_) (fun _ => inb (by omega)) (fun z => ?_)
    · exact fin γ1 (fun j k hj => f0 j k (by omega)) (fun k hk => ⟨f1 k hk, f0 5 k (by omega)⟩) f3 f3' f4 (by rw [if_pos z]; exact f0 5 a (by omega))
    · rw [ca, hpg_get (by decide), hpg_set (by decide)]
      refine fin _ (fun j k hj => ?_) (fun k hk => ⟨?_, ?_⟩) (fun k hk => ?_) ?_ ?_ ?_
      · rw [up_n (by omega)]; exact f0 j k (by omega)
      · rw [up_n (by omega)]; exact f1 k hk
      · rw [up_n (by omega)]; exact f0 5 k (by omega)
      · rw [up_n (by omega)]; exact f3 k hk
      · rw [up_n (by omega)]; exact f3'
      · rw [up_n (by omega)]; exact f4
      · rw [up_s, if_neg z, f0 5 a (by omega)]
  refine r_G_link_28 S.1 S.f3.1 S.f3.2 S.f4.1 S.f4.2 (by rw [ix]; exact inb (by omega)) (fun z => ?_) (fun _ => inb (by omega)) (fun z => ?_)
  · rw [ix, cad, hpg_set (by decide)]
    refine step60 _ (fun j k hj => up_n (by omega)) (fun k hk => up_n (by omega)) (fun k hk => up_n (by omega)) up_s ?_
    rw [up_n (by omega), if_pos z]
  · rw [ix, cad, ca, hpg_set (by decide), hpg_get (by decide), hpg_set (by decide)]
    refine step60 _ (fun j k hj => ?_) (fun k hk => ?_) (fun k hk => ?_) ?_ ?_
    · rw [up_n (by omega), up_n (by omega)]
    · rw [up_n (by omega), up_n (by omega)]
    · rw [up_n (by omega), up_n (by omega)]
    · rw [up_n (by omega), up_s]
    · rw [up_s, if_neg z, up_n (by omega)]
end
section
/-! ===== the Graph: load, join ===== -/
def nrC (c n i : Nat) : Nat := 8 + (c - n + i) % 16
def nnC (c n i : Nat) : Nat := c - n + 1 + i
def dnA (n i j : Nat) : Prop := i < n ∧ j < n ∧ i ≠ j
def dnP (n a d i j : Nat) : Prop := i < n ∧ j < n ∧ i ≠ j ∧ (i < a ∨ (i = a ∧ j < d))
theorem bitP_n0 {k : Nat} (hk : k < 32) : ¬ bitP (nI 0) k := by rw [nI_0]; exact bitP_0 hk
theorem s_G_loadLoop {h : sn_H} {g b n c : Nat} {σ : sn_V} {Q : Option Value → sn_H → Prop} (S : GrS h g) (A : StA h b σ) (hb : b + 10 < g ∨ g + 8 < b) (hc : c < 2 ^ 30) (hn : n ≤ 16) (hnc : n ≤ c)
    (H : ∀ γ, GG γ σ n (nrC c n) (nnC c n) (fun _ _ => False) → wpE 29 53 [some (.ref g), some (.ref b), none, some (.int (nI 0)), none] [] (hpg h g γ) (0, 0) Q) :
    ∀ (m i : Nat) (γ : sn_V), i + m = n → γ 0 0 = nI n → (∀ k, k < i → γ 1 k = nI (nrC c n k) ∧ γ 2 k = nI (nnC c n k) ∧ γ 4 k = nI 0 ∧ γ 5 k = nI 0) →
      wpE 29 22 [some (.ref g), some (.ref b), some (.int (nI (c - n + 1))), some (.int (nI i)), none] [] (hpg h g γ) (0, 0) Q := by
  intro m
  induction m with
  | zero =>
    intro i γ hi h0 hk
    have hin : i = n := by omega
    subst hin
    refine r_G_load_22 S.1 (hpg_St A hb).1.1 S.f1.1 S.f1.2 S.f2.1 S.f2.2 S.f4.1 S.f4.2 S.f5.1 S.f5.2 (fun _ => ?_) (fun z => ?_) (fun z => ?_) (fun z => ?_) (fun z => ?_) (fun z => ?_)
    · refine H γ ⟨h0, fun k hk' => ?_⟩
      obtain ⟨w1, w2, w3, w4⟩ := hk k hk'
      refine ⟨w1, w2, fun j hj => ?_, fun j hj => ?_, fun j hj => hj.elim⟩
      · rw [w3]; simp [bitP_n0 hj]
      · rw [w4]; simp [bitP_n0 hj]
    all_goals (rw [hpg_get0, h0] at z; have := nle_nI z (by omega) (by omega); omega)
  | succ m ih =>
    intro i γ hi h0 hk
    have e1 : nI (c - n + 1) + nI i = nI (nnC c n i) := by rw [nI_add]; rfl
    have e2 : nI 8 + ((nI (c - n + 1) + nI i - nI 1) &&& nI 15) = nI (nrC c n i) := by
      have r := row_of (c := c - n + i) (by omega)
      rw [nI_s (c - n + i), show c - n + i + 1 = nnC c n i by unfold nnC; omega] at r
      rw [e1]
      unfold nrC
      exact r
    refine r_G_load_22 S.1 (hpg_St A hb).1.1 S.f1.1 S.f1.2 S.f2.1 S.f2.2 S.f4.1 S.f4.2 S.f5.1 S.f5.2 (fun z => ?_) (fun _ => inb (by omega)) (fun _ => inb (by omega)) (fun _ => inb (by omega)) (fun _ => inb (by omega)) (fun _ => ?_)
    · rw [hpg_get0, h0] at z
      exact absurd z (nI_ge (by omega) (by omega))
    · rw [cl (by omega : i < 2 ^ 31), e2, e1, nI_s, hpg_set (by decide), hpg_set (by decide), hpg_set (by decide), hpg_set (by decide)]
      refine r_G_load_48 (ih (i + 1) _ (by omega) ?_ (fun k hk' => ?_))
      · rw [up_n (by omega), up_n (by omega), up_n (by omega), up_n (by omega)]; exact h0
      · by_cases q : k = i
        · subst q
          refine ⟨?_, ?_, ?_, ?_⟩
          · rw [up_n (by omega), up_n (by omega), up_n (by omega), up_s]
          · rw [up_n (by omega), up_n (by omega), up_s]
          · rw [up_n (by omega), up_s]
          · rw [up_s]
        · obtain ⟨w1, w2, w3, w4⟩ := hk k (by omega)
          refine ⟨?_, ?_, ?_, ?_⟩
          · rw [up_n (by omega), up_n (by omega), up_n (by omega), up_n (by omega)]; exact w1
          · rw [up_n (by omega), up_n (by omega), up_n (by omega), up_n (by omega)]; exact w2
          · rw [up_n (by omega), up_n (by omega), up_n (by omega), up_n (by omega)]; exact w3
          · rw [up_n (by omega), up_n (by omega), up_n (by omega), up_n (by omega)]; exact w4
theorem s_G_pairs {h : sn_H} {g b n : Nat} {σ : sn_V} {nr nn : Nat → Nat} {Q : Option Value → sn_H → Prop} (S : GrS h g) (A : StA h b σ) (hb : b + 10 < g ∨ g + 8 < b) (hn : n ≤ 17) (hnr : ∀ i, i < n → nr i < 24) (i : Nat) (hi : i < n)
    (H : ∀ γ, GG γ σ n nr nn (dnP n (i + 1) 0) → wpE 29 53 [some (.ref g), some (.ref b), none, some (.int (nI (i + 1))), none] [] (hpg h g γ) (0, 0) Q) :
    ∀ (m j : Nat) (γ : sn_V), j + m = n → GG γ σ n nr nn (dnP n i j) → wpE 29 64 [some (.ref g), some (.ref b), none, some (.int (nI i)), some (.int (nI j))] [] (hpg h g γ) (0, 0) Q := by
  intro m
  induction m with
  | zero =>
    intro j γ hj G
    have hjn : j = n := by omega
    subst hjn
    refine r_G_load_64 S.1 (fun _ => ?_) (fun z => ?_) (fun z => ?_)
    · rw [nI_s]
      exact H γ (G.mono (fun x y hx => by unfold dnP; omega))
    all_goals (rw [hpg_get0, G.1] at z; have := nle_nI z (by omega) (by omega); omega)
  | succ m ih =>
    intro j γ hj G
    refine r_G_load_64 S.1 (fun z => ?_) (fun _ z => ?_) (fun _ z => ?_)
    · rw [hpg_get0, G.1] at z
      exact absurd z (nI_ge (by omega) (by omega))
    · have hij : i = j := (nI_eq (by omega) (by omega)).mp z
      rw [nI_s]
      exact ih (j + 1) γ (by omega) (G.mono (fun x y hx => by unfold dnP; omega))
    · have hij : ¬ i = j := fun q => z (by rw [q])
      refine s_G_link (b := b) (dn := dnP n i j) S A hb hn hnr (fun x y q => q.2.1) G hi (by omega) (fun γ' G' => ?_)
      refine r_G_load_87 ?_
      rw [nI_s]
      exact ih (j + 1) γ' (by omega) (G'.mono (fun x y hx => by unfold dnP; omega))
theorem s_G_rows {h : sn_H} {g b n : Nat} {σ : sn_V} {nr nn : Nat → Nat} {Q : Option Value → sn_H → Prop} (S : GrS h g) (A : StA h b σ) (hb : b + 10 < g ∨ g + 8 < b) (hn : n ≤ 17) (hnr : ∀ i, i < n → nr i < 24)
    (H : ∀ γ, GG γ σ n nr nn (dnA n) → Q none (hpg h g γ)) :
    ∀ (m i : Nat) (γ : sn_V), i + m = n → GG γ σ n nr nn (dnP n i 0) → wpE 29 53 [some (.ref g), some (.ref b), none, some (.int (nI i)), none] [] (hpg h g γ) (0, 0) Q := by
  intro m
  induction m with
  | zero =>
    intro i γ hi G
    have hin : i = n := by omega
    subst hin
    refine r_G_load_53 S.1 (fun _ => ?_) (fun z => ?_)
    · exact H γ (G.mono (fun x y hx => by unfold dnP dnA; omega))
    · rw [hpg_get0, G.1] at z
      have := nle_nI z (by omega) (by omega)
      omega
  | succ m ih =>
    intro i γ hi G
    refine r_G_load_53 S.1 (fun z => ?_) (fun _ => ?_)
    · rw [hpg_get0, G.1] at z
      exact absurd z (nI_ge (by omega) (by omega))
    · exact s_G_pairs S A hb hn hnr i (by omega) (fun γ' G' => ih (i + 1) γ' (by omega) G') n 0 γ (by omega) G
theorem min16 {c : Nat} (hc : c < 2 ^ 30) : (if nI 16 < nI c then nI 16 else nI c) = nI (min 16 c) := by
  by_cases q : 16 < c
  · rw [if_pos, Nat.min_eq_left (by omega)]
    exact Int32.not_le.mp (nI_ge q (by omega))
  · rw [if_neg, Nat.min_eq_right (by omega)]
    exact Int32.not_lt.mpr (nI_le (by omega) (by omega))
theorem s_G_load {h : sn_H} {g b c : Nat} {γ σ : sn_V} {Q : Option Value → sn_H → Prop} (S : GrS h g) (A : StA h b σ) (hb : b + 10 < g ∨ g + 8 < b) (hσ : σ 0 1 = nI c) (hc : c < 2 ^ 30)
    (H : ∀ γ, GG γ σ (min 16 c) (nrC c (min 16 c)) (nnC c (min 16 c)) (dnA (min 16 c)) → Q none (hpg h g γ)) : wpE 29 0 [some (.ref g), some (.ref b), none, none, none] [] (hpg h g γ) (0, 0) Q := by
  have c1 : ∀ γ, hG (hpg h g γ) b 1 = nI c := fun γ => ((hpg_St A hb).2 0 (by omega) 1).trans hσ
  have e : nI c - nI (min 16 c) + nI 1 = nI (c - min 16 c + 1) := by
    rw [show nI c = nI (c - min 16 c) + nI (min 16 c) by rw [nI_add]; congr 1; omega, Int32.add_sub_cancel, nI_s]
  refine r_G_load_0 (hpg_St A hb).1.1 S.1 ?_
  rw [c1, min16 hc, hpg_set0, c1, hpg_get0, up_s, e]
  refine s_G_loadLoop S A hb hc (by omega) (by omega) (fun γ' G' => ?_) (min 16 c) 0 _ (by omega) up_s (fun k hk => by omega)
  exact s_G_rows S A hb (by omega) (fun i hi => by unfold nrC; omega) H (min 16 c) 0 γ' (by omega) (G'.mono (fun x y hx => ⟨False.elim, fun q => by unfold dnP at q; omega⟩))
def nrJ (n s : Nat) (nr : Nat → Nat) (i : Nat) : Nat := if i = n then s else nr i
def dnJ (n a i j : Nat) : Prop := dnA n i j ∨ (j = n ∧ i < a) ∨ (i = n ∧ j < a)
theorem s_G_joinLoop {h : sn_H} {g b n : Nat} {σ : sn_V} {nr nn : Nat → Nat} {Q : Option Value → sn_H → Prop} (S : GrS h g) (A : StA h b σ) (hb : b + 10 < g ∨ g + 8 < b) (hn : n ≤ 16) (hnr : ∀ i, i < n + 1 → nr i < 24)
    (H : ∀ γ, GG γ σ (n + 1) nr nn (dnA (n + 1)) → Q none (hpg h g γ)) :
    ∀ (m i : Nat) (γ : sn_V), i + m = n → GG γ σ (n + 1) nr nn (dnJ n i) → wpE 35 40 [some (.ref g), some (.ref b), none, some (.int (nI n)), some (.int (nI i))] [] (hpg h g γ) (0, 0) Q := by
  intro m
  induction m with
  | zero =>
    intro i γ hi G
    have hin : i = n := by omega
    subst hin
    refine r_G_join_40 S.1 (fun _ => ?_) (fun z => ?_)
    · exact H γ (G.mono (fun x y hx => by unfold dnJ dnA; omega))
    · have := nle_nI z (by omega) (by omega)
      omega
  | succ m ih =>
    intro i γ hi G
    refine r_G_join_40 S.1 (fun z => ?_) (fun _ => ?_)
    · exact absurd z (nI_ge (by omega) (by omega))
    · refine s_G_link (dn := dnJ n i) S A hb (by omega) hnr (fun x y q => by unfold dnJ dnA at q; omega) G (by omega) (by omega) (fun γ' G' => ?_)
      refine r_G_join_54 S.1 ?_
      refine s_G_link S A hb (by omega) hnr (fun x y q => by unfold dnJ dnA at q; omega) G' (by omega) (by omega) (fun γ2 G2 => ?_)
      refine r_G_join_62 ?_
      rw [nI_s]
      exact ih (i + 1) γ2 (by omega) (G2.mono (fun x y hx => by unfold dnJ dnA; omega))
theorem s_G_join {h : sn_H} {g b n c s : Nat} {γ σ : sn_V} {nr nn : Nat → Nat} {Q : Option Value → sn_H → Prop} (S : GrS h g) (A : StA h b σ) (hb : b + 10 < g ∨ g + 8 < b) (hn : n ≤ 16) (hnr : ∀ i, i < n → nr i < 24) (hs : s < 24) (hσ : σ 0 1 = nI c) (G : GG γ σ n nr nn (dnA n))
    (H : ∀ γ, GG γ σ (n + 1) (nrJ n s nr) (nrJ n (c + 1) nn) (dnA (n + 1)) → Q none (hpg h g γ)) : wpE 35 0 [some (.ref g), some (.ref b), some (.int (nI s)), none, none] [] (hpg h g γ) (0, 0) Q := by
  have c1 : ∀ γ, hG (hpg h g γ) b 1 = nI c := fun γ => ((hpg_St A hb).2 0 (by omega) 1).trans hσ
  have hn0 : hG (hpg h g γ) g 0 = nI n := by rw [hpg_get0]; exact G.1
  refine r_G_join_0 S.1 (hpg_St A hb).1.1 S.f1.1 S.f1.2 S.f2.1 S.f2.2 S.f4.1 S.f4.2 S.f5.1 S.f5.2 (fun _ => ?_) (fun _ => ?_) (fun _ => ?_) (fun _ => ?_) (fun _ => ?_) (fun z => ?_)
  case _ => rw [hn0]; exact inb (by omega)
  case _ => rw [hn0]; exact inb (by omega)
  case _ => rw [hn0]; exact inb (by omega)
  case _ => rw [hn0]; exact inb (by omega)
  case _ =>
    rw [hn0, cl (by omega : n < 2 ^ 31), hpg_set0, c1, nI_s, nI_s, hpg_set (by decide), hpg_set (by decide), hpg_set (by decide), hpg_set (by decide)]
    refine s_G_joinLoop (nr := nrJ n s nr) (nn := nrJ n (c + 1) nn) S A hb hn (fun i hi => ?_) H n 0 _ (by omega) ⟨?_, fun i hi => ?_⟩
    · unfold nrJ; split
      · exact hs
      · exact hnr i (by omega)
    · rw [up_n (by omega), up_n (by omega), up_n (by omega), up_n (by omega), up_s]
    · by_cases q : i = n
      · subst q
        refine ⟨?_, ?_, fun j hj => ?_, fun j hj => ?_, fun j hj => ?_⟩
        · rw [up_n (by omega), up_n (by omega), up_n (by omega), up_s]; simp [nrJ]
        · rw [up_n (by omega), up_n (by omega), up_s]; simp [nrJ]
        · rw [up_n (by omega), up_s]
          exact ⟨fun z => absurd z (bitP_n0 (by omega)), fun z => by unfold dnJ dnA at z; omega⟩
        · rw [up_s]
          exact ⟨fun z => absurd z (bitP_n0 (by omega)), fun z => by unfold dnJ dnA at z; omega⟩
        · unfold dnJ dnA at hj; omega
      · obtain ⟨w1, w2, w3, w4, w5⟩ := G.2 i (by omega)
        have ee : ∀ j, j < n → ed σ (nrJ n s nr) (nrJ n (c + 1) nn) i j = ed σ nr nn i j ∧ (o4 σ (nrJ n s nr) (nrJ n (c + 1) nn) i j ↔ o4 σ nr nn i j) := by
          intro j hj
          unfold ed o4 nrJ
          rw [if_neg q, if_neg q, if_neg (by omega), if_neg (by omega)]
          exact ⟨rfl, Iff.rfl⟩
        have dd : ∀ j, dnJ n 0 i j ↔ dnA n i j := by intro j; unfold dnJ dnA; omega
        have dl : ∀ j, dnA n i j → j < n := fun j q => q.2.1
        refine ⟨?_, ?_, fun j hj => ?_, fun j hj => ?_, fun j hj => ?_⟩
        · rw [up_n (by omega), up_n (by omega), up_n (by omega), up_n (by omega), up_n (by omega), w1]; simp [nrJ, q]
        · rw [up_n (by omega), up_n (by omega), up_n (by omega), up_n (by omega), up_n (by omega), w2]; simp [nrJ, q]
        · rw [up_n (by omega), up_n (by omega), up_n (by omega), up_n (by omega), up_n (by omega), w3 j hj, dd]
          exact ⟨fun z => ⟨z.1, by rw [(ee j (dl j z.1)).1]; exact z.2⟩, fun z => ⟨z.1, by rw [← (ee j (dl j z.1)).1]; exact z.2⟩⟩
        · rw [up_n (by omega), up_n (by omega), up_n (by omega), up_n (by omega), up_n (by omega), w4 j hj, dd]
          exact ⟨fun z => ⟨z.1, (ee j (dl j z.1)).2.mpr z.2⟩, fun z => ⟨z.1, (ee j (dl j z.1)).2.mp z.2⟩⟩
        · have hj' := (dd j).mp hj
          rw [up_n (by omega), up_n (by omega), up_n (by omega), up_n (by omega), up_n (by omega), w5 j hj', (ee j (dl j hj')).1]
  case _ =>
    rw [hn0] at z
    exact absurd (Int32.not_le.mp (nI_ge (by omega) (by omega))) z
end
section
/-! ===== distances to a node, and Graph.countSteps, lowestBehind ===== -/
def dst (R : Nat → Nat → Bool) (n l : Nat) : Nat → Nat → Nat
  | 0, i => if i = l then 0 else 17
  | k + 1, i => if dst R n l k i = 17 ∧ anyN (fun j => R i j && decide (dst R n l k j = k)) n = true then k + 1 else dst R n l k i
theorem dst_le {R : Nat → Nat → Bool} {n l : Nat} : ∀ k i, dst R n l k i ≤ k ∨ dst R n l k i = 17 := by
  intro k
  induction k with
  | zero => intro i; unfold dst; split <;> simp
  | succ k ih =>
    intro i
    unfold dst
    split
    · exact Or.inl (Nat.le_refl _)
    · rcases ih i with q | q
      · exact Or.inl (by omega)
      · exact Or.inr q
theorem dst_s {R : Nat → Nat → Bool} {n l k i : Nat} : dst R n l (k + 1) i = if dst R n l k i = 17 ∧ anyN (fun j => R i j && decide (dst R n l k j = k)) n = true then k + 1 else dst R n l k i := rfl
theorem and_0 {x y : Int32} : (x &&& y) = 0 ↔ ∀ k, k < 32 → ¬ (bitP x k ∧ bitP y k) := by
  constructor
  · intro z k hk q
    have := (bitP_and hk).mpr q
    rw [z] at this
    exact bitP_0 hk this
  · intro z
    refine b_ext (fun i hi => ?_)
    rw [b_0]
    by_cases q : bt (x &&& y) i = true
    · exact absurd ((bitP_and hi).mp ((bitP_bt hi).mpr q)) (z i hi)
    · exact Bool.eq_false_iff.mpr q
theorem s_G_stepsInner {h : sn_H} {g n l k : Nat} {γ0 : sn_V} {lt : Int32} {R : Nat → Nat → Bool} {Q : Option Value → sn_H → Prop} (S : GrS h g) (hn : n ≤ 17) (hk : k + 1 < n) (hl : l < n) (h0 : γ0 0 0 = nI n)
    (hR : ∀ i j, i < n → j < 31 → (bitP (γ0 4 i) j ↔ R i j = true)) (hlt : ∀ j, j < 32 → (bitP lt j ↔ j < n ∧ dst R n l k j = k))
    (H : ∀ γ nx, (∀ j k, j ≠ 7 → γ j k = γ0 j k) → (∀ j, j < n → γ 7 j = nI (dst R n l (k + 1) j)) → (∀ j, j < 32 → (bitP nx j ↔ j < n ∧ dst R n l (k + 1) j = k + 1)) → wpE 37 37 [some (.ref g), none, some (.int nx), some (.int (nI (k + 2))), none, none] [] (hpg h g γ) (0, 0) Q) :
    ∀ (m i : Nat) (γ : sn_V) (nx : Int32), i + m = n → (∀ j k, j ≠ 7 → γ j k = γ0 j k) → (∀ j, j < n → γ 7 j = nI (dst R n l (if j < i then k + 1 else k) j)) → (∀ j, j < 32 → (bitP nx j ↔ j < i ∧ dst R n l (k + 1) j = k + 1)) →
      wpE 37 51 [some (.ref g), none, some (.int lt), some (.int (nI (k + 1))), some (.int nx), some (.int (nI i))] [] (hpg h g γ) (0, 0) Q := by
  intro m
  induction m with
  | zero =>
    intro i γ nx hi hγ h7 hx
    have hin : i = n := by omega
    subst hin
    have e0 : γ 0 0 = nI i := (hγ 0 0 (by omega)).trans h0
    refine r_G_countSteps_51 S.1 S.f7.1 S.f7.2 S.f4.1 S.f4.2 (fun _ => ?_) (fun z => ?_) (fun z => ?_) (fun z => ?_) (fun z => ?_) (fun z => ?_)
    · rw [nI_s]
      exact H γ nx hγ (fun j hj => by rw [h7 j hj, if_pos hj]) hx
    all_goals (rw [hpg_get0, e0] at z; have := nle_nI z (by omega) (by omega); omega)
  | succ m ih =>
    intro i γ nx hi hγ h7 hx
    have e0 : γ 0 0 = nI n := (hγ 0 0 (by omega)).trans h0
    have hi' : i < n := by omega
    have ci : (nI i).toNatClampNeg = i := cl (by omega)
    have e7 : γ 7 i = nI (dst R n l k i) := by rw [h7 i hi', if_neg (by omega)]
    have dl := @dst_le R n l k i
    have db : dst R n l k i < 2 ^ 31 := by omega
    have q17 : (γ 7 i = nI 17) ↔ dst R n l k i = 17 := by rw [e7]; exact nI_eq db (by omega)
    have an : (γ 4 i &&& lt = 0) ↔ ¬ anyN (fun j => R i j && decide (dst R n l k j = k)) n = true := by
      rw [and_0, anyN_t]
      constructor
      · rintro q ⟨j, hj, q2⟩
        rw [Bool.and_eq_true] at q2
        refine q j (by omega) ⟨?_, (hlt j (by omega)).mpr ⟨hj, of_decide_eq_true q2.2⟩⟩
        rw [hγ 4 i (by omega)]
        exact (hR i j hi' (by omega)).mpr q2.1
      · rintro q j hj ⟨q1, q2⟩
        obtain ⟨w1, w2⟩ := (hlt j hj).mp q2
        rw [hγ 4 i (by omega)] at q1
        exact q ⟨j, w1, by rw [(hR i j hi' (by omega)).mp q1, decide_eq_true w2]; rfl⟩
    have stay : dst R n l (k + 1) i = dst R n l k i → wpE 37 51 [some (.ref g), none, some (.int lt), some (.int (nI (k + 1))), some (.int nx), some (.int (nI i + nI 1))] [] (hpg h g γ) (0, 0) Q := by
      intro e
      rw [nI_s]
      refine ih (i + 1) γ nx (by omega) hγ (fun j hj => ?_) (fun j hj => ?_)
      · rw [h7 j hj]
        by_cases q : j < i
        · rw [if_pos q, if_pos (by omega)]
        · by_cases q2 : j = i
          · subst q2; rw [if_neg q, if_pos (by omega), e]
          · rw [if_neg q, if_neg (by omega)]
      · rw [hx j hj]
        constructor
        · exact fun q => ⟨by omega, q.2⟩
        · rintro ⟨q1, q2⟩
          refine ⟨?_, q2⟩
          by_cases q3 : j = i
          · subst q3; rw [e] at q2; omega
          · omega
    refine r_G_countSteps_51 S.1 S.f7.1 S.f7.2 S.f4.1 S.f4.2 (fun z => ?_) (fun _ => inb (by omega)) (fun _ z => ?_) (fun _ _ => inb (by omega)) (fun _ z1 z2 => ?_) (fun _ z1 z2 => ?_)
    · rw [hpg_get0, e0] at z
      exact absurd z (nI_ge (by omega) (by omega))
    · rw [ci, hpg_get (by decide), q17] at z
      exact stay (by rw [dst_s, if_neg (fun q => z q.1)])
    · rw [ci, hpg_get (by decide), an] at z2
      exact stay (by rw [dst_s, if_neg (fun q => z2 q.2)])
    · rw [ci, hpg_get (by decide), an] at z2
      rw [ci, hpg_get (by decide), q17] at z1
      have e : dst R n l (k + 1) i = k + 1 := by rw [dst_s, if_pos ⟨z1, Classical.not_not.mp z2⟩]
      rw [ci, hpg_set (by decide), nI_s]
      refine ih (i + 1) _ _ (by omega) (fun j k' hj => ?_) (fun j hj => ?_) (fun j hj => ?_)
      · rw [up_n (by omega)]; exact hγ j k' hj
      · by_cases q2 : j = i
        · subst q2; rw [up_s, if_pos (by omega), e]
        · rw [up_n (by omega), h7 j hj]
          by_cases q : j < i
          · rw [if_pos q, if_pos (by omega)]
          · rw [if_neg q, if_neg (by omega)]
      · rw [bitP_put (by omega) hj, hx j hj]
        constructor
        · rintro (q | q)
          · exact ⟨by omega, q.2⟩
          · subst q; exact ⟨by omega, e⟩
        · rintro ⟨q1, q2⟩
          by_cases q3 : j = i
          · exact Or.inr q3
          · exact Or.inl ⟨by omega, q2⟩
theorem s_G_stepsOuter {h : sn_H} {g n l : Nat} {γ0 : sn_V} {R : Nat → Nat → Bool} {Q : Option Value → sn_H → Prop} (S : GrS h g) (hn : n ≤ 17) (hl : l < n) (h0 : γ0 0 0 = nI n)
    (hR : ∀ i j, i < n → j < 31 → (bitP (γ0 4 i) j ↔ R i j = true))
    (H : ∀ γ, (∀ j k, j ≠ 7 → γ j k = γ0 j k) → (∀ j, j < n → γ 7 j = nI (dst R n l (n - 1) j)) → Q none (hpg h g γ)) :
    ∀ (m k : Nat) (γ : sn_V) (lt : Int32), k + 1 + m = n → (∀ j k, j ≠ 7 → γ j k = γ0 j k) → (∀ j, j < n → γ 7 j = nI (dst R n l k j)) → (∀ j, j < 32 → (bitP lt j ↔ j < n ∧ dst R n l k j = k)) →
      wpE 37 37 [some (.ref g), none, some (.int lt), some (.int (nI (k + 1))), none, none] [] (hpg h g γ) (0, 0) Q := by
  intro m
  induction m with
  | zero =>
    intro k γ lt hk hγ h7 hx
    have e0 : γ 0 0 = nI n := (hγ 0 0 (by omega)).trans h0
    refine r_G_countSteps_37 S.1 (fun _ => ?_) (fun z => ?_)
    · exact H γ hγ (fun j hj => by rw [h7 j hj, show n - 1 = k by omega])
    · rw [hpg_get0, e0] at z; have := nle_nI z (by omega) (by omega); omega
  | succ m ih =>
    intro k γ lt hk hγ h7 hx
    have e0 : γ 0 0 = nI n := (hγ 0 0 (by omega)).trans h0
    refine r_G_countSteps_37 S.1 (fun z => ?_) (fun _ => ?_)
    · rw [hpg_get0, e0] at z
      exact absurd z (nI_ge (by omega) (by omega))
    · refine s_G_stepsInner S hn (by omega) hl h0 hR hx (fun γ' nx g1 g2 g3 => ?_) n 0 γ (nI 0) (by omega) hγ (fun j hj => ?_) (fun j hj => ?_)
      · exact ih (k + 1) γ' nx (by omega) g1 g2 g3
      · rw [if_neg (by omega)]; exact h7 j hj
      · exact ⟨fun z => absurd z (bitP_n0 hj), fun z => by omega⟩
theorem s_G_countSteps {h : sn_H} {g n l : Nat} {γ0 : sn_V} {R : Nat → Nat → Bool} {Q : Option Value → sn_H → Prop} (S : GrS h g) (hn : n ≤ 17) (hl : l < n) (h0 : γ0 0 0 = nI n)
    (hR : ∀ i j, i < n → j < 31 → (bitP (γ0 4 i) j ↔ R i j = true))
    (H : ∀ γ, (∀ j k, j ≠ 7 → γ j k = γ0 j k) → (∀ j, j < n → γ 7 j = nI (dst R n l (n - 1) j)) → Q none (hpg h g γ)) :
    wpE 37 0 [some (.ref g), some (.int (nI l)), none, none, none, none] [] (hpg h g γ0) (0, 0) Q := by
  refine r_G_countSteps_0 ?_
  suffices ∀ (m i : Nat) (γ : sn_V), i + m = n → (∀ j k, j ≠ 7 → γ j k = γ0 j k) → (∀ j, j < i → γ 7 j = nI 17) → wpE 37 2 [some (.ref g), some (.int (nI l)), some (.int (nI i)), none, none, none] [] (hpg h g γ) (0, 0) Q from this n 0 γ0 (by omega) (fun _ _ _ => rfl) (fun j hj => by omega)
  intro m
  induction m with
  | zero =>
    intro i γ hi hγ h7
    have hin : i = n := by omega
    subst hin
    have e0 : γ 0 0 = nI i := (hγ 0 0 (by omega)).trans h0
    refine r_G_countSteps_2 S.1 S.f7.1 S.f7.2 (fun _ => inb (by omega)) (fun _ => ?_) (fun z => by rw [hpg_get0, e0] at z; have := nle_nI z (by omega) (by omega); omega) (fun z => ?_)
    · rw [cl (by omega : l < 2 ^ 31), hpg_set (by decide)]
      refine s_G_stepsOuter S hn hl h0 hR H (i - 1) 0 _ _ (by omega) (fun j k hj => ?_) (fun j hj => ?_) (fun j hj => ?_)
      · rw [up_n (by omega)]; exact hγ j k hj
      · unfold dst
        by_cases q : j = l
        · subst q; rw [up_s, if_pos rfl]
        · rw [up_n (by omega), if_neg q]; exact h7 j hj
      · rw [bitP_s1 (by omega) hj]
        unfold dst
        constructor
        · intro q; subst q; exact ⟨hl, if_pos rfl⟩
        · rintro ⟨-, q⟩
          by_cases q2 : j = l
          · exact q2
          · rw [if_neg q2] at q; omega
    · rw [hpg_get0, e0] at z; have := nle_nI z (by omega) (by omega); omega
  | succ m ih =>
    intro i γ hi hγ h7
    have e0 : γ 0 0 = nI n := (hγ 0 0 (by omega)).trans h0
    refine r_G_countSteps_2 S.1 S.f7.1 S.f7.2 (fun _ => inb (by omega)) (fun z => ?_) (fun _ => inb (by omega)) (fun z => ?_)
    · rw [hpg_get0, e0] at z
      exact absurd z (nI_ge (by omega) (by omega))
    · rw [cl (by omega : i < 2 ^ 31), hpg_set (by decide), nI_s]
      refine ih (i + 1) _ (by omega) (fun j k hj => ?_) (fun j hj => ?_)
      · rw [up_n (by omega)]; exact hγ j k hj
      · by_cases q : j = i
        · subst q; rw [up_s]
        · rw [up_n (by omega)]; exact h7 j (by omega)
end
section
/-! ===== Graph.lowestBehind, findRing ===== -/
def fstN (p : Nat → Bool) : Nat → Nat → Nat
  | 0, i => i
  | m + 1, i => if p i = true then i else fstN p m (i + 1)
theorem fstN_le {p : Nat → Bool} : ∀ m i, fstN p m i ≤ i + m := by
  intro m
  induction m with
  | zero => intro i; exact Nat.le_refl _
  | succ m ih =>
    intro i
    unfold fstN
    split
    · omega
    · have := ih (i + 1); omega
def lowB (R : Nat → Nat → Bool) (D : Nat → Nat) (n a left : Nat) : Nat :=
  if fstN (fun j => R a j && decide (D j = left)) n 0 = n then a else fstN (fun j => R a j && decide (D j = left)) n 0
theorem lowB_lt {R : Nat → Nat → Bool} {D : Nat → Nat} {n a left : Nat} (ha : a < n) : lowB R D n a left < n := by
  unfold lowB
  have := @fstN_le (fun j => R a j && decide (D j = left)) n 0
  split <;> omega
theorem s_G_lowestBehind {h : sn_H} {g n a left : Nat} {γ : sn_V} {R : Nat → Nat → Bool} {D : Nat → Nat} {Q : Option Value → sn_H → Prop} (S : GrS h g) (hn : n ≤ 17) (ha : a < n) (hl : left < 2 ^ 31) (h0 : γ 0 0 = nI n)
    (hR : ∀ i j, i < n → j < 31 → (bitP (γ 4 i) j ↔ R i j = true)) (h7 : ∀ j, j < n → γ 7 j = nI (D j)) (hD : ∀ j, D j ≤ 17)
    (H : Q (some (.int (nI (lowB R D n a left)))) (hpg h g γ)) : wpE 38 0 [some (.ref g), some (.int (nI a)), some (.int (nI left)), none] [] (hpg h g γ) (0, 0) Q := by
  refine r_G_lowestBehind_0 ?_
  suffices ∀ (m i : Nat), i + m = n → fstN (fun j => R a j && decide (D j = left)) n 0 = fstN (fun j => R a j && decide (D j = left)) m i → wpE 38 2 [some (.ref g), some (.int (nI a)), some (.int (nI left)), some (.int (nI i))] [] (hpg h g γ) (0, 0) Q from this n 0 (by omega) rfl
  intro m
  induction m with
  | zero =>
    intro i hi e
    have hin : i = n := by omega
    subst hin
    have bad : ∀ {P : Prop}, ¬ (hG (hpg h g γ) g 0) ≤ nI i → P := by
      intro P z
      rw [hpg_get0, h0] at z; have := nle_nI z (by omega) (by omega); omega
    refine r_G_lowestBehind_2 S.1 S.f4.1 S.f4.2 S.f7.1 S.f7.2 (fun _ => ?_) (fun z => bad z) (fun z => bad z) (fun z => bad z) (fun z => bad z) (fun z => bad z)
    unfold lowB at H
    rw [e] at H
    rw [if_pos (show fstN (fun j => R a j && decide (D j = left)) 0 i = i from rfl)] at H
    exact H
  | succ m ih =>
    intro i hi e
    have ci : (nI i).toNatClampNeg = i := cl (by omega)
    have ca : (nI a).toNatClampNeg = a := cl (by omega)
    have d7 : (γ 7 i = nI left) ↔ D i = left := by
      rw [h7 i (by omega)]
      have := hD i
      exact nI_eq (by omega) hl
    have go : (R a i && decide (D i = left)) = false → wpE 38 2 [some (.ref g), some (.int (nI a)), some (.int (nI left)), some (.int (nI i + nI 1))] [] (hpg h g γ) (0, 0) Q := by
      intro z
      rw [nI_s]
      refine ih (i + 1) (by omega) (e.trans ?_)
      show (if (R a i && decide (D i = left)) = true then i else _) = _
      rw [z]
      rfl
    refine r_G_lowestBehind_2 S.1 S.f4.1 S.f4.2 S.f7.1 S.f7.2 (fun z => ?_) (fun _ => inb (by omega)) (fun _ z => ?_) (fun _ _ => inb (by omega)) (fun _ z1 z2 => ?_) (fun _ z1 z2 => ?_)
    · rw [hpg_get0, h0] at z
      exact absurd z (nI_ge (by omega) (by omega))
    · rw [ca, hpg_get (by decide)] at z
      have : ¬ R a i = true := fun q => z ((hR a i ha (by omega)).mpr q)
      exact go (by rw [Bool.eq_false_iff.mpr this]; rfl)
    · rw [ci, hpg_get (by decide), d7] at z2
      exact go (by rw [decide_eq_false z2, Bool.and_false])
    · rw [ca, hpg_get (by decide)] at z1
      rw [ci, hpg_get (by decide), d7] at z2
      have r1 := (hR a i ha (by omega)).mp z1
      have e2 : fstN (fun j => R a j && decide (D j = left)) n 0 = i := by
        rw [e]
        show (if (R a i && decide (D i = left)) = true then i else _) = _
        rw [r1, decide_eq_true z2]
        rfl
      unfold lowB at H
      rw [e2, if_neg (by omega)] at H
      exact H
def nst (R : Nat → Nat → Bool) (D : Nat → Nat) (l : Nat) : Nat → Nat
  | 0 => 17
  | i + 1 => if R l i = true then (if D i < nst R D l i then D i else nst R D l i) else nst R D l i
theorem nst_le {R : Nat → Nat → Bool} {D : Nat → Nat} {l : Nat} : ∀ i, nst R D l i ≤ 17 := by
  intro i
  induction i with
  | zero => exact Nat.le_refl _
  | succ i ih =>
    unfold nst
    split
    · split <;> omega
    · exact ih
/-- the way that findRing goes: its node after t steps -/
def rgN (R : Nat → Nat → Bool) (D : Nat → Nat) (n q : Nat) : Nat → Nat
  | 0 => n - 1
  | t + 1 => lowB R D n (rgN R D n q t) (q - t)
theorem rgN_lt {R : Nat → Nat → Bool} {D : Nat → Nat} {n q : Nat} (hn : 0 < n) : ∀ t, rgN R D n q t < n := by
  intro t
  induction t with
  | zero => show n - 1 < n; omega
  | succ t ih => exact lowB_lt ih
theorem s_G_tellRing {h : sn_H} {g n q : Nat} {γ0 : sn_V} {R : Nat → Nat → Bool} {D nn : Nat → Nat} {Q : Option Value → sn_H → Prop} (S : GrS h g) (hn : n ≤ 17) (hn0 : 0 < n) (hq : q ≤ 16) (h0 : γ0 0 0 = nI n)
    (hR : ∀ i j, i < n → j < 31 → (bitP (γ0 4 i) j ↔ R i j = true)) (h7 : ∀ j, j < n → γ0 7 j = nI (D j)) (hD : ∀ j, D j ≤ 17) (h2 : ∀ j, j < n → γ0 2 j = nI (nn j))
    (H : ∀ γ, (∀ j k, j ≠ 8 → ¬ (j = 0 ∧ k = 9) → γ j k = γ0 j k) → γ 0 9 = nI q → (∀ t, t < q → γ 8 t = nI (nn (rgN R D n q (t + 1)))) → Q none (hpg h g γ)) :
    ∀ (m t : Nat) (γ : sn_V), t + m = q → (∀ j k, j ≠ 8 → ¬ (j = 0 ∧ k = 9) → γ j k = γ0 j k) → γ 0 9 = nI t → (∀ u, u < t → γ 8 u = nI (nn (rgN R D n q (u + 1)))) →
      wpE 36 74 [some (.ref g), none, none, some (.int (nI (rgN R D n q t))), some (.int (nI (q - t)))] [] (hpg h g γ) (0, 0) Q := by
  intro m
  induction m with
  | zero =>
    intro t γ ht hγ h9 h8
    have htq : t = q := by omega
    subst htq
    refine r_G_findRing_74 S.1 (fun _ => H γ hγ h9 h8) (fun z => ?_)
    rw [Nat.sub_self, nI_0] at z
    exact absurd (Int32.le_refl 0) z
  | succ m ih =>
    intro t γ ht hγ h9 h8
    have ha := @rgN_lt R D n q hn0 t
    have ha1 := @rgN_lt R D n q hn0 (t + 1)
    refine r_G_findRing_74 S.1 (fun z => ?_) (fun _ => ?_)
    · rw [← nI_0] at z
      exact absurd z (nI_ge (by omega) (by omega))
    · refine s_G_lowestBehind (R := R) (D := D) S hn ha (by omega) ((hγ 0 0 (by omega) (by omega)).trans h0) (fun i j hi hj => by rw [hγ 4 i (by omega) (by omega)]; exact hR i j hi hj) (fun j hj => (hγ 7 j (by omega) (by omega)).trans (h7 j hj)) hD ?_
      show wpE 36 86 [some (.ref g), none, none, none, some (.int (nI (q - t)))] [.int (nI (rgN R D n q (t + 1)))] (hpg h g γ) (0, 0) Q
      have e9 : hG (hpg h g γ) g 9 = nI t := by rw [hpg_get0]; exact h9
      refine r_G_findRing_86 S.1 S.f8.1 S.f2.1 S.f2.2 S.f8.2 (inb (by omega)) (by rw [e9]; exact inb (by omega)) ?_
      rw [e9, cl (by omega : t < 2 ^ 31), cl (by omega : rgN R D n q (t + 1) < 2 ^ 31), hpg_get (by decide), hγ 2 _ (by omega) (by omega), h2 _ ha1, hpg_set (by decide), hpg_get0, hpg_set0, up_n (by omega), h9, nI_s]
      have e4 : nI (q - t) + -(nI 1) = nI (q - (t + 1)) := by
        rw [show q - t = q - (t + 1) + 1 by omega, ← nI_s (q - (t + 1)), Int32.add_assoc, Int32.add_right_neg, Int32.add_zero]
      rw [e4]
      refine r_G_findRing_95 (ih (t + 1) _ (by omega) (fun j k hj hjk => ?_) up_s (fun u hu => ?_))
      · rw [up_n (by omega), up_n (by omega)]; exact hγ j k hj hjk
      · rw [up_n (by omega)]
        by_cases e : u = t
        · subst e; rw [up_s]
        · rw [up_n (by omega)]; exact h8 u (by omega)
/-- how many nodes findRing tells -/
def rgQ (R : Nat → Nat → Bool) (n : Nat) : Nat := if nst R (dst R n (n - 1) (n - 1)) (n - 1) (n - 1) = 17 then 0 else nst R (dst R n (n - 1) (n - 1)) (n - 1) (n - 1)
theorem s_G_findRing {h : sn_H} {g n : Nat} {γ0 : sn_V} {R : Nat → Nat → Bool} {nn : Nat → Nat} {Q : Option Value → sn_H → Prop} (S : GrS h g) (hn : n ≤ 17) (hn0 : 0 < n) (h0 : γ0 0 0 = nI n)
    (hR : ∀ i j, i < n → j < 31 → (bitP (γ0 4 i) j ↔ R i j = true)) (h2 : ∀ j, j < n → γ0 2 j = nI (nn j))
    (H : ∀ γ, (∀ j k, j ≠ 7 → j ≠ 8 → ¬ (j = 0 ∧ k = 9) → γ j k = γ0 j k) → γ 0 9 = nI (rgQ R n) → (∀ t, t < rgQ R n → γ 8 t = nI (nn (rgN R (dst R n (n - 1) (n - 1)) n (rgQ R n) (t + 1)))) → Q none (hpg h g γ)) :
    wpE 36 0 [some (.ref g), none, none, none, none] [] (hpg h g γ0) (0, 0) Q := by
  have hD : ∀ j, dst R n (n - 1) (n - 1) j ≤ 17 := fun j => by rcases @dst_le R n (n - 1) (n - 1) j with q | q <;> omega
  generalize hDD : dst R n (n - 1) (n - 1) = D at H hD
  have e1 : nI n - nI 1 = nI (n - 1) := by
    rw [show nI n = nI (n - 1) + nI 1 by rw [nI_s, show n - 1 + 1 = n by omega], Int32.add_sub_cancel]
  refine r_G_findRing_0 S.1 (fun _ => ?_) (fun z => ?_)
  · rw [hpg_set0, hpg_get0, up_n (by omega), h0, e1]
    refine s_G_countSteps (l := n - 1) (R := R) S hn (by omega) (by rw [up_n (by omega)]; exact h0) (fun i j hi hj => by rw [up_n (by omega)]; exact hR i j hi hj) (fun γ1 f1 f7 => ?_)
    rw [hDD] at f7
    refine r_G_findRing_22 ?_
    have k0 : γ1 0 0 = nI n := by rw [f1 0 0 (by omega), up_n (by omega)]; exact h0
    have k4 : ∀ i j, i < n → j < 31 → (bitP (γ1 4 i) j ↔ R i j = true) := fun i j hi hj => by rw [f1 4 i (by omega), up_n (by omega)]; exact hR i j hi hj
    have k2 : ∀ j, j < n → γ1 2 j = nI (nn j) := fun j hj => by rw [f1 2 j (by omega), up_n (by omega)]; exact h2 j hj
    have k9 : γ1 0 9 = nI 0 := by rw [f1 0 9 (by omega), up_s]
    have ko : ∀ j k, j ≠ 7 → j ≠ 8 → ¬ (j = 0 ∧ k = 9) → γ1 j k = γ0 j k := fun j k h1 h3 h4 => by rw [f1 j k h1, up_n (by omega)]
    suffices ∀ (m i : Nat), i + m = n - 1 → wpE 36 27 [some (.ref g), some (.int (nI (n - 1))), some (.int (nI (nst R D (n - 1) i))), some (.int (nI i)), none] [] (hpg h g γ1) (0, 0) Q from this (n - 1) 0 (by omega)
    intro m
    induction m with
    | zero =>
      intro i hi
      have hin : i = n - 1 := by omega
      subst hin
      have ns := @nst_le R D (n - 1) (n - 1)
      refine r_G_findRing_27 S.1 S.f4.1 S.f4.2 S.f7.1 S.f7.2 (fun _ z => ?_) (fun _ z => ?_) (fun z => absurd (nI_le (Nat.le_refl _) (by omega)) z) (fun z => absurd (nI_le (Nat.le_refl _) (by omega)) z) (fun z => absurd (nI_le (Nat.le_refl _) (by omega)) z) (fun z => absurd (nI_le (Nat.le_refl _) (by omega)) z)
      · have z' : ¬ nst R D (n - 1) (n - 1) = 17 := fun q => z (by rw [q])
        have eq : rgQ R n = nst R D (n - 1) (n - 1) := by unfold rgQ; rw [hDD, if_neg z']
        have hq16 : rgQ R n ≤ 16 := by rw [eq]; omega
        rw [← eq]
        refine s_G_tellRing (R := R) (D := D) (nn := nn) S hn hn0 hq16 k0 k4 f7 hD k2 (fun γ g1 g2 g3 => ?_) (rgQ R n) 0 γ1 (Nat.zero_add _) (fun _ _ _ _ => rfl) k9 (fun u hu => absurd hu (Nat.not_lt_zero u))
        exact H γ (fun j k h1 h3 h4 => (g1 j k h3 h4).trans (ko j k h1 h3 h4)) g2 g3
      · have z' : nst R D (n - 1) (n - 1) = 17 := (nI_eq (by omega) (by omega)).mp z
        have eq : rgQ R n = 0 := by unfold rgQ; rw [hDD, if_pos z']
        exact H γ1 ko (by rw [eq]; exact k9) (fun t ht => by omega)
    | succ m ih =>
      intro i hi
      have ci : (nI i).toNatClampNeg = i := cl (by omega)
      have cl1 : (nI (n - 1)).toNatClampNeg = n - 1 := cl (by omega)
      have ns := @nst_le R D (n - 1) i
      refine r_G_findRing_27 S.1 S.f4.1 S.f4.2 S.f7.1 S.f7.2 (fun z => absurd z (nI_ge (by omega) (by omega))) (fun z => absurd z (nI_ge (by omega) (by omega))) (fun _ => inb (by omega)) (fun _ z => ?_) (fun _ _ => inb (by omega)) (fun _ z => ?_)
      · rw [cl1, hpg_get (by decide)] at z
        have r0 : ¬ R (n - 1) i = true := fun q => z ((k4 (n - 1) i (by omega) (by omega)).mpr q)
        have := ih (i + 1) (by omega)
        rw [nst, if_neg r0] at this
        rw [nI_s]
        exact this
      · rw [cl1, hpg_get (by decide)] at z
        have r0 : R (n - 1) i = true := (k4 (n - 1) i (by omega) (by omega)).mp z
        have hd := hD i
        rw [ci, hpg_get (by decide), f7 i (by omega), nI_s]
        have := ih (i + 1) (by omega)
        rw [nst, if_pos r0] at this
        by_cases w : D i < nst R D (n - 1) i
        · rw [if_pos (nI_lt w (by omega))]
          rw [if_pos w] at this
          exact this
        · rw [if_neg (fun y => w ((nI_ltI (by omega) (by omega)).mp y))]
          rw [if_neg w] at this
          exact this
  · rw [hpg_set0, hpg_get0, up_n (by omega), h0, e1, ← nI_0] at z
    exact absurd (nI_le (by omega) (by omega)) z
end
section
/-! ===== the Graph's other methods ===== -/
def smN (f : Nat → Nat) : Nat → Nat → Nat
  | 0, _ => 0
  | m + 1, i => f i + smN f m (i + 1)
theorem smN_le {f : Nat → Nat} {c : Nat} (hf : ∀ i, f i ≤ c) : ∀ m i, smN f m i ≤ m * c := by
  intro m
  induction m with
  | zero => intro i; exact Nat.zero_le _
  | succ m ih =>
    intro i
    have a := hf i
    have b := ih (i + 1)
    rw [Nat.succ_mul]
    show f i + smN f m (i + 1) ≤ _
    omega
def b01 (b : Bool) : Nat := if b = true then 1 else 0
def pvt (O : Nat → Nat → Bool) (n i : Nat) : Prop := (∃ a, a < n ∧ O a i = true) ∧ ∃ b, b < n ∧ O i b = true
def pivB (O : Nat → Nat → Bool) (n : Nat) : Prop := pvt O n (n - 1) ∨ (∃ j, j < n ∧ O (n - 1) j = true ∧ pvt O n j) ∨ ∃ i, i < n - 1 ∧ pvt O n i ∧ O i (n - 1) = true
theorem n0_bit {x : Int32} : ¬ x = 0 ↔ ∃ k, k < 32 ∧ bitP x k := by
  constructor
  · intro z
    apply Classical.byContradiction
    intro q
    refine z (b_ext (fun i hi => ?_))
    rw [b_0]
    exact Bool.eq_false_iff.mpr (fun w => q ⟨i, hi, (bitP_bt hi).mpr w⟩)
  · rintro ⟨k, hk, q⟩ z
    rw [z] at q
    exact bitP_0 hk q
theorem s_G_hasPivot {h : sn_H} {g n : Nat} {γ : sn_V} {O : Nat → Nat → Bool} {Q : Option Value → sn_H → Prop} (S : GrS h g) (hn : n ≤ 17) (hn0 : 0 < n) (h0 : γ 0 0 = nI n)
    (hO : ∀ i j, i < n → j < 32 → (bitP (γ 5 i) j ↔ O i j = true)) (hOn : ∀ i j, O i j = true → j < n)
    (H1 : pivB O n → Q (some (.int (nI 1))) (hpg h g γ)) (H2 : ¬ pivB O n → Q (some (.int (nI 0))) (hpg h g γ)) :
    wpE 40 0 [some (.ref g), none, none, none, none, none] [] (hpg h g γ) (0, 0) Q := by
  have e1 : nI n - nI 1 = nI (n - 1) := by
    rw [show nI n = nI (n - 1) + nI 1 by rw [nI_s, show n - 1 + 1 = n by omega], Int32.add_sub_cancel]
  have eh : hG (hpg h g γ) g 0 = nI n := by rw [hpg_get0]; exact h0
  have cn : (nI (n - 1)).toNatClampNeg = n - 1 := cl (by omega)
  refine r_G_hasPivot_0 S.1 (fun _ => ?_) (fun z => ?_)
  · rw [eh, e1]
    suffices ∀ (m i : Nat) (x y : Int32), i + m = n → (∀ j, j < 32 → (bitP x j ↔ ∃ a, a < i ∧ O a j = true)) → (∀ j, j < 32 → (bitP y j ↔ j < i ∧ ∃ b, b < n ∧ O j b = true)) →
        wpE 40 20 [some (.ref g), some (.int (nI (n - 1))), some (.int x), some (.int y), some (.int (nI i)), none] [] (hpg h g γ) (0, 0) Q from
      this n 0 (nI 0) (nI 0) (by omega) (fun j hj => ⟨fun z => absurd z (bitP_n0 hj), fun ⟨a, z, _⟩ => by omega⟩) (fun j hj => ⟨fun z => absurd z (bitP_n0 hj), fun z => by omega⟩)
    intro m
    induction m with
    | zero =>
      intro i x y hi hx hy
      have hin : i = n := by omega
      subst hin
      have pv : ∀ j, j < 32 → (bitP (x &&& y) j ↔ pvt O i j) := by
        intro j hj
        rw [bitP_and hj, hx j hj, hy j hj]
        unfold pvt
        constructor
        · exact fun q => ⟨q.1, q.2.2⟩
        · rintro ⟨⟨a, ha, q⟩, q2⟩
          exact ⟨⟨a, ha, q⟩, hOn a j q, q2⟩
      have bad : ∀ {P : Prop}, ¬ (hG (hpg h g γ) g 0) ≤ nI i → P := by
        intro P z
        rw [eh] at z; have := nle_nI z (by omega) (by omega); omega
      have nz : (γ 5 (i - 1) &&& (x &&& y) = 0) ↔ ¬ ∃ j, j < i ∧ O (i - 1) j = true ∧ pvt O i j := by
        rw [and_0]
        constructor
        · rintro q ⟨j, hj, q1, q2⟩
          exact q j (by omega) ⟨(hO (i - 1) j (by omega) (by omega)).mpr q1, (pv j (by omega)).mpr q2⟩
        · rintro q j hj ⟨q1, q2⟩
          have w := (hO (i - 1) j (by omega) hj).mp q1
          exact q ⟨j, hOn _ _ w, w, (pv j hj).mp q2⟩
      refine r_G_hasPivot_20 S.1 S.f5.1 S.f5.2 (fun _ _ => inb (by omega)) (fun _ z1 z2 => ?_) (fun _ _ z => ?_) (fun _ z => ?_) (fun z => bad z) (fun z => bad z) (fun z => bad z)
      · rw [cn, hpg_get (by decide), nz] at z2
        have z1' : ¬ pvt O i (i - 1) := fun q => z1 ((pv (i - 1) (by omega)).mpr q)
        suffices ∀ (m k : Nat), k + m = i - 1 → (∀ u, u < k → ¬ (pvt O i u ∧ O u (i - 1) = true)) → wpE 40 93 [some (.ref g), some (.int (nI (i - 1))), none, none, some (.int (x &&& y)), some (.int (nI k))] [] (hpg h g γ) (0, 0) Q from
          this (i - 1) 0 (Nat.zero_add _) (fun u hu => absurd hu (Nat.not_lt_zero u))
        intro m
        induction m with
        | zero =>
          intro k hk hu
          have hki : k = i - 1 := by omega
          subst hki
          refine r_G_hasPivot_93 S.1 S.f5.1 S.f5.2 (fun _ => H2 ?_) (fun z => absurd (Int32.le_refl _) z) (fun z => absurd (Int32.le_refl _) z) (fun z => absurd (Int32.le_refl _) z) (fun z => absurd (Int32.le_refl _) z)
          rintro (q | q | ⟨u, q1, q2, q3⟩)
          · exact z1' q
          · exact z2 q
          · exact hu u q1 ⟨q2, q3⟩
        | succ m ih =>
          intro k hk hu
          have ck : (nI k).toNatClampNeg = k := cl (by omega)
          have go : ¬ (pvt O i k ∧ O k (i - 1) = true) → wpE 40 93 [some (.ref g), some (.int (nI (i - 1))), none, none, some (.int (x &&& y)), some (.int (nI k + nI 1))] [] (hpg h g γ) (0, 0) Q := by
            intro q
            rw [nI_s]
            refine ih (k + 1) (by omega) (fun u hu' => ?_)
            by_cases w : u = k
            · rw [w]; exact q
            · exact hu u (by omega)
          refine r_G_hasPivot_93 S.1 S.f5.1 S.f5.2 (fun z => absurd z (nI_ge (by omega) (by omega))) (fun _ z => ?_) (fun _ _ => inb (by omega)) (fun _ _ z => ?_) (fun _ za zb => ?_)
          · exact go (fun q => z ((pv k (by omega)).mpr q.1))
          · rw [ck, hpg_get (by decide)] at z
            exact go (fun q => z ((hO k (i - 1) (by omega) (by omega)).mpr q.2))
          · rw [ck, hpg_get (by decide)] at zb
            exact H1 (Or.inr (Or.inr ⟨k, by omega, (pv k (by omega)).mp za, (hO k (i - 1) (by omega) (by omega)).mp zb⟩))
      · rw [cn, hpg_get (by decide), nz] at z
        exact H1 (Or.inr (Or.inl (Classical.not_not.mp z)))
      · exact H1 (Or.inl ((pv (i - 1) (by omega)).mp z))
    | succ m ih =>
      intro i x y hi hx hy
      have ci : (nI i).toNatClampNeg = i := cl (by omega)
      have bad : ∀ {P : Prop}, (hG (hpg h g γ) g 0) ≤ nI i → P := by
        intro P z
        rw [eh] at z
        exact absurd z (nI_ge (by omega) (by omega))
      have ox : ∀ j, j < 32 → (bitP (x ||| γ 5 i) j ↔ ∃ a, a < i + 1 ∧ O a j = true) := by
        intro j hj
        rw [bitP_or hj, hx j hj, hO i j (by omega) hj]
        constructor
        · rintro (⟨a, q1, q2⟩ | q)
          · exact ⟨a, by omega, q2⟩
          · exact ⟨i, by omega, q⟩
        · rintro ⟨a, q1, q2⟩
          by_cases w : a = i
          · rw [w] at q2; exact Or.inr q2
          · exact Or.inl ⟨a, by omega, q2⟩
      have nz : (¬ γ 5 i = 0) ↔ ∃ b, b < n ∧ O i b = true := by
        rw [n0_bit]
        constructor
        · rintro ⟨k, hk, q⟩
          have w := (hO i k (by omega) hk).mp q
          exact ⟨k, hOn _ _ w, w⟩
        · rintro ⟨k, hk, q⟩
          exact ⟨k, by omega, (hO i k (by omega) (by omega)).mpr q⟩
      refine r_G_hasPivot_20 S.1 S.f5.1 S.f5.2 (fun z => bad z) (fun z => bad z) (fun z => bad z) (fun z => bad z) (fun _ => inb (by omega)) (fun _ z => ?_) (fun _ z => ?_)
      · rw [ci, hpg_get (by decide)] at z ⊢
        rw [nI_s]
        refine ih (i + 1) _ _ (by omega) ox (fun j hj => ?_)
        rw [hy j hj]
        constructor
        · exact fun q => ⟨by omega, q.2⟩
        · rintro ⟨q1, q2⟩
          refine ⟨?_, q2⟩
          by_cases w : j = i
          · rw [w] at q2; exact absurd z (nz.mpr q2)
          · omega
      · rw [ci, hpg_get (by decide)] at z ⊢
        rw [nI_s]
        refine ih (i + 1) _ _ (by omega) ox (fun j hj => ?_)
        rw [bitP_put (by omega) hj, hy j hj]
        constructor
        · rintro (q | q)
          · exact ⟨by omega, q.2⟩
          · rw [q]; exact ⟨by omega, nz.mp z⟩
        · rintro ⟨q1, q2⟩
          by_cases w : j = i
          · exact Or.inr w
          · exact Or.inl ⟨by omega, q2⟩
  · rw [eh, e1, ← nI_0] at z
    exact absurd (nI_le (by omega) (by omega)) z
def skN (O : Nat → Nat → Bool) (n a : Nat) : Nat := smN (fun b => b01 (O a b && O b a)) (n - (a + 1)) (a + 1)
theorem s_G_countSkewPairs {h : sn_H} {g n : Nat} {γ : sn_V} {O : Nat → Nat → Bool} {Q : Option Value → sn_H → Prop} (S : GrS h g) (hn : n ≤ 17) (h0 : γ 0 0 = nI n)
    (hO : ∀ i j, i < n → j < 32 → (bitP (γ 5 i) j ↔ O i j = true))
    (H : Q (some (.int (nI (smN (skN O n) n 0)))) (hpg h g γ)) :
    wpE 62 0 [some (.ref g), none, none, none] [] (hpg h g γ) (0, 0) Q := by
  have eh : hG (hpg h g γ) g 0 = nI n := by rw [hpg_get0]; exact h0
  refine r_G_countSkewPairs_0 ?_
  generalize hT : smN (skN O n) n 0 = T at H
  suffices ∀ (m a acc : Nat), a + m = n → acc + smN (skN O n) m a = T → wpE 62 4 [some (.ref g), some (.int (nI acc)), some (.int (nI a)), none] [] (hpg h g γ) (0, 0) Q from this n 0 0 (Nat.zero_add _) ((Nat.zero_add _).trans hT)
  intro m
  induction m with
  | zero =>
    intro a acc ha hacc
    refine r_G_countSkewPairs_4 S.1 (fun _ => ?_) (fun z => ?_)
    · have : acc = T := hacc
      rw [this]; exact H
    · rw [eh] at z; have := nle_nI z (by omega) (by omega); omega
  | succ m ih =>
    intro a acc ha hacc
    refine r_G_countSkewPairs_4 S.1 (fun z => ?_) (fun _ => ?_)
    · rw [eh] at z; exact absurd z (nI_ge (by omega) (by omega))
    · rw [nI_s]
      have hacc' : acc + (skN O n a + smN (skN O n) m (a + 1)) = T := hacc
      suffices ∀ (m' b acc' : Nat), b + m' = n → acc' + smN (fun b => b01 (O a b && O b a)) m' b + smN (skN O n) m (a + 1) = T → wpE 62 16 [some (.ref g), some (.int (nI acc')), some (.int (nI a)), some (.int (nI b))] [] (hpg h g γ) (0, 0) Q from
        this (n - (a + 1)) (a + 1) acc (by omega) (by rw [Nat.add_assoc]; exact hacc')
      intro m'
      induction m' with
      | zero =>
        intro b acc' hb hacc2
        refine r_G_countSkewPairs_16 S.1 S.f5.1 S.f5.2 (fun _ => ?_) (fun z => ?_) (fun z => ?_) (fun z => ?_) (fun z => ?_) (fun z => ?_)
        · rw [nI_s]
          exact ih (a + 1) acc' (by omega) hacc2
        all_goals (rw [eh] at z; have := nle_nI z (by omega) (by omega); omega)
      | succ m' ih' =>
        intro b acc' hb hacc2
        have ca : (nI a).toNatClampNeg = a := cl (by omega)
        have cb : (nI b).toNatClampNeg = b := cl (by omega)
        have hacc3 : acc' + (b01 (O a b && O b a) + smN (fun b => b01 (O a b && O b a)) m' (b + 1)) + smN (skN O n) m (a + 1) = T := hacc2
        refine r_G_countSkewPairs_16 S.1 S.f5.1 S.f5.2 (fun z => ?_) (fun _ => inb (by omega)) (fun _ z => ?_) (fun _ _ => inb (by omega)) (fun _ z1 z2 => ?_) (fun _ z1 z2 => ?_)
        · rw [eh] at z; exact absurd z (nI_ge (by omega) (by omega))
        · rw [ca, hpg_get (by decide)] at z
          have w : O a b = false := Bool.eq_false_iff.mpr (fun q => z ((hO a b (by omega) (by omega)).mpr q))
          rw [nI_s]
          refine ih' (b + 1) acc' (by omega) ?_
          rw [w] at hacc3
          rw [← hacc3]
          show _ = acc' + (0 + _) + _
          rw [Nat.zero_add]
        · rw [cb, hpg_get (by decide)] at z2
          have w : O b a = false := Bool.eq_false_iff.mpr (fun q => z2 ((hO b a (by omega) (by omega)).mpr q))
          rw [nI_s]
          refine ih' (b + 1) acc' (by omega) ?_
          rw [w, Bool.and_false] at hacc3
          rw [← hacc3]
          show _ = acc' + (0 + _) + _
          rw [Nat.zero_add]
        · rw [ca, hpg_get (by decide)] at z1
          rw [cb, hpg_get (by decide)] at z2
          rw [nI_s, nI_s]
          refine ih' (b + 1) (acc' + 1) (by omega) ?_
          rw [(hO a b (by omega) (by omega)).mp z1, (hO b a (by omega) (by omega)).mp z2] at hacc3
          rw [← hacc3, Nat.add_assoc acc' 1]
          rfl
theorem s_G_toldAt {h : sn_H} {g i q : Nat} {γ : sn_V} {Q : Option Value → sn_H → Prop} (S : GrS h g) (hi : i < 2 ^ 31) (hq : q ≤ 17) (h9 : γ 0 9 = nI q)
    (H1 : i < q → Q (some (.int (γ 8 i))) (hpg h g γ)) (H2 : ¬ i < q → Q (some (.int (-(nI 20006)))) (hpg h g γ)) : wpE 55 0 [some (.ref g), some (.int (nI i))] [] (hpg h g γ) (0, 0) Q := by
  have eh : hG (hpg h g γ) g 9 = nI q := by rw [hpg_get0]; exact h9
  have nn : ¬ nI i < 0 := by rw [← nI_0]; exact Int32.not_lt.mpr (nI_le (by omega) hi)
  refine r_G_toldAt_0 S.1 S.f8.1 S.f8.2 (fun z => absurd z nn) (fun _ z => ?_) (fun _ z => ?_) (fun _ z => ?_)
  · rw [eh, nI_leI (by omega) hi] at z
    exact H2 (by omega)
  · rw [eh, nI_leI (by omega) hi] at z
    exact inb (by omega)
  · rw [eh, nI_leI (by omega) hi] at z
    rw [cl hi, hpg_get (by decide)]
    exact H1 (by omega)
end
section
/-! ===== countNodesInRings, lowestPossible, findOrder ===== -/
def wal (R : Nat → Nat → Bool) : Nat → Nat → Nat → Bool
  | 0, i, j => R i j
  | t + 1, i, j => wal R t i j || (wal R t i t && wal R t t j)
theorem wal_t {R : Nat → Nat → Bool} {t j : Nat} : wal R (t + 1) t j = wal R t t j := by
  show (wal R t t j || (wal R t t t && wal R t t j)) = _
  cases wal R t t t <;> cases wal R t t j <;> rfl
def rcN (R : Nat → Nat → Bool) (n : Nat) : Nat := smN (fun i => b01 (wal R n i i)) n 0
theorem s_G_countNodesInRings {h : sn_H} {g n : Nat} {γ0 : sn_V} {R : Nat → Nat → Bool} {Q : Option Value → sn_H → Prop} (S : GrS h g) (hn : n ≤ 17) (h0 : γ0 0 0 = nI n)
    (hR : ∀ i j, i < n → j < 32 → (bitP (γ0 4 i) j ↔ R i j = true))
    (H : ∀ γ, (∀ j k, j ≠ 6 → γ j k = γ0 j k) → Q (some (.int (nI (rcN R n)))) (hpg h g γ)) :
    wpE 57 0 [some (.ref g), none, none] [] (hpg h g γ0) (0, 0) Q := by
  have bad0 : ∀ {γ : sn_V}, (∀ j k, j ≠ 6 → γ j k = γ0 j k) → hG (hpg h g γ) g 0 = nI n := fun e => by rw [hpg_get0, e 0 0 (by omega)]; exact h0
  -- the count
  have last : ∀ (m i acc : Nat) (γ : sn_V), i + m = n → (∀ j k, j ≠ 6 → γ j k = γ0 j k) → (∀ a j, a < n → j < 32 → (bitP (γ 6 a) j ↔ wal R n a j = true)) → acc + smN (fun i => b01 (wal R n i i)) m i = rcN R n →
      wpE 57 92 [some (.ref g), some (.int (nI acc)), some (.int (nI i))] [] (hpg h g γ) (0, 0) Q := by
    intro m
    induction m with
    | zero =>
      intro i acc γ hi hγ hw ha
      have eh := bad0 hγ
      refine r_G_countNodesInRings_92 S.1 S.f6.1 S.f6.2 (fun _ => ?_) (fun z => ?_) (fun z => ?_) (fun z => ?_)
      · have e : acc = rcN R n := ha
        rw [e]
        exact H γ hγ
      all_goals (rw [eh] at z; have := nle_nI z (by omega) (by omega); omega)
    | succ m ih =>
      intro i acc γ hi hγ hw ha
      have eh := bad0 hγ
      have ci : (nI i).toNatClampNeg = i := cl (by omega)
      have ha' : acc + (b01 (wal R n i i) + smN (fun i => b01 (wal R n i i)) m (i + 1)) = rcN R n := ha
      refine r_G_countNodesInRings_92 S.1 S.f6.1 S.f6.2 (fun z => ?_) (fun _ => inb (by omega)) (fun _ z => ?_) (fun _ z => ?_)
      · rw [eh] at z; exact absurd z (nI_ge (by omega) (by omega))
      · rw [ci, hpg_get (by decide)] at z
        rw [nI_s]
        refine ih (i + 1) acc γ (by omega) hγ hw ?_
        rw [Bool.eq_false_iff.mpr (fun q => z ((hw i i (by omega) (by omega)).mpr q))] at ha'
        rw [← ha']
        show _ = acc + (0 + _)
        rw [Nat.zero_add]
      · rw [ci, hpg_get (by decide)] at z
        rw [nI_s, nI_s]
        refine ih (i + 1) (acc + 1) γ (by omega) hγ hw ?_
        rw [(hw i i (by omega) (by omega)).mp z] at ha'
        rw [← ha', Nat.add_assoc acc 1]
        rfl
  -- one pass
  have pass : ∀ (t : Nat), t < n → (∀ (γ : sn_V), (∀ j k, j ≠ 6 → γ j k = γ0 j k) → (∀ a j, a < n → j < 32 → (bitP (γ 6 a) j ↔ wal R (t + 1) a j = true)) → wpE 57 30 [some (.ref g), some (.int (nI (t + 1))), none] [] (hpg h g γ) (0, 0) Q) →
      ∀ (m i : Nat) (γ : sn_V), i + m = n → (∀ j k, j ≠ 6 → γ j k = γ0 j k) → (∀ a j, a < n → j < 32 → (bitP (γ 6 a) j ↔ wal R (if a < i then t + 1 else t) a j = true)) →
      wpE 57 40 [some (.ref g), some (.int (nI t)), some (.int (nI i))] [] (hpg h g γ) (0, 0) Q := by
    intro t ht K m
    induction m with
    | zero =>
      intro i γ hi hγ hw
      have eh := bad0 hγ
      have hin : i = n := by omega
      refine r_G_countNodesInRings_40 S.1 S.f6.1 S.f6.2 (fun _ => ?_) (fun z => ?_) (fun z => ?_) (fun z => ?_) (fun z => ?_)
      · rw [nI_s]
        exact K γ hγ (fun a j ha hj => by have := hw a j ha hj; rw [if_pos (by omega)] at this; exact this)
      all_goals (rw [eh] at z; have := nle_nI z (by omega) (by omega); omega)
    | succ m ih =>
      intro i γ hi hγ hw
      have eh := bad0 hγ
      have ci : (nI i).toNatClampNeg = i := cl (by omega)
      have ct : (nI t).toNatClampNeg = t := cl (by omega)
      have wi : ∀ j, j < 32 → (bitP (γ 6 i) j ↔ wal R t i j = true) := fun j hj => by have := hw i j (by omega) hj; rw [if_neg (by omega)] at this; exact this
      have wt : ∀ j, j < 32 → (bitP (γ 6 t) j ↔ wal R t t j = true) := fun j hj => by
        have := hw t j ht hj
        split at this
        · rw [wal_t] at this; exact this
        · exact this
      refine r_G_countNodesInRings_40 S.1 S.f6.1 S.f6.2 (fun z => ?_) (fun _ => inb (by omega)) (fun _ z => ?_) (fun _ _ => inb (by omega)) (fun _ z => ?_)
      · rw [eh] at z; exact absurd z (nI_ge (by omega) (by omega))
      · rw [ci, hpg_get (by decide)] at z
        have w : wal R t i t = false := Bool.eq_false_iff.mpr (fun q => z ((wi t (by omega)).mpr q))
        rw [nI_s]
        refine ih (i + 1) γ (by omega) hγ (fun a j ha hj => ?_)
        by_cases e : a = i
        · rw [e, if_pos (by omega), wi j hj]
          show _ ↔ (wal R t i j || (wal R t i t && wal R t t j)) = true
          rw [w, Bool.false_and, Bool.or_false]
        · rw [hw a j ha hj]
          by_cases e2 : a < i
          · rw [if_pos e2, if_pos (by omega)]
          · rw [if_neg e2, if_neg (by omega)]
      · rw [ci, hpg_get (by decide)] at z
        have w : wal R t i t = true := (wi t (by omega)).mp z
        rw [ci, ct, hpg_get (by decide), hpg_get (by decide), hpg_set (by decide), nI_s]
        refine ih (i + 1) _ (by omega) (fun j k hj => by rw [up_n (by omega)]; exact hγ j k hj) (fun a j ha hj => ?_)
        by_cases e : a = i
        · rw [e, up_s, if_pos (by omega), bitP_or hj, wi j hj, wt j hj]
          show _ ↔ (wal R t i j || (wal R t i t && wal R t t j)) = true
          rw [w, Bool.true_and, Bool.or_eq_true]
        · rw [up_n (by omega), hw a j ha hj]
          by_cases e2 : a < i
          · rw [if_pos e2, if_pos (by omega)]
          · rw [if_neg e2, if_neg (by omega)]
  have outer : ∀ (m t : Nat) (γ : sn_V), t + m = n → (∀ j k, j ≠ 6 → γ j k = γ0 j k) → (∀ a j, a < n → j < 32 → (bitP (γ 6 a) j ↔ wal R t a j = true)) → wpE 57 30 [some (.ref g), some (.int (nI t)), none] [] (hpg h g γ) (0, 0) Q := by
    intro m
    induction m with
    | zero =>
      intro t γ ht hγ hw
      have eh := bad0 hγ
      have htn : t = n := by omega
      subst htn
      refine r_G_countNodesInRings_30 S.1 (fun _ => ?_) (fun z => ?_)
      · exact last t 0 0 γ (Nat.zero_add _) hγ hw (Nat.zero_add _)
      · rw [eh] at z; have := nle_nI z (by omega) (by omega); omega
    | succ m ih =>
      intro t γ ht hγ hw
      have eh := bad0 hγ
      refine r_G_countNodesInRings_30 S.1 (fun z => ?_) (fun _ => ?_)
      · rw [eh] at z; exact absurd z (nI_ge (by omega) (by omega))
      · exact pass t (by omega) (fun γ' h1 h2 => ih (t + 1) γ' (by omega) h1 h2) n 0 γ (Nat.zero_add _) hγ (fun a j ha hj => by rw [if_neg (Nat.not_lt_zero a)]; exact hw a j ha hj)
  -- the copy
  refine r_G_countNodesInRings_0 ?_
  suffices ∀ (m i : Nat) (γ : sn_V), i + m = n → (∀ j k, j ≠ 6 → γ j k = γ0 j k) → (∀ a, a < i → γ 6 a = γ0 4 a) → wpE 57 2 [some (.ref g), some (.int (nI i)), none] [] (hpg h g γ) (0, 0) Q from this n 0 γ0 (Nat.zero_add _) (fun _ _ _ => rfl) (fun a ha => absurd ha (Nat.not_lt_zero a))
  intro m
  induction m with
  | zero =>
    intro i γ hi hγ hc
    have eh := bad0 hγ
    refine r_G_countNodesInRings_2 S.1 S.f6.1 S.f4.1 S.f4.2 S.f6.2 (fun _ => ?_) (fun z => ?_) (fun z => ?_) (fun z => ?_)
    · refine outer n 0 γ (Nat.zero_add _) hγ (fun a j ha hj => ?_)
      rw [hc a (by omega)]
      exact hR a j ha hj
    all_goals (rw [eh] at z; have := nle_nI z (by omega) (by omega); omega)
  | succ m ih =>
    intro i γ hi hγ hc
    have eh := bad0 hγ
    refine r_G_countNodesInRings_2 S.1 S.f6.1 S.f4.1 S.f4.2 S.f6.2 (fun z => ?_) (fun _ => inb (by omega)) (fun _ => inb (by omega)) (fun _ => ?_)
    · rw [eh] at z; exact absurd z (nI_ge (by omega) (by omega))
    · rw [cl (by omega : i < 2 ^ 31), hpg_get (by decide), hγ 4 i (by omega), hpg_set (by decide), nI_s]
      refine ih (i + 1) _ (by omega) (fun j k hj => by rw [up_n (by omega)]; exact hγ j k hj) (fun a ha => ?_)
      by_cases e : a = i
      · rw [e, up_s]
      · rw [up_n (by omega)]; exact hc a (by omega)
/-- the lowest node that can come next; n if there is none -/
def wtB (R : Nat → Nat → Bool) (n : Nat) (pl : Nat → Bool) (j : Nat) : Bool := pl j || anyN (fun a => !pl a && R a j) n
def lpN (R : Nat → Nat → Bool) (n : Nat) (pl : Nat → Bool) : Nat := fstN (fun i => !wtB R n pl i) n 0
theorem s_G_lowestPossible {h : sn_H} {g n : Nat} {γ : sn_V} {R : Nat → Nat → Bool} {pl : Nat → Bool} {x : Int32} {Q : Option Value → sn_H → Prop} (S : GrS h g) (hn : n ≤ 17) (h0 : γ 0 0 = nI n)
    (hR : ∀ i j, i < n → j < 32 → (bitP (γ 4 i) j ↔ R i j = true)) (hp : ∀ j, j < 32 → (bitP x j ↔ pl j = true))
    (H : Q (some (.int (if lpN R n pl = n then -(nI 1) else nI (lpN R n pl)))) (hpg h g γ)) :
    wpE 60 0 [some (.ref g), some (.int x), none, none] [] (hpg h g γ) (0, 0) Q := by
  have eh : hG (hpg h g γ) g 0 = nI n := by rw [hpg_get0]; exact h0
  have second : ∀ (y : Int32), (∀ j, j < 32 → (bitP y j ↔ wtB R n pl j = true)) → ∀ (m i : Nat), i + m = n → lpN R n pl = fstN (fun i => !wtB R n pl i) m i →
      wpE 60 37 [some (.ref g), none, some (.int y), some (.int (nI i))] [] (hpg h g γ) (0, 0) Q := by
    intro y hy m
    induction m with
    | zero =>
      intro i hi e
      have hin : i = n := by omega
      have e' : lpN R n pl = n := e.trans hin
      rw [if_pos e'] at H
      refine r_G_lowestPossible_37 S.1 (fun _ => H) (fun z => ?_) (fun z => ?_)
      all_goals (rw [eh] at z; have := nle_nI z (by omega) (by omega); omega)
    | succ m ih =>
      intro i hi e
      have e' : lpN R n pl = if (!wtB R n pl i) = true then i else fstN (fun i => !wtB R n pl i) m (i + 1) := e
      refine r_G_lowestPossible_37 S.1 (fun z => ?_) (fun _ z => ?_) (fun _ z => ?_)
      · rw [eh] at z; exact absurd z (nI_ge (by omega) (by omega))
      · have w : wtB R n pl i = false := Bool.eq_false_iff.mpr (fun q => z ((hy i (by omega)).mpr q))
        rw [w] at e'
        have e' : lpN R n pl = i := e'
        rw [e', if_neg (by omega)] at H
        exact H
      · have w : wtB R n pl i = true := (hy i (by omega)).mp z
        rw [w] at e'
        rw [nI_s]
        exact ih (i + 1) (by omega) e'
  refine r_G_lowestPossible_0 ?_
  suffices ∀ (m i : Nat) (y : Int32), i + m = n → (∀ j, j < 32 → (bitP y j ↔ (pl j = true ∨ ∃ a, a < i ∧ pl a = false ∧ R a j = true))) → wpE 60 4 [some (.ref g), some (.int x), some (.int y), some (.int (nI i))] [] (hpg h g γ) (0, 0) Q from
    this n 0 x (Nat.zero_add _) (fun j hj => (hp j hj).trans ⟨Or.inl, fun q => q.elim id (fun ⟨a, ha, _⟩ => absurd ha (Nat.not_lt_zero a))⟩)
  intro m
  induction m with
  | zero =>
    intro i y hi hy
    have hin : i = n := by omega
    subst hin
    refine r_G_lowestPossible_4 S.1 S.f4.1 S.f4.2 (fun _ => ?_) (fun z => ?_) (fun z => ?_) (fun z => ?_)
    · refine second y (fun j hj => ?_) i 0 (Nat.zero_add _) rfl
      rw [hy j hj]
      unfold wtB
      rw [Bool.or_eq_true, anyN_t]
      constructor
      · rintro (q | ⟨a, q1, q2, q3⟩)
        · exact Or.inl q
        · exact Or.inr ⟨a, q1, by rw [q2, q3]; rfl⟩
      · rintro (q | ⟨a, q1, q2⟩)
        · exact Or.inl q
        · rw [Bool.and_eq_true, Bool.not_eq_true'] at q2
          exact Or.inr ⟨a, q1, q2.1, q2.2⟩
    all_goals (rw [eh] at z; have := nle_nI z (by omega) (by omega); omega)
  | succ m ih =>
    intro i y hi hy
    have ci : (nI i).toNatClampNeg = i := cl (by omega)
    refine r_G_lowestPossible_4 S.1 S.f4.1 S.f4.2 (fun z => ?_) (fun _ _ => inb (by omega)) (fun _ z => ?_) (fun _ z => ?_)
    · rw [eh] at z; exact absurd z (nI_ge (by omega) (by omega))
    · have w : pl i = false := Bool.eq_false_iff.mpr (fun q => z ((hp i (by omega)).mpr q))
      rw [ci, hpg_get (by decide), nI_s]
      refine ih (i + 1) _ (by omega) (fun j hj => ?_)
      rw [bitP_or hj, hy j hj, hR i j (by omega) hj]
      constructor
      · rintro ((q | ⟨a, q1, q2⟩) | q)
        · exact Or.inl q
        · exact Or.inr ⟨a, by omega, q2⟩
        · exact Or.inr ⟨i, by omega, w, q⟩
      · rintro (q | ⟨a, q1, q2, q3⟩)
        · exact Or.inl (Or.inl q)
        · by_cases e : a = i
          · rw [e] at q3; exact Or.inr q3
          · exact Or.inl (Or.inr ⟨a, by omega, q2, q3⟩)
    · have w : pl i = true := (hp i (by omega)).mp z
      rw [nI_s]
      refine ih (i + 1) _ (by omega) (fun j hj => ?_)
      rw [hy j hj]
      constructor
      · rintro (q | ⟨a, q1, q2⟩)
        · exact Or.inl q
        · exact Or.inr ⟨a, by omega, q2⟩
      · rintro (q | ⟨a, q1, q2, q3⟩)
        · exact Or.inl q
        · by_cases e : a = i
          · rw [e, w] at q2; exact absurd q2 (by decide)
          · exact Or.inr ⟨a, by omega, q2, q3⟩
/-- the places that are taken after t steps of the order, and the t-th node -/
def opl (R : Nat → Nat → Bool) (n : Nat) : Nat → Nat → Bool
  | 0, _ => false
  | t + 1, i => opl R n t i || decide (i = lpN R n (opl R n t))
def odN (R : Nat → Nat → Bool) (n t : Nat) : Nat := lpN R n (opl R n t)
theorem s_G_findOrder {h : sn_H} {g n : Nat} {γ0 : sn_V} {R : Nat → Nat → Bool} {nn : Nat → Nat} {Q : Option Value → sn_H → Prop} (S : GrS h g) (hn : n ≤ 17) (h0 : γ0 0 0 = nI n)
    (hR : ∀ i j, i < n → j < 32 → (bitP (γ0 4 i) j ↔ R i j = true)) (h2 : ∀ j, j < n → γ0 2 j = nI (nn j))
    (H : ∀ γ q, (∀ j k, j ≠ 8 → ¬ (j = 0 ∧ k = 9) → γ j k = γ0 j k) → γ 0 9 = nI q → (q = n ∧ (∀ t, t < n → odN R n t < n) ∨ q = 0 ∧ ∃ t, t < n ∧ (∀ u, u < t → odN R n u < n) ∧ odN R n t = n) → (∀ t, t < q → γ 8 t = nI (nn (odN R n t))) → Q none (hpg h g γ)) :
    wpE 59 0 [some (.ref g), none, none, none] [] (hpg h g γ0) (0, 0) Q := by
  refine r_G_findOrder_0 S.1 ?_
  rw [hpg_set0]
  suffices ∀ (m t : Nat) (γ : sn_V) (x : Int32), t + m = n → (∀ j k, j ≠ 8 → ¬ (j = 0 ∧ k = 9) → γ j k = γ0 j k) → γ 0 9 = nI t → (∀ u, u < t → odN R n u < n) → (∀ u, u < t → γ 8 u = nI (nn (odN R n u))) → (∀ j, j < 32 → (bitP x j ↔ opl R n t j = true)) →
      wpE 59 9 [some (.ref g), some (.int x), some (.int (nI t)), none] [] (hpg h g γ) (0, 0) Q from
    this n 0 _ (nI 0) (Nat.zero_add _) (fun j k hj hk => up_n hk) up_s (fun u hu => absurd hu (Nat.not_lt_zero u)) (fun u hu => absurd hu (Nat.not_lt_zero u)) (fun j hj => ⟨fun z => absurd z (bitP_n0 hj), fun z => absurd z (by show ¬ false = true; decide)⟩)
  intro m
  induction m with
  | zero =>
    intro t γ x ht hγ h9 ho h8 hx
    have htn : t = n := by omega
    have eh : hG (hpg h g γ) g 0 = nI n := by rw [hpg_get0, hγ 0 0 (by omega) (by omega)]; exact h0
    refine r_G_findOrder_9 S.1 (fun _ => ?_) (fun z => ?_)
    · exact H γ t hγ h9 (Or.inl ⟨htn, fun u hu => ho u (by omega)⟩) h8
    · rw [eh] at z; have := nle_nI z (by omega) (by omega); omega
  | succ m ih =>
    intro t γ x ht hγ h9 ho h8 hx
    have eh : hG (hpg h g γ) g 0 = nI n := by rw [hpg_get0, hγ 0 0 (by omega) (by omega)]; exact h0
    have e9 : hG (hpg h g γ) g 9 = nI t := by rw [hpg_get0]; exact h9
    have le : odN R n t ≤ n := by have := @fstN_le (fun i => !wtB R n (opl R n t) i) n 0; rw [Nat.zero_add] at this; exact this
    refine r_G_findOrder_9 S.1 (fun z => ?_) (fun _ => ?_)
    · rw [eh] at z; exact absurd z (nI_ge (by omega) (by omega))
    · refine s_G_lowestPossible (R := R) (pl := opl R n t) S hn ((hγ 0 0 (by omega) (by omega)).trans h0) (fun i j hi hj => by rw [hγ 4 i (by omega) (by omega)]; exact hR i j hi hj) hx ?_
      show wpE 59 22 [some (.ref g), some (.int x), some (.int (nI t)), none] [.int (if odN R n t = n then -(nI 1) else nI (odN R n t))] (hpg h g γ) (0, 0) Q
      by_cases e : odN R n t = n
      · rw [if_pos e]
        refine r_G_findOrder_22 S.1 S.f8.1 S.f2.1 S.f2.2 S.f8.2 (fun z => absurd z (by decide)) (fun z => absurd z (by decide)) (fun z => absurd z (by decide)) (fun _ => ?_)
        rw [hpg_set0]
        exact H _ 0 (fun j k hj hk => by rw [up_n hk]; exact hγ j k hj hk) up_s (Or.inr ⟨rfl, t, by omega, ho, e⟩) (fun u hu => absurd hu (Nat.not_lt_zero u))
      · rw [if_neg e]
        have lt : odN R n t < n := by omega
        refine r_G_findOrder_22 S.1 S.f8.1 S.f2.1 S.f2.2 S.f8.2 (fun _ => inb (by omega)) (fun _ => by rw [e9]; exact inb (by omega)) (fun _ => ?_) (fun z => ?_)
        · rw [e9, cl (by omega : t < 2 ^ 31), cl (by omega : odN R n t < 2 ^ 31), hpg_get (by decide), hγ 2 _ (by omega) (by omega), h2 _ lt, hpg_set (by decide), hpg_get0, hpg_set0, up_n (by omega), h9, nI_s]
          refine r_G_findOrder_44 ?_
          rw [nI_s]
          refine ih (t + 1) _ _ (by omega) (fun j k hj hk => ?_) up_s (fun u hu => ?_) (fun u hu => ?_) (fun j hj => ?_)
          · rw [up_n (by omega), up_n (by omega)]; exact hγ j k hj hk
          · by_cases w : u = t
            · rw [w]; exact lt
            · exact ho u (by omega)
          · rw [up_n (by omega)]
            by_cases w : u = t
            · rw [w, up_s]
            · rw [up_n (by omega)]; exact h8 u (by omega)
          · rw [bitP_put (by omega) hj, hx j hj]
            show _ ↔ (opl R n t j || decide (j = odN R n t)) = true
            rw [Bool.or_eq_true, decide_eq_true_iff]
        · rw [← nI_0] at z
          exact absurd (nI_le (Nat.zero_le _) (by omega)) z
end
