section
-- ===== PART A: goes FIRST, ahead of the names: the tables' words, and 'selects' of the private methods out of them =====
/-- a private method of a class that the tables say can be made, by its rows of tables_1 -/
def lw_okq (q : MethodName × Nat) : Prop := (q.1.cls ≠ "java/lang/invoke/MethodHandle" ∧ q.1.cls ≠ "java/lang/invoke/VarHandle") ∧ Cond.instantiable q.1.cls q.2 ∈ tables_1 ∧ Cond.privateMethod q.1 ∈ tables_1 ∧ Cond.instanceMethod q.1 ∈ tables_1
theorem lw_p0 : lw_okq (⟨"SharedWire$Reader", "hasWholeFrame", "()Z"⟩, 9) := ⟨⟨by decide +kernel, by decide +kernel⟩, List.mem_of_getElem? (i := 60) (by decide +kernel), List.mem_of_getElem? (i := 253) (by decide +kernel), List.mem_of_getElem? (i := 254) (by decide +kernel)⟩
theorem lw_p1 : lw_okq (⟨"SharedWire$Reader", "takeTail", "(I)I"⟩, 9) := ⟨⟨by decide +kernel, by decide +kernel⟩, List.mem_of_getElem? (i := 60) (by decide +kernel), List.mem_of_getElem? (i := 257) (by decide +kernel), List.mem_of_getElem? (i := 258) (by decide +kernel)⟩
theorem lw_p2 : lw_okq (⟨"SharedWire$Reader", "takeFramed", "(I)V"⟩, 9) := ⟨⟨by decide +kernel, by decide +kernel⟩, List.mem_of_getElem? (i := 60) (by decide +kernel), List.mem_of_getElem? (i := 261) (by decide +kernel), List.mem_of_getElem? (i := 262) (by decide +kernel)⟩
theorem lw_p3 : lw_okq (⟨"SharedWire$Reader", "takeHead", "(II)V"⟩, 9) := ⟨⟨by decide +kernel, by decide +kernel⟩, List.mem_of_getElem? (i := 60) (by decide +kernel), List.mem_of_getElem? (i := 268) (by decide +kernel), List.mem_of_getElem? (i := 269) (by decide +kernel)⟩
theorem lw_p4 : lw_okq (⟨"SharedWire$Reader", "takeSize", "(II)V"⟩, 9) := ⟨⟨by decide +kernel, by decide +kernel⟩, List.mem_of_getElem? (i := 60) (by decide +kernel), List.mem_of_getElem? (i := 272) (by decide +kernel), List.mem_of_getElem? (i := 273) (by decide +kernel)⟩
theorem lw_p5 : lw_okq (⟨"SharedWire$Reader", "takeData", "(II)V"⟩, 9) := ⟨⟨by decide +kernel, by decide +kernel⟩, List.mem_of_getElem? (i := 60) (by decide +kernel), List.mem_of_getElem? (i := 279) (by decide +kernel), List.mem_of_getElem? (i := 280) (by decide +kernel)⟩
theorem lw_p6 : lw_okq (⟨"java/lang/Throwable", "fillInStackTrace", "(I)Ljava/lang/Throwable;"⟩, 6) := ⟨⟨by decide +kernel, by decide +kernel⟩, List.mem_of_getElem? (i := 335) (by decide +kernel), List.mem_of_getElem? (i := 333) (by decide +kernel), List.mem_of_getElem? (i := 334) (by decide +kernel)⟩
theorem lw_p7 : lw_okq (⟨"SharedWire", "oneStep", "(I)I"⟩, 7) := ⟨⟨by decide +kernel, by decide +kernel⟩, List.mem_of_getElem? (i := 16) (by decide +kernel), List.mem_of_getElem? (i := 402) (by decide +kernel), List.mem_of_getElem? (i := 403) (by decide +kernel)⟩
theorem lw_p8 : lw_okq (⟨"SharedWire", "brokenStep", "()I"⟩, 7) := ⟨⟨by decide +kernel, by decide +kernel⟩, List.mem_of_getElem? (i := 16) (by decide +kernel), List.mem_of_getElem? (i := 406) (by decide +kernel), List.mem_of_getElem? (i := 407) (by decide +kernel)⟩
theorem lw_p9 : lw_okq (⟨"SharedWire", "beginPause", "()V"⟩, 7) := ⟨⟨by decide +kernel, by decide +kernel⟩, List.mem_of_getElem? (i := 16) (by decide +kernel), List.mem_of_getElem? (i := 410) (by decide +kernel), List.mem_of_getElem? (i := 411) (by decide +kernel)⟩
theorem lw_p10 : lw_okq (⟨"SharedWire", "pauseStep", "()I"⟩, 7) := ⟨⟨by decide +kernel, by decide +kernel⟩, List.mem_of_getElem? (i := 16) (by decide +kernel), List.mem_of_getElem? (i := 414) (by decide +kernel), List.mem_of_getElem? (i := 415) (by decide +kernel)⟩
theorem lw_p11 : lw_okq (⟨"SharedWire", "startSenders", "()V"⟩, 7) := ⟨⟨by decide +kernel, by decide +kernel⟩, List.mem_of_getElem? (i := 16) (by decide +kernel), List.mem_of_getElem? (i := 418) (by decide +kernel), List.mem_of_getElem? (i := 419) (by decide +kernel)⟩
theorem lw_p12 : lw_okq (⟨"SharedWire$Line", "clear", "()V"⟩, 8) := ⟨⟨by decide +kernel, by decide +kernel⟩, List.mem_of_getElem? (i := 26) (by decide +kernel), List.mem_of_getElem? (i := 440) (by decide +kernel), List.mem_of_getElem? (i := 441) (by decide +kernel)⟩
theorem lw_p13 : lw_okq (⟨"SharedWire$Line", "addNumber", "(II)V"⟩, 8) := ⟨⟨by decide +kernel, by decide +kernel⟩, List.mem_of_getElem? (i := 26) (by decide +kernel), List.mem_of_getElem? (i := 444) (by decide +kernel), List.mem_of_getElem? (i := 445) (by decide +kernel)⟩
theorem lw_p14 : lw_okq (⟨"SharedWire$Line", "append", "(II)V"⟩, 8) := ⟨⟨by decide +kernel, by decide +kernel⟩, List.mem_of_getElem? (i := 26) (by decide +kernel), List.mem_of_getElem? (i := 448) (by decide +kernel), List.mem_of_getElem? (i := 449) (by decide +kernel)⟩
theorem lw_p15 : lw_okq (⟨"SharedWire", "levelSent", "()I"⟩, 7) := ⟨⟨by decide +kernel, by decide +kernel⟩, List.mem_of_getElem? (i := 16) (by decide +kernel), List.mem_of_getElem? (i := 455) (by decide +kernel), List.mem_of_getElem? (i := 456) (by decide +kernel)⟩
def lw_privs_1 : List (MethodName × Nat) := [(⟨"SharedWire$Reader", "hasWholeFrame", "()Z"⟩, 9), (⟨"SharedWire$Reader", "takeTail", "(I)I"⟩, 9), (⟨"SharedWire$Reader", "takeFramed", "(I)V"⟩, 9), (⟨"SharedWire$Reader", "takeHead", "(II)V"⟩, 9), (⟨"SharedWire$Reader", "takeSize", "(II)V"⟩, 9), (⟨"SharedWire$Reader", "takeData", "(II)V"⟩, 9), (⟨"java/lang/Throwable", "fillInStackTrace", "(I)Ljava/lang/Throwable;"⟩, 6), (⟨"SharedWire", "oneStep", "(I)I"⟩, 7), (⟨"SharedWire", "brokenStep", "()I"⟩, 7), (⟨"SharedWire", "beginPause", "()V"⟩, 7), (⟨"SharedWire", "pauseStep", "()I"⟩, 7), (⟨"SharedWire", "startSenders", "()V"⟩, 7), (⟨"SharedWire$Line", "clear", "()V"⟩, 8), (⟨"SharedWire$Line", "addNumber", "(II)V"⟩, 8), (⟨"SharedWire$Line", "append", "(II)V"⟩, 8), (⟨"SharedWire", "levelSent", "()I"⟩, 7)]
theorem lw_r1 : ∀ q ∈ lw_privs_1, lw_okq q := List.forall_mem_cons.mpr ⟨lw_p0, List.forall_mem_cons.mpr ⟨lw_p1, List.forall_mem_cons.mpr ⟨lw_p2, List.forall_mem_cons.mpr ⟨lw_p3, List.forall_mem_cons.mpr ⟨lw_p4, List.forall_mem_cons.mpr ⟨lw_p5, List.forall_mem_cons.mpr ⟨lw_p6, List.forall_mem_cons.mpr ⟨lw_p7, List.forall_mem_cons.mpr ⟨lw_p8, List.forall_mem_cons.mpr ⟨lw_p9, List.forall_mem_cons.mpr ⟨lw_p10, List.forall_mem_cons.mpr ⟨lw_p11, List.forall_mem_cons.mpr ⟨lw_p12, List.forall_mem_cons.mpr ⟨lw_p13, List.forall_mem_cons.mpr ⟨lw_p14, List.forall_mem_cons.mpr ⟨lw_p15, fun _ h => absurd h List.not_mem_nil⟩⟩⟩⟩⟩⟩⟩⟩⟩⟩⟩⟩⟩⟩⟩⟩
theorem lw_p16 : lw_okq (⟨"SharedWire", "someFindFaults", "(II)Z"⟩, 7) := ⟨⟨by decide +kernel, by decide +kernel⟩, List.mem_of_getElem? (i := 16) (by decide +kernel), List.mem_of_getElem? (i := 471) (by decide +kernel), List.mem_of_getElem? (i := 472) (by decide +kernel)⟩
theorem lw_p17 : lw_okq (⟨"SharedWire$Node", "lookAsSender", "(I)V"⟩, 15) := ⟨⟨by decide +kernel, by decide +kernel⟩, List.mem_of_getElem? (i := 129) (by decide +kernel), List.mem_of_getElem? (i := 479) (by decide +kernel), List.mem_of_getElem? (i := 480) (by decide +kernel)⟩
theorem lw_p18 : lw_okq (⟨"SharedWire", "breakOff", "()V"⟩, 7) := ⟨⟨by decide +kernel, by decide +kernel⟩, List.mem_of_getElem? (i := 16) (by decide +kernel), List.mem_of_getElem? (i := 492) (by decide +kernel), List.mem_of_getElem? (i := 493) (by decide +kernel)⟩
theorem lw_p19 : lw_okq (⟨"SharedWire", "goOn", "()V"⟩, 7) := ⟨⟨by decide +kernel, by decide +kernel⟩, List.mem_of_getElem? (i := 16) (by decide +kernel), List.mem_of_getElem? (i := 500) (by decide +kernel), List.mem_of_getElem? (i := 501) (by decide +kernel)⟩
theorem lw_p20 : lw_okq (⟨"SharedWire$Node", "endSending", "()V"⟩, 15) := ⟨⟨by decide +kernel, by decide +kernel⟩, List.mem_of_getElem? (i := 129) (by decide +kernel), List.mem_of_getElem? (i := 508) (by decide +kernel), List.mem_of_getElem? (i := 509) (by decide +kernel)⟩
theorem lw_p21 : lw_okq (⟨"SharedWire$Node", "removeWanted", "(I)V"⟩, 15) := ⟨⟨by decide +kernel, by decide +kernel⟩, List.mem_of_getElem? (i := 129) (by decide +kernel), List.mem_of_getElem? (i := 515) (by decide +kernel), List.mem_of_getElem? (i := 516) (by decide +kernel)⟩
theorem lw_p22 : lw_okq (⟨"SharedWire$Node", "endReading", "()V"⟩, 15) := ⟨⟨by decide +kernel, by decide +kernel⟩, List.mem_of_getElem? (i := 129) (by decide +kernel), List.mem_of_getElem? (i := 520) (by decide +kernel), List.mem_of_getElem? (i := 521) (by decide +kernel)⟩
theorem lw_p23 : lw_okq (⟨"SharedWire", "isOnTape", "(I)Z"⟩, 7) := ⟨⟨by decide +kernel, by decide +kernel⟩, List.mem_of_getElem? (i := 16) (by decide +kernel), List.mem_of_getElem? (i := 582) (by decide +kernel), List.mem_of_getElem? (i := 583) (by decide +kernel)⟩
theorem lw_p24 : lw_okq (⟨"SharedWireModel", "oneStep", "(I)I"⟩, 35) := ⟨⟨by decide +kernel, by decide +kernel⟩, List.mem_of_getElem? (i := 593) (by decide +kernel), List.mem_of_getElem? (i := 723) (by decide +kernel), List.mem_of_getElem? (i := 724) (by decide +kernel)⟩
theorem lw_p25 : lw_okq (⟨"SharedWireModel", "liveStep", "(I)I"⟩, 35) := ⟨⟨by decide +kernel, by decide +kernel⟩, List.mem_of_getElem? (i := 593) (by decide +kernel), List.mem_of_getElem? (i := 727) (by decide +kernel), List.mem_of_getElem? (i := 728) (by decide +kernel)⟩
theorem lw_p26 : lw_okq (⟨"SharedWireModel", "offerAll", "()V"⟩, 35) := ⟨⟨by decide +kernel, by decide +kernel⟩, List.mem_of_getElem? (i := 593) (by decide +kernel), List.mem_of_getElem? (i := 731) (by decide +kernel), List.mem_of_getElem? (i := 732) (by decide +kernel)⟩
theorem lw_p27 : lw_okq (⟨"SharedWireModel", "offer", "(I)I"⟩, 35) := ⟨⟨by decide +kernel, by decide +kernel⟩, List.mem_of_getElem? (i := 593) (by decide +kernel), List.mem_of_getElem? (i := 735) (by decide +kernel), List.mem_of_getElem? (i := 736) (by decide +kernel)⟩
theorem lw_p28 : lw_okq (⟨"SharedWireModel", "comesFirst", "(II)Z"⟩, 35) := ⟨⟨by decide +kernel, by decide +kernel⟩, List.mem_of_getElem? (i := 593) (by decide +kernel), List.mem_of_getElem? (i := 739) (by decide +kernel), List.mem_of_getElem? (i := 740) (by decide +kernel)⟩
theorem lw_p29 : lw_okq (⟨"SharedWireModel", "make", "(II)V"⟩, 35) := ⟨⟨by decide +kernel, by decide +kernel⟩, List.mem_of_getElem? (i := 593) (by decide +kernel), List.mem_of_getElem? (i := 746) (by decide +kernel), List.mem_of_getElem? (i := 747) (by decide +kernel)⟩
theorem lw_p30 : lw_okq (⟨"SharedWireModel", "say", "(II)V"⟩, 35) := ⟨⟨by decide +kernel, by decide +kernel⟩, List.mem_of_getElem? (i := 593) (by decide +kernel), List.mem_of_getElem? (i := 750) (by decide +kernel), List.mem_of_getElem? (i := 751) (by decide +kernel)⟩
theorem lw_p31 : lw_okq (⟨"SharedWireModel", "lay", "(IIII)I"⟩, 35) := ⟨⟨by decide +kernel, by decide +kernel⟩, List.mem_of_getElem? (i := 593) (by decide +kernel), List.mem_of_getElem? (i := 758) (by decide +kernel), List.mem_of_getElem? (i := 759) (by decide +kernel)⟩
def lw_privs_2 : List (MethodName × Nat) := [(⟨"SharedWire", "someFindFaults", "(II)Z"⟩, 7), (⟨"SharedWire$Node", "lookAsSender", "(I)V"⟩, 15), (⟨"SharedWire", "breakOff", "()V"⟩, 7), (⟨"SharedWire", "goOn", "()V"⟩, 7), (⟨"SharedWire$Node", "endSending", "()V"⟩, 15), (⟨"SharedWire$Node", "removeWanted", "(I)V"⟩, 15), (⟨"SharedWire$Node", "endReading", "()V"⟩, 15), (⟨"SharedWire", "isOnTape", "(I)Z"⟩, 7), (⟨"SharedWireModel", "oneStep", "(I)I"⟩, 35), (⟨"SharedWireModel", "liveStep", "(I)I"⟩, 35), (⟨"SharedWireModel", "offerAll", "()V"⟩, 35), (⟨"SharedWireModel", "offer", "(I)I"⟩, 35), (⟨"SharedWireModel", "comesFirst", "(II)Z"⟩, 35), (⟨"SharedWireModel", "make", "(II)V"⟩, 35), (⟨"SharedWireModel", "say", "(II)V"⟩, 35), (⟨"SharedWireModel", "lay", "(IIII)I"⟩, 35)]
theorem lw_r2 : ∀ q ∈ lw_privs_2, lw_okq q := List.forall_mem_cons.mpr ⟨lw_p16, List.forall_mem_cons.mpr ⟨lw_p17, List.forall_mem_cons.mpr ⟨lw_p18, List.forall_mem_cons.mpr ⟨lw_p19, List.forall_mem_cons.mpr ⟨lw_p20, List.forall_mem_cons.mpr ⟨lw_p21, List.forall_mem_cons.mpr ⟨lw_p22, List.forall_mem_cons.mpr ⟨lw_p23, List.forall_mem_cons.mpr ⟨lw_p24, List.forall_mem_cons.mpr ⟨lw_p25, List.forall_mem_cons.mpr ⟨lw_p26, List.forall_mem_cons.mpr ⟨lw_p27, List.forall_mem_cons.mpr ⟨lw_p28, List.forall_mem_cons.mpr ⟨lw_p29, List.forall_mem_cons.mpr ⟨lw_p30, List.forall_mem_cons.mpr ⟨lw_p31, fun _ h => absurd h List.not_mem_nil⟩⟩⟩⟩⟩⟩⟩⟩⟩⟩⟩⟩⟩⟩⟩⟩
theorem lw_p32 : lw_okq (⟨"SharedWireModel", "begin", "(I)V"⟩, 35) := ⟨⟨by decide +kernel, by decide +kernel⟩, List.mem_of_getElem? (i := 593) (by decide +kernel), List.mem_of_getElem? (i := 762) (by decide +kernel), List.mem_of_getElem? (i := 763) (by decide +kernel)⟩
theorem lw_p33 : lw_okq (⟨"SharedWireModel", "sends", "(I)I"⟩, 35) := ⟨⟨by decide +kernel, by decide +kernel⟩, List.mem_of_getElem? (i := 593) (by decide +kernel), List.mem_of_getElem? (i := 766) (by decide +kernel), List.mem_of_getElem? (i := 767) (by decide +kernel)⟩
theorem lw_p34 : lw_okq (⟨"SharedWireModel", "answers", "(I)Z"⟩, 35) := ⟨⟨by decide +kernel, by decide +kernel⟩, List.mem_of_getElem? (i := 593) (by decide +kernel), List.mem_of_getElem? (i := 770) (by decide +kernel), List.mem_of_getElem? (i := 771) (by decide +kernel)⟩
theorem lw_p35 : lw_okq (⟨"SharedWireModel", "isRight", "(I)Z"⟩, 35) := ⟨⟨by decide +kernel, by decide +kernel⟩, List.mem_of_getElem? (i := 593) (by decide +kernel), List.mem_of_getElem? (i := 774) (by decide +kernel), List.mem_of_getElem? (i := 775) (by decide +kernel)⟩
theorem lw_p36 : lw_okq (⟨"SharedWireModel", "number", "(III)I"⟩, 35) := ⟨⟨by decide +kernel, by decide +kernel⟩, List.mem_of_getElem? (i := 593) (by decide +kernel), List.mem_of_getElem? (i := 778) (by decide +kernel), List.mem_of_getElem? (i := 779) (by decide +kernel)⟩
theorem lw_p37 : lw_okq (⟨"SharedWireModel", "sees", "(II)I"⟩, 35) := ⟨⟨by decide +kernel, by decide +kernel⟩, List.mem_of_getElem? (i := 593) (by decide +kernel), List.mem_of_getElem? (i := 782) (by decide +kernel), List.mem_of_getElem? (i := 783) (by decide +kernel)⟩
theorem lw_p38 : lw_okq (⟨"SharedWireModel", "saw", "(II)I"⟩, 35) := ⟨⟨by decide +kernel, by decide +kernel⟩, List.mem_of_getElem? (i := 593) (by decide +kernel), List.mem_of_getElem? (i := 786) (by decide +kernel), List.mem_of_getElem? (i := 787) (by decide +kernel)⟩
theorem lw_p39 : lw_okq (⟨"SharedWireModel", "take", "(II)I"⟩, 35) := ⟨⟨by decide +kernel, by decide +kernel⟩, List.mem_of_getElem? (i := 593) (by decide +kernel), List.mem_of_getElem? (i := 790) (by decide +kernel), List.mem_of_getElem? (i := 791) (by decide +kernel)⟩
theorem lw_p40 : lw_okq (⟨"SharedWireModel", "takeTail", "(II)I"⟩, 35) := ⟨⟨by decide +kernel, by decide +kernel⟩, List.mem_of_getElem? (i := 593) (by decide +kernel), List.mem_of_getElem? (i := 794) (by decide +kernel), List.mem_of_getElem? (i := 795) (by decide +kernel)⟩
theorem lw_p41 : lw_okq (⟨"SharedWireModel", "isLong", "(I)Z"⟩, 35) := ⟨⟨by decide +kernel, by decide +kernel⟩, List.mem_of_getElem? (i := 593) (by decide +kernel), List.mem_of_getElem? (i := 798) (by decide +kernel), List.mem_of_getElem? (i := 799) (by decide +kernel)⟩
theorem lw_p42 : lw_okq (⟨"SharedWireModel", "bytesOf", "(I)I"⟩, 35) := ⟨⟨by decide +kernel, by decide +kernel⟩, List.mem_of_getElem? (i := 593) (by decide +kernel), List.mem_of_getElem? (i := 802) (by decide +kernel), List.mem_of_getElem? (i := 803) (by decide +kernel)⟩
theorem lw_p43 : lw_okq (⟨"SharedWireModel", "sentOne", "(I)I"⟩, 35) := ⟨⟨by decide +kernel, by decide +kernel⟩, List.mem_of_getElem? (i := 593) (by decide +kernel), List.mem_of_getElem? (i := 806) (by decide +kernel), List.mem_of_getElem? (i := 807) (by decide +kernel)⟩
theorem lw_p44 : lw_okq (⟨"SharedWireModel", "idle", "(II)I"⟩, 35) := ⟨⟨by decide +kernel, by decide +kernel⟩, List.mem_of_getElem? (i := 593) (by decide +kernel), List.mem_of_getElem? (i := 810) (by decide +kernel), List.mem_of_getElem? (i := 811) (by decide +kernel)⟩
theorem lw_p45 : lw_okq (⟨"SharedWireModel", "breakOff", "(I)V"⟩, 35) := ⟨⟨by decide +kernel, by decide +kernel⟩, List.mem_of_getElem? (i := 593) (by decide +kernel), List.mem_of_getElem? (i := 814) (by decide +kernel), List.mem_of_getElem? (i := 815) (by decide +kernel)⟩
theorem lw_p46 : lw_okq (⟨"SharedWireModel", "finish", "(I)V"⟩, 35) := ⟨⟨by decide +kernel, by decide +kernel⟩, List.mem_of_getElem? (i := 593) (by decide +kernel), List.mem_of_getElem? (i := 818) (by decide +kernel), List.mem_of_getElem? (i := 819) (by decide +kernel)⟩
theorem lw_p47 : lw_okq (⟨"SharedWireModel", "forget", "(I)V"⟩, 35) := ⟨⟨by decide +kernel, by decide +kernel⟩, List.mem_of_getElem? (i := 593) (by decide +kernel), List.mem_of_getElem? (i := 822) (by decide +kernel), List.mem_of_getElem? (i := 823) (by decide +kernel)⟩
def lw_privs_3 : List (MethodName × Nat) := [(⟨"SharedWireModel", "begin", "(I)V"⟩, 35), (⟨"SharedWireModel", "sends", "(I)I"⟩, 35), (⟨"SharedWireModel", "answers", "(I)Z"⟩, 35), (⟨"SharedWireModel", "isRight", "(I)Z"⟩, 35), (⟨"SharedWireModel", "number", "(III)I"⟩, 35), (⟨"SharedWireModel", "sees", "(II)I"⟩, 35), (⟨"SharedWireModel", "saw", "(II)I"⟩, 35), (⟨"SharedWireModel", "take", "(II)I"⟩, 35), (⟨"SharedWireModel", "takeTail", "(II)I"⟩, 35), (⟨"SharedWireModel", "isLong", "(I)Z"⟩, 35), (⟨"SharedWireModel", "bytesOf", "(I)I"⟩, 35), (⟨"SharedWireModel", "sentOne", "(I)I"⟩, 35), (⟨"SharedWireModel", "idle", "(II)I"⟩, 35), (⟨"SharedWireModel", "breakOff", "(I)V"⟩, 35), (⟨"SharedWireModel", "finish", "(I)V"⟩, 35), (⟨"SharedWireModel", "forget", "(I)V"⟩, 35)]
theorem lw_r3 : ∀ q ∈ lw_privs_3, lw_okq q := List.forall_mem_cons.mpr ⟨lw_p32, List.forall_mem_cons.mpr ⟨lw_p33, List.forall_mem_cons.mpr ⟨lw_p34, List.forall_mem_cons.mpr ⟨lw_p35, List.forall_mem_cons.mpr ⟨lw_p36, List.forall_mem_cons.mpr ⟨lw_p37, List.forall_mem_cons.mpr ⟨lw_p38, List.forall_mem_cons.mpr ⟨lw_p39, List.forall_mem_cons.mpr ⟨lw_p40, List.forall_mem_cons.mpr ⟨lw_p41, List.forall_mem_cons.mpr ⟨lw_p42, List.forall_mem_cons.mpr ⟨lw_p43, List.forall_mem_cons.mpr ⟨lw_p44, List.forall_mem_cons.mpr ⟨lw_p45, List.forall_mem_cons.mpr ⟨lw_p46, List.forall_mem_cons.mpr ⟨lw_p47, fun _ h => absurd h List.not_mem_nil⟩⟩⟩⟩⟩⟩⟩⟩⟩⟩⟩⟩⟩⟩⟩⟩
theorem lw_p48 : lw_okq (⟨"SharedWireModel", "keep", "(I)V"⟩, 35) := ⟨⟨by decide +kernel, by decide +kernel⟩, List.mem_of_getElem? (i := 593) (by decide +kernel), List.mem_of_getElem? (i := 826) (by decide +kernel), List.mem_of_getElem? (i := 827) (by decide +kernel)⟩
def lw_privs_4 : List (MethodName × Nat) := [(⟨"SharedWireModel", "keep", "(I)V"⟩, 35)]
theorem lw_r4 : ∀ q ∈ lw_privs_4, lw_okq q := List.forall_mem_cons.mpr ⟨lw_p48, fun _ h => absurd h List.not_mem_nil⟩
def lw_privs : List (MethodName × Nat) := lw_privs_1 ++ (lw_privs_2 ++ (lw_privs_3 ++ (lw_privs_4)))
def lw_tbl : List Cond := k2_sels lw_privs ++ tables_1
theorem lw_privs_ok : ∀ q ∈ lw_privs, lw_okq q := by
  show ∀ q ∈ lw_privs_1 ++ (lw_privs_2 ++ (lw_privs_3 ++ (lw_privs_4))), lw_okq q
  exact List.forall_mem_append.mpr ⟨lw_r1, List.forall_mem_append.mpr ⟨lw_r2, List.forall_mem_append.mpr ⟨lw_r3, lw_r4⟩⟩⟩
-- ===== end of PART A; then your names; then what follows =====
end
section
/-! ===== BEGIN words of one list among another's, by their places ===== -/
theorem goodIn_r {big : List Cond} (ws : List Cond) (ps : List Nat) (hp : ws = ps.filterMap (fun i => big[i]?)) (h : ws.all goodWord = true) : GoodIn big ws := by
  intro w hw
  have h1 := List.all_eq_true.mp h w hw
  rw [hp] at hw
  obtain ⟨i, -, hi⟩ := List.mem_filterMap.mp hw
  have hm : w ∈ big := by first | exact List.mem_of_getElem? hi | exact List.getElem?_mem hi
  exact ⟨hm, good_of_word h1⟩
theorem goodIn_app {big a b : List Cond} (ha : GoodIn big a) (hb : GoodIn big b) : GoodIn big (a ++ b) := fun w h => (List.mem_append.mp h).elim (ha w) (hb w)
theorem goodIn_ca {big a b : List Cond} {c : Cond} (ha : GoodIn big (c :: a)) (hb : GoodIn big b) : GoodIn big (c :: (a ++ b)) := fun w h => (List.mem_cons.mp h).elim (fun e => ha w (List.mem_cons.mpr (Or.inl e))) (fun h => (List.mem_append.mp h).elim (fun h => ha w (List.mem_cons.mpr (Or.inr h))) (hb w))
theorem goodIn_sub {big ws : List Cond} (hm : ∀ w ∈ ws, w ∈ big) (h : ws.all goodWord = true) : GoodIn big ws := fun w hw => ⟨hm w hw, good_of_word (List.all_eq_true.mp h w hw)⟩
/-! ===== END ===== -/

/-! ===== BEGIN exceptions that leave a method, and their catching by the caller (launches without stack traces) ===== -/
section VXA
/-! The laws vx_back, vx_callV, vx_callS, vx_callSW, vx_throw0, vx_throwS follow proofs of the library, with one case more: JvmDerived/Free/Laws.lean (Back.of_free), Shelf42/LK1.lean (callV, callS), Shelf/KitTraced.lean (throwNew0V, throwNewS). -/
/-- where a method has thrown q: the class by its name, the cell, what was written, the world -/
def vx_T (XC : String → State → State → Prop) (st : State) (q : Addr) (t : State) (mc ms : Nat) (free : Addr → Prop) : Prop :=
  ∃ (E : String) (ce : Cell) (L : List Loc), XC E st t ∧ t.heap[q]? = some ce ∧ ce.vm = .none ∧ st.vm.findClass E = some ce.cls ∧ st.WarmedH t.vm ∧ st.sameButNew ({ t with vm := st.vm } : State) L mc ms ∧ ∀ z ∈ L, free z.base
def vx_Q (Qc : Array Value → State → Outcome → State → Prop) (XC : String → State → State → Prop) (mc ms : Nat) (free : Addr → Prop) : Array Value → State → Outcome → State → Prop := fun a st o t =>
  (Qc a st o t ∧ ∃ L, FrameEnd st o t L mc ms ∧ ∀ q ∈ L, free q.base) ∨ ∃ q, o = .threw q ∧ vx_T XC st q t mc ms free
/-- a callee that returns or throws -/
def vx_Met (l : Launch) (y : MethodName) (ws : List Cond) (rm : Room) (Pc : Array Value → State → Prop) (Qc : Array Value → State → Outcome → State → Prop) (XC : String → State → State → Prop) (mc ms : Nat) (free : Addr → Prop) : Prop :=
  MetFree l y (headSpec ws rm) Pc (fun _ _ _ _ _ => True) (vx_Q Qc XC mc ms free)
def vx_Post (XC : String → State → State → Prop) (mc ms : Nat) (free : Addr → Prop) : Pt → Array Value → Addr → Pt → Prop := fun A a q B =>
  ∃ (g : JFrame) (mk : MethodId) (t : State) (L : List Loc) (E : String) (ce : Cell), B.U.heap = t.heap ∧ B.U.vm = t.vm ∧ XC E (A.U.calling g mk a) t ∧ t.heap[q]? = some ce ∧ ce.vm = .none ∧ A.U.vm.findClass E = some ce.cls ∧ B.locs = A.locs ++ L ∧ (∀ z ∈ L, free z.base) ∧ B.cells = A.cells + mc ∧ B.slots = A.slots + ms
def vx_Back (l : Launch) (R : Room) (p : Program) (e : Env) (below : List Frame) (s : State) (sargs : Array Value) (y : MethodName) (len W9 : Nat)
    (Pre : Pt → Array Value → Prop) (Post : Pt → Array Value → Option Value → Pt → Prop) (PostX : Pt → Array Value → Addr → Pt → Prop) : Prop :=
  ∀ (m : MethodId) (meth : Method) (c : Code) (A : Pt) (g : JFrame) (ig : Instr) (mk : MethodId) (a : Array Value),
    Stand p l e R s m sargs below meth c A.U A.locs A.cells A.slots → g.method = m → g.locals.size = c.maxLocals → decode c.code g.pc = .ok (ig, len) →
    2 * g.monitorRoom + (g.stack.map fun v => v.category).sum ≤ W9 → A.U.methodNamed? y = some mk → Pre A a →
    (∃ (v : Option Value) (B : Pt), Stand p l e R s m sargs below meth c B.U B.locs B.cells B.slots ∧ Post A a v B ∧
      Steps p.tables e below (doInvoke e (A.U.setTop g) [] mk a).1 (B.U.setTop { g with pc := g.pc + len, stack := v.toList ++ g.stack })) ∨
    (∃ (q : Addr) (B : Pt), Stand p l e R s m sargs below meth c B.U B.locs B.cells B.slots ∧ PostX A a q B ∧
      Steps p.tables e below (doInvoke e (A.U.setTop g) [] mk a).1 ((B.U.setTop g).pushFrame (.throwing q)))
section Payer
variable {l : Launch} {R : Room} {p : Program} {e : Env} {below : List Frame} {s : State} {sargs : Array Value} {y : MethodName} {len W9 : Nat}
theorem vx_back {ws : List Cond} {rm : Room} {Pc : Array Value → State → Prop} {Qc : Array Value → State → Outcome → State → Prop} {XC : String → State → State → Prop} {mc ms : Nat} {free : Addr → Prop} {bytes : ByteArray} {maxL : Nat} {ret : Option FieldType}
    (hM : vx_Met l y ws rm Pc Qc XC mc ms free) (hblind : FrameBlind Pc) (hrc : rm.cells = mc) (hrs : rm.slots = ms)
    (hframes : rm.frames + 1 ≤ R.frames) (hlocals : W9 + (maxL + 11) + rm.locals ≤ R.locals)
    (hws : ∀ w ∈ ws, ∀ a' U, s.WarmedH U.vm → w.before a' U = true) (hcode : Cond.code y bytes maxL ret ∈ ws) (hinit : ∀ a' U, s.WarmedH U.vm → (Cond.initialized y.cls).before a' U = true) :
    vx_Back l R p e below s sargs y len W9 (PreOf R mc ms Pc) (PostOf Qc mc ms free) (vx_Post XC mc ms free) := by
  intro m meth c A g ig mk a X hg hsize hdg hW hn hp
  have h1 : (headSpec ws rm).pre.before a A.U = true := atoms_intro fun w hw => hws w hw _ _ X.warmed
  have h2 : (Cond.code y bytes maxL ret).before a A.U = true := hws _ hcode _ _ X.warmed
  have h3 : (Cond.initialized y.cls).before a A.U = true := hinit _ _ X.warmed
  have h4 : A.cells + (headSpec ws rm).room.cells ≤ R.cells := by rw [show (headSpec ws rm).room.cells = mc from hrc]; exact hp.1
  have h5 : A.slots + (headSpec ws rm).room.slots ≤ R.slots := by rw [show (headSpec ws rm).room.slots = ms from hrs]; exact hp.2.1
  have hPc : Pc a (A.U.calling g mk a) := hblind _ _ _ _ hp.2.2
  obtain ⟨U, Ls, c0, s0⟩ := A
  dsimp only [Pt.U, Pt.locs, Pt.cells, Pt.slots] at h1 h2 h3 h4 h5 X hn hPc ⊢
  obtain ⟨methY, cY, hmY, hcY, -, hlY, -, -, -, -⟩ := Cond.code_spec hn h2
  obtain ⟨kY, hkY, -⟩ := className_of_methodNamed hn
  have hinitY : kY.init = .initialized := Cond.initialized_spec (findClass_of_methodNamed hn) hkY h3
  have h : At U g.method c below := by rw [hg]; exact X.here
  have hlocals9 : W9 + (maxL + 11) + (headSpec ws rm).room.locals ≤ R.locals := hlocals
  have happ : (headSpec ws rm).appliesLoose y e.platform (U.calling g mk a) = true :=
    Spec.appliesLoose_calling (g := g) h hdg hn hkY hinitY
      (X.room_calling (g := g) (R' := (headSpec ws rm).room) hsize hmY hcY hframes (by rw [hlY]; omega) h4 h5) h1
  obtain ⟨mid, hmid⟩ := h.above
  have hfr : (U.setTop g).frames = (.java g :: mid) ++ below := by rw [State.frames_setTop' g h.top, hmid]; rfl
  obtain ⟨o, s₂, hsteps, -, hend, hq⟩ := Steps.callFree hM p X.admits X.cas X.clock (acts := []) hfr happ hPc trivial
  have hq' : vx_Q Qc XC mc ms free a (U.calling g mk a) o s₂ := hq
  rw [State.frames_setTop' g h.top] at hend
  obtain ⟨g₀, hg0⟩ := Option.isSome_iff_exists.mp h.top
  obtain ⟨r, hr⟩ := State.topJava?_eq_some.mp hg0
  have hr' : (({ U with heap := s₂.heap, slotsUsed := s₂.slotsUsed } : State).setVm s₂.vm).frames = .java g₀ :: r := hr
  rcases hq' with ⟨hqc, L, hfe, hL⟩ | ⟨q, rfl, E, ce, L, hx, hce, hcv, hcl, hW₂, hsm, hL⟩
  · obtain ⟨⟨v, rfl⟩, hW₂, e2, q2, q3, q4, q5, q6⟩ := id hfe
    have e3 : s₂ = ({ (U.calling g mk a).setFrames s₂.frames with heap := s₂.heap, slotsUsed := s₂.slotsUsed } : State).setVm s₂.vm := by
      have : s₂ = ({ s₂ with vm := (U.calling g mk a).vm } : State).setVm s₂.vm := rfl
      rw [e2] at this
      exact this
    obtain ⟨c₂, i₂, len₂, hc₂, hd₂, hf₂⟩ := hend
    have hW' : U.WarmedH s₂.vm := hW₂
    have hcc : c₂ = c := by
      have h1 : s₂.code? g.method = U.code? g.method := by
        rw [State.code?_eq, State.code?_eq, hW'.alike.method?]
      exact Option.some.inj (hc₂.symm.trans (h1.trans h.code))
    subst hcc
    have hlen : len₂ = len := by rw [hdg] at hd₂; cases hd₂; rfl
    subst hlen
    have hs₂ : s₂ = (({ U with heap := s₂.heap, slotsUsed := s₂.slotsUsed } : State).setVm s₂.vm).setTop { g with pc := g.pc + len₂, stack := v.toList ++ g.stack } := by
      refine e3.trans ?_
      rw [hf₂, State.calling_eq h.top, State.setFrames_setFrames, State.setTop_of_frames _ hr', hr]
      rfl
    have hsame : U.sameButNew ({ U with heap := s₂.heap, slotsUsed := s₂.slotsUsed } : State) L mc ms := by
      refine ⟨?_, q2, q3, q4, q5, q6⟩
      obtain ⟨t, ht, -⟩ := State.frames_cons hr
      show ({ U with heap := s₂.heap, slotsUsed := s₂.slotsUsed } : State) = { U.setFrames U.frames with heap := s₂.heap, slotsUsed := s₂.slotsUsed }
      rw [State.setFrames_self ht]
    subst hg
    refine Or.inl ⟨v, ⟨(({ U with heap := s₂.heap, slotsUsed := s₂.slotsUsed } : State).setVm s₂.vm), Ls ++ L, c0 + mc, s0 + ms⟩,
      ⟨X.admits, X.cas, X.clock, X.frames, X.room, X.hears, X.method, X.code, (X.here.setHeapUsed s₂.heap s₂.slotsUsed).setVm hW'.alike, X.tail, State.WarmedH.trans X.warmed hW', X.limits, X.bytes, X.same.trans (hsame.setVm s.vm)⟩,
      ⟨g, mk, s₂, L, rfl, rfl, hqc, rfl, hL, rfl, rfl⟩, ?_⟩
    show Steps p.tables e below _ ((({ U with heap := s₂.heap, slotsUsed := s₂.slotsUsed } : State).setVm s₂.vm).setTop { g with pc := g.pc + len₂, stack := v.toList ++ g.stack })
    rw [← hs₂]
    exact hsteps
  · obtain ⟨e2, q2, q3, q4, q5, q6⟩ := id hsm
    have e3 : s₂ = ({ (U.calling g mk a).setFrames s₂.frames with heap := s₂.heap, slotsUsed := s₂.slotsUsed } : State).setVm s₂.vm := by
      have : s₂ = ({ s₂ with vm := (U.calling g mk a).vm } : State).setVm s₂.vm := rfl
      rw [e2] at this
      exact this
    have hf₂ : s₂.frames = .throwing q :: .java g :: U.frames.tail := hend
    have hW' : U.WarmedH s₂.vm := hW₂
    have hs₂ : s₂ = ((({ U with heap := s₂.heap, slotsUsed := s₂.slotsUsed } : State).setVm s₂.vm).setTop g).pushFrame (.throwing q) := by
      refine e3.trans ?_
      rw [hf₂, State.calling_eq h.top, State.setFrames_setFrames, State.pushFrame, State.frames_setTop _ hr', State.setTop_of_frames _ hr', State.setFrames_setFrames, hr]
      rfl
    have hsame : U.sameButNew ({ U with heap := s₂.heap, slotsUsed := s₂.slotsUsed } : State) L mc ms := by
      refine ⟨?_, q2, q3, q4, q5, q6⟩
      obtain ⟨t, ht, -⟩ := State.frames_cons hr
      show ({ U with heap := s₂.heap, slotsUsed := s₂.slotsUsed } : State) = { U.setFrames U.frames with heap := s₂.heap, slotsUsed := s₂.slotsUsed }
      rw [State.setFrames_self ht]
    subst hg
    refine Or.inr ⟨q, ⟨(({ U with heap := s₂.heap, slotsUsed := s₂.slotsUsed } : State).setVm s₂.vm), Ls ++ L, c0 + mc, s0 + ms⟩,
      ⟨X.admits, X.cas, X.clock, X.frames, X.room, X.hears, X.method, X.code, (X.here.setHeapUsed s₂.heap s₂.slotsUsed).setVm hW'.alike, X.tail, State.WarmedH.trans X.warmed hW', X.limits, X.bytes, X.same.trans (hsame.setVm s.vm)⟩,
      ⟨g, mk, s₂, L, E, ce, rfl, rfl, hx, hce, hcv, hcl, rfl, hL, rfl, rfl⟩, ?_⟩
    show Steps p.tables e below _ (((({ U with heap := s₂.heap, slotsUsed := s₂.slotsUsed } : State).setVm s₂.vm).setTop g).pushFrame (.throwing q))
    rw [← hs₂]
    exact hsteps
end Payer
section Calls
variable {p : Program} {l : Launch} {e : Env} {R : Room} {s : State} {m : MethodId} {args : Array Value} {below : List Frame} {meth : Method} {c : Code} {T : State} {locs : List Loc} {cells slots : Nat}
theorem vx_callV (X : Stand p l e R s m args below meth c T locs cells slots) (hexec : p.tables.exec = Jvm.exec) {own C : String} {index : Nat} {y : MethodName} {bytes : ByteArray} {maxL : Nat} {ret : Option FieldType}
    (hown : s.vm.findClass own = some m.cls) (hlink : (Cond.methodLink own index y).before args s = true) (hinst : (Cond.instanceMethod y).before args s = true) (hsel : (Cond.selects C y y).before args s = true)
    (hcode : (Cond.code y bytes maxL ret).before args s = true) (hy : y.cls ≠ "java/lang/invoke/MethodHandle" ∧ y.cls ≠ "java/lang/invoke/VarHandle")
    {W9 : Nat} {Pre : Pt → Array Value → Prop} {Post : Pt → Array Value → Option Value → Pt → Prop} {PostX : Pt → Array Value → Addr → Pt → Prop} (hK : vx_Back l R p e below s args y 3 W9 Pre Post PostX)
    {b : Addr} {cellB : Cell} (hcell : T.heap[b]? = some cellB) (hobj : cellB.vm.isStatics = false) (hcls : s.vm.findClass C = some cellB.cls)
    {g : JFrame} (hg : g.method = m) (hsize : g.locals.size = c.maxLocals) {argsL rest : List Value} (hlen : ∀ sig, parseMethodDescriptor y.desc = some sig → argsL.length = sig.parameters.length)
    (hstack : g.stack = argsL.reverse ++ .ref b :: rest) (hW : 2 * g.monitorRoom + (rest.map fun v => v.category).sum ≤ W9) (hdg : decode c.code g.pc = .ok (.invokevirtual index, 3))
    (hpre : ∀ vm₁, s.WarmedH vm₁ → Pre ⟨T.setVm vm₁, locs, cells, slots⟩ (Value.ref b :: argsL).toArray) :
    (∃ (v : Option Value) (vm₁ : Vm) (B : Pt), s.WarmedH vm₁ ∧ Stand p l e R s m args below meth c B.U B.locs B.cells B.slots ∧ Post ⟨T.setVm vm₁, locs, cells, slots⟩ (Value.ref b :: argsL).toArray v B ∧
      ∀ target, Steps p.tables e below (B.U.setTop { g with pc := g.pc + 3, stack := v.toList ++ rest }) target → Steps p.tables e below (T.setTop g) target) ∨
    (∃ (q : Addr) (vm₁ : Vm) (B : Pt), s.WarmedH vm₁ ∧ Stand p l e R s m args below meth c B.U B.locs B.cells B.slots ∧ PostX ⟨T.setVm vm₁, locs, cells, slots⟩ (Value.ref b :: argsL).toArray q B ∧
      Steps p.tables e below (T.setTop g) ((B.U.setTop { g with stack := rest }).pushFrame (.throwing q))) := by
  obtain ⟨mk, methM, hnamed, hmethM, hstM, habM⟩ := Cond.instanceMethod_spec hinst
  obtain ⟨methM', cM, hmethM', -, -, -, -, -, -, hsigM⟩ := Cond.code_spec hnamed hcode
  cases hmethM.symm.trans hmethM'
  obtain ⟨c2, r2, m2, q1, q2, q3, q4, kP, hkP, hkPi⟩ := Cond.selects_spec hsel
  cases hcls.symm.trans q1
  cases (State.methodFound?_of_named hnamed hy).symm.trans q2
  cases hnamed.symm.trans q3
  have hselP : selectMethod e.platform s.vm cellB.cls mk = .method mk := by rw [Launch.admits_selectMethod X.admits]; exact q4
  obtain ⟨vm₁, X₁, hstep₁⟩ := X.invokevirtual hexec hown hlink hnamed hmethM hstM hkP hkPi hy (a := b) (cell := cellB) hcell
    (fun z h => by rw [h] at hobj; cases hobj) hselP hmethM habM hkP hkPi (g := g) hg (argsL := argsL) (rest := rest) (hlen _ hsigM) hstack hdg
  rcases hK m meth c ⟨T.setVm vm₁, locs, cells, slots⟩ { g with stack := rest } (.invokevirtual index) mk (Value.ref b :: argsL).toArray X₁ hg hsize hdg hW (X₁.named hnamed) (hpre vm₁ X₁.warmed) with ⟨v, B, X', hpost, hsteps⟩ | ⟨q, B, X', hpost, hsteps⟩
  · exact Or.inl ⟨v, vm₁, B, X₁.warmed, X', hpost, fun target h => hstep₁ _ fun acts => by rw [doInvoke_state]; exact hsteps.trans h⟩
  · exact Or.inr ⟨q, vm₁, B, X₁.warmed, X', hpost, hstep₁ _ fun acts => by rw [doInvoke_state]; exact hsteps⟩
theorem vx_callS (X : Stand p l e R s m args below meth c T locs cells slots) (hexec : p.tables.exec = Jvm.exec) {own : String} {index : Nat} {y : MethodName} {bytes : ByteArray} {maxL : Nat} {ret : Option FieldType}
    (hown : s.vm.findClass own = some m.cls) (hlink : (Cond.methodLink own index y).before args s = true) (hstat : (Cond.static y).before args s = true) (hinit : (Cond.initialized y.cls).before args s = true)
    (hcode : (Cond.code y bytes maxL ret).before args s = true) (hy : y.cls ≠ "java/lang/invoke/MethodHandle" ∧ y.cls ≠ "java/lang/invoke/VarHandle")
    {W9 : Nat} {Pre : Pt → Array Value → Prop} {Post : Pt → Array Value → Option Value → Pt → Prop} {PostX : Pt → Array Value → Addr → Pt → Prop} (hK : vx_Back l R p e below s args y 3 W9 Pre Post PostX)
    {g : JFrame} (hg : g.method = m) (hsize : g.locals.size = c.maxLocals) {argsL rest : List Value} (hlen : ∀ sig, parseMethodDescriptor y.desc = some sig → argsL.length = sig.parameters.length)
    (hstack : g.stack = argsL.reverse ++ rest) (hW : 2 * g.monitorRoom + (rest.map fun v => v.category).sum ≤ W9) (hdg : decode c.code g.pc = .ok (.invokestatic index, 3))
    (hpre : ∀ vm₁, s.WarmedH vm₁ → Pre ⟨T.setVm vm₁, locs, cells, slots⟩ argsL.toArray) :
    (∃ (v : Option Value) (vm₁ : Vm) (B : Pt), s.WarmedH vm₁ ∧ Stand p l e R s m args below meth c B.U B.locs B.cells B.slots ∧ Post ⟨T.setVm vm₁, locs, cells, slots⟩ argsL.toArray v B ∧
      ∀ target, Steps p.tables e below (B.U.setTop { g with pc := g.pc + 3, stack := v.toList ++ rest }) target → Steps p.tables e below (T.setTop g) target) ∨
    (∃ (q : Addr) (vm₁ : Vm) (B : Pt), s.WarmedH vm₁ ∧ Stand p l e R s m args below meth c B.U B.locs B.cells B.slots ∧ PostX ⟨T.setVm vm₁, locs, cells, slots⟩ argsL.toArray q B ∧
      Steps p.tables e below (T.setTop g) ((B.U.setTop { g with stack := rest }).pushFrame (.throwing q))) := by
  obtain ⟨mk, hnamed⟩ := Cond.code_named hcode
  obtain ⟨methM, cM, hmethM, -, -, -, -, -, -, hsigM⟩ := Cond.code_spec hnamed hcode
  have hstatic : methM.isStatic = true := Cond.static_spec hnamed hmethM hstat
  obtain ⟨kP, hkP, -⟩ := className_of_methodNamed hnamed
  have hinitP : kP.init = .initialized := Cond.initialized_spec (findClass_of_methodNamed hnamed) hkP hinit
  obtain ⟨vm₁, X₁, hstep₁⟩ := X.invokestatic hexec hown hlink hnamed hmethM hstatic hkP hinitP hy (g := g) hg (argsL := argsL) (rest := rest) (hlen _ hsigM) hstack hdg
  rcases hK m meth c ⟨T.setVm vm₁, locs, cells, slots⟩ { g with stack := rest } (.invokestatic index) mk argsL.toArray X₁ hg hsize hdg hW (X₁.named hnamed) (hpre vm₁ X₁.warmed) with ⟨v, B, X', hpost, hsteps⟩ | ⟨q, B, X', hpost, hsteps⟩
  · exact Or.inl ⟨v, vm₁, B, X₁.warmed, X', hpost, fun target h => hstep₁ _ fun acts => by rw [doInvoke_state]; exact hsteps.trans h⟩
  · exact Or.inr ⟨q, vm₁, B, X₁.warmed, X', hpost, hstep₁ _ fun acts => by rw [doInvoke_state]; exact hsteps⟩
end Calls
theorem vx_cls {s : State} {T : State} {vm₁ : Vm} {E : String} {k : ClassId} (hW : s.WarmedH vm₁) (h : (T.setVm vm₁).vm.findClass E = some k) : s.vm.findClass E = some k := by
  have h1 : vm₁.findClass E = some k := h
  rw [hW.alike.findClass] at h1
  exact h1
/-- the method's frame g, with q thrown over it -/
def vx_W (p : Program) (l : Launch) (e : Env) (R : Room) (s : State) (m : MethodId) (args : Array Value) (below : List Frame) (meth : Method) (c : Code) (H : Heap) (locs : List Loc) (cells slots : Nat) (Q : State → Prop) (g : JFrame) (q : Addr) : Prop :=
  ∀ T : State, T.heap = H → Stand p l e R s m args below meth c T locs cells slots → ∃ t, Steps p.tables e below ((T.setTop g).pushFrame (.throwing q)) t ∧ Q t
def vx_Run (p : Program) (l : Launch) (e : Env) (R : Room) (s : State) (m : MethodId) (args : Array Value) (below : List Frame) (meth : Method) (c : Code) (H : Heap) (locs : List Loc) (cells slots mc ms : Nat) (g : JFrame) (rest : List Value) (Qa : State → Outcome → State → Prop) (XC : String → State → State → Prop) (free : Addr → Prop) : Prop :=
  ∀ T : State, T.heap = H → Stand p l e R s m args below meth c T locs cells slots →
    (∃ (v : Option Value) (st₀ t T' : State) (L : List Loc), st₀.heap = H ∧ Stand p l e R s m args below meth c T' (locs ++ L) (cells + mc) (slots + ms) ∧ (∀ q ∈ L, free q.base) ∧ T'.heap = t.heap ∧ T'.vm = t.vm ∧ Qa st₀ (.returned v) t ∧
      Goes p e below T g T' { g with pc := g.pc + 3, stack := v.toList ++ rest }) ∨
    (∃ (q : Addr) (st₀ t T' : State) (L : List Loc) (E : String) (ce : Cell), st₀.heap = H ∧ Stand p l e R s m args below meth c T' (locs ++ L) (cells + mc) (slots + ms) ∧ (∀ z ∈ L, free z.base) ∧ T'.heap = t.heap ∧ T'.vm = t.vm ∧ XC E st₀ t ∧ t.heap[q]? = some ce ∧ ce.vm = .none ∧ s.vm.findClass E = some ce.cls ∧
      Steps p.tables e below (T.setTop g) ((T'.setTop { g with stack := rest }).pushFrame (.throwing q)))
def vx_X {S : Type} (px : S → Prop) (B : String → S → State → Prop) (A : Nat → Prop) : String → State → State → Prop := fun E st t => ∃ u : S, px u ∧ B E u t ∧ va_F A st t
section Runs
variable {p : Program} {l : Launch} {e : Env} {R : Room} {s : State} {m : MethodId} {args : Array Value} {below : List Frame} {meth : Method} {c : Code} {H : Heap} {locs : List Loc} {cells slots : Nat}
variable {y : MethodName} {bytes cc : ByteArray} {maxL nL mc ms n index : Nat} {ret : Option FieldType} {ws : List Cond} {rm : Room} {Pc : Array Value → State → Prop} {Qc : Array Value → State → Outcome → State → Prop} {XC : String → State → State → Prop} {free : Addr → Prop} {Ts : List Cond} {own C : String} {b : Addr} {As rest : List Value} {g : JFrame}
theorem vx_callBack (cb : CallB R s args own index y bytes maxL ret ws rm mc ms n) (hM : vx_Met l y ws rm Pc Qc XC mc ms free) (hbl : FrameBlind Pc) : vx_Back l R p e below s args y 3 8 (PreOf R mc ms Pc) (PostOf Qc mc ms free) (vx_Post XC mc ms free) := by
  obtain ⟨hrc, hrs, hfr, hlo, hws, hcw, -, hini, -⟩ := cb
  exact vx_back (bytes := bytes) (maxL := maxL) (ret := ret) hM hbl hrc hrs hfr hlo hws hcw (fun a' U hW => word_at hW (Or.inl (by first | rfl | simp [Cond.onTables, Cond.keeps, Cond.steady])) hini)
theorem vx_runV (S : CallFix p m c cc nL s args Ts own) (hM : vx_Met l y ws rm Pc Qc XC mc ms free) (cw : CallW R s args own C index y bytes maxL ret ws rm mc ms n) (hp : PreV s H C b Pc As)
    (hg : g.method = m) (hn : As.length = n) (hsize : g.locals.size = nL) (hstack : g.stack = As.reverse ++ .ref b :: rest) (hW : 2 * g.monitorRoom + (rest.map fun v => v.category).sum ≤ 8) (hdg : decode cc g.pc = .ok (.invokevirtual index, 3)) (hf : cells + mc ≤ R.cells ∧ slots + ms ≤ R.slots) :
    vx_Run p l e R s m args below meth c H locs cells slots mc ms g rest (Qc (Value.ref b :: As).toArray) XC free := by
  have hK : vx_Back l R p e below s args y 3 8 (PreOf R mc ms Pc) (PostOf Qc mc ms free) (vx_Post XC mc ms free) := vx_callBack cw.1 hM hp.1
  obtain ⟨⟨-, -, -, -, -, -, hcode, -, hy, hlen, hl⟩, hin, hse⟩ := cw
  obtain ⟨hx, hb, hml, ho, -⟩ := S
  obtain ⟨-, ⟨cellB, hcB, hoB, hclB⟩, hPc⟩ := hp
  intro T hT X
  rcases vx_callV X hx (C := C) (bytes := bytes) (maxL := maxL) (ret := ret) ho hl hin hse hcode hy hK (by rw [hT]; exact hcB) hoB hclB hg (hsize.trans hml.symm) (argsL := As) (rest := rest) (fun sig h => hn.trans (hlen sig h)) hstack hW (by rw [hb]; exact hdg)
    (fun vm₁ hW₁ => ⟨hf.1, hf.2, hPc (T.setVm vm₁) hT hW₁⟩) with ⟨v, vm₁, ⟨U', l2, c2, s2⟩, hW₁, X', ⟨g', mk, t, L, e1, e2, hq, h1, hL, h2, h3⟩, st⟩ | ⟨q, vm₁, ⟨U', l2, c2, s2⟩, hW₁, X', ⟨g', mk, t, L, E, ce, e1, e2, hq, hce, hcv, hcl, h1, hL, h2, h3⟩, st⟩
  · dsimp only [Pt.U, Pt.locs, Pt.cells, Pt.slots] at X' e1 e2 h1 h2 h3 st
    subst h1; subst h2; subst h3
    exact Or.inl ⟨v, (T.setVm vm₁).calling g' mk (Value.ref b :: As).toArray, t, U', L, hT, X', hL, e1, e2, hq, st⟩
  · dsimp only [Pt.U, Pt.locs, Pt.cells, Pt.slots] at X' e1 e2 h1 h2 h3 st hcl
    subst h1; subst h2; subst h3
    exact Or.inr ⟨q, (T.setVm vm₁).calling g' mk (Value.ref b :: As).toArray, t, U', L, E, ce, hT, X', hL, e1, e2, hq, hce, hcv, vx_cls hW₁ hcl, st⟩
theorem vx_runS (S : CallFix p m c cc nL s args Ts own) (hM : vx_Met l y ws rm Pc Qc XC mc ms free) (cw : CallB R s args own index y bytes maxL ret ws rm mc ms n ∧ (Cond.static y).before args s = true) (hp : PreS s H Pc As)
    (hg : g.method = m) (hn : As.length = n) (hsize : g.locals.size = nL) (hstack : g.stack = As.reverse ++ rest) (hW : 2 * g.monitorRoom + (rest.map fun v => v.category).sum ≤ 8) (hdg : decode cc g.pc = .ok (.invokestatic index, 3)) (hf : cells + mc ≤ R.cells ∧ slots + ms ≤ R.slots) :
    vx_Run p l e R s m args below meth c H locs cells slots mc ms g rest (Qc As.toArray) XC free := by
  have hK : vx_Back l R p e below s args y 3 8 (PreOf R mc ms Pc) (PostOf Qc mc ms free) (vx_Post XC mc ms free) := vx_callBack cw.1 hM hp.1
  obtain ⟨⟨-, -, -, -, -, -, hcode, hini, hy, hlen, hl⟩, hstt⟩ := cw
  obtain ⟨hx, hb, hml, ho, -⟩ := S
  intro T hT X
  rcases vx_callS X hx (bytes := bytes) (maxL := maxL) (ret := ret) ho hl hstt hini hcode hy hK hg (hsize.trans hml.symm) (argsL := As) (rest := rest) (fun sig h => hn.trans (hlen sig h)) hstack hW (by rw [hb]; exact hdg)
    (fun vm₁ hW₁ => ⟨hf.1, hf.2, hp.2 (T.setVm vm₁) hT hW₁⟩) with ⟨v, vm₁, ⟨U', l2, c2, s2⟩, hW₁, X', ⟨g', mk, t, L, e1, e2, hq, h1, hL, h2, h3⟩, st⟩ | ⟨q, vm₁, ⟨U', l2, c2, s2⟩, hW₁, X', ⟨g', mk, t, L, E, ce, e1, e2, hq, hce, hcv, hcl, h1, hL, h2, h3⟩, st⟩
  · dsimp only [Pt.U, Pt.locs, Pt.cells, Pt.slots] at X' e1 e2 h1 h2 h3 st
    subst h1; subst h2; subst h3
    exact Or.inl ⟨v, (T.setVm vm₁).calling g' mk As.toArray, t, U', L, hT, X', hL, e1, e2, hq, st⟩
  · dsimp only [Pt.U, Pt.locs, Pt.cells, Pt.slots] at X' e1 e2 h1 h2 h3 st hcl
    subst h1; subst h2; subst h3
    exact Or.inr ⟨q, (T.setVm vm₁).calling g' mk As.toArray, t, U', L, E, ce, hT, X', hL, e1, e2, hq, hce, hcv, vx_cls hW₁ hcl, st⟩
end Runs
section Rows
variable {p : Program} {l : Launch} {e : Env} {R : Room} {s : State} {m : MethodId} {args : Array Value} {below : List Frame} {meth : Method} {c : Code} {H : Heap} {locs : List Loc} {cells slots : Nat} {Q : State → Prop}
variable {mc ms : Nat} {free : Addr → Prop} {A0 A1 : Nat → Prop} {H0 : Heap} {a : Array Value} {pc : Nat} {ls : Array Slot} {st0 rest : List Value}
theorem vx_keep {st₀ t T' : State} {L : List Loc} (h0 : st₀.heap = H) (e1 : T'.heap = t.heap) (hS : va_S A0 H0 H locs) (hA : ∀ q, q < H.size → A1 q → A0 q) (hf : ∀ q, free q → A0 q) (hL : ∀ q ∈ L, free q.base) (hF : va_F A1 st₀ t) :
    H.size ≤ T'.heap.size ∧ (∀ q : Nat, q < H.size → ¬ A1 q → T'.heap[q]? = H[q]?) ∧ va_S A0 H0 T'.heap (locs ++ L) := by
  obtain ⟨hz, hk⟩ := hF
  rw [h0] at hz hk
  exact ⟨by rw [e1]; exact hz, fun q h1 h2 => by rw [e1]; exact hk q h1 h2,
    ⟨Nat.le_trans hS.1 (by rw [e1]; exact hz), fun q h1 h2 => by rw [e1, hk q (Nat.lt_of_lt_of_le h1 hS.1) (fun z => h2 (hA q (Nat.lt_of_lt_of_le h1 hS.1) z))]; exact hS.2.1 q h1 h2, fun q hq => by
      rcases List.mem_append.mp hq with h | h
      · exact hS.2.2 q h
      · exact hf _ (hL q h)⟩⟩
theorem vx_calli {S SX : Type} {post : Int32 → S → Prop} {px : SX → Prop} {B : S → State → Prop} {BX : String → SX → State → Prop} {AX : Nat → Prop} (hr : vx_Run p l e R s m args below meth c H locs cells slots mc ms (F0 m pc ls st0) rest (va_Qi post B A1 a) (vx_X px BX AX) free) (hS : va_S A0 H0 H locs) (hA : ∀ q, q < H.size → A1 q → A0 q) (hf : ∀ q, free q → A0 q) (hAX : ∀ q, q < H.size → AX q → A0 q)
    (kx : ∀ (E : String) (ce : Cell) (q9 : Addr) (u : SX) (t : State) (H1 : Heap) (locs1 : List Loc), t.heap = H1 → s.vm.Alike t.vm → px u → BX E u t → H.size ≤ H1.size → (∀ q : Nat, q < H.size → ¬ AX q → H1[q]? = H[q]?) → va_S A0 H0 H1 locs1 → H1[q9]? = some ce → ce.vm = .none → s.vm.findClass E = some ce.cls → vx_W p l e R s m args below meth c H1 locs1 (cells + mc) (slots + ms) Q (F0 m pc ls rest) q9)
    (kk : ∀ (r : Int32) (u : S) (t : State) (H1 : Heap) (locs1 : List Loc), t.heap = H1 → s.vm.Alike t.vm → post r u → B u t → H.size ≤ H1.size → (∀ q : Nat, q < H.size → ¬ A1 q → H1[q]? = H[q]?) → va_S A0 H0 H1 locs1 → W p l e R s m args below meth c H1 locs1 (cells + mc) (slots + ms) Q (F0 m (pc + 3) ls (.int r :: rest))) : W p l e R s m args below meth c H locs cells slots Q (F0 m pc ls st0) := by
  intro T hT X
  rcases hr T hT X with ⟨v, st₀, t, T', L, h0, X', hL, e1, e2, ⟨⟨r, u, hv, hp, hb⟩, hF⟩, st⟩ | ⟨q, st₀, t, T', L, E, ce, h0, X', hL, e1, e2, ⟨u, hp, hb, hF⟩, hce, hcv, hcl, st⟩
  · cases hv
    obtain ⟨k1, k2, k3⟩ := vx_keep h0 e1 hS hA hf hL hF
    obtain ⟨t2, a1, b1⟩ := kk r u t T'.heap (locs ++ L) e1.symm (by rw [← e2]; exact X'.warmed.alike) hp hb k1 k2 k3 T' rfl X'
    exact ⟨t2, st t2 a1, b1⟩
  · obtain ⟨k1, k2, k3⟩ := vx_keep h0 e1 hS hAX hf hL hF
    obtain ⟨t2, a1, b1⟩ := kx E ce q u t T'.heap (locs ++ L) e1.symm (by rw [← e2]; exact X'.warmed.alike) hp hb k1 k2 k3 (by rw [e1]; exact hce) hcv hcl T' rfl X'
    exact ⟨t2, st.trans a1, b1⟩
theorem vx_calll {S SX : Type} {post : Int64 → S → Prop} {px : SX → Prop} {B : S → State → Prop} {BX : String → SX → State → Prop} {AX : Nat → Prop} (hr : vx_Run p l e R s m args below meth c H locs cells slots mc ms (F0 m pc ls st0) rest (va_Ql post B A1 a) (vx_X px BX AX) free) (hS : va_S A0 H0 H locs) (hA : ∀ q, q < H.size → A1 q → A0 q) (hf : ∀ q, free q → A0 q) (hAX : ∀ q, q < H.size → AX q → A0 q)
    (kx : ∀ (E : String) (ce : Cell) (q9 : Addr) (u : SX) (t : State) (H1 : Heap) (locs1 : List Loc), t.heap = H1 → s.vm.Alike t.vm → px u → BX E u t → H.size ≤ H1.size → (∀ q : Nat, q < H.size → ¬ AX q → H1[q]? = H[q]?) → va_S A0 H0 H1 locs1 → H1[q9]? = some ce → ce.vm = .none → s.vm.findClass E = some ce.cls → vx_W p l e R s m args below meth c H1 locs1 (cells + mc) (slots + ms) Q (F0 m pc ls rest) q9)
    (kk : ∀ (r : Int64) (u : S) (t : State) (H1 : Heap) (locs1 : List Loc), t.heap = H1 → s.vm.Alike t.vm → post r u → B u t → H.size ≤ H1.size → (∀ q : Nat, q < H.size → ¬ A1 q → H1[q]? = H[q]?) → va_S A0 H0 H1 locs1 → W p l e R s m args below meth c H1 locs1 (cells + mc) (slots + ms) Q (F0 m (pc + 3) ls (.long r :: rest))) : W p l e R s m args below meth c H locs cells slots Q (F0 m pc ls st0) := by
  intro T hT X
  rcases hr T hT X with ⟨v, st₀, t, T', L, h0, X', hL, e1, e2, ⟨⟨r, u, hv, hp, hb⟩, hF⟩, st⟩ | ⟨q, st₀, t, T', L, E, ce, h0, X', hL, e1, e2, ⟨u, hp, hb, hF⟩, hce, hcv, hcl, st⟩
  · cases hv
    obtain ⟨k1, k2, k3⟩ := vx_keep h0 e1 hS hA hf hL hF
    obtain ⟨t2, a1, b1⟩ := kk r u t T'.heap (locs ++ L) e1.symm (by rw [← e2]; exact X'.warmed.alike) hp hb k1 k2 k3 T' rfl X'
    exact ⟨t2, st t2 a1, b1⟩
  · obtain ⟨k1, k2, k3⟩ := vx_keep h0 e1 hS hAX hf hL hF
    obtain ⟨t2, a1, b1⟩ := kx E ce q u t T'.heap (locs ++ L) e1.symm (by rw [← e2]; exact X'.warmed.alike) hp hb k1 k2 k3 (by rw [e1]; exact hce) hcv hcl T' rfl X'
    exact ⟨t2, st.trans a1, b1⟩
theorem vx_callf {S SX : Type} {post : UInt32 → S → Prop} {px : SX → Prop} {B : S → State → Prop} {BX : String → SX → State → Prop} {AX : Nat → Prop} (hr : vx_Run p l e R s m args below meth c H locs cells slots mc ms (F0 m pc ls st0) rest (va_Qf post B A1 a) (vx_X px BX AX) free) (hS : va_S A0 H0 H locs) (hA : ∀ q, q < H.size → A1 q → A0 q) (hf : ∀ q, free q → A0 q) (hAX : ∀ q, q < H.size → AX q → A0 q)
    (kx : ∀ (E : String) (ce : Cell) (q9 : Addr) (u : SX) (t : State) (H1 : Heap) (locs1 : List Loc), t.heap = H1 → s.vm.Alike t.vm → px u → BX E u t → H.size ≤ H1.size → (∀ q : Nat, q < H.size → ¬ AX q → H1[q]? = H[q]?) → va_S A0 H0 H1 locs1 → H1[q9]? = some ce → ce.vm = .none → s.vm.findClass E = some ce.cls → vx_W p l e R s m args below meth c H1 locs1 (cells + mc) (slots + ms) Q (F0 m pc ls rest) q9)
    (kk : ∀ (r : UInt32) (u : S) (t : State) (H1 : Heap) (locs1 : List Loc), t.heap = H1 → s.vm.Alike t.vm → post r u → B u t → H.size ≤ H1.size → (∀ q : Nat, q < H.size → ¬ A1 q → H1[q]? = H[q]?) → va_S A0 H0 H1 locs1 → W p l e R s m args below meth c H1 locs1 (cells + mc) (slots + ms) Q (F0 m (pc + 3) ls (.float r :: rest))) : W p l e R s m args below meth c H locs cells slots Q (F0 m pc ls st0) := by
  intro T hT X
  rcases hr T hT X with ⟨v, st₀, t, T', L, h0, X', hL, e1, e2, ⟨⟨r, u, hv, hp, hb⟩, hF⟩, st⟩ | ⟨q, st₀, t, T', L, E, ce, h0, X', hL, e1, e2, ⟨u, hp, hb, hF⟩, hce, hcv, hcl, st⟩
  · cases hv
    obtain ⟨k1, k2, k3⟩ := vx_keep h0 e1 hS hA hf hL hF
    obtain ⟨t2, a1, b1⟩ := kk r u t T'.heap (locs ++ L) e1.symm (by rw [← e2]; exact X'.warmed.alike) hp hb k1 k2 k3 T' rfl X'
    exact ⟨t2, st t2 a1, b1⟩
  · obtain ⟨k1, k2, k3⟩ := vx_keep h0 e1 hS hAX hf hL hF
    obtain ⟨t2, a1, b1⟩ := kx E ce q u t T'.heap (locs ++ L) e1.symm (by rw [← e2]; exact X'.warmed.alike) hp hb k1 k2 k3 (by rw [e1]; exact hce) hcv hcl T' rfl X'
    exact ⟨t2, st.trans a1, b1⟩
theorem vx_calld {S SX : Type} {post : UInt64 → S → Prop} {px : SX → Prop} {B : S → State → Prop} {BX : String → SX → State → Prop} {AX : Nat → Prop} (hr : vx_Run p l e R s m args below meth c H locs cells slots mc ms (F0 m pc ls st0) rest (va_Qd post B A1 a) (vx_X px BX AX) free) (hS : va_S A0 H0 H locs) (hA : ∀ q, q < H.size → A1 q → A0 q) (hf : ∀ q, free q → A0 q) (hAX : ∀ q, q < H.size → AX q → A0 q)
    (kx : ∀ (E : String) (ce : Cell) (q9 : Addr) (u : SX) (t : State) (H1 : Heap) (locs1 : List Loc), t.heap = H1 → s.vm.Alike t.vm → px u → BX E u t → H.size ≤ H1.size → (∀ q : Nat, q < H.size → ¬ AX q → H1[q]? = H[q]?) → va_S A0 H0 H1 locs1 → H1[q9]? = some ce → ce.vm = .none → s.vm.findClass E = some ce.cls → vx_W p l e R s m args below meth c H1 locs1 (cells + mc) (slots + ms) Q (F0 m pc ls rest) q9)
    (kk : ∀ (r : UInt64) (u : S) (t : State) (H1 : Heap) (locs1 : List Loc), t.heap = H1 → s.vm.Alike t.vm → post r u → B u t → H.size ≤ H1.size → (∀ q : Nat, q < H.size → ¬ A1 q → H1[q]? = H[q]?) → va_S A0 H0 H1 locs1 → W p l e R s m args below meth c H1 locs1 (cells + mc) (slots + ms) Q (F0 m (pc + 3) ls (.double r :: rest))) : W p l e R s m args below meth c H locs cells slots Q (F0 m pc ls st0) := by
  intro T hT X
  rcases hr T hT X with ⟨v, st₀, t, T', L, h0, X', hL, e1, e2, ⟨⟨r, u, hv, hp, hb⟩, hF⟩, st⟩ | ⟨q, st₀, t, T', L, E, ce, h0, X', hL, e1, e2, ⟨u, hp, hb, hF⟩, hce, hcv, hcl, st⟩
  · cases hv
    obtain ⟨k1, k2, k3⟩ := vx_keep h0 e1 hS hA hf hL hF
    obtain ⟨t2, a1, b1⟩ := kk r u t T'.heap (locs ++ L) e1.symm (by rw [← e2]; exact X'.warmed.alike) hp hb k1 k2 k3 T' rfl X'
    exact ⟨t2, st t2 a1, b1⟩
  · obtain ⟨k1, k2, k3⟩ := vx_keep h0 e1 hS hAX hf hL hF
    obtain ⟨t2, a1, b1⟩ := kx E ce q u t T'.heap (locs ++ L) e1.symm (by rw [← e2]; exact X'.warmed.alike) hp hb k1 k2 k3 (by rw [e1]; exact hce) hcv hcl T' rfl X'
    exact ⟨t2, st.trans a1, b1⟩
theorem vx_callv {S SX : Type} {post : S → Prop} {px : SX → Prop} {B : S → State → Prop} {BX : String → SX → State → Prop} {AX : Nat → Prop} (hr : vx_Run p l e R s m args below meth c H locs cells slots mc ms (F0 m pc ls st0) rest (va_Qv post B A1 a) (vx_X px BX AX) free) (hS : va_S A0 H0 H locs) (hA : ∀ q, q < H.size → A1 q → A0 q) (hf : ∀ q, free q → A0 q) (hAX : ∀ q, q < H.size → AX q → A0 q)
    (kx : ∀ (E : String) (ce : Cell) (q9 : Addr) (u : SX) (t : State) (H1 : Heap) (locs1 : List Loc), t.heap = H1 → s.vm.Alike t.vm → px u → BX E u t → H.size ≤ H1.size → (∀ q : Nat, q < H.size → ¬ AX q → H1[q]? = H[q]?) → va_S A0 H0 H1 locs1 → H1[q9]? = some ce → ce.vm = .none → s.vm.findClass E = some ce.cls → vx_W p l e R s m args below meth c H1 locs1 (cells + mc) (slots + ms) Q (F0 m pc ls rest) q9)
    (kk : ∀ (u : S) (t : State) (H1 : Heap) (locs1 : List Loc), t.heap = H1 → s.vm.Alike t.vm → post u → B u t → H.size ≤ H1.size → (∀ q : Nat, q < H.size → ¬ A1 q → H1[q]? = H[q]?) → va_S A0 H0 H1 locs1 → W p l e R s m args below meth c H1 locs1 (cells + mc) (slots + ms) Q (F0 m (pc + 3) ls (rest))) : W p l e R s m args below meth c H locs cells slots Q (F0 m pc ls st0) := by
  intro T hT X
  rcases hr T hT X with ⟨v, st₀, t, T', L, h0, X', hL, e1, e2, ⟨⟨u, hv, hp, hb⟩, hF⟩, st⟩ | ⟨q, st₀, t, T', L, E, ce, h0, X', hL, e1, e2, ⟨u, hp, hb, hF⟩, hce, hcv, hcl, st⟩
  · cases hv
    obtain ⟨k1, k2, k3⟩ := vx_keep h0 e1 hS hA hf hL hF
    obtain ⟨t2, a1, b1⟩ := kk u t T'.heap (locs ++ L) e1.symm (by rw [← e2]; exact X'.warmed.alike) hp hb k1 k2 k3 T' rfl X'
    exact ⟨t2, st t2 a1, b1⟩
  · obtain ⟨k1, k2, k3⟩ := vx_keep h0 e1 hS hAX hf hL hF
    obtain ⟨t2, a1, b1⟩ := kx E ce q u t T'.heap (locs ++ L) e1.symm (by rw [← e2]; exact X'.warmed.alike) hp hb k1 k2 k3 (by rw [e1]; exact hce) hcv hcl T' rfl X'
    exact ⟨t2, st.trans a1, b1⟩
/-- caught by the row x of this method's table; the rows ahead don't take it -/
theorem vx_catch {own name : String} {E : String} {ce : Cell} {q : Addr} (hown : s.vm.findClass own = some m.cls) (pre : List ExceptionTableEntry) (x : ExceptionTableEntry) (suf : List ExceptionTableEntry) (hsplit : c.exceptionTable.toList = pre ++ x :: suf)
    (hpass : ∀ z ∈ pre, covers z pc = false ∨ (z.catchType ≠ 0 ∧ ∃ nm : String, (Cond.classLink own z.catchType nm).before args s = true ∧ va_Nc E nm s)) (hx : covers x pc = true) (h0 : x.catchType ≠ 0)
    (hlink : (Cond.classLink own x.catchType name).before args s = true) (hcast : (Cond.castable E name).before args s = true) (hcell : H[q]? = some ce) (hv : ce.vm = .none) (hcl : s.vm.findClass E = some ce.cls)
    (kk : W p l e R s m args below meth c H locs cells slots Q (F0 m x.handlerPc ls [.ref q])) : vx_W p l e R s m args below meth c H locs cells slots Q (F0 m pc ls rest) q := by
  intro T hT X
  have hpl : e.platform.magicAccessors = ({} : Platform).magicAccessors := by rw [X.admits.platform]
  obtain ⟨c3, c4, hc3, hc4, hasg⟩ := Cond.castable_spec hcast
  cases Option.some.inj (hc3.symm.trans hcl)
  obtain ⟨c5, hc5, hcl5⟩ := Cond.classLink_spec hown hlink e.platform hpl
  cases Option.some.inj (hc4.symm.trans hc5)
  obtain ⟨vm', X', st⟩ := Jvm.Stand.thenCaughtThrough X q (g := F0 m pc ls rest) rfl (Steps.refl _) (by rw [hT]; exact hcell) (by rw [hv]; rfl) (by obtain ⟨k9, h9, -⟩ := Vm.findClass_spec hcl; exact ⟨k9, h9⟩) pre x suf hsplit
    (fun z hz => by
      rcases hpass z hz with h | ⟨hz0, nm, hl1, hn1⟩
      · exact Or.inl h
      · obtain ⟨c6, hc6, hcl6⟩ := Cond.classLink_spec hown hl1 e.platform hpl
        obtain ⟨a8, b8, h1, h2, h3⟩ := hn1
        cases Option.some.inj (h1.symm.trans hcl)
        cases Option.some.inj (h2.symm.trans hc6)
        exact Or.inr ⟨hz0, _, hcl6, h3⟩) hx (Or.inr ⟨h0, c4, hcl5, hasg⟩)
  obtain ⟨t, a1, b1⟩ := kk (T.setVm vm') hT X'
  exact ⟨t, st.trans a1, b1⟩
end Rows
section Ends
variable {p : Program} {l : Launch} {e : Env} {R : Room} {s : State} {m : MethodId} {args : Array Value} {below : List Frame} {meth : Method} {c : Code} {H : Heap} {locs : List Loc} {cells slots : Nat} {Q : State → Prop}
variable {mc ms : Nat} {free : Addr → Prop} {A0 A1 : Nat → Prop} {H0 : Heap} {a : Array Value} {ls : Array Slot} {st0 rest : List Value}
variable {Qc : Array Value → State → Outcome → State → Prop} {XC : String → State → State → Prop}
/-- what a body that may throw owes at its end -/
def vx_MQ (below : List Frame) (Qc : Array Value → State → Outcome → State → Prop) (XC : String → State → State → Prop) (a : Array Value) (s : State) (mc ms : Nat) (free : Addr → Prop) : State → Prop := fun t =>
  ∃ o, t.status = .running ∧ Ended t below o ∧ vx_Q Qc XC mc ms free a s o t
theorem vx_ret {g : JFrame} {mc ms : Nat} (k : W p l e R s m args below meth c H locs cells slots (MQ below Qc args s mc ms free) g) : W p l e R s m args below meth c H locs cells slots (vx_MQ below Qc XC args s mc ms free) g := by
  intro T hT X
  obtain ⟨t, a1, o, b1, b2, b3, b4⟩ := k T hT X
  exact ⟨t, a1, o, b1, b2, Or.inl ⟨b3, b4⟩⟩
/-- not caught here: it goes on to the caller -/
theorem vx_widen {g : JFrame} {q : Addr} {k n : Nat} (h1 : cells ≤ k) (h2 : slots ≤ n) (kk : vx_W p l e R s m args below meth c H locs k n Q g q) : vx_W p l e R s m args below meth c H locs cells slots Q g q := fun T hT X => kk T hT (stand_widen X h1 h2)
theorem vx_out {pc : Nat} {E : String} {ce : Cell} {q : Addr} {mc ms : Nat} (hout : ∀ x ∈ c.exceptionTable.toList, covers x pc = false) (hlocks : meth.locks = false) (hcell : H[q]? = some ce) (hv : ce.vm = .none) (hcl : s.vm.findClass E = some ce.cls)
    (hx : ∀ t : State, t.heap = H → s.vm.Alike t.vm → XC E s t) (hf : ∀ z ∈ locs, free z.base) (hc : cells ≤ mc) (hs : slots ≤ ms) :
    vx_W p l e R s m args below meth c H locs cells slots (vx_MQ below Qc XC args s mc ms free) (F0 m pc ls rest) q := by
  intro T hT X
  obtain ⟨st1, hrun, hend, hW, hsm⟩ := X.leaveThrown q (g := F0 m pc ls rest) rfl rfl rfl hout hlocks
  have hcell9 : (T.setFrames (.throwing q :: below)).heap[q]? = some ce := by
    show T.heap[q]? = some ce
    rw [hT]; exact hcell
  exact ⟨_, st1, .threw q, hrun, hend, Or.inr ⟨q, rfl, E, ce, locs, hx _ hT hW.alike, hcell9, hv, hcl, hW, hsm.mono hc hs, hf⟩⟩
theorem vx_frame {U : State} {k n : Nat} (h : s.sameButNew ({ U with vm := s.vm } : State) locs k n) : s.heap.size ≤ U.heap.size ∧ ∀ q : Nat, q < s.heap.size → (∀ z ∈ locs, z.base ≠ q) → U.heap[q]? = s.heap[q]? := by
  obtain ⟨-, h2, -, -, -, h6⟩ := h
  refine ⟨h2, fun q hq hz => ?_⟩
  obtain ⟨c9, e1, e2, e3, e4⟩ := h6 q _ (Array.getElem?_eq_getElem hq)
  have hs : c9.slots = (s.heap[q]).slots := Array.ext_getElem? fun i => e4 i fun hm => hz _ hm rfl
  have h9 : c9 = s.heap[q] := by
    rw [hs] at e2
    exact e2
  have e5 : U.heap[q]? = some c9 := e1
  rw [e5, h9, Array.getElem?_eq_getElem hq]
/-- the words of a throw but the four that speak of the heap -/
def vx_no (w : Cond) : Bool := decide (w ≠ .isRef (.static Bundle.tN "UNASSIGNED_STACK" Bundle.steD)) && decide (w ≠ .isRef (.static Bundle.tN "SUPPRESSED_SENTINEL" Bundle.listD)) && decide (w ≠ .laysStatic Bundle.tN "UNASSIGNED_STACK" Bundle.steD) && decide (w ≠ .laysStatic Bundle.tN "SUPPRESSED_SENTINEL" Bundle.listD)
def vx_at0 (own : String) (ic : Nat) (X : String) (names : List String) : List Cond := (Bundle.ownAtoms0 own ic X names).filter vx_no
def vx_atS (own : String) (ic : Nat) (X : String) (names : List String) : List Cond := (Bundle.ownAtoms own ic X names).filter vx_no
/-- a word that the tables alone decide, or a good one -/
def vx_ot (w : Cond) : Bool := w.onTables || goodWord w
theorem vx_ot_at {args a' : Array Value} {s U : State} {w : Cond} (hW : s.WarmedH U.vm) (hvm : s.vm = U.vm) (hg : vx_ot w = true) (h : w.before args s = true) : w.before a' U = true := by
  simp only [vx_ot, Bool.or_eq_true] at hg
  rcases hg with hg | hg
  · exact va_tabs hg hvm h
  · exact word_at hW (good_of_word hg) h
/-- a list's words: the good ones out of the method's own list, the others by premises of their own -/
theorem vx_hat {args : Array Value} {s : State} {L B : List Cond} (h1 : ∀ w ∈ L.filter goodWord, w.before args s = true) (h2 : ∀ w ∈ L.filter (fun w => !goodWord w), w ∈ B) (h3 : ∀ w ∈ B, w.before args s = true) : ∀ w ∈ L, w.before args s = true := by
  intro w hw
  by_cases g : goodWord w = true
  · exact h1 w (List.mem_filter.mpr ⟨hw, g⟩)
  · refine h3 w (h2 w (List.mem_filter.mpr ⟨hw, ?_⟩))
    show (!goodWord w) = true
    cases hgw : goodWord w
    · rfl
    · exact absurd hgw g
theorem vx_c {args : Array Value} {s : State} {w : Cond} {B : List Cond} (h : w.before args s = true) (t : ∀ w ∈ B, w.before args s = true) : ∀ w' ∈ w :: B, w'.before args s = true := fun w' h' => (List.mem_cons.mp h').elim (fun e => by rw [e]; exact h) (t w')
theorem vx_n {args : Array Value} {s : State} : ∀ w ∈ ([] : List Cond), w.before args s = true := fun _ h => nomatch h
theorem vx_own {args : Array Value} {s : State} {L : List Cond} (h1 : ∀ w ∈ L.filter vx_no, w.before args s = true)
    (hU : (Cond.isRef (.static Bundle.tN "UNASSIGNED_STACK" Bundle.steD)).before args s = true) (hN : (Cond.isRef (.static Bundle.tN "SUPPRESSED_SENTINEL" Bundle.listD)).before args s = true)
    (lU : (Cond.laysStatic Bundle.tN "UNASSIGNED_STACK" Bundle.steD).before args s = true) (lN : (Cond.laysStatic Bundle.tN "SUPPRESSED_SENTINEL" Bundle.listD).before args s = true) : ∀ w ∈ L, w.before args s = true := by
  intro w hw
  by_cases e1 : w = .isRef (.static Bundle.tN "UNASSIGNED_STACK" Bundle.steD)
  · rw [e1]; exact hU
  · by_cases e2 : w = .isRef (.static Bundle.tN "SUPPRESSED_SENTINEL" Bundle.listD)
    · rw [e2]; exact hN
    · by_cases e3 : w = .laysStatic Bundle.tN "UNASSIGNED_STACK" Bundle.steD
      · rw [e3]; exact lU
      · by_cases e4 : w = .laysStatic Bundle.tN "SUPPRESSED_SENTINEL" Bundle.listD
        · rw [e4]; exact lN
        · exact h1 w (List.mem_filter.mpr ⟨hw, by unfold vx_no; rw [decide_eq_true e1, decide_eq_true e2, decide_eq_true e3, decide_eq_true e4]; rfl⟩)
/-- where a static field lies, its class's statics cell in H -/
def vx_L (C n d : String) (A : Nat → Prop) (U : State) (H : Heap) : Prop := ∃ (c : ClassId) (k : Class) (i : Nat) (f : Field) (a : Nat) (cell : Cell), U.vm.findClass C = some c ∧ U.fieldFound? C n d = some (c, k, i, f) ∧ f.isStatic = true ∧ k.statics = some a ∧ H[a]? = some cell ∧ cell.vm.isStatics = true ∧ cell.cls = c ∧ f.slot < cell.slots.size ∧ k.staticTypes[f.slot]? = some f.type ∧ ¬ A a
theorem vx_L.moved {C n d : String} {A : Nat → Prop} {u U : State} {H : Heap} (hvm : u.vm.Alike U.vm) (h : vx_L C n d A u H) : vx_L C n d A U H := by
  obtain ⟨c, k, i, f, a, cell, h1, h2, h3, h4, h5, h6, h7, h8, h9, h10⟩ := h
  obtain ⟨k', hi', he⟩ := State.fieldFound?_setVm hvm h2
  exact ⟨c, k', i, f, a, cell, by rw [hvm.findClass]; exact h1, hi', h3, by rw [he]; exact h4, h5, h6, h7, h8, by rw [he]; exact h9, h10⟩
theorem vx_L.kept {C n d : String} {A : Nat → Prop} {U : State} {H H1 : Heap} (h : vx_L C n d A U H) (hq : ∀ a : Nat, a < H.size → ¬ A a → H1[a]? = H[a]?) : vx_L C n d A U H1 := by
  obtain ⟨c, k, i, f, a, cell, h1, h2, h3, h4, h5, h6, h7, h8, h9, h10⟩ := h
  exact ⟨c, k, i, f, a, cell, h1, h2, h3, h4, by rw [hq a (Array.getElem?_eq_some_iff.mp h5).1 h10]; exact h5, h6, h7, h8, h9, h10⟩
theorem vx_L.narrow {C n d : String} {A B : Nat → Prop} {U : State} {H : Heap} (h : vx_L C n d A U H) (hAB : ∀ q, B q → A q) : vx_L C n d B U H := by
  obtain ⟨c, k, i, f, a, cell, h1, h2, h3, h4, h5, h6, h7, h8, h9, h10⟩ := h
  exact ⟨c, k, i, f, a, cell, h1, h2, h3, h4, h5, h6, h7, h8, h9, fun z => h10 (hAB _ z)⟩
theorem vx_L.word {C n d : String} {A : Nat → Prop} {s : State} {args : Array Value} (h : vx_L C n d A s s.heap) : (Cond.laysStatic C n d).before args s = true := by
  obtain ⟨c, k, i, f, a, cell, h1, h2, h3, h4, h5, h6, h7, h8, h9, -⟩ := h
  show (Cond.laysStatic C n d).holds args s none s [] = true
  exact Cond.laysStatic_of h1 h2 h3 h4 h5 h6 h7 h8 h9
/-- .. and what it holds: null or some reference -/
def vx_Zq (C n d : String) (A : Nat → Prop) (U : State) (H : Heap) : Prop := va_Zq C n d A U H ∧ vx_L C n d A U H
theorem vx_Zq.moved {C n d : String} {A : Nat → Prop} {u U : State} {H : Heap} (hvm : u.vm.Alike U.vm) (h : vx_Zq C n d A u H) : vx_Zq C n d A U H := ⟨va_Zq.moved hvm h.1, vx_L.moved hvm h.2⟩
theorem vx_Zq.kept {C n d : String} {A : Nat → Prop} {U : State} {H H1 : Heap} (h : vx_Zq C n d A U H) (hq : ∀ a : Nat, a < H.size → ¬ A a → H1[a]? = H[a]?) : vx_Zq C n d A U H1 := ⟨va_Zq.kept h.1 hq, vx_L.kept h.2 hq⟩
theorem vx_Zq.narrow {C n d : String} {A B : Nat → Prop} {U : State} {H : Heap} (h : vx_Zq C n d A U H) (hAB : ∀ q, B q → A q) : vx_Zq C n d B U H := ⟨va_Zq.narrow h.1 hAB, vx_L.narrow h.2 hAB⟩
theorem vx_Zqof {args : Array Value} {s : State} {C n d : String} {A : Nat → Prop} (hl : (Cond.laysStatic C n d).before args s = true) (hini : (Cond.initialized C).before args s = true) (h : (Cond.isRef (.static C n d)).before args s = true) (hA : ∀ a : Nat, a < s.heap.size → ¬ A a) : vx_Zq C n d A s s.heap := by
  refine ⟨va_Zqof hl hini h hA, ?_⟩
  obtain ⟨c, k, i, f, a, cell, h1, h2, h3, h4, h5, h6, h7, h8, h9⟩ := Cond.laysStatic_spec hl
  exact ⟨c, k, i, f, a, cell, h1, h2, h3, h4, h5, h6, h7, h8, h9, hA a (Array.getElem?_eq_some_iff.mp h5).1⟩
theorem vx_isRef {C n d : String} {v : Value} {A : Nat → Prop} {s : State} {args : Array Value} (h : va_Z C n d v A s s.heap) (hv : v.isRef = true) : (Cond.isRef (.static C n d)).before args s = true := by
  obtain ⟨cf, kf, fi, f, a, cell, h1, h2, h3, h4, h5, h6, h7, -⟩ := h
  have he : (Term.static C n d).eval args s none [] s = some v := by
    simp [Term.eval, State.fieldNamed?, h1, h2, h4, h5, h6, h7]
  simp only [Cond.before, Cond.holds, Cond.value, he]
  cases v <;> simp_all [Value.isRef]
theorem vx_isRefq {C n d : String} {A : Nat → Prop} {s : State} {args : Array Value} (h : va_Zq C n d A s s.heap) : (Cond.isRef (.static C n d)).before args s = true := by
  rcases h with h | ⟨t, h⟩
  · exact vx_isRef h rfl
  · exact vx_isRef h rfl
/-- the same frame, seen from here: as if the method were called anew in this heap -/
theorem vx_rebase {T : State} (X : Stand p l e R s m args below meth c T locs cells slots) {R' : Room} (hf : R'.frames ≤ R.frames) (hl : R'.locals ≤ R.locals) (hc : cells + R'.cells ≤ R.cells) (hs : slots + R'.slots ≤ R.slots) :
    Stand p l e R' ((T.setVm s.vm).setFrames (.invoking m args :: below)) m args below meth c T [] 0 0 := by
  have htop : (T.setVm s.vm).topJava?.isSome := X.here.top
  have hF : ((T.setVm s.vm).setFrames (.invoking m args :: below)).frames = .invoking m args :: below := State.frames_setFrames _ (State.cur_lt_of_top htop)
  obtain ⟨g₀, hg0⟩ := Option.isSome_iff_exists.mp htop
  obtain ⟨r, hr⟩ := State.topJava?_eq_some.mp hg0
  have hl9 : e.platform.stackLimits (T.setVm s.vm).me = e.platform.stackLimits s.me := X.limits
  have hb9 : (T.setVm s.vm).me.stackBytes = s.me.stackBytes := X.bytes
  refine ⟨X.admits, X.cas, X.clock, hF, ?_, X.hears, X.method, X.code, X.here, X.tail, X.warmed, ?_, ?_, ?_⟩
  · have h := X.room
    have hU : ((T.setVm s.vm).setFrames (.invoking m args :: below)).localsInUse = s.localsInUse := by
      rw [State.localsInUse_invoking hF (meth := meth) (c := c) X.method X.code, State.localsInUse_invoking X.frames X.method X.code]
    simp only [State.hasRoom, Bool.and_eq_true, decide_eq_true_eq] at h ⊢
    obtain ⟨⟨⟨⟨h1, h2, h3, h4, h5, h6⟩, h7⟩, h8⟩, h9⟩ := h
    rw [X.frames, List.length_cons] at h2 h3
    have q1 := X.heapSize
    have q2 := X.used
    simp only [hF, hU, List.length_cons, State.stackLimits_setFrames, State.stackBytes_setFrames, hl9, hb9]
    refine ⟨⟨⟨⟨by omega, by omega, by omega, by omega, by omega, h6⟩, ?_⟩, ?_⟩, X.book⟩
    · show T.heap.size + R'.cells ≤ e.platform.maxCells
      omega
    · show T.slotsUsed + R'.slots ≤ e.platform.maxSlots
      omega
  · rw [State.stackLimits_setFrames]; rfl
  · rw [State.stackBytes_setFrames]; rfl
  · refine ⟨?_, Nat.le_refl _, Nat.le_refl _, ?_, ?_, fun a c9 h9 => ⟨c9, h9, rfl, rfl, fun _ _ => rfl⟩⟩
    · obtain ⟨t, ht, -⟩ := State.frames_cons hr
      show T.setVm s.vm = { ((T.setVm s.vm).setFrames (.invoking m args :: below)).setFrames (T.setVm s.vm).frames with heap := T.heap, slotsUsed := T.slotsUsed }
      rw [State.setFrames_setFrames, State.setFrames_self ht]
      rfl
    · show T.slotsUsed = T.slotsUsed + ((T.heap.toList.drop T.heap.size).map (·.slots.size)).sum
      rw [List.drop_eq_nil_of_le (Nat.le_of_eq Array.length_toList)]
      rfl
    · show ((T.heap.toList.drop T.heap.size).map (·.slots.size)).sum ≤ 0
      rw [List.drop_eq_nil_of_le (Nat.le_of_eq Array.length_toList)]
      exact Nat.le_refl _
/-- 'throw new E()': new; dup; invokespecial; athrow -/
theorem vx_throw0 {cc : ByteArray} {pc : Nat} (hexec : p.tables.exec = Jvm.exec) (hb : c.code = cc) (hl : l.stackTraces = false) {own cls : String} {names : List String} {ik ic mc ms : Nat} {A : Nat → Prop}
    (hown : s.vm.findClass own = some m.cls) (hcls : Bundle.fit cls = true) (hnames : ∀ n ∈ names, Bundle.fit n = true)
    (hk : (Cond.classLink own ik cls).before args s = true) (hini : (Cond.initialized cls).before args s = true) (hat : ∀ w ∈ vx_at0 own ic cls names, w.before args s = true)
    (hgood : ∀ w ∈ Cond.classLink own ik cls :: Cond.initialized cls :: vx_at0 own ic cls names, vx_ot w = true)
    (hU : vx_Zq Bundle.tN "UNASSIGNED_STACK" Bundle.steD A s s.heap) (hN : vx_Zq Bundle.tN "SUPPRESSED_SENTINEL" Bundle.listD A s s.heap) (hS : va_S A s.heap H locs) (hsize : ls.size = c.maxLocals)
    (d0 : decode cc pc = .ok (.new ik, 3)) (d3 : decode cc (pc + 3) = .ok (.dup, 1)) (d4 : decode cc (pc + 4) = .ok (.invokespecial ic, 3)) (d7 : decode cc (pc + 7) = .ok (.athrow, 1))
    (hout : ∀ x ∈ c.exceptionTable.toList, covers x (pc + 7) = false)
    (hRframes : names.length + 3 < R.frames) (hRlocals : (rest.map fun v => v.category).sum + (13 * (names.length + 1) + 42) ≤ R.locals) (hRcells : cells + 1 ≤ R.cells) (hRslots : slots + 6 ≤ R.slots) (hlocks : meth.locks = false)
    (hx : ∀ t : State, s.vm.Alike t.vm → H.size ≤ t.heap.size → (∀ q : Nat, q < H.size → t.heap[q]? = H[q]?) → XC cls s t)
    (hf : ∀ z ∈ locs, free z.base) (hc : cells + 1 ≤ mc) (hs : slots + 6 ≤ ms) :
    W p l e R s m args below meth c H locs cells slots (vx_MQ below Qc XC args s mc ms free) (F0 m pc ls rest) := by
  intro T hT X
  have htr : e.platform.stackTraces = false := (show e.platform.stackTraces = l.stackTraces by rw [X.admits.platform]).trans hl
  have Y := vx_rebase X (R' := { frames := R.frames, locals := R.locals, cells := 1, slots := 6 }) (Nat.le_refl _) (Nat.le_refl _) hRcells hRslots
  obtain ⟨s', hA⟩ : ∃ z, z = (T.setVm s.vm).setFrames (.invoking m args :: below) := ⟨_, rfl⟩
  rw [← hA] at Y
  have hvm : s'.vm = s.vm := by rw [hA]; rfl
  have hhp : s'.heap = H := by rw [hA]; exact hT
  have hW0 : s.WarmedH s'.vm := by rw [hvm]; exact State.WarmedH.refl s
  have hat' : ∀ w ∈ vx_at0 own ic cls names, w.before args s' = true := fun w hw => vx_ot_at hW0 hvm.symm (hgood w (List.mem_cons_of_mem _ (List.mem_cons_of_mem _ hw))) (hat w hw)
  have hk' : (Cond.classLink own ik cls).before args s' = true := vx_ot_at hW0 hvm.symm (hgood _ List.mem_cons_self) hk
  have hini' : (Cond.initialized cls).before args s' = true := vx_ot_at hW0 hvm.symm (hgood _ (List.mem_cons_of_mem _ List.mem_cons_self)) hini
  have hU' : vx_Zq Bundle.tN "UNASSIGNED_STACK" Bundle.steD A s' s'.heap := by rw [hhp]; exact vx_Zq.moved hW0.alike (hU.kept hS.2.1)
  have hN' : vx_Zq Bundle.tN "SUPPRESSED_SENTINEL" Bundle.listD A s' s'.heap := by rw [hhp]; exact vx_Zq.moved hW0.alike (hN.kept hS.2.1)
  have h : ∀ w ∈ Bundle.ownAtoms0 own ic cls names, w.before args s' = true := vx_own hat' (vx_isRefq hU'.1) (vx_isRefq hN'.1) hU'.2.word hN'.2.word
  have hown' : s'.vm.findClass own = some m.cls := by rw [hvm]; exact hown
  have hins : (Cond.instantiable cls 6).before args s' = true := h _ (by simp [Bundle.ownAtoms0])
  obtain ⟨vm₁, cX, kX, hfX, hkX, -, -, X₁, st1⟩ := Y.newCold hexec (own := own) (C := cls) (index := ik) (n := 6) hown' hk' hins hini'
    (g := F0 m pc ls rest) rfl (by rw [hb]; exact d0) (Nat.le_refl _) (Nat.le_refl _)
  generalize hT1 : (T.setVm vm₁).pushCell { cls := cX, slots := kX.instanceTypes.map defaultValue, vm := .none } = T1 at X₁ st1
  have hcat : (Value.ref T.heap.size).category = 1 := rfl
  have hcellA : T1.heap[T.heap.size]? = some (freshCell cX kX) := by rw [← hT1]; exact State.heap_pushCell_size _ _
  have d3' : decode c.code (pc + 3) = .ok (.dup, 1) := by rw [hb]; exact d3
  obtain ⟨U, hsteps, hrun, hend, hW, hsame, ce, hce, hO⟩ := X₁.ctorThrow0 hexec htr (own := own) (cls := cls) (names := names) (ic := ic) hown' hcls hnames h (fun x hx => nomatch hx) hfX hkX hcellA (by rw [hhp, hT]; exact Nat.le_refl _)
    (g := { method := m, pc := pc + 4, locals := ls, stack := .ref T.heap.size :: .ref T.heap.size :: rest, locked := none }) rfl hsize rfl rfl (rest := rest) rfl
    (by rw [hb]; exact d4) (by rw [hb]; exact d7) hout hRframes (by simp only [List.map_cons, List.sum_cons, hcat]; omega) hlocks
  obtain ⟨f1, f2⟩ := vx_frame hsame
  rw [hhp] at f1 f2
  have hWs : s.WarmedH U.vm := State.WarmedH.trans hW0 hW
  have hcl : s.vm.findClass cls = some ce.cls := by
    have h9 := hO.cls
    rw [hvm] at h9
    exact h9
  have hall : s.sameButNew ({ U with vm := s.vm } : State) locs mc ms := by
    subst hA
    obtain ⟨e1, e2⟩ := hsame
    rw [State.setFrames_setFrames] at e1
    have h2 : (T.setVm s.vm).sameButNew ({ U with vm := s.vm } : State) [] (0 + 1) (0 + 6) := ⟨e1, e2⟩
    have h3 := X.same.trans h2
    rw [List.append_nil] at h3
    exact h3.mono hc hs
  refine ⟨U, ?_, .threw T.heap.size, hrun, hend, Or.inr ⟨T.heap.size, rfl, cls, ce, locs, hx U hWs.alike f1 (fun q hq => f2 q hq (fun z hz => nomatch hz)), hce, hO.vm, hcl, hWs, hall, hf⟩⟩
  refine st1 _ ?_
  show Steps p.tables e below (T1.setTop { method := m, pc := pc + 3, locals := ls, stack := .ref T.heap.size :: rest, locked := none }) _
  jvm_step X₁.here [X₁.here.top, hexec, d3', Value.category]
  exact hsteps
/-- 'throw new E("text")': new; dup; ldc; invokespecial; athrow -/
theorem vx_throwS {cc : ByteArray} {pc : Nat} (hexec : p.tables.exec = Jvm.exec) (hb : c.code = cc) (hl : l.stackTraces = false) {own cls text : String} {names : List String} {ik is ic mc ms sa : Nat} {A : Nat → Prop}
    (hown : s.vm.findClass own = some m.cls) (hcls : Bundle.fit cls = true) (hnames : ∀ n ∈ names, Bundle.fit n = true)
    (hk : (Cond.classLink own ik cls).before args s = true) (hini : (Cond.initialized cls).before args s = true) (hstr : vk_R own is text sa s) (hat : ∀ w ∈ vx_atS own ic cls names, w.before args s = true)
    (hgood : ∀ w ∈ Cond.classLink own ik cls :: Cond.initialized cls :: vx_atS own ic cls names, vx_ot w = true)
    (hU : vx_Zq Bundle.tN "UNASSIGNED_STACK" Bundle.steD A s s.heap) (hN : vx_Zq Bundle.tN "SUPPRESSED_SENTINEL" Bundle.listD A s s.heap) (hS : va_S A s.heap H locs) (hsize : ls.size = c.maxLocals)
    (d0 : decode cc pc = .ok (.new ik, 3)) (d3 : decode cc (pc + 3) = .ok (.dup, 1)) (d4 : decode cc (pc + 4) = .ok (.ldc is, 2)) (d6 : decode cc (pc + 6) = .ok (.invokespecial ic, 3)) (d9 : decode cc (pc + 9) = .ok (.athrow, 1))
    (hout : ∀ x ∈ c.exceptionTable.toList, covers x (pc + 9) = false)
    (hRframes : names.length + 3 < R.frames) (hRlocals : (rest.map fun v => v.category).sum + (13 * (names.length + 1) + 43) ≤ R.locals) (hRcells : cells + 1 ≤ R.cells) (hRslots : slots + 6 ≤ R.slots) (hlocks : meth.locks = false)
    (hx : ∀ t : State, s.vm.Alike t.vm → H.size ≤ t.heap.size → (∀ q : Nat, q < H.size → t.heap[q]? = H[q]?) → XC cls s t)
    (hf : ∀ z ∈ locs, free z.base) (hc : cells + 1 ≤ mc) (hs : slots + 6 ≤ ms) :
    W p l e R s m args below meth c H locs cells slots (vx_MQ below Qc XC args s mc ms free) (F0 m pc ls rest) := by
  intro T hT X
  have htr : e.platform.stackTraces = false := (show e.platform.stackTraces = l.stackTraces by rw [X.admits.platform]).trans hl
  have Y := vx_rebase X (R' := { frames := R.frames, locals := R.locals, cells := 1, slots := 6 }) (Nat.le_refl _) (Nat.le_refl _) hRcells hRslots
  obtain ⟨s', hA⟩ : ∃ z, z = (T.setVm s.vm).setFrames (.invoking m args :: below) := ⟨_, rfl⟩
  rw [← hA] at Y
  have hvm : s'.vm = s.vm := by rw [hA]; rfl
  have hhp : s'.heap = H := by rw [hA]; exact hT
  have hW0 : s.WarmedH s'.vm := by rw [hvm]; exact State.WarmedH.refl s
  have hat' : ∀ w ∈ vx_atS own ic cls names, w.before args s' = true := fun w hw => vx_ot_at hW0 hvm.symm (hgood w (List.mem_cons_of_mem _ (List.mem_cons_of_mem _ hw))) (hat w hw)
  have hk' : (Cond.classLink own ik cls).before args s' = true := vx_ot_at hW0 hvm.symm (hgood _ List.mem_cons_self) hk
  have hini' : (Cond.initialized cls).before args s' = true := vx_ot_at hW0 hvm.symm (hgood _ (List.mem_cons_of_mem _ List.mem_cons_self)) hini
  have hU' : vx_Zq Bundle.tN "UNASSIGNED_STACK" Bundle.steD A s' s'.heap := by rw [hhp]; exact vx_Zq.moved hW0.alike (hU.kept hS.2.1)
  have hN' : vx_Zq Bundle.tN "SUPPRESSED_SENTINEL" Bundle.listD A s' s'.heap := by rw [hhp]; exact vx_Zq.moved hW0.alike (hN.kept hS.2.1)
  have h : ∀ w ∈ Bundle.ownAtoms own ic cls names, w.before args s' = true := vx_own hat' (vx_isRefq hU'.1) (vx_isRefq hN'.1) hU'.2.word hN'.2.word
  have hown' : s'.vm.findClass own = some m.cls := by rw [hvm]; exact hown
  have hins : (Cond.instantiable cls 6).before args s' = true := h _ (by simp [Bundle.ownAtoms])
  obtain ⟨vm₁, cX, kX, hfX, hkX, -, -, X₁, st1⟩ := Y.newCold hexec (own := own) (C := cls) (index := ik) (n := 6) hown' hk' hins hini'
    (g := F0 m pc ls rest) rfl (by rw [hb]; exact d0) (Nat.le_refl _) (Nat.le_refl _)
  generalize hT1 : (T.setVm vm₁).pushCell { cls := cX, slots := kX.instanceTypes.map defaultValue, vm := .none } = T1 at X₁ st1
  have hcat : (Value.ref T.heap.size).category = 1 := rfl
  have hcellA : T1.heap[T.heap.size]? = some (freshCell cX kX) := by rw [← hT1]; exact State.heap_pushCell_size _ _
  have d3' : decode c.code (pc + 3) = .ok (.dup, 1) := by rw [hb]; exact d3
  have d4' : decode c.code (pc + 4) = .ok (.ldc is, 2) := by rw [hb]; exact d4
  have hstr' : vk_R own is text sa s' := vk_R.warm hW0 hstr
  obtain ⟨U, hsteps, hrun, hend, hW, hsame, ce, hce, hO⟩ := X₁.ctorThrowS hexec htr (own := own) (cls := cls) (names := names) (ic := ic) hown' hcls hnames h (fun x hx => nomatch hx) hfX hkX hcellA (by rw [hhp, hT]; exact Nat.le_refl _) (msg := .ref sa) rfl
    (g := { method := m, pc := pc + 6, locals := ls, stack := .ref sa :: .ref T.heap.size :: .ref T.heap.size :: rest, locked := none }) rfl hsize rfl rfl (rest := rest) rfl
    (by rw [hb]; exact d6) (by rw [hb]; exact d9) hout hRframes (by simp only [List.map_cons, List.sum_cons, hcat]; omega) hlocks
  obtain ⟨f1, f2⟩ := vx_frame hsame
  rw [hhp] at f1 f2
  have hWs : s.WarmedH U.vm := State.WarmedH.trans hW0 hW
  have hcl : s.vm.findClass cls = some ce.cls := by
    have h9 := hO.cls
    rw [hvm] at h9
    exact h9
  have hall : s.sameButNew ({ U with vm := s.vm } : State) locs mc ms := by
    subst hA
    obtain ⟨e1, e2⟩ := hsame
    rw [State.setFrames_setFrames] at e1
    have h2 : (T.setVm s.vm).sameButNew ({ U with vm := s.vm } : State) [] (0 + 1) (0 + 6) := ⟨e1, e2⟩
    have h3 := X.same.trans h2
    rw [List.append_nil] at h3
    exact h3.mono hc hs
  refine ⟨U, ?_, .threw T.heap.size, hrun, hend, Or.inr ⟨T.heap.size, rfl, cls, ce, locs, hx U hWs.alike f1 (fun q hq => f2 q hq (fun z hz => nomatch hz)), hce, hO.vm, hcl, hWs, hall, hf⟩⟩
  refine st1 _ ?_
  show Steps p.tables e below (T1.setTop { method := m, pc := pc + 3, locals := ls, stack := .ref T.heap.size :: rest, locked := none }) _
  jvm_step X₁.here [X₁.here.top, hexec, d3', Value.category]
  exact X₁.ldcString hexec (own := own) (text := text) (index := is) (a := sa) hown' hstr'.1 hstr'.2
    (g := { method := m, pc := pc + 4, locals := ls, stack := .ref T.heap.size :: .ref T.heap.size :: rest, locked := none }) rfl d4' _ hsteps
/-- 'throw new E("text")', the text by a wide index -/
theorem vx_throwSW {cc : ByteArray} {pc : Nat} (hexec : p.tables.exec = Jvm.exec) (hb : c.code = cc) (hl : l.stackTraces = false) {own cls text : String} {names : List String} {ik is ic mc ms sa : Nat} {A : Nat → Prop}
    (hown : s.vm.findClass own = some m.cls) (hcls : Bundle.fit cls = true) (hnames : ∀ n ∈ names, Bundle.fit n = true)
    (hk : (Cond.classLink own ik cls).before args s = true) (hini : (Cond.initialized cls).before args s = true) (hstr : vk_R own is text sa s) (hat : ∀ w ∈ vx_atS own ic cls names, w.before args s = true)
    (hgood : ∀ w ∈ Cond.classLink own ik cls :: Cond.initialized cls :: vx_atS own ic cls names, vx_ot w = true)
    (hU : vx_Zq Bundle.tN "UNASSIGNED_STACK" Bundle.steD A s s.heap) (hN : vx_Zq Bundle.tN "SUPPRESSED_SENTINEL" Bundle.listD A s s.heap) (hS : va_S A s.heap H locs) (hsize : ls.size = c.maxLocals)
    (d0 : decode cc pc = .ok (.new ik, 3)) (d3 : decode cc (pc + 3) = .ok (.dup, 1)) (d4 : decode cc (pc + 4) = .ok (.ldc_w is, 3)) (d7 : decode cc (pc + 7) = .ok (.invokespecial ic, 3)) (d10 : decode cc (pc + 10) = .ok (.athrow, 1))
    (hout : ∀ x ∈ c.exceptionTable.toList, covers x (pc + 10) = false)
    (hRframes : names.length + 3 < R.frames) (hRlocals : (rest.map fun v => v.category).sum + (13 * (names.length + 1) + 43) ≤ R.locals) (hRcells : cells + 1 ≤ R.cells) (hRslots : slots + 6 ≤ R.slots) (hlocks : meth.locks = false)
    (hx : ∀ t : State, s.vm.Alike t.vm → H.size ≤ t.heap.size → (∀ q : Nat, q < H.size → t.heap[q]? = H[q]?) → XC cls s t)
    (hf : ∀ z ∈ locs, free z.base) (hc : cells + 1 ≤ mc) (hs : slots + 6 ≤ ms) :
    W p l e R s m args below meth c H locs cells slots (vx_MQ below Qc XC args s mc ms free) (F0 m pc ls rest) := by
  intro T hT X
  have htr : e.platform.stackTraces = false := (show e.platform.stackTraces = l.stackTraces by rw [X.admits.platform]).trans hl
  have Y := vx_rebase X (R' := { frames := R.frames, locals := R.locals, cells := 1, slots := 6 }) (Nat.le_refl _) (Nat.le_refl _) hRcells hRslots
  obtain ⟨s', hA⟩ : ∃ z, z = (T.setVm s.vm).setFrames (.invoking m args :: below) := ⟨_, rfl⟩
  rw [← hA] at Y
  have hvm : s'.vm = s.vm := by rw [hA]; rfl
  have hhp : s'.heap = H := by rw [hA]; exact hT
  have hW0 : s.WarmedH s'.vm := by rw [hvm]; exact State.WarmedH.refl s
  have hat' : ∀ w ∈ vx_atS own ic cls names, w.before args s' = true := fun w hw => vx_ot_at hW0 hvm.symm (hgood w (List.mem_cons_of_mem _ (List.mem_cons_of_mem _ hw))) (hat w hw)
  have hk' : (Cond.classLink own ik cls).before args s' = true := vx_ot_at hW0 hvm.symm (hgood _ List.mem_cons_self) hk
  have hini' : (Cond.initialized cls).before args s' = true := vx_ot_at hW0 hvm.symm (hgood _ (List.mem_cons_of_mem _ List.mem_cons_self)) hini
  have hU' : vx_Zq Bundle.tN "UNASSIGNED_STACK" Bundle.steD A s' s'.heap := by rw [hhp]; exact vx_Zq.moved hW0.alike (hU.kept hS.2.1)
  have hN' : vx_Zq Bundle.tN "SUPPRESSED_SENTINEL" Bundle.listD A s' s'.heap := by rw [hhp]; exact vx_Zq.moved hW0.alike (hN.kept hS.2.1)
  have h : ∀ w ∈ Bundle.ownAtoms own ic cls names, w.before args s' = true := vx_own hat' (vx_isRefq hU'.1) (vx_isRefq hN'.1) hU'.2.word hN'.2.word
  have hown' : s'.vm.findClass own = some m.cls := by rw [hvm]; exact hown
  have hins : (Cond.instantiable cls 6).before args s' = true := h _ (by simp [Bundle.ownAtoms])
  obtain ⟨vm₁, cX, kX, hfX, hkX, -, -, X₁, st1⟩ := Y.newCold hexec (own := own) (C := cls) (index := ik) (n := 6) hown' hk' hins hini'
    (g := F0 m pc ls rest) rfl (by rw [hb]; exact d0) (Nat.le_refl _) (Nat.le_refl _)
  generalize hT1 : (T.setVm vm₁).pushCell { cls := cX, slots := kX.instanceTypes.map defaultValue, vm := .none } = T1 at X₁ st1
  have hcat : (Value.ref T.heap.size).category = 1 := rfl
  have hcellA : T1.heap[T.heap.size]? = some (freshCell cX kX) := by rw [← hT1]; exact State.heap_pushCell_size _ _
  have d3' : decode c.code (pc + 3) = .ok (.dup, 1) := by rw [hb]; exact d3
  have d4' : decode c.code (pc + 4) = .ok (.ldc_w is, 3) := by rw [hb]; exact d4
  have hstr' : vk_R own is text sa s' := vk_R.warm hW0 hstr
  obtain ⟨U, hsteps, hrun, hend, hW, hsame, ce, hce, hO⟩ := X₁.ctorThrowS hexec htr (own := own) (cls := cls) (names := names) (ic := ic) hown' hcls hnames h (fun x hx => nomatch hx) hfX hkX hcellA (by rw [hhp, hT]; exact Nat.le_refl _) (msg := .ref sa) rfl
    (g := { method := m, pc := pc + 7, locals := ls, stack := .ref sa :: .ref T.heap.size :: .ref T.heap.size :: rest, locked := none }) rfl hsize rfl rfl (rest := rest) rfl
    (by rw [hb]; exact d7) (by rw [hb]; exact d10) hout hRframes (by simp only [List.map_cons, List.sum_cons, hcat]; omega) hlocks
  obtain ⟨f1, f2⟩ := vx_frame hsame
  rw [hhp] at f1 f2
  have hWs : s.WarmedH U.vm := State.WarmedH.trans hW0 hW
  have hcl : s.vm.findClass cls = some ce.cls := by
    have h9 := hO.cls
    rw [hvm] at h9
    exact h9
  have hall : s.sameButNew ({ U with vm := s.vm } : State) locs mc ms := by
    subst hA
    obtain ⟨e1, e2⟩ := hsame
    rw [State.setFrames_setFrames] at e1
    have h2 : (T.setVm s.vm).sameButNew ({ U with vm := s.vm } : State) [] (0 + 1) (0 + 6) := ⟨e1, e2⟩
    have h3 := X.same.trans h2
    rw [List.append_nil] at h3
    exact h3.mono hc hs
  refine ⟨U, ?_, .threw T.heap.size, hrun, hend, Or.inr ⟨T.heap.size, rfl, cls, ce, locs, hx U hWs.alike f1 (fun q hq => f2 q hq (fun z hz => nomatch hz)), hce, hO.vm, hcl, hWs, hall, hf⟩⟩
  refine st1 _ ?_
  show Steps p.tables e below (T1.setTop { method := m, pc := pc + 3, locals := ls, stack := .ref T.heap.size :: rest, locked := none }) _
  jvm_step X₁.here [X₁.here.top, hexec, d3', Value.category]
  exact X₁.ldcStringW hexec (own := own) (text := text) (index := is) (a := sa) hown' hstr'.1 hstr'.2
    (g := { method := m, pc := pc + 4, locals := ls, stack := .ref T.heap.size :: .ref T.heap.size :: rest, locked := none }) rfl d4' _ hsteps
end Ends
section Bodies
variable {l : Launch}
theorem vx_ofW {y : MethodName} {ws ws' : List Cond} {rm : Room} {Pc : Array Value → State → Prop} {Qc : Array Value → State → Outcome → State → Prop} {XC : String → State → State → Prop} {mc ms : Nat} {free : Addr → Prop} {cc : ByteArray} {maxL : Nat} {ret : Option FieldType}
    (hy : plainName y.cls = true) (hw : ws = Cond.code y cc maxL ret :: ws')
    (body : ∀ p e s m args below meth c s₁, BodyLoose p l y (headSpec ws rm) cc maxL ret e s m args below meth c s₁ → c.maxLocals = maxL → (∀ x ∈ c.exceptionTable.toList, False) → Pc args s →
      W p l e (headSpec ws rm).room s m args below meth c s.heap [] 0 0 (vx_MQ below Qc XC args s mc ms free) (entryFrame m args maxL)) : vx_Met l y ws rm Pc Qc XC mc ms free := by
  refine MetFree.of_bodyS (code := cc) (maxLocals := maxL) (ret := ret) hy ?_ ?_
  · intro args s m h hn
    obtain ⟨meth, c, h1, h2, h3, h4, h5, h6, -, -⟩ := Cond.code_spec hn (atoms_spec (ws := ws) h _ (by rw [hw]; exact List.mem_cons_self))
    exact ⟨meth, c, h1, h2, h3, h4, h5, h6⟩
  · intro p e s m args below meth c s₁ B hml hP _
    have hh0 : s₁.heap = s.heap := by rw [B.state]; rfl
    have ht : ∀ x ∈ c.exceptionTable.toList, False := by
      obtain ⟨meth9, c9, h1, h2, -, -, -, -, h7, -⟩ := Cond.code_spec B.named (atoms_spec (ws := ws) B.pre _ (by rw [hw]; exact List.mem_cons_self))
      cases Option.some.inj (h1.symm.trans B.method)
      cases Option.some.inj (h2.symm.trans (Stand.of_body B).code)
      intro x hx
      rw [Array.isEmpty_iff.mp h7] at hx
      cases hx
    obtain ⟨t, a1, o, b1, b2, b3⟩ := body p e s m args below meth c s₁ B hml ht hP s₁ hh0 (Stand.of_body B)
    exact ⟨t, o, a1, b1, b2, b3⟩
/-- the table of a body with handlers -/
theorem vx_table {p : Program} {x y : MethodName} {S : Spec} {cc bytes : ByteArray} {maxL maxL' : Nat} {ret ret' : Option FieldType} {e : Env} {s s₁ : State} {m : MethodId} {args : Array Value} {below : List Frame} {meth : Method} {c : Code} {hh : List (Nat × Nat × Nat × Nat)}
    (B : BodyLoose p l y S cc maxL ret e s m args below meth c s₁) (h : (Cond.codeWith y bytes maxL' ret' hh).before args s = true) : c.exceptionTable.toList = tableOf hh := by
  obtain ⟨m9, meth9, c9, hn9, h1, h2, -, -, h6, -⟩ := Cond.codeWith_spec h
  cases Option.some.inj (hn9.symm.trans B.named)
  cases Option.some.inj (h1.symm.trans B.method)
  cases Option.some.inj (h2.symm.trans (Stand.of_body B).code)
  rw [← h6, table_eq]
end Bodies
end VXA
/-! ===== END ===== -/
/-! ===== BEGIN a static call of a method with an exception table ===== -/
section VXS
variable {p : Program} {l : Launch} {e : Env} {R : Room} {s : State} {m : MethodId} {args : Array Value} {below : List Frame} {meth : Method} {c : Code} {T : State} {H : Heap} {locs : List Loc} {cells slots : Nat}
abbrev vx_CSW (R : Room) (s : State) (args : Array Value) (own : String) (index : Nat) (y : MethodName) (bytes : ByteArray) (maxL : Nat) (ret : Option FieldType) (hh : List (Nat × Nat × Nat × Nat)) (ws : List Cond) (rm : Room) (mc ms n : Nat) : Prop :=
  (rm.cells = mc ∧ rm.slots = ms ∧ rm.frames + 1 ≤ R.frames ∧ 8 + (maxL + 11) + rm.locals ≤ R.locals ∧ (∀ w ∈ ws, ∀ (a' : Array Value) (U : State), s.WarmedH U.vm → w.before a' U = true) ∧ Cond.codeWith y bytes maxL ret hh ∈ ws) ∧
  (Cond.codeWith y bytes maxL ret hh).before args s = true ∧ (Cond.initialized y.cls).before args s = true ∧ (y.cls ≠ "java/lang/invoke/MethodHandle" ∧ y.cls ≠ "java/lang/invoke/VarHandle") ∧
  (∀ sig, parseMethodDescriptor y.desc = some sig → n = sig.parameters.length) ∧ (Cond.methodLink own index y).before args s = true ∧ (Cond.static y).before args s = true
theorem vx_cwSW {own : String} {index maxL mc ms : Nat} {y : MethodName} {bytes : ByteArray} {ret : Option FieldType} {hh : List (Nat × Nat × Nat × Nat)} {Ts ws ws' : List Cond} {rm : Room} (n : Nat) (ht : ∀ w ∈ Ts, w.before args s = true) (hT : GoodIn Ts (va_wsS own index y ws)) (hw : ws = Cond.codeWith y bytes maxL ret hh :: ws') (hrc : rm.cells = mc) (hrs : rm.slots = ms)
    (hd : y.cls ≠ "java/lang/invoke/MethodHandle" ∧ y.cls ≠ "java/lang/invoke/VarHandle" ∧ (parseMethodDescriptor y.desc).map (fun d => d.parameters.length) = some n) (hR : rm.frames + 1 ≤ R.frames ∧ 8 + (maxL + 11) + rm.locals ≤ R.locals) :
    vx_CSW R s args own index y bytes maxL ret hh ws rm mc ms n := by
  have ok : ∀ w ∈ va_wsS own index y ws, w.before args s = true := fun w h => ht w (hT w h).1
  have hG : GoodIn Ts ws := fun w h => hT w (by unfold va_wsS; exact List.mem_append_right _ h)
  have hc : Cond.codeWith y bytes maxL ret hh ∈ ws := by rw [hw]; exact List.mem_cons_self
  refine ⟨⟨hrc, hrs, hR.1, hR.2, pay_in ht hG, hc⟩, ht _ (hG _ hc).1, ok _ (by simp [va_wsS]), ⟨hd.1, hd.2.1⟩, fun sig h => ?_, ok _ (by simp [va_wsS]), ok _ (by simp [va_wsS])⟩
  have h2 := hd.2.2
  rw [h] at h2
  exact (Option.some.inj h2).symm
theorem vx_callSW (X : Stand p l e R s m args below meth c T locs cells slots) (hexec : p.tables.exec = Jvm.exec) {own : String} {index : Nat} {y : MethodName} {bytes : ByteArray} {maxL : Nat} {ret : Option FieldType} {hh : List (Nat × Nat × Nat × Nat)}
    (hown : s.vm.findClass own = some m.cls) (hlink : (Cond.methodLink own index y).before args s = true) (hstat : (Cond.static y).before args s = true) (hinit : (Cond.initialized y.cls).before args s = true)
    (hcode : (Cond.codeWith y bytes maxL ret hh).before args s = true) (hy : y.cls ≠ "java/lang/invoke/MethodHandle" ∧ y.cls ≠ "java/lang/invoke/VarHandle")
    {W9 : Nat} {Pre : Pt → Array Value → Prop} {Post : Pt → Array Value → Option Value → Pt → Prop} (hK : Back l R p e below s args y 3 W9 Pre Post)
    {g : JFrame} (hg : g.method = m) (hsize : g.locals.size = c.maxLocals) {argsL rest : List Value} (hlen : ∀ sig, parseMethodDescriptor y.desc = some sig → argsL.length = sig.parameters.length)
    (hstack : g.stack = argsL.reverse ++ rest) (hW : 2 * g.monitorRoom + (rest.map fun v => v.category).sum ≤ W9) (hdg : decode c.code g.pc = .ok (.invokestatic index, 3))
    (hpre : ∀ vm₁, s.WarmedH vm₁ → Pre ⟨T.setVm vm₁, locs, cells, slots⟩ argsL.toArray) :
    ∃ (v : Option Value) (vm₁ : Vm) (B : Pt), s.WarmedH vm₁ ∧ Stand p l e R s m args below meth c B.U B.locs B.cells B.slots ∧ Post ⟨T.setVm vm₁, locs, cells, slots⟩ argsL.toArray v B ∧
      ∀ target, Steps p.tables e below (B.U.setTop { g with pc := g.pc + 3, stack := v.toList ++ rest }) target → Steps p.tables e below (T.setTop g) target := by
  obtain ⟨mk, methM, cM, hnamed, hmethM, -, -, -, -, -, -, hsigM⟩ := Cond.codeWith_spec hcode
  have hstatic : methM.isStatic = true := Cond.static_spec hnamed hmethM hstat
  obtain ⟨kP, hkP, -⟩ := className_of_methodNamed hnamed
  have hinitP : kP.init = .initialized := Cond.initialized_spec (findClass_of_methodNamed hnamed) hkP hinit
  obtain ⟨vm₁, X₁, hstep₁⟩ := X.invokestatic hexec hown hlink hnamed hmethM hstatic hkP hinitP hy (g := g) hg (argsL := argsL) (rest := rest) (hlen _ hsigM) hstack hdg
  obtain ⟨v, B, X', hpost, hsteps⟩ := hK m meth c ⟨T.setVm vm₁, locs, cells, slots⟩ { g with stack := rest } (.invokestatic index) mk argsL.toArray X₁ hg hsize hdg hW (X₁.named hnamed) (hpre vm₁ X₁.warmed)
  exact ⟨v, vm₁, B, X₁.warmed, X', hpost, fun target h => hstep₁ _ fun acts => by rw [doInvoke_state]; exact hsteps.trans h⟩
theorem vx_runSW {y : MethodName} {bytes cc : ByteArray} {maxL nL mc ms n index : Nat} {ret : Option FieldType} {hh : List (Nat × Nat × Nat × Nat)} {ws : List Cond} {rm : Room} {Pc : Array Value → State → Prop} {Qc : Array Value → State → Outcome → State → Prop} {free : Addr → Prop} {Ts : List Cond} {own : String} {As rest : List Value} {g : JFrame}
    (S : CallFix p m c cc nL s args Ts own) (hM : Met l y ws rm Pc Qc mc ms free) (cw : vx_CSW R s args own index y bytes maxL ret hh ws rm mc ms n) (hp : PreS s H Pc As)
    (hg : g.method = m) (hn : As.length = n) (hsize : g.locals.size = nL) (hstack : g.stack = As.reverse ++ rest) (hW : 2 * g.monitorRoom + (rest.map fun v => v.category).sum ≤ 8) (hdg : decode cc g.pc = .ok (.invokestatic index, 3)) (hf : cells + mc ≤ R.cells ∧ slots + ms ≤ R.slots) :
    va_Run p l e R s m args below meth c H locs cells slots mc ms g rest (Qc As.toArray) (free) := by
  obtain ⟨⟨hrc, hrs, hfr, hlo, hws, hcw⟩, hcode, hini, hy, hlen, hl, hstt⟩ := cw
  have hK : Back l R p e below s args y 3 8 (PreOf R mc ms Pc) (PostOf Qc mc ms free) := va_backW (hh := hh) (bytes := bytes) (maxL := maxL) (ret := ret) hM hp.1 hrc hrs hfr hlo hws hcw (fun a' U hW => word_at hW (Or.inl (by first | rfl | simp [Cond.onTables, Cond.keeps, Cond.steady])) hini)
  obtain ⟨hx, hb, hml, ho, -⟩ := S
  intro T hT X
  obtain ⟨v, vm₁, ⟨U', l2, c2, s2⟩, hW₁, X', ⟨g', mk, t, L, e1, e2, hq, h1, hL, h2, h3⟩, st⟩ := vx_callSW X hx (hh := hh) (bytes := bytes) (maxL := maxL) (ret := ret) ho hl hstt hini hcode hy hK hg (hsize.trans hml.symm) (argsL := As) (rest := rest) (fun sig h => hn.trans (hlen sig h)) hstack hW (by rw [hb]; exact hdg)
    (fun vm₁ hW₁ => ⟨hf.1, hf.2, hp.2 (T.setVm vm₁) hT hW₁⟩)
  dsimp only [Pt.U, Pt.locs, Pt.cells, Pt.slots] at X' e1 e2 h1 h2 h3 st
  subst h1; subst h2; subst h3
  exact ⟨v, (T.setVm vm₁).calling g' mk As.toArray, t, U', L, hT, X', hL, e1, e2, hq, st⟩
/-- not caught here, past rows that name other classes: it goes on to the caller -/
theorem vx_outP {p : Program} {l : Launch} {e : Env} {R : Room} {s : State} {m : MethodId} {args : Array Value} {below : List Frame} {meth : Method} {c : Code} {H : Heap} {locs : List Loc} {cells slots : Nat} {free : Addr → Prop} {ls : Array Slot} {rest : List Value} {Qc : Array Value → State → Outcome → State → Prop} {XC : String → State → State → Prop}
    {pc : Nat} {own E : String} {ce : Cell} {q : Addr} {mc ms : Nat} (hown : s.vm.findClass own = some m.cls) (hlocks : meth.locks = false)
    (hpass : ∀ z ∈ c.exceptionTable.toList, covers z pc = false ∨ (z.catchType ≠ 0 ∧ ∃ nm : String, (Cond.classLink own z.catchType nm).before args s = true ∧ va_Nc E nm s)) (hcell : H[q]? = some ce) (hv : ce.vm = .none) (hcl : s.vm.findClass E = some ce.cls)
    (hx : ∀ t : State, t.heap = H → s.vm.Alike t.vm → XC E s t) (hf : ∀ z ∈ locs, free z.base) (hc : cells ≤ mc) (hs : slots ≤ ms) :
    vx_W p l e R s m args below meth c H locs cells slots (vx_MQ below Qc XC args s mc ms free) (F0 m pc ls rest) q := by
  intro T hT X
  have hpl : e.platform.magicAccessors = ({} : Platform).magicAccessors := by rw [X.admits.platform]
  obtain ⟨vm', hW', X', st⟩ := Jvm.Stand.outThrough X hlocks q (g := F0 m pc ls rest) rfl rfl rfl (cell := ce) (by rw [hT]; exact hcell) (by rw [hv]; rfl)
    (by obtain ⟨k9, h9, -⟩ := Vm.findClass_spec hcl; exact ⟨k9, h9⟩) (fun z hz => by
      rcases hpass z hz with h | ⟨hz0, nm, hl1, hn1⟩
      · exact Or.inl h
      · obtain ⟨c6, hc6, hcl6⟩ := Cond.classLink_spec hown hl1 e.platform hpl
        obtain ⟨a8, b8, h1, h2, h3⟩ := hn1
        cases Option.some.inj (h1.symm.trans hcl)
        cases Option.some.inj (h2.symm.trans hc6)
        exact Or.inr ⟨hz0, _, hcl6, h3⟩)
  obtain ⟨g₀, hfr⟩ := X'.frames_eq
  have hcell9 : ((T.setVm vm').setFrames (.throwing q :: below)).heap[q]? = some ce := by
    show T.heap[q]? = some ce
    rw [hT]; exact hcell
  have hend : Ended ((T.setVm vm').setFrames (.throwing q :: below)) below (.threw q) := State.frames_setFrames _ (State.cur_lt_of_frames hfr)
  refine ⟨(T.setVm vm').setFrames (.throwing q :: below), ?_, .threw q, X'.here.running, hend, Or.inr ⟨q, rfl, E, ce, locs, hx _ hT (X'.ends _).1.alike, hcell9, hv, hcl, (X'.ends _).1, (X'.ends _).2.mono hc hs, hf⟩⟩
  rw [X.pushThrowing_eq]
  exact st
/-- a thing of a world lies in the heap -/
theorem vx_lt {D : va_G} {cl : List vw_C} {ws : va_W} {H1 : Heap} (h : va_P D cl ws H1) {k : Nat} {q : Nat × va_E} (hk : ws[k]? = some q) : q.1 < H1.size := (h k q hk).lt
end VXS
/-! ===== END ===== -/
/-! ===== BEGIN methods with a table of their own: called by a name, returning or throwing ===== -/
section VXH
/-! vx_backW, vx_callVX, vx_callSX, vx_callVW, vx_runVW, vx_runVX, vx_runSX, vx_ofWH follow the same proofs as their sisters above (Free/Laws.lean, Shelf42/LK1.lean); vx_outP calls Shelf42/NT130.lean (outThrough). -/
section
variable {l : Launch} {R : Room} {p : Program} {e : Env} {below : List Frame} {s : State} {sargs : Array Value} {y : MethodName} {len W9 : Nat}
theorem vx_backW {ws : List Cond} {rm : Room} {Pc : Array Value → State → Prop} {Qc : Array Value → State → Outcome → State → Prop} {XC : String → State → State → Prop} {mc ms : Nat} {free : Addr → Prop} {bytes : ByteArray} {maxL : Nat} {ret : Option FieldType} {hh : List (Nat × Nat × Nat × Nat)}
    (hM : vx_Met l y ws rm Pc Qc XC mc ms free) (hblind : FrameBlind Pc) (hrc : rm.cells = mc) (hrs : rm.slots = ms)
    (hframes : rm.frames + 1 ≤ R.frames) (hlocals : W9 + (maxL + 11) + rm.locals ≤ R.locals)
    (hws : ∀ w ∈ ws, ∀ a' U, s.WarmedH U.vm → w.before a' U = true) (hcode : Cond.codeWith y bytes maxL ret hh ∈ ws) (hinit : ∀ a' U, s.WarmedH U.vm → (Cond.initialized y.cls).before a' U = true) :
    vx_Back l R p e below s sargs y len W9 (PreOf R mc ms Pc) (PostOf Qc mc ms free) (vx_Post XC mc ms free) := by
  intro m meth c A g ig mk a X hg hsize hdg hW hn hp
  have h1 : (headSpec ws rm).pre.before a A.U = true := atoms_intro fun w hw => hws w hw _ _ X.warmed
  have h2 : (Cond.codeWith y bytes maxL ret hh).before a A.U = true := hws _ hcode _ _ X.warmed
  have h3 : (Cond.initialized y.cls).before a A.U = true := hinit _ _ X.warmed
  have h4 : A.cells + (headSpec ws rm).room.cells ≤ R.cells := by rw [show (headSpec ws rm).room.cells = mc from hrc]; exact hp.1
  have h5 : A.slots + (headSpec ws rm).room.slots ≤ R.slots := by rw [show (headSpec ws rm).room.slots = ms from hrs]; exact hp.2.1
  have hPc : Pc a (A.U.calling g mk a) := hblind _ _ _ _ hp.2.2
  obtain ⟨U, Ls, c0, s0⟩ := A
  dsimp only [Pt.U, Pt.locs, Pt.cells, Pt.slots] at h1 h2 h3 h4 h5 X hn hPc ⊢
  obtain ⟨m9, methY, cY, hn9, hmY, hcY, -, hlY, -⟩ := Cond.codeWith_spec h2
  cases Option.some.inj (hn9.symm.trans hn)
  obtain ⟨kY, hkY, -⟩ := className_of_methodNamed hn
  have hinitY : kY.init = .initialized := Cond.initialized_spec (findClass_of_methodNamed hn) hkY h3
  have h : At U g.method c below := by rw [hg]; exact X.here
  have hlocals9 : W9 + (maxL + 11) + (headSpec ws rm).room.locals ≤ R.locals := hlocals
  have happ : (headSpec ws rm).appliesLoose y e.platform (U.calling g mk a) = true :=
    Spec.appliesLoose_calling (g := g) h hdg hn hkY hinitY
      (X.room_calling (g := g) (R' := (headSpec ws rm).room) hsize hmY hcY hframes (by rw [hlY]; omega) h4 h5) h1
  obtain ⟨mid, hmid⟩ := h.above
  have hfr : (U.setTop g).frames = (.java g :: mid) ++ below := by rw [State.frames_setTop' g h.top, hmid]; rfl
  obtain ⟨o, s₂, hsteps, -, hend, hq⟩ := Steps.callFree hM p X.admits X.cas X.clock (acts := []) hfr happ hPc trivial
  have hq' : vx_Q Qc XC mc ms free a (U.calling g mk a) o s₂ := hq
  rw [State.frames_setTop' g h.top] at hend
  obtain ⟨g₀, hg0⟩ := Option.isSome_iff_exists.mp h.top
  obtain ⟨r, hr⟩ := State.topJava?_eq_some.mp hg0
  have hr' : (({ U with heap := s₂.heap, slotsUsed := s₂.slotsUsed } : State).setVm s₂.vm).frames = .java g₀ :: r := hr
  rcases hq' with ⟨hqc, L, hfe, hL⟩ | ⟨q, rfl, E, ce, L, hx, hce, hcv, hcl, hW₂, hsm, hL⟩
  · obtain ⟨⟨v, rfl⟩, hW₂, e2, q2, q3, q4, q5, q6⟩ := id hfe
    have e3 : s₂ = ({ (U.calling g mk a).setFrames s₂.frames with heap := s₂.heap, slotsUsed := s₂.slotsUsed } : State).setVm s₂.vm := by
      have : s₂ = ({ s₂ with vm := (U.calling g mk a).vm } : State).setVm s₂.vm := rfl
      rw [e2] at this
      exact this
    obtain ⟨c₂, i₂, len₂, hc₂, hd₂, hf₂⟩ := hend
    have hW' : U.WarmedH s₂.vm := hW₂
    have hcc : c₂ = c := by
      have h1 : s₂.code? g.method = U.code? g.method := by
        rw [State.code?_eq, State.code?_eq, hW'.alike.method?]
      exact Option.some.inj (hc₂.symm.trans (h1.trans h.code))
    subst hcc
    have hlen : len₂ = len := by rw [hdg] at hd₂; cases hd₂; rfl
    subst hlen
    have hs₂ : s₂ = (({ U with heap := s₂.heap, slotsUsed := s₂.slotsUsed } : State).setVm s₂.vm).setTop { g with pc := g.pc + len₂, stack := v.toList ++ g.stack } := by
      refine e3.trans ?_
      rw [hf₂, State.calling_eq h.top, State.setFrames_setFrames, State.setTop_of_frames _ hr', hr]
      rfl
    have hsame : U.sameButNew ({ U with heap := s₂.heap, slotsUsed := s₂.slotsUsed } : State) L mc ms := by
      refine ⟨?_, q2, q3, q4, q5, q6⟩
      obtain ⟨t, ht, -⟩ := State.frames_cons hr
      show ({ U with heap := s₂.heap, slotsUsed := s₂.slotsUsed } : State) = { U.setFrames U.frames with heap := s₂.heap, slotsUsed := s₂.slotsUsed }
      rw [State.setFrames_self ht]
    subst hg
    refine Or.inl ⟨v, ⟨(({ U with heap := s₂.heap, slotsUsed := s₂.slotsUsed } : State).setVm s₂.vm), Ls ++ L, c0 + mc, s0 + ms⟩,
      ⟨X.admits, X.cas, X.clock, X.frames, X.room, X.hears, X.method, X.code, (X.here.setHeapUsed s₂.heap s₂.slotsUsed).setVm hW'.alike, X.tail, State.WarmedH.trans X.warmed hW', X.limits, X.bytes, X.same.trans (hsame.setVm s.vm)⟩,
      ⟨g, mk, s₂, L, rfl, rfl, hqc, rfl, hL, rfl, rfl⟩, ?_⟩
    show Steps p.tables e below _ ((({ U with heap := s₂.heap, slotsUsed := s₂.slotsUsed } : State).setVm s₂.vm).setTop { g with pc := g.pc + len₂, stack := v.toList ++ g.stack })
    rw [← hs₂]
    exact hsteps
  · obtain ⟨e2, q2, q3, q4, q5, q6⟩ := id hsm
    have e3 : s₂ = ({ (U.calling g mk a).setFrames s₂.frames with heap := s₂.heap, slotsUsed := s₂.slotsUsed } : State).setVm s₂.vm := by
      have : s₂ = ({ s₂ with vm := (U.calling g mk a).vm } : State).setVm s₂.vm := rfl
      rw [e2] at this
      exact this
    have hf₂ : s₂.frames = .throwing q :: .java g :: U.frames.tail := hend
    have hW' : U.WarmedH s₂.vm := hW₂
    have hs₂ : s₂ = ((({ U with heap := s₂.heap, slotsUsed := s₂.slotsUsed } : State).setVm s₂.vm).setTop g).pushFrame (.throwing q) := by
      refine e3.trans ?_
      rw [hf₂, State.calling_eq h.top, State.setFrames_setFrames, State.pushFrame, State.frames_setTop _ hr', State.setTop_of_frames _ hr', State.setFrames_setFrames, hr]
      rfl
    have hsame : U.sameButNew ({ U with heap := s₂.heap, slotsUsed := s₂.slotsUsed } : State) L mc ms := by
      refine ⟨?_, q2, q3, q4, q5, q6⟩
      obtain ⟨t, ht, -⟩ := State.frames_cons hr
      show ({ U with heap := s₂.heap, slotsUsed := s₂.slotsUsed } : State) = { U.setFrames U.frames with heap := s₂.heap, slotsUsed := s₂.slotsUsed }
      rw [State.setFrames_self ht]
    subst hg
    refine Or.inr ⟨q, ⟨(({ U with heap := s₂.heap, slotsUsed := s₂.slotsUsed } : State).setVm s₂.vm), Ls ++ L, c0 + mc, s0 + ms⟩,
      ⟨X.admits, X.cas, X.clock, X.frames, X.room, X.hears, X.method, X.code, (X.here.setHeapUsed s₂.heap s₂.slotsUsed).setVm hW'.alike, X.tail, State.WarmedH.trans X.warmed hW', X.limits, X.bytes, X.same.trans (hsame.setVm s.vm)⟩,
      ⟨g, mk, s₂, L, E, ce, rfl, rfl, hx, hce, hcv, hcl, rfl, hL, rfl, rfl⟩, ?_⟩
    show Steps p.tables e below _ (((({ U with heap := s₂.heap, slotsUsed := s₂.slotsUsed } : State).setVm s₂.vm).setTop g).pushFrame (.throwing q))
    rw [← hs₂]
    exact hsteps
end
variable {p : Program} {l : Launch} {e : Env} {R : Room} {s : State} {m : MethodId} {args : Array Value} {below : List Frame} {meth : Method} {c : Code} {T : State} {H : Heap} {locs : List Loc} {cells slots : Nat}
theorem vx_callVX (X : Stand p l e R s m args below meth c T locs cells slots) (hexec : p.tables.exec = Jvm.exec) {own C : String} {index : Nat} {y : MethodName} {bytes : ByteArray} {maxL : Nat} {ret : Option FieldType} {hh : List (Nat × Nat × Nat × Nat)}
    (hown : s.vm.findClass own = some m.cls) (hlink : (Cond.methodLink own index y).before args s = true) (hinst : (Cond.instanceMethod y).before args s = true) (hsel : (Cond.selects C y y).before args s = true)
    (hcode : (Cond.codeWith y bytes maxL ret hh).before args s = true) (hy : y.cls ≠ "java/lang/invoke/MethodHandle" ∧ y.cls ≠ "java/lang/invoke/VarHandle")
    {W9 : Nat} {Pre : Pt → Array Value → Prop} {Post : Pt → Array Value → Option Value → Pt → Prop} {PostX : Pt → Array Value → Addr → Pt → Prop} (hK : vx_Back l R p e below s args y 3 W9 Pre Post PostX)
    {b : Addr} {cellB : Cell} (hcell : T.heap[b]? = some cellB) (hobj : cellB.vm.isStatics = false) (hcls : s.vm.findClass C = some cellB.cls)
    {g : JFrame} (hg : g.method = m) (hsize : g.locals.size = c.maxLocals) {argsL rest : List Value} (hlen : ∀ sig, parseMethodDescriptor y.desc = some sig → argsL.length = sig.parameters.length)
    (hstack : g.stack = argsL.reverse ++ .ref b :: rest) (hW : 2 * g.monitorRoom + (rest.map fun v => v.category).sum ≤ W9) (hdg : decode c.code g.pc = .ok (.invokevirtual index, 3))
    (hpre : ∀ vm₁, s.WarmedH vm₁ → Pre ⟨T.setVm vm₁, locs, cells, slots⟩ (Value.ref b :: argsL).toArray) :
    (∃ (v : Option Value) (vm₁ : Vm) (B : Pt), s.WarmedH vm₁ ∧ Stand p l e R s m args below meth c B.U B.locs B.cells B.slots ∧ Post ⟨T.setVm vm₁, locs, cells, slots⟩ (Value.ref b :: argsL).toArray v B ∧
      ∀ target, Steps p.tables e below (B.U.setTop { g with pc := g.pc + 3, stack := v.toList ++ rest }) target → Steps p.tables e below (T.setTop g) target) ∨
    (∃ (q : Addr) (vm₁ : Vm) (B : Pt), s.WarmedH vm₁ ∧ Stand p l e R s m args below meth c B.U B.locs B.cells B.slots ∧ PostX ⟨T.setVm vm₁, locs, cells, slots⟩ (Value.ref b :: argsL).toArray q B ∧
      Steps p.tables e below (T.setTop g) ((B.U.setTop { g with stack := rest }).pushFrame (.throwing q))) := by
  obtain ⟨mk, methM, hnamed, hmethM, hstM, habM⟩ := Cond.instanceMethod_spec hinst
  obtain ⟨m8, methM', cM, hn8, hmethM', -, -, -, -, -, -, hsigM⟩ := Cond.codeWith_spec hcode
  cases Option.some.inj (hn8.symm.trans hnamed)
  cases hmethM.symm.trans hmethM'
  obtain ⟨c2, r2, m2, q1, q2, q3, q4, kP, hkP, hkPi⟩ := Cond.selects_spec hsel
  cases hcls.symm.trans q1
  cases (State.methodFound?_of_named hnamed hy).symm.trans q2
  cases hnamed.symm.trans q3
  have hselP : selectMethod e.platform s.vm cellB.cls mk = .method mk := by rw [Launch.admits_selectMethod X.admits]; exact q4
  obtain ⟨vm₁, X₁, hstep₁⟩ := X.invokevirtual hexec hown hlink hnamed hmethM hstM hkP hkPi hy (a := b) (cell := cellB) hcell
    (fun z h => by rw [h] at hobj; cases hobj) hselP hmethM habM hkP hkPi (g := g) hg (argsL := argsL) (rest := rest) (hlen _ hsigM) hstack hdg
  rcases hK m meth c ⟨T.setVm vm₁, locs, cells, slots⟩ { g with stack := rest } (.invokevirtual index) mk (Value.ref b :: argsL).toArray X₁ hg hsize hdg hW (X₁.named hnamed) (hpre vm₁ X₁.warmed) with ⟨v, B, X', hpost, hsteps⟩ | ⟨q, B, X', hpost, hsteps⟩
  · exact Or.inl ⟨v, vm₁, B, X₁.warmed, X', hpost, fun target h => hstep₁ _ fun acts => by rw [doInvoke_state]; exact hsteps.trans h⟩
  · exact Or.inr ⟨q, vm₁, B, X₁.warmed, X', hpost, hstep₁ _ fun acts => by rw [doInvoke_state]; exact hsteps⟩
theorem vx_callSX (X : Stand p l e R s m args below meth c T locs cells slots) (hexec : p.tables.exec = Jvm.exec) {own : String} {index : Nat} {y : MethodName} {bytes : ByteArray} {maxL : Nat} {ret : Option FieldType} {hh : List (Nat × Nat × Nat × Nat)}
    (hown : s.vm.findClass own = some m.cls) (hlink : (Cond.methodLink own index y).before args s = true) (hstat : (Cond.static y).before args s = true) (hinit : (Cond.initialized y.cls).before args s = true)
    (hcode : (Cond.codeWith y bytes maxL ret hh).before args s = true) (hy : y.cls ≠ "java/lang/invoke/MethodHandle" ∧ y.cls ≠ "java/lang/invoke/VarHandle")
    {W9 : Nat} {Pre : Pt → Array Value → Prop} {Post : Pt → Array Value → Option Value → Pt → Prop} {PostX : Pt → Array Value → Addr → Pt → Prop} (hK : vx_Back l R p e below s args y 3 W9 Pre Post PostX)
    {g : JFrame} (hg : g.method = m) (hsize : g.locals.size = c.maxLocals) {argsL rest : List Value} (hlen : ∀ sig, parseMethodDescriptor y.desc = some sig → argsL.length = sig.parameters.length)
    (hstack : g.stack = argsL.reverse ++ rest) (hW : 2 * g.monitorRoom + (rest.map fun v => v.category).sum ≤ W9) (hdg : decode c.code g.pc = .ok (.invokestatic index, 3))
    (hpre : ∀ vm₁, s.WarmedH vm₁ → Pre ⟨T.setVm vm₁, locs, cells, slots⟩ argsL.toArray) :
    (∃ (v : Option Value) (vm₁ : Vm) (B : Pt), s.WarmedH vm₁ ∧ Stand p l e R s m args below meth c B.U B.locs B.cells B.slots ∧ Post ⟨T.setVm vm₁, locs, cells, slots⟩ argsL.toArray v B ∧
      ∀ target, Steps p.tables e below (B.U.setTop { g with pc := g.pc + 3, stack := v.toList ++ rest }) target → Steps p.tables e below (T.setTop g) target) ∨
    (∃ (q : Addr) (vm₁ : Vm) (B : Pt), s.WarmedH vm₁ ∧ Stand p l e R s m args below meth c B.U B.locs B.cells B.slots ∧ PostX ⟨T.setVm vm₁, locs, cells, slots⟩ argsL.toArray q B ∧
      Steps p.tables e below (T.setTop g) ((B.U.setTop { g with stack := rest }).pushFrame (.throwing q))) := by
  obtain ⟨mk, methM, cM, hnamed, hmethM, -, -, -, -, -, -, hsigM⟩ := Cond.codeWith_spec hcode
  have hstatic : methM.isStatic = true := Cond.static_spec hnamed hmethM hstat
  obtain ⟨kP, hkP, -⟩ := className_of_methodNamed hnamed
  have hinitP : kP.init = .initialized := Cond.initialized_spec (findClass_of_methodNamed hnamed) hkP hinit
  obtain ⟨vm₁, X₁, hstep₁⟩ := X.invokestatic hexec hown hlink hnamed hmethM hstatic hkP hinitP hy (g := g) hg (argsL := argsL) (rest := rest) (hlen _ hsigM) hstack hdg
  rcases hK m meth c ⟨T.setVm vm₁, locs, cells, slots⟩ { g with stack := rest } (.invokestatic index) mk argsL.toArray X₁ hg hsize hdg hW (X₁.named hnamed) (hpre vm₁ X₁.warmed) with ⟨v, B, X', hpost, hsteps⟩ | ⟨q, B, X', hpost, hsteps⟩
  · exact Or.inl ⟨v, vm₁, B, X₁.warmed, X', hpost, fun target h => hstep₁ _ fun acts => by rw [doInvoke_state]; exact hsteps.trans h⟩
  · exact Or.inr ⟨q, vm₁, B, X₁.warmed, X', hpost, hstep₁ _ fun acts => by rw [doInvoke_state]; exact hsteps⟩
theorem vx_callVW (X : Stand p l e R s m args below meth c T locs cells slots) (hexec : p.tables.exec = Jvm.exec) {own C : String} {index : Nat} {y : MethodName} {bytes : ByteArray} {maxL : Nat} {ret : Option FieldType} {hh : List (Nat × Nat × Nat × Nat)}
    (hown : s.vm.findClass own = some m.cls) (hlink : (Cond.methodLink own index y).before args s = true) (hinst : (Cond.instanceMethod y).before args s = true) (hsel : (Cond.selects C y y).before args s = true)
    (hcode : (Cond.codeWith y bytes maxL ret hh).before args s = true) (hy : y.cls ≠ "java/lang/invoke/MethodHandle" ∧ y.cls ≠ "java/lang/invoke/VarHandle")
    {W9 : Nat} {Pre : Pt → Array Value → Prop} {Post : Pt → Array Value → Option Value → Pt → Prop} (hK : Back l R p e below s args y 3 W9 Pre Post)
    {b : Addr} {cellB : Cell} (hcell : T.heap[b]? = some cellB) (hobj : cellB.vm.isStatics = false) (hcls : s.vm.findClass C = some cellB.cls)
    {g : JFrame} (hg : g.method = m) (hsize : g.locals.size = c.maxLocals) {argsL rest : List Value} (hlen : ∀ sig, parseMethodDescriptor y.desc = some sig → argsL.length = sig.parameters.length)
    (hstack : g.stack = argsL.reverse ++ .ref b :: rest) (hW : 2 * g.monitorRoom + (rest.map fun v => v.category).sum ≤ W9) (hdg : decode c.code g.pc = .ok (.invokevirtual index, 3))
    (hpre : ∀ vm₁, s.WarmedH vm₁ → Pre ⟨T.setVm vm₁, locs, cells, slots⟩ (Value.ref b :: argsL).toArray) :
    ∃ (v : Option Value) (vm₁ : Vm) (B : Pt), s.WarmedH vm₁ ∧ Stand p l e R s m args below meth c B.U B.locs B.cells B.slots ∧ Post ⟨T.setVm vm₁, locs, cells, slots⟩ (Value.ref b :: argsL).toArray v B ∧
      ∀ target, Steps p.tables e below (B.U.setTop { g with pc := g.pc + 3, stack := v.toList ++ rest }) target → Steps p.tables e below (T.setTop g) target := by
  obtain ⟨mk, methM, hnamed, hmethM, hstM, habM⟩ := Cond.instanceMethod_spec hinst
  obtain ⟨m8, methM', cM, hn8, hmethM', -, -, -, -, -, -, hsigM⟩ := Cond.codeWith_spec hcode
  cases Option.some.inj (hn8.symm.trans hnamed)
  cases hmethM.symm.trans hmethM'
  obtain ⟨c2, r2, m2, q1, q2, q3, q4, kP, hkP, hkPi⟩ := Cond.selects_spec hsel
  cases hcls.symm.trans q1
  cases (State.methodFound?_of_named hnamed hy).symm.trans q2
  cases hnamed.symm.trans q3
  have hselP : selectMethod e.platform s.vm cellB.cls mk = .method mk := by rw [Launch.admits_selectMethod X.admits]; exact q4
  obtain ⟨vm₁, X₁, hstep₁⟩ := X.invokevirtual hexec hown hlink hnamed hmethM hstM hkP hkPi hy (a := b) (cell := cellB) hcell
    (fun z h => by rw [h] at hobj; cases hobj) hselP hmethM habM hkP hkPi (g := g) hg (argsL := argsL) (rest := rest) (hlen _ hsigM) hstack hdg
  obtain ⟨v, B, X', hpost, hsteps⟩ := hK m meth c ⟨T.setVm vm₁, locs, cells, slots⟩ { g with stack := rest } (.invokevirtual index) mk (Value.ref b :: argsL).toArray X₁ hg hsize hdg hW (X₁.named hnamed) (hpre vm₁ X₁.warmed)
  exact ⟨v, vm₁, B, X₁.warmed, X', hpost, fun target h => hstep₁ _ fun acts => by rw [doInvoke_state]; exact hsteps.trans h⟩
abbrev vx_CVW (R : Room) (s : State) (args : Array Value) (own C : String) (index : Nat) (y : MethodName) (bytes : ByteArray) (maxL : Nat) (ret : Option FieldType) (hh : List (Nat × Nat × Nat × Nat)) (ws : List Cond) (rm : Room) (mc ms n : Nat) : Prop :=
  (rm.cells = mc ∧ rm.slots = ms ∧ rm.frames + 1 ≤ R.frames ∧ 8 + (maxL + 11) + rm.locals ≤ R.locals ∧ (∀ w ∈ ws, ∀ (a' : Array Value) (U : State), s.WarmedH U.vm → w.before a' U = true) ∧ Cond.codeWith y bytes maxL ret hh ∈ ws) ∧
  (Cond.codeWith y bytes maxL ret hh).before args s = true ∧ (Cond.initialized y.cls).before args s = true ∧ (y.cls ≠ "java/lang/invoke/MethodHandle" ∧ y.cls ≠ "java/lang/invoke/VarHandle") ∧
  (∀ sig, parseMethodDescriptor y.desc = some sig → n = sig.parameters.length) ∧ (Cond.methodLink own index y).before args s = true ∧ (Cond.instanceMethod y).before args s = true ∧ (Cond.selects C y y).before args s = true
theorem vx_cwVW {own C : String} {index maxL mc ms : Nat} {y : MethodName} {bytes : ByteArray} {ret : Option FieldType} {hh : List (Nat × Nat × Nat × Nat)} {Ts ws ws' : List Cond} {rm : Room} (n : Nat) (ht : ∀ w ∈ Ts, w.before args s = true) (hT : GoodIn Ts (wsV own index C y ws)) (hw : ws = Cond.codeWith y bytes maxL ret hh :: ws') (hrc : rm.cells = mc) (hrs : rm.slots = ms)
    (hd : y.cls = C ∧ y.cls ≠ "java/lang/invoke/MethodHandle" ∧ y.cls ≠ "java/lang/invoke/VarHandle" ∧ (parseMethodDescriptor y.desc).map (fun d => d.parameters.length) = some n) (hR : rm.frames + 1 ≤ R.frames ∧ 8 + (maxL + 11) + rm.locals ≤ R.locals) :
    vx_CVW R s args own C index y bytes maxL ret hh ws rm mc ms n := by
  obtain ⟨hC, hd⟩ := hd
  subst hC
  have ok : ∀ w ∈ wsV own index y.cls y ws, w.before args s = true := fun w h => ht w (hT w h).1
  have hG : GoodIn Ts ws := fun w h => hT w (by unfold wsV; exact List.mem_append_right _ h)
  have hc : Cond.codeWith y bytes maxL ret hh ∈ ws := by rw [hw]; exact List.mem_cons_self
  refine ⟨⟨hrc, hrs, hR.1, hR.2, pay_in ht hG, hc⟩, ht _ (hG _ hc).1, ok _ (by simp [wsV]), ⟨hd.1, hd.2.1⟩, fun sig h => ?_, ok _ (by simp [wsV]), ok _ (by simp [wsV]), ok _ (by simp [wsV])⟩
  have h2 := hd.2.2
  rw [h] at h2
  exact (Option.some.inj h2).symm
theorem vx_runVW {y : MethodName} {bytes cc : ByteArray} {maxL nL mc ms n index : Nat} {ret : Option FieldType} {hh : List (Nat × Nat × Nat × Nat)} {ws : List Cond} {rm : Room} {Pc : Array Value → State → Prop} {Qc : Array Value → State → Outcome → State → Prop} {free : Addr → Prop} {Ts : List Cond} {own C : String} {b : Addr} {As rest : List Value} {g : JFrame}
    (S : CallFix p m c cc nL s args Ts own) (hM : Met l y ws rm Pc Qc mc ms free) (cw : vx_CVW R s args own C index y bytes maxL ret hh ws rm mc ms n) (hp : PreV s H C b Pc As)
    (hg : g.method = m) (hn : As.length = n) (hsize : g.locals.size = nL) (hstack : g.stack = As.reverse ++ .ref b :: rest) (hW : 2 * g.monitorRoom + (rest.map fun v => v.category).sum ≤ 8) (hdg : decode cc g.pc = .ok (.invokevirtual index, 3)) (hf : cells + mc ≤ R.cells ∧ slots + ms ≤ R.slots) :
    va_Run p l e R s m args below meth c H locs cells slots mc ms g rest (Qc (Value.ref b :: As).toArray) free := by
  obtain ⟨⟨hrc, hrs, hfr, hlo, hws, hcw⟩, hcode, hini, hy, hlen, hl, hin, hse⟩ := cw
  have hK : Back l R p e below s args y 3 8 (PreOf R mc ms Pc) (PostOf Qc mc ms free) := va_backW (hh := hh) (bytes := bytes) (maxL := maxL) (ret := ret) hM hp.1 hrc hrs hfr hlo hws hcw (fun a' U hW => word_at hW (Or.inl (by first | rfl | simp [Cond.onTables, Cond.keeps, Cond.steady])) hini)
  obtain ⟨hx, hb, hml, ho, -⟩ := S
  obtain ⟨-, ⟨cellB, hcB, hoB, hclB⟩, hPc⟩ := hp
  intro T hT X
  obtain ⟨v, vm₁, ⟨U', l2, c2, s2⟩, hW₁, X', ⟨g', mk, t, L, e1, e2, hq, h1, hL, h2, h3⟩, st⟩ := vx_callVW X hx (C := C) (hh := hh) (bytes := bytes) (maxL := maxL) (ret := ret) ho hl hin hse hcode hy hK (by rw [hT]; exact hcB) hoB hclB hg (hsize.trans hml.symm) (argsL := As) (rest := rest) (fun sig h => hn.trans (hlen sig h)) hstack hW (by rw [hb]; exact hdg)
    (fun vm₁ hW₁ => ⟨hf.1, hf.2, hPc (T.setVm vm₁) hT hW₁⟩)
  dsimp only [Pt.U, Pt.locs, Pt.cells, Pt.slots] at X' e1 e2 h1 h2 h3 st
  subst h1; subst h2; subst h3
  exact ⟨v, (T.setVm vm₁).calling g' mk (Value.ref b :: As).toArray, t, U', L, hT, X', hL, e1, e2, hq, st⟩
section
variable {y : MethodName} {bytes cc : ByteArray} {maxL nL mc ms n index : Nat} {ret : Option FieldType} {ws : List Cond} {rm : Room} {Pc : Array Value → State → Prop} {Qc : Array Value → State → Outcome → State → Prop} {XC : String → State → State → Prop} {free : Addr → Prop} {Ts : List Cond} {own C : String} {b : Addr} {As rest : List Value} {g : JFrame}
theorem vx_runVX {hh : List (Nat × Nat × Nat × Nat)} (S : CallFix p m c cc nL s args Ts own) (hM : vx_Met l y ws rm Pc Qc XC mc ms free) (cw : vx_CVW R s args own C index y bytes maxL ret hh ws rm mc ms n) (hp : PreV s H C b Pc As)
    (hg : g.method = m) (hn : As.length = n) (hsize : g.locals.size = nL) (hstack : g.stack = As.reverse ++ .ref b :: rest) (hW : 2 * g.monitorRoom + (rest.map fun v => v.category).sum ≤ 8) (hdg : decode cc g.pc = .ok (.invokevirtual index, 3)) (hf : cells + mc ≤ R.cells ∧ slots + ms ≤ R.slots) :
    vx_Run p l e R s m args below meth c H locs cells slots mc ms g rest (Qc (Value.ref b :: As).toArray) XC free := by
  obtain ⟨⟨hrc, hrs, hfr, hlo, hws, hcw⟩, hcode, hini, hy, hlen, hl, hin, hse⟩ := cw
  have hK : vx_Back l R p e below s args y 3 8 (PreOf R mc ms Pc) (PostOf Qc mc ms free) (vx_Post XC mc ms free) := vx_backW (hh := hh) (bytes := bytes) (maxL := maxL) (ret := ret) hM hp.1 hrc hrs hfr hlo hws hcw (fun a' U hW => word_at hW (Or.inl (by first | rfl | simp [Cond.onTables, Cond.keeps, Cond.steady])) hini)
  obtain ⟨hx, hb, hml, ho, -⟩ := S
  obtain ⟨-, ⟨cellB, hcB, hoB, hclB⟩, hPc⟩ := hp
  intro T hT X
  rcases vx_callVX X hx (C := C) (hh := hh) (bytes := bytes) (maxL := maxL) (ret := ret) ho hl hin hse hcode hy hK (by rw [hT]; exact hcB) hoB hclB hg (hsize.trans hml.symm) (argsL := As) (rest := rest) (fun sig h => hn.trans (hlen sig h)) hstack hW (by rw [hb]; exact hdg)
    (fun vm₁ hW₁ => ⟨hf.1, hf.2, hPc (T.setVm vm₁) hT hW₁⟩) with ⟨v, vm₁, ⟨U', l2, c2, s2⟩, hW₁, X', ⟨g', mk, t, L, e1, e2, hq, h1, hL, h2, h3⟩, st⟩ | ⟨q, vm₁, ⟨U', l2, c2, s2⟩, hW₁, X', ⟨g', mk, t, L, E, ce, e1, e2, hq, hce, hcv, hcl, h1, hL, h2, h3⟩, st⟩
  · dsimp only [Pt.U, Pt.locs, Pt.cells, Pt.slots] at X' e1 e2 h1 h2 h3 st
    subst h1; subst h2; subst h3
    exact Or.inl ⟨v, (T.setVm vm₁).calling g' mk (Value.ref b :: As).toArray, t, U', L, hT, X', hL, e1, e2, hq, st⟩
  · dsimp only [Pt.U, Pt.locs, Pt.cells, Pt.slots] at X' e1 e2 h1 h2 h3 st hcl
    subst h1; subst h2; subst h3
    exact Or.inr ⟨q, (T.setVm vm₁).calling g' mk (Value.ref b :: As).toArray, t, U', L, E, ce, hT, X', hL, e1, e2, hq, hce, hcv, vx_cls hW₁ hcl, st⟩
theorem vx_runSX {hh : List (Nat × Nat × Nat × Nat)} (S : CallFix p m c cc nL s args Ts own) (hM : vx_Met l y ws rm Pc Qc XC mc ms free) (cw : vx_CSW R s args own index y bytes maxL ret hh ws rm mc ms n) (hp : PreS s H Pc As)
    (hg : g.method = m) (hn : As.length = n) (hsize : g.locals.size = nL) (hstack : g.stack = As.reverse ++ rest) (hW : 2 * g.monitorRoom + (rest.map fun v => v.category).sum ≤ 8) (hdg : decode cc g.pc = .ok (.invokestatic index, 3)) (hf : cells + mc ≤ R.cells ∧ slots + ms ≤ R.slots) :
    vx_Run p l e R s m args below meth c H locs cells slots mc ms g rest (Qc As.toArray) XC free := by
  obtain ⟨⟨hrc, hrs, hfr, hlo, hws, hcw⟩, hcode, hini, hy, hlen, hl, hstt⟩ := cw
  have hK : vx_Back l R p e below s args y 3 8 (PreOf R mc ms Pc) (PostOf Qc mc ms free) (vx_Post XC mc ms free) := vx_backW (hh := hh) (bytes := bytes) (maxL := maxL) (ret := ret) hM hp.1 hrc hrs hfr hlo hws hcw (fun a' U hW => word_at hW (Or.inl (by first | rfl | simp [Cond.onTables, Cond.keeps, Cond.steady])) hini)
  obtain ⟨hx, hb, hml, ho, -⟩ := S
  intro T hT X
  rcases vx_callSX X hx (hh := hh) (bytes := bytes) (maxL := maxL) (ret := ret) ho hl hstt hini hcode hy hK hg (hsize.trans hml.symm) (argsL := As) (rest := rest) (fun sig h => hn.trans (hlen sig h)) hstack hW (by rw [hb]; exact hdg)
    (fun vm₁ hW₁ => ⟨hf.1, hf.2, hp.2 (T.setVm vm₁) hT hW₁⟩) with ⟨v, vm₁, ⟨U', l2, c2, s2⟩, hW₁, X', ⟨g', mk, t, L, e1, e2, hq, h1, hL, h2, h3⟩, st⟩ | ⟨q, vm₁, ⟨U', l2, c2, s2⟩, hW₁, X', ⟨g', mk, t, L, E, ce, e1, e2, hq, hce, hcv, hcl, h1, hL, h2, h3⟩, st⟩
  · dsimp only [Pt.U, Pt.locs, Pt.cells, Pt.slots] at X' e1 e2 h1 h2 h3 st
    subst h1; subst h2; subst h3
    exact Or.inl ⟨v, (T.setVm vm₁).calling g' mk As.toArray, t, U', L, hT, X', hL, e1, e2, hq, st⟩
  · dsimp only [Pt.U, Pt.locs, Pt.cells, Pt.slots] at X' e1 e2 h1 h2 h3 st hcl
    subst h1; subst h2; subst h3
    exact Or.inr ⟨q, (T.setVm vm₁).calling g' mk As.toArray, t, U', L, E, ce, hT, X', hL, e1, e2, hq, hce, hcv, vx_cls hW₁ hcl, st⟩
end
end VXH
theorem vx_ofWH {l : Launch} {y : MethodName} {ws ws' : List Cond} {rm : Room} {Pc : Array Value → State → Prop} {Qc : Array Value → State → Outcome → State → Prop} {XC : String → State → State → Prop} {mc ms : Nat} {free : Addr → Prop} {cc : ByteArray} {maxL : Nat} {ret : Option FieldType} {hh : List (Nat × Nat × Nat × Nat)}
    (hy : plainName y.cls = true) (hw : ws = Cond.codeWith y cc maxL ret hh :: ws')
    (body : ∀ p e s m args below meth c s₁, BodyLoose p l y (headSpec ws rm) cc maxL ret e s m args below meth c s₁ → c.maxLocals = maxL → Pc args s →
      W p l e (headSpec ws rm).room s m args below meth c s.heap [] 0 0 (vx_MQ below Qc XC args s mc ms free) (entryFrame m args maxL)) : vx_Met l y ws rm Pc Qc XC mc ms free := by
  refine MetFree.of_bodyS (code := cc) (maxLocals := maxL) (ret := ret) hy ?_ ?_
  · intro args s m h hn
    obtain ⟨m9, meth, c, hn9, h1, h2, h3, h4, -, h5, h6, -⟩ := Cond.codeWith_spec (atoms_spec (ws := ws) h _ (by rw [hw]; exact List.mem_cons_self))
    cases hn.symm.trans hn9
    exact ⟨meth, c, h1, h2, h3, h4, h5, h6⟩
  · intro p e s m args below meth c s₁ B hml hP _
    have hh0 : s₁.heap = s.heap := by rw [B.state]; rfl
    obtain ⟨t, a1, o, b1, b2, b3⟩ := body p e s m args below meth c s₁ B hml hP s₁ hh0 (Stand.of_body B)
    exact ⟨t, o, a1, b1, b2, b3⟩
/-! ===== END ===== -/
end
section
/-! ===== BEGIN printed: names, fields, word lists, decode rows ===== -/
def RX0 : String := "SharedWire$Frame"
def TX0 : u_T := fun k => match k with
  | 0 => ("SharedWire$Frame", "isLong", "Z", false)
  | 1 => ("SharedWire$Frame", "identifier", "I", false)
  | 2 => ("SharedWire$Frame", "data", "J", false)
  | _ => ("SharedWire$Frame", "size", "I", false)
def tyX0 : Nat → FieldType := fun k => match k with
  | 0 => .boolean
  | 1 => .int
  | 2 => .long
  | _ => .int
abbrev wsX00 : List Cond := u_ws RX0 TX0 4
theorem nmX0 : ∀ a, a < 4 → ∀ b, b < 4 → a ≠ b → (TX0 a).2.1 ≠ (TX0 b).2.1 := by decide +kernel
theorem tyX0_ok : ∀ k, k < 4 → parseFieldDescriptor (TX0 k).2.2.1 = some (tyX0 k) := by decide +kernel
abbrev cX0_init : ByteArray := prog_2_method_1_code
def yX0_init : MethodName := ⟨RX0, "<init>", "()V"⟩
abbrev cX0_set : ByteArray := prog_2_method_2_code
def yX0_set : MethodName := ⟨RX0, "set", "(ZIJI)V"⟩
abbrev cX0_rank : ByteArray := prog_2_method_3_code
def yX0_rank : MethodName := ⟨RX0, "rank", "()I"⟩
def RX1 : String := "SharedWire$Line"
def TX1 : u_T := fun k => match k with
  | 0 => ("SharedWire$Line", "bits", "[I", true)
  | 1 => ("SharedWire$Line", "places", "[I", true)
  | 2 => ("SharedWire$Line", "length", "I", false)
  | 3 => ("SharedWire$Line", "head", "I", false)
  | 4 => ("SharedWire$Line", "framed", "I", false)
  | 5 => ("SharedWire$Line", "alike", "I", false)
  | 6 => ("SharedWire$Line", "last", "I", false)
  | _ => ("SharedWire$Line", "check", "I", false)
def tyX1 : Nat → FieldType := fun k => match k with
  | 0 => .array .int
  | 1 => .array .int
  | 2 => .int
  | 3 => .int
  | 4 => .int
  | 5 => .int
  | 6 => .int
  | _ => .int
abbrev wsX10 : List Cond := u_ws RX1 TX1 8
theorem nmX1 : ∀ a, a < 8 → ∀ b, b < 8 → a ≠ b → (TX1 a).2.1 ≠ (TX1 b).2.1 := by decide +kernel
theorem tyX1_ok : ∀ k, k < 8 → parseFieldDescriptor (TX1 k).2.2.1 = some (tyX1 k) := by decide +kernel
abbrev cX1_init : ByteArray := prog_3_method_1_code
def yX1_init : MethodName := ⟨RX1, "<init>", "()V"⟩
abbrev cX1_write : ByteArray := prog_3_method_2_code
def yX1_write : MethodName := ⟨RX1, "write", "(LSharedWire$Frame;)V"⟩
abbrev cX1_bitAt : ByteArray := prog_3_method_3_code
def yX1_bitAt : MethodName := ⟨RX1, "bitAt", "(I)I"⟩
abbrev cX1_isAnswer : ByteArray := prog_3_method_4_code
def yX1_isAnswer : MethodName := ⟨RX1, "isAnswer", "(I)Z"⟩
abbrev cX1_mayLose : ByteArray := prog_3_method_5_code
def yX1_mayLose : MethodName := ⟨RX1, "mayLose", "(I)Z"⟩
abbrev cX1_clear : ByteArray := prog_3_method_6_code
def yX1_clear : MethodName := ⟨RX1, "clear", "()V"⟩
abbrev cX1_addNumber : ByteArray := prog_3_method_7_code
def yX1_addNumber : MethodName := ⟨RX1, "addNumber", "(II)V"⟩
abbrev cX1_append : ByteArray := prog_3_method_8_code
def yX1_append : MethodName := ⟨RX1, "append", "(II)V"⟩
def RX2 : String := "SharedWire$Node"
def TX2 : u_T := fun k => match k with
  | 0 => ("SharedWire$Node", "wanted", "[LSharedWire$Frame;", true)
  | 1 => ("SharedWire$Node", "lastReceived", "LSharedWire$Frame;", true)
  | 2 => ("SharedWire$Node", "line", "LSharedWire$Line;", true)
  | 3 => ("SharedWire$Node", "reader", "LSharedWire$Reader;", true)
  | 4 => ("SharedWire$Node", "on", "Z", false)
  | 5 => ("SharedWire$Node", "role", "I", false)
  | 6 => ("SharedWire$Node", "wants", "I", false)
  | 7 => ("SharedWire$Node", "sendingCount", "I", false)
  | 8 => ("SharedWire$Node", "receivingCount", "I", false)
  | 9 => ("SharedWire$Node", "framesSent", "I", false)
  | 10 => ("SharedWire$Node", "framesReceived", "I", false)
  | 11 => ("SharedWire$Node", "lastFault", "I", false)
  | 12 => ("SharedWire$Node", "found", "I", false)
  | 13 => ("SharedWire$Node", "sending", "I", false)
  | _ => ("SharedWire$Node", "next", "I", false)
def tyX2 : Nat → FieldType := fun k => match k with
  | 0 => .array (.object "SharedWire$Frame")
  | 1 => .object "SharedWire$Frame"
  | 2 => .object "SharedWire$Line"
  | 3 => .object "SharedWire$Reader"
  | 4 => .boolean
  | 5 => .int
  | 6 => .int
  | 7 => .int
  | 8 => .int
  | 9 => .int
  | 10 => .int
  | 11 => .int
  | 12 => .int
  | 13 => .int
  | _ => .int
abbrev wsX20 : List Cond := u_ws RX2 TX2 15
theorem nmX2 : ∀ a, a < 15 → ∀ b, b < 15 → a ≠ b → (TX2 a).2.1 ≠ (TX2 b).2.1 := by decide +kernel
theorem tyX2_ok : ∀ k, k < 15 → parseFieldDescriptor (TX2 k).2.2.1 = some (tyX2 k) := by decide +kernel
abbrev cX2_init : ByteArray := prog_4_method_1_code
def yX2_init : MethodName := ⟨RX2, "<init>", "()V"⟩
abbrev cX2_addWanted : ByteArray := prog_4_method_2_code
def yX2_addWanted : MethodName := ⟨RX2, "addWanted", "(ZIJI)V"⟩
abbrev cX2_offered : ByteArray := prog_4_method_3_code
def yX2_offered : MethodName := ⟨RX2, "offered", "()I"⟩
abbrev cX2_switchOn : ByteArray := prog_4_method_4_code
def yX2_switchOn : MethodName := ⟨RX2, "switchOn", "()V"⟩
abbrev cX2_startSending : ByteArray := prog_4_method_5_code
def yX2_startSending : MethodName := ⟨RX2, "startSending", "()V"⟩
abbrev cX2_bitToSend : ByteArray := prog_4_method_6_code
def yX2_bitToSend : MethodName := ⟨RX2, "bitToSend", "()I"⟩
abbrev cX2_look : ByteArray := prog_4_method_7_code
def yX2_look : MethodName := ⟨RX2, "look", "(I)V"⟩
abbrev cX2_countFault : ByteArray := prog_4_method_8_code
def yX2_countFault : MethodName := ⟨RX2, "countFault", "()V"⟩
abbrev cX2_endFrame : ByteArray := prog_4_method_9_code
def yX2_endFrame : MethodName := ⟨RX2, "endFrame", "()V"⟩
abbrev cX2_lookAsSender : ByteArray := prog_4_method_10_code
def yX2_lookAsSender : MethodName := ⟨RX2, "lookAsSender", "(I)V"⟩
abbrev cX2_endSending : ByteArray := prog_4_method_11_code
def yX2_endSending : MethodName := ⟨RX2, "endSending", "()V"⟩
abbrev cX2_endReading : ByteArray := prog_4_method_12_code
def yX2_endReading : MethodName := ⟨RX2, "endReading", "()V"⟩
abbrev cX2_removeWanted : ByteArray := prog_4_method_13_code
def yX2_removeWanted : MethodName := ⟨RX2, "removeWanted", "(I)V"⟩
def RX3 : String := "SharedWire$Reader"
def TX3 : u_T := fun k => match k with
  | 0 => ("SharedWire$Reader", "frame", "LSharedWire$Frame;", true)
  | 1 => ("SharedWire$Reader", "taken", "I", false)
  | 2 => ("SharedWire$Reader", "tail", "I", false)
  | 3 => ("SharedWire$Reader", "alike", "I", false)
  | 4 => ("SharedWire$Reader", "last", "I", false)
  | 5 => ("SharedWire$Reader", "check", "I", false)
  | 6 => ("SharedWire$Reader", "checkTaken", "I", false)
  | 7 => ("SharedWire$Reader", "sizePlace", "I", false)
  | _ => ("SharedWire$Reader", "checkPlace", "I", false)
def tyX3 : Nat → FieldType := fun k => match k with
  | 0 => .object "SharedWire$Frame"
  | 1 => .int
  | 2 => .int
  | 3 => .int
  | 4 => .int
  | 5 => .int
  | 6 => .int
  | 7 => .int
  | _ => .int
abbrev wsX30 : List Cond := u_ws RX3 TX3 9
theorem nmX3 : ∀ a, a < 9 → ∀ b, b < 9 → a ≠ b → (TX3 a).2.1 ≠ (TX3 b).2.1 := by decide +kernel
theorem tyX3_ok : ∀ k, k < 9 → parseFieldDescriptor (TX3 k).2.2.1 = some (tyX3 k) := by decide +kernel
abbrev cX3_init : ByteArray := prog_5_method_1_code
def yX3_init : MethodName := ⟨RX3, "<init>", "()V"⟩
abbrev cX3_begin : ByteArray := prog_5_method_2_code
def yX3_begin : MethodName := ⟨RX3, "begin", "()V"⟩
abbrev cX3_take : ByteArray := prog_5_method_3_code
def yX3_take : MethodName := ⟨RX3, "take", "(I)I"⟩
abbrev cX3_isFinished : ByteArray := prog_5_method_4_code
def yX3_isFinished : MethodName := ⟨RX3, "isFinished", "()Z"⟩
abbrev cX3_givesAnswer : ByteArray := prog_5_method_5_code
def yX3_givesAnswer : MethodName := ⟨RX3, "givesAnswer", "()Z"⟩
abbrev cX3_hasWholeFrame : ByteArray := prog_5_method_6_code
def yX3_hasWholeFrame : MethodName := ⟨RX3, "hasWholeFrame", "()Z"⟩
abbrev cX3_takeTail : ByteArray := prog_5_method_7_code
def yX3_takeTail : MethodName := ⟨RX3, "takeTail", "(I)I"⟩
abbrev cX3_takeFramed : ByteArray := prog_5_method_8_code
def yX3_takeFramed : MethodName := ⟨RX3, "takeFramed", "(I)V"⟩
abbrev cX3_takeHead : ByteArray := prog_5_method_9_code
def yX3_takeHead : MethodName := ⟨RX3, "takeHead", "(II)V"⟩
abbrev cX3_takeSize : ByteArray := prog_5_method_10_code
def yX3_takeSize : MethodName := ⟨RX3, "takeSize", "(II)V"⟩
abbrev cX3_takeData : ByteArray := prog_5_method_11_code
def yX3_takeData : MethodName := ⟨RX3, "takeData", "(II)V"⟩
def RX4 : String := "SharedWire"
def TX4 : u_T := fun k => match k with
  | 0 => ("SharedWire", "nodes", "[LSharedWire$Node;", true)
  | 1 => ("SharedWire", "state", "I", false)
  | 2 => ("SharedWire", "stepsLeft", "I", false)
  | 3 => ("SharedWire", "tapeBits", "[I", true)
  | 4 => ("SharedWire", "tapeLength", "I", false)
  | 5 => ("SharedWire", "tapeLine", "LSharedWire$Line;", true)
  | _ => ("SharedWire", "tapeReader", "LSharedWire$Reader;", true)
def tyX4 : Nat → FieldType := fun k => match k with
  | 0 => .array (.object "SharedWire$Node")
  | 1 => .int
  | 2 => .int
  | 3 => .array .int
  | 4 => .int
  | 5 => .object "SharedWire$Line"
  | _ => .object "SharedWire$Reader"
abbrev wsX40 : List Cond := u_ws RX4 TX4 7
theorem nmX4 : ∀ a, a < 7 → ∀ b, b < 7 → a ≠ b → (TX4 a).2.1 ≠ (TX4 b).2.1 := by decide +kernel
theorem tyX4_ok : ∀ k, k < 7 → parseFieldDescriptor (TX4 k).2.2.1 = some (tyX4 k) := by decide +kernel
abbrev cX4_init : ByteArray := prog_1_method_1_code
def yX4_init : MethodName := ⟨RX4, "<init>", "()V"⟩
abbrev cX4_want : ByteArray := prog_1_method_2_code
def yX4_want : MethodName := ⟨RX4, "want", "(IZIJI)I"⟩
abbrev cX4_step : ByteArray := prog_1_method_3_code
def yX4_step : MethodName := ⟨RX4, "step", "(II)I"⟩
abbrev cX4_join : ByteArray := prog_1_method_4_code
def yX4_join : MethodName := ⟨RX4, "join", "(I)Z"⟩
abbrev cX4_wire : ByteArray := prog_1_method_5_code
def yX4_wire : MethodName := ⟨RX4, "wire", "()I"⟩
abbrev cX4_node : ByteArray := prog_1_method_6_code
def yX4_node : MethodName := ⟨RX4, "node", "(II)I"⟩
abbrev cX4_received : ByteArray := prog_1_method_7_code
def yX4_received : MethodName := ⟨RX4, "received", "(II)J"⟩
abbrev cX4_tape : ByteArray := prog_1_method_8_code
def yX4_tape : MethodName := ⟨RX4, "tape", "(I)I"⟩
abbrev cX4_put : ByteArray := prog_1_method_9_code
def yX4_put : MethodName := ⟨RX4, "put", "(JI)Z"⟩
abbrev cX4_bit : ByteArray := prog_1_method_10_code
def yX4_bit : MethodName := ⟨RX4, "bit", "(I)I"⟩
abbrev cX4_flip : ByteArray := prog_1_method_11_code
def yX4_flip : MethodName := ⟨RX4, "flip", "(I)V"⟩
abbrev cX4_wipe : ByteArray := prog_1_method_12_code
def yX4_wipe : MethodName := ⟨RX4, "wipe", "()I"⟩
abbrev cX4_read : ByteArray := prog_1_method_13_code
def yX4_read : MethodName := ⟨RX4, "read", "()I"⟩
abbrev cX4_isNode : ByteArray := prog_1_method_14_code
def yX4_isNode : MethodName := ⟨RX4, "isNode", "(I)Z"⟩
abbrev cX4_isOnTape : ByteArray := prog_1_method_15_code
def yX4_isOnTape : MethodName := ⟨RX4, "isOnTape", "(I)Z"⟩
abbrev cX4_oneStep : ByteArray := prog_1_method_16_code
def yX4_oneStep : MethodName := ⟨RX4, "oneStep", "(I)I"⟩
abbrev cX4_brokenStep : ByteArray := prog_1_method_17_code
def yX4_brokenStep : MethodName := ⟨RX4, "brokenStep", "()I"⟩
abbrev cX4_pauseStep : ByteArray := prog_1_method_18_code
def yX4_pauseStep : MethodName := ⟨RX4, "pauseStep", "()I"⟩
abbrev cX4_beginPause : ByteArray := prog_1_method_19_code
def yX4_beginPause : MethodName := ⟨RX4, "beginPause", "()V"⟩
abbrev cX4_startSenders : ByteArray := prog_1_method_20_code
def yX4_startSenders : MethodName := ⟨RX4, "startSenders", "()V"⟩
abbrev cX4_levelSent : ByteArray := prog_1_method_21_code
def yX4_levelSent : MethodName := ⟨RX4, "levelSent", "()I"⟩
abbrev cX4_someFindFaults : ByteArray := prog_1_method_22_code
def yX4_someFindFaults : MethodName := ⟨RX4, "someFindFaults", "(II)Z"⟩
abbrev cX4_breakOff : ByteArray := prog_1_method_23_code
def yX4_breakOff : MethodName := ⟨RX4, "breakOff", "()V"⟩
abbrev cX4_goOn : ByteArray := prog_1_method_24_code
def yX4_goOn : MethodName := ⟨RX4, "goOn", "()V"⟩
abbrev cX4_nextCheck : ByteArray := prog_1_method_25_code
def yX4_nextCheck : MethodName := ⟨RX4, "nextCheck", "(II)I"⟩
def RX5 : String := "SharedWireModel"
def TX5 : u_T := fun k => match k with
  | 0 => ("SharedWireModel", "thrown", "I", false)
  | 1 => ("SharedWireModel", "wire", "I", false)
  | 2 => ("SharedWireModel", "left", "I", false)
  | 3 => ("SharedWireModel", "state", "[I", true)
  | 4 => ("SharedWireModel", "sending", "[I", true)
  | 5 => ("SharedWireModel", "receiving", "[I", true)
  | 6 => ("SharedWireModel", "sent", "[I", true)
  | 7 => ("SharedWireModel", "gotten", "[I", true)
  | 8 => ("SharedWireModel", "lastFault", "[I", true)
  | 9 => ("SharedWireModel", "wants", "[I", true)
  | 10 => ("SharedWireModel", "longs", "[Z", true)
  | 11 => ("SharedWireModel", "identifiers", "[I", true)
  | 12 => ("SharedWireModel", "data", "[J", true)
  | 13 => ("SharedWireModel", "bytes", "[I", true)
  | 14 => ("SharedWireModel", "hasLong", "[Z", true)
  | 15 => ("SharedWireModel", "hasIdentifier", "[I", true)
  | 16 => ("SharedWireModel", "hasData", "[J", true)
  | 17 => ("SharedWireModel", "hasBytes", "[I", true)
  | 18 => ("SharedWireModel", "wireBits", "[I", true)
  | 19 => ("SharedWireModel", "places", "[I", true)
  | 20 => ("SharedWireModel", "wireSize", "[I", true)
  | 21 => ("SharedWireModel", "at", "[I", true)
  | 22 => ("SharedWireModel", "mine", "[I", true)
  | 23 => ("SharedWireModel", "numbers", "[I", true)
  | 24 => ("SharedWireModel", "given", "I", false)
  | 25 => ("SharedWireModel", "bits", "[I", true)
  | 26 => ("SharedWireModel", "count", "[I", true)
  | 27 => ("SharedWireModel", "run", "[I", true)
  | 28 => ("SharedWireModel", "last", "[I", true)
  | 29 => ("SharedWireModel", "need", "[I", true)
  | 30 => ("SharedWireModel", "tail", "[I", true)
  | 31 => ("SharedWireModel", "tape", "[I", true)
  | 32 => ("SharedWireModel", "size", "I", false)
  | 33 => ("SharedWireModel", "frame", "[I", true)
  | _ => ("SharedWireModel", "frameSize", "I", false)
def tyX5 : Nat → FieldType := fun k => match k with
  | 0 => .int
  | 1 => .int
  | 2 => .int
  | 3 => .array .int
  | 4 => .array .int
  | 5 => .array .int
  | 6 => .array .int
  | 7 => .array .int
  | 8 => .array .int
  | 9 => .array .int
  | 10 => .array .boolean
  | 11 => .array .int
  | 12 => .array .long
  | 13 => .array .int
  | 14 => .array .boolean
  | 15 => .array .int
  | 16 => .array .long
  | 17 => .array .int
  | 18 => .array .int
  | 19 => .array .int
  | 20 => .array .int
  | 21 => .array .int
  | 22 => .array .int
  | 23 => .array .int
  | 24 => .int
  | 25 => .array .int
  | 26 => .array .int
  | 27 => .array .int
  | 28 => .array .int
  | 29 => .array .int
  | 30 => .array .int
  | 31 => .array .int
  | 32 => .int
  | 33 => .array .int
  | _ => .int
abbrev wsX50 : List Cond := u_ws RX5 TX5 35
theorem nmX5 : ∀ a, a < 35 → ∀ b, b < 35 → a ≠ b → (TX5 a).2.1 ≠ (TX5 b).2.1 := by decide +kernel
theorem tyX5_ok : ∀ k, k < 35 → parseFieldDescriptor (TX5 k).2.2.1 = some (tyX5 k) := by decide +kernel
abbrev cX5_init : ByteArray := prog_7_method_1_code
def yX5_init : MethodName := ⟨RX5, "<init>", "()V"⟩
abbrev cX5_thrown : ByteArray := prog_7_method_2_code
def yX5_thrown : MethodName := ⟨RX5, "thrown", "()I"⟩
abbrev cX5_isNode : ByteArray := prog_7_method_3_code
def yX5_isNode : MethodName := ⟨RX5, "isNode", "(I)Z"⟩
abbrev cX5_say : ByteArray := prog_7_method_4_code
def yX5_say : MethodName := ⟨RX5, "say", "(II)V"⟩
abbrev cX5_nextCheck : ByteArray := prog_7_method_5_code
def yX5_nextCheck : MethodName := ⟨RX5, "nextCheck", "(II)I"⟩
abbrev cX5_lay : ByteArray := prog_7_method_6_code
def yX5_lay : MethodName := ⟨RX5, "lay", "(IIII)I"⟩
abbrev cX5_make : ByteArray := prog_7_method_7_code
def yX5_make : MethodName := ⟨RX5, "make", "(II)V"⟩
abbrev cX5_begin : ByteArray := prog_7_method_8_code
def yX5_begin : MethodName := ⟨RX5, "begin", "(I)V"⟩
abbrev cX5_isLong : ByteArray := prog_7_method_9_code
def yX5_isLong : MethodName := ⟨RX5, "isLong", "(I)Z"⟩
abbrev cX5_number : ByteArray := prog_7_method_10_code
def yX5_number : MethodName := ⟨RX5, "number", "(III)I"⟩
abbrev cX5_bytesOf : ByteArray := prog_7_method_11_code
def yX5_bytesOf : MethodName := ⟨RX5, "bytesOf", "(I)I"⟩
abbrev cX5_isRight : ByteArray := prog_7_method_12_code
def yX5_isRight : MethodName := ⟨RX5, "isRight", "(I)Z"⟩
abbrev cX5_takeTail : ByteArray := prog_7_method_13_code
def yX5_takeTail : MethodName := ⟨RX5, "takeTail", "(II)I"⟩
abbrev cX5_take : ByteArray := prog_7_method_14_code
def yX5_take : MethodName := ⟨RX5, "take", "(II)I"⟩
abbrev cX5_answers : ByteArray := prog_7_method_15_code
def yX5_answers : MethodName := ⟨RX5, "answers", "(I)Z"⟩
abbrev cX5_key : ByteArray := prog_7_method_16_code
def yX5_key : MethodName := ⟨RX5, "key", "(ZI)I"⟩
abbrev cX5_comesFirst : ByteArray := prog_7_method_17_code
def yX5_comesFirst : MethodName := ⟨RX5, "comesFirst", "(II)Z"⟩
abbrev cX5_offer : ByteArray := prog_7_method_18_code
def yX5_offer : MethodName := ⟨RX5, "offer", "(I)I"⟩
abbrev cX5_want : ByteArray := prog_7_method_19_code
def yX5_want : MethodName := ⟨RX5, "want", "(IZIJI)I"⟩
abbrev cX5_sentOne : ByteArray := prog_7_method_20_code
def yX5_sentOne : MethodName := ⟨RX5, "sentOne", "(I)I"⟩
abbrev cX5_forget : ByteArray := prog_7_method_21_code
def yX5_forget : MethodName := ⟨RX5, "forget", "(I)V"⟩
abbrev cX5_sends : ByteArray := prog_7_method_22_code
def yX5_sends : MethodName := ⟨RX5, "sends", "(I)I"⟩
abbrev cX5_offerAll : ByteArray := prog_7_method_23_code
def yX5_offerAll : MethodName := ⟨RX5, "offerAll", "()V"⟩
abbrev cX5_saw : ByteArray := prog_7_method_24_code
def yX5_saw : MethodName := ⟨RX5, "saw", "(II)I"⟩
abbrev cX5_idle : ByteArray := prog_7_method_25_code
def yX5_idle : MethodName := ⟨RX5, "idle", "(II)I"⟩
abbrev cX5_sees : ByteArray := prog_7_method_26_code
def yX5_sees : MethodName := ⟨RX5, "sees", "(II)I"⟩
abbrev cX5_breakOff : ByteArray := prog_7_method_27_code
def yX5_breakOff : MethodName := ⟨RX5, "breakOff", "(I)V"⟩
abbrev cX5_keep : ByteArray := prog_7_method_28_code
def yX5_keep : MethodName := ⟨RX5, "keep", "(I)V"⟩
abbrev cX5_finish : ByteArray := prog_7_method_29_code
def yX5_finish : MethodName := ⟨RX5, "finish", "(I)V"⟩
abbrev cX5_liveStep : ByteArray := prog_7_method_30_code
def yX5_liveStep : MethodName := ⟨RX5, "liveStep", "(I)I"⟩
abbrev cX5_oneStep : ByteArray := prog_7_method_31_code
def yX5_oneStep : MethodName := ⟨RX5, "oneStep", "(I)I"⟩
abbrev cX5_step : ByteArray := prog_7_method_32_code
def yX5_step : MethodName := ⟨RX5, "step", "(II)I"⟩
abbrev cX5_join : ByteArray := prog_7_method_33_code
def yX5_join : MethodName := ⟨RX5, "join", "(I)Z"⟩
abbrev cX5_wire : ByteArray := prog_7_method_34_code
def yX5_wire : MethodName := ⟨RX5, "wire", "()I"⟩
abbrev cX5_node : ByteArray := prog_7_method_35_code
def yX5_node : MethodName := ⟨RX5, "node", "(II)I"⟩
abbrev cX5_received : ByteArray := prog_7_method_36_code
def yX5_received : MethodName := ⟨RX5, "received", "(II)J"⟩
abbrev cX5_tape : ByteArray := prog_7_method_37_code
def yX5_tape : MethodName := ⟨RX5, "tape", "(I)I"⟩
abbrev cX5_put : ByteArray := prog_7_method_38_code
def yX5_put : MethodName := ⟨RX5, "put", "(JI)Z"⟩
abbrev cX5_bit : ByteArray := prog_7_method_39_code
def yX5_bit : MethodName := ⟨RX5, "bit", "(I)I"⟩
abbrev cX5_flip : ByteArray := prog_7_method_40_code
def yX5_flip : MethodName := ⟨RX5, "flip", "(I)V"⟩
abbrev cX5_wipe : ByteArray := prog_7_method_41_code
def yX5_wipe : MethodName := ⟨RX5, "wipe", "()I"⟩
abbrev cX5_read : ByteArray := prog_7_method_42_code
def yX5_read : MethodName := ⟨RX5, "read", "()I"⟩
def RJx145de : String := "java/io/Serializable"
def TJx145de : u_T := fun k => match k with
  | _ => ("", "", "", false)
def tyJx145de : Nat → FieldType := fun k => match k with
  | _ => .int
abbrev wsJx145de0 : List Cond := u_ws RJx145de TJx145de 0
theorem nmJx145de : ∀ a, a < 0 → ∀ b, b < 0 → a ≠ b → (TJx145de a).2.1 ≠ (TJx145de b).2.1 := by decide +kernel
theorem tyJx145de_ok : ∀ k, k < 0 → parseFieldDescriptor (TJx145de k).2.2.1 = some (tyJx145de k) := by decide +kernel
def RJ9 : String := "java/lang/Math"
def TJ9 : u_T := fun k => match k with
  | _ => ("", "", "", false)
def tyJ9 : Nat → FieldType := fun k => match k with
  | _ => .int
abbrev wsJ90 : List Cond := u_ws RJ9 TJ9 0
theorem nmJ9 : ∀ a, a < 0 → ∀ b, b < 0 → a ≠ b → (TJ9 a).2.1 ≠ (TJ9 b).2.1 := by decide +kernel
theorem tyJ9_ok : ∀ k, k < 0 → parseFieldDescriptor (TJ9 k).2.2.1 = some (tyJ9 k) := by decide +kernel
abbrev cJ9_max_7cf53 : ByteArray := prog_12_method_65_code
def yJ9_max_7cf53 : MethodName := ⟨RJ9, "max", "(II)I"⟩
abbrev cJ9_min_7cf53 : ByteArray := prog_12_method_69_code
def yJ9_min_7cf53 : MethodName := ⟨RJ9, "min", "(II)I"⟩
def RL : String := "SharedWireLaw"
abbrev cL_want : ByteArray := method_3_code
def yL_want : MethodName := ⟨RL, "want", "(LSharedWire;IZIJI[J)I"⟩
abbrev cL_step : ByteArray := method_4_code
def yL_step : MethodName := ⟨RL, "step", "(LSharedWire;II[J)I"⟩
abbrev cL_join : ByteArray := method_5_code
def yL_join : MethodName := ⟨RL, "join", "(LSharedWire;I[J)I"⟩
abbrev cL_node : ByteArray := method_6_code
def yL_node : MethodName := ⟨RL, "node", "(LSharedWire;II[J)I"⟩
abbrev cL_received : ByteArray := method_7_code
def yL_received : MethodName := ⟨RL, "received", "(LSharedWire;II[J)I"⟩
abbrev cL_tape : ByteArray := method_8_code
def yL_tape : MethodName := ⟨RL, "tape", "(LSharedWire;I[J)I"⟩
abbrev cL_bit : ByteArray := method_9_code
def yL_bit : MethodName := ⟨RL, "bit", "(LSharedWire;I[J)I"⟩
abbrev cL_flip : ByteArray := method_10_code
def yL_flip : MethodName := ⟨RL, "flip", "(LSharedWire;I)I"⟩
abbrev cL_law : ByteArray := code
def yL_law : MethodName := ⟨RL, "law", "([I)Z"⟩
def wsX0_init : List Cond := .code yX0_init cX0_init 1 none :: ([.methodLink RX0 3 objectInit, .instanceMethod objectInit, .code objectInit ⟨#[0xb1]⟩ 1 none, .fieldLink RX0 9 "SharedWire$Frame" "isLong" "Z", .fieldLink RX0 15 "SharedWire$Frame" "identifier" "I", .fieldLink RX0 19 "SharedWire$Frame" "data" "J", .fieldLink RX0 23 "SharedWire$Frame" "size" "I"] ++ wsX00)
def wsX0_set : List Cond := .code yX0_set cX0_set 6 none :: ([.fieldLink RX0 9 "SharedWire$Frame" "isLong" "Z", .fieldLink RX0 15 "SharedWire$Frame" "identifier" "I", .fieldLink RX0 19 "SharedWire$Frame" "data" "J", .fieldLink RX0 23 "SharedWire$Frame" "size" "I"] ++ wsX00)
def wsX0_rank : List Cond := .code yX0_rank cX0_rank 2 (some .int) :: ([.fieldLink RX0 9 "SharedWire$Frame" "isLong" "Z", .fieldLink RX0 15 "SharedWire$Frame" "identifier" "I", .constant RX0 26 (262143), .constant RX0 27 (262144)] ++ wsX00)
def wsX1_init : List Cond := .code yX1_init cX1_init 1 none :: ([.methodLink RX1 3 objectInit, .instanceMethod objectInit, .code objectInit ⟨#[0xb1]⟩ 1 none, .arrayClass .int, .fieldLink RX1 9 "SharedWire$Line" "bits" "[I", .fieldLink RX1 15 "SharedWire$Line" "places" "[I", .fieldLink RX1 18 "SharedWire$Line" "length" "I", .fieldLink RX1 22 "SharedWire$Line" "head" "I", .fieldLink RX1 25 "SharedWire$Line" "framed" "I", .fieldLink RX1 28 "SharedWire$Line" "alike" "I", .fieldLink RX1 31 "SharedWire$Line" "last" "I", .fieldLink RX1 34 "SharedWire$Line" "check" "I"] ++ wsX10)
def wsX1_clear : List Cond := .code yX1_clear cX1_clear 1 none :: ([.fieldLink RX1 18 "SharedWire$Line" "length" "I", .fieldLink RX1 25 "SharedWire$Line" "framed" "I", .fieldLink RX1 28 "SharedWire$Line" "alike" "I", .fieldLink RX1 31 "SharedWire$Line" "last" "I", .fieldLink RX1 34 "SharedWire$Line" "check" "I"] ++ wsX10)
def wsX1_append : List Cond := .code yX1_append cX1_append 3 none :: ([.fieldLink RX1 18 "SharedWire$Line" "length" "I", .fieldLink RX1 9 "SharedWire$Line" "bits" "[I", .fieldLink RX1 15 "SharedWire$Line" "places" "[I", .fieldLink RX1 31 "SharedWire$Line" "last" "I", .fieldLink RX1 28 "SharedWire$Line" "alike" "I"] ++ wsX10)
def wsX4_nextCheck : List Cond := .code yX4_nextCheck cX4_nextCheck 4 (some .int) :: ([])
def wsX1_addNumber : List Cond := .code yX1_addNumber cX1_addNumber 5 none :: ([.fieldLink RX1 28 "SharedWire$Line" "alike" "I", .fieldLink RX1 31 "SharedWire$Line" "last" "I", .fieldLink RX1 25 "SharedWire$Line" "framed" "I", .fieldLink RX1 34 "SharedWire$Line" "check" "I", .methodLink RX1 62 yX1_append, .instanceMethod yX1_append, .selects RX1 yX1_append yX1_append, .initialized RX1, .code yX1_append cX1_append 3 none, .fieldLink RX1 18 "SharedWire$Line" "length" "I", .fieldLink RX1 9 "SharedWire$Line" "bits" "[I", .fieldLink RX1 15 "SharedWire$Line" "places" "[I", .static yX4_nextCheck, .initialized RX4, .code yX4_nextCheck cX4_nextCheck 4 (some .int)] ++ wsX10)
def wsX1_write_r1 : List Cond := [Cond.fieldLink RX1 44 "SharedWire$Frame" "isLong" "Z", Cond.fieldLink RX1 50 "SharedWire$Frame" "identifier" "I", Cond.fieldLink RX1 25 "SharedWire$Line" "framed" "I", Cond.fieldLink RX1 22 "SharedWire$Line" "head" "I", Cond.fieldLink RX1 53 "SharedWire$Frame" "size" "I", Cond.fieldLink RX1 56 "SharedWire$Frame" "data" "J", Cond.constantLong RX1 60 (255), Cond.fieldLink RX1 34 "SharedWire$Line" "check" "I", Cond.methodLink RX1 37 yX1_clear, Cond.instanceMethod yX1_clear, Cond.selects RX1 yX1_clear yX1_clear, Cond.initialized RX1, Cond.code yX1_clear cX1_clear 1 none, Cond.fieldLink RX1 18 "SharedWire$Line" "length" "I", Cond.fieldLink RX1 28 "SharedWire$Line" "alike" "I", Cond.fieldLink RX1 31 "SharedWire$Line" "last" "I", Cond.methodLink RX1 40 yX1_addNumber, Cond.instanceMethod yX1_addNumber, Cond.selects RX1 yX1_addNumber yX1_addNumber, Cond.code yX1_addNumber cX1_addNumber 5 none, Cond.methodLink RX1 62 yX1_append, Cond.instanceMethod yX1_append, Cond.selects RX1 yX1_append yX1_append, Cond.code yX1_append cX1_append 3 none]
def wsX1_write_r2 : List Cond := [Cond.fieldLink RX1 9 "SharedWire$Line" "bits" "[I", Cond.fieldLink RX1 15 "SharedWire$Line" "places" "[I", Cond.static yX4_nextCheck, Cond.initialized RX4, Cond.code yX4_nextCheck cX4_nextCheck 4 (some .int)]
def wsX1_write : List Cond := .code yX1_write cX1_write 3 none :: ((wsX1_write_r1 ++ wsX1_write_r2) ++ wsX00 ++ wsX10)
def wsX1_bitAt : List Cond := .code yX1_bitAt cX1_bitAt 2 (some .int) :: ([.fieldLink RX1 18 "SharedWire$Line" "length" "I", .fieldLink RX1 9 "SharedWire$Line" "bits" "[I"] ++ wsX10)
def wsX1_isAnswer : List Cond := .code yX1_isAnswer cX1_isAnswer 2 (some .boolean) :: ([.fieldLink RX1 18 "SharedWire$Line" "length" "I"] ++ wsX10)
def wsX1_mayLose : List Cond := .code yX1_mayLose cX1_mayLose 2 (some .boolean) :: ([.fieldLink RX1 18 "SharedWire$Line" "length" "I", .fieldLink RX1 9 "SharedWire$Line" "bits" "[I", .fieldLink RX1 15 "SharedWire$Line" "places" "[I", .fieldLink RX1 22 "SharedWire$Line" "head" "I"] ++ wsX10)
def wsX3_init : List Cond := .code yX3_init cX3_init 1 none :: ([.methodLink RX3 3 objectInit, .instanceMethod objectInit, .code objectInit ⟨#[0xb1]⟩ 1 none, .classLink RX3 9 RX0, .instantiable RX0 4, .initialized RX0, .fieldLink RX3 12 "SharedWire$Reader" "frame" "LSharedWire$Frame;", .fieldLink RX3 18 "SharedWire$Reader" "taken" "I", .fieldLink RX3 22 "SharedWire$Reader" "tail" "I", .fieldLink RX3 25 "SharedWire$Reader" "alike" "I", .fieldLink RX3 28 "SharedWire$Reader" "last" "I", .fieldLink RX3 31 "SharedWire$Reader" "check" "I", .fieldLink RX3 34 "SharedWire$Reader" "checkTaken" "I", .fieldLink RX3 37 "SharedWire$Reader" "sizePlace" "I", .fieldLink RX3 40 "SharedWire$Reader" "checkPlace" "I", .instanceMethod yX0_init, .code yX0_init cX0_init 1 none, .methodLink RX0 3 objectInit, .fieldLink RX0 9 "SharedWire$Frame" "isLong" "Z", .fieldLink RX0 15 "SharedWire$Frame" "identifier" "I", .fieldLink RX0 19 "SharedWire$Frame" "data" "J", .fieldLink RX0 23 "SharedWire$Frame" "size" "I"] ++ wsX00 ++ wsX30)
def wsX2_init_r1 : List Cond := [Cond.methodLink RX2 3 objectInit, Cond.instanceMethod objectInit, Cond.code objectInit ⟨#[0xb1]⟩ 1 none, Cond.classLink RX2 9 RX0, Cond.fieldLink RX2 11 "SharedWire$Node" "wanted" "[LSharedWire$Frame;", Cond.instantiable RX0 4, Cond.initialized RX0, Cond.fieldLink RX2 18 "SharedWire$Node" "lastReceived" "LSharedWire$Frame;", Cond.classLink RX2 22 RX1, Cond.instantiable RX1 8, Cond.initialized RX1, Cond.fieldLink RX2 25 "SharedWire$Node" "line" "LSharedWire$Line;", Cond.classLink RX2 29 RX3, Cond.instantiable RX3 9, Cond.initialized RX3, Cond.fieldLink RX2 32 "SharedWire$Node" "reader" "LSharedWire$Reader;", Cond.fieldLink RX2 36 "SharedWire$Node" "on" "Z", Cond.fieldLink RX2 40 "SharedWire$Node" "role" "I", Cond.fieldLink RX2 44 "SharedWire$Node" "wants" "I", Cond.fieldLink RX2 47 "SharedWire$Node" "sendingCount" "I", Cond.fieldLink RX2 50 "SharedWire$Node" "receivingCount" "I", Cond.fieldLink RX2 53 "SharedWire$Node" "framesSent" "I", Cond.fieldLink RX2 56 "SharedWire$Node" "framesReceived" "I", Cond.fieldLink RX2 59 "SharedWire$Node" "lastFault" "I"]
def wsX2_init_r2 : List Cond := [Cond.fieldLink RX2 62 "SharedWire$Node" "found" "I", Cond.fieldLink RX2 65 "SharedWire$Node" "sending" "I", Cond.fieldLink RX2 68 "SharedWire$Node" "next" "I", Cond.instanceMethod yX0_init, Cond.code yX0_init cX0_init 1 none, Cond.methodLink RX0 3 objectInit, Cond.fieldLink RX0 9 "SharedWire$Frame" "isLong" "Z", Cond.fieldLink RX0 15 "SharedWire$Frame" "identifier" "I", Cond.fieldLink RX0 19 "SharedWire$Frame" "data" "J", Cond.fieldLink RX0 23 "SharedWire$Frame" "size" "I", Cond.instanceMethod yX1_init, Cond.code yX1_init cX1_init 1 none, Cond.methodLink RX1 3 objectInit, Cond.arrayClass .int, Cond.fieldLink RX1 9 "SharedWire$Line" "bits" "[I", Cond.fieldLink RX1 15 "SharedWire$Line" "places" "[I", Cond.fieldLink RX1 18 "SharedWire$Line" "length" "I", Cond.fieldLink RX1 22 "SharedWire$Line" "head" "I", Cond.fieldLink RX1 25 "SharedWire$Line" "framed" "I", Cond.fieldLink RX1 28 "SharedWire$Line" "alike" "I", Cond.fieldLink RX1 31 "SharedWire$Line" "last" "I", Cond.fieldLink RX1 34 "SharedWire$Line" "check" "I", Cond.instanceMethod yX3_init, Cond.code yX3_init cX3_init 1 none]
def wsX2_init_r3 : List Cond := [Cond.methodLink RX3 3 objectInit, Cond.classLink RX3 9 RX0, Cond.fieldLink RX3 12 "SharedWire$Reader" "frame" "LSharedWire$Frame;", Cond.fieldLink RX3 18 "SharedWire$Reader" "taken" "I", Cond.fieldLink RX3 22 "SharedWire$Reader" "tail" "I", Cond.fieldLink RX3 25 "SharedWire$Reader" "alike" "I", Cond.fieldLink RX3 28 "SharedWire$Reader" "last" "I", Cond.fieldLink RX3 31 "SharedWire$Reader" "check" "I", Cond.fieldLink RX3 34 "SharedWire$Reader" "checkTaken" "I", Cond.fieldLink RX3 37 "SharedWire$Reader" "sizePlace" "I", Cond.fieldLink RX3 40 "SharedWire$Reader" "checkPlace" "I"]
def wsX2_init : List Cond := .code yX2_init cX2_init 2 none :: ((wsX2_init_r1 ++ (wsX2_init_r2 ++ wsX2_init_r3)) ++ wsX20 ++ wsX00 ++ wsX10 ++ wsX30)
def wsX2_addWanted : List Cond := .code yX2_addWanted cX2_addWanted 6 none :: ([.fieldLink RX2 44 "SharedWire$Node" "wants" "I", .fieldLink RX2 11 "SharedWire$Node" "wanted" "[LSharedWire$Frame;", .methodLink RX2 71 yX0_set, .instanceMethod yX0_set, .selects RX0 yX0_set yX0_set, .initialized RX0, .code yX0_set cX0_set 6 none, .fieldLink RX0 9 "SharedWire$Frame" "isLong" "Z", .fieldLink RX0 15 "SharedWire$Frame" "identifier" "I", .fieldLink RX0 19 "SharedWire$Frame" "data" "J", .fieldLink RX0 23 "SharedWire$Frame" "size" "I"] ++ wsX20 ++ wsX00)
def wsX2_offered : List Cond := .code yX2_offered cX2_offered 3 (some .int) :: ([.fieldLink RX2 44 "SharedWire$Node" "wants" "I", .fieldLink RX2 11 "SharedWire$Node" "wanted" "[LSharedWire$Frame;", .methodLink RX2 75 yX0_rank, .instanceMethod yX0_rank, .selects RX0 yX0_rank yX0_rank, .initialized RX0, .code yX0_rank cX0_rank 2 (some .int), .fieldLink RX0 9 "SharedWire$Frame" "isLong" "Z", .fieldLink RX0 15 "SharedWire$Frame" "identifier" "I", .constant RX0 26 (262143), .constant RX0 27 (262144)] ++ wsX20 ++ wsX00)
def wsX2_switchOn : List Cond := .code yX2_switchOn cX2_switchOn 1 none :: ([.fieldLink RX2 36 "SharedWire$Node" "on" "Z", .fieldLink RX2 47 "SharedWire$Node" "sendingCount" "I", .fieldLink RX2 50 "SharedWire$Node" "receivingCount" "I"] ++ wsX20)
def wsX3_begin : List Cond := .code yX3_begin cX3_begin 1 none :: ([.fieldLink RX3 12 "SharedWire$Reader" "frame" "LSharedWire$Frame;", .fieldLink RX3 18 "SharedWire$Reader" "taken" "I", .fieldLink RX3 22 "SharedWire$Reader" "tail" "I", .fieldLink RX3 25 "SharedWire$Reader" "alike" "I", .fieldLink RX3 28 "SharedWire$Reader" "last" "I", .fieldLink RX3 31 "SharedWire$Reader" "check" "I", .fieldLink RX3 34 "SharedWire$Reader" "checkTaken" "I", .fieldLink RX3 37 "SharedWire$Reader" "sizePlace" "I", .fieldLink RX3 40 "SharedWire$Reader" "checkPlace" "I", .methodLink RX3 43 yX0_set, .instanceMethod yX0_set, .selects RX0 yX0_set yX0_set, .initialized RX0, .code yX0_set cX0_set 6 none, .fieldLink RX0 9 "SharedWire$Frame" "isLong" "Z", .fieldLink RX0 15 "SharedWire$Frame" "identifier" "I", .fieldLink RX0 19 "SharedWire$Frame" "data" "J", .fieldLink RX0 23 "SharedWire$Frame" "size" "I"] ++ wsX30 ++ wsX00)
def wsX2_startSending_r1 : List Cond := [Cond.fieldLink RX2 36 "SharedWire$Node" "on" "Z", Cond.fieldLink RX2 40 "SharedWire$Node" "role" "I", Cond.fieldLink RX2 65 "SharedWire$Node" "sending" "I", Cond.fieldLink RX2 68 "SharedWire$Node" "next" "I", Cond.fieldLink RX2 25 "SharedWire$Node" "line" "LSharedWire$Line;", Cond.fieldLink RX2 11 "SharedWire$Node" "wanted" "[LSharedWire$Frame;", Cond.fieldLink RX2 32 "SharedWire$Node" "reader" "LSharedWire$Reader;", Cond.methodLink RX2 79 yX2_offered, Cond.instanceMethod yX2_offered, Cond.selects RX2 yX2_offered yX2_offered, Cond.initialized RX2, Cond.code yX2_offered cX2_offered 3 (some .int), Cond.fieldLink RX2 44 "SharedWire$Node" "wants" "I", Cond.methodLink RX2 75 yX0_rank, Cond.instanceMethod yX0_rank, Cond.selects RX0 yX0_rank yX0_rank, Cond.initialized RX0, Cond.code yX0_rank cX0_rank 2 (some .int), Cond.fieldLink RX0 9 "SharedWire$Frame" "isLong" "Z", Cond.fieldLink RX0 15 "SharedWire$Frame" "identifier" "I", Cond.constant RX0 26 (262143), Cond.constant RX0 27 (262144), Cond.methodLink RX2 82 yX1_write, Cond.instanceMethod yX1_write]
def wsX2_startSending_r2 : List Cond := [Cond.selects RX1 yX1_write yX1_write, Cond.initialized RX1, Cond.code yX1_write cX1_write 3 none, Cond.fieldLink RX1 44 "SharedWire$Frame" "isLong" "Z", Cond.fieldLink RX1 50 "SharedWire$Frame" "identifier" "I", Cond.fieldLink RX1 25 "SharedWire$Line" "framed" "I", Cond.fieldLink RX1 22 "SharedWire$Line" "head" "I", Cond.fieldLink RX1 53 "SharedWire$Frame" "size" "I", Cond.fieldLink RX1 56 "SharedWire$Frame" "data" "J", Cond.constantLong RX1 60 (255), Cond.fieldLink RX1 34 "SharedWire$Line" "check" "I", Cond.methodLink RX1 37 yX1_clear, Cond.instanceMethod yX1_clear, Cond.selects RX1 yX1_clear yX1_clear, Cond.code yX1_clear cX1_clear 1 none, Cond.fieldLink RX1 18 "SharedWire$Line" "length" "I", Cond.fieldLink RX1 28 "SharedWire$Line" "alike" "I", Cond.fieldLink RX1 31 "SharedWire$Line" "last" "I", Cond.methodLink RX1 40 yX1_addNumber, Cond.instanceMethod yX1_addNumber, Cond.selects RX1 yX1_addNumber yX1_addNumber, Cond.code yX1_addNumber cX1_addNumber 5 none, Cond.methodLink RX1 62 yX1_append, Cond.instanceMethod yX1_append]
def wsX2_startSending_r3 : List Cond := [Cond.selects RX1 yX1_append yX1_append, Cond.code yX1_append cX1_append 3 none, Cond.fieldLink RX1 9 "SharedWire$Line" "bits" "[I", Cond.fieldLink RX1 15 "SharedWire$Line" "places" "[I", Cond.static yX4_nextCheck, Cond.initialized RX4, Cond.code yX4_nextCheck cX4_nextCheck 4 (some .int), Cond.methodLink RX2 86 yX3_begin, Cond.instanceMethod yX3_begin, Cond.selects RX3 yX3_begin yX3_begin, Cond.initialized RX3, Cond.code yX3_begin cX3_begin 1 none, Cond.fieldLink RX3 12 "SharedWire$Reader" "frame" "LSharedWire$Frame;", Cond.fieldLink RX3 18 "SharedWire$Reader" "taken" "I", Cond.fieldLink RX3 22 "SharedWire$Reader" "tail" "I", Cond.fieldLink RX3 25 "SharedWire$Reader" "alike" "I", Cond.fieldLink RX3 28 "SharedWire$Reader" "last" "I", Cond.fieldLink RX3 31 "SharedWire$Reader" "check" "I", Cond.fieldLink RX3 34 "SharedWire$Reader" "checkTaken" "I", Cond.fieldLink RX3 37 "SharedWire$Reader" "sizePlace" "I", Cond.fieldLink RX3 40 "SharedWire$Reader" "checkPlace" "I", Cond.methodLink RX3 43 yX0_set, Cond.instanceMethod yX0_set, Cond.selects RX0 yX0_set yX0_set]
def wsX2_startSending_r4 : List Cond := [Cond.code yX0_set cX0_set 6 none, Cond.fieldLink RX0 19 "SharedWire$Frame" "data" "J", Cond.fieldLink RX0 23 "SharedWire$Frame" "size" "I"]
def wsX2_startSending : List Cond := .code yX2_startSending cX2_startSending 2 none :: ((wsX2_startSending_r1 ++ (wsX2_startSending_r2 ++ (wsX2_startSending_r3 ++ wsX2_startSending_r4))) ++ wsX20 ++ wsX00 ++ wsX10 ++ wsX30)
def wsX3_hasWholeFrame : List Cond := .code yX3_hasWholeFrame cX3_hasWholeFrame 1 (some .boolean) :: ([.fieldLink RX3 18 "SharedWire$Reader" "taken" "I", .fieldLink RX3 40 "SharedWire$Reader" "checkPlace" "I"] ++ wsX30)
def wsX3_givesAnswer : List Cond := .code yX3_givesAnswer cX3_givesAnswer 1 (some .boolean) :: ([.fieldLink RX3 22 "SharedWire$Reader" "tail" "I", .fieldLink RX3 31 "SharedWire$Reader" "check" "I", .fieldLink RX3 34 "SharedWire$Reader" "checkTaken" "I", .methodLink RX3 47 yX3_hasWholeFrame, .instanceMethod yX3_hasWholeFrame, .selects RX3 yX3_hasWholeFrame yX3_hasWholeFrame, .initialized RX3, .code yX3_hasWholeFrame cX3_hasWholeFrame 1 (some .boolean), .fieldLink RX3 18 "SharedWire$Reader" "taken" "I", .fieldLink RX3 40 "SharedWire$Reader" "checkPlace" "I"] ++ wsX30)
def wsX2_bitToSend_r1 : List Cond := [Cond.fieldLink RX2 40 "SharedWire$Node" "role" "I", Cond.fieldLink RX2 25 "SharedWire$Node" "line" "LSharedWire$Line;", Cond.fieldLink RX2 68 "SharedWire$Node" "next" "I", Cond.fieldLink RX2 32 "SharedWire$Node" "reader" "LSharedWire$Reader;", Cond.methodLink RX2 89 yX1_bitAt, Cond.instanceMethod yX1_bitAt, Cond.selects RX1 yX1_bitAt yX1_bitAt, Cond.initialized RX1, Cond.code yX1_bitAt cX1_bitAt 2 (some .int), Cond.fieldLink RX1 18 "SharedWire$Line" "length" "I", Cond.fieldLink RX1 9 "SharedWire$Line" "bits" "[I", Cond.methodLink RX2 93 yX3_givesAnswer, Cond.instanceMethod yX3_givesAnswer, Cond.selects RX3 yX3_givesAnswer yX3_givesAnswer, Cond.initialized RX3, Cond.code yX3_givesAnswer cX3_givesAnswer 1 (some .boolean), Cond.fieldLink RX3 22 "SharedWire$Reader" "tail" "I", Cond.fieldLink RX3 31 "SharedWire$Reader" "check" "I", Cond.fieldLink RX3 34 "SharedWire$Reader" "checkTaken" "I", Cond.methodLink RX3 47 yX3_hasWholeFrame, Cond.instanceMethod yX3_hasWholeFrame, Cond.selects RX3 yX3_hasWholeFrame yX3_hasWholeFrame, Cond.code yX3_hasWholeFrame cX3_hasWholeFrame 1 (some .boolean), Cond.fieldLink RX3 18 "SharedWire$Reader" "taken" "I"]
def wsX2_bitToSend_r2 : List Cond := [Cond.fieldLink RX3 40 "SharedWire$Reader" "checkPlace" "I"]
def wsX2_bitToSend : List Cond := .code yX2_bitToSend cX2_bitToSend 1 (some .int) :: ((wsX2_bitToSend_r1 ++ wsX2_bitToSend_r2) ++ wsX20 ++ wsX10 ++ wsX30)
def wsX2_lookAsSender : List Cond := .code yX2_lookAsSender cX2_lookAsSender 3 none :: ([.fieldLink RX2 25 "SharedWire$Node" "line" "LSharedWire$Line;", .fieldLink RX2 68 "SharedWire$Node" "next" "I", .fieldLink RX2 62 "SharedWire$Node" "found" "I", .fieldLink RX2 40 "SharedWire$Node" "role" "I", .methodLink RX2 116 yX1_isAnswer, .instanceMethod yX1_isAnswer, .selects RX1 yX1_isAnswer yX1_isAnswer, .initialized RX1, .code yX1_isAnswer cX1_isAnswer 2 (some .boolean), .fieldLink RX1 18 "SharedWire$Line" "length" "I", .methodLink RX2 89 yX1_bitAt, .instanceMethod yX1_bitAt, .selects RX1 yX1_bitAt yX1_bitAt, .code yX1_bitAt cX1_bitAt 2 (some .int), .fieldLink RX1 9 "SharedWire$Line" "bits" "[I", .methodLink RX2 120 yX1_mayLose, .instanceMethod yX1_mayLose, .selects RX1 yX1_mayLose yX1_mayLose, .code yX1_mayLose cX1_mayLose 2 (some .boolean), .fieldLink RX1 15 "SharedWire$Line" "places" "[I", .fieldLink RX1 22 "SharedWire$Line" "head" "I"] ++ wsX20 ++ wsX10)
def wsX3_takeTail : List Cond := .code yX3_takeTail cX3_takeTail 2 (some .int) :: ([.fieldLink RX3 22 "SharedWire$Reader" "tail" "I", .fieldLink RX3 31 "SharedWire$Reader" "check" "I", .fieldLink RX3 34 "SharedWire$Reader" "checkTaken" "I"] ++ wsX30)
def wsX3_takeHead : List Cond := .code yX3_takeHead cX3_takeHead 5 none :: ([.fieldLink RX3 12 "SharedWire$Reader" "frame" "LSharedWire$Frame;", .fieldLink RX3 73 "SharedWire$Frame" "isLong" "Z", .fieldLink RX3 77 "SharedWire$Frame" "identifier" "I", .fieldLink RX3 37 "SharedWire$Reader" "sizePlace" "I", .fieldLink RX3 40 "SharedWire$Reader" "checkPlace" "I"] ++ wsX30 ++ wsX00)
def wsX3_takeSize : List Cond := .code yX3_takeSize cX3_takeSize 3 none :: ([.fieldLink RX3 12 "SharedWire$Reader" "frame" "LSharedWire$Frame;", .fieldLink RX3 80 "SharedWire$Frame" "size" "I", .fieldLink RX3 37 "SharedWire$Reader" "sizePlace" "I", .methodLink RX3 83 Lib.Math.min.name, .static Lib.Math.min.name, .initialized "java/lang/Math", .code Lib.Math.min.name Lib.Math.min.code 2 (some .int), .fieldLink RX3 40 "SharedWire$Reader" "checkPlace" "I"] ++ wsX30 ++ wsX00)
def wsX3_takeData : List Cond := .code yX3_takeData cX3_takeData 5 none :: ([.fieldLink RX3 12 "SharedWire$Reader" "frame" "LSharedWire$Frame;", .fieldLink RX3 88 "SharedWire$Frame" "data" "J"] ++ wsX30 ++ wsX00)
def wsX3_takeFramed_r1 : List Cond := [Cond.fieldLink RX3 18 "SharedWire$Reader" "taken" "I", Cond.fieldLink RX3 40 "SharedWire$Reader" "checkPlace" "I", Cond.fieldLink RX3 34 "SharedWire$Reader" "checkTaken" "I", Cond.fieldLink RX3 31 "SharedWire$Reader" "check" "I", Cond.fieldLink RX3 37 "SharedWire$Reader" "sizePlace" "I", Cond.static yX4_nextCheck, Cond.initialized RX4, Cond.code yX4_nextCheck cX4_nextCheck 4 (some .int), Cond.methodLink RX3 63 yX3_takeHead, Cond.instanceMethod yX3_takeHead, Cond.selects RX3 yX3_takeHead yX3_takeHead, Cond.initialized RX3, Cond.code yX3_takeHead cX3_takeHead 5 none, Cond.fieldLink RX3 12 "SharedWire$Reader" "frame" "LSharedWire$Frame;", Cond.fieldLink RX3 73 "SharedWire$Frame" "isLong" "Z", Cond.fieldLink RX3 77 "SharedWire$Frame" "identifier" "I", Cond.methodLink RX3 67 yX3_takeSize, Cond.instanceMethod yX3_takeSize, Cond.selects RX3 yX3_takeSize yX3_takeSize, Cond.code yX3_takeSize cX3_takeSize 3 none, Cond.fieldLink RX3 80 "SharedWire$Frame" "size" "I", Cond.methodLink RX3 83 Lib.Math.min.name, Cond.static Lib.Math.min.name, Cond.initialized "java/lang/Math"]
def wsX3_takeFramed_r2 : List Cond := [Cond.code Lib.Math.min.name Lib.Math.min.code 2 (some .int), Cond.methodLink RX3 70 yX3_takeData, Cond.instanceMethod yX3_takeData, Cond.selects RX3 yX3_takeData yX3_takeData, Cond.code yX3_takeData cX3_takeData 5 none, Cond.fieldLink RX3 88 "SharedWire$Frame" "data" "J"]
def wsX3_takeFramed : List Cond := .code yX3_takeFramed cX3_takeFramed 3 none :: ((wsX3_takeFramed_r1 ++ wsX3_takeFramed_r2) ++ wsX30 ++ wsX00)
def wsX3_take_r1 : List Cond := [Cond.fieldLink RX3 18 "SharedWire$Reader" "taken" "I", Cond.fieldLink RX3 25 "SharedWire$Reader" "alike" "I", Cond.fieldLink RX3 28 "SharedWire$Reader" "last" "I", Cond.methodLink RX3 47 yX3_hasWholeFrame, Cond.instanceMethod yX3_hasWholeFrame, Cond.selects RX3 yX3_hasWholeFrame yX3_hasWholeFrame, Cond.initialized RX3, Cond.code yX3_hasWholeFrame cX3_hasWholeFrame 1 (some .boolean), Cond.fieldLink RX3 40 "SharedWire$Reader" "checkPlace" "I", Cond.methodLink RX3 51 yX3_takeTail, Cond.instanceMethod yX3_takeTail, Cond.selects RX3 yX3_takeTail yX3_takeTail, Cond.code yX3_takeTail cX3_takeTail 2 (some .int), Cond.fieldLink RX3 22 "SharedWire$Reader" "tail" "I", Cond.fieldLink RX3 31 "SharedWire$Reader" "check" "I", Cond.fieldLink RX3 34 "SharedWire$Reader" "checkTaken" "I", Cond.methodLink RX3 55 yX3_takeFramed, Cond.instanceMethod yX3_takeFramed, Cond.selects RX3 yX3_takeFramed yX3_takeFramed, Cond.code yX3_takeFramed cX3_takeFramed 3 none, Cond.fieldLink RX3 37 "SharedWire$Reader" "sizePlace" "I", Cond.static yX4_nextCheck, Cond.initialized RX4, Cond.code yX4_nextCheck cX4_nextCheck 4 (some .int)]
def wsX3_take_r2 : List Cond := [Cond.methodLink RX3 63 yX3_takeHead, Cond.instanceMethod yX3_takeHead, Cond.selects RX3 yX3_takeHead yX3_takeHead, Cond.code yX3_takeHead cX3_takeHead 5 none, Cond.fieldLink RX3 12 "SharedWire$Reader" "frame" "LSharedWire$Frame;", Cond.fieldLink RX3 73 "SharedWire$Frame" "isLong" "Z", Cond.fieldLink RX3 77 "SharedWire$Frame" "identifier" "I", Cond.methodLink RX3 67 yX3_takeSize, Cond.instanceMethod yX3_takeSize, Cond.selects RX3 yX3_takeSize yX3_takeSize, Cond.code yX3_takeSize cX3_takeSize 3 none, Cond.fieldLink RX3 80 "SharedWire$Frame" "size" "I", Cond.methodLink RX3 83 Lib.Math.min.name, Cond.static Lib.Math.min.name, Cond.initialized "java/lang/Math", Cond.code Lib.Math.min.name Lib.Math.min.code 2 (some .int), Cond.methodLink RX3 70 yX3_takeData, Cond.instanceMethod yX3_takeData, Cond.selects RX3 yX3_takeData yX3_takeData, Cond.code yX3_takeData cX3_takeData 5 none, Cond.fieldLink RX3 88 "SharedWire$Frame" "data" "J"]
def wsX3_take : List Cond := .code yX3_take cX3_take 3 (some .int) :: ((wsX3_take_r1 ++ wsX3_take_r2) ++ wsX30 ++ wsX00)
def wsX2_look_r1 : List Cond := [Cond.fieldLink RX2 62 "SharedWire$Node" "found" "I", Cond.fieldLink RX2 36 "SharedWire$Node" "on" "Z", Cond.fieldLink RX2 40 "SharedWire$Node" "role" "I", Cond.fieldLink RX2 32 "SharedWire$Node" "reader" "LSharedWire$Reader;", Cond.methodLink RX2 86 yX3_begin, Cond.instanceMethod yX3_begin, Cond.selects RX3 yX3_begin yX3_begin, Cond.initialized RX3, Cond.code yX3_begin cX3_begin 1 none, Cond.fieldLink RX3 12 "SharedWire$Reader" "frame" "LSharedWire$Frame;", Cond.fieldLink RX3 18 "SharedWire$Reader" "taken" "I", Cond.fieldLink RX3 22 "SharedWire$Reader" "tail" "I", Cond.fieldLink RX3 25 "SharedWire$Reader" "alike" "I", Cond.fieldLink RX3 28 "SharedWire$Reader" "last" "I", Cond.fieldLink RX3 31 "SharedWire$Reader" "check" "I", Cond.fieldLink RX3 34 "SharedWire$Reader" "checkTaken" "I", Cond.fieldLink RX3 37 "SharedWire$Reader" "sizePlace" "I", Cond.fieldLink RX3 40 "SharedWire$Reader" "checkPlace" "I", Cond.methodLink RX3 43 yX0_set, Cond.instanceMethod yX0_set, Cond.selects RX0 yX0_set yX0_set, Cond.initialized RX0, Cond.code yX0_set cX0_set 6 none, Cond.fieldLink RX0 9 "SharedWire$Frame" "isLong" "Z"]
def wsX2_look_r2 : List Cond := [Cond.fieldLink RX0 15 "SharedWire$Frame" "identifier" "I", Cond.fieldLink RX0 19 "SharedWire$Frame" "data" "J", Cond.fieldLink RX0 23 "SharedWire$Frame" "size" "I", Cond.methodLink RX2 97 yX2_lookAsSender, Cond.instanceMethod yX2_lookAsSender, Cond.selects RX2 yX2_lookAsSender yX2_lookAsSender, Cond.initialized RX2, Cond.code yX2_lookAsSender cX2_lookAsSender 3 none, Cond.fieldLink RX2 25 "SharedWire$Node" "line" "LSharedWire$Line;", Cond.fieldLink RX2 68 "SharedWire$Node" "next" "I", Cond.methodLink RX2 116 yX1_isAnswer, Cond.instanceMethod yX1_isAnswer, Cond.selects RX1 yX1_isAnswer yX1_isAnswer, Cond.initialized RX1, Cond.code yX1_isAnswer cX1_isAnswer 2 (some .boolean), Cond.fieldLink RX1 18 "SharedWire$Line" "length" "I", Cond.methodLink RX2 89 yX1_bitAt, Cond.instanceMethod yX1_bitAt, Cond.selects RX1 yX1_bitAt yX1_bitAt, Cond.code yX1_bitAt cX1_bitAt 2 (some .int), Cond.fieldLink RX1 9 "SharedWire$Line" "bits" "[I", Cond.methodLink RX2 120 yX1_mayLose, Cond.instanceMethod yX1_mayLose, Cond.selects RX1 yX1_mayLose yX1_mayLose]
def wsX2_look_r3 : List Cond := [Cond.code yX1_mayLose cX1_mayLose 2 (some .boolean), Cond.fieldLink RX1 15 "SharedWire$Line" "places" "[I", Cond.fieldLink RX1 22 "SharedWire$Line" "head" "I", Cond.methodLink RX2 101 yX3_take, Cond.instanceMethod yX3_take, Cond.selects RX3 yX3_take yX3_take, Cond.code yX3_take cX3_take 3 (some .int), Cond.methodLink RX3 47 yX3_hasWholeFrame, Cond.instanceMethod yX3_hasWholeFrame, Cond.selects RX3 yX3_hasWholeFrame yX3_hasWholeFrame, Cond.code yX3_hasWholeFrame cX3_hasWholeFrame 1 (some .boolean), Cond.methodLink RX3 51 yX3_takeTail, Cond.instanceMethod yX3_takeTail, Cond.selects RX3 yX3_takeTail yX3_takeTail, Cond.code yX3_takeTail cX3_takeTail 2 (some .int), Cond.methodLink RX3 55 yX3_takeFramed, Cond.instanceMethod yX3_takeFramed, Cond.selects RX3 yX3_takeFramed yX3_takeFramed, Cond.code yX3_takeFramed cX3_takeFramed 3 none, Cond.static yX4_nextCheck, Cond.initialized RX4, Cond.code yX4_nextCheck cX4_nextCheck 4 (some .int), Cond.methodLink RX3 63 yX3_takeHead, Cond.instanceMethod yX3_takeHead]
def wsX2_look_r4 : List Cond := [Cond.selects RX3 yX3_takeHead yX3_takeHead, Cond.code yX3_takeHead cX3_takeHead 5 none, Cond.fieldLink RX3 73 "SharedWire$Frame" "isLong" "Z", Cond.fieldLink RX3 77 "SharedWire$Frame" "identifier" "I", Cond.methodLink RX3 67 yX3_takeSize, Cond.instanceMethod yX3_takeSize, Cond.selects RX3 yX3_takeSize yX3_takeSize, Cond.code yX3_takeSize cX3_takeSize 3 none, Cond.fieldLink RX3 80 "SharedWire$Frame" "size" "I", Cond.methodLink RX3 83 Lib.Math.min.name, Cond.static Lib.Math.min.name, Cond.initialized "java/lang/Math", Cond.code Lib.Math.min.name Lib.Math.min.code 2 (some .int), Cond.methodLink RX3 70 yX3_takeData, Cond.instanceMethod yX3_takeData, Cond.selects RX3 yX3_takeData yX3_takeData, Cond.code yX3_takeData cX3_takeData 5 none, Cond.fieldLink RX3 88 "SharedWire$Frame" "data" "J"]
def wsX2_look : List Cond := .code yX2_look cX2_look 3 none :: ((wsX2_look_r1 ++ (wsX2_look_r2 ++ (wsX2_look_r3 ++ wsX2_look_r4))) ++ wsX20 ++ wsX30 ++ wsX00 ++ wsX10)
def wsX2_countFault : List Cond := .code yX2_countFault cX2_countFault 1 none :: ([.fieldLink RX2 62 "SharedWire$Node" "found" "I", .fieldLink RX2 59 "SharedWire$Node" "lastFault" "I", .fieldLink RX2 40 "SharedWire$Node" "role" "I", .fieldLink RX2 47 "SharedWire$Node" "sendingCount" "I", .fieldLink RX2 50 "SharedWire$Node" "receivingCount" "I", .fieldLink RX2 36 "SharedWire$Node" "on" "Z"] ++ wsX20)
def wsX2_removeWanted : List Cond := .code yX2_removeWanted cX2_removeWanted 4 none :: ([.fieldLink RX2 44 "SharedWire$Node" "wants" "I", .fieldLink RX2 11 "SharedWire$Node" "wanted" "[LSharedWire$Frame;"] ++ wsX20)
def wsX2_endSending : List Cond := .code yX2_endSending cX2_endSending 1 none :: ([.fieldLink RX2 40 "SharedWire$Node" "role" "I", .fieldLink RX2 53 "SharedWire$Node" "framesSent" "I", .fieldLink RX2 47 "SharedWire$Node" "sendingCount" "I", .methodLink RX2 123 Lib.Math.max.name, .static Lib.Math.max.name, .initialized "java/lang/Math", .code Lib.Math.max.name Lib.Math.max.code 2 (some .int), .fieldLink RX2 65 "SharedWire$Node" "sending" "I", .methodLink RX2 129 yX2_removeWanted, .instanceMethod yX2_removeWanted, .selects RX2 yX2_removeWanted yX2_removeWanted, .initialized RX2, .code yX2_removeWanted cX2_removeWanted 4 none, .fieldLink RX2 44 "SharedWire$Node" "wants" "I", .fieldLink RX2 11 "SharedWire$Node" "wanted" "[LSharedWire$Frame;"] ++ wsX20)
def wsX3_isFinished : List Cond := .code yX3_isFinished cX3_isFinished 1 (some .boolean) :: ([.fieldLink RX3 22 "SharedWire$Reader" "tail" "I"] ++ wsX30)
def wsX2_endReading : List Cond := .code yX2_endReading cX2_endReading 2 none :: ([.fieldLink RX2 40 "SharedWire$Node" "role" "I", .fieldLink RX2 56 "SharedWire$Node" "framesReceived" "I", .fieldLink RX2 50 "SharedWire$Node" "receivingCount" "I", .methodLink RX2 123 Lib.Math.max.name, .static Lib.Math.max.name, .initialized "java/lang/Math", .code Lib.Math.max.name Lib.Math.max.code 2 (some .int), .fieldLink RX2 32 "SharedWire$Node" "reader" "LSharedWire$Reader;", .fieldLink RX2 132 "SharedWire$Reader" "frame" "LSharedWire$Frame;", .fieldLink RX2 18 "SharedWire$Node" "lastReceived" "LSharedWire$Frame;", .fieldLink RX2 135 "SharedWire$Frame" "isLong" "Z", .fieldLink RX2 138 "SharedWire$Frame" "identifier" "I", .fieldLink RX2 141 "SharedWire$Frame" "data" "J", .fieldLink RX2 145 "SharedWire$Frame" "size" "I", .methodLink RX2 71 yX0_set, .instanceMethod yX0_set, .selects RX0 yX0_set yX0_set, .initialized RX0, .code yX0_set cX0_set 6 none, .fieldLink RX0 9 "SharedWire$Frame" "isLong" "Z", .fieldLink RX0 15 "SharedWire$Frame" "identifier" "I", .fieldLink RX0 19 "SharedWire$Frame" "data" "J", .fieldLink RX0 23 "SharedWire$Frame" "size" "I"] ++ wsX20 ++ wsX30 ++ wsX00)
def wsX2_endFrame_r1 : List Cond := [Cond.fieldLink RX2 40 "SharedWire$Node" "role" "I", Cond.fieldLink RX2 68 "SharedWire$Node" "next" "I", Cond.fieldLink RX2 25 "SharedWire$Node" "line" "LSharedWire$Line;", Cond.fieldLink RX2 104 "SharedWire$Line" "length" "I", Cond.fieldLink RX2 32 "SharedWire$Node" "reader" "LSharedWire$Reader;", Cond.methodLink RX2 107 yX2_endSending, Cond.instanceMethod yX2_endSending, Cond.selects RX2 yX2_endSending yX2_endSending, Cond.initialized RX2, Cond.code yX2_endSending cX2_endSending 1 none, Cond.fieldLink RX2 53 "SharedWire$Node" "framesSent" "I", Cond.fieldLink RX2 47 "SharedWire$Node" "sendingCount" "I", Cond.methodLink RX2 123 Lib.Math.max.name, Cond.static Lib.Math.max.name, Cond.initialized "java/lang/Math", Cond.code Lib.Math.max.name Lib.Math.max.code 2 (some .int), Cond.fieldLink RX2 65 "SharedWire$Node" "sending" "I", Cond.methodLink RX2 129 yX2_removeWanted, Cond.instanceMethod yX2_removeWanted, Cond.selects RX2 yX2_removeWanted yX2_removeWanted, Cond.code yX2_removeWanted cX2_removeWanted 4 none, Cond.fieldLink RX2 44 "SharedWire$Node" "wants" "I", Cond.fieldLink RX2 11 "SharedWire$Node" "wanted" "[LSharedWire$Frame;", Cond.methodLink RX2 110 yX3_isFinished]
def wsX2_endFrame_r2 : List Cond := [Cond.instanceMethod yX3_isFinished, Cond.selects RX3 yX3_isFinished yX3_isFinished, Cond.initialized RX3, Cond.code yX3_isFinished cX3_isFinished 1 (some .boolean), Cond.fieldLink RX3 22 "SharedWire$Reader" "tail" "I", Cond.methodLink RX2 113 yX2_endReading, Cond.instanceMethod yX2_endReading, Cond.selects RX2 yX2_endReading yX2_endReading, Cond.code yX2_endReading cX2_endReading 2 none, Cond.fieldLink RX2 56 "SharedWire$Node" "framesReceived" "I", Cond.fieldLink RX2 50 "SharedWire$Node" "receivingCount" "I", Cond.fieldLink RX2 132 "SharedWire$Reader" "frame" "LSharedWire$Frame;", Cond.fieldLink RX2 18 "SharedWire$Node" "lastReceived" "LSharedWire$Frame;", Cond.fieldLink RX2 135 "SharedWire$Frame" "isLong" "Z", Cond.fieldLink RX2 138 "SharedWire$Frame" "identifier" "I", Cond.fieldLink RX2 141 "SharedWire$Frame" "data" "J", Cond.fieldLink RX2 145 "SharedWire$Frame" "size" "I", Cond.methodLink RX2 71 yX0_set, Cond.instanceMethod yX0_set, Cond.selects RX0 yX0_set yX0_set, Cond.initialized RX0, Cond.code yX0_set cX0_set 6 none, Cond.fieldLink RX0 9 "SharedWire$Frame" "isLong" "Z", Cond.fieldLink RX0 15 "SharedWire$Frame" "identifier" "I"]
def wsX2_endFrame_r3 : List Cond := [Cond.fieldLink RX0 19 "SharedWire$Frame" "data" "J", Cond.fieldLink RX0 23 "SharedWire$Frame" "size" "I"]
def wsX2_endFrame : List Cond := .code yX2_endFrame cX2_endFrame 1 none :: ((wsX2_endFrame_r1 ++ (wsX2_endFrame_r2 ++ wsX2_endFrame_r3)) ++ wsX20 ++ wsX10 ++ wsX30 ++ wsX00)
def wsX4_init_r1 : List Cond := [Cond.methodLink RX4 3 objectInit, Cond.instanceMethod objectInit, Cond.code objectInit ⟨#[0xb1]⟩ 1 none, Cond.classLink RX4 9 RX2, Cond.fieldLink RX4 11 "SharedWire" "nodes" "[LSharedWire$Node;", Cond.fieldLink RX4 15 "SharedWire" "state" "I", Cond.fieldLink RX4 19 "SharedWire" "stepsLeft" "I", Cond.arrayClass .int, Cond.fieldLink RX4 22 "SharedWire" "tapeBits" "[I", Cond.fieldLink RX4 26 "SharedWire" "tapeLength" "I", Cond.classLink RX4 29 RX1, Cond.instantiable RX1 8, Cond.initialized RX1, Cond.fieldLink RX4 32 "SharedWire" "tapeLine" "LSharedWire$Line;", Cond.classLink RX4 36 RX3, Cond.instantiable RX3 9, Cond.initialized RX3, Cond.fieldLink RX4 39 "SharedWire" "tapeReader" "LSharedWire$Reader;", Cond.instantiable RX2 15, Cond.initialized RX2, Cond.instanceMethod yX1_init, Cond.code yX1_init cX1_init 1 none, Cond.methodLink RX1 3 objectInit, Cond.fieldLink RX1 9 "SharedWire$Line" "bits" "[I"]
def wsX4_init_r2 : List Cond := [Cond.fieldLink RX1 15 "SharedWire$Line" "places" "[I", Cond.fieldLink RX1 18 "SharedWire$Line" "length" "I", Cond.fieldLink RX1 22 "SharedWire$Line" "head" "I", Cond.fieldLink RX1 25 "SharedWire$Line" "framed" "I", Cond.fieldLink RX1 28 "SharedWire$Line" "alike" "I", Cond.fieldLink RX1 31 "SharedWire$Line" "last" "I", Cond.fieldLink RX1 34 "SharedWire$Line" "check" "I", Cond.instanceMethod yX3_init, Cond.code yX3_init cX3_init 1 none, Cond.methodLink RX3 3 objectInit, Cond.classLink RX3 9 RX0, Cond.instantiable RX0 4, Cond.initialized RX0, Cond.fieldLink RX3 12 "SharedWire$Reader" "frame" "LSharedWire$Frame;", Cond.fieldLink RX3 18 "SharedWire$Reader" "taken" "I", Cond.fieldLink RX3 22 "SharedWire$Reader" "tail" "I", Cond.fieldLink RX3 25 "SharedWire$Reader" "alike" "I", Cond.fieldLink RX3 28 "SharedWire$Reader" "last" "I", Cond.fieldLink RX3 31 "SharedWire$Reader" "check" "I", Cond.fieldLink RX3 34 "SharedWire$Reader" "checkTaken" "I", Cond.fieldLink RX3 37 "SharedWire$Reader" "sizePlace" "I", Cond.fieldLink RX3 40 "SharedWire$Reader" "checkPlace" "I", Cond.instanceMethod yX0_init, Cond.code yX0_init cX0_init 1 none]
def wsX4_init_r3 : List Cond := [Cond.methodLink RX0 3 objectInit, Cond.fieldLink RX0 9 "SharedWire$Frame" "isLong" "Z", Cond.fieldLink RX0 15 "SharedWire$Frame" "identifier" "I", Cond.fieldLink RX0 19 "SharedWire$Frame" "data" "J", Cond.fieldLink RX0 23 "SharedWire$Frame" "size" "I", Cond.methodLink RX4 43 yX2_init, Cond.instanceMethod yX2_init, Cond.code yX2_init cX2_init 2 none, Cond.methodLink RX2 3 objectInit, Cond.classLink RX2 9 RX0, Cond.fieldLink RX2 11 "SharedWire$Node" "wanted" "[LSharedWire$Frame;", Cond.fieldLink RX2 18 "SharedWire$Node" "lastReceived" "LSharedWire$Frame;", Cond.classLink RX2 22 RX1, Cond.fieldLink RX2 25 "SharedWire$Node" "line" "LSharedWire$Line;", Cond.classLink RX2 29 RX3, Cond.fieldLink RX2 32 "SharedWire$Node" "reader" "LSharedWire$Reader;", Cond.fieldLink RX2 36 "SharedWire$Node" "on" "Z", Cond.fieldLink RX2 40 "SharedWire$Node" "role" "I", Cond.fieldLink RX2 44 "SharedWire$Node" "wants" "I", Cond.fieldLink RX2 47 "SharedWire$Node" "sendingCount" "I", Cond.fieldLink RX2 50 "SharedWire$Node" "receivingCount" "I", Cond.fieldLink RX2 53 "SharedWire$Node" "framesSent" "I", Cond.fieldLink RX2 56 "SharedWire$Node" "framesReceived" "I", Cond.fieldLink RX2 59 "SharedWire$Node" "lastFault" "I"]
def wsX4_init_r4 : List Cond := [Cond.fieldLink RX2 62 "SharedWire$Node" "found" "I", Cond.fieldLink RX2 65 "SharedWire$Node" "sending" "I", Cond.fieldLink RX2 68 "SharedWire$Node" "next" "I"]
def wsX4_init : List Cond := .code yX4_init cX4_init 2 none :: ((wsX4_init_r1 ++ (wsX4_init_r2 ++ (wsX4_init_r3 ++ wsX4_init_r4))) ++ wsX40 ++ wsX10 ++ wsX30 ++ wsX20 ++ wsX00)
def wsX4_isNode : List Cond := .code yX4_isNode cX4_isNode 1 (some .boolean) :: ([])
def wsX4_want_r1 : List Cond := [Cond.classLink RX4 48 "java/lang/IndexOutOfBoundsException", Cond.initialized "java/lang/IndexOutOfBoundsException", Cond.classLink RX4 51 "java/lang/IllegalArgumentException", Cond.initialized "java/lang/IllegalArgumentException", Cond.classLink RX4 57 "java/lang/UnsupportedOperationException", Cond.initialized "java/lang/UnsupportedOperationException", Cond.fieldLink RX4 11 "SharedWire" "nodes" "[LSharedWire$Node;", Cond.fieldLink RX4 54 "SharedWire$Node" "wants" "I", Cond.methodLink RX4 44 yX4_isNode, Cond.static yX4_isNode, Cond.initialized RX4, Cond.code yX4_isNode cX4_isNode 1 (some .boolean), Cond.methodLink RX4 60 yX2_addWanted, Cond.instanceMethod yX2_addWanted, Cond.selects RX2 yX2_addWanted yX2_addWanted, Cond.initialized RX2, Cond.code yX2_addWanted cX2_addWanted 6 none, Cond.fieldLink RX2 44 "SharedWire$Node" "wants" "I", Cond.fieldLink RX2 11 "SharedWire$Node" "wanted" "[LSharedWire$Frame;", Cond.methodLink RX2 71 yX0_set, Cond.instanceMethod yX0_set, Cond.selects RX0 yX0_set yX0_set, Cond.initialized RX0, Cond.code yX0_set cX0_set 6 none]
def wsX4_want_r2 : List Cond := [Cond.fieldLink RX0 9 "SharedWire$Frame" "isLong" "Z", Cond.fieldLink RX0 15 "SharedWire$Frame" "identifier" "I", Cond.fieldLink RX0 19 "SharedWire$Frame" "data" "J", Cond.fieldLink RX0 23 "SharedWire$Frame" "size" "I"]
def wsX4_want : List Cond := .code yX4_want cX4_want 9 (some .int) :: ((wsX4_want_r1 ++ wsX4_want_r2) ++ wsX40 ++ wsX20 ++ wsX00 ++ (vx_at0 RX4 50 "java/lang/IndexOutOfBoundsException" ["java/lang/RuntimeException", "java/lang/Exception"]).filter goodWord ++ (vx_at0 RX4 53 "java/lang/IllegalArgumentException" ["java/lang/RuntimeException", "java/lang/Exception"]).filter goodWord ++ (vx_at0 RX4 59 "java/lang/UnsupportedOperationException" ["java/lang/RuntimeException", "java/lang/Exception"]).filter goodWord)
def wsX4_beginPause : List Cond := .code yX4_beginPause cX4_beginPause 1 none :: ([.fieldLink RX4 15 "SharedWire" "state" "I", .fieldLink RX4 19 "SharedWire" "stepsLeft" "I"] ++ wsX40)
def wsX4_brokenStep : List Cond := .code yX4_brokenStep cX4_brokenStep 2 (some .int) :: ([.fieldLink RX4 19 "SharedWire" "stepsLeft" "I", .methodLink RX4 168 yX4_beginPause, .instanceMethod yX4_beginPause, .selects RX4 yX4_beginPause yX4_beginPause, .initialized RX4, .code yX4_beginPause cX4_beginPause 1 none, .fieldLink RX4 15 "SharedWire" "state" "I"] ++ wsX40)
def wsX4_pauseStep : List Cond := .code yX4_pauseStep cX4_pauseStep 1 (some .int) :: ([.fieldLink RX4 19 "SharedWire" "stepsLeft" "I", .fieldLink RX4 15 "SharedWire" "state" "I"] ++ wsX40)
def wsX4_startSenders_r1 : List Cond := [Cond.fieldLink RX4 11 "SharedWire" "nodes" "[LSharedWire$Node;", Cond.methodLink RX4 171 yX2_startSending, Cond.instanceMethod yX2_startSending, Cond.selects RX2 yX2_startSending yX2_startSending, Cond.initialized RX2, Cond.code yX2_startSending cX2_startSending 2 none, Cond.fieldLink RX2 36 "SharedWire$Node" "on" "Z", Cond.fieldLink RX2 40 "SharedWire$Node" "role" "I", Cond.fieldLink RX2 65 "SharedWire$Node" "sending" "I", Cond.fieldLink RX2 68 "SharedWire$Node" "next" "I", Cond.fieldLink RX2 25 "SharedWire$Node" "line" "LSharedWire$Line;", Cond.fieldLink RX2 11 "SharedWire$Node" "wanted" "[LSharedWire$Frame;", Cond.fieldLink RX2 32 "SharedWire$Node" "reader" "LSharedWire$Reader;", Cond.methodLink RX2 79 yX2_offered, Cond.instanceMethod yX2_offered, Cond.selects RX2 yX2_offered yX2_offered, Cond.code yX2_offered cX2_offered 3 (some .int), Cond.fieldLink RX2 44 "SharedWire$Node" "wants" "I", Cond.methodLink RX2 75 yX0_rank, Cond.instanceMethod yX0_rank, Cond.selects RX0 yX0_rank yX0_rank, Cond.initialized RX0, Cond.code yX0_rank cX0_rank 2 (some .int), Cond.fieldLink RX0 9 "SharedWire$Frame" "isLong" "Z"]
def wsX4_startSenders_r2 : List Cond := [Cond.fieldLink RX0 15 "SharedWire$Frame" "identifier" "I", Cond.constant RX0 26 (262143), Cond.constant RX0 27 (262144), Cond.methodLink RX2 82 yX1_write, Cond.instanceMethod yX1_write, Cond.selects RX1 yX1_write yX1_write, Cond.initialized RX1, Cond.code yX1_write cX1_write 3 none, Cond.fieldLink RX1 44 "SharedWire$Frame" "isLong" "Z", Cond.fieldLink RX1 50 "SharedWire$Frame" "identifier" "I", Cond.fieldLink RX1 25 "SharedWire$Line" "framed" "I", Cond.fieldLink RX1 22 "SharedWire$Line" "head" "I", Cond.fieldLink RX1 53 "SharedWire$Frame" "size" "I", Cond.fieldLink RX1 56 "SharedWire$Frame" "data" "J", Cond.constantLong RX1 60 (255), Cond.fieldLink RX1 34 "SharedWire$Line" "check" "I", Cond.methodLink RX1 37 yX1_clear, Cond.instanceMethod yX1_clear, Cond.selects RX1 yX1_clear yX1_clear, Cond.code yX1_clear cX1_clear 1 none, Cond.fieldLink RX1 18 "SharedWire$Line" "length" "I", Cond.fieldLink RX1 28 "SharedWire$Line" "alike" "I", Cond.fieldLink RX1 31 "SharedWire$Line" "last" "I", Cond.methodLink RX1 40 yX1_addNumber]
def wsX4_startSenders_r3 : List Cond := [Cond.instanceMethod yX1_addNumber, Cond.selects RX1 yX1_addNumber yX1_addNumber, Cond.code yX1_addNumber cX1_addNumber 5 none, Cond.methodLink RX1 62 yX1_append, Cond.instanceMethod yX1_append, Cond.selects RX1 yX1_append yX1_append, Cond.code yX1_append cX1_append 3 none, Cond.fieldLink RX1 9 "SharedWire$Line" "bits" "[I", Cond.fieldLink RX1 15 "SharedWire$Line" "places" "[I", Cond.static yX4_nextCheck, Cond.initialized RX4, Cond.code yX4_nextCheck cX4_nextCheck 4 (some .int), Cond.methodLink RX2 86 yX3_begin, Cond.instanceMethod yX3_begin, Cond.selects RX3 yX3_begin yX3_begin, Cond.initialized RX3, Cond.code yX3_begin cX3_begin 1 none, Cond.fieldLink RX3 12 "SharedWire$Reader" "frame" "LSharedWire$Frame;", Cond.fieldLink RX3 18 "SharedWire$Reader" "taken" "I", Cond.fieldLink RX3 22 "SharedWire$Reader" "tail" "I", Cond.fieldLink RX3 25 "SharedWire$Reader" "alike" "I", Cond.fieldLink RX3 28 "SharedWire$Reader" "last" "I", Cond.fieldLink RX3 31 "SharedWire$Reader" "check" "I", Cond.fieldLink RX3 34 "SharedWire$Reader" "checkTaken" "I"]
def wsX4_startSenders_r4 : List Cond := [Cond.fieldLink RX3 37 "SharedWire$Reader" "sizePlace" "I", Cond.fieldLink RX3 40 "SharedWire$Reader" "checkPlace" "I", Cond.methodLink RX3 43 yX0_set, Cond.instanceMethod yX0_set, Cond.selects RX0 yX0_set yX0_set, Cond.code yX0_set cX0_set 6 none, Cond.fieldLink RX0 19 "SharedWire$Frame" "data" "J", Cond.fieldLink RX0 23 "SharedWire$Frame" "size" "I"]
def wsX4_startSenders : List Cond := .code yX4_startSenders cX4_startSenders 2 none :: ((wsX4_startSenders_r1 ++ (wsX4_startSenders_r2 ++ (wsX4_startSenders_r3 ++ wsX4_startSenders_r4))) ++ wsX40 ++ wsX20 ++ wsX00 ++ wsX10 ++ wsX30)
def wsX4_levelSent_r1 : List Cond := [Cond.fieldLink RX4 11 "SharedWire" "nodes" "[LSharedWire$Node;", Cond.methodLink RX4 174 yX2_bitToSend, Cond.instanceMethod yX2_bitToSend, Cond.selects RX2 yX2_bitToSend yX2_bitToSend, Cond.initialized RX2, Cond.code yX2_bitToSend cX2_bitToSend 1 (some .int), Cond.fieldLink RX2 40 "SharedWire$Node" "role" "I", Cond.fieldLink RX2 25 "SharedWire$Node" "line" "LSharedWire$Line;", Cond.fieldLink RX2 68 "SharedWire$Node" "next" "I", Cond.fieldLink RX2 32 "SharedWire$Node" "reader" "LSharedWire$Reader;", Cond.methodLink RX2 89 yX1_bitAt, Cond.instanceMethod yX1_bitAt, Cond.selects RX1 yX1_bitAt yX1_bitAt, Cond.initialized RX1, Cond.code yX1_bitAt cX1_bitAt 2 (some .int), Cond.fieldLink RX1 18 "SharedWire$Line" "length" "I", Cond.fieldLink RX1 9 "SharedWire$Line" "bits" "[I", Cond.methodLink RX2 93 yX3_givesAnswer, Cond.instanceMethod yX3_givesAnswer, Cond.selects RX3 yX3_givesAnswer yX3_givesAnswer, Cond.initialized RX3, Cond.code yX3_givesAnswer cX3_givesAnswer 1 (some .boolean), Cond.fieldLink RX3 22 "SharedWire$Reader" "tail" "I", Cond.fieldLink RX3 31 "SharedWire$Reader" "check" "I"]
def wsX4_levelSent_r2 : List Cond := [Cond.fieldLink RX3 34 "SharedWire$Reader" "checkTaken" "I", Cond.methodLink RX3 47 yX3_hasWholeFrame, Cond.instanceMethod yX3_hasWholeFrame, Cond.selects RX3 yX3_hasWholeFrame yX3_hasWholeFrame, Cond.code yX3_hasWholeFrame cX3_hasWholeFrame 1 (some .boolean), Cond.fieldLink RX3 18 "SharedWire$Reader" "taken" "I", Cond.fieldLink RX3 40 "SharedWire$Reader" "checkPlace" "I"]
def wsX4_levelSent : List Cond := .code yX4_levelSent cX4_levelSent 3 (some .int) :: ((wsX4_levelSent_r1 ++ wsX4_levelSent_r2) ++ wsX40 ++ wsX20 ++ wsX10 ++ wsX30)
def wsX4_someFindFaults_r1 : List Cond := [Cond.fieldLink RX4 11 "SharedWire" "nodes" "[LSharedWire$Node;", Cond.fieldLink RX4 181 "SharedWire$Node" "found" "I", Cond.methodLink RX4 177 yX2_look, Cond.instanceMethod yX2_look, Cond.selects RX2 yX2_look yX2_look, Cond.initialized RX2, Cond.code yX2_look cX2_look 3 none, Cond.fieldLink RX2 62 "SharedWire$Node" "found" "I", Cond.fieldLink RX2 36 "SharedWire$Node" "on" "Z", Cond.fieldLink RX2 40 "SharedWire$Node" "role" "I", Cond.fieldLink RX2 32 "SharedWire$Node" "reader" "LSharedWire$Reader;", Cond.methodLink RX2 86 yX3_begin, Cond.instanceMethod yX3_begin, Cond.selects RX3 yX3_begin yX3_begin, Cond.initialized RX3, Cond.code yX3_begin cX3_begin 1 none, Cond.fieldLink RX3 12 "SharedWire$Reader" "frame" "LSharedWire$Frame;", Cond.fieldLink RX3 18 "SharedWire$Reader" "taken" "I", Cond.fieldLink RX3 22 "SharedWire$Reader" "tail" "I", Cond.fieldLink RX3 25 "SharedWire$Reader" "alike" "I", Cond.fieldLink RX3 28 "SharedWire$Reader" "last" "I", Cond.fieldLink RX3 31 "SharedWire$Reader" "check" "I", Cond.fieldLink RX3 34 "SharedWire$Reader" "checkTaken" "I", Cond.fieldLink RX3 37 "SharedWire$Reader" "sizePlace" "I"]
def wsX4_someFindFaults_r2 : List Cond := [Cond.fieldLink RX3 40 "SharedWire$Reader" "checkPlace" "I", Cond.methodLink RX3 43 yX0_set, Cond.instanceMethod yX0_set, Cond.selects RX0 yX0_set yX0_set, Cond.initialized RX0, Cond.code yX0_set cX0_set 6 none, Cond.fieldLink RX0 9 "SharedWire$Frame" "isLong" "Z", Cond.fieldLink RX0 15 "SharedWire$Frame" "identifier" "I", Cond.fieldLink RX0 19 "SharedWire$Frame" "data" "J", Cond.fieldLink RX0 23 "SharedWire$Frame" "size" "I", Cond.methodLink RX2 97 yX2_lookAsSender, Cond.instanceMethod yX2_lookAsSender, Cond.selects RX2 yX2_lookAsSender yX2_lookAsSender, Cond.code yX2_lookAsSender cX2_lookAsSender 3 none, Cond.fieldLink RX2 25 "SharedWire$Node" "line" "LSharedWire$Line;", Cond.fieldLink RX2 68 "SharedWire$Node" "next" "I", Cond.methodLink RX2 116 yX1_isAnswer, Cond.instanceMethod yX1_isAnswer, Cond.selects RX1 yX1_isAnswer yX1_isAnswer, Cond.initialized RX1, Cond.code yX1_isAnswer cX1_isAnswer 2 (some .boolean), Cond.fieldLink RX1 18 "SharedWire$Line" "length" "I", Cond.methodLink RX2 89 yX1_bitAt, Cond.instanceMethod yX1_bitAt]
def wsX4_someFindFaults_r3 : List Cond := [Cond.selects RX1 yX1_bitAt yX1_bitAt, Cond.code yX1_bitAt cX1_bitAt 2 (some .int), Cond.fieldLink RX1 9 "SharedWire$Line" "bits" "[I", Cond.methodLink RX2 120 yX1_mayLose, Cond.instanceMethod yX1_mayLose, Cond.selects RX1 yX1_mayLose yX1_mayLose, Cond.code yX1_mayLose cX1_mayLose 2 (some .boolean), Cond.fieldLink RX1 15 "SharedWire$Line" "places" "[I", Cond.fieldLink RX1 22 "SharedWire$Line" "head" "I", Cond.methodLink RX2 101 yX3_take, Cond.instanceMethod yX3_take, Cond.selects RX3 yX3_take yX3_take, Cond.code yX3_take cX3_take 3 (some .int), Cond.methodLink RX3 47 yX3_hasWholeFrame, Cond.instanceMethod yX3_hasWholeFrame, Cond.selects RX3 yX3_hasWholeFrame yX3_hasWholeFrame, Cond.code yX3_hasWholeFrame cX3_hasWholeFrame 1 (some .boolean), Cond.methodLink RX3 51 yX3_takeTail, Cond.instanceMethod yX3_takeTail, Cond.selects RX3 yX3_takeTail yX3_takeTail, Cond.code yX3_takeTail cX3_takeTail 2 (some .int), Cond.methodLink RX3 55 yX3_takeFramed, Cond.instanceMethod yX3_takeFramed, Cond.selects RX3 yX3_takeFramed yX3_takeFramed]
def wsX4_someFindFaults_r4 : List Cond := [Cond.code yX3_takeFramed cX3_takeFramed 3 none, Cond.static yX4_nextCheck, Cond.initialized RX4, Cond.code yX4_nextCheck cX4_nextCheck 4 (some .int), Cond.methodLink RX3 63 yX3_takeHead, Cond.instanceMethod yX3_takeHead, Cond.selects RX3 yX3_takeHead yX3_takeHead, Cond.code yX3_takeHead cX3_takeHead 5 none, Cond.fieldLink RX3 73 "SharedWire$Frame" "isLong" "Z", Cond.fieldLink RX3 77 "SharedWire$Frame" "identifier" "I", Cond.methodLink RX3 67 yX3_takeSize, Cond.instanceMethod yX3_takeSize, Cond.selects RX3 yX3_takeSize yX3_takeSize, Cond.code yX3_takeSize cX3_takeSize 3 none, Cond.fieldLink RX3 80 "SharedWire$Frame" "size" "I", Cond.methodLink RX3 83 Lib.Math.min.name, Cond.static Lib.Math.min.name, Cond.initialized "java/lang/Math", Cond.code Lib.Math.min.name Lib.Math.min.code 2 (some .int), Cond.methodLink RX3 70 yX3_takeData, Cond.instanceMethod yX3_takeData, Cond.selects RX3 yX3_takeData yX3_takeData, Cond.code yX3_takeData cX3_takeData 5 none, Cond.fieldLink RX3 88 "SharedWire$Frame" "data" "J"]
def wsX4_someFindFaults : List Cond := .code yX4_someFindFaults cX4_someFindFaults 5 (some .boolean) :: ((wsX4_someFindFaults_r1 ++ (wsX4_someFindFaults_r2 ++ (wsX4_someFindFaults_r3 ++ wsX4_someFindFaults_r4))) ++ wsX40 ++ wsX20 ++ wsX30 ++ wsX00 ++ wsX10)
def wsX4_breakOff : List Cond := .code yX4_breakOff cX4_breakOff 2 none :: ([.fieldLink RX4 11 "SharedWire" "nodes" "[LSharedWire$Node;", .fieldLink RX4 15 "SharedWire" "state" "I", .fieldLink RX4 19 "SharedWire" "stepsLeft" "I", .methodLink RX4 184 yX2_countFault, .instanceMethod yX2_countFault, .selects RX2 yX2_countFault yX2_countFault, .initialized RX2, .code yX2_countFault cX2_countFault 1 none, .fieldLink RX2 62 "SharedWire$Node" "found" "I", .fieldLink RX2 59 "SharedWire$Node" "lastFault" "I", .fieldLink RX2 40 "SharedWire$Node" "role" "I", .fieldLink RX2 47 "SharedWire$Node" "sendingCount" "I", .fieldLink RX2 50 "SharedWire$Node" "receivingCount" "I", .fieldLink RX2 36 "SharedWire$Node" "on" "Z"] ++ wsX40 ++ wsX20)
def wsX4_goOn_r1 : List Cond := [Cond.fieldLink RX4 11 "SharedWire" "nodes" "[LSharedWire$Node;", Cond.fieldLink RX4 75 "SharedWire$Node" "role" "I", Cond.fieldLink RX4 15 "SharedWire" "state" "I", Cond.methodLink RX4 187 yX2_endFrame, Cond.instanceMethod yX2_endFrame, Cond.selects RX2 yX2_endFrame yX2_endFrame, Cond.initialized RX2, Cond.code yX2_endFrame cX2_endFrame 1 none, Cond.fieldLink RX2 40 "SharedWire$Node" "role" "I", Cond.fieldLink RX2 68 "SharedWire$Node" "next" "I", Cond.fieldLink RX2 25 "SharedWire$Node" "line" "LSharedWire$Line;", Cond.fieldLink RX2 104 "SharedWire$Line" "length" "I", Cond.fieldLink RX2 32 "SharedWire$Node" "reader" "LSharedWire$Reader;", Cond.methodLink RX2 107 yX2_endSending, Cond.instanceMethod yX2_endSending, Cond.selects RX2 yX2_endSending yX2_endSending, Cond.code yX2_endSending cX2_endSending 1 none, Cond.fieldLink RX2 53 "SharedWire$Node" "framesSent" "I", Cond.fieldLink RX2 47 "SharedWire$Node" "sendingCount" "I", Cond.methodLink RX2 123 Lib.Math.max.name, Cond.static Lib.Math.max.name, Cond.initialized "java/lang/Math", Cond.code Lib.Math.max.name Lib.Math.max.code 2 (some .int), Cond.fieldLink RX2 65 "SharedWire$Node" "sending" "I"]
def wsX4_goOn_r2 : List Cond := [Cond.methodLink RX2 129 yX2_removeWanted, Cond.instanceMethod yX2_removeWanted, Cond.selects RX2 yX2_removeWanted yX2_removeWanted, Cond.code yX2_removeWanted cX2_removeWanted 4 none, Cond.fieldLink RX2 44 "SharedWire$Node" "wants" "I", Cond.fieldLink RX2 11 "SharedWire$Node" "wanted" "[LSharedWire$Frame;", Cond.methodLink RX2 110 yX3_isFinished, Cond.instanceMethod yX3_isFinished, Cond.selects RX3 yX3_isFinished yX3_isFinished, Cond.initialized RX3, Cond.code yX3_isFinished cX3_isFinished 1 (some .boolean), Cond.fieldLink RX3 22 "SharedWire$Reader" "tail" "I", Cond.methodLink RX2 113 yX2_endReading, Cond.instanceMethod yX2_endReading, Cond.selects RX2 yX2_endReading yX2_endReading, Cond.code yX2_endReading cX2_endReading 2 none, Cond.fieldLink RX2 56 "SharedWire$Node" "framesReceived" "I", Cond.fieldLink RX2 50 "SharedWire$Node" "receivingCount" "I", Cond.fieldLink RX2 132 "SharedWire$Reader" "frame" "LSharedWire$Frame;", Cond.fieldLink RX2 18 "SharedWire$Node" "lastReceived" "LSharedWire$Frame;", Cond.fieldLink RX2 135 "SharedWire$Frame" "isLong" "Z", Cond.fieldLink RX2 138 "SharedWire$Frame" "identifier" "I", Cond.fieldLink RX2 141 "SharedWire$Frame" "data" "J", Cond.fieldLink RX2 145 "SharedWire$Frame" "size" "I"]
def wsX4_goOn_r3 : List Cond := [Cond.methodLink RX2 71 yX0_set, Cond.instanceMethod yX0_set, Cond.selects RX0 yX0_set yX0_set, Cond.initialized RX0, Cond.code yX0_set cX0_set 6 none, Cond.fieldLink RX0 9 "SharedWire$Frame" "isLong" "Z", Cond.fieldLink RX0 15 "SharedWire$Frame" "identifier" "I", Cond.fieldLink RX0 19 "SharedWire$Frame" "data" "J", Cond.fieldLink RX0 23 "SharedWire$Frame" "size" "I", Cond.methodLink RX4 168 yX4_beginPause, Cond.instanceMethod yX4_beginPause, Cond.selects RX4 yX4_beginPause yX4_beginPause, Cond.initialized RX4, Cond.code yX4_beginPause cX4_beginPause 1 none, Cond.fieldLink RX4 19 "SharedWire" "stepsLeft" "I"]
def wsX4_goOn : List Cond := .code yX4_goOn cX4_goOn 3 none :: ((wsX4_goOn_r1 ++ (wsX4_goOn_r2 ++ wsX4_goOn_r3)) ++ wsX40 ++ wsX20 ++ wsX10 ++ wsX30 ++ wsX00)
def wsX4_oneStep_r1 : List Cond := [Cond.fieldLink RX4 15 "SharedWire" "state" "I", Cond.methodLink RX4 146 yX4_brokenStep, Cond.instanceMethod yX4_brokenStep, Cond.selects RX4 yX4_brokenStep yX4_brokenStep, Cond.initialized RX4, Cond.code yX4_brokenStep cX4_brokenStep 2 (some .int), Cond.fieldLink RX4 19 "SharedWire" "stepsLeft" "I", Cond.methodLink RX4 168 yX4_beginPause, Cond.instanceMethod yX4_beginPause, Cond.selects RX4 yX4_beginPause yX4_beginPause, Cond.code yX4_beginPause cX4_beginPause 1 none, Cond.methodLink RX4 149 yX4_pauseStep, Cond.instanceMethod yX4_pauseStep, Cond.selects RX4 yX4_pauseStep yX4_pauseStep, Cond.code yX4_pauseStep cX4_pauseStep 1 (some .int), Cond.methodLink RX4 152 yX4_startSenders, Cond.instanceMethod yX4_startSenders, Cond.selects RX4 yX4_startSenders yX4_startSenders, Cond.code yX4_startSenders cX4_startSenders 2 none, Cond.fieldLink RX4 11 "SharedWire" "nodes" "[LSharedWire$Node;", Cond.methodLink RX4 171 yX2_startSending, Cond.instanceMethod yX2_startSending, Cond.selects RX2 yX2_startSending yX2_startSending, Cond.initialized RX2]
def wsX4_oneStep_r2 : List Cond := [Cond.code yX2_startSending cX2_startSending 2 none, Cond.fieldLink RX2 36 "SharedWire$Node" "on" "Z", Cond.fieldLink RX2 40 "SharedWire$Node" "role" "I", Cond.fieldLink RX2 65 "SharedWire$Node" "sending" "I", Cond.fieldLink RX2 68 "SharedWire$Node" "next" "I", Cond.fieldLink RX2 25 "SharedWire$Node" "line" "LSharedWire$Line;", Cond.fieldLink RX2 11 "SharedWire$Node" "wanted" "[LSharedWire$Frame;", Cond.fieldLink RX2 32 "SharedWire$Node" "reader" "LSharedWire$Reader;", Cond.methodLink RX2 79 yX2_offered, Cond.instanceMethod yX2_offered, Cond.selects RX2 yX2_offered yX2_offered, Cond.code yX2_offered cX2_offered 3 (some .int), Cond.fieldLink RX2 44 "SharedWire$Node" "wants" "I", Cond.methodLink RX2 75 yX0_rank, Cond.instanceMethod yX0_rank, Cond.selects RX0 yX0_rank yX0_rank, Cond.initialized RX0, Cond.code yX0_rank cX0_rank 2 (some .int), Cond.fieldLink RX0 9 "SharedWire$Frame" "isLong" "Z", Cond.fieldLink RX0 15 "SharedWire$Frame" "identifier" "I", Cond.constant RX0 26 (262143), Cond.constant RX0 27 (262144), Cond.methodLink RX2 82 yX1_write, Cond.instanceMethod yX1_write]
def wsX4_oneStep_r3 : List Cond := [Cond.selects RX1 yX1_write yX1_write, Cond.initialized RX1, Cond.code yX1_write cX1_write 3 none, Cond.fieldLink RX1 44 "SharedWire$Frame" "isLong" "Z", Cond.fieldLink RX1 50 "SharedWire$Frame" "identifier" "I", Cond.fieldLink RX1 25 "SharedWire$Line" "framed" "I", Cond.fieldLink RX1 22 "SharedWire$Line" "head" "I", Cond.fieldLink RX1 53 "SharedWire$Frame" "size" "I", Cond.fieldLink RX1 56 "SharedWire$Frame" "data" "J", Cond.constantLong RX1 60 (255), Cond.fieldLink RX1 34 "SharedWire$Line" "check" "I", Cond.methodLink RX1 37 yX1_clear, Cond.instanceMethod yX1_clear, Cond.selects RX1 yX1_clear yX1_clear, Cond.code yX1_clear cX1_clear 1 none, Cond.fieldLink RX1 18 "SharedWire$Line" "length" "I", Cond.fieldLink RX1 28 "SharedWire$Line" "alike" "I", Cond.fieldLink RX1 31 "SharedWire$Line" "last" "I", Cond.methodLink RX1 40 yX1_addNumber, Cond.instanceMethod yX1_addNumber, Cond.selects RX1 yX1_addNumber yX1_addNumber, Cond.code yX1_addNumber cX1_addNumber 5 none, Cond.methodLink RX1 62 yX1_append, Cond.instanceMethod yX1_append]
def wsX4_oneStep_r4 : List Cond := [Cond.selects RX1 yX1_append yX1_append, Cond.code yX1_append cX1_append 3 none, Cond.fieldLink RX1 9 "SharedWire$Line" "bits" "[I", Cond.fieldLink RX1 15 "SharedWire$Line" "places" "[I", Cond.static yX4_nextCheck, Cond.code yX4_nextCheck cX4_nextCheck 4 (some .int), Cond.methodLink RX2 86 yX3_begin, Cond.instanceMethod yX3_begin, Cond.selects RX3 yX3_begin yX3_begin, Cond.initialized RX3, Cond.code yX3_begin cX3_begin 1 none, Cond.fieldLink RX3 12 "SharedWire$Reader" "frame" "LSharedWire$Frame;", Cond.fieldLink RX3 18 "SharedWire$Reader" "taken" "I", Cond.fieldLink RX3 22 "SharedWire$Reader" "tail" "I", Cond.fieldLink RX3 25 "SharedWire$Reader" "alike" "I", Cond.fieldLink RX3 28 "SharedWire$Reader" "last" "I", Cond.fieldLink RX3 31 "SharedWire$Reader" "check" "I", Cond.fieldLink RX3 34 "SharedWire$Reader" "checkTaken" "I", Cond.fieldLink RX3 37 "SharedWire$Reader" "sizePlace" "I", Cond.fieldLink RX3 40 "SharedWire$Reader" "checkPlace" "I", Cond.methodLink RX3 43 yX0_set, Cond.instanceMethod yX0_set, Cond.selects RX0 yX0_set yX0_set, Cond.code yX0_set cX0_set 6 none]
def wsX4_oneStep_r5 : List Cond := [Cond.fieldLink RX0 19 "SharedWire$Frame" "data" "J", Cond.fieldLink RX0 23 "SharedWire$Frame" "size" "I", Cond.methodLink RX4 155 yX4_levelSent, Cond.instanceMethod yX4_levelSent, Cond.selects RX4 yX4_levelSent yX4_levelSent, Cond.code yX4_levelSent cX4_levelSent 3 (some .int), Cond.methodLink RX4 174 yX2_bitToSend, Cond.instanceMethod yX2_bitToSend, Cond.selects RX2 yX2_bitToSend yX2_bitToSend, Cond.code yX2_bitToSend cX2_bitToSend 1 (some .int), Cond.methodLink RX2 89 yX1_bitAt, Cond.instanceMethod yX1_bitAt, Cond.selects RX1 yX1_bitAt yX1_bitAt, Cond.code yX1_bitAt cX1_bitAt 2 (some .int), Cond.methodLink RX2 93 yX3_givesAnswer, Cond.instanceMethod yX3_givesAnswer, Cond.selects RX3 yX3_givesAnswer yX3_givesAnswer, Cond.code yX3_givesAnswer cX3_givesAnswer 1 (some .boolean), Cond.methodLink RX3 47 yX3_hasWholeFrame, Cond.instanceMethod yX3_hasWholeFrame, Cond.selects RX3 yX3_hasWholeFrame yX3_hasWholeFrame, Cond.code yX3_hasWholeFrame cX3_hasWholeFrame 1 (some .boolean), Cond.methodLink RX4 158 yX4_someFindFaults, Cond.instanceMethod yX4_someFindFaults]
def wsX4_oneStep_r6 : List Cond := [Cond.selects RX4 yX4_someFindFaults yX4_someFindFaults, Cond.code yX4_someFindFaults cX4_someFindFaults 5 (some .boolean), Cond.fieldLink RX4 181 "SharedWire$Node" "found" "I", Cond.methodLink RX4 177 yX2_look, Cond.instanceMethod yX2_look, Cond.selects RX2 yX2_look yX2_look, Cond.code yX2_look cX2_look 3 none, Cond.fieldLink RX2 62 "SharedWire$Node" "found" "I", Cond.methodLink RX2 97 yX2_lookAsSender, Cond.instanceMethod yX2_lookAsSender, Cond.selects RX2 yX2_lookAsSender yX2_lookAsSender, Cond.code yX2_lookAsSender cX2_lookAsSender 3 none, Cond.methodLink RX2 116 yX1_isAnswer, Cond.instanceMethod yX1_isAnswer, Cond.selects RX1 yX1_isAnswer yX1_isAnswer, Cond.code yX1_isAnswer cX1_isAnswer 2 (some .boolean), Cond.methodLink RX2 120 yX1_mayLose, Cond.instanceMethod yX1_mayLose, Cond.selects RX1 yX1_mayLose yX1_mayLose, Cond.code yX1_mayLose cX1_mayLose 2 (some .boolean), Cond.methodLink RX2 101 yX3_take, Cond.instanceMethod yX3_take, Cond.selects RX3 yX3_take yX3_take, Cond.code yX3_take cX3_take 3 (some .int)]
def wsX4_oneStep_r7 : List Cond := [Cond.methodLink RX3 51 yX3_takeTail, Cond.instanceMethod yX3_takeTail, Cond.selects RX3 yX3_takeTail yX3_takeTail, Cond.code yX3_takeTail cX3_takeTail 2 (some .int), Cond.methodLink RX3 55 yX3_takeFramed, Cond.instanceMethod yX3_takeFramed, Cond.selects RX3 yX3_takeFramed yX3_takeFramed, Cond.code yX3_takeFramed cX3_takeFramed 3 none, Cond.methodLink RX3 63 yX3_takeHead, Cond.instanceMethod yX3_takeHead, Cond.selects RX3 yX3_takeHead yX3_takeHead, Cond.code yX3_takeHead cX3_takeHead 5 none, Cond.fieldLink RX3 73 "SharedWire$Frame" "isLong" "Z", Cond.fieldLink RX3 77 "SharedWire$Frame" "identifier" "I", Cond.methodLink RX3 67 yX3_takeSize, Cond.instanceMethod yX3_takeSize, Cond.selects RX3 yX3_takeSize yX3_takeSize, Cond.code yX3_takeSize cX3_takeSize 3 none, Cond.fieldLink RX3 80 "SharedWire$Frame" "size" "I", Cond.methodLink RX3 83 Lib.Math.min.name, Cond.static Lib.Math.min.name, Cond.initialized "java/lang/Math", Cond.code Lib.Math.min.name Lib.Math.min.code 2 (some .int), Cond.methodLink RX3 70 yX3_takeData]
def wsX4_oneStep_r8 : List Cond := [Cond.instanceMethod yX3_takeData, Cond.selects RX3 yX3_takeData yX3_takeData, Cond.code yX3_takeData cX3_takeData 5 none, Cond.fieldLink RX3 88 "SharedWire$Frame" "data" "J", Cond.methodLink RX4 162 yX4_breakOff, Cond.instanceMethod yX4_breakOff, Cond.selects RX4 yX4_breakOff yX4_breakOff, Cond.code yX4_breakOff cX4_breakOff 2 none, Cond.methodLink RX4 184 yX2_countFault, Cond.instanceMethod yX2_countFault, Cond.selects RX2 yX2_countFault yX2_countFault, Cond.code yX2_countFault cX2_countFault 1 none, Cond.fieldLink RX2 59 "SharedWire$Node" "lastFault" "I", Cond.fieldLink RX2 47 "SharedWire$Node" "sendingCount" "I", Cond.fieldLink RX2 50 "SharedWire$Node" "receivingCount" "I", Cond.methodLink RX4 165 yX4_goOn, Cond.instanceMethod yX4_goOn, Cond.selects RX4 yX4_goOn yX4_goOn, Cond.code yX4_goOn cX4_goOn 3 none, Cond.fieldLink RX4 75 "SharedWire$Node" "role" "I", Cond.methodLink RX4 187 yX2_endFrame, Cond.instanceMethod yX2_endFrame, Cond.selects RX2 yX2_endFrame yX2_endFrame, Cond.code yX2_endFrame cX2_endFrame 1 none]
def wsX4_oneStep_r9 : List Cond := [Cond.fieldLink RX2 104 "SharedWire$Line" "length" "I", Cond.methodLink RX2 107 yX2_endSending, Cond.instanceMethod yX2_endSending, Cond.selects RX2 yX2_endSending yX2_endSending, Cond.code yX2_endSending cX2_endSending 1 none, Cond.fieldLink RX2 53 "SharedWire$Node" "framesSent" "I", Cond.methodLink RX2 123 Lib.Math.max.name, Cond.static Lib.Math.max.name, Cond.code Lib.Math.max.name Lib.Math.max.code 2 (some .int), Cond.methodLink RX2 129 yX2_removeWanted, Cond.instanceMethod yX2_removeWanted, Cond.selects RX2 yX2_removeWanted yX2_removeWanted, Cond.code yX2_removeWanted cX2_removeWanted 4 none, Cond.methodLink RX2 110 yX3_isFinished, Cond.instanceMethod yX3_isFinished, Cond.selects RX3 yX3_isFinished yX3_isFinished, Cond.code yX3_isFinished cX3_isFinished 1 (some .boolean), Cond.methodLink RX2 113 yX2_endReading, Cond.instanceMethod yX2_endReading, Cond.selects RX2 yX2_endReading yX2_endReading, Cond.code yX2_endReading cX2_endReading 2 none, Cond.fieldLink RX2 56 "SharedWire$Node" "framesReceived" "I", Cond.fieldLink RX2 132 "SharedWire$Reader" "frame" "LSharedWire$Frame;", Cond.fieldLink RX2 18 "SharedWire$Node" "lastReceived" "LSharedWire$Frame;"]
def wsX4_oneStep_r10 : List Cond := [Cond.fieldLink RX2 135 "SharedWire$Frame" "isLong" "Z", Cond.fieldLink RX2 138 "SharedWire$Frame" "identifier" "I", Cond.fieldLink RX2 141 "SharedWire$Frame" "data" "J", Cond.fieldLink RX2 145 "SharedWire$Frame" "size" "I", Cond.methodLink RX2 71 yX0_set]
def wsX4_oneStep : List Cond := .code yX4_oneStep cX4_oneStep 3 (some .int) :: ((wsX4_oneStep_r1 ++ (wsX4_oneStep_r2 ++ (wsX4_oneStep_r3 ++ (wsX4_oneStep_r4 ++ (wsX4_oneStep_r5 ++ (wsX4_oneStep_r6 ++ (wsX4_oneStep_r7 ++ (wsX4_oneStep_r8 ++ (wsX4_oneStep_r9 ++ wsX4_oneStep_r10))))))))) ++ wsX40 ++ wsX20 ++ wsX00 ++ wsX10 ++ wsX30)
def wsX4_step_r1 : List Cond := [Cond.classLink RX4 51 "java/lang/IllegalArgumentException", Cond.initialized "java/lang/IllegalArgumentException", Cond.methodLink RX4 64 yX4_oneStep, Cond.instanceMethod yX4_oneStep, Cond.selects RX4 yX4_oneStep yX4_oneStep, Cond.initialized RX4, Cond.code yX4_oneStep cX4_oneStep 3 (some .int), Cond.fieldLink RX4 15 "SharedWire" "state" "I", Cond.methodLink RX4 146 yX4_brokenStep, Cond.instanceMethod yX4_brokenStep, Cond.selects RX4 yX4_brokenStep yX4_brokenStep, Cond.code yX4_brokenStep cX4_brokenStep 2 (some .int), Cond.fieldLink RX4 19 "SharedWire" "stepsLeft" "I", Cond.methodLink RX4 168 yX4_beginPause, Cond.instanceMethod yX4_beginPause, Cond.selects RX4 yX4_beginPause yX4_beginPause, Cond.code yX4_beginPause cX4_beginPause 1 none, Cond.methodLink RX4 149 yX4_pauseStep, Cond.instanceMethod yX4_pauseStep, Cond.selects RX4 yX4_pauseStep yX4_pauseStep, Cond.code yX4_pauseStep cX4_pauseStep 1 (some .int), Cond.methodLink RX4 152 yX4_startSenders, Cond.instanceMethod yX4_startSenders, Cond.selects RX4 yX4_startSenders yX4_startSenders]
def wsX4_step_r2 : List Cond := [Cond.code yX4_startSenders cX4_startSenders 2 none, Cond.fieldLink RX4 11 "SharedWire" "nodes" "[LSharedWire$Node;", Cond.methodLink RX4 171 yX2_startSending, Cond.instanceMethod yX2_startSending, Cond.selects RX2 yX2_startSending yX2_startSending, Cond.initialized RX2, Cond.code yX2_startSending cX2_startSending 2 none, Cond.fieldLink RX2 36 "SharedWire$Node" "on" "Z", Cond.fieldLink RX2 40 "SharedWire$Node" "role" "I", Cond.fieldLink RX2 65 "SharedWire$Node" "sending" "I", Cond.fieldLink RX2 68 "SharedWire$Node" "next" "I", Cond.fieldLink RX2 25 "SharedWire$Node" "line" "LSharedWire$Line;", Cond.fieldLink RX2 11 "SharedWire$Node" "wanted" "[LSharedWire$Frame;", Cond.fieldLink RX2 32 "SharedWire$Node" "reader" "LSharedWire$Reader;", Cond.methodLink RX2 79 yX2_offered, Cond.instanceMethod yX2_offered, Cond.selects RX2 yX2_offered yX2_offered, Cond.code yX2_offered cX2_offered 3 (some .int), Cond.fieldLink RX2 44 "SharedWire$Node" "wants" "I", Cond.methodLink RX2 75 yX0_rank, Cond.instanceMethod yX0_rank, Cond.selects RX0 yX0_rank yX0_rank, Cond.initialized RX0, Cond.code yX0_rank cX0_rank 2 (some .int)]
def wsX4_step_r3 : List Cond := [Cond.fieldLink RX0 9 "SharedWire$Frame" "isLong" "Z", Cond.fieldLink RX0 15 "SharedWire$Frame" "identifier" "I", Cond.constant RX0 26 (262143), Cond.constant RX0 27 (262144), Cond.methodLink RX2 82 yX1_write, Cond.instanceMethod yX1_write, Cond.selects RX1 yX1_write yX1_write, Cond.initialized RX1, Cond.code yX1_write cX1_write 3 none, Cond.fieldLink RX1 44 "SharedWire$Frame" "isLong" "Z", Cond.fieldLink RX1 50 "SharedWire$Frame" "identifier" "I", Cond.fieldLink RX1 25 "SharedWire$Line" "framed" "I", Cond.fieldLink RX1 22 "SharedWire$Line" "head" "I", Cond.fieldLink RX1 53 "SharedWire$Frame" "size" "I", Cond.fieldLink RX1 56 "SharedWire$Frame" "data" "J", Cond.constantLong RX1 60 (255), Cond.fieldLink RX1 34 "SharedWire$Line" "check" "I", Cond.methodLink RX1 37 yX1_clear, Cond.instanceMethod yX1_clear, Cond.selects RX1 yX1_clear yX1_clear, Cond.code yX1_clear cX1_clear 1 none, Cond.fieldLink RX1 18 "SharedWire$Line" "length" "I", Cond.fieldLink RX1 28 "SharedWire$Line" "alike" "I", Cond.fieldLink RX1 31 "SharedWire$Line" "last" "I"]
def wsX4_step_r4 : List Cond := [Cond.methodLink RX1 40 yX1_addNumber, Cond.instanceMethod yX1_addNumber, Cond.selects RX1 yX1_addNumber yX1_addNumber, Cond.code yX1_addNumber cX1_addNumber 5 none, Cond.methodLink RX1 62 yX1_append, Cond.instanceMethod yX1_append, Cond.selects RX1 yX1_append yX1_append, Cond.code yX1_append cX1_append 3 none, Cond.fieldLink RX1 9 "SharedWire$Line" "bits" "[I", Cond.fieldLink RX1 15 "SharedWire$Line" "places" "[I", Cond.static yX4_nextCheck, Cond.code yX4_nextCheck cX4_nextCheck 4 (some .int), Cond.methodLink RX2 86 yX3_begin, Cond.instanceMethod yX3_begin, Cond.selects RX3 yX3_begin yX3_begin, Cond.initialized RX3, Cond.code yX3_begin cX3_begin 1 none, Cond.fieldLink RX3 12 "SharedWire$Reader" "frame" "LSharedWire$Frame;", Cond.fieldLink RX3 18 "SharedWire$Reader" "taken" "I", Cond.fieldLink RX3 22 "SharedWire$Reader" "tail" "I", Cond.fieldLink RX3 25 "SharedWire$Reader" "alike" "I", Cond.fieldLink RX3 28 "SharedWire$Reader" "last" "I", Cond.fieldLink RX3 31 "SharedWire$Reader" "check" "I", Cond.fieldLink RX3 34 "SharedWire$Reader" "checkTaken" "I"]
def wsX4_step_r5 : List Cond := [Cond.fieldLink RX3 37 "SharedWire$Reader" "sizePlace" "I", Cond.fieldLink RX3 40 "SharedWire$Reader" "checkPlace" "I", Cond.methodLink RX3 43 yX0_set, Cond.instanceMethod yX0_set, Cond.selects RX0 yX0_set yX0_set, Cond.code yX0_set cX0_set 6 none, Cond.fieldLink RX0 19 "SharedWire$Frame" "data" "J", Cond.fieldLink RX0 23 "SharedWire$Frame" "size" "I", Cond.methodLink RX4 155 yX4_levelSent, Cond.instanceMethod yX4_levelSent, Cond.selects RX4 yX4_levelSent yX4_levelSent, Cond.code yX4_levelSent cX4_levelSent 3 (some .int), Cond.methodLink RX4 174 yX2_bitToSend, Cond.instanceMethod yX2_bitToSend, Cond.selects RX2 yX2_bitToSend yX2_bitToSend, Cond.code yX2_bitToSend cX2_bitToSend 1 (some .int), Cond.methodLink RX2 89 yX1_bitAt, Cond.instanceMethod yX1_bitAt, Cond.selects RX1 yX1_bitAt yX1_bitAt, Cond.code yX1_bitAt cX1_bitAt 2 (some .int), Cond.methodLink RX2 93 yX3_givesAnswer, Cond.instanceMethod yX3_givesAnswer, Cond.selects RX3 yX3_givesAnswer yX3_givesAnswer, Cond.code yX3_givesAnswer cX3_givesAnswer 1 (some .boolean)]
def wsX4_step_r6 : List Cond := [Cond.methodLink RX3 47 yX3_hasWholeFrame, Cond.instanceMethod yX3_hasWholeFrame, Cond.selects RX3 yX3_hasWholeFrame yX3_hasWholeFrame, Cond.code yX3_hasWholeFrame cX3_hasWholeFrame 1 (some .boolean), Cond.methodLink RX4 158 yX4_someFindFaults, Cond.instanceMethod yX4_someFindFaults, Cond.selects RX4 yX4_someFindFaults yX4_someFindFaults, Cond.code yX4_someFindFaults cX4_someFindFaults 5 (some .boolean), Cond.fieldLink RX4 181 "SharedWire$Node" "found" "I", Cond.methodLink RX4 177 yX2_look, Cond.instanceMethod yX2_look, Cond.selects RX2 yX2_look yX2_look, Cond.code yX2_look cX2_look 3 none, Cond.fieldLink RX2 62 "SharedWire$Node" "found" "I", Cond.methodLink RX2 97 yX2_lookAsSender, Cond.instanceMethod yX2_lookAsSender, Cond.selects RX2 yX2_lookAsSender yX2_lookAsSender, Cond.code yX2_lookAsSender cX2_lookAsSender 3 none, Cond.methodLink RX2 116 yX1_isAnswer, Cond.instanceMethod yX1_isAnswer, Cond.selects RX1 yX1_isAnswer yX1_isAnswer, Cond.code yX1_isAnswer cX1_isAnswer 2 (some .boolean), Cond.methodLink RX2 120 yX1_mayLose, Cond.instanceMethod yX1_mayLose]
def wsX4_step_r7 : List Cond := [Cond.selects RX1 yX1_mayLose yX1_mayLose, Cond.code yX1_mayLose cX1_mayLose 2 (some .boolean), Cond.methodLink RX2 101 yX3_take, Cond.instanceMethod yX3_take, Cond.selects RX3 yX3_take yX3_take, Cond.code yX3_take cX3_take 3 (some .int), Cond.methodLink RX3 51 yX3_takeTail, Cond.instanceMethod yX3_takeTail, Cond.selects RX3 yX3_takeTail yX3_takeTail, Cond.code yX3_takeTail cX3_takeTail 2 (some .int), Cond.methodLink RX3 55 yX3_takeFramed, Cond.instanceMethod yX3_takeFramed, Cond.selects RX3 yX3_takeFramed yX3_takeFramed, Cond.code yX3_takeFramed cX3_takeFramed 3 none, Cond.methodLink RX3 63 yX3_takeHead, Cond.instanceMethod yX3_takeHead, Cond.selects RX3 yX3_takeHead yX3_takeHead, Cond.code yX3_takeHead cX3_takeHead 5 none, Cond.fieldLink RX3 73 "SharedWire$Frame" "isLong" "Z", Cond.fieldLink RX3 77 "SharedWire$Frame" "identifier" "I", Cond.methodLink RX3 67 yX3_takeSize, Cond.instanceMethod yX3_takeSize, Cond.selects RX3 yX3_takeSize yX3_takeSize, Cond.code yX3_takeSize cX3_takeSize 3 none]
def wsX4_step_r8 : List Cond := [Cond.fieldLink RX3 80 "SharedWire$Frame" "size" "I", Cond.methodLink RX3 83 Lib.Math.min.name, Cond.static Lib.Math.min.name, Cond.initialized "java/lang/Math", Cond.code Lib.Math.min.name Lib.Math.min.code 2 (some .int), Cond.methodLink RX3 70 yX3_takeData, Cond.instanceMethod yX3_takeData, Cond.selects RX3 yX3_takeData yX3_takeData, Cond.code yX3_takeData cX3_takeData 5 none, Cond.fieldLink RX3 88 "SharedWire$Frame" "data" "J", Cond.methodLink RX4 162 yX4_breakOff, Cond.instanceMethod yX4_breakOff, Cond.selects RX4 yX4_breakOff yX4_breakOff, Cond.code yX4_breakOff cX4_breakOff 2 none, Cond.methodLink RX4 184 yX2_countFault, Cond.instanceMethod yX2_countFault, Cond.selects RX2 yX2_countFault yX2_countFault, Cond.code yX2_countFault cX2_countFault 1 none, Cond.fieldLink RX2 59 "SharedWire$Node" "lastFault" "I", Cond.fieldLink RX2 47 "SharedWire$Node" "sendingCount" "I", Cond.fieldLink RX2 50 "SharedWire$Node" "receivingCount" "I", Cond.methodLink RX4 165 yX4_goOn, Cond.instanceMethod yX4_goOn, Cond.selects RX4 yX4_goOn yX4_goOn]
def wsX4_step_r9 : List Cond := [Cond.code yX4_goOn cX4_goOn 3 none, Cond.fieldLink RX4 75 "SharedWire$Node" "role" "I", Cond.methodLink RX4 187 yX2_endFrame, Cond.instanceMethod yX2_endFrame, Cond.selects RX2 yX2_endFrame yX2_endFrame, Cond.code yX2_endFrame cX2_endFrame 1 none, Cond.fieldLink RX2 104 "SharedWire$Line" "length" "I", Cond.methodLink RX2 107 yX2_endSending, Cond.instanceMethod yX2_endSending, Cond.selects RX2 yX2_endSending yX2_endSending, Cond.code yX2_endSending cX2_endSending 1 none, Cond.fieldLink RX2 53 "SharedWire$Node" "framesSent" "I", Cond.methodLink RX2 123 Lib.Math.max.name, Cond.static Lib.Math.max.name, Cond.code Lib.Math.max.name Lib.Math.max.code 2 (some .int), Cond.methodLink RX2 129 yX2_removeWanted, Cond.instanceMethod yX2_removeWanted, Cond.selects RX2 yX2_removeWanted yX2_removeWanted, Cond.code yX2_removeWanted cX2_removeWanted 4 none, Cond.methodLink RX2 110 yX3_isFinished, Cond.instanceMethod yX3_isFinished, Cond.selects RX3 yX3_isFinished yX3_isFinished, Cond.code yX3_isFinished cX3_isFinished 1 (some .boolean), Cond.methodLink RX2 113 yX2_endReading]
def wsX4_step_r10 : List Cond := [Cond.instanceMethod yX2_endReading, Cond.selects RX2 yX2_endReading yX2_endReading, Cond.code yX2_endReading cX2_endReading 2 none, Cond.fieldLink RX2 56 "SharedWire$Node" "framesReceived" "I", Cond.fieldLink RX2 132 "SharedWire$Reader" "frame" "LSharedWire$Frame;", Cond.fieldLink RX2 18 "SharedWire$Node" "lastReceived" "LSharedWire$Frame;", Cond.fieldLink RX2 135 "SharedWire$Frame" "isLong" "Z", Cond.fieldLink RX2 138 "SharedWire$Frame" "identifier" "I", Cond.fieldLink RX2 141 "SharedWire$Frame" "data" "J", Cond.fieldLink RX2 145 "SharedWire$Frame" "size" "I", Cond.methodLink RX2 71 yX0_set]
def wsX4_step : List Cond := .code yX4_step cX4_step 5 (some .int) :: ((wsX4_step_r1 ++ (wsX4_step_r2 ++ (wsX4_step_r3 ++ (wsX4_step_r4 ++ (wsX4_step_r5 ++ (wsX4_step_r6 ++ (wsX4_step_r7 ++ (wsX4_step_r8 ++ (wsX4_step_r9 ++ wsX4_step_r10))))))))) ++ wsX40 ++ wsX20 ++ wsX00 ++ wsX10 ++ wsX30 ++ (vx_at0 RX4 53 "java/lang/IllegalArgumentException" ["java/lang/RuntimeException", "java/lang/Exception"]).filter goodWord)
def wsX4_join : List Cond := .code yX4_join cX4_join 3 (some .boolean) :: ([.classLink RX4 48 "java/lang/IndexOutOfBoundsException", .initialized "java/lang/IndexOutOfBoundsException", .fieldLink RX4 11 "SharedWire" "nodes" "[LSharedWire$Node;", .fieldLink RX4 68 "SharedWire$Node" "on" "Z", .methodLink RX4 44 yX4_isNode, .static yX4_isNode, .initialized RX4, .code yX4_isNode cX4_isNode 1 (some .boolean), .methodLink RX4 72 yX2_switchOn, .instanceMethod yX2_switchOn, .selects RX2 yX2_switchOn yX2_switchOn, .initialized RX2, .code yX2_switchOn cX2_switchOn 1 none, .fieldLink RX2 36 "SharedWire$Node" "on" "Z", .fieldLink RX2 47 "SharedWire$Node" "sendingCount" "I", .fieldLink RX2 50 "SharedWire$Node" "receivingCount" "I"] ++ wsX40 ++ wsX20 ++ (vx_at0 RX4 50 "java/lang/IndexOutOfBoundsException" ["java/lang/RuntimeException", "java/lang/Exception"]).filter goodWord)
def wsX4_wire : List Cond := .code yX4_wire cX4_wire 1 (some .int) :: ([.fieldLink RX4 15 "SharedWire" "state" "I"] ++ wsX40)
def wsX4_node : List Cond := .code yX4_node cX4_node 4 (some .int) :: ([.classLink RX4 48 "java/lang/IndexOutOfBoundsException", .initialized "java/lang/IndexOutOfBoundsException", .fieldLink RX4 11 "SharedWire" "nodes" "[LSharedWire$Node;", .fieldLink RX4 68 "SharedWire$Node" "on" "Z", .fieldLink RX4 75 "SharedWire$Node" "role" "I", .fieldLink RX4 78 "SharedWire$Node" "sendingCount" "I", .fieldLink RX4 81 "SharedWire$Node" "receivingCount" "I", .fieldLink RX4 54 "SharedWire$Node" "wants" "I", .fieldLink RX4 84 "SharedWire$Node" "framesSent" "I", .fieldLink RX4 87 "SharedWire$Node" "framesReceived" "I", .fieldLink RX4 90 "SharedWire$Node" "lastFault" "I", .methodLink RX4 44 yX4_isNode, .static yX4_isNode, .initialized RX4, .code yX4_isNode cX4_isNode 1 (some .boolean)] ++ wsX40 ++ wsX20 ++ (vx_at0 RX4 50 "java/lang/IndexOutOfBoundsException" ["java/lang/RuntimeException", "java/lang/Exception"]).filter goodWord)
def wsX4_received : List Cond := .code yX4_received cX4_received 5 (some .long) :: ([.classLink RX4 48 "java/lang/IndexOutOfBoundsException", .initialized "java/lang/IndexOutOfBoundsException", .classLink RX4 93 "java/util/NoSuchElementException", .initialized "java/util/NoSuchElementException", .fieldLink RX4 11 "SharedWire" "nodes" "[LSharedWire$Node;", .fieldLink RX4 87 "SharedWire$Node" "framesReceived" "I", .fieldLink RX4 96 "SharedWire$Node" "lastReceived" "LSharedWire$Frame;", .fieldLink RX4 100 "SharedWire$Frame" "identifier" "I", .fieldLink RX4 105 "SharedWire$Frame" "isLong" "Z", .fieldLink RX4 108 "SharedWire$Frame" "size" "I", .fieldLink RX4 111 "SharedWire$Frame" "data" "J", .methodLink RX4 44 yX4_isNode, .static yX4_isNode, .initialized RX4, .code yX4_isNode cX4_isNode 1 (some .boolean)] ++ wsX40 ++ wsX20 ++ wsX00 ++ (vx_at0 RX4 50 "java/lang/IndexOutOfBoundsException" ["java/lang/RuntimeException", "java/lang/Exception"]).filter goodWord ++ (vx_at0 RX4 95 "java/util/NoSuchElementException" ["java/lang/RuntimeException", "java/lang/Exception"]).filter goodWord)
def wsX4_tape_r1 : List Cond := [Cond.classLink RX4 48 "java/lang/IndexOutOfBoundsException", Cond.initialized "java/lang/IndexOutOfBoundsException", Cond.classLink RX4 93 "java/util/NoSuchElementException", Cond.initialized "java/util/NoSuchElementException", Cond.fieldLink RX4 11 "SharedWire" "nodes" "[LSharedWire$Node;", Cond.fieldLink RX4 32 "SharedWire" "tapeLine" "LSharedWire$Line;", Cond.fieldLink RX4 119 "SharedWire$Node" "wanted" "[LSharedWire$Frame;", Cond.fieldLink RX4 127 "SharedWire$Line" "length" "I", Cond.fieldLink RX4 26 "SharedWire" "tapeLength" "I", Cond.fieldLink RX4 22 "SharedWire" "tapeBits" "[I", Cond.methodLink RX4 44 yX4_isNode, Cond.static yX4_isNode, Cond.initialized RX4, Cond.code yX4_isNode cX4_isNode 1 (some .boolean), Cond.methodLink RX4 115 yX2_offered, Cond.instanceMethod yX2_offered, Cond.selects RX2 yX2_offered yX2_offered, Cond.initialized RX2, Cond.code yX2_offered cX2_offered 3 (some .int), Cond.fieldLink RX2 44 "SharedWire$Node" "wants" "I", Cond.fieldLink RX2 11 "SharedWire$Node" "wanted" "[LSharedWire$Frame;", Cond.methodLink RX2 75 yX0_rank, Cond.instanceMethod yX0_rank, Cond.selects RX0 yX0_rank yX0_rank]
def wsX4_tape_r2 : List Cond := [Cond.initialized RX0, Cond.code yX0_rank cX0_rank 2 (some .int), Cond.fieldLink RX0 9 "SharedWire$Frame" "isLong" "Z", Cond.fieldLink RX0 15 "SharedWire$Frame" "identifier" "I", Cond.constant RX0 26 (262143), Cond.constant RX0 27 (262144), Cond.methodLink RX4 123 yX1_write, Cond.instanceMethod yX1_write, Cond.selects RX1 yX1_write yX1_write, Cond.initialized RX1, Cond.code yX1_write cX1_write 3 none, Cond.fieldLink RX1 44 "SharedWire$Frame" "isLong" "Z", Cond.fieldLink RX1 50 "SharedWire$Frame" "identifier" "I", Cond.fieldLink RX1 25 "SharedWire$Line" "framed" "I", Cond.fieldLink RX1 22 "SharedWire$Line" "head" "I", Cond.fieldLink RX1 53 "SharedWire$Frame" "size" "I", Cond.fieldLink RX1 56 "SharedWire$Frame" "data" "J", Cond.constantLong RX1 60 (255), Cond.fieldLink RX1 34 "SharedWire$Line" "check" "I", Cond.methodLink RX1 37 yX1_clear, Cond.instanceMethod yX1_clear, Cond.selects RX1 yX1_clear yX1_clear, Cond.code yX1_clear cX1_clear 1 none, Cond.fieldLink RX1 18 "SharedWire$Line" "length" "I"]
def wsX4_tape_r3 : List Cond := [Cond.fieldLink RX1 28 "SharedWire$Line" "alike" "I", Cond.fieldLink RX1 31 "SharedWire$Line" "last" "I", Cond.methodLink RX1 40 yX1_addNumber, Cond.instanceMethod yX1_addNumber, Cond.selects RX1 yX1_addNumber yX1_addNumber, Cond.code yX1_addNumber cX1_addNumber 5 none, Cond.methodLink RX1 62 yX1_append, Cond.instanceMethod yX1_append, Cond.selects RX1 yX1_append yX1_append, Cond.code yX1_append cX1_append 3 none, Cond.fieldLink RX1 9 "SharedWire$Line" "bits" "[I", Cond.fieldLink RX1 15 "SharedWire$Line" "places" "[I", Cond.static yX4_nextCheck, Cond.code yX4_nextCheck cX4_nextCheck 4 (some .int), Cond.methodLink RX4 130 yX1_bitAt, Cond.instanceMethod yX1_bitAt, Cond.selects RX1 yX1_bitAt yX1_bitAt, Cond.code yX1_bitAt cX1_bitAt 2 (some .int)]
def wsX4_tape : List Cond := .code yX4_tape cX4_tape 5 (some .int) :: ((wsX4_tape_r1 ++ (wsX4_tape_r2 ++ wsX4_tape_r3)) ++ wsX40 ++ wsX20 ++ wsX10 ++ wsX00 ++ (vx_at0 RX4 50 "java/lang/IndexOutOfBoundsException" ["java/lang/RuntimeException", "java/lang/Exception"]).filter goodWord ++ (vx_at0 RX4 95 "java/util/NoSuchElementException" ["java/lang/RuntimeException", "java/lang/Exception"]).filter goodWord)
def wsX4_put : List Cond := .code yX4_put cX4_put 5 (some .boolean) :: ([.fieldLink RX4 26 "SharedWire" "tapeLength" "I", .fieldLink RX4 22 "SharedWire" "tapeBits" "[I"] ++ wsX40)
def wsX4_isOnTape : List Cond := .code yX4_isOnTape cX4_isOnTape 2 (some .boolean) :: ([.fieldLink RX4 26 "SharedWire" "tapeLength" "I"] ++ wsX40)
def wsX4_bit : List Cond := .code yX4_bit cX4_bit 2 (some .int) :: ([.classLink RX4 48 "java/lang/IndexOutOfBoundsException", .initialized "java/lang/IndexOutOfBoundsException", .fieldLink RX4 22 "SharedWire" "tapeBits" "[I", .methodLink RX4 133 yX4_isOnTape, .instanceMethod yX4_isOnTape, .selects RX4 yX4_isOnTape yX4_isOnTape, .initialized RX4, .code yX4_isOnTape cX4_isOnTape 2 (some .boolean), .fieldLink RX4 26 "SharedWire" "tapeLength" "I"] ++ wsX40 ++ (vx_at0 RX4 50 "java/lang/IndexOutOfBoundsException" ["java/lang/RuntimeException", "java/lang/Exception"]).filter goodWord)
def wsX4_flip : List Cond := .code yX4_flip cX4_flip 2 none :: ([.classLink RX4 48 "java/lang/IndexOutOfBoundsException", .initialized "java/lang/IndexOutOfBoundsException", .fieldLink RX4 22 "SharedWire" "tapeBits" "[I", .methodLink RX4 133 yX4_isOnTape, .instanceMethod yX4_isOnTape, .selects RX4 yX4_isOnTape yX4_isOnTape, .initialized RX4, .code yX4_isOnTape cX4_isOnTape 2 (some .boolean), .fieldLink RX4 26 "SharedWire" "tapeLength" "I"] ++ wsX40 ++ (vx_at0 RX4 50 "java/lang/IndexOutOfBoundsException" ["java/lang/RuntimeException", "java/lang/Exception"]).filter goodWord)
def wsX4_wipe : List Cond := .code yX4_wipe cX4_wipe 2 (some .int) :: ([.fieldLink RX4 26 "SharedWire" "tapeLength" "I"] ++ wsX40)
def wsX4_read_r1 : List Cond := [Cond.fieldLink RX4 39 "SharedWire" "tapeReader" "LSharedWire$Reader;", Cond.fieldLink RX4 26 "SharedWire" "tapeLength" "I", Cond.fieldLink RX4 22 "SharedWire" "tapeBits" "[I", Cond.methodLink RX4 136 yX3_begin, Cond.instanceMethod yX3_begin, Cond.selects RX3 yX3_begin yX3_begin, Cond.initialized RX3, Cond.code yX3_begin cX3_begin 1 none, Cond.fieldLink RX3 12 "SharedWire$Reader" "frame" "LSharedWire$Frame;", Cond.fieldLink RX3 18 "SharedWire$Reader" "taken" "I", Cond.fieldLink RX3 22 "SharedWire$Reader" "tail" "I", Cond.fieldLink RX3 25 "SharedWire$Reader" "alike" "I", Cond.fieldLink RX3 28 "SharedWire$Reader" "last" "I", Cond.fieldLink RX3 31 "SharedWire$Reader" "check" "I", Cond.fieldLink RX3 34 "SharedWire$Reader" "checkTaken" "I", Cond.fieldLink RX3 37 "SharedWire$Reader" "sizePlace" "I", Cond.fieldLink RX3 40 "SharedWire$Reader" "checkPlace" "I", Cond.methodLink RX3 43 yX0_set, Cond.instanceMethod yX0_set, Cond.selects RX0 yX0_set yX0_set, Cond.initialized RX0, Cond.code yX0_set cX0_set 6 none, Cond.fieldLink RX0 9 "SharedWire$Frame" "isLong" "Z", Cond.fieldLink RX0 15 "SharedWire$Frame" "identifier" "I"]
def wsX4_read_r2 : List Cond := [Cond.fieldLink RX0 19 "SharedWire$Frame" "data" "J", Cond.fieldLink RX0 23 "SharedWire$Frame" "size" "I", Cond.methodLink RX4 139 yX3_isFinished, Cond.instanceMethod yX3_isFinished, Cond.selects RX3 yX3_isFinished yX3_isFinished, Cond.code yX3_isFinished cX3_isFinished 1 (some .boolean), Cond.methodLink RX4 143 yX3_take, Cond.instanceMethod yX3_take, Cond.selects RX3 yX3_take yX3_take, Cond.code yX3_take cX3_take 3 (some .int), Cond.methodLink RX3 47 yX3_hasWholeFrame, Cond.instanceMethod yX3_hasWholeFrame, Cond.selects RX3 yX3_hasWholeFrame yX3_hasWholeFrame, Cond.code yX3_hasWholeFrame cX3_hasWholeFrame 1 (some .boolean), Cond.methodLink RX3 51 yX3_takeTail, Cond.instanceMethod yX3_takeTail, Cond.selects RX3 yX3_takeTail yX3_takeTail, Cond.code yX3_takeTail cX3_takeTail 2 (some .int), Cond.methodLink RX3 55 yX3_takeFramed, Cond.instanceMethod yX3_takeFramed, Cond.selects RX3 yX3_takeFramed yX3_takeFramed, Cond.code yX3_takeFramed cX3_takeFramed 3 none, Cond.static yX4_nextCheck, Cond.initialized RX4]
def wsX4_read_r3 : List Cond := [Cond.code yX4_nextCheck cX4_nextCheck 4 (some .int), Cond.methodLink RX3 63 yX3_takeHead, Cond.instanceMethod yX3_takeHead, Cond.selects RX3 yX3_takeHead yX3_takeHead, Cond.code yX3_takeHead cX3_takeHead 5 none, Cond.fieldLink RX3 73 "SharedWire$Frame" "isLong" "Z", Cond.fieldLink RX3 77 "SharedWire$Frame" "identifier" "I", Cond.methodLink RX3 67 yX3_takeSize, Cond.instanceMethod yX3_takeSize, Cond.selects RX3 yX3_takeSize yX3_takeSize, Cond.code yX3_takeSize cX3_takeSize 3 none, Cond.fieldLink RX3 80 "SharedWire$Frame" "size" "I", Cond.methodLink RX3 83 Lib.Math.min.name, Cond.static Lib.Math.min.name, Cond.initialized "java/lang/Math", Cond.code Lib.Math.min.name Lib.Math.min.code 2 (some .int), Cond.methodLink RX3 70 yX3_takeData, Cond.instanceMethod yX3_takeData, Cond.selects RX3 yX3_takeData yX3_takeData, Cond.code yX3_takeData cX3_takeData 5 none, Cond.fieldLink RX3 88 "SharedWire$Frame" "data" "J"]
def wsX4_read : List Cond := .code yX4_read cX4_read 3 (some .int) :: ((wsX4_read_r1 ++ (wsX4_read_r2 ++ wsX4_read_r3)) ++ wsX40 ++ wsX30 ++ wsX00)
def wsX5_init_r1 : List Cond := [Cond.methodLink RX5 1 objectInit, Cond.instanceMethod objectInit, Cond.code objectInit ⟨#[0xb1]⟩ 1 none, Cond.arrayClass .int, Cond.fieldLink RX5 9 "SharedWireModel" "state" "[I", Cond.fieldLink RX5 13 "SharedWireModel" "sending" "[I", Cond.fieldLink RX5 16 "SharedWireModel" "receiving" "[I", Cond.fieldLink RX5 19 "SharedWireModel" "sent" "[I", Cond.fieldLink RX5 22 "SharedWireModel" "gotten" "[I", Cond.fieldLink RX5 25 "SharedWireModel" "lastFault" "[I", Cond.fieldLink RX5 28 "SharedWireModel" "wants" "[I", Cond.arrayClass .boolean, Cond.fieldLink RX5 31 "SharedWireModel" "longs" "[Z", Cond.fieldLink RX5 35 "SharedWireModel" "identifiers" "[I", Cond.arrayClass .long, Cond.fieldLink RX5 38 "SharedWireModel" "data" "[J", Cond.fieldLink RX5 42 "SharedWireModel" "bytes" "[I", Cond.fieldLink RX5 45 "SharedWireModel" "hasLong" "[Z", Cond.fieldLink RX5 48 "SharedWireModel" "hasIdentifier" "[I", Cond.fieldLink RX5 51 "SharedWireModel" "hasData" "[J", Cond.fieldLink RX5 54 "SharedWireModel" "hasBytes" "[I", Cond.fieldLink RX5 57 "SharedWireModel" "wireBits" "[I", Cond.fieldLink RX5 60 "SharedWireModel" "places" "[I", Cond.fieldLink RX5 63 "SharedWireModel" "wireSize" "[I"]
def wsX5_init_r2 : List Cond := [Cond.fieldLink RX5 66 "SharedWireModel" "at" "[I", Cond.fieldLink RX5 69 "SharedWireModel" "mine" "[I", Cond.fieldLink RX5 72 "SharedWireModel" "numbers" "[I", Cond.fieldLink RX5 75 "SharedWireModel" "bits" "[I", Cond.fieldLink RX5 78 "SharedWireModel" "count" "[I", Cond.fieldLink RX5 81 "SharedWireModel" "run" "[I", Cond.fieldLink RX5 84 "SharedWireModel" "last" "[I", Cond.fieldLink RX5 87 "SharedWireModel" "need" "[I", Cond.fieldLink RX5 90 "SharedWireModel" "tail" "[I", Cond.fieldLink RX5 93 "SharedWireModel" "tape" "[I", Cond.fieldLink RX5 96 "SharedWireModel" "frame" "[I"]
def wsX5_init : List Cond := .code yX5_init cX5_init 1 none :: ((wsX5_init_r1 ++ wsX5_init_r2) ++ wsX50)
def wsX5_thrown : List Cond := .code yX5_thrown cX5_thrown 1 (some .int) :: ([.fieldLink RX5 99 "SharedWireModel" "thrown" "I"] ++ wsX50)
def wsX5_isNode : List Cond := .code yX5_isNode cX5_isNode 1 (some .boolean) :: ([])
def wsX5_say : List Cond := .code yX5_say cX5_say 4 none :: ([.fieldLink RX5 96 "SharedWireModel" "frame" "[I", .fieldLink RX5 103 "SharedWireModel" "frameSize" "I"] ++ wsX50)
def wsX5_nextCheck : List Cond := .code yX5_nextCheck cX5_nextCheck 4 (some .int) :: ([])
def wsX5_lay : List Cond := .code yX5_lay cX5_lay 5 (some .int) :: ([.fieldLink RX5 57 "SharedWireModel" "wireBits" "[I", .fieldLink RX5 60 "SharedWireModel" "places" "[I"] ++ wsX50)
def wsX5_make : List Cond := .code yX5_make cX5_make 8 none :: ([.fieldLink RX5 103 "SharedWireModel" "frameSize" "I", .fieldLink RX5 31 "SharedWireModel" "longs" "[Z", .fieldLink RX5 35 "SharedWireModel" "identifiers" "[I", .fieldLink RX5 42 "SharedWireModel" "bytes" "[I", .fieldLink RX5 38 "SharedWireModel" "data" "[J", .constantLong RX5 110 (255), .fieldLink RX5 96 "SharedWireModel" "frame" "[I", .fieldLink RX5 63 "SharedWireModel" "wireSize" "[I", .methodLink RX5 106 yX5_say, .instanceMethod yX5_say, .selects RX5 yX5_say yX5_say, .initialized RX5, .code yX5_say cX5_say 4 none, .methodLink RX5 112 yX5_nextCheck, .static yX5_nextCheck, .code yX5_nextCheck cX5_nextCheck 4 (some .int), .methodLink RX5 116 yX5_lay, .instanceMethod yX5_lay, .selects RX5 yX5_lay yX5_lay, .code yX5_lay cX5_lay 5 (some .int), .fieldLink RX5 57 "SharedWireModel" "wireBits" "[I", .fieldLink RX5 60 "SharedWireModel" "places" "[I"] ++ wsX50)
def wsX5_begin : List Cond := .code yX5_begin cX5_begin 2 none :: ([.fieldLink RX5 78 "SharedWireModel" "count" "[I", .fieldLink RX5 81 "SharedWireModel" "run" "[I", .fieldLink RX5 84 "SharedWireModel" "last" "[I", .fieldLink RX5 87 "SharedWireModel" "need" "[I", .fieldLink RX5 90 "SharedWireModel" "tail" "[I"] ++ wsX50)
def wsX5_isLong : List Cond := .code yX5_isLong cX5_isLong 2 (some .boolean) :: ([.fieldLink RX5 75 "SharedWireModel" "bits" "[I"] ++ wsX50)
def wsX5_number : List Cond := .code yX5_number cX5_number 6 (some .int) :: ([.fieldLink RX5 75 "SharedWireModel" "bits" "[I"] ++ wsX50)
def wsX5_bytesOf : List Cond := .code yX5_bytesOf cX5_bytesOf 3 (some .int) :: ([.methodLink RX5 120 yX5_isLong, .instanceMethod yX5_isLong, .selects RX5 yX5_isLong yX5_isLong, .initialized RX5, .code yX5_isLong cX5_isLong 2 (some .boolean), .fieldLink RX5 75 "SharedWireModel" "bits" "[I", .methodLink RX5 124 yX5_number, .instanceMethod yX5_number, .selects RX5 yX5_number yX5_number, .code yX5_number cX5_number 6 (some .int)] ++ wsX50)
def wsX5_isRight : List Cond := .code yX5_isRight cX5_isRight 4 (some .boolean) :: ([.fieldLink RX5 87 "SharedWireModel" "need" "[I", .fieldLink RX5 75 "SharedWireModel" "bits" "[I", .methodLink RX5 112 yX5_nextCheck, .static yX5_nextCheck, .initialized RX5, .code yX5_nextCheck cX5_nextCheck 4 (some .int), .methodLink RX5 124 yX5_number, .instanceMethod yX5_number, .selects RX5 yX5_number yX5_number, .code yX5_number cX5_number 6 (some .int)] ++ wsX50)
def wsX5_takeTail : List Cond := .code yX5_takeTail cX5_takeTail 4 (some .int) :: ([.fieldLink RX5 90 "SharedWireModel" "tail" "[I", .methodLink RX5 128 yX5_isRight, .instanceMethod yX5_isRight, .selects RX5 yX5_isRight yX5_isRight, .initialized RX5, .code yX5_isRight cX5_isRight 4 (some .boolean), .fieldLink RX5 87 "SharedWireModel" "need" "[I", .fieldLink RX5 75 "SharedWireModel" "bits" "[I", .methodLink RX5 112 yX5_nextCheck, .static yX5_nextCheck, .code yX5_nextCheck cX5_nextCheck 4 (some .int), .methodLink RX5 124 yX5_number, .instanceMethod yX5_number, .selects RX5 yX5_number yX5_number, .code yX5_number cX5_number 6 (some .int)] ++ wsX50)
def wsX5_take_r1 : List Cond := [Cond.fieldLink RX5 78 "SharedWireModel" "count" "[I", Cond.fieldLink RX5 87 "SharedWireModel" "need" "[I", Cond.fieldLink RX5 81 "SharedWireModel" "run" "[I", Cond.fieldLink RX5 84 "SharedWireModel" "last" "[I", Cond.fieldLink RX5 75 "SharedWireModel" "bits" "[I", Cond.methodLink RX5 131 yX5_takeTail, Cond.instanceMethod yX5_takeTail, Cond.selects RX5 yX5_takeTail yX5_takeTail, Cond.initialized RX5, Cond.code yX5_takeTail cX5_takeTail 4 (some .int), Cond.fieldLink RX5 90 "SharedWireModel" "tail" "[I", Cond.methodLink RX5 128 yX5_isRight, Cond.instanceMethod yX5_isRight, Cond.selects RX5 yX5_isRight yX5_isRight, Cond.code yX5_isRight cX5_isRight 4 (some .boolean), Cond.methodLink RX5 112 yX5_nextCheck, Cond.static yX5_nextCheck, Cond.code yX5_nextCheck cX5_nextCheck 4 (some .int), Cond.methodLink RX5 124 yX5_number, Cond.instanceMethod yX5_number, Cond.selects RX5 yX5_number yX5_number, Cond.code yX5_number cX5_number 6 (some .int), Cond.methodLink RX5 120 yX5_isLong, Cond.instanceMethod yX5_isLong]
def wsX5_take_r2 : List Cond := [Cond.selects RX5 yX5_isLong yX5_isLong, Cond.code yX5_isLong cX5_isLong 2 (some .boolean), Cond.methodLink RX5 134 yX5_bytesOf, Cond.instanceMethod yX5_bytesOf, Cond.selects RX5 yX5_bytesOf yX5_bytesOf, Cond.code yX5_bytesOf cX5_bytesOf 3 (some .int)]
def wsX5_take : List Cond := .code yX5_take cX5_take 3 (some .int) :: ((wsX5_take_r1 ++ wsX5_take_r2) ++ wsX50)
def wsX5_answers : List Cond := .code yX5_answers cX5_answers 2 (some .boolean) :: ([.fieldLink RX5 78 "SharedWireModel" "count" "[I", .fieldLink RX5 87 "SharedWireModel" "need" "[I", .fieldLink RX5 90 "SharedWireModel" "tail" "[I", .methodLink RX5 128 yX5_isRight, .instanceMethod yX5_isRight, .selects RX5 yX5_isRight yX5_isRight, .initialized RX5, .code yX5_isRight cX5_isRight 4 (some .boolean), .fieldLink RX5 75 "SharedWireModel" "bits" "[I", .methodLink RX5 112 yX5_nextCheck, .static yX5_nextCheck, .code yX5_nextCheck cX5_nextCheck 4 (some .int), .methodLink RX5 124 yX5_number, .instanceMethod yX5_number, .selects RX5 yX5_number yX5_number, .code yX5_number cX5_number 6 (some .int)] ++ wsX50)
def wsX5_key : List Cond := .code yX5_key cX5_key 2 (some .int) :: ([])
def wsX5_comesFirst : List Cond := .code yX5_comesFirst cX5_comesFirst 5 (some .boolean) :: ([.fieldLink RX5 31 "SharedWireModel" "longs" "[Z", .fieldLink RX5 35 "SharedWireModel" "identifiers" "[I", .methodLink RX5 138 yX5_key, .static yX5_key, .initialized RX5, .code yX5_key cX5_key 2 (some .int)] ++ wsX50)
def wsX5_offer : List Cond := .code yX5_offer cX5_offer 4 (some .int) :: ([.fieldLink RX5 28 "SharedWireModel" "wants" "[I", .methodLink RX5 142 yX5_comesFirst, .instanceMethod yX5_comesFirst, .selects RX5 yX5_comesFirst yX5_comesFirst, .initialized RX5, .code yX5_comesFirst cX5_comesFirst 5 (some .boolean), .fieldLink RX5 31 "SharedWireModel" "longs" "[Z", .fieldLink RX5 35 "SharedWireModel" "identifiers" "[I", .methodLink RX5 138 yX5_key, .static yX5_key, .code yX5_key cX5_key 2 (some .int)] ++ wsX50)
def wsX5_want : List Cond := .code yX5_want cX5_want 9 (some .int) :: ([.constant RX5 146 (536870912), .fieldLink RX5 28 "SharedWireModel" "wants" "[I", .fieldLink RX5 99 "SharedWireModel" "thrown" "I", .fieldLink RX5 31 "SharedWireModel" "longs" "[Z", .fieldLink RX5 35 "SharedWireModel" "identifiers" "[I", .fieldLink RX5 38 "SharedWireModel" "data" "[J", .fieldLink RX5 42 "SharedWireModel" "bytes" "[I", .fieldLink RX5 72 "SharedWireModel" "numbers" "[I", .fieldLink RX5 150 "SharedWireModel" "given" "I", .methodLink RX5 147 yX5_isNode, .static yX5_isNode, .initialized RX5, .code yX5_isNode cX5_isNode 1 (some .boolean)] ++ wsX50)
def wsX5_sentOne : List Cond := .code yX5_sentOne cX5_sentOne 3 (some .int) :: ([.fieldLink RX5 72 "SharedWireModel" "numbers" "[I", .fieldLink RX5 69 "SharedWireModel" "mine" "[I"] ++ wsX50)
def wsX5_forget : List Cond := .code yX5_forget cX5_forget 4 none :: ([.fieldLink RX5 28 "SharedWireModel" "wants" "[I", .fieldLink RX5 31 "SharedWireModel" "longs" "[Z", .fieldLink RX5 35 "SharedWireModel" "identifiers" "[I", .fieldLink RX5 38 "SharedWireModel" "data" "[J", .fieldLink RX5 42 "SharedWireModel" "bytes" "[I", .fieldLink RX5 72 "SharedWireModel" "numbers" "[I", .methodLink RX5 153 yX5_sentOne, .instanceMethod yX5_sentOne, .selects RX5 yX5_sentOne yX5_sentOne, .initialized RX5, .code yX5_sentOne cX5_sentOne 3 (some .int), .fieldLink RX5 69 "SharedWireModel" "mine" "[I"] ++ wsX50)
def wsX5_sends : List Cond := .code yX5_sends cX5_sends 2 (some .int) :: ([.fieldLink RX5 9 "SharedWireModel" "state" "[I", .fieldLink RX5 57 "SharedWireModel" "wireBits" "[I", .fieldLink RX5 66 "SharedWireModel" "at" "[I", .methodLink RX5 156 yX5_answers, .instanceMethod yX5_answers, .selects RX5 yX5_answers yX5_answers, .initialized RX5, .code yX5_answers cX5_answers 2 (some .boolean), .fieldLink RX5 78 "SharedWireModel" "count" "[I", .fieldLink RX5 87 "SharedWireModel" "need" "[I", .fieldLink RX5 90 "SharedWireModel" "tail" "[I", .methodLink RX5 128 yX5_isRight, .instanceMethod yX5_isRight, .selects RX5 yX5_isRight yX5_isRight, .code yX5_isRight cX5_isRight 4 (some .boolean), .fieldLink RX5 75 "SharedWireModel" "bits" "[I", .methodLink RX5 112 yX5_nextCheck, .static yX5_nextCheck, .code yX5_nextCheck cX5_nextCheck 4 (some .int), .methodLink RX5 124 yX5_number, .instanceMethod yX5_number, .selects RX5 yX5_number yX5_number, .code yX5_number cX5_number 6 (some .int)] ++ wsX50)
def wsX5_offerAll_r1 : List Cond := [Cond.fieldLink RX5 9 "SharedWireModel" "state" "[I", Cond.fieldLink RX5 69 "SharedWireModel" "mine" "[I", Cond.fieldLink RX5 72 "SharedWireModel" "numbers" "[I", Cond.fieldLink RX5 66 "SharedWireModel" "at" "[I", Cond.methodLink RX5 159 yX5_offer, Cond.instanceMethod yX5_offer, Cond.selects RX5 yX5_offer yX5_offer, Cond.initialized RX5, Cond.code yX5_offer cX5_offer 4 (some .int), Cond.fieldLink RX5 28 "SharedWireModel" "wants" "[I", Cond.methodLink RX5 142 yX5_comesFirst, Cond.instanceMethod yX5_comesFirst, Cond.selects RX5 yX5_comesFirst yX5_comesFirst, Cond.code yX5_comesFirst cX5_comesFirst 5 (some .boolean), Cond.fieldLink RX5 31 "SharedWireModel" "longs" "[Z", Cond.fieldLink RX5 35 "SharedWireModel" "identifiers" "[I", Cond.methodLink RX5 138 yX5_key, Cond.static yX5_key, Cond.code yX5_key cX5_key 2 (some .int), Cond.methodLink RX5 162 yX5_make, Cond.instanceMethod yX5_make, Cond.selects RX5 yX5_make yX5_make, Cond.code yX5_make cX5_make 8 none, Cond.fieldLink RX5 103 "SharedWireModel" "frameSize" "I"]
def wsX5_offerAll_r2 : List Cond := [Cond.fieldLink RX5 42 "SharedWireModel" "bytes" "[I", Cond.fieldLink RX5 38 "SharedWireModel" "data" "[J", Cond.constantLong RX5 110 (255), Cond.fieldLink RX5 96 "SharedWireModel" "frame" "[I", Cond.fieldLink RX5 63 "SharedWireModel" "wireSize" "[I", Cond.methodLink RX5 106 yX5_say, Cond.instanceMethod yX5_say, Cond.selects RX5 yX5_say yX5_say, Cond.code yX5_say cX5_say 4 none, Cond.methodLink RX5 112 yX5_nextCheck, Cond.static yX5_nextCheck, Cond.code yX5_nextCheck cX5_nextCheck 4 (some .int), Cond.methodLink RX5 116 yX5_lay, Cond.instanceMethod yX5_lay, Cond.selects RX5 yX5_lay yX5_lay, Cond.code yX5_lay cX5_lay 5 (some .int), Cond.fieldLink RX5 57 "SharedWireModel" "wireBits" "[I", Cond.fieldLink RX5 60 "SharedWireModel" "places" "[I", Cond.methodLink RX5 165 yX5_begin, Cond.instanceMethod yX5_begin, Cond.selects RX5 yX5_begin yX5_begin, Cond.code yX5_begin cX5_begin 2 none, Cond.fieldLink RX5 78 "SharedWireModel" "count" "[I", Cond.fieldLink RX5 81 "SharedWireModel" "run" "[I"]
def wsX5_offerAll_r3 : List Cond := [Cond.fieldLink RX5 84 "SharedWireModel" "last" "[I", Cond.fieldLink RX5 87 "SharedWireModel" "need" "[I", Cond.fieldLink RX5 90 "SharedWireModel" "tail" "[I"]
def wsX5_offerAll : List Cond := .code yX5_offerAll cX5_offerAll 3 none :: ((wsX5_offerAll_r1 ++ (wsX5_offerAll_r2 ++ wsX5_offerAll_r3)) ++ wsX50)
def wsX5_saw_r1 : List Cond := [Cond.fieldLink RX5 60 "SharedWireModel" "places" "[I", Cond.fieldLink RX5 66 "SharedWireModel" "at" "[I", Cond.fieldLink RX5 57 "SharedWireModel" "wireBits" "[I", Cond.fieldLink RX5 31 "SharedWireModel" "longs" "[Z", Cond.fieldLink RX5 9 "SharedWireModel" "state" "[I", Cond.methodLink RX5 169 yX5_take, Cond.instanceMethod yX5_take, Cond.selects RX5 yX5_take yX5_take, Cond.initialized RX5, Cond.code yX5_take cX5_take 3 (some .int), Cond.fieldLink RX5 78 "SharedWireModel" "count" "[I", Cond.fieldLink RX5 87 "SharedWireModel" "need" "[I", Cond.fieldLink RX5 81 "SharedWireModel" "run" "[I", Cond.fieldLink RX5 84 "SharedWireModel" "last" "[I", Cond.fieldLink RX5 75 "SharedWireModel" "bits" "[I", Cond.methodLink RX5 131 yX5_takeTail, Cond.instanceMethod yX5_takeTail, Cond.selects RX5 yX5_takeTail yX5_takeTail, Cond.code yX5_takeTail cX5_takeTail 4 (some .int), Cond.fieldLink RX5 90 "SharedWireModel" "tail" "[I", Cond.methodLink RX5 128 yX5_isRight, Cond.instanceMethod yX5_isRight, Cond.selects RX5 yX5_isRight yX5_isRight, Cond.code yX5_isRight cX5_isRight 4 (some .boolean)]
def wsX5_saw_r2 : List Cond := [Cond.methodLink RX5 112 yX5_nextCheck, Cond.static yX5_nextCheck, Cond.code yX5_nextCheck cX5_nextCheck 4 (some .int), Cond.methodLink RX5 124 yX5_number, Cond.instanceMethod yX5_number, Cond.selects RX5 yX5_number yX5_number, Cond.code yX5_number cX5_number 6 (some .int), Cond.methodLink RX5 120 yX5_isLong, Cond.instanceMethod yX5_isLong, Cond.selects RX5 yX5_isLong yX5_isLong, Cond.code yX5_isLong cX5_isLong 2 (some .boolean), Cond.methodLink RX5 134 yX5_bytesOf, Cond.instanceMethod yX5_bytesOf, Cond.selects RX5 yX5_bytesOf yX5_bytesOf, Cond.code yX5_bytesOf cX5_bytesOf 3 (some .int), Cond.methodLink RX5 153 yX5_sentOne, Cond.instanceMethod yX5_sentOne, Cond.selects RX5 yX5_sentOne yX5_sentOne, Cond.code yX5_sentOne cX5_sentOne 3 (some .int), Cond.fieldLink RX5 72 "SharedWireModel" "numbers" "[I", Cond.fieldLink RX5 69 "SharedWireModel" "mine" "[I"]
def wsX5_saw : List Cond := .code yX5_saw cX5_saw 6 (some .int) :: ((wsX5_saw_r1 ++ wsX5_saw_r2) ++ wsX50)
def wsX5_idle_r1 : List Cond := [Cond.fieldLink RX5 9 "SharedWireModel" "state" "[I", Cond.methodLink RX5 165 yX5_begin, Cond.instanceMethod yX5_begin, Cond.selects RX5 yX5_begin yX5_begin, Cond.initialized RX5, Cond.code yX5_begin cX5_begin 2 none, Cond.fieldLink RX5 78 "SharedWireModel" "count" "[I", Cond.fieldLink RX5 81 "SharedWireModel" "run" "[I", Cond.fieldLink RX5 84 "SharedWireModel" "last" "[I", Cond.fieldLink RX5 87 "SharedWireModel" "need" "[I", Cond.fieldLink RX5 90 "SharedWireModel" "tail" "[I", Cond.methodLink RX5 169 yX5_take, Cond.instanceMethod yX5_take, Cond.selects RX5 yX5_take yX5_take, Cond.code yX5_take cX5_take 3 (some .int), Cond.fieldLink RX5 75 "SharedWireModel" "bits" "[I", Cond.methodLink RX5 131 yX5_takeTail, Cond.instanceMethod yX5_takeTail, Cond.selects RX5 yX5_takeTail yX5_takeTail, Cond.code yX5_takeTail cX5_takeTail 4 (some .int), Cond.methodLink RX5 128 yX5_isRight, Cond.instanceMethod yX5_isRight, Cond.selects RX5 yX5_isRight yX5_isRight, Cond.code yX5_isRight cX5_isRight 4 (some .boolean)]
def wsX5_idle_r2 : List Cond := [Cond.methodLink RX5 112 yX5_nextCheck, Cond.static yX5_nextCheck, Cond.code yX5_nextCheck cX5_nextCheck 4 (some .int), Cond.methodLink RX5 124 yX5_number, Cond.instanceMethod yX5_number, Cond.selects RX5 yX5_number yX5_number, Cond.code yX5_number cX5_number 6 (some .int), Cond.methodLink RX5 120 yX5_isLong, Cond.instanceMethod yX5_isLong, Cond.selects RX5 yX5_isLong yX5_isLong, Cond.code yX5_isLong cX5_isLong 2 (some .boolean), Cond.methodLink RX5 134 yX5_bytesOf, Cond.instanceMethod yX5_bytesOf, Cond.selects RX5 yX5_bytesOf yX5_bytesOf, Cond.code yX5_bytesOf cX5_bytesOf 3 (some .int)]
def wsX5_idle : List Cond := .code yX5_idle cX5_idle 3 (some .int) :: ((wsX5_idle_r1 ++ wsX5_idle_r2) ++ wsX50)
def wsX5_sees_r1 : List Cond := [Cond.fieldLink RX5 9 "SharedWireModel" "state" "[I", Cond.methodLink RX5 172 yX5_saw, Cond.instanceMethod yX5_saw, Cond.selects RX5 yX5_saw yX5_saw, Cond.initialized RX5, Cond.code yX5_saw cX5_saw 6 (some .int), Cond.fieldLink RX5 60 "SharedWireModel" "places" "[I", Cond.fieldLink RX5 66 "SharedWireModel" "at" "[I", Cond.fieldLink RX5 57 "SharedWireModel" "wireBits" "[I", Cond.fieldLink RX5 31 "SharedWireModel" "longs" "[Z", Cond.methodLink RX5 169 yX5_take, Cond.instanceMethod yX5_take, Cond.selects RX5 yX5_take yX5_take, Cond.code yX5_take cX5_take 3 (some .int), Cond.fieldLink RX5 78 "SharedWireModel" "count" "[I", Cond.fieldLink RX5 87 "SharedWireModel" "need" "[I", Cond.fieldLink RX5 81 "SharedWireModel" "run" "[I", Cond.fieldLink RX5 84 "SharedWireModel" "last" "[I", Cond.fieldLink RX5 75 "SharedWireModel" "bits" "[I", Cond.methodLink RX5 131 yX5_takeTail, Cond.instanceMethod yX5_takeTail, Cond.selects RX5 yX5_takeTail yX5_takeTail, Cond.code yX5_takeTail cX5_takeTail 4 (some .int), Cond.fieldLink RX5 90 "SharedWireModel" "tail" "[I"]
def wsX5_sees_r2 : List Cond := [Cond.methodLink RX5 128 yX5_isRight, Cond.instanceMethod yX5_isRight, Cond.selects RX5 yX5_isRight yX5_isRight, Cond.code yX5_isRight cX5_isRight 4 (some .boolean), Cond.methodLink RX5 112 yX5_nextCheck, Cond.static yX5_nextCheck, Cond.code yX5_nextCheck cX5_nextCheck 4 (some .int), Cond.methodLink RX5 124 yX5_number, Cond.instanceMethod yX5_number, Cond.selects RX5 yX5_number yX5_number, Cond.code yX5_number cX5_number 6 (some .int), Cond.methodLink RX5 120 yX5_isLong, Cond.instanceMethod yX5_isLong, Cond.selects RX5 yX5_isLong yX5_isLong, Cond.code yX5_isLong cX5_isLong 2 (some .boolean), Cond.methodLink RX5 134 yX5_bytesOf, Cond.instanceMethod yX5_bytesOf, Cond.selects RX5 yX5_bytesOf yX5_bytesOf, Cond.code yX5_bytesOf cX5_bytesOf 3 (some .int), Cond.methodLink RX5 153 yX5_sentOne, Cond.instanceMethod yX5_sentOne, Cond.selects RX5 yX5_sentOne yX5_sentOne, Cond.code yX5_sentOne cX5_sentOne 3 (some .int), Cond.fieldLink RX5 72 "SharedWireModel" "numbers" "[I"]
def wsX5_sees_r3 : List Cond := [Cond.fieldLink RX5 69 "SharedWireModel" "mine" "[I", Cond.methodLink RX5 175 yX5_idle, Cond.instanceMethod yX5_idle, Cond.selects RX5 yX5_idle yX5_idle, Cond.code yX5_idle cX5_idle 3 (some .int), Cond.methodLink RX5 165 yX5_begin, Cond.instanceMethod yX5_begin, Cond.selects RX5 yX5_begin yX5_begin, Cond.code yX5_begin cX5_begin 2 none]
def wsX5_sees : List Cond := .code yX5_sees cX5_sees 3 (some .int) :: ((wsX5_sees_r1 ++ (wsX5_sees_r2 ++ wsX5_sees_r3)) ++ wsX50)
def wsX5_breakOff : List Cond := .code yX5_breakOff cX5_breakOff 3 none :: ([.fieldLink RX5 9 "SharedWireModel" "state" "[I", .fieldLink RX5 13 "SharedWireModel" "sending" "[I", .fieldLink RX5 16 "SharedWireModel" "receiving" "[I", .fieldLink RX5 178 "SharedWireModel" "wire" "I", .fieldLink RX5 181 "SharedWireModel" "left" "I"] ++ wsX50)
def wsX5_keep : List Cond := .code yX5_keep cX5_keep 6 none :: ([.fieldLink RX5 45 "SharedWireModel" "hasLong" "[Z", .fieldLink RX5 48 "SharedWireModel" "hasIdentifier" "[I", .fieldLink RX5 54 "SharedWireModel" "hasBytes" "[I", .fieldLink RX5 51 "SharedWireModel" "hasData" "[J", .fieldLink RX5 22 "SharedWireModel" "gotten" "[I", .fieldLink RX5 16 "SharedWireModel" "receiving" "[I", .fieldLink RX5 9 "SharedWireModel" "state" "[I", .methodLink RX5 120 yX5_isLong, .instanceMethod yX5_isLong, .selects RX5 yX5_isLong yX5_isLong, .initialized RX5, .code yX5_isLong cX5_isLong 2 (some .boolean), .fieldLink RX5 75 "SharedWireModel" "bits" "[I", .methodLink RX5 124 yX5_number, .instanceMethod yX5_number, .selects RX5 yX5_number yX5_number, .code yX5_number cX5_number 6 (some .int), .methodLink RX5 134 yX5_bytesOf, .instanceMethod yX5_bytesOf, .selects RX5 yX5_bytesOf yX5_bytesOf, .code yX5_bytesOf cX5_bytesOf 3 (some .int)] ++ wsX50)
def wsX5_finish_r1 : List Cond := [Cond.fieldLink RX5 9 "SharedWireModel" "state" "[I", Cond.fieldLink RX5 66 "SharedWireModel" "at" "[I", Cond.fieldLink RX5 63 "SharedWireModel" "wireSize" "[I", Cond.fieldLink RX5 19 "SharedWireModel" "sent" "[I", Cond.fieldLink RX5 13 "SharedWireModel" "sending" "[I", Cond.fieldLink RX5 178 "SharedWireModel" "wire" "I", Cond.fieldLink RX5 181 "SharedWireModel" "left" "I", Cond.methodLink RX5 184 yX5_forget, Cond.instanceMethod yX5_forget, Cond.selects RX5 yX5_forget yX5_forget, Cond.initialized RX5, Cond.code yX5_forget cX5_forget 4 none, Cond.fieldLink RX5 28 "SharedWireModel" "wants" "[I", Cond.fieldLink RX5 31 "SharedWireModel" "longs" "[Z", Cond.fieldLink RX5 35 "SharedWireModel" "identifiers" "[I", Cond.fieldLink RX5 38 "SharedWireModel" "data" "[J", Cond.fieldLink RX5 42 "SharedWireModel" "bytes" "[I", Cond.fieldLink RX5 72 "SharedWireModel" "numbers" "[I", Cond.methodLink RX5 153 yX5_sentOne, Cond.instanceMethod yX5_sentOne, Cond.selects RX5 yX5_sentOne yX5_sentOne, Cond.code yX5_sentOne cX5_sentOne 3 (some .int), Cond.fieldLink RX5 69 "SharedWireModel" "mine" "[I", Cond.methodLink RX5 187 yX5_keep]
def wsX5_finish_r2 : List Cond := [Cond.instanceMethod yX5_keep, Cond.selects RX5 yX5_keep yX5_keep, Cond.code yX5_keep cX5_keep 6 none, Cond.fieldLink RX5 45 "SharedWireModel" "hasLong" "[Z", Cond.fieldLink RX5 48 "SharedWireModel" "hasIdentifier" "[I", Cond.fieldLink RX5 54 "SharedWireModel" "hasBytes" "[I", Cond.fieldLink RX5 51 "SharedWireModel" "hasData" "[J", Cond.fieldLink RX5 22 "SharedWireModel" "gotten" "[I", Cond.fieldLink RX5 16 "SharedWireModel" "receiving" "[I", Cond.methodLink RX5 120 yX5_isLong, Cond.instanceMethod yX5_isLong, Cond.selects RX5 yX5_isLong yX5_isLong, Cond.code yX5_isLong cX5_isLong 2 (some .boolean), Cond.fieldLink RX5 75 "SharedWireModel" "bits" "[I", Cond.methodLink RX5 124 yX5_number, Cond.instanceMethod yX5_number, Cond.selects RX5 yX5_number yX5_number, Cond.code yX5_number cX5_number 6 (some .int), Cond.methodLink RX5 134 yX5_bytesOf, Cond.instanceMethod yX5_bytesOf, Cond.selects RX5 yX5_bytesOf yX5_bytesOf, Cond.code yX5_bytesOf cX5_bytesOf 3 (some .int)]
def wsX5_finish : List Cond := .code yX5_finish cX5_finish 4 none :: ((wsX5_finish_r1 ++ wsX5_finish_r2) ++ wsX50)
def wsX5_liveStep_r1 : List Cond := [Cond.fieldLink RX5 178 "SharedWireModel" "wire" "I", Cond.fieldLink RX5 9 "SharedWireModel" "state" "[I", Cond.fieldLink RX5 25 "SharedWireModel" "lastFault" "[I", Cond.methodLink RX5 190 yX5_offerAll, Cond.instanceMethod yX5_offerAll, Cond.selects RX5 yX5_offerAll yX5_offerAll, Cond.initialized RX5, Cond.code yX5_offerAll cX5_offerAll 3 none, Cond.fieldLink RX5 69 "SharedWireModel" "mine" "[I", Cond.fieldLink RX5 72 "SharedWireModel" "numbers" "[I", Cond.fieldLink RX5 66 "SharedWireModel" "at" "[I", Cond.methodLink RX5 159 yX5_offer, Cond.instanceMethod yX5_offer, Cond.selects RX5 yX5_offer yX5_offer, Cond.code yX5_offer cX5_offer 4 (some .int), Cond.fieldLink RX5 28 "SharedWireModel" "wants" "[I", Cond.methodLink RX5 142 yX5_comesFirst, Cond.instanceMethod yX5_comesFirst, Cond.selects RX5 yX5_comesFirst yX5_comesFirst, Cond.code yX5_comesFirst cX5_comesFirst 5 (some .boolean), Cond.fieldLink RX5 31 "SharedWireModel" "longs" "[Z", Cond.fieldLink RX5 35 "SharedWireModel" "identifiers" "[I", Cond.methodLink RX5 138 yX5_key, Cond.static yX5_key]
def wsX5_liveStep_r2 : List Cond := [Cond.code yX5_key cX5_key 2 (some .int), Cond.methodLink RX5 162 yX5_make, Cond.instanceMethod yX5_make, Cond.selects RX5 yX5_make yX5_make, Cond.code yX5_make cX5_make 8 none, Cond.fieldLink RX5 103 "SharedWireModel" "frameSize" "I", Cond.fieldLink RX5 42 "SharedWireModel" "bytes" "[I", Cond.fieldLink RX5 38 "SharedWireModel" "data" "[J", Cond.constantLong RX5 110 (255), Cond.fieldLink RX5 96 "SharedWireModel" "frame" "[I", Cond.fieldLink RX5 63 "SharedWireModel" "wireSize" "[I", Cond.methodLink RX5 106 yX5_say, Cond.instanceMethod yX5_say, Cond.selects RX5 yX5_say yX5_say, Cond.code yX5_say cX5_say 4 none, Cond.methodLink RX5 112 yX5_nextCheck, Cond.static yX5_nextCheck, Cond.code yX5_nextCheck cX5_nextCheck 4 (some .int), Cond.methodLink RX5 116 yX5_lay, Cond.instanceMethod yX5_lay, Cond.selects RX5 yX5_lay yX5_lay, Cond.code yX5_lay cX5_lay 5 (some .int), Cond.fieldLink RX5 57 "SharedWireModel" "wireBits" "[I", Cond.fieldLink RX5 60 "SharedWireModel" "places" "[I"]
def wsX5_liveStep_r3 : List Cond := [Cond.methodLink RX5 165 yX5_begin, Cond.instanceMethod yX5_begin, Cond.selects RX5 yX5_begin yX5_begin, Cond.code yX5_begin cX5_begin 2 none, Cond.fieldLink RX5 78 "SharedWireModel" "count" "[I", Cond.fieldLink RX5 81 "SharedWireModel" "run" "[I", Cond.fieldLink RX5 84 "SharedWireModel" "last" "[I", Cond.fieldLink RX5 87 "SharedWireModel" "need" "[I", Cond.fieldLink RX5 90 "SharedWireModel" "tail" "[I", Cond.methodLink RX5 193 yX5_sends, Cond.instanceMethod yX5_sends, Cond.selects RX5 yX5_sends yX5_sends, Cond.code yX5_sends cX5_sends 2 (some .int), Cond.methodLink RX5 156 yX5_answers, Cond.instanceMethod yX5_answers, Cond.selects RX5 yX5_answers yX5_answers, Cond.code yX5_answers cX5_answers 2 (some .boolean), Cond.methodLink RX5 128 yX5_isRight, Cond.instanceMethod yX5_isRight, Cond.selects RX5 yX5_isRight yX5_isRight, Cond.code yX5_isRight cX5_isRight 4 (some .boolean), Cond.fieldLink RX5 75 "SharedWireModel" "bits" "[I", Cond.methodLink RX5 124 yX5_number, Cond.instanceMethod yX5_number]
def wsX5_liveStep_r4 : List Cond := [Cond.selects RX5 yX5_number yX5_number, Cond.code yX5_number cX5_number 6 (some .int), Cond.methodLink RX5 196 yX5_sees, Cond.instanceMethod yX5_sees, Cond.selects RX5 yX5_sees yX5_sees, Cond.code yX5_sees cX5_sees 3 (some .int), Cond.methodLink RX5 172 yX5_saw, Cond.instanceMethod yX5_saw, Cond.selects RX5 yX5_saw yX5_saw, Cond.code yX5_saw cX5_saw 6 (some .int), Cond.methodLink RX5 169 yX5_take, Cond.instanceMethod yX5_take, Cond.selects RX5 yX5_take yX5_take, Cond.code yX5_take cX5_take 3 (some .int), Cond.methodLink RX5 131 yX5_takeTail, Cond.instanceMethod yX5_takeTail, Cond.selects RX5 yX5_takeTail yX5_takeTail, Cond.code yX5_takeTail cX5_takeTail 4 (some .int), Cond.methodLink RX5 120 yX5_isLong, Cond.instanceMethod yX5_isLong, Cond.selects RX5 yX5_isLong yX5_isLong, Cond.code yX5_isLong cX5_isLong 2 (some .boolean), Cond.methodLink RX5 134 yX5_bytesOf, Cond.instanceMethod yX5_bytesOf]
def wsX5_liveStep_r5 : List Cond := [Cond.selects RX5 yX5_bytesOf yX5_bytesOf, Cond.code yX5_bytesOf cX5_bytesOf 3 (some .int), Cond.methodLink RX5 153 yX5_sentOne, Cond.instanceMethod yX5_sentOne, Cond.selects RX5 yX5_sentOne yX5_sentOne, Cond.code yX5_sentOne cX5_sentOne 3 (some .int), Cond.methodLink RX5 175 yX5_idle, Cond.instanceMethod yX5_idle, Cond.selects RX5 yX5_idle yX5_idle, Cond.code yX5_idle cX5_idle 3 (some .int), Cond.methodLink RX5 199 yX5_breakOff, Cond.instanceMethod yX5_breakOff, Cond.selects RX5 yX5_breakOff yX5_breakOff, Cond.code yX5_breakOff cX5_breakOff 3 none, Cond.fieldLink RX5 13 "SharedWireModel" "sending" "[I", Cond.fieldLink RX5 16 "SharedWireModel" "receiving" "[I", Cond.fieldLink RX5 181 "SharedWireModel" "left" "I", Cond.methodLink RX5 202 yX5_finish, Cond.instanceMethod yX5_finish, Cond.selects RX5 yX5_finish yX5_finish, Cond.code yX5_finish cX5_finish 4 none, Cond.fieldLink RX5 19 "SharedWireModel" "sent" "[I", Cond.methodLink RX5 184 yX5_forget, Cond.instanceMethod yX5_forget]
def wsX5_liveStep_r6 : List Cond := [Cond.selects RX5 yX5_forget yX5_forget, Cond.code yX5_forget cX5_forget 4 none, Cond.methodLink RX5 187 yX5_keep, Cond.instanceMethod yX5_keep, Cond.selects RX5 yX5_keep yX5_keep, Cond.code yX5_keep cX5_keep 6 none, Cond.fieldLink RX5 45 "SharedWireModel" "hasLong" "[Z", Cond.fieldLink RX5 48 "SharedWireModel" "hasIdentifier" "[I", Cond.fieldLink RX5 54 "SharedWireModel" "hasBytes" "[I", Cond.fieldLink RX5 51 "SharedWireModel" "hasData" "[J", Cond.fieldLink RX5 22 "SharedWireModel" "gotten" "[I"]
def wsX5_liveStep : List Cond := .code yX5_liveStep cX5_liveStep 10 (some .int) :: ((wsX5_liveStep_r1 ++ (wsX5_liveStep_r2 ++ (wsX5_liveStep_r3 ++ (wsX5_liveStep_r4 ++ (wsX5_liveStep_r5 ++ wsX5_liveStep_r6))))) ++ wsX50)
def wsX5_oneStep_r1 : List Cond := [Cond.fieldLink RX5 178 "SharedWireModel" "wire" "I", Cond.fieldLink RX5 181 "SharedWireModel" "left" "I", Cond.methodLink RX5 205 yX5_liveStep, Cond.instanceMethod yX5_liveStep, Cond.selects RX5 yX5_liveStep yX5_liveStep, Cond.initialized RX5, Cond.code yX5_liveStep cX5_liveStep 10 (some .int), Cond.fieldLink RX5 9 "SharedWireModel" "state" "[I", Cond.fieldLink RX5 25 "SharedWireModel" "lastFault" "[I", Cond.methodLink RX5 190 yX5_offerAll, Cond.instanceMethod yX5_offerAll, Cond.selects RX5 yX5_offerAll yX5_offerAll, Cond.code yX5_offerAll cX5_offerAll 3 none, Cond.fieldLink RX5 69 "SharedWireModel" "mine" "[I", Cond.fieldLink RX5 72 "SharedWireModel" "numbers" "[I", Cond.fieldLink RX5 66 "SharedWireModel" "at" "[I", Cond.methodLink RX5 159 yX5_offer, Cond.instanceMethod yX5_offer, Cond.selects RX5 yX5_offer yX5_offer, Cond.code yX5_offer cX5_offer 4 (some .int), Cond.fieldLink RX5 28 "SharedWireModel" "wants" "[I", Cond.methodLink RX5 142 yX5_comesFirst, Cond.instanceMethod yX5_comesFirst, Cond.selects RX5 yX5_comesFirst yX5_comesFirst]
def wsX5_oneStep_r2 : List Cond := [Cond.code yX5_comesFirst cX5_comesFirst 5 (some .boolean), Cond.fieldLink RX5 31 "SharedWireModel" "longs" "[Z", Cond.fieldLink RX5 35 "SharedWireModel" "identifiers" "[I", Cond.methodLink RX5 138 yX5_key, Cond.static yX5_key, Cond.code yX5_key cX5_key 2 (some .int), Cond.methodLink RX5 162 yX5_make, Cond.instanceMethod yX5_make, Cond.selects RX5 yX5_make yX5_make, Cond.code yX5_make cX5_make 8 none, Cond.fieldLink RX5 103 "SharedWireModel" "frameSize" "I", Cond.fieldLink RX5 42 "SharedWireModel" "bytes" "[I", Cond.fieldLink RX5 38 "SharedWireModel" "data" "[J", Cond.constantLong RX5 110 (255), Cond.fieldLink RX5 96 "SharedWireModel" "frame" "[I", Cond.fieldLink RX5 63 "SharedWireModel" "wireSize" "[I", Cond.methodLink RX5 106 yX5_say, Cond.instanceMethod yX5_say, Cond.selects RX5 yX5_say yX5_say, Cond.code yX5_say cX5_say 4 none, Cond.methodLink RX5 112 yX5_nextCheck, Cond.static yX5_nextCheck, Cond.code yX5_nextCheck cX5_nextCheck 4 (some .int), Cond.methodLink RX5 116 yX5_lay]
def wsX5_oneStep_r3 : List Cond := [Cond.instanceMethod yX5_lay, Cond.selects RX5 yX5_lay yX5_lay, Cond.code yX5_lay cX5_lay 5 (some .int), Cond.fieldLink RX5 57 "SharedWireModel" "wireBits" "[I", Cond.fieldLink RX5 60 "SharedWireModel" "places" "[I", Cond.methodLink RX5 165 yX5_begin, Cond.instanceMethod yX5_begin, Cond.selects RX5 yX5_begin yX5_begin, Cond.code yX5_begin cX5_begin 2 none, Cond.fieldLink RX5 78 "SharedWireModel" "count" "[I", Cond.fieldLink RX5 81 "SharedWireModel" "run" "[I", Cond.fieldLink RX5 84 "SharedWireModel" "last" "[I", Cond.fieldLink RX5 87 "SharedWireModel" "need" "[I", Cond.fieldLink RX5 90 "SharedWireModel" "tail" "[I", Cond.methodLink RX5 193 yX5_sends, Cond.instanceMethod yX5_sends, Cond.selects RX5 yX5_sends yX5_sends, Cond.code yX5_sends cX5_sends 2 (some .int), Cond.methodLink RX5 156 yX5_answers, Cond.instanceMethod yX5_answers, Cond.selects RX5 yX5_answers yX5_answers, Cond.code yX5_answers cX5_answers 2 (some .boolean), Cond.methodLink RX5 128 yX5_isRight, Cond.instanceMethod yX5_isRight]
def wsX5_oneStep_r4 : List Cond := [Cond.selects RX5 yX5_isRight yX5_isRight, Cond.code yX5_isRight cX5_isRight 4 (some .boolean), Cond.fieldLink RX5 75 "SharedWireModel" "bits" "[I", Cond.methodLink RX5 124 yX5_number, Cond.instanceMethod yX5_number, Cond.selects RX5 yX5_number yX5_number, Cond.code yX5_number cX5_number 6 (some .int), Cond.methodLink RX5 196 yX5_sees, Cond.instanceMethod yX5_sees, Cond.selects RX5 yX5_sees yX5_sees, Cond.code yX5_sees cX5_sees 3 (some .int), Cond.methodLink RX5 172 yX5_saw, Cond.instanceMethod yX5_saw, Cond.selects RX5 yX5_saw yX5_saw, Cond.code yX5_saw cX5_saw 6 (some .int), Cond.methodLink RX5 169 yX5_take, Cond.instanceMethod yX5_take, Cond.selects RX5 yX5_take yX5_take, Cond.code yX5_take cX5_take 3 (some .int), Cond.methodLink RX5 131 yX5_takeTail, Cond.instanceMethod yX5_takeTail, Cond.selects RX5 yX5_takeTail yX5_takeTail, Cond.code yX5_takeTail cX5_takeTail 4 (some .int), Cond.methodLink RX5 120 yX5_isLong]
def wsX5_oneStep_r5 : List Cond := [Cond.instanceMethod yX5_isLong, Cond.selects RX5 yX5_isLong yX5_isLong, Cond.code yX5_isLong cX5_isLong 2 (some .boolean), Cond.methodLink RX5 134 yX5_bytesOf, Cond.instanceMethod yX5_bytesOf, Cond.selects RX5 yX5_bytesOf yX5_bytesOf, Cond.code yX5_bytesOf cX5_bytesOf 3 (some .int), Cond.methodLink RX5 153 yX5_sentOne, Cond.instanceMethod yX5_sentOne, Cond.selects RX5 yX5_sentOne yX5_sentOne, Cond.code yX5_sentOne cX5_sentOne 3 (some .int), Cond.methodLink RX5 175 yX5_idle, Cond.instanceMethod yX5_idle, Cond.selects RX5 yX5_idle yX5_idle, Cond.code yX5_idle cX5_idle 3 (some .int), Cond.methodLink RX5 199 yX5_breakOff, Cond.instanceMethod yX5_breakOff, Cond.selects RX5 yX5_breakOff yX5_breakOff, Cond.code yX5_breakOff cX5_breakOff 3 none, Cond.fieldLink RX5 13 "SharedWireModel" "sending" "[I", Cond.fieldLink RX5 16 "SharedWireModel" "receiving" "[I", Cond.methodLink RX5 202 yX5_finish, Cond.instanceMethod yX5_finish, Cond.selects RX5 yX5_finish yX5_finish]
def wsX5_oneStep_r6 : List Cond := [Cond.code yX5_finish cX5_finish 4 none, Cond.fieldLink RX5 19 "SharedWireModel" "sent" "[I", Cond.methodLink RX5 184 yX5_forget, Cond.instanceMethod yX5_forget, Cond.selects RX5 yX5_forget yX5_forget, Cond.code yX5_forget cX5_forget 4 none, Cond.methodLink RX5 187 yX5_keep, Cond.instanceMethod yX5_keep, Cond.selects RX5 yX5_keep yX5_keep, Cond.code yX5_keep cX5_keep 6 none, Cond.fieldLink RX5 45 "SharedWireModel" "hasLong" "[Z", Cond.fieldLink RX5 48 "SharedWireModel" "hasIdentifier" "[I", Cond.fieldLink RX5 54 "SharedWireModel" "hasBytes" "[I", Cond.fieldLink RX5 51 "SharedWireModel" "hasData" "[J", Cond.fieldLink RX5 22 "SharedWireModel" "gotten" "[I"]
def wsX5_oneStep : List Cond := .code yX5_oneStep cX5_oneStep 3 (some .int) :: ((wsX5_oneStep_r1 ++ (wsX5_oneStep_r2 ++ (wsX5_oneStep_r3 ++ (wsX5_oneStep_r4 ++ (wsX5_oneStep_r5 ++ wsX5_oneStep_r6))))) ++ wsX50)
def wsX5_step_r1 : List Cond := [Cond.fieldLink RX5 99 "SharedWireModel" "thrown" "I", Cond.methodLink RX5 208 yX5_oneStep, Cond.instanceMethod yX5_oneStep, Cond.selects RX5 yX5_oneStep yX5_oneStep, Cond.initialized RX5, Cond.code yX5_oneStep cX5_oneStep 3 (some .int), Cond.fieldLink RX5 178 "SharedWireModel" "wire" "I", Cond.fieldLink RX5 181 "SharedWireModel" "left" "I", Cond.methodLink RX5 205 yX5_liveStep, Cond.instanceMethod yX5_liveStep, Cond.selects RX5 yX5_liveStep yX5_liveStep, Cond.code yX5_liveStep cX5_liveStep 10 (some .int), Cond.fieldLink RX5 9 "SharedWireModel" "state" "[I", Cond.fieldLink RX5 25 "SharedWireModel" "lastFault" "[I", Cond.methodLink RX5 190 yX5_offerAll, Cond.instanceMethod yX5_offerAll, Cond.selects RX5 yX5_offerAll yX5_offerAll, Cond.code yX5_offerAll cX5_offerAll 3 none, Cond.fieldLink RX5 69 "SharedWireModel" "mine" "[I", Cond.fieldLink RX5 72 "SharedWireModel" "numbers" "[I", Cond.fieldLink RX5 66 "SharedWireModel" "at" "[I", Cond.methodLink RX5 159 yX5_offer, Cond.instanceMethod yX5_offer, Cond.selects RX5 yX5_offer yX5_offer]
def wsX5_step_r2 : List Cond := [Cond.code yX5_offer cX5_offer 4 (some .int), Cond.fieldLink RX5 28 "SharedWireModel" "wants" "[I", Cond.methodLink RX5 142 yX5_comesFirst, Cond.instanceMethod yX5_comesFirst, Cond.selects RX5 yX5_comesFirst yX5_comesFirst, Cond.code yX5_comesFirst cX5_comesFirst 5 (some .boolean), Cond.fieldLink RX5 31 "SharedWireModel" "longs" "[Z", Cond.fieldLink RX5 35 "SharedWireModel" "identifiers" "[I", Cond.methodLink RX5 138 yX5_key, Cond.static yX5_key, Cond.code yX5_key cX5_key 2 (some .int), Cond.methodLink RX5 162 yX5_make, Cond.instanceMethod yX5_make, Cond.selects RX5 yX5_make yX5_make, Cond.code yX5_make cX5_make 8 none, Cond.fieldLink RX5 103 "SharedWireModel" "frameSize" "I", Cond.fieldLink RX5 42 "SharedWireModel" "bytes" "[I", Cond.fieldLink RX5 38 "SharedWireModel" "data" "[J", Cond.constantLong RX5 110 (255), Cond.fieldLink RX5 96 "SharedWireModel" "frame" "[I", Cond.fieldLink RX5 63 "SharedWireModel" "wireSize" "[I", Cond.methodLink RX5 106 yX5_say, Cond.instanceMethod yX5_say, Cond.selects RX5 yX5_say yX5_say]
def wsX5_step_r3 : List Cond := [Cond.code yX5_say cX5_say 4 none, Cond.methodLink RX5 112 yX5_nextCheck, Cond.static yX5_nextCheck, Cond.code yX5_nextCheck cX5_nextCheck 4 (some .int), Cond.methodLink RX5 116 yX5_lay, Cond.instanceMethod yX5_lay, Cond.selects RX5 yX5_lay yX5_lay, Cond.code yX5_lay cX5_lay 5 (some .int), Cond.fieldLink RX5 57 "SharedWireModel" "wireBits" "[I", Cond.fieldLink RX5 60 "SharedWireModel" "places" "[I", Cond.methodLink RX5 165 yX5_begin, Cond.instanceMethod yX5_begin, Cond.selects RX5 yX5_begin yX5_begin, Cond.code yX5_begin cX5_begin 2 none, Cond.fieldLink RX5 78 "SharedWireModel" "count" "[I", Cond.fieldLink RX5 81 "SharedWireModel" "run" "[I", Cond.fieldLink RX5 84 "SharedWireModel" "last" "[I", Cond.fieldLink RX5 87 "SharedWireModel" "need" "[I", Cond.fieldLink RX5 90 "SharedWireModel" "tail" "[I", Cond.methodLink RX5 193 yX5_sends, Cond.instanceMethod yX5_sends, Cond.selects RX5 yX5_sends yX5_sends, Cond.code yX5_sends cX5_sends 2 (some .int), Cond.methodLink RX5 156 yX5_answers]
def wsX5_step_r4 : List Cond := [Cond.instanceMethod yX5_answers, Cond.selects RX5 yX5_answers yX5_answers, Cond.code yX5_answers cX5_answers 2 (some .boolean), Cond.methodLink RX5 128 yX5_isRight, Cond.instanceMethod yX5_isRight, Cond.selects RX5 yX5_isRight yX5_isRight, Cond.code yX5_isRight cX5_isRight 4 (some .boolean), Cond.fieldLink RX5 75 "SharedWireModel" "bits" "[I", Cond.methodLink RX5 124 yX5_number, Cond.instanceMethod yX5_number, Cond.selects RX5 yX5_number yX5_number, Cond.code yX5_number cX5_number 6 (some .int), Cond.methodLink RX5 196 yX5_sees, Cond.instanceMethod yX5_sees, Cond.selects RX5 yX5_sees yX5_sees, Cond.code yX5_sees cX5_sees 3 (some .int), Cond.methodLink RX5 172 yX5_saw, Cond.instanceMethod yX5_saw, Cond.selects RX5 yX5_saw yX5_saw, Cond.code yX5_saw cX5_saw 6 (some .int), Cond.methodLink RX5 169 yX5_take, Cond.instanceMethod yX5_take, Cond.selects RX5 yX5_take yX5_take, Cond.code yX5_take cX5_take 3 (some .int)]
def wsX5_step_r5 : List Cond := [Cond.methodLink RX5 131 yX5_takeTail, Cond.instanceMethod yX5_takeTail, Cond.selects RX5 yX5_takeTail yX5_takeTail, Cond.code yX5_takeTail cX5_takeTail 4 (some .int), Cond.methodLink RX5 120 yX5_isLong, Cond.instanceMethod yX5_isLong, Cond.selects RX5 yX5_isLong yX5_isLong, Cond.code yX5_isLong cX5_isLong 2 (some .boolean), Cond.methodLink RX5 134 yX5_bytesOf, Cond.instanceMethod yX5_bytesOf, Cond.selects RX5 yX5_bytesOf yX5_bytesOf, Cond.code yX5_bytesOf cX5_bytesOf 3 (some .int), Cond.methodLink RX5 153 yX5_sentOne, Cond.instanceMethod yX5_sentOne, Cond.selects RX5 yX5_sentOne yX5_sentOne, Cond.code yX5_sentOne cX5_sentOne 3 (some .int), Cond.methodLink RX5 175 yX5_idle, Cond.instanceMethod yX5_idle, Cond.selects RX5 yX5_idle yX5_idle, Cond.code yX5_idle cX5_idle 3 (some .int), Cond.methodLink RX5 199 yX5_breakOff, Cond.instanceMethod yX5_breakOff, Cond.selects RX5 yX5_breakOff yX5_breakOff, Cond.code yX5_breakOff cX5_breakOff 3 none]
def wsX5_step_r6 : List Cond := [Cond.fieldLink RX5 13 "SharedWireModel" "sending" "[I", Cond.fieldLink RX5 16 "SharedWireModel" "receiving" "[I", Cond.methodLink RX5 202 yX5_finish, Cond.instanceMethod yX5_finish, Cond.selects RX5 yX5_finish yX5_finish, Cond.code yX5_finish cX5_finish 4 none, Cond.fieldLink RX5 19 "SharedWireModel" "sent" "[I", Cond.methodLink RX5 184 yX5_forget, Cond.instanceMethod yX5_forget, Cond.selects RX5 yX5_forget yX5_forget, Cond.code yX5_forget cX5_forget 4 none, Cond.methodLink RX5 187 yX5_keep, Cond.instanceMethod yX5_keep, Cond.selects RX5 yX5_keep yX5_keep, Cond.code yX5_keep cX5_keep 6 none, Cond.fieldLink RX5 45 "SharedWireModel" "hasLong" "[Z", Cond.fieldLink RX5 48 "SharedWireModel" "hasIdentifier" "[I", Cond.fieldLink RX5 54 "SharedWireModel" "hasBytes" "[I", Cond.fieldLink RX5 51 "SharedWireModel" "hasData" "[J", Cond.fieldLink RX5 22 "SharedWireModel" "gotten" "[I"]
def wsX5_step : List Cond := .code yX5_step cX5_step 5 (some .int) :: ((wsX5_step_r1 ++ (wsX5_step_r2 ++ (wsX5_step_r3 ++ (wsX5_step_r4 ++ (wsX5_step_r5 ++ wsX5_step_r6))))) ++ wsX50)
def wsX5_join : List Cond := .code yX5_join cX5_join 2 (some .boolean) :: ([.fieldLink RX5 99 "SharedWireModel" "thrown" "I", .fieldLink RX5 9 "SharedWireModel" "state" "[I", .fieldLink RX5 13 "SharedWireModel" "sending" "[I", .fieldLink RX5 16 "SharedWireModel" "receiving" "[I", .methodLink RX5 147 yX5_isNode, .static yX5_isNode, .initialized RX5, .code yX5_isNode cX5_isNode 1 (some .boolean)] ++ wsX50)
def wsX5_wire : List Cond := .code yX5_wire cX5_wire 1 (some .int) :: ([.fieldLink RX5 99 "SharedWireModel" "thrown" "I", .fieldLink RX5 178 "SharedWireModel" "wire" "I"] ++ wsX50)
def wsX5_node : List Cond := .code yX5_node cX5_node 3 (some .int) :: ([.fieldLink RX5 99 "SharedWireModel" "thrown" "I", .fieldLink RX5 9 "SharedWireModel" "state" "[I", .fieldLink RX5 13 "SharedWireModel" "sending" "[I", .fieldLink RX5 16 "SharedWireModel" "receiving" "[I", .fieldLink RX5 28 "SharedWireModel" "wants" "[I", .fieldLink RX5 19 "SharedWireModel" "sent" "[I", .fieldLink RX5 22 "SharedWireModel" "gotten" "[I", .fieldLink RX5 25 "SharedWireModel" "lastFault" "[I", .methodLink RX5 147 yX5_isNode, .static yX5_isNode, .initialized RX5, .code yX5_isNode cX5_isNode 1 (some .boolean)] ++ wsX50)
def wsX5_received : List Cond := .code yX5_received cX5_received 3 (some .long) :: ([.fieldLink RX5 22 "SharedWireModel" "gotten" "[I", .fieldLink RX5 99 "SharedWireModel" "thrown" "I", .fieldLink RX5 48 "SharedWireModel" "hasIdentifier" "[I", .fieldLink RX5 45 "SharedWireModel" "hasLong" "[Z", .fieldLink RX5 54 "SharedWireModel" "hasBytes" "[I", .fieldLink RX5 51 "SharedWireModel" "hasData" "[J", .methodLink RX5 147 yX5_isNode, .static yX5_isNode, .initialized RX5, .code yX5_isNode cX5_isNode 1 (some .boolean)] ++ wsX50)
def wsX5_tape_r1 : List Cond := [Cond.fieldLink RX5 99 "SharedWireModel" "thrown" "I", Cond.fieldLink RX5 63 "SharedWireModel" "wireSize" "[I", Cond.fieldLink RX5 211 "SharedWireModel" "size" "I", Cond.fieldLink RX5 93 "SharedWireModel" "tape" "[I", Cond.fieldLink RX5 57 "SharedWireModel" "wireBits" "[I", Cond.methodLink RX5 147 yX5_isNode, Cond.static yX5_isNode, Cond.initialized RX5, Cond.code yX5_isNode cX5_isNode 1 (some .boolean), Cond.methodLink RX5 159 yX5_offer, Cond.instanceMethod yX5_offer, Cond.selects RX5 yX5_offer yX5_offer, Cond.code yX5_offer cX5_offer 4 (some .int), Cond.fieldLink RX5 28 "SharedWireModel" "wants" "[I", Cond.methodLink RX5 142 yX5_comesFirst, Cond.instanceMethod yX5_comesFirst, Cond.selects RX5 yX5_comesFirst yX5_comesFirst, Cond.code yX5_comesFirst cX5_comesFirst 5 (some .boolean), Cond.fieldLink RX5 31 "SharedWireModel" "longs" "[Z", Cond.fieldLink RX5 35 "SharedWireModel" "identifiers" "[I", Cond.methodLink RX5 138 yX5_key, Cond.static yX5_key, Cond.code yX5_key cX5_key 2 (some .int), Cond.methodLink RX5 162 yX5_make]
def wsX5_tape_r2 : List Cond := [Cond.instanceMethod yX5_make, Cond.selects RX5 yX5_make yX5_make, Cond.code yX5_make cX5_make 8 none, Cond.fieldLink RX5 103 "SharedWireModel" "frameSize" "I", Cond.fieldLink RX5 42 "SharedWireModel" "bytes" "[I", Cond.fieldLink RX5 38 "SharedWireModel" "data" "[J", Cond.constantLong RX5 110 (255), Cond.fieldLink RX5 96 "SharedWireModel" "frame" "[I", Cond.methodLink RX5 106 yX5_say, Cond.instanceMethod yX5_say, Cond.selects RX5 yX5_say yX5_say, Cond.code yX5_say cX5_say 4 none, Cond.methodLink RX5 112 yX5_nextCheck, Cond.static yX5_nextCheck, Cond.code yX5_nextCheck cX5_nextCheck 4 (some .int), Cond.methodLink RX5 116 yX5_lay, Cond.instanceMethod yX5_lay, Cond.selects RX5 yX5_lay yX5_lay, Cond.code yX5_lay cX5_lay 5 (some .int), Cond.fieldLink RX5 60 "SharedWireModel" "places" "[I"]
def wsX5_tape : List Cond := .code yX5_tape cX5_tape 3 (some .int) :: ((wsX5_tape_r1 ++ wsX5_tape_r2) ++ wsX50)
def wsX5_put : List Cond := .code yX5_put cX5_put 5 (some .boolean) :: ([.fieldLink RX5 99 "SharedWireModel" "thrown" "I", .fieldLink RX5 211 "SharedWireModel" "size" "I", .fieldLink RX5 93 "SharedWireModel" "tape" "[I"] ++ wsX50)
def wsX5_bit : List Cond := .code yX5_bit cX5_bit 2 (some .int) :: ([.fieldLink RX5 211 "SharedWireModel" "size" "I", .fieldLink RX5 99 "SharedWireModel" "thrown" "I", .fieldLink RX5 93 "SharedWireModel" "tape" "[I"] ++ wsX50)
def wsX5_flip : List Cond := .code yX5_flip cX5_flip 2 none :: ([.fieldLink RX5 211 "SharedWireModel" "size" "I", .fieldLink RX5 99 "SharedWireModel" "thrown" "I", .fieldLink RX5 93 "SharedWireModel" "tape" "[I"] ++ wsX50)
def wsX5_wipe : List Cond := .code yX5_wipe cX5_wipe 2 (some .int) :: ([.fieldLink RX5 99 "SharedWireModel" "thrown" "I", .fieldLink RX5 211 "SharedWireModel" "size" "I"] ++ wsX50)
def wsX5_read_r1 : List Cond := [Cond.fieldLink RX5 99 "SharedWireModel" "thrown" "I", Cond.fieldLink RX5 211 "SharedWireModel" "size" "I", Cond.fieldLink RX5 93 "SharedWireModel" "tape" "[I", Cond.methodLink RX5 165 yX5_begin, Cond.instanceMethod yX5_begin, Cond.selects RX5 yX5_begin yX5_begin, Cond.initialized RX5, Cond.code yX5_begin cX5_begin 2 none, Cond.fieldLink RX5 78 "SharedWireModel" "count" "[I", Cond.fieldLink RX5 81 "SharedWireModel" "run" "[I", Cond.fieldLink RX5 84 "SharedWireModel" "last" "[I", Cond.fieldLink RX5 87 "SharedWireModel" "need" "[I", Cond.fieldLink RX5 90 "SharedWireModel" "tail" "[I", Cond.methodLink RX5 169 yX5_take, Cond.instanceMethod yX5_take, Cond.selects RX5 yX5_take yX5_take, Cond.code yX5_take cX5_take 3 (some .int), Cond.fieldLink RX5 75 "SharedWireModel" "bits" "[I", Cond.methodLink RX5 131 yX5_takeTail, Cond.instanceMethod yX5_takeTail, Cond.selects RX5 yX5_takeTail yX5_takeTail, Cond.code yX5_takeTail cX5_takeTail 4 (some .int), Cond.methodLink RX5 128 yX5_isRight, Cond.instanceMethod yX5_isRight]
def wsX5_read_r2 : List Cond := [Cond.selects RX5 yX5_isRight yX5_isRight, Cond.code yX5_isRight cX5_isRight 4 (some .boolean), Cond.methodLink RX5 112 yX5_nextCheck, Cond.static yX5_nextCheck, Cond.code yX5_nextCheck cX5_nextCheck 4 (some .int), Cond.methodLink RX5 124 yX5_number, Cond.instanceMethod yX5_number, Cond.selects RX5 yX5_number yX5_number, Cond.code yX5_number cX5_number 6 (some .int), Cond.methodLink RX5 120 yX5_isLong, Cond.instanceMethod yX5_isLong, Cond.selects RX5 yX5_isLong yX5_isLong, Cond.code yX5_isLong cX5_isLong 2 (some .boolean), Cond.methodLink RX5 134 yX5_bytesOf, Cond.instanceMethod yX5_bytesOf, Cond.selects RX5 yX5_bytesOf yX5_bytesOf, Cond.code yX5_bytesOf cX5_bytesOf 3 (some .int)]
def wsX5_read : List Cond := .code yX5_read cX5_read 3 (some .int) :: ((wsX5_read_r1 ++ wsX5_read_r2) ++ wsX50)
def wsJ9_max_7cf53 : List Cond := .code yJ9_max_7cf53 cJ9_max_7cf53 2 (some .int) :: ([])
def wsJ9_min_7cf53 : List Cond := .code yJ9_min_7cf53 cJ9_min_7cf53 2 (some .int) :: ([])
def wsL_want_r1 : List Cond := [Cond.classLink RL 13 "java/lang/IndexOutOfBoundsException", Cond.classLink RL 15 "java/lang/IllegalArgumentException", Cond.classLink RL 17 "java/lang/UnsupportedOperationException", Cond.methodLink RL 7 yX4_want, Cond.instanceMethod yX4_want, Cond.selects RX4 yX4_want yX4_want, Cond.initialized RX4, Cond.code yX4_want cX4_want 9 (some .int), Cond.classLink RX4 48 "java/lang/IndexOutOfBoundsException", Cond.initialized "java/lang/IndexOutOfBoundsException", Cond.classLink RX4 51 "java/lang/IllegalArgumentException", Cond.initialized "java/lang/IllegalArgumentException", Cond.classLink RX4 57 "java/lang/UnsupportedOperationException", Cond.initialized "java/lang/UnsupportedOperationException", Cond.fieldLink RX4 11 "SharedWire" "nodes" "[LSharedWire$Node;", Cond.fieldLink RX4 54 "SharedWire$Node" "wants" "I", Cond.methodLink RX4 44 yX4_isNode, Cond.static yX4_isNode, Cond.code yX4_isNode cX4_isNode 1 (some .boolean), Cond.methodLink RX4 60 yX2_addWanted, Cond.instanceMethod yX2_addWanted, Cond.selects RX2 yX2_addWanted yX2_addWanted, Cond.initialized RX2, Cond.code yX2_addWanted cX2_addWanted 6 none]
def wsL_want_r2 : List Cond := [Cond.fieldLink RX2 44 "SharedWire$Node" "wants" "I", Cond.fieldLink RX2 11 "SharedWire$Node" "wanted" "[LSharedWire$Frame;", Cond.methodLink RX2 71 yX0_set, Cond.instanceMethod yX0_set, Cond.selects RX0 yX0_set yX0_set, Cond.initialized RX0, Cond.code yX0_set cX0_set 6 none, Cond.fieldLink RX0 9 "SharedWire$Frame" "isLong" "Z", Cond.fieldLink RX0 15 "SharedWire$Frame" "identifier" "I", Cond.fieldLink RX0 19 "SharedWire$Frame" "data" "J", Cond.fieldLink RX0 23 "SharedWire$Frame" "size" "I"]
def wsL_want : List Cond := .codeWith yL_want cL_want 9 (some .int) [(0, 16, 19, 13), (0, 16, 23, 15), (0, 16, 27, 17)] :: ((wsL_want_r1 ++ wsL_want_r2) ++ wsX40 ++ wsX20 ++ wsX00 ++ (vx_at0 RX4 50 "java/lang/IndexOutOfBoundsException" ["java/lang/RuntimeException", "java/lang/Exception"]).filter goodWord ++ (vx_at0 RX4 53 "java/lang/IllegalArgumentException" ["java/lang/RuntimeException", "java/lang/Exception"]).filter goodWord ++ (vx_at0 RX4 59 "java/lang/UnsupportedOperationException" ["java/lang/RuntimeException", "java/lang/Exception"]).filter goodWord)
def wsL_step_r1 : List Cond := [Cond.classLink RL 15 "java/lang/IllegalArgumentException", Cond.methodLink RL 19 yX4_step, Cond.instanceMethod yX4_step, Cond.selects RX4 yX4_step yX4_step, Cond.initialized RX4, Cond.code yX4_step cX4_step 5 (some .int), Cond.classLink RX4 51 "java/lang/IllegalArgumentException", Cond.initialized "java/lang/IllegalArgumentException", Cond.methodLink RX4 64 yX4_oneStep, Cond.instanceMethod yX4_oneStep, Cond.selects RX4 yX4_oneStep yX4_oneStep, Cond.code yX4_oneStep cX4_oneStep 3 (some .int), Cond.fieldLink RX4 15 "SharedWire" "state" "I", Cond.methodLink RX4 146 yX4_brokenStep, Cond.instanceMethod yX4_brokenStep, Cond.selects RX4 yX4_brokenStep yX4_brokenStep, Cond.code yX4_brokenStep cX4_brokenStep 2 (some .int), Cond.fieldLink RX4 19 "SharedWire" "stepsLeft" "I", Cond.methodLink RX4 168 yX4_beginPause, Cond.instanceMethod yX4_beginPause, Cond.selects RX4 yX4_beginPause yX4_beginPause, Cond.code yX4_beginPause cX4_beginPause 1 none, Cond.methodLink RX4 149 yX4_pauseStep, Cond.instanceMethod yX4_pauseStep]
def wsL_step_r2 : List Cond := [Cond.selects RX4 yX4_pauseStep yX4_pauseStep, Cond.code yX4_pauseStep cX4_pauseStep 1 (some .int), Cond.methodLink RX4 152 yX4_startSenders, Cond.instanceMethod yX4_startSenders, Cond.selects RX4 yX4_startSenders yX4_startSenders, Cond.code yX4_startSenders cX4_startSenders 2 none, Cond.fieldLink RX4 11 "SharedWire" "nodes" "[LSharedWire$Node;", Cond.methodLink RX4 171 yX2_startSending, Cond.instanceMethod yX2_startSending, Cond.selects RX2 yX2_startSending yX2_startSending, Cond.initialized RX2, Cond.code yX2_startSending cX2_startSending 2 none, Cond.fieldLink RX2 36 "SharedWire$Node" "on" "Z", Cond.fieldLink RX2 40 "SharedWire$Node" "role" "I", Cond.fieldLink RX2 65 "SharedWire$Node" "sending" "I", Cond.fieldLink RX2 68 "SharedWire$Node" "next" "I", Cond.fieldLink RX2 25 "SharedWire$Node" "line" "LSharedWire$Line;", Cond.fieldLink RX2 11 "SharedWire$Node" "wanted" "[LSharedWire$Frame;", Cond.fieldLink RX2 32 "SharedWire$Node" "reader" "LSharedWire$Reader;", Cond.methodLink RX2 79 yX2_offered, Cond.instanceMethod yX2_offered, Cond.selects RX2 yX2_offered yX2_offered, Cond.code yX2_offered cX2_offered 3 (some .int), Cond.fieldLink RX2 44 "SharedWire$Node" "wants" "I"]
def wsL_step_r3 : List Cond := [Cond.methodLink RX2 75 yX0_rank, Cond.instanceMethod yX0_rank, Cond.selects RX0 yX0_rank yX0_rank, Cond.initialized RX0, Cond.code yX0_rank cX0_rank 2 (some .int), Cond.fieldLink RX0 9 "SharedWire$Frame" "isLong" "Z", Cond.fieldLink RX0 15 "SharedWire$Frame" "identifier" "I", Cond.constant RX0 26 (262143), Cond.constant RX0 27 (262144), Cond.methodLink RX2 82 yX1_write, Cond.instanceMethod yX1_write, Cond.selects RX1 yX1_write yX1_write, Cond.initialized RX1, Cond.code yX1_write cX1_write 3 none, Cond.fieldLink RX1 44 "SharedWire$Frame" "isLong" "Z", Cond.fieldLink RX1 50 "SharedWire$Frame" "identifier" "I", Cond.fieldLink RX1 25 "SharedWire$Line" "framed" "I", Cond.fieldLink RX1 22 "SharedWire$Line" "head" "I", Cond.fieldLink RX1 53 "SharedWire$Frame" "size" "I", Cond.fieldLink RX1 56 "SharedWire$Frame" "data" "J", Cond.constantLong RX1 60 (255), Cond.fieldLink RX1 34 "SharedWire$Line" "check" "I", Cond.methodLink RX1 37 yX1_clear, Cond.instanceMethod yX1_clear]
def wsL_step_r4 : List Cond := [Cond.selects RX1 yX1_clear yX1_clear, Cond.code yX1_clear cX1_clear 1 none, Cond.fieldLink RX1 18 "SharedWire$Line" "length" "I", Cond.fieldLink RX1 28 "SharedWire$Line" "alike" "I", Cond.fieldLink RX1 31 "SharedWire$Line" "last" "I", Cond.methodLink RX1 40 yX1_addNumber, Cond.instanceMethod yX1_addNumber, Cond.selects RX1 yX1_addNumber yX1_addNumber, Cond.code yX1_addNumber cX1_addNumber 5 none, Cond.methodLink RX1 62 yX1_append, Cond.instanceMethod yX1_append, Cond.selects RX1 yX1_append yX1_append, Cond.code yX1_append cX1_append 3 none, Cond.fieldLink RX1 9 "SharedWire$Line" "bits" "[I", Cond.fieldLink RX1 15 "SharedWire$Line" "places" "[I", Cond.static yX4_nextCheck, Cond.code yX4_nextCheck cX4_nextCheck 4 (some .int), Cond.methodLink RX2 86 yX3_begin, Cond.instanceMethod yX3_begin, Cond.selects RX3 yX3_begin yX3_begin, Cond.initialized RX3, Cond.code yX3_begin cX3_begin 1 none, Cond.fieldLink RX3 12 "SharedWire$Reader" "frame" "LSharedWire$Frame;", Cond.fieldLink RX3 18 "SharedWire$Reader" "taken" "I"]
def wsL_step_r5 : List Cond := [Cond.fieldLink RX3 22 "SharedWire$Reader" "tail" "I", Cond.fieldLink RX3 25 "SharedWire$Reader" "alike" "I", Cond.fieldLink RX3 28 "SharedWire$Reader" "last" "I", Cond.fieldLink RX3 31 "SharedWire$Reader" "check" "I", Cond.fieldLink RX3 34 "SharedWire$Reader" "checkTaken" "I", Cond.fieldLink RX3 37 "SharedWire$Reader" "sizePlace" "I", Cond.fieldLink RX3 40 "SharedWire$Reader" "checkPlace" "I", Cond.methodLink RX3 43 yX0_set, Cond.instanceMethod yX0_set, Cond.selects RX0 yX0_set yX0_set, Cond.code yX0_set cX0_set 6 none, Cond.fieldLink RX0 19 "SharedWire$Frame" "data" "J", Cond.fieldLink RX0 23 "SharedWire$Frame" "size" "I", Cond.methodLink RX4 155 yX4_levelSent, Cond.instanceMethod yX4_levelSent, Cond.selects RX4 yX4_levelSent yX4_levelSent, Cond.code yX4_levelSent cX4_levelSent 3 (some .int), Cond.methodLink RX4 174 yX2_bitToSend, Cond.instanceMethod yX2_bitToSend, Cond.selects RX2 yX2_bitToSend yX2_bitToSend, Cond.code yX2_bitToSend cX2_bitToSend 1 (some .int), Cond.methodLink RX2 89 yX1_bitAt, Cond.instanceMethod yX1_bitAt, Cond.selects RX1 yX1_bitAt yX1_bitAt]
def wsL_step_r6 : List Cond := [Cond.code yX1_bitAt cX1_bitAt 2 (some .int), Cond.methodLink RX2 93 yX3_givesAnswer, Cond.instanceMethod yX3_givesAnswer, Cond.selects RX3 yX3_givesAnswer yX3_givesAnswer, Cond.code yX3_givesAnswer cX3_givesAnswer 1 (some .boolean), Cond.methodLink RX3 47 yX3_hasWholeFrame, Cond.instanceMethod yX3_hasWholeFrame, Cond.selects RX3 yX3_hasWholeFrame yX3_hasWholeFrame, Cond.code yX3_hasWholeFrame cX3_hasWholeFrame 1 (some .boolean), Cond.methodLink RX4 158 yX4_someFindFaults, Cond.instanceMethod yX4_someFindFaults, Cond.selects RX4 yX4_someFindFaults yX4_someFindFaults, Cond.code yX4_someFindFaults cX4_someFindFaults 5 (some .boolean), Cond.fieldLink RX4 181 "SharedWire$Node" "found" "I", Cond.methodLink RX4 177 yX2_look, Cond.instanceMethod yX2_look, Cond.selects RX2 yX2_look yX2_look, Cond.code yX2_look cX2_look 3 none, Cond.fieldLink RX2 62 "SharedWire$Node" "found" "I", Cond.methodLink RX2 97 yX2_lookAsSender, Cond.instanceMethod yX2_lookAsSender, Cond.selects RX2 yX2_lookAsSender yX2_lookAsSender, Cond.code yX2_lookAsSender cX2_lookAsSender 3 none, Cond.methodLink RX2 116 yX1_isAnswer]
def wsL_step_r7 : List Cond := [Cond.instanceMethod yX1_isAnswer, Cond.selects RX1 yX1_isAnswer yX1_isAnswer, Cond.code yX1_isAnswer cX1_isAnswer 2 (some .boolean), Cond.methodLink RX2 120 yX1_mayLose, Cond.instanceMethod yX1_mayLose, Cond.selects RX1 yX1_mayLose yX1_mayLose, Cond.code yX1_mayLose cX1_mayLose 2 (some .boolean), Cond.methodLink RX2 101 yX3_take, Cond.instanceMethod yX3_take, Cond.selects RX3 yX3_take yX3_take, Cond.code yX3_take cX3_take 3 (some .int), Cond.methodLink RX3 51 yX3_takeTail, Cond.instanceMethod yX3_takeTail, Cond.selects RX3 yX3_takeTail yX3_takeTail, Cond.code yX3_takeTail cX3_takeTail 2 (some .int), Cond.methodLink RX3 55 yX3_takeFramed, Cond.instanceMethod yX3_takeFramed, Cond.selects RX3 yX3_takeFramed yX3_takeFramed, Cond.code yX3_takeFramed cX3_takeFramed 3 none, Cond.methodLink RX3 63 yX3_takeHead, Cond.instanceMethod yX3_takeHead, Cond.selects RX3 yX3_takeHead yX3_takeHead, Cond.code yX3_takeHead cX3_takeHead 5 none, Cond.fieldLink RX3 73 "SharedWire$Frame" "isLong" "Z"]
def wsL_step_r8 : List Cond := [Cond.fieldLink RX3 77 "SharedWire$Frame" "identifier" "I", Cond.methodLink RX3 67 yX3_takeSize, Cond.instanceMethod yX3_takeSize, Cond.selects RX3 yX3_takeSize yX3_takeSize, Cond.code yX3_takeSize cX3_takeSize 3 none, Cond.fieldLink RX3 80 "SharedWire$Frame" "size" "I", Cond.methodLink RX3 83 Lib.Math.min.name, Cond.static Lib.Math.min.name, Cond.initialized "java/lang/Math", Cond.code Lib.Math.min.name Lib.Math.min.code 2 (some .int), Cond.methodLink RX3 70 yX3_takeData, Cond.instanceMethod yX3_takeData, Cond.selects RX3 yX3_takeData yX3_takeData, Cond.code yX3_takeData cX3_takeData 5 none, Cond.fieldLink RX3 88 "SharedWire$Frame" "data" "J", Cond.methodLink RX4 162 yX4_breakOff, Cond.instanceMethod yX4_breakOff, Cond.selects RX4 yX4_breakOff yX4_breakOff, Cond.code yX4_breakOff cX4_breakOff 2 none, Cond.methodLink RX4 184 yX2_countFault, Cond.instanceMethod yX2_countFault, Cond.selects RX2 yX2_countFault yX2_countFault, Cond.code yX2_countFault cX2_countFault 1 none, Cond.fieldLink RX2 59 "SharedWire$Node" "lastFault" "I"]
def wsL_step_r9 : List Cond := [Cond.fieldLink RX2 47 "SharedWire$Node" "sendingCount" "I", Cond.fieldLink RX2 50 "SharedWire$Node" "receivingCount" "I", Cond.methodLink RX4 165 yX4_goOn, Cond.instanceMethod yX4_goOn, Cond.selects RX4 yX4_goOn yX4_goOn, Cond.code yX4_goOn cX4_goOn 3 none, Cond.fieldLink RX4 75 "SharedWire$Node" "role" "I", Cond.methodLink RX4 187 yX2_endFrame, Cond.instanceMethod yX2_endFrame, Cond.selects RX2 yX2_endFrame yX2_endFrame, Cond.code yX2_endFrame cX2_endFrame 1 none, Cond.fieldLink RX2 104 "SharedWire$Line" "length" "I", Cond.methodLink RX2 107 yX2_endSending, Cond.instanceMethod yX2_endSending, Cond.selects RX2 yX2_endSending yX2_endSending, Cond.code yX2_endSending cX2_endSending 1 none, Cond.fieldLink RX2 53 "SharedWire$Node" "framesSent" "I", Cond.methodLink RX2 123 Lib.Math.max.name, Cond.static Lib.Math.max.name, Cond.code Lib.Math.max.name Lib.Math.max.code 2 (some .int), Cond.methodLink RX2 129 yX2_removeWanted, Cond.instanceMethod yX2_removeWanted, Cond.selects RX2 yX2_removeWanted yX2_removeWanted, Cond.code yX2_removeWanted cX2_removeWanted 4 none]
def wsL_step_r10 : List Cond := [Cond.methodLink RX2 110 yX3_isFinished, Cond.instanceMethod yX3_isFinished, Cond.selects RX3 yX3_isFinished yX3_isFinished, Cond.code yX3_isFinished cX3_isFinished 1 (some .boolean), Cond.methodLink RX2 113 yX2_endReading, Cond.instanceMethod yX2_endReading, Cond.selects RX2 yX2_endReading yX2_endReading, Cond.code yX2_endReading cX2_endReading 2 none, Cond.fieldLink RX2 56 "SharedWire$Node" "framesReceived" "I", Cond.fieldLink RX2 132 "SharedWire$Reader" "frame" "LSharedWire$Frame;", Cond.fieldLink RX2 18 "SharedWire$Node" "lastReceived" "LSharedWire$Frame;", Cond.fieldLink RX2 135 "SharedWire$Frame" "isLong" "Z", Cond.fieldLink RX2 138 "SharedWire$Frame" "identifier" "I", Cond.fieldLink RX2 141 "SharedWire$Frame" "data" "J", Cond.fieldLink RX2 145 "SharedWire$Frame" "size" "I", Cond.methodLink RX2 71 yX0_set]
def wsL_step : List Cond := .codeWith yL_step cL_step 5 (some .int) [(0, 10, 13, 15)] :: ((wsL_step_r1 ++ (wsL_step_r2 ++ (wsL_step_r3 ++ (wsL_step_r4 ++ (wsL_step_r5 ++ (wsL_step_r6 ++ (wsL_step_r7 ++ (wsL_step_r8 ++ (wsL_step_r9 ++ wsL_step_r10))))))))) ++ wsX40 ++ wsX20 ++ wsX00 ++ wsX10 ++ wsX30 ++ (vx_at0 RX4 53 "java/lang/IllegalArgumentException" ["java/lang/RuntimeException", "java/lang/Exception"]).filter goodWord)
def wsL_join : List Cond := .codeWith yL_join cL_join 4 (some .int) [(0, 16, 19, 13)] :: ([.classLink RL 13 "java/lang/IndexOutOfBoundsException", .methodLink RL 23 yX4_join, .instanceMethod yX4_join, .selects RX4 yX4_join yX4_join, .initialized RX4, .code yX4_join cX4_join 3 (some .boolean), .classLink RX4 48 "java/lang/IndexOutOfBoundsException", .initialized "java/lang/IndexOutOfBoundsException", .fieldLink RX4 11 "SharedWire" "nodes" "[LSharedWire$Node;", .fieldLink RX4 68 "SharedWire$Node" "on" "Z", .methodLink RX4 44 yX4_isNode, .static yX4_isNode, .code yX4_isNode cX4_isNode 1 (some .boolean), .methodLink RX4 72 yX2_switchOn, .instanceMethod yX2_switchOn, .selects RX2 yX2_switchOn yX2_switchOn, .initialized RX2, .code yX2_switchOn cX2_switchOn 1 none, .fieldLink RX2 36 "SharedWire$Node" "on" "Z", .fieldLink RX2 47 "SharedWire$Node" "sendingCount" "I", .fieldLink RX2 50 "SharedWire$Node" "receivingCount" "I"] ++ wsX40 ++ wsX20 ++ (vx_at0 RX4 50 "java/lang/IndexOutOfBoundsException" ["java/lang/RuntimeException", "java/lang/Exception"]).filter goodWord)
def wsL_node : List Cond := .codeWith yL_node cL_node 5 (some .int) [(0, 10, 13, 13)] :: ([.classLink RL 13 "java/lang/IndexOutOfBoundsException", .methodLink RL 27 yX4_node, .instanceMethod yX4_node, .selects RX4 yX4_node yX4_node, .initialized RX4, .code yX4_node cX4_node 4 (some .int), .classLink RX4 48 "java/lang/IndexOutOfBoundsException", .initialized "java/lang/IndexOutOfBoundsException", .fieldLink RX4 11 "SharedWire" "nodes" "[LSharedWire$Node;", .fieldLink RX4 68 "SharedWire$Node" "on" "Z", .fieldLink RX4 75 "SharedWire$Node" "role" "I", .fieldLink RX4 78 "SharedWire$Node" "sendingCount" "I", .fieldLink RX4 81 "SharedWire$Node" "receivingCount" "I", .fieldLink RX4 54 "SharedWire$Node" "wants" "I", .fieldLink RX4 84 "SharedWire$Node" "framesSent" "I", .fieldLink RX4 87 "SharedWire$Node" "framesReceived" "I", .fieldLink RX4 90 "SharedWire$Node" "lastFault" "I", .methodLink RX4 44 yX4_isNode, .static yX4_isNode, .code yX4_isNode cX4_isNode 1 (some .boolean)] ++ wsX40 ++ wsX20 ++ (vx_at0 RX4 50 "java/lang/IndexOutOfBoundsException" ["java/lang/RuntimeException", "java/lang/Exception"]).filter goodWord)
def wsL_received : List Cond := .codeWith yL_received cL_received 5 (some .int) [(0, 9, 12, 13), (0, 9, 16, 34)] :: ([.classLink RL 13 "java/lang/IndexOutOfBoundsException", .classLink RL 34 "java/util/NoSuchElementException", .methodLink RL 30 yX4_received, .instanceMethod yX4_received, .selects RX4 yX4_received yX4_received, .initialized RX4, .code yX4_received cX4_received 5 (some .long), .classLink RX4 48 "java/lang/IndexOutOfBoundsException", .initialized "java/lang/IndexOutOfBoundsException", .classLink RX4 93 "java/util/NoSuchElementException", .initialized "java/util/NoSuchElementException", .fieldLink RX4 11 "SharedWire" "nodes" "[LSharedWire$Node;", .fieldLink RX4 87 "SharedWire$Node" "framesReceived" "I", .fieldLink RX4 96 "SharedWire$Node" "lastReceived" "LSharedWire$Frame;", .fieldLink RX4 100 "SharedWire$Frame" "identifier" "I", .fieldLink RX4 105 "SharedWire$Frame" "isLong" "Z", .fieldLink RX4 108 "SharedWire$Frame" "size" "I", .fieldLink RX4 111 "SharedWire$Frame" "data" "J", .methodLink RX4 44 yX4_isNode, .static yX4_isNode, .code yX4_isNode cX4_isNode 1 (some .boolean)] ++ wsX40 ++ wsX20 ++ wsX00 ++ (vx_at0 RX4 50 "java/lang/IndexOutOfBoundsException" ["java/lang/RuntimeException", "java/lang/Exception"]).filter goodWord ++ (vx_at0 RX4 95 "java/util/NoSuchElementException" ["java/lang/RuntimeException", "java/lang/Exception"]).filter goodWord)
def wsL_tape_r1 : List Cond := [Cond.classLink RL 13 "java/lang/IndexOutOfBoundsException", Cond.classLink RL 34 "java/util/NoSuchElementException", Cond.methodLink RL 36 yX4_tape, Cond.instanceMethod yX4_tape, Cond.selects RX4 yX4_tape yX4_tape, Cond.initialized RX4, Cond.code yX4_tape cX4_tape 5 (some .int), Cond.classLink RX4 48 "java/lang/IndexOutOfBoundsException", Cond.initialized "java/lang/IndexOutOfBoundsException", Cond.classLink RX4 93 "java/util/NoSuchElementException", Cond.initialized "java/util/NoSuchElementException", Cond.fieldLink RX4 11 "SharedWire" "nodes" "[LSharedWire$Node;", Cond.fieldLink RX4 32 "SharedWire" "tapeLine" "LSharedWire$Line;", Cond.fieldLink RX4 119 "SharedWire$Node" "wanted" "[LSharedWire$Frame;", Cond.fieldLink RX4 127 "SharedWire$Line" "length" "I", Cond.fieldLink RX4 26 "SharedWire" "tapeLength" "I", Cond.fieldLink RX4 22 "SharedWire" "tapeBits" "[I", Cond.methodLink RX4 44 yX4_isNode, Cond.static yX4_isNode, Cond.code yX4_isNode cX4_isNode 1 (some .boolean), Cond.methodLink RX4 115 yX2_offered, Cond.instanceMethod yX2_offered, Cond.selects RX2 yX2_offered yX2_offered, Cond.initialized RX2]
def wsL_tape_r2 : List Cond := [Cond.code yX2_offered cX2_offered 3 (some .int), Cond.fieldLink RX2 44 "SharedWire$Node" "wants" "I", Cond.fieldLink RX2 11 "SharedWire$Node" "wanted" "[LSharedWire$Frame;", Cond.methodLink RX2 75 yX0_rank, Cond.instanceMethod yX0_rank, Cond.selects RX0 yX0_rank yX0_rank, Cond.initialized RX0, Cond.code yX0_rank cX0_rank 2 (some .int), Cond.fieldLink RX0 9 "SharedWire$Frame" "isLong" "Z", Cond.fieldLink RX0 15 "SharedWire$Frame" "identifier" "I", Cond.constant RX0 26 (262143), Cond.constant RX0 27 (262144), Cond.methodLink RX4 123 yX1_write, Cond.instanceMethod yX1_write, Cond.selects RX1 yX1_write yX1_write, Cond.initialized RX1, Cond.code yX1_write cX1_write 3 none, Cond.fieldLink RX1 44 "SharedWire$Frame" "isLong" "Z", Cond.fieldLink RX1 50 "SharedWire$Frame" "identifier" "I", Cond.fieldLink RX1 25 "SharedWire$Line" "framed" "I", Cond.fieldLink RX1 22 "SharedWire$Line" "head" "I", Cond.fieldLink RX1 53 "SharedWire$Frame" "size" "I", Cond.fieldLink RX1 56 "SharedWire$Frame" "data" "J", Cond.constantLong RX1 60 (255)]
def wsL_tape_r3 : List Cond := [Cond.fieldLink RX1 34 "SharedWire$Line" "check" "I", Cond.methodLink RX1 37 yX1_clear, Cond.instanceMethod yX1_clear, Cond.selects RX1 yX1_clear yX1_clear, Cond.code yX1_clear cX1_clear 1 none, Cond.fieldLink RX1 18 "SharedWire$Line" "length" "I", Cond.fieldLink RX1 28 "SharedWire$Line" "alike" "I", Cond.fieldLink RX1 31 "SharedWire$Line" "last" "I", Cond.methodLink RX1 40 yX1_addNumber, Cond.instanceMethod yX1_addNumber, Cond.selects RX1 yX1_addNumber yX1_addNumber, Cond.code yX1_addNumber cX1_addNumber 5 none, Cond.methodLink RX1 62 yX1_append, Cond.instanceMethod yX1_append, Cond.selects RX1 yX1_append yX1_append, Cond.code yX1_append cX1_append 3 none, Cond.fieldLink RX1 9 "SharedWire$Line" "bits" "[I", Cond.fieldLink RX1 15 "SharedWire$Line" "places" "[I", Cond.static yX4_nextCheck, Cond.code yX4_nextCheck cX4_nextCheck 4 (some .int), Cond.methodLink RX4 130 yX1_bitAt, Cond.instanceMethod yX1_bitAt, Cond.selects RX1 yX1_bitAt yX1_bitAt, Cond.code yX1_bitAt cX1_bitAt 2 (some .int)]
def wsL_tape : List Cond := .codeWith yL_tape cL_tape 4 (some .int) [(0, 9, 12, 13), (0, 9, 15, 34)] :: ((wsL_tape_r1 ++ (wsL_tape_r2 ++ wsL_tape_r3)) ++ wsX40 ++ wsX20 ++ wsX10 ++ wsX00 ++ (vx_at0 RX4 50 "java/lang/IndexOutOfBoundsException" ["java/lang/RuntimeException", "java/lang/Exception"]).filter goodWord ++ (vx_at0 RX4 95 "java/util/NoSuchElementException" ["java/lang/RuntimeException", "java/lang/Exception"]).filter goodWord)
def wsL_bit : List Cond := .codeWith yL_bit cL_bit 4 (some .int) [(0, 9, 12, 13)] :: ([.classLink RL 13 "java/lang/IndexOutOfBoundsException", .methodLink RL 40 yX4_bit, .instanceMethod yX4_bit, .selects RX4 yX4_bit yX4_bit, .initialized RX4, .code yX4_bit cX4_bit 2 (some .int), .classLink RX4 48 "java/lang/IndexOutOfBoundsException", .initialized "java/lang/IndexOutOfBoundsException", .fieldLink RX4 22 "SharedWire" "tapeBits" "[I", .methodLink RX4 133 yX4_isOnTape, .instanceMethod yX4_isOnTape, .selects RX4 yX4_isOnTape yX4_isOnTape, .code yX4_isOnTape cX4_isOnTape 2 (some .boolean), .fieldLink RX4 26 "SharedWire" "tapeLength" "I"] ++ wsX40 ++ (vx_at0 RX4 50 "java/lang/IndexOutOfBoundsException" ["java/lang/RuntimeException", "java/lang/Exception"]).filter goodWord)
def wsL_flip : List Cond := .codeWith yL_flip cL_flip 3 (some .int) [(0, 5, 8, 13)] :: ([.classLink RL 13 "java/lang/IndexOutOfBoundsException", .methodLink RL 43 yX4_flip, .instanceMethod yX4_flip, .selects RX4 yX4_flip yX4_flip, .initialized RX4, .code yX4_flip cX4_flip 2 none, .classLink RX4 48 "java/lang/IndexOutOfBoundsException", .initialized "java/lang/IndexOutOfBoundsException", .fieldLink RX4 22 "SharedWire" "tapeBits" "[I", .methodLink RX4 133 yX4_isOnTape, .instanceMethod yX4_isOnTape, .selects RX4 yX4_isOnTape yX4_isOnTape, .code yX4_isOnTape cX4_isOnTape 2 (some .boolean), .fieldLink RX4 26 "SharedWire" "tapeLength" "I"] ++ wsX40 ++ (vx_at0 RX4 50 "java/lang/IndexOutOfBoundsException" ["java/lang/RuntimeException", "java/lang/Exception"]).filter goodWord)
def wsL_law0_r1 : List Cond := [Cond.classLink RL 8 RX4, Cond.instantiable RX4 7, Cond.initialized RX4, Cond.classLink RL 48 RX5, Cond.instantiable RX5 35, Cond.initialized RX5, Cond.arrayClass .long, Cond.constantLong RL 51 (4294967295), Cond.methodLink RL 47 yX4_init, Cond.instanceMethod yX4_init, Cond.code yX4_init cX4_init 2 none, Cond.methodLink RX4 3 objectInit, Cond.instanceMethod objectInit, Cond.code objectInit ⟨#[0xb1]⟩ 1 none, Cond.classLink RX4 9 RX2, Cond.fieldLink RX4 11 "SharedWire" "nodes" "[LSharedWire$Node;", Cond.fieldLink RX4 15 "SharedWire" "state" "I", Cond.fieldLink RX4 19 "SharedWire" "stepsLeft" "I", Cond.arrayClass .int, Cond.fieldLink RX4 22 "SharedWire" "tapeBits" "[I", Cond.fieldLink RX4 26 "SharedWire" "tapeLength" "I", Cond.classLink RX4 29 RX1, Cond.instantiable RX1 8, Cond.initialized RX1]
def wsL_law0_r2 : List Cond := [Cond.fieldLink RX4 32 "SharedWire" "tapeLine" "LSharedWire$Line;", Cond.classLink RX4 36 RX3, Cond.instantiable RX3 9, Cond.initialized RX3, Cond.fieldLink RX4 39 "SharedWire" "tapeReader" "LSharedWire$Reader;", Cond.instantiable RX2 15, Cond.initialized RX2, Cond.instanceMethod yX1_init, Cond.code yX1_init cX1_init 1 none, Cond.methodLink RX1 3 objectInit, Cond.fieldLink RX1 9 "SharedWire$Line" "bits" "[I", Cond.fieldLink RX1 15 "SharedWire$Line" "places" "[I", Cond.fieldLink RX1 18 "SharedWire$Line" "length" "I", Cond.fieldLink RX1 22 "SharedWire$Line" "head" "I", Cond.fieldLink RX1 25 "SharedWire$Line" "framed" "I", Cond.fieldLink RX1 28 "SharedWire$Line" "alike" "I", Cond.fieldLink RX1 31 "SharedWire$Line" "last" "I", Cond.fieldLink RX1 34 "SharedWire$Line" "check" "I", Cond.instanceMethod yX3_init, Cond.code yX3_init cX3_init 1 none, Cond.methodLink RX3 3 objectInit, Cond.classLink RX3 9 RX0, Cond.instantiable RX0 4, Cond.initialized RX0]
def wsL_law0_r3 : List Cond := [Cond.fieldLink RX3 12 "SharedWire$Reader" "frame" "LSharedWire$Frame;", Cond.fieldLink RX3 18 "SharedWire$Reader" "taken" "I", Cond.fieldLink RX3 22 "SharedWire$Reader" "tail" "I", Cond.fieldLink RX3 25 "SharedWire$Reader" "alike" "I", Cond.fieldLink RX3 28 "SharedWire$Reader" "last" "I", Cond.fieldLink RX3 31 "SharedWire$Reader" "check" "I", Cond.fieldLink RX3 34 "SharedWire$Reader" "checkTaken" "I", Cond.fieldLink RX3 37 "SharedWire$Reader" "sizePlace" "I", Cond.fieldLink RX3 40 "SharedWire$Reader" "checkPlace" "I", Cond.instanceMethod yX0_init, Cond.code yX0_init cX0_init 1 none, Cond.methodLink RX0 3 objectInit, Cond.fieldLink RX0 9 "SharedWire$Frame" "isLong" "Z", Cond.fieldLink RX0 15 "SharedWire$Frame" "identifier" "I", Cond.fieldLink RX0 19 "SharedWire$Frame" "data" "J", Cond.fieldLink RX0 23 "SharedWire$Frame" "size" "I", Cond.methodLink RX4 43 yX2_init, Cond.instanceMethod yX2_init, Cond.code yX2_init cX2_init 2 none, Cond.methodLink RX2 3 objectInit, Cond.classLink RX2 9 RX0, Cond.fieldLink RX2 11 "SharedWire$Node" "wanted" "[LSharedWire$Frame;", Cond.fieldLink RX2 18 "SharedWire$Node" "lastReceived" "LSharedWire$Frame;", Cond.classLink RX2 22 RX1]
def wsL_law0_r4 : List Cond := [Cond.fieldLink RX2 25 "SharedWire$Node" "line" "LSharedWire$Line;", Cond.classLink RX2 29 RX3, Cond.fieldLink RX2 32 "SharedWire$Node" "reader" "LSharedWire$Reader;", Cond.fieldLink RX2 36 "SharedWire$Node" "on" "Z", Cond.fieldLink RX2 40 "SharedWire$Node" "role" "I", Cond.fieldLink RX2 44 "SharedWire$Node" "wants" "I", Cond.fieldLink RX2 47 "SharedWire$Node" "sendingCount" "I", Cond.fieldLink RX2 50 "SharedWire$Node" "receivingCount" "I", Cond.fieldLink RX2 53 "SharedWire$Node" "framesSent" "I", Cond.fieldLink RX2 56 "SharedWire$Node" "framesReceived" "I", Cond.fieldLink RX2 59 "SharedWire$Node" "lastFault" "I", Cond.fieldLink RX2 62 "SharedWire$Node" "found" "I", Cond.fieldLink RX2 65 "SharedWire$Node" "sending" "I", Cond.fieldLink RX2 68 "SharedWire$Node" "next" "I", Cond.methodLink RL 50 yX5_init, Cond.instanceMethod yX5_init, Cond.code yX5_init cX5_init 1 none, Cond.methodLink RX5 1 objectInit, Cond.fieldLink RX5 9 "SharedWireModel" "state" "[I", Cond.fieldLink RX5 13 "SharedWireModel" "sending" "[I", Cond.fieldLink RX5 16 "SharedWireModel" "receiving" "[I", Cond.fieldLink RX5 19 "SharedWireModel" "sent" "[I", Cond.fieldLink RX5 22 "SharedWireModel" "gotten" "[I", Cond.fieldLink RX5 25 "SharedWireModel" "lastFault" "[I"]
def wsL_law0_r5 : List Cond := [Cond.fieldLink RX5 28 "SharedWireModel" "wants" "[I", Cond.arrayClass .boolean, Cond.fieldLink RX5 31 "SharedWireModel" "longs" "[Z", Cond.fieldLink RX5 35 "SharedWireModel" "identifiers" "[I", Cond.fieldLink RX5 38 "SharedWireModel" "data" "[J", Cond.fieldLink RX5 42 "SharedWireModel" "bytes" "[I", Cond.fieldLink RX5 45 "SharedWireModel" "hasLong" "[Z", Cond.fieldLink RX5 48 "SharedWireModel" "hasIdentifier" "[I", Cond.fieldLink RX5 51 "SharedWireModel" "hasData" "[J", Cond.fieldLink RX5 54 "SharedWireModel" "hasBytes" "[I", Cond.fieldLink RX5 57 "SharedWireModel" "wireBits" "[I", Cond.fieldLink RX5 60 "SharedWireModel" "places" "[I", Cond.fieldLink RX5 63 "SharedWireModel" "wireSize" "[I", Cond.fieldLink RX5 66 "SharedWireModel" "at" "[I", Cond.fieldLink RX5 69 "SharedWireModel" "mine" "[I", Cond.fieldLink RX5 72 "SharedWireModel" "numbers" "[I", Cond.fieldLink RX5 75 "SharedWireModel" "bits" "[I", Cond.fieldLink RX5 78 "SharedWireModel" "count" "[I", Cond.fieldLink RX5 81 "SharedWireModel" "run" "[I", Cond.fieldLink RX5 84 "SharedWireModel" "last" "[I", Cond.fieldLink RX5 87 "SharedWireModel" "need" "[I", Cond.fieldLink RX5 90 "SharedWireModel" "tail" "[I", Cond.fieldLink RX5 93 "SharedWireModel" "tape" "[I", Cond.fieldLink RX5 96 "SharedWireModel" "frame" "[I"]
def wsL_law0_r6 : List Cond := [Cond.methodLink RL 53 yL_want, Cond.static yL_want, Cond.initialized RL, Cond.codeWith yL_want cL_want 9 (some .int) [(0, 16, 19, 13), (0, 16, 23, 15), (0, 16, 27, 17)], Cond.classLink RL 13 "java/lang/IndexOutOfBoundsException", Cond.classLink RL 15 "java/lang/IllegalArgumentException", Cond.classLink RL 17 "java/lang/UnsupportedOperationException", Cond.methodLink RL 7 yX4_want, Cond.instanceMethod yX4_want, Cond.selects RX4 yX4_want yX4_want, Cond.code yX4_want cX4_want 9 (some .int), Cond.classLink RX4 48 "java/lang/IndexOutOfBoundsException", Cond.initialized "java/lang/IndexOutOfBoundsException", Cond.classLink RX4 51 "java/lang/IllegalArgumentException", Cond.initialized "java/lang/IllegalArgumentException", Cond.classLink RX4 57 "java/lang/UnsupportedOperationException", Cond.initialized "java/lang/UnsupportedOperationException", Cond.fieldLink RX4 54 "SharedWire$Node" "wants" "I", Cond.methodLink RX4 44 yX4_isNode, Cond.static yX4_isNode, Cond.code yX4_isNode cX4_isNode 1 (some .boolean), Cond.methodLink RX4 60 yX2_addWanted, Cond.instanceMethod yX2_addWanted, Cond.selects RX2 yX2_addWanted yX2_addWanted]
def wsL_law0_r7 : List Cond := [Cond.code yX2_addWanted cX2_addWanted 6 none, Cond.methodLink RX2 71 yX0_set, Cond.instanceMethod yX0_set, Cond.selects RX0 yX0_set yX0_set, Cond.code yX0_set cX0_set 6 none, Cond.methodLink RL 58 yX5_want, Cond.instanceMethod yX5_want, Cond.selects RX5 yX5_want yX5_want, Cond.code yX5_want cX5_want 9 (some .int), Cond.constant RX5 146 (536870912), Cond.fieldLink RX5 99 "SharedWireModel" "thrown" "I", Cond.fieldLink RX5 150 "SharedWireModel" "given" "I", Cond.methodLink RX5 147 yX5_isNode, Cond.static yX5_isNode, Cond.code yX5_isNode cX5_isNode 1 (some .boolean), Cond.methodLink RL 59 yX5_thrown, Cond.instanceMethod yX5_thrown, Cond.selects RX5 yX5_thrown yX5_thrown, Cond.code yX5_thrown cX5_thrown 1 (some .int), Cond.methodLink RL 63 yL_step, Cond.static yL_step, Cond.codeWith yL_step cL_step 5 (some .int) [(0, 10, 13, 15)], Cond.methodLink RL 19 yX4_step, Cond.instanceMethod yX4_step]
def wsL_law0_r8 : List Cond := [Cond.selects RX4 yX4_step yX4_step, Cond.code yX4_step cX4_step 5 (some .int), Cond.methodLink RX4 64 yX4_oneStep, Cond.instanceMethod yX4_oneStep, Cond.selects RX4 yX4_oneStep yX4_oneStep, Cond.code yX4_oneStep cX4_oneStep 3 (some .int), Cond.methodLink RX4 146 yX4_brokenStep, Cond.instanceMethod yX4_brokenStep, Cond.selects RX4 yX4_brokenStep yX4_brokenStep, Cond.code yX4_brokenStep cX4_brokenStep 2 (some .int), Cond.methodLink RX4 168 yX4_beginPause, Cond.instanceMethod yX4_beginPause, Cond.selects RX4 yX4_beginPause yX4_beginPause, Cond.code yX4_beginPause cX4_beginPause 1 none, Cond.methodLink RX4 149 yX4_pauseStep, Cond.instanceMethod yX4_pauseStep, Cond.selects RX4 yX4_pauseStep yX4_pauseStep, Cond.code yX4_pauseStep cX4_pauseStep 1 (some .int), Cond.methodLink RX4 152 yX4_startSenders, Cond.instanceMethod yX4_startSenders, Cond.selects RX4 yX4_startSenders yX4_startSenders, Cond.code yX4_startSenders cX4_startSenders 2 none, Cond.methodLink RX4 171 yX2_startSending, Cond.instanceMethod yX2_startSending]
def wsL_law0_r9 : List Cond := [Cond.selects RX2 yX2_startSending yX2_startSending, Cond.code yX2_startSending cX2_startSending 2 none, Cond.methodLink RX2 79 yX2_offered, Cond.instanceMethod yX2_offered, Cond.selects RX2 yX2_offered yX2_offered, Cond.code yX2_offered cX2_offered 3 (some .int), Cond.methodLink RX2 75 yX0_rank, Cond.instanceMethod yX0_rank, Cond.selects RX0 yX0_rank yX0_rank, Cond.code yX0_rank cX0_rank 2 (some .int), Cond.constant RX0 26 (262143), Cond.constant RX0 27 (262144), Cond.methodLink RX2 82 yX1_write, Cond.instanceMethod yX1_write, Cond.selects RX1 yX1_write yX1_write, Cond.code yX1_write cX1_write 3 none, Cond.fieldLink RX1 44 "SharedWire$Frame" "isLong" "Z", Cond.fieldLink RX1 50 "SharedWire$Frame" "identifier" "I", Cond.fieldLink RX1 53 "SharedWire$Frame" "size" "I", Cond.fieldLink RX1 56 "SharedWire$Frame" "data" "J", Cond.constantLong RX1 60 (255), Cond.methodLink RX1 37 yX1_clear, Cond.instanceMethod yX1_clear, Cond.selects RX1 yX1_clear yX1_clear]
def wsL_law0_r10 : List Cond := [Cond.code yX1_clear cX1_clear 1 none, Cond.methodLink RX1 40 yX1_addNumber, Cond.instanceMethod yX1_addNumber, Cond.selects RX1 yX1_addNumber yX1_addNumber, Cond.code yX1_addNumber cX1_addNumber 5 none, Cond.methodLink RX1 62 yX1_append, Cond.instanceMethod yX1_append, Cond.selects RX1 yX1_append yX1_append, Cond.code yX1_append cX1_append 3 none, Cond.static yX4_nextCheck, Cond.code yX4_nextCheck cX4_nextCheck 4 (some .int), Cond.methodLink RX2 86 yX3_begin, Cond.instanceMethod yX3_begin, Cond.selects RX3 yX3_begin yX3_begin, Cond.code yX3_begin cX3_begin 1 none, Cond.methodLink RX3 43 yX0_set, Cond.methodLink RX4 155 yX4_levelSent, Cond.instanceMethod yX4_levelSent, Cond.selects RX4 yX4_levelSent yX4_levelSent, Cond.code yX4_levelSent cX4_levelSent 3 (some .int), Cond.methodLink RX4 174 yX2_bitToSend, Cond.instanceMethod yX2_bitToSend, Cond.selects RX2 yX2_bitToSend yX2_bitToSend, Cond.code yX2_bitToSend cX2_bitToSend 1 (some .int)]
def wsL_law0_r11 : List Cond := [Cond.methodLink RX2 89 yX1_bitAt, Cond.instanceMethod yX1_bitAt, Cond.selects RX1 yX1_bitAt yX1_bitAt, Cond.code yX1_bitAt cX1_bitAt 2 (some .int), Cond.methodLink RX2 93 yX3_givesAnswer, Cond.instanceMethod yX3_givesAnswer, Cond.selects RX3 yX3_givesAnswer yX3_givesAnswer, Cond.code yX3_givesAnswer cX3_givesAnswer 1 (some .boolean), Cond.methodLink RX3 47 yX3_hasWholeFrame, Cond.instanceMethod yX3_hasWholeFrame, Cond.selects RX3 yX3_hasWholeFrame yX3_hasWholeFrame, Cond.code yX3_hasWholeFrame cX3_hasWholeFrame 1 (some .boolean), Cond.methodLink RX4 158 yX4_someFindFaults, Cond.instanceMethod yX4_someFindFaults, Cond.selects RX4 yX4_someFindFaults yX4_someFindFaults, Cond.code yX4_someFindFaults cX4_someFindFaults 5 (some .boolean), Cond.fieldLink RX4 181 "SharedWire$Node" "found" "I", Cond.methodLink RX4 177 yX2_look, Cond.instanceMethod yX2_look, Cond.selects RX2 yX2_look yX2_look, Cond.code yX2_look cX2_look 3 none, Cond.methodLink RX2 97 yX2_lookAsSender, Cond.instanceMethod yX2_lookAsSender, Cond.selects RX2 yX2_lookAsSender yX2_lookAsSender]
def wsL_law0_r12 : List Cond := [Cond.code yX2_lookAsSender cX2_lookAsSender 3 none, Cond.methodLink RX2 116 yX1_isAnswer, Cond.instanceMethod yX1_isAnswer, Cond.selects RX1 yX1_isAnswer yX1_isAnswer, Cond.code yX1_isAnswer cX1_isAnswer 2 (some .boolean), Cond.methodLink RX2 120 yX1_mayLose, Cond.instanceMethod yX1_mayLose, Cond.selects RX1 yX1_mayLose yX1_mayLose, Cond.code yX1_mayLose cX1_mayLose 2 (some .boolean), Cond.methodLink RX2 101 yX3_take, Cond.instanceMethod yX3_take, Cond.selects RX3 yX3_take yX3_take, Cond.code yX3_take cX3_take 3 (some .int), Cond.methodLink RX3 51 yX3_takeTail, Cond.instanceMethod yX3_takeTail, Cond.selects RX3 yX3_takeTail yX3_takeTail, Cond.code yX3_takeTail cX3_takeTail 2 (some .int), Cond.methodLink RX3 55 yX3_takeFramed, Cond.instanceMethod yX3_takeFramed, Cond.selects RX3 yX3_takeFramed yX3_takeFramed, Cond.code yX3_takeFramed cX3_takeFramed 3 none, Cond.methodLink RX3 63 yX3_takeHead, Cond.instanceMethod yX3_takeHead, Cond.selects RX3 yX3_takeHead yX3_takeHead]
def wsL_law0_r13 : List Cond := [Cond.code yX3_takeHead cX3_takeHead 5 none, Cond.fieldLink RX3 73 "SharedWire$Frame" "isLong" "Z", Cond.fieldLink RX3 77 "SharedWire$Frame" "identifier" "I", Cond.methodLink RX3 67 yX3_takeSize, Cond.instanceMethod yX3_takeSize, Cond.selects RX3 yX3_takeSize yX3_takeSize, Cond.code yX3_takeSize cX3_takeSize 3 none, Cond.fieldLink RX3 80 "SharedWire$Frame" "size" "I", Cond.methodLink RX3 83 Lib.Math.min.name, Cond.static Lib.Math.min.name, Cond.initialized "java/lang/Math", Cond.code Lib.Math.min.name Lib.Math.min.code 2 (some .int), Cond.methodLink RX3 70 yX3_takeData, Cond.instanceMethod yX3_takeData, Cond.selects RX3 yX3_takeData yX3_takeData, Cond.code yX3_takeData cX3_takeData 5 none, Cond.fieldLink RX3 88 "SharedWire$Frame" "data" "J", Cond.methodLink RX4 162 yX4_breakOff, Cond.instanceMethod yX4_breakOff, Cond.selects RX4 yX4_breakOff yX4_breakOff, Cond.code yX4_breakOff cX4_breakOff 2 none, Cond.methodLink RX4 184 yX2_countFault, Cond.instanceMethod yX2_countFault, Cond.selects RX2 yX2_countFault yX2_countFault]
def wsL_law0_r14 : List Cond := [Cond.code yX2_countFault cX2_countFault 1 none, Cond.methodLink RX4 165 yX4_goOn, Cond.instanceMethod yX4_goOn, Cond.selects RX4 yX4_goOn yX4_goOn, Cond.code yX4_goOn cX4_goOn 3 none, Cond.fieldLink RX4 75 "SharedWire$Node" "role" "I", Cond.methodLink RX4 187 yX2_endFrame, Cond.instanceMethod yX2_endFrame, Cond.selects RX2 yX2_endFrame yX2_endFrame, Cond.code yX2_endFrame cX2_endFrame 1 none, Cond.fieldLink RX2 104 "SharedWire$Line" "length" "I", Cond.methodLink RX2 107 yX2_endSending, Cond.instanceMethod yX2_endSending, Cond.selects RX2 yX2_endSending yX2_endSending, Cond.code yX2_endSending cX2_endSending 1 none, Cond.methodLink RX2 123 Lib.Math.max.name, Cond.static Lib.Math.max.name, Cond.code Lib.Math.max.name Lib.Math.max.code 2 (some .int), Cond.methodLink RX2 129 yX2_removeWanted, Cond.instanceMethod yX2_removeWanted, Cond.selects RX2 yX2_removeWanted yX2_removeWanted, Cond.code yX2_removeWanted cX2_removeWanted 4 none, Cond.methodLink RX2 110 yX3_isFinished, Cond.instanceMethod yX3_isFinished]
def wsL_law0_r15 : List Cond := [Cond.selects RX3 yX3_isFinished yX3_isFinished, Cond.code yX3_isFinished cX3_isFinished 1 (some .boolean), Cond.methodLink RX2 113 yX2_endReading, Cond.instanceMethod yX2_endReading, Cond.selects RX2 yX2_endReading yX2_endReading, Cond.code yX2_endReading cX2_endReading 2 none, Cond.fieldLink RX2 132 "SharedWire$Reader" "frame" "LSharedWire$Frame;", Cond.fieldLink RX2 135 "SharedWire$Frame" "isLong" "Z", Cond.fieldLink RX2 138 "SharedWire$Frame" "identifier" "I", Cond.fieldLink RX2 141 "SharedWire$Frame" "data" "J", Cond.fieldLink RX2 145 "SharedWire$Frame" "size" "I", Cond.methodLink RL 66 yX5_step, Cond.instanceMethod yX5_step, Cond.selects RX5 yX5_step yX5_step, Cond.code yX5_step cX5_step 5 (some .int), Cond.methodLink RX5 208 yX5_oneStep, Cond.instanceMethod yX5_oneStep, Cond.selects RX5 yX5_oneStep yX5_oneStep, Cond.code yX5_oneStep cX5_oneStep 3 (some .int), Cond.fieldLink RX5 178 "SharedWireModel" "wire" "I", Cond.fieldLink RX5 181 "SharedWireModel" "left" "I", Cond.methodLink RX5 205 yX5_liveStep, Cond.instanceMethod yX5_liveStep, Cond.selects RX5 yX5_liveStep yX5_liveStep]
def wsL_law0_r16 : List Cond := [Cond.code yX5_liveStep cX5_liveStep 10 (some .int), Cond.methodLink RX5 190 yX5_offerAll, Cond.instanceMethod yX5_offerAll, Cond.selects RX5 yX5_offerAll yX5_offerAll, Cond.code yX5_offerAll cX5_offerAll 3 none, Cond.methodLink RX5 159 yX5_offer, Cond.instanceMethod yX5_offer, Cond.selects RX5 yX5_offer yX5_offer, Cond.code yX5_offer cX5_offer 4 (some .int), Cond.methodLink RX5 142 yX5_comesFirst, Cond.instanceMethod yX5_comesFirst, Cond.selects RX5 yX5_comesFirst yX5_comesFirst, Cond.code yX5_comesFirst cX5_comesFirst 5 (some .boolean), Cond.methodLink RX5 138 yX5_key, Cond.static yX5_key, Cond.code yX5_key cX5_key 2 (some .int), Cond.methodLink RX5 162 yX5_make, Cond.instanceMethod yX5_make, Cond.selects RX5 yX5_make yX5_make, Cond.code yX5_make cX5_make 8 none, Cond.fieldLink RX5 103 "SharedWireModel" "frameSize" "I", Cond.constantLong RX5 110 (255), Cond.methodLink RX5 106 yX5_say, Cond.instanceMethod yX5_say]
def wsL_law0_r17 : List Cond := [Cond.selects RX5 yX5_say yX5_say, Cond.code yX5_say cX5_say 4 none, Cond.methodLink RX5 112 yX5_nextCheck, Cond.static yX5_nextCheck, Cond.code yX5_nextCheck cX5_nextCheck 4 (some .int), Cond.methodLink RX5 116 yX5_lay, Cond.instanceMethod yX5_lay, Cond.selects RX5 yX5_lay yX5_lay, Cond.code yX5_lay cX5_lay 5 (some .int), Cond.methodLink RX5 165 yX5_begin, Cond.instanceMethod yX5_begin, Cond.selects RX5 yX5_begin yX5_begin, Cond.code yX5_begin cX5_begin 2 none, Cond.methodLink RX5 193 yX5_sends, Cond.instanceMethod yX5_sends, Cond.selects RX5 yX5_sends yX5_sends, Cond.code yX5_sends cX5_sends 2 (some .int), Cond.methodLink RX5 156 yX5_answers, Cond.instanceMethod yX5_answers, Cond.selects RX5 yX5_answers yX5_answers, Cond.code yX5_answers cX5_answers 2 (some .boolean), Cond.methodLink RX5 128 yX5_isRight, Cond.instanceMethod yX5_isRight, Cond.selects RX5 yX5_isRight yX5_isRight]
def wsL_law0_r18 : List Cond := [Cond.code yX5_isRight cX5_isRight 4 (some .boolean), Cond.methodLink RX5 124 yX5_number, Cond.instanceMethod yX5_number, Cond.selects RX5 yX5_number yX5_number, Cond.code yX5_number cX5_number 6 (some .int), Cond.methodLink RX5 196 yX5_sees, Cond.instanceMethod yX5_sees, Cond.selects RX5 yX5_sees yX5_sees, Cond.code yX5_sees cX5_sees 3 (some .int), Cond.methodLink RX5 172 yX5_saw, Cond.instanceMethod yX5_saw, Cond.selects RX5 yX5_saw yX5_saw, Cond.code yX5_saw cX5_saw 6 (some .int), Cond.methodLink RX5 169 yX5_take, Cond.instanceMethod yX5_take, Cond.selects RX5 yX5_take yX5_take, Cond.code yX5_take cX5_take 3 (some .int), Cond.methodLink RX5 131 yX5_takeTail, Cond.instanceMethod yX5_takeTail, Cond.selects RX5 yX5_takeTail yX5_takeTail, Cond.code yX5_takeTail cX5_takeTail 4 (some .int), Cond.methodLink RX5 120 yX5_isLong, Cond.instanceMethod yX5_isLong, Cond.selects RX5 yX5_isLong yX5_isLong]
def wsL_law0_r19 : List Cond := [Cond.code yX5_isLong cX5_isLong 2 (some .boolean), Cond.methodLink RX5 134 yX5_bytesOf, Cond.instanceMethod yX5_bytesOf, Cond.selects RX5 yX5_bytesOf yX5_bytesOf, Cond.code yX5_bytesOf cX5_bytesOf 3 (some .int), Cond.methodLink RX5 153 yX5_sentOne, Cond.instanceMethod yX5_sentOne, Cond.selects RX5 yX5_sentOne yX5_sentOne, Cond.code yX5_sentOne cX5_sentOne 3 (some .int), Cond.methodLink RX5 175 yX5_idle, Cond.instanceMethod yX5_idle, Cond.selects RX5 yX5_idle yX5_idle, Cond.code yX5_idle cX5_idle 3 (some .int), Cond.methodLink RX5 199 yX5_breakOff, Cond.instanceMethod yX5_breakOff, Cond.selects RX5 yX5_breakOff yX5_breakOff, Cond.code yX5_breakOff cX5_breakOff 3 none, Cond.methodLink RX5 202 yX5_finish, Cond.instanceMethod yX5_finish, Cond.selects RX5 yX5_finish yX5_finish, Cond.code yX5_finish cX5_finish 4 none, Cond.methodLink RX5 184 yX5_forget, Cond.instanceMethod yX5_forget, Cond.selects RX5 yX5_forget yX5_forget]
def wsL_law0_r20 : List Cond := [Cond.code yX5_forget cX5_forget 4 none, Cond.methodLink RX5 187 yX5_keep, Cond.instanceMethod yX5_keep, Cond.selects RX5 yX5_keep yX5_keep, Cond.code yX5_keep cX5_keep 6 none, Cond.methodLink RL 67 yL_join, Cond.static yL_join, Cond.codeWith yL_join cL_join 4 (some .int) [(0, 16, 19, 13)], Cond.methodLink RL 23 yX4_join, Cond.instanceMethod yX4_join, Cond.selects RX4 yX4_join yX4_join, Cond.code yX4_join cX4_join 3 (some .boolean), Cond.fieldLink RX4 68 "SharedWire$Node" "on" "Z", Cond.methodLink RX4 72 yX2_switchOn, Cond.instanceMethod yX2_switchOn, Cond.selects RX2 yX2_switchOn yX2_switchOn, Cond.code yX2_switchOn cX2_switchOn 1 none, Cond.methodLink RL 70 yX5_join, Cond.instanceMethod yX5_join, Cond.selects RX5 yX5_join yX5_join, Cond.code yX5_join cX5_join 2 (some .boolean), Cond.methodLink RL 71 yX4_wire, Cond.instanceMethod yX4_wire, Cond.selects RX4 yX4_wire yX4_wire]
def wsL_law0_r21 : List Cond := [Cond.code yX4_wire cX4_wire 1 (some .int), Cond.methodLink RL 74 yX5_wire, Cond.instanceMethod yX5_wire, Cond.selects RX5 yX5_wire yX5_wire, Cond.code yX5_wire cX5_wire 1 (some .int), Cond.methodLink RL 75 yL_node, Cond.static yL_node, Cond.codeWith yL_node cL_node 5 (some .int) [(0, 10, 13, 13)], Cond.methodLink RL 27 yX4_node, Cond.instanceMethod yX4_node, Cond.selects RX4 yX4_node yX4_node, Cond.code yX4_node cX4_node 4 (some .int), Cond.fieldLink RX4 78 "SharedWire$Node" "sendingCount" "I", Cond.fieldLink RX4 81 "SharedWire$Node" "receivingCount" "I", Cond.fieldLink RX4 84 "SharedWire$Node" "framesSent" "I", Cond.fieldLink RX4 87 "SharedWire$Node" "framesReceived" "I", Cond.fieldLink RX4 90 "SharedWire$Node" "lastFault" "I", Cond.methodLink RL 77 yX5_node, Cond.instanceMethod yX5_node, Cond.selects RX5 yX5_node yX5_node, Cond.code yX5_node cX5_node 3 (some .int), Cond.methodLink RL 78 yL_received, Cond.static yL_received, Cond.codeWith yL_received cL_received 5 (some .int) [(0, 9, 12, 13), (0, 9, 16, 34)]]
def wsL_law0_r22 : List Cond := [Cond.classLink RL 34 "java/util/NoSuchElementException", Cond.methodLink RL 30 yX4_received, Cond.instanceMethod yX4_received, Cond.selects RX4 yX4_received yX4_received, Cond.code yX4_received cX4_received 5 (some .long), Cond.classLink RX4 93 "java/util/NoSuchElementException", Cond.initialized "java/util/NoSuchElementException", Cond.fieldLink RX4 96 "SharedWire$Node" "lastReceived" "LSharedWire$Frame;", Cond.fieldLink RX4 100 "SharedWire$Frame" "identifier" "I", Cond.fieldLink RX4 105 "SharedWire$Frame" "isLong" "Z", Cond.fieldLink RX4 108 "SharedWire$Frame" "size" "I", Cond.fieldLink RX4 111 "SharedWire$Frame" "data" "J", Cond.methodLink RL 80 yX5_received, Cond.instanceMethod yX5_received, Cond.selects RX5 yX5_received yX5_received, Cond.code yX5_received cX5_received 3 (some .long), Cond.methodLink RL 81 yL_tape, Cond.static yL_tape, Cond.codeWith yL_tape cL_tape 4 (some .int) [(0, 9, 12, 13), (0, 9, 15, 34)], Cond.methodLink RL 36 yX4_tape, Cond.instanceMethod yX4_tape, Cond.selects RX4 yX4_tape yX4_tape, Cond.code yX4_tape cX4_tape 5 (some .int), Cond.fieldLink RX4 119 "SharedWire$Node" "wanted" "[LSharedWire$Frame;"]
def wsL_law0_r23 : List Cond := [Cond.fieldLink RX4 127 "SharedWire$Line" "length" "I", Cond.methodLink RX4 115 yX2_offered, Cond.methodLink RX4 123 yX1_write, Cond.methodLink RX4 130 yX1_bitAt, Cond.methodLink RL 83 yX5_tape, Cond.instanceMethod yX5_tape, Cond.selects RX5 yX5_tape yX5_tape, Cond.code yX5_tape cX5_tape 3 (some .int), Cond.fieldLink RX5 211 "SharedWireModel" "size" "I", Cond.methodLink RL 84 yX4_put, Cond.instanceMethod yX4_put, Cond.selects RX4 yX4_put yX4_put, Cond.code yX4_put cX4_put 5 (some .boolean), Cond.methodLink RL 88 yX5_put, Cond.instanceMethod yX5_put, Cond.selects RX5 yX5_put yX5_put, Cond.code yX5_put cX5_put 5 (some .boolean), Cond.methodLink RL 89 yL_bit, Cond.static yL_bit, Cond.codeWith yL_bit cL_bit 4 (some .int) [(0, 9, 12, 13)], Cond.methodLink RL 40 yX4_bit, Cond.instanceMethod yX4_bit, Cond.selects RX4 yX4_bit yX4_bit, Cond.code yX4_bit cX4_bit 2 (some .int)]
def wsL_law0_r24 : List Cond := [Cond.methodLink RX4 133 yX4_isOnTape, Cond.instanceMethod yX4_isOnTape, Cond.selects RX4 yX4_isOnTape yX4_isOnTape, Cond.code yX4_isOnTape cX4_isOnTape 2 (some .boolean), Cond.methodLink RL 91 yX5_bit, Cond.instanceMethod yX5_bit, Cond.selects RX5 yX5_bit yX5_bit, Cond.code yX5_bit cX5_bit 2 (some .int), Cond.methodLink RL 92 yL_flip, Cond.static yL_flip, Cond.codeWith yL_flip cL_flip 3 (some .int) [(0, 5, 8, 13)], Cond.methodLink RL 43 yX4_flip, Cond.instanceMethod yX4_flip, Cond.selects RX4 yX4_flip yX4_flip, Cond.code yX4_flip cX4_flip 2 none, Cond.methodLink RL 95 yX5_flip, Cond.instanceMethod yX5_flip, Cond.selects RX5 yX5_flip yX5_flip, Cond.code yX5_flip cX5_flip 2 none, Cond.methodLink RL 96 yX4_wipe, Cond.instanceMethod yX4_wipe, Cond.selects RX4 yX4_wipe yX4_wipe, Cond.code yX4_wipe cX4_wipe 2 (some .int), Cond.methodLink RL 99 yX5_wipe]
def wsL_law0_r25 : List Cond := [Cond.instanceMethod yX5_wipe, Cond.selects RX5 yX5_wipe yX5_wipe, Cond.code yX5_wipe cX5_wipe 2 (some .int), Cond.methodLink RL 100 yX4_read, Cond.instanceMethod yX4_read, Cond.selects RX4 yX4_read yX4_read, Cond.code yX4_read cX4_read 3 (some .int), Cond.methodLink RX4 136 yX3_begin, Cond.methodLink RX4 139 yX3_isFinished, Cond.methodLink RX4 143 yX3_take, Cond.methodLink RL 103 yX5_read, Cond.instanceMethod yX5_read, Cond.selects RX5 yX5_read yX5_read, Cond.code yX5_read cX5_read 3 (some .int)]
def wsL_law0 : List Cond := (wsL_law0_r1 ++ (wsL_law0_r2 ++ (wsL_law0_r3 ++ (wsL_law0_r4 ++ (wsL_law0_r5 ++ (wsL_law0_r6 ++ (wsL_law0_r7 ++ (wsL_law0_r8 ++ (wsL_law0_r9 ++ (wsL_law0_r10 ++ (wsL_law0_r11 ++ (wsL_law0_r12 ++ (wsL_law0_r13 ++ (wsL_law0_r14 ++ (wsL_law0_r15 ++ (wsL_law0_r16 ++ (wsL_law0_r17 ++ (wsL_law0_r18 ++ (wsL_law0_r19 ++ (wsL_law0_r20 ++ (wsL_law0_r21 ++ (wsL_law0_r22 ++ (wsL_law0_r23 ++ (wsL_law0_r24 ++ wsL_law0_r25)))))))))))))))))))))))) ++ wsX40 ++ wsX50 ++ wsX10 ++ wsX30 ++ wsX20 ++ wsX00 ++ ([] : List Cond)
def wsL_law : List Cond := wsL_law0 ++ (vx_at0 RX4 50 "java/lang/IndexOutOfBoundsException" ["java/lang/RuntimeException", "java/lang/Exception"]).filter goodWord ++ (vx_at0 RX4 53 "java/lang/IllegalArgumentException" ["java/lang/RuntimeException", "java/lang/Exception"]).filter goodWord ++ (vx_at0 RX4 59 "java/lang/UnsupportedOperationException" ["java/lang/RuntimeException", "java/lang/Exception"]).filter goodWord ++ (vx_at0 RX4 95 "java/util/NoSuchElementException" ["java/lang/RuntimeException", "java/lang/Exception"]).filter goodWord
theorem inP {big : List Cond} (ws : List Cond) (ps : List Nat) (hp : ps.filterMap (fun i => big[i]?) = ws) : ∀ w ∈ ws, w ∈ big := by
  intro w hw
  rw [← hp] at hw
  obtain ⟨i, -, hi⟩ := List.mem_filterMap.mp hw
  exact List.mem_of_getElem? hi
theorem inA {big a b : List Cond} (ha : ∀ w ∈ a, w ∈ big) (hb : ∀ w ∈ b, w ∈ big) : ∀ w ∈ a ++ b, w ∈ big := fun w h => (List.mem_append.mp h).elim (ha w) (hb w)
set_option maxRecDepth 20000 in
theorem wsL_in_1 : ∀ w ∈ wsL_law0_r1, w ∈ lw_tbl := inP _ [64, 65, 50, 641, 642, 55, 754, 918, 66, 67, 68, 69, 70, 71, 72, 247, 248, 249, 107, 250, 251, 74, 75, 51] rfl
set_option maxRecDepth 20000 in
theorem wsL_in_2 : ∀ w ∈ wsL_law0_r2, w ∈ lw_tbl := inP _ [252, 108, 109, 52, 253, 178, 54, 77, 78, 79, 80, 81, 82, 85, 86, 87, 88, 89, 111, 112, 113, 114, 115, 53] rfl
set_option maxRecDepth 20000 in
theorem wsL_in_3 : ∀ w ∈ wsL_law0_r3, w ∈ lw_tbl := inP _ [149, 151, 152, 153, 154, 155, 156, 157, 158, 117, 118, 119, 120, 125, 130, 135, 179, 180, 181, 182, 183, 190, 192, 186] rfl
set_option maxRecDepth 20000 in
theorem wsL_in_4 : ∀ w ∈ wsL_law0_r4, w ∈ lw_tbl := inP _ [194, 188, 195, 196, 198, 200, 202, 204, 206, 208, 210, 212, 214, 215, 643, 644, 645, 646, 650, 651, 652, 653, 654, 655] rfl
set_option maxRecDepth 20000 in
theorem wsL_in_5 : ∀ w ∈ wsL_law0_r5, w ∈ lw_tbl := inP _ [656, 753, 657, 658, 659, 660, 661, 662, 663, 664, 665, 666, 667, 668, 669, 670, 672, 673, 674, 675, 676, 677, 678, 680] rfl
set_option maxRecDepth 20000 in
theorem wsL_in_6 : ∀ w ∈ wsL_law0_r6, w ∈ lw_tbl := inP _ [331, 332, 49, 333, 334, 335, 336, 337, 338, 339, 340, 344, 59, 408, 60, 423, 61, 201, 341, 342, 343, 438, 439, 440] rfl
set_option maxRecDepth 20000 in
theorem wsL_in_7 : ∀ w ∈ wsL_law0_r7, w ∈ lw_tbl := inP _ [441, 442, 290, 291, 292, 759, 760, 761, 762, 763, 647, 671, 764, 765, 766, 755, 756, 757, 758, 443, 444, 445, 446, 447] rfl
set_option maxRecDepth 20000 in
theorem wsL_in_8 : ∀ w ∈ wsL_law0_r8, w ∈ lw_tbl := inP _ [448, 449, 450, 452, 7, 453, 454, 456, 8, 457, 458, 460, 9, 461, 462, 464, 10, 465, 466, 468, 11, 469, 470, 471] rfl
set_option maxRecDepth 20000 in
theorem wsL_in_9 : ∀ w ∈ wsL_law0_r9, w ∈ lw_tbl := inP _ [472, 473, 474, 475, 476, 477, 478, 479, 480, 481, 482, 483, 484, 485, 486, 487, 121, 126, 136, 131, 501, 488, 490, 12] rfl
set_option maxRecDepth 20000 in
theorem wsL_in_10 : ∀ w ∈ wsL_law0_r10, w ∈ lw_tbl := inP _ [491, 492, 494, 13, 495, 496, 498, 14, 499, 314, 315, 502, 286, 287, 288, 289, 503, 505, 15, 506, 507, 508, 509, 510] rfl
set_option maxRecDepth 20000 in
theorem wsL_in_11 : ∀ w ∈ wsL_law0_r11, w ∈ lw_tbl := inP _ [511, 512, 513, 514, 515, 516, 517, 518, 301, 303, 0, 304, 519, 521, 16, 522, 213, 523, 524, 525, 526, 527, 529, 17] rfl
set_option maxRecDepth 20000 in
theorem wsL_in_12 : ∀ w ∈ wsL_law0_r12, w ∈ lw_tbl := inP _ [530, 531, 532, 533, 534, 535, 536, 537, 538, 539, 298, 299, 300, 305, 307, 1, 308, 309, 311, 2, 312, 316, 318, 3] rfl
set_option maxRecDepth 20000 in
theorem wsL_in_13 : ∀ w ∈ wsL_law0_r13, w ∈ lw_tbl := inP _ [319, 123, 128, 320, 322, 4, 323, 138, 324, 325, 62, 326, 327, 329, 5, 330, 133, 540, 542, 18, 543, 544, 545, 546] rfl
set_option maxRecDepth 20000 in
theorem wsL_in_14 : ∀ w ∈ wsL_law0_r14, w ∈ lw_tbl := inP _ [547, 548, 550, 19, 551, 199, 552, 553, 554, 555, 84, 556, 558, 20, 559, 560, 561, 562, 563, 565, 21, 566, 567, 294] rfl
set_option maxRecDepth 20000 in
theorem wsL_in_15 : ∀ w ∈ wsL_law0_r15, w ∈ lw_tbl := inP _ [295, 296, 568, 570, 22, 571, 150, 124, 129, 134, 139, 767, 768, 769, 770, 771, 773, 24, 774, 648, 649, 775, 777, 25] rfl
set_option maxRecDepth 20000 in
theorem wsL_in_16 : ∀ w ∈ wsL_law0_r16, w ∈ lw_tbl := inP _ [778, 779, 781, 26, 782, 783, 785, 27, 786, 787, 789, 28, 790, 791, 792, 793, 794, 796, 29, 797, 681, 802, 798, 800] rfl
set_option maxRecDepth 20000 in
theorem wsL_in_17 : ∀ w ∈ wsL_law0_r17, w ∈ lw_tbl := inP _ [30, 801, 803, 804, 805, 806, 808, 31, 809, 810, 812, 32, 813, 814, 816, 33, 817, 818, 820, 34, 821, 822, 824, 35] rfl
set_option maxRecDepth 20000 in
theorem wsL_in_18 : ∀ w ∈ wsL_law0_r18, w ∈ lw_tbl := inP _ [825, 826, 828, 36, 829, 830, 832, 37, 833, 834, 836, 38, 837, 838, 840, 39, 841, 842, 844, 40, 845, 846, 848, 41] rfl
set_option maxRecDepth 20000 in
theorem wsL_in_19 : ∀ w ∈ wsL_law0_r19, w ∈ lw_tbl := inP _ [849, 850, 852, 42, 853, 854, 856, 43, 857, 858, 860, 44, 861, 862, 864, 45, 865, 866, 868, 46, 869, 870, 872, 47] rfl
set_option maxRecDepth 20000 in
theorem wsL_in_20 : ∀ w ∈ wsL_law0_r20, w ∈ lw_tbl := inP _ [873, 874, 876, 48, 877, 572, 573, 574, 575, 576, 577, 578, 197, 579, 580, 581, 582, 878, 879, 880, 881, 269, 270, 271] rfl
set_option maxRecDepth 20000 in
theorem wsL_in_21 : ∀ w ∈ wsL_law0_r21, w ∈ lw_tbl := inP _ [272, 882, 883, 884, 885, 583, 584, 585, 586, 587, 588, 589, 203, 205, 207, 209, 211, 886, 887, 888, 889, 590, 591, 592] rfl
set_option maxRecDepth 20000 in
theorem wsL_in_22 : ∀ w ∈ wsL_law0_r22, w ∈ lw_tbl := inP _ [593, 594, 595, 596, 597, 598, 63, 193, 127, 122, 137, 132, 890, 891, 892, 893, 613, 614, 615, 616, 617, 618, 619, 191] rfl
set_option maxRecDepth 20000 in
theorem wsL_in_23 : ∀ w ∈ wsL_law0_r23, w ∈ lw_tbl := inP _ [83, 620, 621, 622, 894, 895, 896, 897, 679, 273, 274, 275, 276, 898, 899, 900, 901, 623, 624, 625, 626, 627, 628, 629] rfl
set_option maxRecDepth 20000 in
theorem wsL_in_24 : ∀ w ∈ wsL_law0_r24, w ∈ lw_tbl := inP _ [630, 632, 23, 633, 902, 903, 904, 905, 634, 635, 636, 637, 638, 639, 640, 906, 907, 908, 909, 277, 278, 279, 280, 910] rfl
set_option maxRecDepth 20000 in
theorem wsL_in_25 : ∀ w ∈ wsL_law0_r25, w ∈ lw_tbl := inP _ [911, 912, 913, 281, 282, 283, 284, 285, 293, 297, 914, 915, 916, 917] rfl
set_option maxRecDepth 20000 in
theorem wsL_in_X0 : ∀ w ∈ wsX00, w ∈ lw_tbl := inP _ [140, 142, 144, 146] rfl
set_option maxRecDepth 20000 in
theorem wsL_in_X1 : ∀ w ∈ wsX10, w ∈ lw_tbl := inP _ [90, 92, 94, 96, 98, 100, 102, 104] rfl
set_option maxRecDepth 20000 in
theorem wsL_in_X2 : ∀ w ∈ wsX20, w ∈ lw_tbl := inP _ [216, 218, 220, 222, 224, 226, 228, 230, 232, 234, 236, 238, 240, 242, 244] rfl
set_option maxRecDepth 20000 in
theorem wsL_in_X3 : ∀ w ∈ wsX30, w ∈ lw_tbl := inP _ [159, 161, 163, 165, 167, 169, 171, 173, 175] rfl
set_option maxRecDepth 20000 in
theorem wsL_in_X4 : ∀ w ∈ wsX40, w ∈ lw_tbl := inP _ [254, 256, 258, 260, 262, 264, 266] rfl
set_option maxRecDepth 20000 in
theorem wsL_in_X5 : ∀ w ∈ wsX50, w ∈ lw_tbl := inP _ [682, 684, 686, 688, 690, 692, 694, 696, 698, 700, 702, 704, 706, 708, 710, 712, 714, 716, 718, 720, 722, 724, 726, 728, 730, 732, 734, 736, 738, 740, 742, 744, 746, 748, 750] rfl
set_option maxRecDepth 20000 in
theorem wsL_law_in0 : ∀ w ∈ wsL_law0, w ∈ lw_tbl := inA (inA (inA (inA (inA (inA (inA (inA wsL_in_1 (inA wsL_in_2 (inA wsL_in_3 (inA wsL_in_4 (inA wsL_in_5 (inA wsL_in_6 (inA wsL_in_7 (inA wsL_in_8 (inA wsL_in_9 (inA wsL_in_10 (inA wsL_in_11 (inA wsL_in_12 (inA wsL_in_13 (inA wsL_in_14 (inA wsL_in_15 (inA wsL_in_16 (inA wsL_in_17 (inA wsL_in_18 (inA wsL_in_19 (inA wsL_in_20 (inA wsL_in_21 (inA wsL_in_22 (inA wsL_in_23 (inA wsL_in_24 (wsL_in_25))))))))))))))))))))))))) wsL_in_X4) wsL_in_X5) wsL_in_X1) wsL_in_X3) wsL_in_X2) wsL_in_X0) (fun _ h => absurd h List.not_mem_nil)
theorem wsL_law_x0 : ∀ w ∈ (vx_at0 RX4 50 "java/lang/IndexOutOfBoundsException" ["java/lang/RuntimeException", "java/lang/Exception"]).filter goodWord, w ∈ lw_tbl := by decide +kernel
theorem wsL_law_x1 : ∀ w ∈ (vx_at0 RX4 53 "java/lang/IllegalArgumentException" ["java/lang/RuntimeException", "java/lang/Exception"]).filter goodWord, w ∈ lw_tbl := by decide +kernel
theorem wsL_law_x2 : ∀ w ∈ (vx_at0 RX4 59 "java/lang/UnsupportedOperationException" ["java/lang/RuntimeException", "java/lang/Exception"]).filter goodWord, w ∈ lw_tbl := by decide +kernel
theorem wsL_law_x3 : ∀ w ∈ (vx_at0 RX4 95 "java/util/NoSuchElementException" ["java/lang/RuntimeException", "java/lang/Exception"]).filter goodWord, w ∈ lw_tbl := by decide +kernel
theorem wsL_law_in : ∀ w ∈ wsL_law, w ∈ lw_tbl := fun w h => (List.mem_append.mp h).elim (fun h => (List.mem_append.mp h).elim (fun h => (List.mem_append.mp h).elim (fun h => (List.mem_append.mp h).elim (fun h => wsL_law_in0 w h) (fun h => wsL_law_x0 w h)) (fun h => wsL_law_x1 w h)) (fun h => wsL_law_x2 w h)) (fun h => wsL_law_x3 w h)
theorem inlX0 : ∀ w ∈ wsX00, w ∈ wsL_law := fun _ h => List.mem_append_left _ (List.mem_append_left _ (List.mem_append_left _ (List.mem_append_left _ (List.mem_append_left _ (List.mem_append_right _ h)))))
theorem inX0 : ∀ w ∈ wsX00, w ∈ lw_tbl := fun w h => wsL_law_in w (inlX0 w h)
theorem inlX1 : ∀ w ∈ wsX10, w ∈ wsL_law := fun _ h => List.mem_append_left _ (List.mem_append_left _ (List.mem_append_left _ (List.mem_append_left _ (List.mem_append_left _ (List.mem_append_left _ (List.mem_append_left _ (List.mem_append_left _ (List.mem_append_right _ h))))))))
theorem inX1 : ∀ w ∈ wsX10, w ∈ lw_tbl := fun w h => wsL_law_in w (inlX1 w h)
theorem inlX2 : ∀ w ∈ wsX20, w ∈ wsL_law := fun _ h => List.mem_append_left _ (List.mem_append_left _ (List.mem_append_left _ (List.mem_append_left _ (List.mem_append_left _ (List.mem_append_left _ (List.mem_append_right _ h))))))
theorem inX2 : ∀ w ∈ wsX20, w ∈ lw_tbl := fun w h => wsL_law_in w (inlX2 w h)
theorem inlX3 : ∀ w ∈ wsX30, w ∈ wsL_law := fun _ h => List.mem_append_left _ (List.mem_append_left _ (List.mem_append_left _ (List.mem_append_left _ (List.mem_append_left _ (List.mem_append_left _ (List.mem_append_left _ (List.mem_append_right _ h)))))))
theorem inX3 : ∀ w ∈ wsX30, w ∈ lw_tbl := fun w h => wsL_law_in w (inlX3 w h)
theorem inlX4 : ∀ w ∈ wsX40, w ∈ wsL_law := fun _ h => List.mem_append_left _ (List.mem_append_left _ (List.mem_append_left _ (List.mem_append_left _ (List.mem_append_left _ (List.mem_append_left _ (List.mem_append_left _ (List.mem_append_left _ (List.mem_append_left _ (List.mem_append_left _ (List.mem_append_right _ h))))))))))
theorem inX4 : ∀ w ∈ wsX40, w ∈ lw_tbl := fun w h => wsL_law_in w (inlX4 w h)
theorem inlX5 : ∀ w ∈ wsX50, w ∈ wsL_law := fun _ h => List.mem_append_left _ (List.mem_append_left _ (List.mem_append_left _ (List.mem_append_left _ (List.mem_append_left _ (List.mem_append_left _ (List.mem_append_left _ (List.mem_append_left _ (List.mem_append_left _ (List.mem_append_right _ h)))))))))
theorem inX5 : ∀ w ∈ wsX50, w ∈ lw_tbl := fun w h => wsL_law_in w (inlX5 w h)
theorem inJx145de : ∀ w ∈ wsJx145de0, w ∈ lw_tbl := by decide +kernel
theorem inJ9 : ∀ w ∈ wsJ90, w ∈ lw_tbl := by decide +kernel
abbrev vwCl : List vw_C := [(RX0, TX0, 4), (RX1, TX1, 8), (RX2, TX2, 15), (RX3, TX3, 9), (RX4, TX4, 7), (RX5, TX5, 35)]
end
section
theorem dX0_init_0 : decode cX0_init 0 = .ok (.aload_n 0, 1) := by decide +kernel
theorem dX0_init_1 : decode cX0_init 1 = .ok (.invokespecial 3, 3) := by decide +kernel
theorem dX0_init_4 : decode cX0_init 4 = .ok (.aload_n 0, 1) := by decide +kernel
theorem dX0_init_5 : decode cX0_init 5 = .ok (.iconst 0, 1) := by decide +kernel
theorem dX0_init_6 : decode cX0_init 6 = .ok (.putfield 9, 3) := by decide +kernel
theorem dX0_init_9 : decode cX0_init 9 = .ok (.aload_n 0, 1) := by decide +kernel
theorem dX0_init_10 : decode cX0_init 10 = .ok (.iconst 0, 1) := by decide +kernel
theorem dX0_init_11 : decode cX0_init 11 = .ok (.putfield 15, 3) := by decide +kernel
theorem dX0_init_14 : decode cX0_init 14 = .ok (.aload_n 0, 1) := by decide +kernel
theorem dX0_init_15 : decode cX0_init 15 = .ok (.lconst 0, 1) := by decide +kernel
theorem dX0_init_16 : decode cX0_init 16 = .ok (.putfield 19, 3) := by decide +kernel
theorem dX0_init_19 : decode cX0_init 19 = .ok (.aload_n 0, 1) := by decide +kernel
theorem dX0_init_20 : decode cX0_init 20 = .ok (.iconst 0, 1) := by decide +kernel
theorem dX0_init_21 : decode cX0_init 21 = .ok (.putfield 23, 3) := by decide +kernel
theorem dX0_init_24 : decode cX0_init 24 = .ok (.return_, 1) := by decide +kernel
theorem dX0_set_0 : decode cX0_set 0 = .ok (.aload_n 0, 1) := by decide +kernel
theorem dX0_set_1 : decode cX0_set 1 = .ok (.iload_n 1, 1) := by decide +kernel
theorem dX0_set_2 : decode cX0_set 2 = .ok (.putfield 9, 3) := by decide +kernel
theorem dX0_set_5 : decode cX0_set 5 = .ok (.aload_n 0, 1) := by decide +kernel
theorem dX0_set_6 : decode cX0_set 6 = .ok (.iload_n 2, 1) := by decide +kernel
theorem dX0_set_7 : decode cX0_set 7 = .ok (.putfield 15, 3) := by decide +kernel
theorem dX0_set_10 : decode cX0_set 10 = .ok (.aload_n 0, 1) := by decide +kernel
theorem dX0_set_11 : decode cX0_set 11 = .ok (.lload_n 3, 1) := by decide +kernel
theorem dX0_set_12 : decode cX0_set 12 = .ok (.putfield 19, 3) := by decide +kernel
theorem dX0_set_15 : decode cX0_set 15 = .ok (.aload_n 0, 1) := by decide +kernel
theorem dX0_set_16 : decode cX0_set 16 = .ok (.iload 5, 2) := by decide +kernel
theorem dX0_set_18 : decode cX0_set 18 = .ok (.putfield 23, 3) := by decide +kernel
theorem dX0_set_21 : decode cX0_set 21 = .ok (.return_, 1) := by decide +kernel
theorem dX0_rank_0 : decode cX0_rank 0 = .ok (.aload_n 0, 1) := by decide +kernel
theorem dX0_rank_1 : decode cX0_rank 1 = .ok (.getfield 9, 3) := by decide +kernel
theorem dX0_rank_4 : decode cX0_rank 4 = .ok (.ifCond .ne 11, 3) := by decide +kernel
theorem dX0_rank_7 : decode cX0_rank 7 = .ok (.aload_n 0, 1) := by decide +kernel
theorem dX0_rank_8 : decode cX0_rank 8 = .ok (.getfield 15, 3) := by decide +kernel
theorem dX0_rank_11 : decode cX0_rank 11 = .ok (.bipush 19, 2) := by decide +kernel
theorem dX0_rank_13 : decode cX0_rank 13 = .ok (.ishl, 1) := by decide +kernel
theorem dX0_rank_14 : decode cX0_rank 14 = .ok (.ireturn, 1) := by decide +kernel
theorem dX0_rank_15 : decode cX0_rank 15 = .ok (.aload_n 0, 1) := by decide +kernel
theorem dX0_rank_16 : decode cX0_rank 16 = .ok (.getfield 15, 3) := by decide +kernel
theorem dX0_rank_19 : decode cX0_rank 19 = .ok (.ldc 26, 2) := by decide +kernel
theorem dX0_rank_21 : decode cX0_rank 21 = .ok (.iand, 1) := by decide +kernel
theorem dX0_rank_22 : decode cX0_rank 22 = .ok (.istore_n 1, 1) := by decide +kernel
theorem dX0_rank_23 : decode cX0_rank 23 = .ok (.aload_n 0, 1) := by decide +kernel
theorem dX0_rank_24 : decode cX0_rank 24 = .ok (.getfield 15, 3) := by decide +kernel
theorem dX0_rank_27 : decode cX0_rank 27 = .ok (.bipush 18, 2) := by decide +kernel
theorem dX0_rank_29 : decode cX0_rank 29 = .ok (.ishr, 1) := by decide +kernel
theorem dX0_rank_30 : decode cX0_rank 30 = .ok (.bipush 19, 2) := by decide +kernel
theorem dX0_rank_32 : decode cX0_rank 32 = .ok (.ishl, 1) := by decide +kernel
theorem dX0_rank_33 : decode cX0_rank 33 = .ok (.ldc 27, 2) := by decide +kernel
theorem dX0_rank_35 : decode cX0_rank 35 = .ok (.ior, 1) := by decide +kernel
theorem dX0_rank_36 : decode cX0_rank 36 = .ok (.iload_n 1, 1) := by decide +kernel
theorem dX0_rank_37 : decode cX0_rank 37 = .ok (.ior, 1) := by decide +kernel
theorem dX0_rank_38 : decode cX0_rank 38 = .ok (.ireturn, 1) := by decide +kernel
theorem dX1_init_0 : decode cX1_init 0 = .ok (.aload_n 0, 1) := by decide +kernel
theorem dX1_init_1 : decode cX1_init 1 = .ok (.invokespecial 3, 3) := by decide +kernel
theorem dX1_init_4 : decode cX1_init 4 = .ok (.aload_n 0, 1) := by decide +kernel
theorem dX1_init_5 : decode cX1_init 5 = .ok (.sipush 160, 3) := by decide +kernel
theorem dX1_init_8 : decode cX1_init 8 = .ok (.newarray .int, 2) := by decide +kernel
theorem dX1_init_10 : decode cX1_init 10 = .ok (.putfield 9, 3) := by decide +kernel
theorem dX1_init_13 : decode cX1_init 13 = .ok (.aload_n 0, 1) := by decide +kernel
theorem dX1_init_14 : decode cX1_init 14 = .ok (.sipush 160, 3) := by decide +kernel
theorem dX1_init_17 : decode cX1_init 17 = .ok (.newarray .int, 2) := by decide +kernel
theorem dX1_init_19 : decode cX1_init 19 = .ok (.putfield 15, 3) := by decide +kernel
theorem dX1_init_22 : decode cX1_init 22 = .ok (.aload_n 0, 1) := by decide +kernel
theorem dX1_init_23 : decode cX1_init 23 = .ok (.iconst 0, 1) := by decide +kernel
theorem dX1_init_24 : decode cX1_init 24 = .ok (.putfield 18, 3) := by decide +kernel
theorem dX1_init_27 : decode cX1_init 27 = .ok (.aload_n 0, 1) := by decide +kernel
theorem dX1_init_28 : decode cX1_init 28 = .ok (.iconst 0, 1) := by decide +kernel
theorem dX1_init_29 : decode cX1_init 29 = .ok (.putfield 22, 3) := by decide +kernel
theorem dX1_init_32 : decode cX1_init 32 = .ok (.aload_n 0, 1) := by decide +kernel
theorem dX1_init_33 : decode cX1_init 33 = .ok (.iconst 0, 1) := by decide +kernel
theorem dX1_init_34 : decode cX1_init 34 = .ok (.putfield 25, 3) := by decide +kernel
theorem dX1_init_37 : decode cX1_init 37 = .ok (.aload_n 0, 1) := by decide +kernel
theorem dX1_init_38 : decode cX1_init 38 = .ok (.iconst 0, 1) := by decide +kernel
theorem dX1_init_39 : decode cX1_init 39 = .ok (.putfield 28, 3) := by decide +kernel
theorem dX1_init_42 : decode cX1_init 42 = .ok (.aload_n 0, 1) := by decide +kernel
theorem dX1_init_43 : decode cX1_init 43 = .ok (.iconst (-1), 1) := by decide +kernel
theorem dX1_init_44 : decode cX1_init 44 = .ok (.putfield 31, 3) := by decide +kernel
theorem dX1_init_47 : decode cX1_init 47 = .ok (.aload_n 0, 1) := by decide +kernel
theorem dX1_init_48 : decode cX1_init 48 = .ok (.iconst 0, 1) := by decide +kernel
theorem dX1_init_49 : decode cX1_init 49 = .ok (.putfield 34, 3) := by decide +kernel
theorem dX1_init_52 : decode cX1_init 52 = .ok (.return_, 1) := by decide +kernel
set_option maxRecDepth 20000 in
theorem ggX1_write_X1_clear : GoodIn wsX1_write wsX1_clear := goodIn_r _ [13, 14, 3, 15, 16, 8, 34, 35, 36, 37, 38, 39, 40, 41] (by decide +kernel) (by decide +kernel)
set_option maxRecDepth 20000 in
theorem gX1_write_X1_clear : GoodIn wsX1_write (wsV RX1 37 RX1 yX1_clear wsX1_clear) := goodIn_app (goodIn_of _ (by decide +kernel)) ggX1_write_X1_clear
set_option maxRecDepth 20000 in
theorem ggX1_write_X1_addNumber : GoodIn wsX1_write wsX1_addNumber := goodIn_r _ [20, 15, 16, 3, 8, 21, 22, 23, 12, 24, 14, 25, 26, 27, 28, 29, 34, 35, 36, 37, 38, 39, 40, 41] (by decide +kernel) (by decide +kernel)
set_option maxRecDepth 20000 in
theorem gX1_write_X1_addNumber : GoodIn wsX1_write (wsV RX1 40 RX1 yX1_addNumber wsX1_addNumber) := goodIn_app (goodIn_of _ (by decide +kernel)) ggX1_write_X1_addNumber
set_option maxRecDepth 20000 in
theorem ggX1_write_X1_append : GoodIn wsX1_write wsX1_append := goodIn_r _ [24, 14, 25, 26, 16, 15, 34, 35, 36, 37, 38, 39, 40, 41] (by decide +kernel) (by decide +kernel)
set_option maxRecDepth 20000 in
theorem gX1_write_X1_append : GoodIn wsX1_write (wsV RX1 62 RX1 yX1_append wsX1_append) := goodIn_app (goodIn_of _ (by decide +kernel)) ggX1_write_X1_append
theorem dX1_write_0 : decode cX1_write 0 = .ok (.aload_n 0, 1) := by decide +kernel
theorem dX1_write_1 : decode cX1_write 1 = .ok (.invokevirtual 37, 3) := by decide +kernel
theorem dX1_write_4 : decode cX1_write 4 = .ok (.aload_n 0, 1) := by decide +kernel
theorem dX1_write_5 : decode cX1_write 5 = .ok (.iconst 0, 1) := by decide +kernel
theorem dX1_write_6 : decode cX1_write 6 = .ok (.iconst 1, 1) := by decide +kernel
theorem dX1_write_7 : decode cX1_write 7 = .ok (.invokevirtual 40, 3) := by decide +kernel
theorem dX1_write_10 : decode cX1_write 10 = .ok (.aload_n 1, 1) := by decide +kernel
theorem dX1_write_11 : decode cX1_write 11 = .ok (.getfield 44, 3) := by decide +kernel
theorem dX1_write_14 : decode cX1_write 14 = .ok (.ifCond .eq 35, 3) := by decide +kernel
theorem dX1_write_17 : decode cX1_write 17 = .ok (.aload_n 0, 1) := by decide +kernel
theorem dX1_write_18 : decode cX1_write 18 = .ok (.aload_n 1, 1) := by decide +kernel
theorem dX1_write_19 : decode cX1_write 19 = .ok (.getfield 50, 3) := by decide +kernel
theorem dX1_write_22 : decode cX1_write 22 = .ok (.bipush 18, 2) := by decide +kernel
theorem dX1_write_24 : decode cX1_write 24 = .ok (.ishr, 1) := by decide +kernel
theorem dX1_write_25 : decode cX1_write 25 = .ok (.bipush 11, 2) := by decide +kernel
theorem dX1_write_27 : decode cX1_write 27 = .ok (.invokevirtual 40, 3) := by decide +kernel
theorem dX1_write_30 : decode cX1_write 30 = .ok (.aload_n 0, 1) := by decide +kernel
theorem dX1_write_31 : decode cX1_write 31 = .ok (.iconst 3, 1) := by decide +kernel
theorem dX1_write_32 : decode cX1_write 32 = .ok (.iconst 2, 1) := by decide +kernel
theorem dX1_write_33 : decode cX1_write 33 = .ok (.invokevirtual 40, 3) := by decide +kernel
theorem dX1_write_36 : decode cX1_write 36 = .ok (.aload_n 0, 1) := by decide +kernel
theorem dX1_write_37 : decode cX1_write 37 = .ok (.aload_n 1, 1) := by decide +kernel
theorem dX1_write_38 : decode cX1_write 38 = .ok (.getfield 50, 3) := by decide +kernel
theorem dX1_write_41 : decode cX1_write 41 = .ok (.bipush 18, 2) := by decide +kernel
theorem dX1_write_43 : decode cX1_write 43 = .ok (.invokevirtual 40, 3) := by decide +kernel
theorem dX1_write_46 : decode cX1_write 46 = .ok (.goto 13, 3) := by decide +kernel
theorem dX1_write_49 : decode cX1_write 49 = .ok (.aload_n 0, 1) := by decide +kernel
theorem dX1_write_50 : decode cX1_write 50 = .ok (.aload_n 1, 1) := by decide +kernel
theorem dX1_write_51 : decode cX1_write 51 = .ok (.getfield 50, 3) := by decide +kernel
theorem dX1_write_54 : decode cX1_write 54 = .ok (.bipush 11, 2) := by decide +kernel
theorem dX1_write_56 : decode cX1_write 56 = .ok (.invokevirtual 40, 3) := by decide +kernel
theorem dX1_write_59 : decode cX1_write 59 = .ok (.aload_n 0, 1) := by decide +kernel
theorem dX1_write_60 : decode cX1_write 60 = .ok (.iconst 0, 1) := by decide +kernel
theorem dX1_write_61 : decode cX1_write 61 = .ok (.iconst 3, 1) := by decide +kernel
theorem dX1_write_62 : decode cX1_write 62 = .ok (.invokevirtual 40, 3) := by decide +kernel
theorem dX1_write_65 : decode cX1_write 65 = .ok (.aload_n 0, 1) := by decide +kernel
theorem dX1_write_66 : decode cX1_write 66 = .ok (.aload_n 0, 1) := by decide +kernel
theorem dX1_write_67 : decode cX1_write 67 = .ok (.getfield 25, 3) := by decide +kernel
theorem dX1_write_70 : decode cX1_write 70 = .ok (.putfield 22, 3) := by decide +kernel
theorem dX1_write_73 : decode cX1_write 73 = .ok (.aload_n 0, 1) := by decide +kernel
theorem dX1_write_74 : decode cX1_write 74 = .ok (.aload_n 1, 1) := by decide +kernel
theorem dX1_write_75 : decode cX1_write 75 = .ok (.getfield 53, 3) := by decide +kernel
theorem dX1_write_78 : decode cX1_write 78 = .ok (.iconst 4, 1) := by decide +kernel
theorem dX1_write_79 : decode cX1_write 79 = .ok (.invokevirtual 40, 3) := by decide +kernel
theorem dX1_write_82 : decode cX1_write 82 = .ok (.iconst 0, 1) := by decide +kernel
theorem dX1_write_83 : decode cX1_write 83 = .ok (.istore_n 2, 1) := by decide +kernel
theorem dX1_write_84 : decode cX1_write 84 = .ok (.iload_n 2, 1) := by decide +kernel
theorem dX1_write_85 : decode cX1_write 85 = .ok (.aload_n 1, 1) := by decide +kernel
theorem dX1_write_86 : decode cX1_write 86 = .ok (.getfield 53, 3) := by decide +kernel
theorem dX1_write_89 : decode cX1_write 89 = .ok (.if_icmp .ge 29, 3) := by decide +kernel
theorem dX1_write_92 : decode cX1_write 92 = .ok (.aload_n 0, 1) := by decide +kernel
theorem dX1_write_93 : decode cX1_write 93 = .ok (.aload_n 1, 1) := by decide +kernel
theorem dX1_write_94 : decode cX1_write 94 = .ok (.getfield 56, 3) := by decide +kernel
theorem dX1_write_97 : decode cX1_write 97 = .ok (.bipush 8, 2) := by decide +kernel
theorem dX1_write_99 : decode cX1_write 99 = .ok (.iload_n 2, 1) := by decide +kernel
theorem dX1_write_100 : decode cX1_write 100 = .ok (.imul, 1) := by decide +kernel
theorem dX1_write_101 : decode cX1_write 101 = .ok (.lushr, 1) := by decide +kernel
theorem dX1_write_102 : decode cX1_write 102 = .ok (.ldc2_w 60, 3) := by decide +kernel
theorem dX1_write_105 : decode cX1_write 105 = .ok (.land, 1) := by decide +kernel
theorem dX1_write_106 : decode cX1_write 106 = .ok (.l2i, 1) := by decide +kernel
theorem dX1_write_107 : decode cX1_write 107 = .ok (.bipush 8, 2) := by decide +kernel
theorem dX1_write_109 : decode cX1_write 109 = .ok (.invokevirtual 40, 3) := by decide +kernel
theorem dX1_write_112 : decode cX1_write 112 = .ok (.iinc 2 1, 3) := by decide +kernel
theorem dX1_write_115 : decode cX1_write 115 = .ok (.goto (-31), 3) := by decide +kernel
theorem dX1_write_118 : decode cX1_write 118 = .ok (.aload_n 0, 1) := by decide +kernel
theorem dX1_write_119 : decode cX1_write 119 = .ok (.aload_n 0, 1) := by decide +kernel
theorem dX1_write_120 : decode cX1_write 120 = .ok (.getfield 34, 3) := by decide +kernel
theorem dX1_write_123 : decode cX1_write 123 = .ok (.bipush 15, 2) := by decide +kernel
theorem dX1_write_125 : decode cX1_write 125 = .ok (.invokevirtual 40, 3) := by decide +kernel
theorem dX1_write_128 : decode cX1_write 128 = .ok (.iconst 0, 1) := by decide +kernel
theorem dX1_write_129 : decode cX1_write 129 = .ok (.istore_n 2, 1) := by decide +kernel
theorem dX1_write_130 : decode cX1_write 130 = .ok (.iload_n 2, 1) := by decide +kernel
theorem dX1_write_131 : decode cX1_write 131 = .ok (.bipush 10, 2) := by decide +kernel
theorem dX1_write_133 : decode cX1_write 133 = .ok (.if_icmp .ge 18, 3) := by decide +kernel
theorem dX1_write_136 : decode cX1_write 136 = .ok (.aload_n 0, 1) := by decide +kernel
theorem dX1_write_137 : decode cX1_write 137 = .ok (.iconst 1, 1) := by decide +kernel
theorem dX1_write_138 : decode cX1_write 138 = .ok (.aload_n 0, 1) := by decide +kernel
theorem dX1_write_139 : decode cX1_write 139 = .ok (.getfield 25, 3) := by decide +kernel
theorem dX1_write_142 : decode cX1_write 142 = .ok (.invokevirtual 62, 3) := by decide +kernel
theorem dX1_write_145 : decode cX1_write 145 = .ok (.iinc 2 1, 3) := by decide +kernel
theorem dX1_write_148 : decode cX1_write 148 = .ok (.goto (-18), 3) := by decide +kernel
theorem dX1_write_151 : decode cX1_write 151 = .ok (.return_, 1) := by decide +kernel
theorem dX1_bitAt_0 : decode cX1_bitAt 0 = .ok (.iload_n 1, 1) := by decide +kernel
theorem dX1_bitAt_1 : decode cX1_bitAt 1 = .ok (.ifCond .lt 20, 3) := by decide +kernel
theorem dX1_bitAt_4 : decode cX1_bitAt 4 = .ok (.iload_n 1, 1) := by decide +kernel
theorem dX1_bitAt_5 : decode cX1_bitAt 5 = .ok (.aload_n 0, 1) := by decide +kernel
theorem dX1_bitAt_6 : decode cX1_bitAt 6 = .ok (.getfield 18, 3) := by decide +kernel
theorem dX1_bitAt_9 : decode cX1_bitAt 9 = .ok (.if_icmp .ge 12, 3) := by decide +kernel
theorem dX1_bitAt_12 : decode cX1_bitAt 12 = .ok (.aload_n 0, 1) := by decide +kernel
theorem dX1_bitAt_13 : decode cX1_bitAt 13 = .ok (.getfield 9, 3) := by decide +kernel
theorem dX1_bitAt_16 : decode cX1_bitAt 16 = .ok (.iload_n 1, 1) := by decide +kernel
theorem dX1_bitAt_17 : decode cX1_bitAt 17 = .ok (.iaload, 1) := by decide +kernel
theorem dX1_bitAt_18 : decode cX1_bitAt 18 = .ok (.goto 4, 3) := by decide +kernel
theorem dX1_bitAt_21 : decode cX1_bitAt 21 = .ok (.iconst 1, 1) := by decide +kernel
theorem dX1_bitAt_22 : decode cX1_bitAt 22 = .ok (.ireturn, 1) := by decide +kernel
theorem dX1_isAnswer_0 : decode cX1_isAnswer 0 = .ok (.iload_n 1, 1) := by decide +kernel
theorem dX1_isAnswer_1 : decode cX1_isAnswer 1 = .ok (.aload_n 0, 1) := by decide +kernel
theorem dX1_isAnswer_2 : decode cX1_isAnswer 2 = .ok (.getfield 18, 3) := by decide +kernel
theorem dX1_isAnswer_5 : decode cX1_isAnswer 5 = .ok (.bipush 10, 2) := by decide +kernel
theorem dX1_isAnswer_7 : decode cX1_isAnswer 7 = .ok (.isub, 1) := by decide +kernel
theorem dX1_isAnswer_8 : decode cX1_isAnswer 8 = .ok (.iconst 1, 1) := by decide +kernel
theorem dX1_isAnswer_9 : decode cX1_isAnswer 9 = .ok (.iadd, 1) := by decide +kernel
theorem dX1_isAnswer_10 : decode cX1_isAnswer 10 = .ok (.if_icmp .ne 7, 3) := by decide +kernel
theorem dX1_isAnswer_13 : decode cX1_isAnswer 13 = .ok (.iconst 1, 1) := by decide +kernel
theorem dX1_isAnswer_14 : decode cX1_isAnswer 14 = .ok (.goto 4, 3) := by decide +kernel
theorem dX1_isAnswer_17 : decode cX1_isAnswer 17 = .ok (.iconst 0, 1) := by decide +kernel
theorem dX1_isAnswer_18 : decode cX1_isAnswer 18 = .ok (.ireturn, 1) := by decide +kernel
theorem dX1_mayLose_0 : decode cX1_mayLose 0 = .ok (.iload_n 1, 1) := by decide +kernel
theorem dX1_mayLose_1 : decode cX1_mayLose 1 = .ok (.ifCond .lt 30, 3) := by decide +kernel
theorem dX1_mayLose_4 : decode cX1_mayLose 4 = .ok (.iload_n 1, 1) := by decide +kernel
theorem dX1_mayLose_5 : decode cX1_mayLose 5 = .ok (.aload_n 0, 1) := by decide +kernel
theorem dX1_mayLose_6 : decode cX1_mayLose 6 = .ok (.getfield 18, 3) := by decide +kernel
theorem dX1_mayLose_9 : decode cX1_mayLose 9 = .ok (.if_icmp .ge 22, 3) := by decide +kernel
theorem dX1_mayLose_12 : decode cX1_mayLose 12 = .ok (.aload_n 0, 1) := by decide +kernel
theorem dX1_mayLose_13 : decode cX1_mayLose 13 = .ok (.getfield 9, 3) := by decide +kernel
theorem dX1_mayLose_16 : decode cX1_mayLose 16 = .ok (.iload_n 1, 1) := by decide +kernel
theorem dX1_mayLose_17 : decode cX1_mayLose 17 = .ok (.iaload, 1) := by decide +kernel
theorem dX1_mayLose_18 : decode cX1_mayLose 18 = .ok (.ifCond .eq 13, 3) := by decide +kernel
theorem dX1_mayLose_21 : decode cX1_mayLose 21 = .ok (.aload_n 0, 1) := by decide +kernel
theorem dX1_mayLose_22 : decode cX1_mayLose 22 = .ok (.getfield 15, 3) := by decide +kernel
theorem dX1_mayLose_25 : decode cX1_mayLose 25 = .ok (.iload_n 1, 1) := by decide +kernel
theorem dX1_mayLose_26 : decode cX1_mayLose 26 = .ok (.iaload, 1) := by decide +kernel
theorem dX1_mayLose_27 : decode cX1_mayLose 27 = .ok (.iconst (-1), 1) := by decide +kernel
theorem dX1_mayLose_28 : decode cX1_mayLose 28 = .ok (.if_icmp .ne 5, 3) := by decide +kernel
theorem dX1_mayLose_31 : decode cX1_mayLose 31 = .ok (.iconst 0, 1) := by decide +kernel
theorem dX1_mayLose_32 : decode cX1_mayLose 32 = .ok (.ireturn, 1) := by decide +kernel
theorem dX1_mayLose_33 : decode cX1_mayLose 33 = .ok (.aload_n 0, 1) := by decide +kernel
theorem dX1_mayLose_34 : decode cX1_mayLose 34 = .ok (.getfield 22, 3) := by decide +kernel
theorem dX1_mayLose_37 : decode cX1_mayLose 37 = .ok (.iconst 1, 1) := by decide +kernel
theorem dX1_mayLose_38 : decode cX1_mayLose 38 = .ok (.isub, 1) := by decide +kernel
theorem dX1_mayLose_39 : decode cX1_mayLose 39 = .ok (.aload_n 0, 1) := by decide +kernel
theorem dX1_mayLose_40 : decode cX1_mayLose 40 = .ok (.getfield 15, 3) := by decide +kernel
theorem dX1_mayLose_43 : decode cX1_mayLose 43 = .ok (.iload_n 1, 1) := by decide +kernel
theorem dX1_mayLose_44 : decode cX1_mayLose 44 = .ok (.iaload, 1) := by decide +kernel
theorem dX1_mayLose_45 : decode cX1_mayLose 45 = .ok (.isub, 1) := by decide +kernel
theorem dX1_mayLose_46 : decode cX1_mayLose 46 = .ok (.iconst 2, 1) := by decide +kernel
theorem dX1_mayLose_47 : decode cX1_mayLose 47 = .ok (.if_icmp .le 7, 3) := by decide +kernel
theorem dX1_mayLose_50 : decode cX1_mayLose 50 = .ok (.iconst 1, 1) := by decide +kernel
theorem dX1_mayLose_51 : decode cX1_mayLose 51 = .ok (.goto 4, 3) := by decide +kernel
theorem dX1_mayLose_54 : decode cX1_mayLose 54 = .ok (.iconst 0, 1) := by decide +kernel
theorem dX1_mayLose_55 : decode cX1_mayLose 55 = .ok (.ireturn, 1) := by decide +kernel
theorem dX1_clear_0 : decode cX1_clear 0 = .ok (.aload_n 0, 1) := by decide +kernel
theorem dX1_clear_1 : decode cX1_clear 1 = .ok (.iconst 0, 1) := by decide +kernel
theorem dX1_clear_2 : decode cX1_clear 2 = .ok (.putfield 18, 3) := by decide +kernel
theorem dX1_clear_5 : decode cX1_clear 5 = .ok (.aload_n 0, 1) := by decide +kernel
theorem dX1_clear_6 : decode cX1_clear 6 = .ok (.iconst 0, 1) := by decide +kernel
theorem dX1_clear_7 : decode cX1_clear 7 = .ok (.putfield 25, 3) := by decide +kernel
theorem dX1_clear_10 : decode cX1_clear 10 = .ok (.aload_n 0, 1) := by decide +kernel
theorem dX1_clear_11 : decode cX1_clear 11 = .ok (.iconst 0, 1) := by decide +kernel
theorem dX1_clear_12 : decode cX1_clear 12 = .ok (.putfield 28, 3) := by decide +kernel
theorem dX1_clear_15 : decode cX1_clear 15 = .ok (.aload_n 0, 1) := by decide +kernel
theorem dX1_clear_16 : decode cX1_clear 16 = .ok (.iconst (-1), 1) := by decide +kernel
theorem dX1_clear_17 : decode cX1_clear 17 = .ok (.putfield 31, 3) := by decide +kernel
theorem dX1_clear_20 : decode cX1_clear 20 = .ok (.aload_n 0, 1) := by decide +kernel
theorem dX1_clear_21 : decode cX1_clear 21 = .ok (.iconst 0, 1) := by decide +kernel
theorem dX1_clear_22 : decode cX1_clear 22 = .ok (.putfield 34, 3) := by decide +kernel
theorem dX1_clear_25 : decode cX1_clear 25 = .ok (.return_, 1) := by decide +kernel
set_option maxRecDepth 20000 in
theorem ggX1_addNumber_X1_append : GoodIn wsX1_addNumber wsX1_append := goodIn_r _ [9, 10, 11, 12, 2, 1, 16, 17, 18, 19, 20, 21, 22, 23] (by decide +kernel) (by decide +kernel)
set_option maxRecDepth 20000 in
theorem gX1_addNumber_X1_append : GoodIn wsX1_addNumber (wsV RX1 62 RX1 yX1_append wsX1_append) := goodIn_app (goodIn_of _ (by decide +kernel)) ggX1_addNumber_X1_append
set_option maxRecDepth 20000 in
theorem ggX1_addNumber_X4_nextCheck : GoodIn wsX1_addNumber wsX4_nextCheck := goodIn_r _ [15] (by decide +kernel) (by decide +kernel)
set_option maxRecDepth 20000 in
theorem gX1_addNumber_X4_nextCheck_n65 : GoodIn wsX1_addNumber (wsX4_nextCheck) := ggX1_addNumber_X4_nextCheck
theorem dX1_addNumber_0 : decode cX1_addNumber 0 = .ok (.iload_n 2, 1) := by decide +kernel
theorem dX1_addNumber_1 : decode cX1_addNumber 1 = .ok (.iconst 1, 1) := by decide +kernel
theorem dX1_addNumber_2 : decode cX1_addNumber 2 = .ok (.isub, 1) := by decide +kernel
theorem dX1_addNumber_3 : decode cX1_addNumber 3 = .ok (.istore_n 3, 1) := by decide +kernel
theorem dX1_addNumber_4 : decode cX1_addNumber 4 = .ok (.iload_n 3, 1) := by decide +kernel
theorem dX1_addNumber_5 : decode cX1_addNumber 5 = .ok (.ifCond .lt 68, 3) := by decide +kernel
theorem dX1_addNumber_8 : decode cX1_addNumber 8 = .ok (.iload_n 1, 1) := by decide +kernel
theorem dX1_addNumber_9 : decode cX1_addNumber 9 = .ok (.iload_n 3, 1) := by decide +kernel
theorem dX1_addNumber_10 : decode cX1_addNumber 10 = .ok (.ishr, 1) := by decide +kernel
theorem dX1_addNumber_11 : decode cX1_addNumber 11 = .ok (.iconst 1, 1) := by decide +kernel
theorem dX1_addNumber_12 : decode cX1_addNumber 12 = .ok (.iand, 1) := by decide +kernel
theorem dX1_addNumber_13 : decode cX1_addNumber 13 = .ok (.istore 4, 2) := by decide +kernel
theorem dX1_addNumber_15 : decode cX1_addNumber 15 = .ok (.aload_n 0, 1) := by decide +kernel
theorem dX1_addNumber_16 : decode cX1_addNumber 16 = .ok (.getfield 28, 3) := by decide +kernel
theorem dX1_addNumber_19 : decode cX1_addNumber 19 = .ok (.iconst 5, 1) := by decide +kernel
theorem dX1_addNumber_20 : decode cX1_addNumber 20 = .ok (.if_icmp .ne 14, 3) := by decide +kernel
theorem dX1_addNumber_23 : decode cX1_addNumber 23 = .ok (.aload_n 0, 1) := by decide +kernel
theorem dX1_addNumber_24 : decode cX1_addNumber 24 = .ok (.iconst 1, 1) := by decide +kernel
theorem dX1_addNumber_25 : decode cX1_addNumber 25 = .ok (.aload_n 0, 1) := by decide +kernel
theorem dX1_addNumber_26 : decode cX1_addNumber 26 = .ok (.getfield 31, 3) := by decide +kernel
theorem dX1_addNumber_29 : decode cX1_addNumber 29 = .ok (.isub, 1) := by decide +kernel
theorem dX1_addNumber_30 : decode cX1_addNumber 30 = .ok (.iconst (-1), 1) := by decide +kernel
theorem dX1_addNumber_31 : decode cX1_addNumber 31 = .ok (.invokevirtual 62, 3) := by decide +kernel
theorem dX1_addNumber_34 : decode cX1_addNumber 34 = .ok (.aload_n 0, 1) := by decide +kernel
theorem dX1_addNumber_35 : decode cX1_addNumber 35 = .ok (.iload 4, 2) := by decide +kernel
theorem dX1_addNumber_37 : decode cX1_addNumber 37 = .ok (.aload_n 0, 1) := by decide +kernel
theorem dX1_addNumber_38 : decode cX1_addNumber 38 = .ok (.getfield 25, 3) := by decide +kernel
theorem dX1_addNumber_41 : decode cX1_addNumber 41 = .ok (.invokevirtual 62, 3) := by decide +kernel
theorem dX1_addNumber_44 : decode cX1_addNumber 44 = .ok (.aload_n 0, 1) := by decide +kernel
theorem dX1_addNumber_45 : decode cX1_addNumber 45 = .ok (.dup, 1) := by decide +kernel
theorem dX1_addNumber_46 : decode cX1_addNumber 46 = .ok (.getfield 25, 3) := by decide +kernel
theorem dX1_addNumber_49 : decode cX1_addNumber 49 = .ok (.iconst 1, 1) := by decide +kernel
theorem dX1_addNumber_50 : decode cX1_addNumber 50 = .ok (.iadd, 1) := by decide +kernel
theorem dX1_addNumber_51 : decode cX1_addNumber 51 = .ok (.putfield 25, 3) := by decide +kernel
theorem dX1_addNumber_54 : decode cX1_addNumber 54 = .ok (.aload_n 0, 1) := by decide +kernel
theorem dX1_addNumber_55 : decode cX1_addNumber 55 = .ok (.aload_n 0, 1) := by decide +kernel
theorem dX1_addNumber_56 : decode cX1_addNumber 56 = .ok (.getfield 34, 3) := by decide +kernel
theorem dX1_addNumber_59 : decode cX1_addNumber 59 = .ok (.iload 4, 2) := by decide +kernel
theorem dX1_addNumber_61 : decode cX1_addNumber 61 = .ok (.invokestatic 65, 3) := by decide +kernel
theorem dX1_addNumber_64 : decode cX1_addNumber 64 = .ok (.putfield 34, 3) := by decide +kernel
theorem dX1_addNumber_67 : decode cX1_addNumber 67 = .ok (.iinc 3 (-1), 3) := by decide +kernel
theorem dX1_addNumber_70 : decode cX1_addNumber 70 = .ok (.goto (-66), 3) := by decide +kernel
theorem dX1_addNumber_73 : decode cX1_addNumber 73 = .ok (.return_, 1) := by decide +kernel
theorem dX1_append_0 : decode cX1_append 0 = .ok (.aload_n 0, 1) := by decide +kernel
theorem dX1_append_1 : decode cX1_append 1 = .ok (.getfield 18, 3) := by decide +kernel
theorem dX1_append_4 : decode cX1_append 4 = .ok (.sipush 160, 3) := by decide +kernel
theorem dX1_append_7 : decode cX1_append 7 = .ok (.if_icmp .lt 4, 3) := by decide +kernel
theorem dX1_append_10 : decode cX1_append 10 = .ok (.return_, 1) := by decide +kernel
theorem dX1_append_11 : decode cX1_append 11 = .ok (.aload_n 0, 1) := by decide +kernel
theorem dX1_append_12 : decode cX1_append 12 = .ok (.getfield 9, 3) := by decide +kernel
theorem dX1_append_15 : decode cX1_append 15 = .ok (.aload_n 0, 1) := by decide +kernel
theorem dX1_append_16 : decode cX1_append 16 = .ok (.getfield 18, 3) := by decide +kernel
theorem dX1_append_19 : decode cX1_append 19 = .ok (.iload_n 1, 1) := by decide +kernel
theorem dX1_append_20 : decode cX1_append 20 = .ok (.iastore, 1) := by decide +kernel
theorem dX1_append_21 : decode cX1_append 21 = .ok (.aload_n 0, 1) := by decide +kernel
theorem dX1_append_22 : decode cX1_append 22 = .ok (.getfield 15, 3) := by decide +kernel
theorem dX1_append_25 : decode cX1_append 25 = .ok (.aload_n 0, 1) := by decide +kernel
theorem dX1_append_26 : decode cX1_append 26 = .ok (.getfield 18, 3) := by decide +kernel
theorem dX1_append_29 : decode cX1_append 29 = .ok (.iload_n 2, 1) := by decide +kernel
theorem dX1_append_30 : decode cX1_append 30 = .ok (.iastore, 1) := by decide +kernel
theorem dX1_append_31 : decode cX1_append 31 = .ok (.aload_n 0, 1) := by decide +kernel
theorem dX1_append_32 : decode cX1_append 32 = .ok (.dup, 1) := by decide +kernel
theorem dX1_append_33 : decode cX1_append 33 = .ok (.getfield 18, 3) := by decide +kernel
theorem dX1_append_36 : decode cX1_append 36 = .ok (.iconst 1, 1) := by decide +kernel
theorem dX1_append_37 : decode cX1_append 37 = .ok (.iadd, 1) := by decide +kernel
theorem dX1_append_38 : decode cX1_append 38 = .ok (.putfield 18, 3) := by decide +kernel
theorem dX1_append_41 : decode cX1_append 41 = .ok (.aload_n 0, 1) := by decide +kernel
theorem dX1_append_42 : decode cX1_append 42 = .ok (.iload_n 1, 1) := by decide +kernel
theorem dX1_append_43 : decode cX1_append 43 = .ok (.aload_n 0, 1) := by decide +kernel
theorem dX1_append_44 : decode cX1_append 44 = .ok (.getfield 31, 3) := by decide +kernel
theorem dX1_append_47 : decode cX1_append 47 = .ok (.if_icmp .ne 12, 3) := by decide +kernel
theorem dX1_append_50 : decode cX1_append 50 = .ok (.aload_n 0, 1) := by decide +kernel
theorem dX1_append_51 : decode cX1_append 51 = .ok (.getfield 28, 3) := by decide +kernel
theorem dX1_append_54 : decode cX1_append 54 = .ok (.iconst 1, 1) := by decide +kernel
theorem dX1_append_55 : decode cX1_append 55 = .ok (.iadd, 1) := by decide +kernel
theorem dX1_append_56 : decode cX1_append 56 = .ok (.goto 4, 3) := by decide +kernel
theorem dX1_append_59 : decode cX1_append 59 = .ok (.iconst 1, 1) := by decide +kernel
theorem dX1_append_60 : decode cX1_append 60 = .ok (.putfield 28, 3) := by decide +kernel
theorem dX1_append_63 : decode cX1_append 63 = .ok (.aload_n 0, 1) := by decide +kernel
theorem dX1_append_64 : decode cX1_append 64 = .ok (.iload_n 1, 1) := by decide +kernel
theorem dX1_append_65 : decode cX1_append 65 = .ok (.putfield 31, 3) := by decide +kernel
theorem dX1_append_68 : decode cX1_append 68 = .ok (.return_, 1) := by decide +kernel
set_option maxRecDepth 20000 in
theorem ggX2_init_X0_init : GoodIn wsX2_init wsX0_init := goodIn_r _ [29, 30, 2, 3, 31, 32, 33, 34, 75, 76, 77, 78] (by decide +kernel) (by decide +kernel)
set_option maxRecDepth 20000 in
theorem gX2_init_X0_init_n17 : GoodIn wsX2_init (wsX0_init) := ggX2_init_X0_init
set_option maxRecDepth 20000 in
theorem ggX2_init_X1_init : GoodIn wsX2_init wsX1_init := goodIn_r _ [36, 37, 2, 3, 38, 39, 40, 41, 42, 43, 44, 45, 46, 79, 80, 81, 82, 83, 84, 85, 86] (by decide +kernel) (by decide +kernel)
set_option maxRecDepth 20000 in
theorem gX2_init_X1_init_n24 : GoodIn wsX2_init (wsX1_init) := ggX2_init_X1_init
set_option maxRecDepth 20000 in
theorem ggX2_init_X3_init : GoodIn wsX2_init wsX3_init := goodIn_r _ [48, 49, 2, 3, 50, 6, 7, 51, 52, 53, 54, 55, 56, 57, 58, 59, 28, 29, 30, 31, 32, 33, 34, 75, 76, 77, 78, 87, 88, 89, 90, 91, 92, 93, 94, 95] (by decide +kernel) (by decide +kernel)
set_option maxRecDepth 20000 in
theorem gX2_init_X3_init_n31 : GoodIn wsX2_init (wsX3_init) := ggX2_init_X3_init
theorem dX2_init_0 : decode cX2_init 0 = .ok (.aload_n 0, 1) := by decide +kernel
theorem dX2_init_1 : decode cX2_init 1 = .ok (.invokespecial 3, 3) := by decide +kernel
theorem dX2_init_4 : decode cX2_init 4 = .ok (.aload_n 0, 1) := by decide +kernel
theorem dX2_init_5 : decode cX2_init 5 = .ok (.iconst 4, 1) := by decide +kernel
theorem dX2_init_6 : decode cX2_init 6 = .ok (.anewarray 9, 3) := by decide +kernel
theorem dX2_init_9 : decode cX2_init 9 = .ok (.putfield 11, 3) := by decide +kernel
theorem dX2_init_12 : decode cX2_init 12 = .ok (.aload_n 0, 1) := by decide +kernel
theorem dX2_init_13 : decode cX2_init 13 = .ok (.new 9, 3) := by decide +kernel
theorem dX2_init_16 : decode cX2_init 16 = .ok (.dup, 1) := by decide +kernel
theorem dX2_init_17 : decode cX2_init 17 = .ok (.invokespecial 17, 3) := by decide +kernel
theorem dX2_init_20 : decode cX2_init 20 = .ok (.putfield 18, 3) := by decide +kernel
theorem dX2_init_23 : decode cX2_init 23 = .ok (.aload_n 0, 1) := by decide +kernel
theorem dX2_init_24 : decode cX2_init 24 = .ok (.new 22, 3) := by decide +kernel
theorem dX2_init_27 : decode cX2_init 27 = .ok (.dup, 1) := by decide +kernel
theorem dX2_init_28 : decode cX2_init 28 = .ok (.invokespecial 24, 3) := by decide +kernel
theorem dX2_init_31 : decode cX2_init 31 = .ok (.putfield 25, 3) := by decide +kernel
theorem dX2_init_34 : decode cX2_init 34 = .ok (.aload_n 0, 1) := by decide +kernel
theorem dX2_init_35 : decode cX2_init 35 = .ok (.new 29, 3) := by decide +kernel
theorem dX2_init_38 : decode cX2_init 38 = .ok (.dup, 1) := by decide +kernel
theorem dX2_init_39 : decode cX2_init 39 = .ok (.invokespecial 31, 3) := by decide +kernel
theorem dX2_init_42 : decode cX2_init 42 = .ok (.putfield 32, 3) := by decide +kernel
theorem dX2_init_45 : decode cX2_init 45 = .ok (.aload_n 0, 1) := by decide +kernel
theorem dX2_init_46 : decode cX2_init 46 = .ok (.iconst 1, 1) := by decide +kernel
theorem dX2_init_47 : decode cX2_init 47 = .ok (.putfield 36, 3) := by decide +kernel
theorem dX2_init_50 : decode cX2_init 50 = .ok (.aload_n 0, 1) := by decide +kernel
theorem dX2_init_51 : decode cX2_init 51 = .ok (.iconst 1, 1) := by decide +kernel
theorem dX2_init_52 : decode cX2_init 52 = .ok (.putfield 40, 3) := by decide +kernel
theorem dX2_init_55 : decode cX2_init 55 = .ok (.aload_n 0, 1) := by decide +kernel
theorem dX2_init_56 : decode cX2_init 56 = .ok (.iconst 0, 1) := by decide +kernel
theorem dX2_init_57 : decode cX2_init 57 = .ok (.putfield 44, 3) := by decide +kernel
theorem dX2_init_60 : decode cX2_init 60 = .ok (.aload_n 0, 1) := by decide +kernel
theorem dX2_init_61 : decode cX2_init 61 = .ok (.iconst 0, 1) := by decide +kernel
theorem dX2_init_62 : decode cX2_init 62 = .ok (.putfield 47, 3) := by decide +kernel
theorem dX2_init_65 : decode cX2_init 65 = .ok (.aload_n 0, 1) := by decide +kernel
theorem dX2_init_66 : decode cX2_init 66 = .ok (.iconst 0, 1) := by decide +kernel
theorem dX2_init_67 : decode cX2_init 67 = .ok (.putfield 50, 3) := by decide +kernel
theorem dX2_init_70 : decode cX2_init 70 = .ok (.aload_n 0, 1) := by decide +kernel
theorem dX2_init_71 : decode cX2_init 71 = .ok (.iconst 0, 1) := by decide +kernel
theorem dX2_init_72 : decode cX2_init 72 = .ok (.putfield 53, 3) := by decide +kernel
theorem dX2_init_75 : decode cX2_init 75 = .ok (.aload_n 0, 1) := by decide +kernel
theorem dX2_init_76 : decode cX2_init 76 = .ok (.iconst 0, 1) := by decide +kernel
theorem dX2_init_77 : decode cX2_init 77 = .ok (.putfield 56, 3) := by decide +kernel
theorem dX2_init_80 : decode cX2_init 80 = .ok (.aload_n 0, 1) := by decide +kernel
theorem dX2_init_81 : decode cX2_init 81 = .ok (.iconst 0, 1) := by decide +kernel
theorem dX2_init_82 : decode cX2_init 82 = .ok (.putfield 59, 3) := by decide +kernel
theorem dX2_init_85 : decode cX2_init 85 = .ok (.aload_n 0, 1) := by decide +kernel
theorem dX2_init_86 : decode cX2_init 86 = .ok (.iconst 0, 1) := by decide +kernel
theorem dX2_init_87 : decode cX2_init 87 = .ok (.putfield 62, 3) := by decide +kernel
theorem dX2_init_90 : decode cX2_init 90 = .ok (.aload_n 0, 1) := by decide +kernel
theorem dX2_init_91 : decode cX2_init 91 = .ok (.iconst 0, 1) := by decide +kernel
theorem dX2_init_92 : decode cX2_init 92 = .ok (.putfield 65, 3) := by decide +kernel
theorem dX2_init_95 : decode cX2_init 95 = .ok (.aload_n 0, 1) := by decide +kernel
theorem dX2_init_96 : decode cX2_init 96 = .ok (.iconst 0, 1) := by decide +kernel
theorem dX2_init_97 : decode cX2_init 97 = .ok (.putfield 68, 3) := by decide +kernel
theorem dX2_init_100 : decode cX2_init 100 = .ok (.iconst 0, 1) := by decide +kernel
theorem dX2_init_101 : decode cX2_init 101 = .ok (.istore_n 1, 1) := by decide +kernel
theorem dX2_init_102 : decode cX2_init 102 = .ok (.iload_n 1, 1) := by decide +kernel
theorem dX2_init_103 : decode cX2_init 103 = .ok (.iconst 4, 1) := by decide +kernel
theorem dX2_init_104 : decode cX2_init 104 = .ok (.if_icmp .ge 22, 3) := by decide +kernel
theorem dX2_init_107 : decode cX2_init 107 = .ok (.aload_n 0, 1) := by decide +kernel
theorem dX2_init_108 : decode cX2_init 108 = .ok (.getfield 11, 3) := by decide +kernel
theorem dX2_init_111 : decode cX2_init 111 = .ok (.iload_n 1, 1) := by decide +kernel
theorem dX2_init_112 : decode cX2_init 112 = .ok (.new 9, 3) := by decide +kernel
theorem dX2_init_115 : decode cX2_init 115 = .ok (.dup, 1) := by decide +kernel
theorem dX2_init_116 : decode cX2_init 116 = .ok (.invokespecial 17, 3) := by decide +kernel
theorem dX2_init_119 : decode cX2_init 119 = .ok (.aastore, 1) := by decide +kernel
theorem dX2_init_120 : decode cX2_init 120 = .ok (.iinc 1 1, 3) := by decide +kernel
theorem dX2_init_123 : decode cX2_init 123 = .ok (.goto (-21), 3) := by decide +kernel
theorem dX2_init_126 : decode cX2_init 126 = .ok (.return_, 1) := by decide +kernel
set_option maxRecDepth 20000 in
theorem ggX2_addWanted_X0_set : GoodIn wsX2_addWanted wsX0_set := goodIn_r _ [7, 8, 9, 10, 11, 27, 28, 29, 30] (by decide +kernel) (by decide +kernel)
set_option maxRecDepth 20000 in
theorem gX2_addWanted_X0_set : GoodIn wsX2_addWanted (wsV RX2 71 RX0 yX0_set wsX0_set) := goodIn_app (goodIn_of _ (by decide +kernel)) ggX2_addWanted_X0_set
theorem dX2_addWanted_0 : decode cX2_addWanted 0 = .ok (.aload_n 0, 1) := by decide +kernel
theorem dX2_addWanted_1 : decode cX2_addWanted 1 = .ok (.getfield 44, 3) := by decide +kernel
theorem dX2_addWanted_4 : decode cX2_addWanted 4 = .ok (.iconst 4, 1) := by decide +kernel
theorem dX2_addWanted_5 : decode cX2_addWanted 5 = .ok (.if_icmp .ge 30, 3) := by decide +kernel
theorem dX2_addWanted_8 : decode cX2_addWanted 8 = .ok (.aload_n 0, 1) := by decide +kernel
theorem dX2_addWanted_9 : decode cX2_addWanted 9 = .ok (.getfield 11, 3) := by decide +kernel
theorem dX2_addWanted_12 : decode cX2_addWanted 12 = .ok (.aload_n 0, 1) := by decide +kernel
theorem dX2_addWanted_13 : decode cX2_addWanted 13 = .ok (.getfield 44, 3) := by decide +kernel
theorem dX2_addWanted_16 : decode cX2_addWanted 16 = .ok (.aaload, 1) := by decide +kernel
theorem dX2_addWanted_17 : decode cX2_addWanted 17 = .ok (.iload_n 1, 1) := by decide +kernel
theorem dX2_addWanted_18 : decode cX2_addWanted 18 = .ok (.iload_n 2, 1) := by decide +kernel
theorem dX2_addWanted_19 : decode cX2_addWanted 19 = .ok (.lload_n 3, 1) := by decide +kernel
theorem dX2_addWanted_20 : decode cX2_addWanted 20 = .ok (.iload 5, 2) := by decide +kernel
theorem dX2_addWanted_22 : decode cX2_addWanted 22 = .ok (.invokevirtual 71, 3) := by decide +kernel
theorem dX2_addWanted_25 : decode cX2_addWanted 25 = .ok (.aload_n 0, 1) := by decide +kernel
theorem dX2_addWanted_26 : decode cX2_addWanted 26 = .ok (.dup, 1) := by decide +kernel
theorem dX2_addWanted_27 : decode cX2_addWanted 27 = .ok (.getfield 44, 3) := by decide +kernel
theorem dX2_addWanted_30 : decode cX2_addWanted 30 = .ok (.iconst 1, 1) := by decide +kernel
theorem dX2_addWanted_31 : decode cX2_addWanted 31 = .ok (.iadd, 1) := by decide +kernel
theorem dX2_addWanted_32 : decode cX2_addWanted 32 = .ok (.putfield 44, 3) := by decide +kernel
theorem dX2_addWanted_35 : decode cX2_addWanted 35 = .ok (.return_, 1) := by decide +kernel
set_option maxRecDepth 20000 in
theorem ggX2_offered_X0_rank : GoodIn wsX2_offered wsX0_rank := goodIn_r _ [7, 8, 9, 10, 11, 27, 28, 29, 30] (by decide +kernel) (by decide +kernel)
set_option maxRecDepth 20000 in
theorem gX2_offered_X0_rank : GoodIn wsX2_offered (wsV RX2 75 RX0 yX0_rank wsX0_rank) := goodIn_app (goodIn_of _ (by decide +kernel)) ggX2_offered_X0_rank
theorem dX2_offered_0 : decode cX2_offered 0 = .ok (.iconst (-1), 1) := by decide +kernel
theorem dX2_offered_1 : decode cX2_offered 1 = .ok (.istore_n 1, 1) := by decide +kernel
theorem dX2_offered_2 : decode cX2_offered 2 = .ok (.iconst 0, 1) := by decide +kernel
theorem dX2_offered_3 : decode cX2_offered 3 = .ok (.istore_n 2, 1) := by decide +kernel
theorem dX2_offered_4 : decode cX2_offered 4 = .ok (.iload_n 2, 1) := by decide +kernel
theorem dX2_offered_5 : decode cX2_offered 5 = .ok (.aload_n 0, 1) := by decide +kernel
theorem dX2_offered_6 : decode cX2_offered 6 = .ok (.getfield 44, 3) := by decide +kernel
theorem dX2_offered_9 : decode cX2_offered 9 = .ok (.if_icmp .ge 37, 3) := by decide +kernel
theorem dX2_offered_12 : decode cX2_offered 12 = .ok (.iload_n 1, 1) := by decide +kernel
theorem dX2_offered_13 : decode cX2_offered 13 = .ok (.iconst (-1), 1) := by decide +kernel
theorem dX2_offered_14 : decode cX2_offered 14 = .ok (.if_icmp .eq 24, 3) := by decide +kernel
theorem dX2_offered_17 : decode cX2_offered 17 = .ok (.aload_n 0, 1) := by decide +kernel
theorem dX2_offered_18 : decode cX2_offered 18 = .ok (.getfield 11, 3) := by decide +kernel
theorem dX2_offered_21 : decode cX2_offered 21 = .ok (.iload_n 2, 1) := by decide +kernel
theorem dX2_offered_22 : decode cX2_offered 22 = .ok (.aaload, 1) := by decide +kernel
theorem dX2_offered_23 : decode cX2_offered 23 = .ok (.invokevirtual 75, 3) := by decide +kernel
theorem dX2_offered_26 : decode cX2_offered 26 = .ok (.aload_n 0, 1) := by decide +kernel
theorem dX2_offered_27 : decode cX2_offered 27 = .ok (.getfield 11, 3) := by decide +kernel
theorem dX2_offered_30 : decode cX2_offered 30 = .ok (.iload_n 1, 1) := by decide +kernel
theorem dX2_offered_31 : decode cX2_offered 31 = .ok (.aaload, 1) := by decide +kernel
theorem dX2_offered_32 : decode cX2_offered 32 = .ok (.invokevirtual 75, 3) := by decide +kernel
theorem dX2_offered_35 : decode cX2_offered 35 = .ok (.if_icmp .ge 5, 3) := by decide +kernel
theorem dX2_offered_38 : decode cX2_offered 38 = .ok (.iload_n 2, 1) := by decide +kernel
theorem dX2_offered_39 : decode cX2_offered 39 = .ok (.istore_n 1, 1) := by decide +kernel
theorem dX2_offered_40 : decode cX2_offered 40 = .ok (.iinc 2 1, 3) := by decide +kernel
theorem dX2_offered_43 : decode cX2_offered 43 = .ok (.goto (-39), 3) := by decide +kernel
theorem dX2_offered_46 : decode cX2_offered 46 = .ok (.iload_n 1, 1) := by decide +kernel
theorem dX2_offered_47 : decode cX2_offered 47 = .ok (.ireturn, 1) := by decide +kernel
theorem dX2_switchOn_0 : decode cX2_switchOn 0 = .ok (.aload_n 0, 1) := by decide +kernel
theorem dX2_switchOn_1 : decode cX2_switchOn 1 = .ok (.iconst 1, 1) := by decide +kernel
theorem dX2_switchOn_2 : decode cX2_switchOn 2 = .ok (.putfield 36, 3) := by decide +kernel
theorem dX2_switchOn_5 : decode cX2_switchOn 5 = .ok (.aload_n 0, 1) := by decide +kernel
theorem dX2_switchOn_6 : decode cX2_switchOn 6 = .ok (.iconst 0, 1) := by decide +kernel
theorem dX2_switchOn_7 : decode cX2_switchOn 7 = .ok (.putfield 47, 3) := by decide +kernel
theorem dX2_switchOn_10 : decode cX2_switchOn 10 = .ok (.aload_n 0, 1) := by decide +kernel
theorem dX2_switchOn_11 : decode cX2_switchOn 11 = .ok (.iconst 0, 1) := by decide +kernel
theorem dX2_switchOn_12 : decode cX2_switchOn 12 = .ok (.putfield 50, 3) := by decide +kernel
theorem dX2_switchOn_15 : decode cX2_switchOn 15 = .ok (.return_, 1) := by decide +kernel
set_option maxRecDepth 20000 in
theorem ggX2_startSending_X2_offered : GoodIn wsX2_startSending wsX2_offered := goodIn_r _ [12, 13, 6, 14, 15, 16, 17, 18, 19, 20, 21, 22, 76, 77, 78, 79, 80, 81, 82, 83, 84, 85, 86, 87, 88, 89, 90, 91, 92, 93, 94] (by decide +kernel) (by decide +kernel)
set_option maxRecDepth 20000 in
theorem gX2_startSending_X2_offered : GoodIn wsX2_startSending (wsV RX2 79 RX2 yX2_offered wsX2_offered) := goodIn_app (goodIn_of _ (by decide +kernel)) ggX2_startSending_X2_offered
set_option maxRecDepth 20000 in
theorem ggX2_startSending_X1_write : GoodIn wsX2_startSending wsX1_write := goodIn_r _ [27, 28, 29, 30, 31, 32, 33, 34, 35, 36, 37, 38, 26, 39, 40, 41, 42, 43, 44, 45, 46, 47, 48, 49, 50, 51, 52, 53, 54, 55, 91, 92, 93, 94, 95, 96, 97, 98, 99, 100, 101, 102] (by decide +kernel) (by decide +kernel)
set_option maxRecDepth 20000 in
theorem gX2_startSending_X1_write : GoodIn wsX2_startSending (wsV RX2 82 RX1 yX1_write wsX1_write) := goodIn_app (goodIn_of _ (by decide +kernel)) ggX2_startSending_X1_write
set_option maxRecDepth 20000 in
theorem ggX2_startSending_X3_begin : GoodIn wsX2_startSending wsX3_begin := goodIn_r _ [60, 61, 62, 63, 64, 65, 66, 67, 68, 69, 70, 71, 72, 17, 73, 19, 20, 74, 75, 103, 104, 105, 106, 107, 108, 109, 110, 111, 91, 92, 93, 94] (by decide +kernel) (by decide +kernel)
set_option maxRecDepth 20000 in
theorem gX2_startSending_X3_begin : GoodIn wsX2_startSending (wsV RX2 86 RX3 yX3_begin wsX3_begin) := goodIn_app (goodIn_of _ (by decide +kernel)) ggX2_startSending_X3_begin
theorem dX2_startSending_0 : decode cX2_startSending 0 = .ok (.aload_n 0, 1) := by decide +kernel
theorem dX2_startSending_1 : decode cX2_startSending 1 = .ok (.invokevirtual 79, 3) := by decide +kernel
theorem dX2_startSending_4 : decode cX2_startSending 4 = .ok (.istore_n 1, 1) := by decide +kernel
theorem dX2_startSending_5 : decode cX2_startSending 5 = .ok (.aload_n 0, 1) := by decide +kernel
theorem dX2_startSending_6 : decode cX2_startSending 6 = .ok (.getfield 36, 3) := by decide +kernel
theorem dX2_startSending_9 : decode cX2_startSending 9 = .ok (.ifCond .eq 8, 3) := by decide +kernel
theorem dX2_startSending_12 : decode cX2_startSending 12 = .ok (.iload_n 1, 1) := by decide +kernel
theorem dX2_startSending_13 : decode cX2_startSending 13 = .ok (.iconst (-1), 1) := by decide +kernel
theorem dX2_startSending_14 : decode cX2_startSending 14 = .ok (.if_icmp .ne 4, 3) := by decide +kernel
theorem dX2_startSending_17 : decode cX2_startSending 17 = .ok (.return_, 1) := by decide +kernel
theorem dX2_startSending_18 : decode cX2_startSending 18 = .ok (.aload_n 0, 1) := by decide +kernel
theorem dX2_startSending_19 : decode cX2_startSending 19 = .ok (.iconst 3, 1) := by decide +kernel
theorem dX2_startSending_20 : decode cX2_startSending 20 = .ok (.putfield 40, 3) := by decide +kernel
theorem dX2_startSending_23 : decode cX2_startSending 23 = .ok (.aload_n 0, 1) := by decide +kernel
theorem dX2_startSending_24 : decode cX2_startSending 24 = .ok (.iload_n 1, 1) := by decide +kernel
theorem dX2_startSending_25 : decode cX2_startSending 25 = .ok (.putfield 65, 3) := by decide +kernel
theorem dX2_startSending_28 : decode cX2_startSending 28 = .ok (.aload_n 0, 1) := by decide +kernel
theorem dX2_startSending_29 : decode cX2_startSending 29 = .ok (.iconst 0, 1) := by decide +kernel
theorem dX2_startSending_30 : decode cX2_startSending 30 = .ok (.putfield 68, 3) := by decide +kernel
theorem dX2_startSending_33 : decode cX2_startSending 33 = .ok (.aload_n 0, 1) := by decide +kernel
theorem dX2_startSending_34 : decode cX2_startSending 34 = .ok (.getfield 25, 3) := by decide +kernel
theorem dX2_startSending_37 : decode cX2_startSending 37 = .ok (.aload_n 0, 1) := by decide +kernel
theorem dX2_startSending_38 : decode cX2_startSending 38 = .ok (.getfield 11, 3) := by decide +kernel
theorem dX2_startSending_41 : decode cX2_startSending 41 = .ok (.iload_n 1, 1) := by decide +kernel
theorem dX2_startSending_42 : decode cX2_startSending 42 = .ok (.aaload, 1) := by decide +kernel
theorem dX2_startSending_43 : decode cX2_startSending 43 = .ok (.invokevirtual 82, 3) := by decide +kernel
theorem dX2_startSending_46 : decode cX2_startSending 46 = .ok (.aload_n 0, 1) := by decide +kernel
theorem dX2_startSending_47 : decode cX2_startSending 47 = .ok (.getfield 32, 3) := by decide +kernel
theorem dX2_startSending_50 : decode cX2_startSending 50 = .ok (.invokevirtual 86, 3) := by decide +kernel
theorem dX2_startSending_53 : decode cX2_startSending 53 = .ok (.return_, 1) := by decide +kernel
set_option maxRecDepth 20000 in
theorem ggX2_bitToSend_X1_bitAt : GoodIn wsX2_bitToSend wsX1_bitAt := goodIn_r _ [9, 10, 11, 41, 42, 43, 44, 45, 46, 47, 48] (by decide +kernel) (by decide +kernel)
set_option maxRecDepth 20000 in
theorem gX2_bitToSend_X1_bitAt : GoodIn wsX2_bitToSend (wsV RX2 89 RX1 yX1_bitAt wsX1_bitAt) := goodIn_app (goodIn_of _ (by decide +kernel)) ggX2_bitToSend_X1_bitAt
set_option maxRecDepth 20000 in
theorem ggX2_bitToSend_X3_givesAnswer : GoodIn wsX2_bitToSend wsX3_givesAnswer := goodIn_r _ [16, 17, 18, 19, 20, 21, 22, 15, 23, 24, 25, 49, 50, 51, 52, 53, 54, 55, 56, 57] (by decide +kernel) (by decide +kernel)
set_option maxRecDepth 20000 in
theorem gX2_bitToSend_X3_givesAnswer : GoodIn wsX2_bitToSend (wsV RX2 93 RX3 yX3_givesAnswer wsX3_givesAnswer) := goodIn_app (goodIn_of _ (by decide +kernel)) ggX2_bitToSend_X3_givesAnswer
theorem dX2_bitToSend_0 : decode cX2_bitToSend 0 = .ok (.aload_n 0, 1) := by decide +kernel
theorem dX2_bitToSend_1 : decode cX2_bitToSend 1 = .ok (.getfield 40, 3) := by decide +kernel
theorem dX2_bitToSend_4 : decode cX2_bitToSend 4 = .ok (.iconst 3, 1) := by decide +kernel
theorem dX2_bitToSend_5 : decode cX2_bitToSend 5 = .ok (.if_icmp .ne 15, 3) := by decide +kernel
theorem dX2_bitToSend_8 : decode cX2_bitToSend 8 = .ok (.aload_n 0, 1) := by decide +kernel
theorem dX2_bitToSend_9 : decode cX2_bitToSend 9 = .ok (.getfield 25, 3) := by decide +kernel
theorem dX2_bitToSend_12 : decode cX2_bitToSend 12 = .ok (.aload_n 0, 1) := by decide +kernel
theorem dX2_bitToSend_13 : decode cX2_bitToSend 13 = .ok (.getfield 68, 3) := by decide +kernel
theorem dX2_bitToSend_16 : decode cX2_bitToSend 16 = .ok (.invokevirtual 89, 3) := by decide +kernel
theorem dX2_bitToSend_19 : decode cX2_bitToSend 19 = .ok (.ireturn, 1) := by decide +kernel
theorem dX2_bitToSend_20 : decode cX2_bitToSend 20 = .ok (.aload_n 0, 1) := by decide +kernel
theorem dX2_bitToSend_21 : decode cX2_bitToSend 21 = .ok (.getfield 40, 3) := by decide +kernel
theorem dX2_bitToSend_24 : decode cX2_bitToSend 24 = .ok (.iconst 2, 1) := by decide +kernel
theorem dX2_bitToSend_25 : decode cX2_bitToSend 25 = .ok (.if_icmp .ne 17, 3) := by decide +kernel
theorem dX2_bitToSend_28 : decode cX2_bitToSend 28 = .ok (.aload_n 0, 1) := by decide +kernel
theorem dX2_bitToSend_29 : decode cX2_bitToSend 29 = .ok (.getfield 32, 3) := by decide +kernel
theorem dX2_bitToSend_32 : decode cX2_bitToSend 32 = .ok (.invokevirtual 93, 3) := by decide +kernel
theorem dX2_bitToSend_35 : decode cX2_bitToSend 35 = .ok (.ifCond .eq 7, 3) := by decide +kernel
theorem dX2_bitToSend_38 : decode cX2_bitToSend 38 = .ok (.iconst 0, 1) := by decide +kernel
theorem dX2_bitToSend_39 : decode cX2_bitToSend 39 = .ok (.goto 4, 3) := by decide +kernel
theorem dX2_bitToSend_42 : decode cX2_bitToSend 42 = .ok (.iconst 1, 1) := by decide +kernel
theorem dX2_bitToSend_43 : decode cX2_bitToSend 43 = .ok (.ireturn, 1) := by decide +kernel
set_option maxRecDepth 20000 in
theorem ggX2_look_X3_begin : GoodIn wsX2_look wsX3_begin := goodIn_r _ [9, 10, 11, 12, 13, 14, 15, 16, 17, 18, 19, 20, 21, 22, 23, 24, 25, 26, 27, 106, 107, 108, 109, 110, 111, 112, 113, 114, 115, 116, 117, 118] (by decide +kernel) (by decide +kernel)
set_option maxRecDepth 20000 in
theorem gX2_look_X3_begin : GoodIn wsX2_look (wsV RX2 86 RX3 yX3_begin wsX3_begin) := goodIn_app (goodIn_of _ (by decide +kernel)) ggX2_look_X3_begin
set_option maxRecDepth 20000 in
theorem ggX2_look_X2_lookAsSender : GoodIn wsX2_look wsX2_lookAsSender := goodIn_r _ [32, 33, 34, 1, 3, 35, 36, 37, 38, 39, 40, 41, 42, 43, 44, 45, 46, 47, 48, 49, 50, 51, 91, 92, 93, 94, 95, 96, 97, 98, 99, 100, 101, 102, 103, 104, 105, 119, 120, 121, 122, 123, 124, 125, 126] (by decide +kernel) (by decide +kernel)
set_option maxRecDepth 20000 in
theorem gX2_look_X2_lookAsSender : GoodIn wsX2_look (wsV RX2 97 RX2 yX2_lookAsSender wsX2_lookAsSender) := goodIn_app (goodIn_of _ (by decide +kernel)) ggX2_look_X2_lookAsSender
set_option maxRecDepth 20000 in
theorem ggX2_look_X3_take : GoodIn wsX2_look wsX3_take := goodIn_r _ [55, 11, 13, 14, 56, 57, 58, 8, 59, 18, 60, 61, 62, 63, 12, 15, 16, 64, 65, 66, 67, 17, 68, 69, 70, 71, 72, 73, 74, 10, 75, 76, 77, 78, 79, 80, 81, 82, 83, 84, 85, 86, 87, 88, 89, 90, 106, 107, 108, 109, 110, 111, 112, 113, 114, 115, 116, 117, 118] (by decide +kernel) (by decide +kernel)
set_option maxRecDepth 20000 in
theorem gX2_look_X3_take : GoodIn wsX2_look (wsV RX2 101 RX3 yX3_take wsX3_take) := goodIn_app (goodIn_of _ (by decide +kernel)) ggX2_look_X3_take
theorem dX2_look_0 : decode cX2_look 0 = .ok (.aload_n 0, 1) := by decide +kernel
theorem dX2_look_1 : decode cX2_look 1 = .ok (.iconst 0, 1) := by decide +kernel
theorem dX2_look_2 : decode cX2_look 2 = .ok (.putfield 62, 3) := by decide +kernel
theorem dX2_look_5 : decode cX2_look 5 = .ok (.aload_n 0, 1) := by decide +kernel
theorem dX2_look_6 : decode cX2_look 6 = .ok (.getfield 36, 3) := by decide +kernel
theorem dX2_look_9 : decode cX2_look 9 = .ok (.ifCond .eq 16, 3) := by decide +kernel
theorem dX2_look_12 : decode cX2_look 12 = .ok (.aload_n 0, 1) := by decide +kernel
theorem dX2_look_13 : decode cX2_look 13 = .ok (.getfield 40, 3) := by decide +kernel
theorem dX2_look_16 : decode cX2_look 16 = .ok (.iconst 1, 1) := by decide +kernel
theorem dX2_look_17 : decode cX2_look 17 = .ok (.if_icmp .ne 9, 3) := by decide +kernel
theorem dX2_look_20 : decode cX2_look 20 = .ok (.iload_n 1, 1) := by decide +kernel
theorem dX2_look_21 : decode cX2_look 21 = .ok (.iconst 1, 1) := by decide +kernel
theorem dX2_look_22 : decode cX2_look 22 = .ok (.if_icmp .ne 4, 3) := by decide +kernel
theorem dX2_look_25 : decode cX2_look 25 = .ok (.return_, 1) := by decide +kernel
theorem dX2_look_26 : decode cX2_look 26 = .ok (.aload_n 0, 1) := by decide +kernel
theorem dX2_look_27 : decode cX2_look 27 = .ok (.getfield 40, 3) := by decide +kernel
theorem dX2_look_30 : decode cX2_look 30 = .ok (.iconst 1, 1) := by decide +kernel
theorem dX2_look_31 : decode cX2_look 31 = .ok (.if_icmp .ne 18, 3) := by decide +kernel
theorem dX2_look_34 : decode cX2_look 34 = .ok (.aload_n 0, 1) := by decide +kernel
theorem dX2_look_35 : decode cX2_look 35 = .ok (.iconst 2, 1) := by decide +kernel
theorem dX2_look_36 : decode cX2_look 36 = .ok (.putfield 40, 3) := by decide +kernel
theorem dX2_look_39 : decode cX2_look 39 = .ok (.aload_n 0, 1) := by decide +kernel
theorem dX2_look_40 : decode cX2_look 40 = .ok (.getfield 32, 3) := by decide +kernel
theorem dX2_look_43 : decode cX2_look 43 = .ok (.invokevirtual 86, 3) := by decide +kernel
theorem dX2_look_46 : decode cX2_look 46 = .ok (.goto 16, 3) := by decide +kernel
theorem dX2_look_49 : decode cX2_look 49 = .ok (.aload_n 0, 1) := by decide +kernel
theorem dX2_look_50 : decode cX2_look 50 = .ok (.getfield 40, 3) := by decide +kernel
theorem dX2_look_53 : decode cX2_look 53 = .ok (.iconst 3, 1) := by decide +kernel
theorem dX2_look_54 : decode cX2_look 54 = .ok (.if_icmp .ne 8, 3) := by decide +kernel
theorem dX2_look_57 : decode cX2_look 57 = .ok (.aload_n 0, 1) := by decide +kernel
theorem dX2_look_58 : decode cX2_look 58 = .ok (.iload_n 1, 1) := by decide +kernel
theorem dX2_look_59 : decode cX2_look 59 = .ok (.invokevirtual 97, 3) := by decide +kernel
theorem dX2_look_62 : decode cX2_look 62 = .ok (.aload_n 0, 1) := by decide +kernel
theorem dX2_look_63 : decode cX2_look 63 = .ok (.getfield 32, 3) := by decide +kernel
theorem dX2_look_66 : decode cX2_look 66 = .ok (.iload_n 1, 1) := by decide +kernel
theorem dX2_look_67 : decode cX2_look 67 = .ok (.invokevirtual 101, 3) := by decide +kernel
theorem dX2_look_70 : decode cX2_look 70 = .ok (.istore_n 2, 1) := by decide +kernel
theorem dX2_look_71 : decode cX2_look 71 = .ok (.aload_n 0, 1) := by decide +kernel
theorem dX2_look_72 : decode cX2_look 72 = .ok (.getfield 40, 3) := by decide +kernel
theorem dX2_look_75 : decode cX2_look 75 = .ok (.iconst 2, 1) := by decide +kernel
theorem dX2_look_76 : decode cX2_look 76 = .ok (.if_icmp .ne 8, 3) := by decide +kernel
theorem dX2_look_79 : decode cX2_look 79 = .ok (.aload_n 0, 1) := by decide +kernel
theorem dX2_look_80 : decode cX2_look 80 = .ok (.iload_n 2, 1) := by decide +kernel
theorem dX2_look_81 : decode cX2_look 81 = .ok (.putfield 62, 3) := by decide +kernel
theorem dX2_look_84 : decode cX2_look 84 = .ok (.return_, 1) := by decide +kernel
theorem dX2_countFault_0 : decode cX2_countFault 0 = .ok (.aload_n 0, 1) := by decide +kernel
theorem dX2_countFault_1 : decode cX2_countFault 1 = .ok (.getfield 62, 3) := by decide +kernel
theorem dX2_countFault_4 : decode cX2_countFault 4 = .ok (.ifCond .eq 43, 3) := by decide +kernel
theorem dX2_countFault_7 : decode cX2_countFault 7 = .ok (.aload_n 0, 1) := by decide +kernel
theorem dX2_countFault_8 : decode cX2_countFault 8 = .ok (.aload_n 0, 1) := by decide +kernel
theorem dX2_countFault_9 : decode cX2_countFault 9 = .ok (.getfield 62, 3) := by decide +kernel
theorem dX2_countFault_12 : decode cX2_countFault 12 = .ok (.putfield 59, 3) := by decide +kernel
theorem dX2_countFault_15 : decode cX2_countFault 15 = .ok (.aload_n 0, 1) := by decide +kernel
theorem dX2_countFault_16 : decode cX2_countFault 16 = .ok (.getfield 40, 3) := by decide +kernel
theorem dX2_countFault_19 : decode cX2_countFault 19 = .ok (.iconst 3, 1) := by decide +kernel
theorem dX2_countFault_20 : decode cX2_countFault 20 = .ok (.if_icmp .ne 17, 3) := by decide +kernel
theorem dX2_countFault_23 : decode cX2_countFault 23 = .ok (.aload_n 0, 1) := by decide +kernel
theorem dX2_countFault_24 : decode cX2_countFault 24 = .ok (.dup, 1) := by decide +kernel
theorem dX2_countFault_25 : decode cX2_countFault 25 = .ok (.getfield 47, 3) := by decide +kernel
theorem dX2_countFault_28 : decode cX2_countFault 28 = .ok (.bipush 8, 2) := by decide +kernel
theorem dX2_countFault_30 : decode cX2_countFault 30 = .ok (.iadd, 1) := by decide +kernel
theorem dX2_countFault_31 : decode cX2_countFault 31 = .ok (.putfield 47, 3) := by decide +kernel
theorem dX2_countFault_34 : decode cX2_countFault 34 = .ok (.goto 13, 3) := by decide +kernel
theorem dX2_countFault_37 : decode cX2_countFault 37 = .ok (.aload_n 0, 1) := by decide +kernel
theorem dX2_countFault_38 : decode cX2_countFault 38 = .ok (.dup, 1) := by decide +kernel
theorem dX2_countFault_39 : decode cX2_countFault 39 = .ok (.getfield 50, 3) := by decide +kernel
theorem dX2_countFault_42 : decode cX2_countFault 42 = .ok (.iconst 1, 1) := by decide +kernel
theorem dX2_countFault_43 : decode cX2_countFault 43 = .ok (.iadd, 1) := by decide +kernel
theorem dX2_countFault_44 : decode cX2_countFault 44 = .ok (.putfield 50, 3) := by decide +kernel
theorem dX2_countFault_47 : decode cX2_countFault 47 = .ok (.aload_n 0, 1) := by decide +kernel
theorem dX2_countFault_48 : decode cX2_countFault 48 = .ok (.getfield 47, 3) := by decide +kernel
theorem dX2_countFault_51 : decode cX2_countFault 51 = .ok (.sipush 255, 3) := by decide +kernel
theorem dX2_countFault_54 : decode cX2_countFault 54 = .ok (.if_icmp .le 8, 3) := by decide +kernel
theorem dX2_countFault_57 : decode cX2_countFault 57 = .ok (.aload_n 0, 1) := by decide +kernel
theorem dX2_countFault_58 : decode cX2_countFault 58 = .ok (.iconst 0, 1) := by decide +kernel
theorem dX2_countFault_59 : decode cX2_countFault 59 = .ok (.putfield 36, 3) := by decide +kernel
theorem dX2_countFault_62 : decode cX2_countFault 62 = .ok (.aload_n 0, 1) := by decide +kernel
theorem dX2_countFault_63 : decode cX2_countFault 63 = .ok (.iconst 1, 1) := by decide +kernel
theorem dX2_countFault_64 : decode cX2_countFault 64 = .ok (.putfield 40, 3) := by decide +kernel
theorem dX2_countFault_67 : decode cX2_countFault 67 = .ok (.return_, 1) := by decide +kernel
set_option maxRecDepth 20000 in
theorem ggX2_endFrame_X2_endSending : GoodIn wsX2_endFrame wsX2_endSending := goodIn_r _ [10, 1, 11, 12, 13, 14, 15, 16, 17, 18, 19, 20, 9, 21, 22, 23, 51, 52, 53, 54, 55, 56, 57, 58, 59, 60, 61, 62, 63, 64, 65] (by decide +kernel) (by decide +kernel)
set_option maxRecDepth 20000 in
theorem gX2_endFrame_X2_endSending : GoodIn wsX2_endFrame (wsV RX2 107 RX2 yX2_endSending wsX2_endSending) := goodIn_app (goodIn_of _ (by decide +kernel)) ggX2_endFrame_X2_endSending
set_option maxRecDepth 20000 in
theorem ggX2_endFrame_X3_isFinished : GoodIn wsX2_endFrame wsX3_isFinished := goodIn_r _ [28, 29, 74, 75, 76, 77, 78, 79, 80, 81, 82] (by decide +kernel) (by decide +kernel)
set_option maxRecDepth 20000 in
theorem gX2_endFrame_X3_isFinished : GoodIn wsX2_endFrame (wsV RX2 110 RX3 yX3_isFinished wsX3_isFinished) := goodIn_app (goodIn_of _ (by decide +kernel)) ggX2_endFrame_X3_isFinished
set_option maxRecDepth 20000 in
theorem ggX2_endFrame_X2_endReading : GoodIn wsX2_endFrame wsX2_endReading := goodIn_r _ [33, 1, 34, 35, 13, 14, 15, 16, 5, 36, 37, 38, 39, 40, 41, 42, 43, 44, 45, 46, 47, 48, 49, 50, 51, 52, 53, 54, 55, 56, 57, 58, 59, 60, 61, 62, 63, 64, 65, 74, 75, 76, 77, 78, 79, 80, 81, 82, 83, 84, 85, 86] (by decide +kernel) (by decide +kernel)
set_option maxRecDepth 20000 in
theorem gX2_endFrame_X2_endReading : GoodIn wsX2_endFrame (wsV RX2 113 RX2 yX2_endReading wsX2_endReading) := goodIn_app (goodIn_of _ (by decide +kernel)) ggX2_endFrame_X2_endReading
theorem dX2_endFrame_0 : decode cX2_endFrame 0 = .ok (.aload_n 0, 1) := by decide +kernel
theorem dX2_endFrame_1 : decode cX2_endFrame 1 = .ok (.getfield 40, 3) := by decide +kernel
theorem dX2_endFrame_4 : decode cX2_endFrame 4 = .ok (.iconst 3, 1) := by decide +kernel
theorem dX2_endFrame_5 : decode cX2_endFrame 5 = .ok (.if_icmp .ne 24, 3) := by decide +kernel
theorem dX2_endFrame_8 : decode cX2_endFrame 8 = .ok (.aload_n 0, 1) := by decide +kernel
theorem dX2_endFrame_9 : decode cX2_endFrame 9 = .ok (.getfield 68, 3) := by decide +kernel
theorem dX2_endFrame_12 : decode cX2_endFrame 12 = .ok (.aload_n 0, 1) := by decide +kernel
theorem dX2_endFrame_13 : decode cX2_endFrame 13 = .ok (.getfield 25, 3) := by decide +kernel
theorem dX2_endFrame_16 : decode cX2_endFrame 16 = .ok (.getfield 104, 3) := by decide +kernel
theorem dX2_endFrame_19 : decode cX2_endFrame 19 = .ok (.if_icmp .lt 10, 3) := by decide +kernel
theorem dX2_endFrame_22 : decode cX2_endFrame 22 = .ok (.aload_n 0, 1) := by decide +kernel
theorem dX2_endFrame_23 : decode cX2_endFrame 23 = .ok (.invokevirtual 107, 3) := by decide +kernel
theorem dX2_endFrame_26 : decode cX2_endFrame 26 = .ok (.goto 25, 3) := by decide +kernel
theorem dX2_endFrame_29 : decode cX2_endFrame 29 = .ok (.aload_n 0, 1) := by decide +kernel
theorem dX2_endFrame_30 : decode cX2_endFrame 30 = .ok (.getfield 40, 3) := by decide +kernel
theorem dX2_endFrame_33 : decode cX2_endFrame 33 = .ok (.iconst 2, 1) := by decide +kernel
theorem dX2_endFrame_34 : decode cX2_endFrame 34 = .ok (.if_icmp .ne 17, 3) := by decide +kernel
theorem dX2_endFrame_37 : decode cX2_endFrame 37 = .ok (.aload_n 0, 1) := by decide +kernel
theorem dX2_endFrame_38 : decode cX2_endFrame 38 = .ok (.getfield 32, 3) := by decide +kernel
theorem dX2_endFrame_41 : decode cX2_endFrame 41 = .ok (.invokevirtual 110, 3) := by decide +kernel
theorem dX2_endFrame_44 : decode cX2_endFrame 44 = .ok (.ifCond .eq 7, 3) := by decide +kernel
theorem dX2_endFrame_47 : decode cX2_endFrame 47 = .ok (.aload_n 0, 1) := by decide +kernel
theorem dX2_endFrame_48 : decode cX2_endFrame 48 = .ok (.invokevirtual 113, 3) := by decide +kernel
theorem dX2_endFrame_51 : decode cX2_endFrame 51 = .ok (.return_, 1) := by decide +kernel
set_option maxRecDepth 20000 in
theorem ggX2_lookAsSender_X1_isAnswer : GoodIn wsX2_lookAsSender wsX1_isAnswer := goodIn_r _ [9, 10, 37, 38, 39, 40, 41, 42, 43, 44] (by decide +kernel) (by decide +kernel)
set_option maxRecDepth 20000 in
theorem gX2_lookAsSender_X1_isAnswer : GoodIn wsX2_lookAsSender (wsV RX2 116 RX1 yX1_isAnswer wsX1_isAnswer) := goodIn_app (goodIn_of _ (by decide +kernel)) ggX2_lookAsSender_X1_isAnswer
set_option maxRecDepth 20000 in
theorem ggX2_lookAsSender_X1_bitAt : GoodIn wsX2_lookAsSender wsX1_bitAt := goodIn_r _ [14, 10, 15, 37, 38, 39, 40, 41, 42, 43, 44] (by decide +kernel) (by decide +kernel)
set_option maxRecDepth 20000 in
theorem gX2_lookAsSender_X1_bitAt : GoodIn wsX2_lookAsSender (wsV RX2 89 RX1 yX1_bitAt wsX1_bitAt) := goodIn_app (goodIn_of _ (by decide +kernel)) ggX2_lookAsSender_X1_bitAt
set_option maxRecDepth 20000 in
theorem ggX2_lookAsSender_X1_mayLose : GoodIn wsX2_lookAsSender wsX1_mayLose := goodIn_r _ [19, 10, 15, 20, 21, 37, 38, 39, 40, 41, 42, 43, 44] (by decide +kernel) (by decide +kernel)
set_option maxRecDepth 20000 in
theorem gX2_lookAsSender_X1_mayLose : GoodIn wsX2_lookAsSender (wsV RX2 120 RX1 yX1_mayLose wsX1_mayLose) := goodIn_app (goodIn_of _ (by decide +kernel)) ggX2_lookAsSender_X1_mayLose
theorem dX2_lookAsSender_0 : decode cX2_lookAsSender 0 = .ok (.aload_n 0, 1) := by decide +kernel
theorem dX2_lookAsSender_1 : decode cX2_lookAsSender 1 = .ok (.getfield 25, 3) := by decide +kernel
theorem dX2_lookAsSender_4 : decode cX2_lookAsSender 4 = .ok (.aload_n 0, 1) := by decide +kernel
theorem dX2_lookAsSender_5 : decode cX2_lookAsSender 5 = .ok (.getfield 68, 3) := by decide +kernel
theorem dX2_lookAsSender_8 : decode cX2_lookAsSender 8 = .ok (.invokevirtual 116, 3) := by decide +kernel
theorem dX2_lookAsSender_11 : decode cX2_lookAsSender 11 = .ok (.istore_n 2, 1) := by decide +kernel
theorem dX2_lookAsSender_12 : decode cX2_lookAsSender 12 = .ok (.iload_n 2, 1) := by decide +kernel
theorem dX2_lookAsSender_13 : decode cX2_lookAsSender 13 = .ok (.ifCond .eq 16, 3) := by decide +kernel
theorem dX2_lookAsSender_16 : decode cX2_lookAsSender 16 = .ok (.iload_n 1, 1) := by decide +kernel
theorem dX2_lookAsSender_17 : decode cX2_lookAsSender 17 = .ok (.iconst 1, 1) := by decide +kernel
theorem dX2_lookAsSender_18 : decode cX2_lookAsSender 18 = .ok (.if_icmp .ne 11, 3) := by decide +kernel
theorem dX2_lookAsSender_21 : decode cX2_lookAsSender 21 = .ok (.aload_n 0, 1) := by decide +kernel
theorem dX2_lookAsSender_22 : decode cX2_lookAsSender 22 = .ok (.iconst 5, 1) := by decide +kernel
theorem dX2_lookAsSender_23 : decode cX2_lookAsSender 23 = .ok (.putfield 62, 3) := by decide +kernel
theorem dX2_lookAsSender_26 : decode cX2_lookAsSender 26 = .ok (.goto 62, 3) := by decide +kernel
theorem dX2_lookAsSender_29 : decode cX2_lookAsSender 29 = .ok (.iload_n 2, 1) := by decide +kernel
theorem dX2_lookAsSender_30 : decode cX2_lookAsSender 30 = .ok (.ifCond .ne 18, 3) := by decide +kernel
theorem dX2_lookAsSender_33 : decode cX2_lookAsSender 33 = .ok (.iload_n 1, 1) := by decide +kernel
theorem dX2_lookAsSender_34 : decode cX2_lookAsSender 34 = .ok (.aload_n 0, 1) := by decide +kernel
theorem dX2_lookAsSender_35 : decode cX2_lookAsSender 35 = .ok (.getfield 25, 3) := by decide +kernel
theorem dX2_lookAsSender_38 : decode cX2_lookAsSender 38 = .ok (.aload_n 0, 1) := by decide +kernel
theorem dX2_lookAsSender_39 : decode cX2_lookAsSender 39 = .ok (.getfield 68, 3) := by decide +kernel
theorem dX2_lookAsSender_42 : decode cX2_lookAsSender 42 = .ok (.invokevirtual 89, 3) := by decide +kernel
theorem dX2_lookAsSender_45 : decode cX2_lookAsSender 45 = .ok (.if_icmp .ne 16, 3) := by decide +kernel
theorem dX2_lookAsSender_48 : decode cX2_lookAsSender 48 = .ok (.aload_n 0, 1) := by decide +kernel
theorem dX2_lookAsSender_49 : decode cX2_lookAsSender 49 = .ok (.dup, 1) := by decide +kernel
theorem dX2_lookAsSender_50 : decode cX2_lookAsSender 50 = .ok (.getfield 68, 3) := by decide +kernel
theorem dX2_lookAsSender_53 : decode cX2_lookAsSender 53 = .ok (.iconst 1, 1) := by decide +kernel
theorem dX2_lookAsSender_54 : decode cX2_lookAsSender 54 = .ok (.iadd, 1) := by decide +kernel
theorem dX2_lookAsSender_55 : decode cX2_lookAsSender 55 = .ok (.putfield 68, 3) := by decide +kernel
theorem dX2_lookAsSender_58 : decode cX2_lookAsSender 58 = .ok (.goto 30, 3) := by decide +kernel
theorem dX2_lookAsSender_61 : decode cX2_lookAsSender 61 = .ok (.aload_n 0, 1) := by decide +kernel
theorem dX2_lookAsSender_62 : decode cX2_lookAsSender 62 = .ok (.getfield 25, 3) := by decide +kernel
theorem dX2_lookAsSender_65 : decode cX2_lookAsSender 65 = .ok (.aload_n 0, 1) := by decide +kernel
theorem dX2_lookAsSender_66 : decode cX2_lookAsSender 66 = .ok (.getfield 68, 3) := by decide +kernel
theorem dX2_lookAsSender_69 : decode cX2_lookAsSender 69 = .ok (.invokevirtual 120, 3) := by decide +kernel
theorem dX2_lookAsSender_72 : decode cX2_lookAsSender 72 = .ok (.ifCond .eq 11, 3) := by decide +kernel
theorem dX2_lookAsSender_75 : decode cX2_lookAsSender 75 = .ok (.aload_n 0, 1) := by decide +kernel
theorem dX2_lookAsSender_76 : decode cX2_lookAsSender 76 = .ok (.iconst 2, 1) := by decide +kernel
theorem dX2_lookAsSender_77 : decode cX2_lookAsSender 77 = .ok (.putfield 40, 3) := by decide +kernel
theorem dX2_lookAsSender_80 : decode cX2_lookAsSender 80 = .ok (.goto 8, 3) := by decide +kernel
theorem dX2_lookAsSender_83 : decode cX2_lookAsSender 83 = .ok (.aload_n 0, 1) := by decide +kernel
theorem dX2_lookAsSender_84 : decode cX2_lookAsSender 84 = .ok (.iconst 4, 1) := by decide +kernel
theorem dX2_lookAsSender_85 : decode cX2_lookAsSender 85 = .ok (.putfield 62, 3) := by decide +kernel
theorem dX2_lookAsSender_88 : decode cX2_lookAsSender 88 = .ok (.return_, 1) := by decide +kernel
set_option maxRecDepth 20000 in
theorem ggX2_endSending_X2_removeWanted : GoodIn wsX2_endSending wsX2_removeWanted := goodIn_r _ [13, 14, 15, 16, 17, 18, 19, 20, 21, 22, 23, 24, 25, 26, 27, 28, 29, 30] (by decide +kernel) (by decide +kernel)
set_option maxRecDepth 20000 in
theorem gX2_endSending_X2_removeWanted : GoodIn wsX2_endSending (wsV RX2 129 RX2 yX2_removeWanted wsX2_removeWanted) := goodIn_app (goodIn_of _ (by decide +kernel)) ggX2_endSending_X2_removeWanted
theorem dX2_endSending_0 : decode cX2_endSending 0 = .ok (.aload_n 0, 1) := by decide +kernel
theorem dX2_endSending_1 : decode cX2_endSending 1 = .ok (.iconst 1, 1) := by decide +kernel
theorem dX2_endSending_2 : decode cX2_endSending 2 = .ok (.putfield 40, 3) := by decide +kernel
theorem dX2_endSending_5 : decode cX2_endSending 5 = .ok (.aload_n 0, 1) := by decide +kernel
theorem dX2_endSending_6 : decode cX2_endSending 6 = .ok (.dup, 1) := by decide +kernel
theorem dX2_endSending_7 : decode cX2_endSending 7 = .ok (.getfield 53, 3) := by decide +kernel
theorem dX2_endSending_10 : decode cX2_endSending 10 = .ok (.iconst 1, 1) := by decide +kernel
theorem dX2_endSending_11 : decode cX2_endSending 11 = .ok (.iadd, 1) := by decide +kernel
theorem dX2_endSending_12 : decode cX2_endSending 12 = .ok (.putfield 53, 3) := by decide +kernel
theorem dX2_endSending_15 : decode cX2_endSending 15 = .ok (.aload_n 0, 1) := by decide +kernel
theorem dX2_endSending_16 : decode cX2_endSending 16 = .ok (.aload_n 0, 1) := by decide +kernel
theorem dX2_endSending_17 : decode cX2_endSending 17 = .ok (.getfield 47, 3) := by decide +kernel
theorem dX2_endSending_20 : decode cX2_endSending 20 = .ok (.iconst 1, 1) := by decide +kernel
theorem dX2_endSending_21 : decode cX2_endSending 21 = .ok (.isub, 1) := by decide +kernel
theorem dX2_endSending_22 : decode cX2_endSending 22 = .ok (.iconst 0, 1) := by decide +kernel
theorem dX2_endSending_23 : decode cX2_endSending 23 = .ok (.invokestatic 123, 3) := by decide +kernel
theorem dX2_endSending_26 : decode cX2_endSending 26 = .ok (.putfield 47, 3) := by decide +kernel
theorem dX2_endSending_29 : decode cX2_endSending 29 = .ok (.aload_n 0, 1) := by decide +kernel
theorem dX2_endSending_30 : decode cX2_endSending 30 = .ok (.aload_n 0, 1) := by decide +kernel
theorem dX2_endSending_31 : decode cX2_endSending 31 = .ok (.getfield 65, 3) := by decide +kernel
theorem dX2_endSending_34 : decode cX2_endSending 34 = .ok (.invokevirtual 129, 3) := by decide +kernel
theorem dX2_endSending_37 : decode cX2_endSending 37 = .ok (.return_, 1) := by decide +kernel
set_option maxRecDepth 20000 in
theorem ggX2_endReading_X0_set : GoodIn wsX2_endReading wsX0_set := goodIn_r _ [19, 20, 21, 22, 23, 48, 49, 50, 51] (by decide +kernel) (by decide +kernel)
set_option maxRecDepth 20000 in
theorem gX2_endReading_X0_set : GoodIn wsX2_endReading (wsV RX2 71 RX0 yX0_set wsX0_set) := goodIn_app (goodIn_of _ (by decide +kernel)) ggX2_endReading_X0_set
theorem dX2_endReading_0 : decode cX2_endReading 0 = .ok (.aload_n 0, 1) := by decide +kernel
theorem dX2_endReading_1 : decode cX2_endReading 1 = .ok (.iconst 1, 1) := by decide +kernel
theorem dX2_endReading_2 : decode cX2_endReading 2 = .ok (.putfield 40, 3) := by decide +kernel
theorem dX2_endReading_5 : decode cX2_endReading 5 = .ok (.aload_n 0, 1) := by decide +kernel
theorem dX2_endReading_6 : decode cX2_endReading 6 = .ok (.dup, 1) := by decide +kernel
theorem dX2_endReading_7 : decode cX2_endReading 7 = .ok (.getfield 56, 3) := by decide +kernel
theorem dX2_endReading_10 : decode cX2_endReading 10 = .ok (.iconst 1, 1) := by decide +kernel
theorem dX2_endReading_11 : decode cX2_endReading 11 = .ok (.iadd, 1) := by decide +kernel
theorem dX2_endReading_12 : decode cX2_endReading 12 = .ok (.putfield 56, 3) := by decide +kernel
theorem dX2_endReading_15 : decode cX2_endReading 15 = .ok (.aload_n 0, 1) := by decide +kernel
theorem dX2_endReading_16 : decode cX2_endReading 16 = .ok (.aload_n 0, 1) := by decide +kernel
theorem dX2_endReading_17 : decode cX2_endReading 17 = .ok (.getfield 50, 3) := by decide +kernel
theorem dX2_endReading_20 : decode cX2_endReading 20 = .ok (.iconst 1, 1) := by decide +kernel
theorem dX2_endReading_21 : decode cX2_endReading 21 = .ok (.isub, 1) := by decide +kernel
theorem dX2_endReading_22 : decode cX2_endReading 22 = .ok (.iconst 0, 1) := by decide +kernel
theorem dX2_endReading_23 : decode cX2_endReading 23 = .ok (.invokestatic 123, 3) := by decide +kernel
theorem dX2_endReading_26 : decode cX2_endReading 26 = .ok (.putfield 50, 3) := by decide +kernel
theorem dX2_endReading_29 : decode cX2_endReading 29 = .ok (.aload_n 0, 1) := by decide +kernel
theorem dX2_endReading_30 : decode cX2_endReading 30 = .ok (.getfield 32, 3) := by decide +kernel
theorem dX2_endReading_33 : decode cX2_endReading 33 = .ok (.getfield 132, 3) := by decide +kernel
theorem dX2_endReading_36 : decode cX2_endReading 36 = .ok (.astore_n 1, 1) := by decide +kernel
theorem dX2_endReading_37 : decode cX2_endReading 37 = .ok (.aload_n 0, 1) := by decide +kernel
theorem dX2_endReading_38 : decode cX2_endReading 38 = .ok (.getfield 18, 3) := by decide +kernel
theorem dX2_endReading_41 : decode cX2_endReading 41 = .ok (.aload_n 1, 1) := by decide +kernel
theorem dX2_endReading_42 : decode cX2_endReading 42 = .ok (.getfield 135, 3) := by decide +kernel
theorem dX2_endReading_45 : decode cX2_endReading 45 = .ok (.aload_n 1, 1) := by decide +kernel
theorem dX2_endReading_46 : decode cX2_endReading 46 = .ok (.getfield 138, 3) := by decide +kernel
theorem dX2_endReading_49 : decode cX2_endReading 49 = .ok (.aload_n 1, 1) := by decide +kernel
theorem dX2_endReading_50 : decode cX2_endReading 50 = .ok (.getfield 141, 3) := by decide +kernel
theorem dX2_endReading_53 : decode cX2_endReading 53 = .ok (.aload_n 1, 1) := by decide +kernel
theorem dX2_endReading_54 : decode cX2_endReading 54 = .ok (.getfield 145, 3) := by decide +kernel
theorem dX2_endReading_57 : decode cX2_endReading 57 = .ok (.invokevirtual 71, 3) := by decide +kernel
theorem dX2_endReading_60 : decode cX2_endReading 60 = .ok (.return_, 1) := by decide +kernel
theorem dX2_removeWanted_0 : decode cX2_removeWanted 0 = .ok (.iload_n 1, 1) := by decide +kernel
theorem dX2_removeWanted_1 : decode cX2_removeWanted 1 = .ok (.ifCond .lt 11, 3) := by decide +kernel
theorem dX2_removeWanted_4 : decode cX2_removeWanted 4 = .ok (.iload_n 1, 1) := by decide +kernel
theorem dX2_removeWanted_5 : decode cX2_removeWanted 5 = .ok (.aload_n 0, 1) := by decide +kernel
theorem dX2_removeWanted_6 : decode cX2_removeWanted 6 = .ok (.getfield 44, 3) := by decide +kernel
theorem dX2_removeWanted_9 : decode cX2_removeWanted 9 = .ok (.if_icmp .lt 4, 3) := by decide +kernel
theorem dX2_removeWanted_12 : decode cX2_removeWanted 12 = .ok (.return_, 1) := by decide +kernel
theorem dX2_removeWanted_13 : decode cX2_removeWanted 13 = .ok (.aload_n 0, 1) := by decide +kernel
theorem dX2_removeWanted_14 : decode cX2_removeWanted 14 = .ok (.getfield 11, 3) := by decide +kernel
theorem dX2_removeWanted_17 : decode cX2_removeWanted 17 = .ok (.iload_n 1, 1) := by decide +kernel
theorem dX2_removeWanted_18 : decode cX2_removeWanted 18 = .ok (.aaload, 1) := by decide +kernel
theorem dX2_removeWanted_19 : decode cX2_removeWanted 19 = .ok (.astore_n 2, 1) := by decide +kernel
theorem dX2_removeWanted_20 : decode cX2_removeWanted 20 = .ok (.iload_n 1, 1) := by decide +kernel
theorem dX2_removeWanted_21 : decode cX2_removeWanted 21 = .ok (.iconst 1, 1) := by decide +kernel
theorem dX2_removeWanted_22 : decode cX2_removeWanted 22 = .ok (.iadd, 1) := by decide +kernel
theorem dX2_removeWanted_23 : decode cX2_removeWanted 23 = .ok (.istore_n 3, 1) := by decide +kernel
theorem dX2_removeWanted_24 : decode cX2_removeWanted 24 = .ok (.iload_n 3, 1) := by decide +kernel
theorem dX2_removeWanted_25 : decode cX2_removeWanted 25 = .ok (.aload_n 0, 1) := by decide +kernel
theorem dX2_removeWanted_26 : decode cX2_removeWanted 26 = .ok (.getfield 44, 3) := by decide +kernel
theorem dX2_removeWanted_29 : decode cX2_removeWanted 29 = .ok (.if_icmp .ge 23, 3) := by decide +kernel
theorem dX2_removeWanted_32 : decode cX2_removeWanted 32 = .ok (.aload_n 0, 1) := by decide +kernel
theorem dX2_removeWanted_33 : decode cX2_removeWanted 33 = .ok (.getfield 11, 3) := by decide +kernel
theorem dX2_removeWanted_36 : decode cX2_removeWanted 36 = .ok (.iload_n 3, 1) := by decide +kernel
theorem dX2_removeWanted_37 : decode cX2_removeWanted 37 = .ok (.iconst 1, 1) := by decide +kernel
theorem dX2_removeWanted_38 : decode cX2_removeWanted 38 = .ok (.isub, 1) := by decide +kernel
theorem dX2_removeWanted_39 : decode cX2_removeWanted 39 = .ok (.aload_n 0, 1) := by decide +kernel
theorem dX2_removeWanted_40 : decode cX2_removeWanted 40 = .ok (.getfield 11, 3) := by decide +kernel
theorem dX2_removeWanted_43 : decode cX2_removeWanted 43 = .ok (.iload_n 3, 1) := by decide +kernel
theorem dX2_removeWanted_44 : decode cX2_removeWanted 44 = .ok (.aaload, 1) := by decide +kernel
theorem dX2_removeWanted_45 : decode cX2_removeWanted 45 = .ok (.aastore, 1) := by decide +kernel
theorem dX2_removeWanted_46 : decode cX2_removeWanted 46 = .ok (.iinc 3 1, 3) := by decide +kernel
theorem dX2_removeWanted_49 : decode cX2_removeWanted 49 = .ok (.goto (-25), 3) := by decide +kernel
theorem dX2_removeWanted_52 : decode cX2_removeWanted 52 = .ok (.aload_n 0, 1) := by decide +kernel
theorem dX2_removeWanted_53 : decode cX2_removeWanted 53 = .ok (.dup, 1) := by decide +kernel
theorem dX2_removeWanted_54 : decode cX2_removeWanted 54 = .ok (.getfield 44, 3) := by decide +kernel
theorem dX2_removeWanted_57 : decode cX2_removeWanted 57 = .ok (.iconst 1, 1) := by decide +kernel
theorem dX2_removeWanted_58 : decode cX2_removeWanted 58 = .ok (.isub, 1) := by decide +kernel
theorem dX2_removeWanted_59 : decode cX2_removeWanted 59 = .ok (.putfield 44, 3) := by decide +kernel
theorem dX2_removeWanted_62 : decode cX2_removeWanted 62 = .ok (.aload_n 0, 1) := by decide +kernel
theorem dX2_removeWanted_63 : decode cX2_removeWanted 63 = .ok (.getfield 11, 3) := by decide +kernel
theorem dX2_removeWanted_66 : decode cX2_removeWanted 66 = .ok (.aload_n 0, 1) := by decide +kernel
theorem dX2_removeWanted_67 : decode cX2_removeWanted 67 = .ok (.getfield 44, 3) := by decide +kernel
theorem dX2_removeWanted_70 : decode cX2_removeWanted 70 = .ok (.aload_n 2, 1) := by decide +kernel
theorem dX2_removeWanted_71 : decode cX2_removeWanted 71 = .ok (.aastore, 1) := by decide +kernel
theorem dX2_removeWanted_72 : decode cX2_removeWanted 72 = .ok (.return_, 1) := by decide +kernel
set_option maxRecDepth 20000 in
theorem ggX3_init_X0_init : GoodIn wsX3_init wsX0_init := goodIn_r _ [17, 18, 2, 3, 19, 20, 21, 22, 23, 24, 25, 26] (by decide +kernel) (by decide +kernel)
set_option maxRecDepth 20000 in
theorem gX3_init_X0_init_n11 : GoodIn wsX3_init (wsX0_init) := ggX3_init_X0_init
theorem dX3_init_0 : decode cX3_init 0 = .ok (.aload_n 0, 1) := by decide +kernel
theorem dX3_init_1 : decode cX3_init 1 = .ok (.invokespecial 3, 3) := by decide +kernel
theorem dX3_init_4 : decode cX3_init 4 = .ok (.aload_n 0, 1) := by decide +kernel
theorem dX3_init_5 : decode cX3_init 5 = .ok (.new 9, 3) := by decide +kernel
theorem dX3_init_8 : decode cX3_init 8 = .ok (.dup, 1) := by decide +kernel
theorem dX3_init_9 : decode cX3_init 9 = .ok (.invokespecial 11, 3) := by decide +kernel
theorem dX3_init_12 : decode cX3_init 12 = .ok (.putfield 12, 3) := by decide +kernel
theorem dX3_init_15 : decode cX3_init 15 = .ok (.aload_n 0, 1) := by decide +kernel
theorem dX3_init_16 : decode cX3_init 16 = .ok (.iconst 0, 1) := by decide +kernel
theorem dX3_init_17 : decode cX3_init 17 = .ok (.putfield 18, 3) := by decide +kernel
theorem dX3_init_20 : decode cX3_init 20 = .ok (.aload_n 0, 1) := by decide +kernel
theorem dX3_init_21 : decode cX3_init 21 = .ok (.iconst 0, 1) := by decide +kernel
theorem dX3_init_22 : decode cX3_init 22 = .ok (.putfield 22, 3) := by decide +kernel
theorem dX3_init_25 : decode cX3_init 25 = .ok (.aload_n 0, 1) := by decide +kernel
theorem dX3_init_26 : decode cX3_init 26 = .ok (.iconst 0, 1) := by decide +kernel
theorem dX3_init_27 : decode cX3_init 27 = .ok (.putfield 25, 3) := by decide +kernel
theorem dX3_init_30 : decode cX3_init 30 = .ok (.aload_n 0, 1) := by decide +kernel
theorem dX3_init_31 : decode cX3_init 31 = .ok (.iconst (-1), 1) := by decide +kernel
theorem dX3_init_32 : decode cX3_init 32 = .ok (.putfield 28, 3) := by decide +kernel
theorem dX3_init_35 : decode cX3_init 35 = .ok (.aload_n 0, 1) := by decide +kernel
theorem dX3_init_36 : decode cX3_init 36 = .ok (.iconst 0, 1) := by decide +kernel
theorem dX3_init_37 : decode cX3_init 37 = .ok (.putfield 31, 3) := by decide +kernel
theorem dX3_init_40 : decode cX3_init 40 = .ok (.aload_n 0, 1) := by decide +kernel
theorem dX3_init_41 : decode cX3_init 41 = .ok (.iconst 0, 1) := by decide +kernel
theorem dX3_init_42 : decode cX3_init 42 = .ok (.putfield 34, 3) := by decide +kernel
theorem dX3_init_45 : decode cX3_init 45 = .ok (.aload_n 0, 1) := by decide +kernel
theorem dX3_init_46 : decode cX3_init 46 = .ok (.bipush 15, 2) := by decide +kernel
theorem dX3_init_48 : decode cX3_init 48 = .ok (.putfield 37, 3) := by decide +kernel
theorem dX3_init_51 : decode cX3_init 51 = .ok (.aload_n 0, 1) := by decide +kernel
theorem dX3_init_52 : decode cX3_init 52 = .ok (.bipush 19, 2) := by decide +kernel
theorem dX3_init_54 : decode cX3_init 54 = .ok (.putfield 40, 3) := by decide +kernel
theorem dX3_init_57 : decode cX3_init 57 = .ok (.return_, 1) := by decide +kernel
set_option maxRecDepth 20000 in
theorem ggX3_begin_X0_set : GoodIn wsX3_begin wsX0_set := goodIn_r _ [14, 15, 16, 17, 18, 28, 29, 30, 31] (by decide +kernel) (by decide +kernel)
set_option maxRecDepth 20000 in
theorem gX3_begin_X0_set : GoodIn wsX3_begin (wsV RX3 43 RX0 yX0_set wsX0_set) := goodIn_app (goodIn_of _ (by decide +kernel)) ggX3_begin_X0_set
theorem dX3_begin_0 : decode cX3_begin 0 = .ok (.aload_n 0, 1) := by decide +kernel
theorem dX3_begin_1 : decode cX3_begin 1 = .ok (.getfield 12, 3) := by decide +kernel
theorem dX3_begin_4 : decode cX3_begin 4 = .ok (.iconst 0, 1) := by decide +kernel
theorem dX3_begin_5 : decode cX3_begin 5 = .ok (.iconst 0, 1) := by decide +kernel
theorem dX3_begin_6 : decode cX3_begin 6 = .ok (.lconst 0, 1) := by decide +kernel
theorem dX3_begin_7 : decode cX3_begin 7 = .ok (.iconst 0, 1) := by decide +kernel
theorem dX3_begin_8 : decode cX3_begin 8 = .ok (.invokevirtual 43, 3) := by decide +kernel
theorem dX3_begin_11 : decode cX3_begin 11 = .ok (.aload_n 0, 1) := by decide +kernel
theorem dX3_begin_12 : decode cX3_begin 12 = .ok (.iconst 0, 1) := by decide +kernel
theorem dX3_begin_13 : decode cX3_begin 13 = .ok (.putfield 18, 3) := by decide +kernel
theorem dX3_begin_16 : decode cX3_begin 16 = .ok (.aload_n 0, 1) := by decide +kernel
theorem dX3_begin_17 : decode cX3_begin 17 = .ok (.iconst 0, 1) := by decide +kernel
theorem dX3_begin_18 : decode cX3_begin 18 = .ok (.putfield 22, 3) := by decide +kernel
theorem dX3_begin_21 : decode cX3_begin 21 = .ok (.aload_n 0, 1) := by decide +kernel
theorem dX3_begin_22 : decode cX3_begin 22 = .ok (.iconst 0, 1) := by decide +kernel
theorem dX3_begin_23 : decode cX3_begin 23 = .ok (.putfield 25, 3) := by decide +kernel
theorem dX3_begin_26 : decode cX3_begin 26 = .ok (.aload_n 0, 1) := by decide +kernel
theorem dX3_begin_27 : decode cX3_begin 27 = .ok (.iconst (-1), 1) := by decide +kernel
theorem dX3_begin_28 : decode cX3_begin 28 = .ok (.putfield 28, 3) := by decide +kernel
theorem dX3_begin_31 : decode cX3_begin 31 = .ok (.aload_n 0, 1) := by decide +kernel
theorem dX3_begin_32 : decode cX3_begin 32 = .ok (.iconst 0, 1) := by decide +kernel
theorem dX3_begin_33 : decode cX3_begin 33 = .ok (.putfield 31, 3) := by decide +kernel
theorem dX3_begin_36 : decode cX3_begin 36 = .ok (.aload_n 0, 1) := by decide +kernel
theorem dX3_begin_37 : decode cX3_begin 37 = .ok (.iconst 0, 1) := by decide +kernel
theorem dX3_begin_38 : decode cX3_begin 38 = .ok (.putfield 34, 3) := by decide +kernel
theorem dX3_begin_41 : decode cX3_begin 41 = .ok (.aload_n 0, 1) := by decide +kernel
theorem dX3_begin_42 : decode cX3_begin 42 = .ok (.bipush 15, 2) := by decide +kernel
theorem dX3_begin_44 : decode cX3_begin 44 = .ok (.putfield 37, 3) := by decide +kernel
theorem dX3_begin_47 : decode cX3_begin 47 = .ok (.aload_n 0, 1) := by decide +kernel
theorem dX3_begin_48 : decode cX3_begin 48 = .ok (.bipush 19, 2) := by decide +kernel
theorem dX3_begin_50 : decode cX3_begin 50 = .ok (.putfield 40, 3) := by decide +kernel
theorem dX3_begin_53 : decode cX3_begin 53 = .ok (.return_, 1) := by decide +kernel
set_option maxRecDepth 20000 in
theorem ggX3_take_X3_hasWholeFrame : GoodIn wsX3_take wsX3_hasWholeFrame := goodIn_r _ [8, 1, 9, 46, 47, 48, 49, 50, 51, 52, 53, 54] (by decide +kernel) (by decide +kernel)
set_option maxRecDepth 20000 in
theorem gX3_take_X3_hasWholeFrame : GoodIn wsX3_take (wsV RX3 47 RX3 yX3_hasWholeFrame wsX3_hasWholeFrame) := goodIn_app (goodIn_of _ (by decide +kernel)) ggX3_take_X3_hasWholeFrame
set_option maxRecDepth 20000 in
theorem ggX3_take_X3_takeTail : GoodIn wsX3_take wsX3_takeTail := goodIn_r _ [13, 14, 15, 16, 46, 47, 48, 49, 50, 51, 52, 53, 54] (by decide +kernel) (by decide +kernel)
set_option maxRecDepth 20000 in
theorem gX3_take_X3_takeTail : GoodIn wsX3_take (wsV RX3 51 RX3 yX3_takeTail wsX3_takeTail) := goodIn_app (goodIn_of _ (by decide +kernel)) ggX3_take_X3_takeTail
set_option maxRecDepth 20000 in
theorem ggX3_take_X3_takeFramed : GoodIn wsX3_take wsX3_takeFramed := goodIn_r _ [20, 1, 9, 16, 15, 21, 22, 23, 24, 25, 26, 27, 7, 28, 29, 30, 31, 32, 33, 34, 35, 36, 37, 38, 39, 40, 41, 42, 43, 44, 45, 46, 47, 48, 49, 50, 51, 52, 53, 54, 55, 56, 57, 58] (by decide +kernel) (by decide +kernel)
set_option maxRecDepth 20000 in
theorem gX3_take_X3_takeFramed : GoodIn wsX3_take (wsV RX3 55 RX3 yX3_takeFramed wsX3_takeFramed) := goodIn_app (goodIn_of _ (by decide +kernel)) ggX3_take_X3_takeFramed
theorem dX3_take_0 : decode cX3_take 0 = .ok (.aload_n 0, 1) := by decide +kernel
theorem dX3_take_1 : decode cX3_take 1 = .ok (.getfield 18, 3) := by decide +kernel
theorem dX3_take_4 : decode cX3_take 4 = .ok (.ifCond .ne 9, 3) := by decide +kernel
theorem dX3_take_7 : decode cX3_take 7 = .ok (.iload_n 1, 1) := by decide +kernel
theorem dX3_take_8 : decode cX3_take 8 = .ok (.ifCond .eq 5, 3) := by decide +kernel
theorem dX3_take_11 : decode cX3_take 11 = .ok (.iconst 3, 1) := by decide +kernel
theorem dX3_take_12 : decode cX3_take 12 = .ok (.ireturn, 1) := by decide +kernel
theorem dX3_take_13 : decode cX3_take 13 = .ok (.aload_n 0, 1) := by decide +kernel
theorem dX3_take_14 : decode cX3_take 14 = .ok (.invokevirtual 47, 3) := by decide +kernel
theorem dX3_take_17 : decode cX3_take 17 = .ok (.ifCond .eq 9, 3) := by decide +kernel
theorem dX3_take_20 : decode cX3_take 20 = .ok (.aload_n 0, 1) := by decide +kernel
theorem dX3_take_21 : decode cX3_take 21 = .ok (.iload_n 1, 1) := by decide +kernel
theorem dX3_take_22 : decode cX3_take 22 = .ok (.invokevirtual 51, 3) := by decide +kernel
theorem dX3_take_25 : decode cX3_take 25 = .ok (.ireturn, 1) := by decide +kernel
theorem dX3_take_26 : decode cX3_take 26 = .ok (.aload_n 0, 1) := by decide +kernel
theorem dX3_take_27 : decode cX3_take 27 = .ok (.getfield 25, 3) := by decide +kernel
theorem dX3_take_30 : decode cX3_take 30 = .ok (.iconst 5, 1) := by decide +kernel
theorem dX3_take_31 : decode cX3_take 31 = .ok (.if_icmp .ne 7, 3) := by decide +kernel
theorem dX3_take_34 : decode cX3_take 34 = .ok (.iconst 1, 1) := by decide +kernel
theorem dX3_take_35 : decode cX3_take 35 = .ok (.goto 4, 3) := by decide +kernel
theorem dX3_take_38 : decode cX3_take 38 = .ok (.iconst 0, 1) := by decide +kernel
theorem dX3_take_39 : decode cX3_take 39 = .ok (.istore_n 2, 1) := by decide +kernel
theorem dX3_take_40 : decode cX3_take 40 = .ok (.iload_n 2, 1) := by decide +kernel
theorem dX3_take_41 : decode cX3_take 41 = .ok (.ifCond .eq 13, 3) := by decide +kernel
theorem dX3_take_44 : decode cX3_take 44 = .ok (.iload_n 1, 1) := by decide +kernel
theorem dX3_take_45 : decode cX3_take 45 = .ok (.aload_n 0, 1) := by decide +kernel
theorem dX3_take_46 : decode cX3_take 46 = .ok (.getfield 28, 3) := by decide +kernel
theorem dX3_take_49 : decode cX3_take 49 = .ok (.if_icmp .ne 5, 3) := by decide +kernel
theorem dX3_take_52 : decode cX3_take 52 = .ok (.iconst 1, 1) := by decide +kernel
theorem dX3_take_53 : decode cX3_take 53 = .ok (.ireturn, 1) := by decide +kernel
theorem dX3_take_54 : decode cX3_take 54 = .ok (.aload_n 0, 1) := by decide +kernel
theorem dX3_take_55 : decode cX3_take 55 = .ok (.iload_n 1, 1) := by decide +kernel
theorem dX3_take_56 : decode cX3_take 56 = .ok (.aload_n 0, 1) := by decide +kernel
theorem dX3_take_57 : decode cX3_take 57 = .ok (.getfield 28, 3) := by decide +kernel
theorem dX3_take_60 : decode cX3_take 60 = .ok (.if_icmp .ne 12, 3) := by decide +kernel
theorem dX3_take_63 : decode cX3_take 63 = .ok (.aload_n 0, 1) := by decide +kernel
theorem dX3_take_64 : decode cX3_take 64 = .ok (.getfield 25, 3) := by decide +kernel
theorem dX3_take_67 : decode cX3_take 67 = .ok (.iconst 1, 1) := by decide +kernel
theorem dX3_take_68 : decode cX3_take 68 = .ok (.iadd, 1) := by decide +kernel
theorem dX3_take_69 : decode cX3_take 69 = .ok (.goto 4, 3) := by decide +kernel
theorem dX3_take_72 : decode cX3_take 72 = .ok (.iconst 1, 1) := by decide +kernel
theorem dX3_take_73 : decode cX3_take 73 = .ok (.putfield 25, 3) := by decide +kernel
theorem dX3_take_76 : decode cX3_take 76 = .ok (.aload_n 0, 1) := by decide +kernel
theorem dX3_take_77 : decode cX3_take 77 = .ok (.iload_n 1, 1) := by decide +kernel
theorem dX3_take_78 : decode cX3_take 78 = .ok (.putfield 28, 3) := by decide +kernel
theorem dX3_take_81 : decode cX3_take 81 = .ok (.iload_n 2, 1) := by decide +kernel
theorem dX3_take_82 : decode cX3_take 82 = .ok (.ifCond .ne 8, 3) := by decide +kernel
theorem dX3_take_85 : decode cX3_take 85 = .ok (.aload_n 0, 1) := by decide +kernel
theorem dX3_take_86 : decode cX3_take 86 = .ok (.iload_n 1, 1) := by decide +kernel
theorem dX3_take_87 : decode cX3_take 87 = .ok (.invokevirtual 55, 3) := by decide +kernel
theorem dX3_take_90 : decode cX3_take 90 = .ok (.iconst 0, 1) := by decide +kernel
theorem dX3_take_91 : decode cX3_take 91 = .ok (.ireturn, 1) := by decide +kernel
theorem dX3_isFinished_0 : decode cX3_isFinished 0 = .ok (.aload_n 0, 1) := by decide +kernel
theorem dX3_isFinished_1 : decode cX3_isFinished 1 = .ok (.getfield 22, 3) := by decide +kernel
theorem dX3_isFinished_4 : decode cX3_isFinished 4 = .ok (.bipush 10, 2) := by decide +kernel
theorem dX3_isFinished_6 : decode cX3_isFinished 6 = .ok (.if_icmp .ne 7, 3) := by decide +kernel
theorem dX3_isFinished_9 : decode cX3_isFinished 9 = .ok (.iconst 1, 1) := by decide +kernel
theorem dX3_isFinished_10 : decode cX3_isFinished 10 = .ok (.goto 4, 3) := by decide +kernel
theorem dX3_isFinished_13 : decode cX3_isFinished 13 = .ok (.iconst 0, 1) := by decide +kernel
theorem dX3_isFinished_14 : decode cX3_isFinished 14 = .ok (.ireturn, 1) := by decide +kernel
set_option maxRecDepth 20000 in
theorem ggX3_givesAnswer_X3_hasWholeFrame : GoodIn wsX3_givesAnswer wsX3_hasWholeFrame := goodIn_r _ [8, 9, 10, 11, 12, 13, 14, 15, 16, 17, 18, 19] (by decide +kernel) (by decide +kernel)
set_option maxRecDepth 20000 in
theorem gX3_givesAnswer_X3_hasWholeFrame : GoodIn wsX3_givesAnswer (wsV RX3 47 RX3 yX3_hasWholeFrame wsX3_hasWholeFrame) := goodIn_app (goodIn_of _ (by decide +kernel)) ggX3_givesAnswer_X3_hasWholeFrame
theorem dX3_givesAnswer_0 : decode cX3_givesAnswer 0 = .ok (.aload_n 0, 1) := by decide +kernel
theorem dX3_givesAnswer_1 : decode cX3_givesAnswer 1 = .ok (.invokevirtual 47, 3) := by decide +kernel
theorem dX3_givesAnswer_4 : decode cX3_givesAnswer 4 = .ok (.ifCond .eq 26, 3) := by decide +kernel
theorem dX3_givesAnswer_7 : decode cX3_givesAnswer 7 = .ok (.aload_n 0, 1) := by decide +kernel
theorem dX3_givesAnswer_8 : decode cX3_givesAnswer 8 = .ok (.getfield 22, 3) := by decide +kernel
theorem dX3_givesAnswer_11 : decode cX3_givesAnswer 11 = .ok (.iconst 1, 1) := by decide +kernel
theorem dX3_givesAnswer_12 : decode cX3_givesAnswer 12 = .ok (.if_icmp .ne 18, 3) := by decide +kernel
theorem dX3_givesAnswer_15 : decode cX3_givesAnswer 15 = .ok (.aload_n 0, 1) := by decide +kernel
theorem dX3_givesAnswer_16 : decode cX3_givesAnswer 16 = .ok (.getfield 31, 3) := by decide +kernel
theorem dX3_givesAnswer_19 : decode cX3_givesAnswer 19 = .ok (.aload_n 0, 1) := by decide +kernel
theorem dX3_givesAnswer_20 : decode cX3_givesAnswer 20 = .ok (.getfield 34, 3) := by decide +kernel
theorem dX3_givesAnswer_23 : decode cX3_givesAnswer 23 = .ok (.if_icmp .ne 7, 3) := by decide +kernel
theorem dX3_givesAnswer_26 : decode cX3_givesAnswer 26 = .ok (.iconst 1, 1) := by decide +kernel
theorem dX3_givesAnswer_27 : decode cX3_givesAnswer 27 = .ok (.goto 4, 3) := by decide +kernel
theorem dX3_givesAnswer_30 : decode cX3_givesAnswer 30 = .ok (.iconst 0, 1) := by decide +kernel
theorem dX3_givesAnswer_31 : decode cX3_givesAnswer 31 = .ok (.ireturn, 1) := by decide +kernel
theorem dX3_hasWholeFrame_0 : decode cX3_hasWholeFrame 0 = .ok (.aload_n 0, 1) := by decide +kernel
theorem dX3_hasWholeFrame_1 : decode cX3_hasWholeFrame 1 = .ok (.getfield 18, 3) := by decide +kernel
theorem dX3_hasWholeFrame_4 : decode cX3_hasWholeFrame 4 = .ok (.aload_n 0, 1) := by decide +kernel
theorem dX3_hasWholeFrame_5 : decode cX3_hasWholeFrame 5 = .ok (.getfield 40, 3) := by decide +kernel
theorem dX3_hasWholeFrame_8 : decode cX3_hasWholeFrame 8 = .ok (.bipush 15, 2) := by decide +kernel
theorem dX3_hasWholeFrame_10 : decode cX3_hasWholeFrame 10 = .ok (.iadd, 1) := by decide +kernel
theorem dX3_hasWholeFrame_11 : decode cX3_hasWholeFrame 11 = .ok (.if_icmp .ne 7, 3) := by decide +kernel
theorem dX3_hasWholeFrame_14 : decode cX3_hasWholeFrame 14 = .ok (.iconst 1, 1) := by decide +kernel
theorem dX3_hasWholeFrame_15 : decode cX3_hasWholeFrame 15 = .ok (.goto 4, 3) := by decide +kernel
theorem dX3_hasWholeFrame_18 : decode cX3_hasWholeFrame 18 = .ok (.iconst 0, 1) := by decide +kernel
theorem dX3_hasWholeFrame_19 : decode cX3_hasWholeFrame 19 = .ok (.ireturn, 1) := by decide +kernel
theorem dX3_takeTail_0 : decode cX3_takeTail 0 = .ok (.aload_n 0, 1) := by decide +kernel
theorem dX3_takeTail_1 : decode cX3_takeTail 1 = .ok (.getfield 22, 3) := by decide +kernel
theorem dX3_takeTail_4 : decode cX3_takeTail 4 = .ok (.iconst 2, 1) := by decide +kernel
theorem dX3_takeTail_5 : decode cX3_takeTail 5 = .ok (.if_icmp .ne 16, 3) := by decide +kernel
theorem dX3_takeTail_8 : decode cX3_takeTail 8 = .ok (.aload_n 0, 1) := by decide +kernel
theorem dX3_takeTail_9 : decode cX3_takeTail 9 = .ok (.getfield 31, 3) := by decide +kernel
theorem dX3_takeTail_12 : decode cX3_takeTail 12 = .ok (.aload_n 0, 1) := by decide +kernel
theorem dX3_takeTail_13 : decode cX3_takeTail 13 = .ok (.getfield 34, 3) := by decide +kernel
theorem dX3_takeTail_16 : decode cX3_takeTail 16 = .ok (.if_icmp .eq 5, 3) := by decide +kernel
theorem dX3_takeTail_19 : decode cX3_takeTail 19 = .ok (.iconst 2, 1) := by decide +kernel
theorem dX3_takeTail_20 : decode cX3_takeTail 20 = .ok (.ireturn, 1) := by decide +kernel
theorem dX3_takeTail_21 : decode cX3_takeTail 21 = .ok (.aload_n 0, 1) := by decide +kernel
theorem dX3_takeTail_22 : decode cX3_takeTail 22 = .ok (.getfield 22, 3) := by decide +kernel
theorem dX3_takeTail_25 : decode cX3_takeTail 25 = .ok (.iconst 1, 1) := by decide +kernel
theorem dX3_takeTail_26 : decode cX3_takeTail 26 = .ok (.if_icmp .eq 10, 3) := by decide +kernel
theorem dX3_takeTail_29 : decode cX3_takeTail 29 = .ok (.iload_n 1, 1) := by decide +kernel
theorem dX3_takeTail_30 : decode cX3_takeTail 30 = .ok (.iconst 1, 1) := by decide +kernel
theorem dX3_takeTail_31 : decode cX3_takeTail 31 = .ok (.if_icmp .eq 5, 3) := by decide +kernel
theorem dX3_takeTail_34 : decode cX3_takeTail 34 = .ok (.iconst 3, 1) := by decide +kernel
theorem dX3_takeTail_35 : decode cX3_takeTail 35 = .ok (.ireturn, 1) := by decide +kernel
theorem dX3_takeTail_36 : decode cX3_takeTail 36 = .ok (.aload_n 0, 1) := by decide +kernel
theorem dX3_takeTail_37 : decode cX3_takeTail 37 = .ok (.dup, 1) := by decide +kernel
theorem dX3_takeTail_38 : decode cX3_takeTail 38 = .ok (.getfield 22, 3) := by decide +kernel
theorem dX3_takeTail_41 : decode cX3_takeTail 41 = .ok (.iconst 1, 1) := by decide +kernel
theorem dX3_takeTail_42 : decode cX3_takeTail 42 = .ok (.iadd, 1) := by decide +kernel
theorem dX3_takeTail_43 : decode cX3_takeTail 43 = .ok (.putfield 22, 3) := by decide +kernel
theorem dX3_takeTail_46 : decode cX3_takeTail 46 = .ok (.iconst 0, 1) := by decide +kernel
theorem dX3_takeTail_47 : decode cX3_takeTail 47 = .ok (.ireturn, 1) := by decide +kernel
set_option maxRecDepth 20000 in
theorem ggX3_takeFramed_X4_nextCheck : GoodIn wsX3_takeFramed wsX4_nextCheck := goodIn_r _ [8] (by decide +kernel) (by decide +kernel)
set_option maxRecDepth 20000 in
theorem gX3_takeFramed_X4_nextCheck_n59 : GoodIn wsX3_takeFramed (wsX4_nextCheck) := ggX3_takeFramed_X4_nextCheck
set_option maxRecDepth 20000 in
theorem ggX3_takeFramed_X3_takeHead : GoodIn wsX3_takeFramed wsX3_takeHead := goodIn_r _ [13, 14, 15, 16, 5, 2, 31, 32, 33, 34, 35, 36, 37, 38, 39, 40, 41, 42, 43] (by decide +kernel) (by decide +kernel)
set_option maxRecDepth 20000 in
theorem gX3_takeFramed_X3_takeHead : GoodIn wsX3_takeFramed (wsV RX3 63 RX3 yX3_takeHead wsX3_takeHead) := goodIn_app (goodIn_of _ (by decide +kernel)) ggX3_takeFramed_X3_takeHead
set_option maxRecDepth 20000 in
theorem ggX3_takeFramed_X3_takeSize : GoodIn wsX3_takeFramed wsX3_takeSize := goodIn_r _ [20, 14, 21, 5, 22, 23, 24, 25, 2, 31, 32, 33, 34, 35, 36, 37, 38, 39, 40, 41, 42, 43] (by decide +kernel) (by decide +kernel)
set_option maxRecDepth 20000 in
theorem gX3_takeFramed_X3_takeSize : GoodIn wsX3_takeFramed (wsV RX3 67 RX3 yX3_takeSize wsX3_takeSize) := goodIn_app (goodIn_of _ (by decide +kernel)) ggX3_takeFramed_X3_takeSize
set_option maxRecDepth 20000 in
theorem ggX3_takeFramed_X3_takeData : GoodIn wsX3_takeFramed wsX3_takeData := goodIn_r _ [29, 14, 30, 31, 32, 33, 34, 35, 36, 37, 38, 39, 40, 41, 42, 43] (by decide +kernel) (by decide +kernel)
set_option maxRecDepth 20000 in
theorem gX3_takeFramed_X3_takeData : GoodIn wsX3_takeFramed (wsV RX3 70 RX3 yX3_takeData wsX3_takeData) := goodIn_app (goodIn_of _ (by decide +kernel)) ggX3_takeFramed_X3_takeData
theorem dX3_takeFramed_0 : decode cX3_takeFramed 0 = .ok (.aload_n 0, 1) := by decide +kernel
theorem dX3_takeFramed_1 : decode cX3_takeFramed 1 = .ok (.getfield 18, 3) := by decide +kernel
theorem dX3_takeFramed_4 : decode cX3_takeFramed 4 = .ok (.istore_n 2, 1) := by decide +kernel
theorem dX3_takeFramed_5 : decode cX3_takeFramed 5 = .ok (.aload_n 0, 1) := by decide +kernel
theorem dX3_takeFramed_6 : decode cX3_takeFramed 6 = .ok (.dup, 1) := by decide +kernel
theorem dX3_takeFramed_7 : decode cX3_takeFramed 7 = .ok (.getfield 18, 3) := by decide +kernel
theorem dX3_takeFramed_10 : decode cX3_takeFramed 10 = .ok (.iconst 1, 1) := by decide +kernel
theorem dX3_takeFramed_11 : decode cX3_takeFramed 11 = .ok (.iadd, 1) := by decide +kernel
theorem dX3_takeFramed_12 : decode cX3_takeFramed 12 = .ok (.putfield 18, 3) := by decide +kernel
theorem dX3_takeFramed_15 : decode cX3_takeFramed 15 = .ok (.iload_n 2, 1) := by decide +kernel
theorem dX3_takeFramed_16 : decode cX3_takeFramed 16 = .ok (.aload_n 0, 1) := by decide +kernel
theorem dX3_takeFramed_17 : decode cX3_takeFramed 17 = .ok (.getfield 40, 3) := by decide +kernel
theorem dX3_takeFramed_20 : decode cX3_takeFramed 20 = .ok (.if_icmp .lt 16, 3) := by decide +kernel
theorem dX3_takeFramed_23 : decode cX3_takeFramed 23 = .ok (.aload_n 0, 1) := by decide +kernel
theorem dX3_takeFramed_24 : decode cX3_takeFramed 24 = .ok (.aload_n 0, 1) := by decide +kernel
theorem dX3_takeFramed_25 : decode cX3_takeFramed 25 = .ok (.getfield 34, 3) := by decide +kernel
theorem dX3_takeFramed_28 : decode cX3_takeFramed 28 = .ok (.iconst 1, 1) := by decide +kernel
theorem dX3_takeFramed_29 : decode cX3_takeFramed 29 = .ok (.ishl, 1) := by decide +kernel
theorem dX3_takeFramed_30 : decode cX3_takeFramed 30 = .ok (.iload_n 1, 1) := by decide +kernel
theorem dX3_takeFramed_31 : decode cX3_takeFramed 31 = .ok (.ior, 1) := by decide +kernel
theorem dX3_takeFramed_32 : decode cX3_takeFramed 32 = .ok (.putfield 34, 3) := by decide +kernel
theorem dX3_takeFramed_35 : decode cX3_takeFramed 35 = .ok (.return_, 1) := by decide +kernel
theorem dX3_takeFramed_36 : decode cX3_takeFramed 36 = .ok (.aload_n 0, 1) := by decide +kernel
theorem dX3_takeFramed_37 : decode cX3_takeFramed 37 = .ok (.aload_n 0, 1) := by decide +kernel
theorem dX3_takeFramed_38 : decode cX3_takeFramed 38 = .ok (.getfield 31, 3) := by decide +kernel
theorem dX3_takeFramed_41 : decode cX3_takeFramed 41 = .ok (.iload_n 1, 1) := by decide +kernel
theorem dX3_takeFramed_42 : decode cX3_takeFramed 42 = .ok (.invokestatic 59, 3) := by decide +kernel
theorem dX3_takeFramed_45 : decode cX3_takeFramed 45 = .ok (.putfield 31, 3) := by decide +kernel
theorem dX3_takeFramed_48 : decode cX3_takeFramed 48 = .ok (.iload_n 2, 1) := by decide +kernel
theorem dX3_takeFramed_49 : decode cX3_takeFramed 49 = .ok (.aload_n 0, 1) := by decide +kernel
theorem dX3_takeFramed_50 : decode cX3_takeFramed 50 = .ok (.getfield 37, 3) := by decide +kernel
theorem dX3_takeFramed_53 : decode cX3_takeFramed 53 = .ok (.if_icmp .ge 12, 3) := by decide +kernel
theorem dX3_takeFramed_56 : decode cX3_takeFramed 56 = .ok (.aload_n 0, 1) := by decide +kernel
theorem dX3_takeFramed_57 : decode cX3_takeFramed 57 = .ok (.iload_n 2, 1) := by decide +kernel
theorem dX3_takeFramed_58 : decode cX3_takeFramed 58 = .ok (.iload_n 1, 1) := by decide +kernel
theorem dX3_takeFramed_59 : decode cX3_takeFramed 59 = .ok (.invokevirtual 63, 3) := by decide +kernel
theorem dX3_takeFramed_62 : decode cX3_takeFramed 62 = .ok (.goto 35, 3) := by decide +kernel
theorem dX3_takeFramed_65 : decode cX3_takeFramed 65 = .ok (.iload_n 2, 1) := by decide +kernel
theorem dX3_takeFramed_66 : decode cX3_takeFramed 66 = .ok (.aload_n 0, 1) := by decide +kernel
theorem dX3_takeFramed_67 : decode cX3_takeFramed 67 = .ok (.getfield 37, 3) := by decide +kernel
theorem dX3_takeFramed_70 : decode cX3_takeFramed 70 = .ok (.iconst 4, 1) := by decide +kernel
theorem dX3_takeFramed_71 : decode cX3_takeFramed 71 = .ok (.iadd, 1) := by decide +kernel
theorem dX3_takeFramed_72 : decode cX3_takeFramed 72 = .ok (.if_icmp .ge 12, 3) := by decide +kernel
theorem dX3_takeFramed_75 : decode cX3_takeFramed 75 = .ok (.aload_n 0, 1) := by decide +kernel
theorem dX3_takeFramed_76 : decode cX3_takeFramed 76 = .ok (.iload_n 2, 1) := by decide +kernel
theorem dX3_takeFramed_77 : decode cX3_takeFramed 77 = .ok (.iload_n 1, 1) := by decide +kernel
theorem dX3_takeFramed_78 : decode cX3_takeFramed 78 = .ok (.invokevirtual 67, 3) := by decide +kernel
theorem dX3_takeFramed_81 : decode cX3_takeFramed 81 = .ok (.goto 16, 3) := by decide +kernel
theorem dX3_takeFramed_84 : decode cX3_takeFramed 84 = .ok (.aload_n 0, 1) := by decide +kernel
theorem dX3_takeFramed_85 : decode cX3_takeFramed 85 = .ok (.iload_n 2, 1) := by decide +kernel
theorem dX3_takeFramed_86 : decode cX3_takeFramed 86 = .ok (.aload_n 0, 1) := by decide +kernel
theorem dX3_takeFramed_87 : decode cX3_takeFramed 87 = .ok (.getfield 37, 3) := by decide +kernel
theorem dX3_takeFramed_90 : decode cX3_takeFramed 90 = .ok (.isub, 1) := by decide +kernel
theorem dX3_takeFramed_91 : decode cX3_takeFramed 91 = .ok (.iconst 4, 1) := by decide +kernel
theorem dX3_takeFramed_92 : decode cX3_takeFramed 92 = .ok (.isub, 1) := by decide +kernel
theorem dX3_takeFramed_93 : decode cX3_takeFramed 93 = .ok (.iload_n 1, 1) := by decide +kernel
theorem dX3_takeFramed_94 : decode cX3_takeFramed 94 = .ok (.invokevirtual 70, 3) := by decide +kernel
theorem dX3_takeFramed_97 : decode cX3_takeFramed 97 = .ok (.return_, 1) := by decide +kernel
theorem dX3_takeHead_0 : decode cX3_takeHead 0 = .ok (.iload_n 1, 1) := by decide +kernel
theorem dX3_takeHead_1 : decode cX3_takeHead 1 = .ok (.iconst 1, 1) := by decide +kernel
theorem dX3_takeHead_2 : decode cX3_takeHead 2 = .ok (.if_icmp .lt 13, 3) := by decide +kernel
theorem dX3_takeHead_5 : decode cX3_takeHead 5 = .ok (.iload_n 1, 1) := by decide +kernel
theorem dX3_takeHead_6 : decode cX3_takeHead 6 = .ok (.bipush 11, 2) := by decide +kernel
theorem dX3_takeHead_8 : decode cX3_takeHead 8 = .ok (.if_icmp .gt 7, 3) := by decide +kernel
theorem dX3_takeHead_11 : decode cX3_takeHead 11 = .ok (.iconst 1, 1) := by decide +kernel
theorem dX3_takeHead_12 : decode cX3_takeHead 12 = .ok (.goto 4, 3) := by decide +kernel
theorem dX3_takeHead_15 : decode cX3_takeHead 15 = .ok (.iconst 0, 1) := by decide +kernel
theorem dX3_takeHead_16 : decode cX3_takeHead 16 = .ok (.istore_n 3, 1) := by decide +kernel
theorem dX3_takeHead_17 : decode cX3_takeHead 17 = .ok (.iload_n 1, 1) := by decide +kernel
theorem dX3_takeHead_18 : decode cX3_takeHead 18 = .ok (.bipush 13, 2) := by decide +kernel
theorem dX3_takeHead_20 : decode cX3_takeHead 20 = .ok (.if_icmp .le 13, 3) := by decide +kernel
theorem dX3_takeHead_23 : decode cX3_takeHead 23 = .ok (.iload_n 1, 1) := by decide +kernel
theorem dX3_takeHead_24 : decode cX3_takeHead 24 = .ok (.bipush 31, 2) := by decide +kernel
theorem dX3_takeHead_26 : decode cX3_takeHead 26 = .ok (.if_icmp .gt 7, 3) := by decide +kernel
theorem dX3_takeHead_29 : decode cX3_takeHead 29 = .ok (.iconst 1, 1) := by decide +kernel
theorem dX3_takeHead_30 : decode cX3_takeHead 30 = .ok (.goto 4, 3) := by decide +kernel
theorem dX3_takeHead_33 : decode cX3_takeHead 33 = .ok (.iconst 0, 1) := by decide +kernel
theorem dX3_takeHead_34 : decode cX3_takeHead 34 = .ok (.istore 4, 2) := by decide +kernel
theorem dX3_takeHead_36 : decode cX3_takeHead 36 = .ok (.iload_n 3, 1) := by decide +kernel
theorem dX3_takeHead_37 : decode cX3_takeHead 37 = .ok (.ifCond .ne 18, 3) := by decide +kernel
theorem dX3_takeHead_40 : decode cX3_takeHead 40 = .ok (.aload_n 0, 1) := by decide +kernel
theorem dX3_takeHead_41 : decode cX3_takeHead 41 = .ok (.getfield 12, 3) := by decide +kernel
theorem dX3_takeHead_44 : decode cX3_takeHead 44 = .ok (.getfield 73, 3) := by decide +kernel
theorem dX3_takeHead_47 : decode cX3_takeHead 47 = .ok (.ifCond .eq 29, 3) := by decide +kernel
theorem dX3_takeHead_50 : decode cX3_takeHead 50 = .ok (.iload 4, 2) := by decide +kernel
theorem dX3_takeHead_52 : decode cX3_takeHead 52 = .ok (.ifCond .eq 24, 3) := by decide +kernel
theorem dX3_takeHead_55 : decode cX3_takeHead 55 = .ok (.aload_n 0, 1) := by decide +kernel
theorem dX3_takeHead_56 : decode cX3_takeHead 56 = .ok (.getfield 12, 3) := by decide +kernel
theorem dX3_takeHead_59 : decode cX3_takeHead 59 = .ok (.aload_n 0, 1) := by decide +kernel
theorem dX3_takeHead_60 : decode cX3_takeHead 60 = .ok (.getfield 12, 3) := by decide +kernel
theorem dX3_takeHead_63 : decode cX3_takeHead 63 = .ok (.getfield 77, 3) := by decide +kernel
theorem dX3_takeHead_66 : decode cX3_takeHead 66 = .ok (.iconst 1, 1) := by decide +kernel
theorem dX3_takeHead_67 : decode cX3_takeHead 67 = .ok (.ishl, 1) := by decide +kernel
theorem dX3_takeHead_68 : decode cX3_takeHead 68 = .ok (.iload_n 2, 1) := by decide +kernel
theorem dX3_takeHead_69 : decode cX3_takeHead 69 = .ok (.ior, 1) := by decide +kernel
theorem dX3_takeHead_70 : decode cX3_takeHead 70 = .ok (.putfield 77, 3) := by decide +kernel
theorem dX3_takeHead_73 : decode cX3_takeHead 73 = .ok (.goto 34, 3) := by decide +kernel
theorem dX3_takeHead_76 : decode cX3_takeHead 76 = .ok (.iload_n 1, 1) := by decide +kernel
theorem dX3_takeHead_77 : decode cX3_takeHead 77 = .ok (.bipush 13, 2) := by decide +kernel
theorem dX3_takeHead_79 : decode cX3_takeHead 79 = .ok (.if_icmp .ne 28, 3) := by decide +kernel
theorem dX3_takeHead_82 : decode cX3_takeHead 82 = .ok (.iload_n 2, 1) := by decide +kernel
theorem dX3_takeHead_83 : decode cX3_takeHead 83 = .ok (.iconst 1, 1) := by decide +kernel
theorem dX3_takeHead_84 : decode cX3_takeHead 84 = .ok (.if_icmp .ne 23, 3) := by decide +kernel
theorem dX3_takeHead_87 : decode cX3_takeHead 87 = .ok (.aload_n 0, 1) := by decide +kernel
theorem dX3_takeHead_88 : decode cX3_takeHead 88 = .ok (.getfield 12, 3) := by decide +kernel
theorem dX3_takeHead_91 : decode cX3_takeHead 91 = .ok (.iconst 1, 1) := by decide +kernel
theorem dX3_takeHead_92 : decode cX3_takeHead 92 = .ok (.putfield 73, 3) := by decide +kernel
theorem dX3_takeHead_95 : decode cX3_takeHead 95 = .ok (.aload_n 0, 1) := by decide +kernel
theorem dX3_takeHead_96 : decode cX3_takeHead 96 = .ok (.bipush 35, 2) := by decide +kernel
theorem dX3_takeHead_98 : decode cX3_takeHead 98 = .ok (.putfield 37, 3) := by decide +kernel
theorem dX3_takeHead_101 : decode cX3_takeHead 101 = .ok (.aload_n 0, 1) := by decide +kernel
theorem dX3_takeHead_102 : decode cX3_takeHead 102 = .ok (.bipush 39, 2) := by decide +kernel
theorem dX3_takeHead_104 : decode cX3_takeHead 104 = .ok (.putfield 40, 3) := by decide +kernel
theorem dX3_takeHead_107 : decode cX3_takeHead 107 = .ok (.return_, 1) := by decide +kernel
theorem dX3_takeSize_0 : decode cX3_takeSize 0 = .ok (.aload_n 0, 1) := by decide +kernel
theorem dX3_takeSize_1 : decode cX3_takeSize 1 = .ok (.getfield 12, 3) := by decide +kernel
theorem dX3_takeSize_4 : decode cX3_takeSize 4 = .ok (.aload_n 0, 1) := by decide +kernel
theorem dX3_takeSize_5 : decode cX3_takeSize 5 = .ok (.getfield 12, 3) := by decide +kernel
theorem dX3_takeSize_8 : decode cX3_takeSize 8 = .ok (.getfield 80, 3) := by decide +kernel
theorem dX3_takeSize_11 : decode cX3_takeSize 11 = .ok (.iconst 1, 1) := by decide +kernel
theorem dX3_takeSize_12 : decode cX3_takeSize 12 = .ok (.ishl, 1) := by decide +kernel
theorem dX3_takeSize_13 : decode cX3_takeSize 13 = .ok (.iload_n 2, 1) := by decide +kernel
theorem dX3_takeSize_14 : decode cX3_takeSize 14 = .ok (.ior, 1) := by decide +kernel
theorem dX3_takeSize_15 : decode cX3_takeSize 15 = .ok (.putfield 80, 3) := by decide +kernel
theorem dX3_takeSize_18 : decode cX3_takeSize 18 = .ok (.iload_n 1, 1) := by decide +kernel
theorem dX3_takeSize_19 : decode cX3_takeSize 19 = .ok (.aload_n 0, 1) := by decide +kernel
theorem dX3_takeSize_20 : decode cX3_takeSize 20 = .ok (.getfield 37, 3) := by decide +kernel
theorem dX3_takeSize_23 : decode cX3_takeSize 23 = .ok (.iconst 4, 1) := by decide +kernel
theorem dX3_takeSize_24 : decode cX3_takeSize 24 = .ok (.iadd, 1) := by decide +kernel
theorem dX3_takeSize_25 : decode cX3_takeSize 25 = .ok (.iconst 1, 1) := by decide +kernel
theorem dX3_takeSize_26 : decode cX3_takeSize 26 = .ok (.isub, 1) := by decide +kernel
theorem dX3_takeSize_27 : decode cX3_takeSize 27 = .ok (.if_icmp .ne 43, 3) := by decide +kernel
theorem dX3_takeSize_30 : decode cX3_takeSize 30 = .ok (.aload_n 0, 1) := by decide +kernel
theorem dX3_takeSize_31 : decode cX3_takeSize 31 = .ok (.getfield 12, 3) := by decide +kernel
theorem dX3_takeSize_34 : decode cX3_takeSize 34 = .ok (.aload_n 0, 1) := by decide +kernel
theorem dX3_takeSize_35 : decode cX3_takeSize 35 = .ok (.getfield 12, 3) := by decide +kernel
theorem dX3_takeSize_38 : decode cX3_takeSize 38 = .ok (.getfield 80, 3) := by decide +kernel
theorem dX3_takeSize_41 : decode cX3_takeSize 41 = .ok (.bipush 8, 2) := by decide +kernel
theorem dX3_takeSize_43 : decode cX3_takeSize 43 = .ok (.invokestatic 83, 3) := by decide +kernel
theorem dX3_takeSize_46 : decode cX3_takeSize 46 = .ok (.putfield 80, 3) := by decide +kernel
theorem dX3_takeSize_49 : decode cX3_takeSize 49 = .ok (.aload_n 0, 1) := by decide +kernel
theorem dX3_takeSize_50 : decode cX3_takeSize 50 = .ok (.aload_n 0, 1) := by decide +kernel
theorem dX3_takeSize_51 : decode cX3_takeSize 51 = .ok (.getfield 37, 3) := by decide +kernel
theorem dX3_takeSize_54 : decode cX3_takeSize 54 = .ok (.iconst 4, 1) := by decide +kernel
theorem dX3_takeSize_55 : decode cX3_takeSize 55 = .ok (.iadd, 1) := by decide +kernel
theorem dX3_takeSize_56 : decode cX3_takeSize 56 = .ok (.bipush 8, 2) := by decide +kernel
theorem dX3_takeSize_58 : decode cX3_takeSize 58 = .ok (.aload_n 0, 1) := by decide +kernel
theorem dX3_takeSize_59 : decode cX3_takeSize 59 = .ok (.getfield 12, 3) := by decide +kernel
theorem dX3_takeSize_62 : decode cX3_takeSize 62 = .ok (.getfield 80, 3) := by decide +kernel
theorem dX3_takeSize_65 : decode cX3_takeSize 65 = .ok (.imul, 1) := by decide +kernel
theorem dX3_takeSize_66 : decode cX3_takeSize 66 = .ok (.iadd, 1) := by decide +kernel
theorem dX3_takeSize_67 : decode cX3_takeSize 67 = .ok (.putfield 40, 3) := by decide +kernel
theorem dX3_takeSize_70 : decode cX3_takeSize 70 = .ok (.return_, 1) := by decide +kernel
theorem dX3_takeData_0 : decode cX3_takeData 0 = .ok (.iload_n 1, 1) := by decide +kernel
theorem dX3_takeData_1 : decode cX3_takeData 1 = .ok (.bipush 8, 2) := by decide +kernel
theorem dX3_takeData_3 : decode cX3_takeData 3 = .ok (.idiv, 1) := by decide +kernel
theorem dX3_takeData_4 : decode cX3_takeData 4 = .ok (.bipush 8, 2) := by decide +kernel
theorem dX3_takeData_6 : decode cX3_takeData 6 = .ok (.imul, 1) := by decide +kernel
theorem dX3_takeData_7 : decode cX3_takeData 7 = .ok (.istore_n 3, 1) := by decide +kernel
theorem dX3_takeData_8 : decode cX3_takeData 8 = .ok (.iload_n 3, 1) := by decide +kernel
theorem dX3_takeData_9 : decode cX3_takeData 9 = .ok (.bipush 8, 2) := by decide +kernel
theorem dX3_takeData_11 : decode cX3_takeData 11 = .ok (.iadd, 1) := by decide +kernel
theorem dX3_takeData_12 : decode cX3_takeData 12 = .ok (.iconst 1, 1) := by decide +kernel
theorem dX3_takeData_13 : decode cX3_takeData 13 = .ok (.isub, 1) := by decide +kernel
theorem dX3_takeData_14 : decode cX3_takeData 14 = .ok (.iload_n 1, 1) := by decide +kernel
theorem dX3_takeData_15 : decode cX3_takeData 15 = .ok (.bipush 8, 2) := by decide +kernel
theorem dX3_takeData_17 : decode cX3_takeData 17 = .ok (.irem, 1) := by decide +kernel
theorem dX3_takeData_18 : decode cX3_takeData 18 = .ok (.isub, 1) := by decide +kernel
theorem dX3_takeData_19 : decode cX3_takeData 19 = .ok (.istore 4, 2) := by decide +kernel
theorem dX3_takeData_21 : decode cX3_takeData 21 = .ok (.aload_n 0, 1) := by decide +kernel
theorem dX3_takeData_22 : decode cX3_takeData 22 = .ok (.getfield 12, 3) := by decide +kernel
theorem dX3_takeData_25 : decode cX3_takeData 25 = .ok (.dup, 1) := by decide +kernel
theorem dX3_takeData_26 : decode cX3_takeData 26 = .ok (.getfield 88, 3) := by decide +kernel
theorem dX3_takeData_29 : decode cX3_takeData 29 = .ok (.iload_n 2, 1) := by decide +kernel
theorem dX3_takeData_30 : decode cX3_takeData 30 = .ok (.i2l, 1) := by decide +kernel
theorem dX3_takeData_31 : decode cX3_takeData 31 = .ok (.iload 4, 2) := by decide +kernel
theorem dX3_takeData_33 : decode cX3_takeData 33 = .ok (.lshl, 1) := by decide +kernel
theorem dX3_takeData_34 : decode cX3_takeData 34 = .ok (.lor, 1) := by decide +kernel
theorem dX3_takeData_35 : decode cX3_takeData 35 = .ok (.putfield 88, 3) := by decide +kernel
theorem dX3_takeData_38 : decode cX3_takeData 38 = .ok (.return_, 1) := by decide +kernel
end
section
set_option maxRecDepth 20000 in
theorem ggX4_init_X1_init : GoodIn wsX4_init wsX1_init := goodIn_r _ [22, 23, 2, 3, 8, 24, 25, 26, 27, 28, 29, 30, 31, 83, 84, 85, 86, 87, 88, 89, 90] (by decide +kernel) (by decide +kernel)
set_option maxRecDepth 20000 in
theorem gX4_init_X1_init_n31 : GoodIn wsX4_init (wsX1_init) := ggX4_init_X1_init
set_option maxRecDepth 20000 in
theorem ggX4_init_X3_init : GoodIn wsX4_init wsX3_init := goodIn_r _ [33, 34, 2, 3, 35, 36, 37, 38, 39, 40, 41, 42, 43, 44, 45, 46, 47, 48, 49, 50, 51, 52, 53, 115, 116, 117, 118, 91, 92, 93, 94, 95, 96, 97, 98, 99] (by decide +kernel) (by decide +kernel)
set_option maxRecDepth 20000 in
theorem gX4_init_X3_init_n38 : GoodIn wsX4_init (wsX3_init) := ggX4_init_X3_init
set_option maxRecDepth 20000 in
theorem ggX4_init_X2_init : GoodIn wsX4_init wsX2_init := goodIn_r _ [56, 57, 2, 3, 58, 59, 36, 37, 60, 61, 12, 13, 62, 63, 16, 17, 64, 65, 66, 67, 68, 69, 70, 71, 72, 73, 74, 75, 47, 48, 49, 50, 51, 52, 53, 21, 22, 23, 8, 24, 25, 26, 27, 28, 29, 30, 31, 32, 33, 34, 35, 38, 39, 40, 41, 42, 43, 44, 45, 46, 100, 101, 102, 103, 104, 105, 106, 107, 108, 109, 110, 111, 112, 113, 114, 115, 116, 117, 118, 83, 84, 85, 86, 87, 88, 89, 90, 91, 92, 93, 94, 95, 96, 97, 98, 99] (by decide +kernel) (by decide +kernel)
set_option maxRecDepth 20000 in
theorem gX4_init_X2_init : GoodIn wsX4_init (wsX2_init) := ggX4_init_X2_init
theorem dX4_init_0 : decode cX4_init 0 = .ok (.aload_n 0, 1) := by decide +kernel
theorem dX4_init_1 : decode cX4_init 1 = .ok (.invokespecial 3, 3) := by decide +kernel
theorem dX4_init_4 : decode cX4_init 4 = .ok (.aload_n 0, 1) := by decide +kernel
theorem dX4_init_5 : decode cX4_init 5 = .ok (.iconst 4, 1) := by decide +kernel
theorem dX4_init_6 : decode cX4_init 6 = .ok (.anewarray 9, 3) := by decide +kernel
theorem dX4_init_9 : decode cX4_init 9 = .ok (.putfield 11, 3) := by decide +kernel
theorem dX4_init_12 : decode cX4_init 12 = .ok (.aload_n 0, 1) := by decide +kernel
theorem dX4_init_13 : decode cX4_init 13 = .ok (.iconst 0, 1) := by decide +kernel
theorem dX4_init_14 : decode cX4_init 14 = .ok (.putfield 15, 3) := by decide +kernel
theorem dX4_init_17 : decode cX4_init 17 = .ok (.aload_n 0, 1) := by decide +kernel
theorem dX4_init_18 : decode cX4_init 18 = .ok (.iconst 0, 1) := by decide +kernel
theorem dX4_init_19 : decode cX4_init 19 = .ok (.putfield 19, 3) := by decide +kernel
theorem dX4_init_22 : decode cX4_init 22 = .ok (.aload_n 0, 1) := by decide +kernel
theorem dX4_init_23 : decode cX4_init 23 = .ok (.sipush 200, 3) := by decide +kernel
theorem dX4_init_26 : decode cX4_init 26 = .ok (.newarray .int, 2) := by decide +kernel
theorem dX4_init_28 : decode cX4_init 28 = .ok (.putfield 22, 3) := by decide +kernel
theorem dX4_init_31 : decode cX4_init 31 = .ok (.aload_n 0, 1) := by decide +kernel
theorem dX4_init_32 : decode cX4_init 32 = .ok (.iconst 0, 1) := by decide +kernel
theorem dX4_init_33 : decode cX4_init 33 = .ok (.putfield 26, 3) := by decide +kernel
theorem dX4_init_36 : decode cX4_init 36 = .ok (.aload_n 0, 1) := by decide +kernel
theorem dX4_init_37 : decode cX4_init 37 = .ok (.new 29, 3) := by decide +kernel
theorem dX4_init_40 : decode cX4_init 40 = .ok (.dup, 1) := by decide +kernel
theorem dX4_init_41 : decode cX4_init 41 = .ok (.invokespecial 31, 3) := by decide +kernel
theorem dX4_init_44 : decode cX4_init 44 = .ok (.putfield 32, 3) := by decide +kernel
theorem dX4_init_47 : decode cX4_init 47 = .ok (.aload_n 0, 1) := by decide +kernel
theorem dX4_init_48 : decode cX4_init 48 = .ok (.new 36, 3) := by decide +kernel
theorem dX4_init_51 : decode cX4_init 51 = .ok (.dup, 1) := by decide +kernel
theorem dX4_init_52 : decode cX4_init 52 = .ok (.invokespecial 38, 3) := by decide +kernel
theorem dX4_init_55 : decode cX4_init 55 = .ok (.putfield 39, 3) := by decide +kernel
theorem dX4_init_58 : decode cX4_init 58 = .ok (.iconst 0, 1) := by decide +kernel
theorem dX4_init_59 : decode cX4_init 59 = .ok (.istore_n 1, 1) := by decide +kernel
theorem dX4_init_60 : decode cX4_init 60 = .ok (.iload_n 1, 1) := by decide +kernel
theorem dX4_init_61 : decode cX4_init 61 = .ok (.iconst 4, 1) := by decide +kernel
theorem dX4_init_62 : decode cX4_init 62 = .ok (.if_icmp .ge 22, 3) := by decide +kernel
theorem dX4_init_65 : decode cX4_init 65 = .ok (.aload_n 0, 1) := by decide +kernel
theorem dX4_init_66 : decode cX4_init 66 = .ok (.getfield 11, 3) := by decide +kernel
theorem dX4_init_69 : decode cX4_init 69 = .ok (.iload_n 1, 1) := by decide +kernel
theorem dX4_init_70 : decode cX4_init 70 = .ok (.new 9, 3) := by decide +kernel
theorem dX4_init_73 : decode cX4_init 73 = .ok (.dup, 1) := by decide +kernel
theorem dX4_init_74 : decode cX4_init 74 = .ok (.invokespecial 43, 3) := by decide +kernel
theorem dX4_init_77 : decode cX4_init 77 = .ok (.aastore, 1) := by decide +kernel
theorem dX4_init_78 : decode cX4_init 78 = .ok (.iinc 1 1, 3) := by decide +kernel
theorem dX4_init_81 : decode cX4_init 81 = .ok (.goto (-21), 3) := by decide +kernel
theorem dX4_init_84 : decode cX4_init 84 = .ok (.return_, 1) := by decide +kernel
set_option maxRecDepth 20000 in
theorem ggX4_want_X4_isNode : GoodIn wsX4_want wsX4_isNode := goodIn_r _ [12] (by decide +kernel) (by decide +kernel)
set_option maxRecDepth 20000 in
theorem gX4_want_X4_isNode : GoodIn wsX4_want (va_wsS RX4 44 yX4_isNode wsX4_isNode) := goodIn_app (goodIn_of _ (by decide +kernel)) ggX4_want_X4_isNode
set_option maxRecDepth 20000 in
theorem ggX4_want_X2_addWanted : GoodIn wsX4_want wsX2_addWanted := goodIn_r _ [17, 18, 19, 20, 21, 22, 23, 24, 25, 26, 27, 28, 36, 37, 38, 39, 40, 41, 42, 43, 44, 45, 46, 47, 48, 49, 50, 51, 52, 53, 54] (by decide +kernel) (by decide +kernel)
set_option maxRecDepth 20000 in
theorem gX4_want_X2_addWanted : GoodIn wsX4_want (wsV RX4 60 RX2 yX2_addWanted wsX2_addWanted) := goodIn_app (goodIn_of _ (by decide +kernel)) ggX4_want_X2_addWanted
theorem dX4_want_0 : decode cX4_want 0 = .ok (.iload_n 1, 1) := by decide +kernel
theorem dX4_want_1 : decode cX4_want 1 = .ok (.invokestatic 44, 3) := by decide +kernel
theorem dX4_want_4 : decode cX4_want 4 = .ok (.ifCond .ne 11, 3) := by decide +kernel
theorem dX4_want_7 : decode cX4_want 7 = .ok (.new 48, 3) := by decide +kernel
theorem dX4_want_10 : decode cX4_want 10 = .ok (.dup, 1) := by decide +kernel
theorem dX4_want_11 : decode cX4_want 11 = .ok (.invokespecial 50, 3) := by decide +kernel
theorem dX4_want_14 : decode cX4_want 14 = .ok (.athrow, 1) := by decide +kernel
theorem dX4_want_15 : decode cX4_want 15 = .ok (.iload_n 2, 1) := by decide +kernel
theorem dX4_want_16 : decode cX4_want 16 = .ok (.ifCond .eq 8, 3) := by decide +kernel
theorem dX4_want_19 : decode cX4_want 19 = .ok (.bipush 29, 2) := by decide +kernel
theorem dX4_want_21 : decode cX4_want 21 = .ok (.goto 5, 3) := by decide +kernel
theorem dX4_want_24 : decode cX4_want 24 = .ok (.bipush 11, 2) := by decide +kernel
theorem dX4_want_26 : decode cX4_want 26 = .ok (.istore 7, 2) := by decide +kernel
theorem dX4_want_28 : decode cX4_want 28 = .ok (.iload_n 3, 1) := by decide +kernel
theorem dX4_want_29 : decode cX4_want 29 = .ok (.ifCond .lt 23, 3) := by decide +kernel
theorem dX4_want_32 : decode cX4_want 32 = .ok (.iload_n 3, 1) := by decide +kernel
theorem dX4_want_33 : decode cX4_want 33 = .ok (.iconst 1, 1) := by decide +kernel
theorem dX4_want_34 : decode cX4_want 34 = .ok (.iload 7, 2) := by decide +kernel
theorem dX4_want_36 : decode cX4_want 36 = .ok (.ishl, 1) := by decide +kernel
theorem dX4_want_37 : decode cX4_want 37 = .ok (.if_icmp .ge 15, 3) := by decide +kernel
theorem dX4_want_40 : decode cX4_want 40 = .ok (.iload 6, 2) := by decide +kernel
theorem dX4_want_42 : decode cX4_want 42 = .ok (.ifCond .lt 10, 3) := by decide +kernel
theorem dX4_want_45 : decode cX4_want 45 = .ok (.iload 6, 2) := by decide +kernel
theorem dX4_want_47 : decode cX4_want 47 = .ok (.bipush 8, 2) := by decide +kernel
theorem dX4_want_49 : decode cX4_want 49 = .ok (.if_icmp .le 11, 3) := by decide +kernel
theorem dX4_want_52 : decode cX4_want 52 = .ok (.new 51, 3) := by decide +kernel
theorem dX4_want_55 : decode cX4_want 55 = .ok (.dup, 1) := by decide +kernel
theorem dX4_want_56 : decode cX4_want 56 = .ok (.invokespecial 53, 3) := by decide +kernel
theorem dX4_want_59 : decode cX4_want 59 = .ok (.athrow, 1) := by decide +kernel
theorem dX4_want_60 : decode cX4_want 60 = .ok (.aload_n 0, 1) := by decide +kernel
theorem dX4_want_61 : decode cX4_want 61 = .ok (.getfield 11, 3) := by decide +kernel
theorem dX4_want_64 : decode cX4_want 64 = .ok (.iload_n 1, 1) := by decide +kernel
theorem dX4_want_65 : decode cX4_want 65 = .ok (.aaload, 1) := by decide +kernel
theorem dX4_want_66 : decode cX4_want 66 = .ok (.astore 8, 2) := by decide +kernel
theorem dX4_want_68 : decode cX4_want 68 = .ok (.aload 8, 2) := by decide +kernel
theorem dX4_want_70 : decode cX4_want 70 = .ok (.getfield 54, 3) := by decide +kernel
theorem dX4_want_73 : decode cX4_want 73 = .ok (.iconst 4, 1) := by decide +kernel
theorem dX4_want_74 : decode cX4_want 74 = .ok (.if_icmp .lt 11, 3) := by decide +kernel
theorem dX4_want_77 : decode cX4_want 77 = .ok (.new 57, 3) := by decide +kernel
theorem dX4_want_80 : decode cX4_want 80 = .ok (.dup, 1) := by decide +kernel
theorem dX4_want_81 : decode cX4_want 81 = .ok (.invokespecial 59, 3) := by decide +kernel
theorem dX4_want_84 : decode cX4_want 84 = .ok (.athrow, 1) := by decide +kernel
theorem dX4_want_85 : decode cX4_want 85 = .ok (.aload 8, 2) := by decide +kernel
theorem dX4_want_87 : decode cX4_want 87 = .ok (.iload_n 2, 1) := by decide +kernel
theorem dX4_want_88 : decode cX4_want 88 = .ok (.iload_n 3, 1) := by decide +kernel
theorem dX4_want_89 : decode cX4_want 89 = .ok (.lload 4, 2) := by decide +kernel
theorem dX4_want_91 : decode cX4_want 91 = .ok (.iload 6, 2) := by decide +kernel
theorem dX4_want_93 : decode cX4_want 93 = .ok (.invokevirtual 60, 3) := by decide +kernel
theorem dX4_want_96 : decode cX4_want 96 = .ok (.aload 8, 2) := by decide +kernel
theorem dX4_want_98 : decode cX4_want 98 = .ok (.getfield 54, 3) := by decide +kernel
theorem dX4_want_101 : decode cX4_want 101 = .ok (.ireturn, 1) := by decide +kernel
set_option maxRecDepth 20000 in
theorem ggX4_step_X4_oneStep : GoodIn wsX4_step wsX4_oneStep := goodIn_r _ [7, 8, 9, 10, 11, 6, 12, 13, 14, 15, 16, 17, 18, 19, 20, 21, 22, 23, 24, 25, 26, 27, 28, 29, 30, 31, 32, 33, 34, 35, 36, 37, 38, 39, 40, 41, 42, 43, 44, 45, 46, 47, 48, 49, 50, 51, 52, 53, 54, 55, 56, 57, 58, 59, 60, 61, 62, 63, 64, 65, 66, 67, 68, 69, 70, 71, 72, 73, 74, 75, 76, 77, 78, 79, 80, 81, 82, 83, 84, 85, 86, 87, 88, 89, 90, 91, 92, 93, 94, 95, 96, 97, 98, 99, 100, 101, 102, 103, 104, 105, 106, 107, 108, 109, 110, 111, 112, 113, 114, 115, 116, 117, 118, 119, 120, 121, 122, 123, 124, 125, 126, 127, 128, 129, 130, 131, 132, 133, 134, 135, 136, 137, 138, 139, 140, 141, 142, 143, 144, 145, 146, 147, 148, 149, 150, 151, 152, 153, 154, 155, 156, 157, 158, 159, 160, 161, 162, 163, 164, 165, 166, 167, 168, 169, 170, 171, 172, 173, 174, 175, 176, 177, 178, 179, 180, 181, 182, 183, 184, 185, 186, 187, 188, 189, 190, 191, 192, 193, 194, 195, 196, 197, 198, 199, 200, 201, 202, 203, 204, 205, 206, 207, 208, 209, 210, 211, 212, 213, 214, 215, 216, 217, 218, 219, 220, 221, 222, 223, 224, 225, 226, 227, 228, 229, 230, 231, 232, 233, 234, 235, 236, 237, 238, 239, 240, 241, 242, 243, 244, 245, 246, 247, 248, 249, 250, 251, 252, 253, 254, 255, 256, 257, 258, 259, 260, 261, 262, 263, 264, 265, 266, 267, 268, 269, 270] (by decide +kernel) (by decide +kernel)
set_option maxRecDepth 20000 in
theorem gX4_step_X4_oneStep : GoodIn wsX4_step (wsV RX4 64 RX4 yX4_oneStep wsX4_oneStep) := goodIn_app (goodIn_of _ (by decide +kernel)) ggX4_step_X4_oneStep
theorem dX4_step_0 : decode cX4_step 0 = .ok (.iload_n 1, 1) := by decide +kernel
theorem dX4_step_1 : decode cX4_step 1 = .ok (.iconst 1, 1) := by decide +kernel
theorem dX4_step_2 : decode cX4_step 2 = .ok (.if_icmp .lt 20, 3) := by decide +kernel
theorem dX4_step_5 : decode cX4_step 5 = .ok (.iload_n 1, 1) := by decide +kernel
theorem dX4_step_6 : decode cX4_step 6 = .ok (.sipush 200, 3) := by decide +kernel
theorem dX4_step_9 : decode cX4_step 9 = .ok (.if_icmp .gt 13, 3) := by decide +kernel
theorem dX4_step_12 : decode cX4_step 12 = .ok (.iload_n 2, 1) := by decide +kernel
theorem dX4_step_13 : decode cX4_step 13 = .ok (.ifCond .lt 9, 3) := by decide +kernel
theorem dX4_step_16 : decode cX4_step 16 = .ok (.iload_n 2, 1) := by decide +kernel
theorem dX4_step_17 : decode cX4_step 17 = .ok (.bipush 15, 2) := by decide +kernel
theorem dX4_step_19 : decode cX4_step 19 = .ok (.if_icmp .le 11, 3) := by decide +kernel
theorem dX4_step_22 : decode cX4_step 22 = .ok (.new 51, 3) := by decide +kernel
theorem dX4_step_25 : decode cX4_step 25 = .ok (.dup, 1) := by decide +kernel
theorem dX4_step_26 : decode cX4_step 26 = .ok (.invokespecial 53, 3) := by decide +kernel
theorem dX4_step_29 : decode cX4_step 29 = .ok (.athrow, 1) := by decide +kernel
theorem dX4_step_30 : decode cX4_step 30 = .ok (.aload_n 0, 1) := by decide +kernel
theorem dX4_step_31 : decode cX4_step 31 = .ok (.iload_n 2, 1) := by decide +kernel
theorem dX4_step_32 : decode cX4_step 32 = .ok (.invokevirtual 64, 3) := by decide +kernel
theorem dX4_step_35 : decode cX4_step 35 = .ok (.istore_n 3, 1) := by decide +kernel
theorem dX4_step_36 : decode cX4_step 36 = .ok (.iconst 1, 1) := by decide +kernel
theorem dX4_step_37 : decode cX4_step 37 = .ok (.istore 4, 2) := by decide +kernel
theorem dX4_step_39 : decode cX4_step 39 = .ok (.iload 4, 2) := by decide +kernel
theorem dX4_step_41 : decode cX4_step 41 = .ok (.iload_n 1, 1) := by decide +kernel
theorem dX4_step_42 : decode cX4_step 42 = .ok (.if_icmp .ge 15, 3) := by decide +kernel
theorem dX4_step_45 : decode cX4_step 45 = .ok (.aload_n 0, 1) := by decide +kernel
theorem dX4_step_46 : decode cX4_step 46 = .ok (.iconst 0, 1) := by decide +kernel
theorem dX4_step_47 : decode cX4_step 47 = .ok (.invokevirtual 64, 3) := by decide +kernel
theorem dX4_step_50 : decode cX4_step 50 = .ok (.istore_n 3, 1) := by decide +kernel
theorem dX4_step_51 : decode cX4_step 51 = .ok (.iinc 4 1, 3) := by decide +kernel
theorem dX4_step_54 : decode cX4_step 54 = .ok (.goto (-15), 3) := by decide +kernel
theorem dX4_step_57 : decode cX4_step 57 = .ok (.iload_n 3, 1) := by decide +kernel
theorem dX4_step_58 : decode cX4_step 58 = .ok (.ireturn, 1) := by decide +kernel
set_option maxRecDepth 20000 in
theorem ggX4_join_X4_isNode : GoodIn wsX4_join wsX4_isNode := goodIn_r _ [8] (by decide +kernel) (by decide +kernel)
set_option maxRecDepth 20000 in
theorem gX4_join_X4_isNode : GoodIn wsX4_join (va_wsS RX4 44 yX4_isNode wsX4_isNode) := goodIn_app (goodIn_of _ (by decide +kernel)) ggX4_join_X4_isNode
set_option maxRecDepth 20000 in
theorem ggX4_join_X2_switchOn : GoodIn wsX4_join wsX2_switchOn := goodIn_r _ [13, 14, 15, 16, 24, 25, 26, 27, 28, 29, 30, 31, 32, 33, 34, 35, 36, 37, 38] (by decide +kernel) (by decide +kernel)
set_option maxRecDepth 20000 in
theorem gX4_join_X2_switchOn : GoodIn wsX4_join (wsV RX4 72 RX2 yX2_switchOn wsX2_switchOn) := goodIn_app (goodIn_of _ (by decide +kernel)) ggX4_join_X2_switchOn
theorem dX4_join_0 : decode cX4_join 0 = .ok (.iload_n 1, 1) := by decide +kernel
theorem dX4_join_1 : decode cX4_join 1 = .ok (.invokestatic 44, 3) := by decide +kernel
theorem dX4_join_4 : decode cX4_join 4 = .ok (.ifCond .ne 11, 3) := by decide +kernel
theorem dX4_join_7 : decode cX4_join 7 = .ok (.new 48, 3) := by decide +kernel
theorem dX4_join_10 : decode cX4_join 10 = .ok (.dup, 1) := by decide +kernel
theorem dX4_join_11 : decode cX4_join 11 = .ok (.invokespecial 50, 3) := by decide +kernel
theorem dX4_join_14 : decode cX4_join 14 = .ok (.athrow, 1) := by decide +kernel
theorem dX4_join_15 : decode cX4_join 15 = .ok (.aload_n 0, 1) := by decide +kernel
theorem dX4_join_16 : decode cX4_join 16 = .ok (.getfield 11, 3) := by decide +kernel
theorem dX4_join_19 : decode cX4_join 19 = .ok (.iload_n 1, 1) := by decide +kernel
theorem dX4_join_20 : decode cX4_join 20 = .ok (.aaload, 1) := by decide +kernel
theorem dX4_join_21 : decode cX4_join 21 = .ok (.astore_n 2, 1) := by decide +kernel
theorem dX4_join_22 : decode cX4_join 22 = .ok (.aload_n 2, 1) := by decide +kernel
theorem dX4_join_23 : decode cX4_join 23 = .ok (.getfield 68, 3) := by decide +kernel
theorem dX4_join_26 : decode cX4_join 26 = .ok (.ifCond .eq 5, 3) := by decide +kernel
theorem dX4_join_29 : decode cX4_join 29 = .ok (.iconst 0, 1) := by decide +kernel
theorem dX4_join_30 : decode cX4_join 30 = .ok (.ireturn, 1) := by decide +kernel
theorem dX4_join_31 : decode cX4_join 31 = .ok (.aload_n 2, 1) := by decide +kernel
theorem dX4_join_32 : decode cX4_join 32 = .ok (.invokevirtual 72, 3) := by decide +kernel
theorem dX4_join_35 : decode cX4_join 35 = .ok (.iconst 1, 1) := by decide +kernel
theorem dX4_join_36 : decode cX4_join 36 = .ok (.ireturn, 1) := by decide +kernel
theorem dX4_wire_0 : decode cX4_wire 0 = .ok (.aload_n 0, 1) := by decide +kernel
theorem dX4_wire_1 : decode cX4_wire 1 = .ok (.getfield 15, 3) := by decide +kernel
theorem dX4_wire_4 : decode cX4_wire 4 = .ok (.ireturn, 1) := by decide +kernel
set_option maxRecDepth 20000 in
theorem ggX4_node_X4_isNode : GoodIn wsX4_node wsX4_isNode := goodIn_r _ [15] (by decide +kernel) (by decide +kernel)
set_option maxRecDepth 20000 in
theorem gX4_node_X4_isNode : GoodIn wsX4_node (va_wsS RX4 44 yX4_isNode wsX4_isNode) := goodIn_app (goodIn_of _ (by decide +kernel)) ggX4_node_X4_isNode
theorem dX4_node_0 : decode cX4_node 0 = .ok (.iload_n 1, 1) := by decide +kernel
theorem dX4_node_1 : decode cX4_node 1 = .ok (.invokestatic 44, 3) := by decide +kernel
theorem dX4_node_4 : decode cX4_node 4 = .ok (.ifCond .ne 11, 3) := by decide +kernel
theorem dX4_node_7 : decode cX4_node 7 = .ok (.new 48, 3) := by decide +kernel
theorem dX4_node_10 : decode cX4_node 10 = .ok (.dup, 1) := by decide +kernel
theorem dX4_node_11 : decode cX4_node 11 = .ok (.invokespecial 50, 3) := by decide +kernel
theorem dX4_node_14 : decode cX4_node 14 = .ok (.athrow, 1) := by decide +kernel
theorem dX4_node_15 : decode cX4_node 15 = .ok (.aload_n 0, 1) := by decide +kernel
theorem dX4_node_16 : decode cX4_node 16 = .ok (.getfield 11, 3) := by decide +kernel
theorem dX4_node_19 : decode cX4_node 19 = .ok (.iload_n 1, 1) := by decide +kernel
theorem dX4_node_20 : decode cX4_node 20 = .ok (.aaload, 1) := by decide +kernel
theorem dX4_node_21 : decode cX4_node 21 = .ok (.astore_n 3, 1) := by decide +kernel
theorem dX4_node_22 : decode cX4_node 22 = .ok (.iload_n 2, 1) := by decide +kernel
theorem dX4_node_23 : decode cX4_node 23 = .ok (.tableswitch 87 0 6 #[41, 57, 62, 67, 72, 77, 82], 41) := by decide +kernel
theorem dX4_node_64 : decode cX4_node 64 = .ok (.aload_n 3, 1) := by decide +kernel
theorem dX4_node_65 : decode cX4_node 65 = .ok (.getfield 68, 3) := by decide +kernel
theorem dX4_node_68 : decode cX4_node 68 = .ok (.ifCond .eq 10, 3) := by decide +kernel
theorem dX4_node_71 : decode cX4_node 71 = .ok (.aload_n 3, 1) := by decide +kernel
theorem dX4_node_72 : decode cX4_node 72 = .ok (.getfield 75, 3) := by decide +kernel
theorem dX4_node_75 : decode cX4_node 75 = .ok (.goto 4, 3) := by decide +kernel
theorem dX4_node_78 : decode cX4_node 78 = .ok (.iconst 0, 1) := by decide +kernel
theorem dX4_node_79 : decode cX4_node 79 = .ok (.ireturn, 1) := by decide +kernel
theorem dX4_node_80 : decode cX4_node 80 = .ok (.aload_n 3, 1) := by decide +kernel
theorem dX4_node_81 : decode cX4_node 81 = .ok (.getfield 78, 3) := by decide +kernel
theorem dX4_node_84 : decode cX4_node 84 = .ok (.ireturn, 1) := by decide +kernel
theorem dX4_node_85 : decode cX4_node 85 = .ok (.aload_n 3, 1) := by decide +kernel
theorem dX4_node_86 : decode cX4_node 86 = .ok (.getfield 81, 3) := by decide +kernel
theorem dX4_node_89 : decode cX4_node 89 = .ok (.ireturn, 1) := by decide +kernel
theorem dX4_node_90 : decode cX4_node 90 = .ok (.aload_n 3, 1) := by decide +kernel
theorem dX4_node_91 : decode cX4_node 91 = .ok (.getfield 54, 3) := by decide +kernel
theorem dX4_node_94 : decode cX4_node 94 = .ok (.ireturn, 1) := by decide +kernel
theorem dX4_node_95 : decode cX4_node 95 = .ok (.aload_n 3, 1) := by decide +kernel
theorem dX4_node_96 : decode cX4_node 96 = .ok (.getfield 84, 3) := by decide +kernel
theorem dX4_node_99 : decode cX4_node 99 = .ok (.ireturn, 1) := by decide +kernel
theorem dX4_node_100 : decode cX4_node 100 = .ok (.aload_n 3, 1) := by decide +kernel
theorem dX4_node_101 : decode cX4_node 101 = .ok (.getfield 87, 3) := by decide +kernel
theorem dX4_node_104 : decode cX4_node 104 = .ok (.ireturn, 1) := by decide +kernel
theorem dX4_node_105 : decode cX4_node 105 = .ok (.aload_n 3, 1) := by decide +kernel
theorem dX4_node_106 : decode cX4_node 106 = .ok (.getfield 90, 3) := by decide +kernel
theorem dX4_node_109 : decode cX4_node 109 = .ok (.ireturn, 1) := by decide +kernel
theorem dX4_node_110 : decode cX4_node 110 = .ok (.new 48, 3) := by decide +kernel
theorem dX4_node_113 : decode cX4_node 113 = .ok (.dup, 1) := by decide +kernel
theorem dX4_node_114 : decode cX4_node 114 = .ok (.invokespecial 50, 3) := by decide +kernel
theorem dX4_node_117 : decode cX4_node 117 = .ok (.athrow, 1) := by decide +kernel
set_option maxRecDepth 20000 in
theorem ggX4_received_X4_isNode : GoodIn wsX4_received wsX4_isNode := goodIn_r _ [15] (by decide +kernel) (by decide +kernel)
set_option maxRecDepth 20000 in
theorem gX4_received_X4_isNode : GoodIn wsX4_received (va_wsS RX4 44 yX4_isNode wsX4_isNode) := goodIn_app (goodIn_of _ (by decide +kernel)) ggX4_received_X4_isNode
theorem dX4_received_0 : decode cX4_received 0 = .ok (.iload_n 1, 1) := by decide +kernel
theorem dX4_received_1 : decode cX4_received 1 = .ok (.invokestatic 44, 3) := by decide +kernel
theorem dX4_received_4 : decode cX4_received 4 = .ok (.ifCond .eq 12, 3) := by decide +kernel
theorem dX4_received_7 : decode cX4_received 7 = .ok (.iload_n 2, 1) := by decide +kernel
theorem dX4_received_8 : decode cX4_received 8 = .ok (.ifCond .lt 8, 3) := by decide +kernel
theorem dX4_received_11 : decode cX4_received 11 = .ok (.iload_n 2, 1) := by decide +kernel
theorem dX4_received_12 : decode cX4_received 12 = .ok (.iconst 3, 1) := by decide +kernel
theorem dX4_received_13 : decode cX4_received 13 = .ok (.if_icmp .le 11, 3) := by decide +kernel
theorem dX4_received_16 : decode cX4_received 16 = .ok (.new 48, 3) := by decide +kernel
theorem dX4_received_19 : decode cX4_received 19 = .ok (.dup, 1) := by decide +kernel
theorem dX4_received_20 : decode cX4_received 20 = .ok (.invokespecial 50, 3) := by decide +kernel
theorem dX4_received_23 : decode cX4_received 23 = .ok (.athrow, 1) := by decide +kernel
theorem dX4_received_24 : decode cX4_received 24 = .ok (.aload_n 0, 1) := by decide +kernel
theorem dX4_received_25 : decode cX4_received 25 = .ok (.getfield 11, 3) := by decide +kernel
theorem dX4_received_28 : decode cX4_received 28 = .ok (.iload_n 1, 1) := by decide +kernel
theorem dX4_received_29 : decode cX4_received 29 = .ok (.aaload, 1) := by decide +kernel
theorem dX4_received_30 : decode cX4_received 30 = .ok (.astore_n 3, 1) := by decide +kernel
theorem dX4_received_31 : decode cX4_received 31 = .ok (.aload_n 3, 1) := by decide +kernel
theorem dX4_received_32 : decode cX4_received 32 = .ok (.getfield 87, 3) := by decide +kernel
theorem dX4_received_35 : decode cX4_received 35 = .ok (.ifCond .ne 11, 3) := by decide +kernel
theorem dX4_received_38 : decode cX4_received 38 = .ok (.new 93, 3) := by decide +kernel
theorem dX4_received_41 : decode cX4_received 41 = .ok (.dup, 1) := by decide +kernel
theorem dX4_received_42 : decode cX4_received 42 = .ok (.invokespecial 95, 3) := by decide +kernel
theorem dX4_received_45 : decode cX4_received 45 = .ok (.athrow, 1) := by decide +kernel
theorem dX4_received_46 : decode cX4_received 46 = .ok (.aload_n 3, 1) := by decide +kernel
theorem dX4_received_47 : decode cX4_received 47 = .ok (.getfield 96, 3) := by decide +kernel
theorem dX4_received_50 : decode cX4_received 50 = .ok (.astore 4, 2) := by decide +kernel
theorem dX4_received_52 : decode cX4_received 52 = .ok (.iload_n 2, 1) := by decide +kernel
theorem dX4_received_53 : decode cX4_received 53 = .ok (.tableswitch 55 0 2 #[27, 34, 48], 27) := by decide +kernel
theorem dX4_received_80 : decode cX4_received 80 = .ok (.aload 4, 2) := by decide +kernel
theorem dX4_received_82 : decode cX4_received 82 = .ok (.getfield 100, 3) := by decide +kernel
theorem dX4_received_85 : decode cX4_received 85 = .ok (.i2l, 1) := by decide +kernel
theorem dX4_received_86 : decode cX4_received 86 = .ok (.lreturn, 1) := by decide +kernel
theorem dX4_received_87 : decode cX4_received 87 = .ok (.aload 4, 2) := by decide +kernel
theorem dX4_received_89 : decode cX4_received 89 = .ok (.getfield 105, 3) := by decide +kernel
theorem dX4_received_92 : decode cX4_received 92 = .ok (.ifCond .eq 7, 3) := by decide +kernel
theorem dX4_received_95 : decode cX4_received 95 = .ok (.lconst 1, 1) := by decide +kernel
theorem dX4_received_96 : decode cX4_received 96 = .ok (.goto 4, 3) := by decide +kernel
theorem dX4_received_99 : decode cX4_received 99 = .ok (.lconst 0, 1) := by decide +kernel
theorem dX4_received_100 : decode cX4_received 100 = .ok (.lreturn, 1) := by decide +kernel
theorem dX4_received_101 : decode cX4_received 101 = .ok (.aload 4, 2) := by decide +kernel
theorem dX4_received_103 : decode cX4_received 103 = .ok (.getfield 108, 3) := by decide +kernel
theorem dX4_received_106 : decode cX4_received 106 = .ok (.i2l, 1) := by decide +kernel
theorem dX4_received_107 : decode cX4_received 107 = .ok (.lreturn, 1) := by decide +kernel
theorem dX4_received_108 : decode cX4_received 108 = .ok (.aload 4, 2) := by decide +kernel
theorem dX4_received_110 : decode cX4_received 110 = .ok (.getfield 111, 3) := by decide +kernel
theorem dX4_received_113 : decode cX4_received 113 = .ok (.lreturn, 1) := by decide +kernel
set_option maxRecDepth 20000 in
theorem ggX4_tape_X4_isNode : GoodIn wsX4_tape wsX4_isNode := goodIn_r _ [14] (by decide +kernel) (by decide +kernel)
set_option maxRecDepth 20000 in
theorem gX4_tape_X4_isNode : GoodIn wsX4_tape (va_wsS RX4 44 yX4_isNode wsX4_isNode) := goodIn_app (goodIn_of _ (by decide +kernel)) ggX4_tape_X4_isNode
set_option maxRecDepth 20000 in
theorem ggX4_tape_X2_offered : GoodIn wsX4_tape wsX2_offered := goodIn_r _ [19, 20, 21, 22, 23, 24, 25, 26, 27, 28, 29, 30, 74, 75, 76, 77, 78, 79, 80, 81, 82, 83, 84, 85, 86, 87, 88, 97, 98, 99, 100] (by decide +kernel) (by decide +kernel)
set_option maxRecDepth 20000 in
theorem gX4_tape_X2_offered : GoodIn wsX4_tape (wsV RX4 115 RX2 yX2_offered wsX2_offered) := goodIn_app (goodIn_of _ (by decide +kernel)) ggX4_tape_X2_offered
set_option maxRecDepth 20000 in
theorem ggX4_tape_X1_write : GoodIn wsX4_tape wsX1_write := goodIn_r _ [35, 36, 37, 38, 39, 40, 41, 42, 43, 44, 45, 46, 34, 47, 48, 49, 50, 51, 52, 53, 54, 55, 56, 57, 58, 59, 60, 61, 13, 62, 97, 98, 99, 100, 89, 90, 91, 92, 93, 94, 95, 96] (by decide +kernel) (by decide +kernel)
set_option maxRecDepth 20000 in
theorem gX4_tape_X1_write : GoodIn wsX4_tape (wsV RX4 123 RX1 yX1_write wsX1_write) := goodIn_app (goodIn_of _ (by decide +kernel)) ggX4_tape_X1_write
set_option maxRecDepth 20000 in
theorem ggX4_tape_X1_bitAt : GoodIn wsX4_tape wsX1_bitAt := goodIn_r _ [66, 48, 59, 89, 90, 91, 92, 93, 94, 95, 96] (by decide +kernel) (by decide +kernel)
set_option maxRecDepth 20000 in
theorem gX4_tape_X1_bitAt : GoodIn wsX4_tape (wsV RX4 130 RX1 yX1_bitAt wsX1_bitAt) := goodIn_app (goodIn_of _ (by decide +kernel)) ggX4_tape_X1_bitAt
theorem dX4_tape_0 : decode cX4_tape 0 = .ok (.iload_n 1, 1) := by decide +kernel
theorem dX4_tape_1 : decode cX4_tape 1 = .ok (.invokestatic 44, 3) := by decide +kernel
theorem dX4_tape_4 : decode cX4_tape 4 = .ok (.ifCond .ne 11, 3) := by decide +kernel
theorem dX4_tape_7 : decode cX4_tape 7 = .ok (.new 48, 3) := by decide +kernel
theorem dX4_tape_10 : decode cX4_tape 10 = .ok (.dup, 1) := by decide +kernel
theorem dX4_tape_11 : decode cX4_tape 11 = .ok (.invokespecial 50, 3) := by decide +kernel
theorem dX4_tape_14 : decode cX4_tape 14 = .ok (.athrow, 1) := by decide +kernel
theorem dX4_tape_15 : decode cX4_tape 15 = .ok (.aload_n 0, 1) := by decide +kernel
theorem dX4_tape_16 : decode cX4_tape 16 = .ok (.getfield 11, 3) := by decide +kernel
theorem dX4_tape_19 : decode cX4_tape 19 = .ok (.iload_n 1, 1) := by decide +kernel
theorem dX4_tape_20 : decode cX4_tape 20 = .ok (.aaload, 1) := by decide +kernel
theorem dX4_tape_21 : decode cX4_tape 21 = .ok (.astore_n 2, 1) := by decide +kernel
theorem dX4_tape_22 : decode cX4_tape 22 = .ok (.aload_n 2, 1) := by decide +kernel
theorem dX4_tape_23 : decode cX4_tape 23 = .ok (.invokevirtual 115, 3) := by decide +kernel
theorem dX4_tape_26 : decode cX4_tape 26 = .ok (.istore_n 3, 1) := by decide +kernel
theorem dX4_tape_27 : decode cX4_tape 27 = .ok (.iload_n 3, 1) := by decide +kernel
theorem dX4_tape_28 : decode cX4_tape 28 = .ok (.iconst (-1), 1) := by decide +kernel
theorem dX4_tape_29 : decode cX4_tape 29 = .ok (.if_icmp .ne 11, 3) := by decide +kernel
theorem dX4_tape_32 : decode cX4_tape 32 = .ok (.new 93, 3) := by decide +kernel
theorem dX4_tape_35 : decode cX4_tape 35 = .ok (.dup, 1) := by decide +kernel
theorem dX4_tape_36 : decode cX4_tape 36 = .ok (.invokespecial 95, 3) := by decide +kernel
theorem dX4_tape_39 : decode cX4_tape 39 = .ok (.athrow, 1) := by decide +kernel
theorem dX4_tape_40 : decode cX4_tape 40 = .ok (.aload_n 0, 1) := by decide +kernel
theorem dX4_tape_41 : decode cX4_tape 41 = .ok (.getfield 32, 3) := by decide +kernel
theorem dX4_tape_44 : decode cX4_tape 44 = .ok (.aload_n 2, 1) := by decide +kernel
theorem dX4_tape_45 : decode cX4_tape 45 = .ok (.getfield 119, 3) := by decide +kernel
theorem dX4_tape_48 : decode cX4_tape 48 = .ok (.iload_n 3, 1) := by decide +kernel
theorem dX4_tape_49 : decode cX4_tape 49 = .ok (.aaload, 1) := by decide +kernel
theorem dX4_tape_50 : decode cX4_tape 50 = .ok (.invokevirtual 123, 3) := by decide +kernel
theorem dX4_tape_53 : decode cX4_tape 53 = .ok (.aload_n 0, 1) := by decide +kernel
theorem dX4_tape_54 : decode cX4_tape 54 = .ok (.aload_n 0, 1) := by decide +kernel
theorem dX4_tape_55 : decode cX4_tape 55 = .ok (.getfield 32, 3) := by decide +kernel
theorem dX4_tape_58 : decode cX4_tape 58 = .ok (.getfield 127, 3) := by decide +kernel
theorem dX4_tape_61 : decode cX4_tape 61 = .ok (.putfield 26, 3) := by decide +kernel
theorem dX4_tape_64 : decode cX4_tape 64 = .ok (.iconst 0, 1) := by decide +kernel
theorem dX4_tape_65 : decode cX4_tape 65 = .ok (.istore 4, 2) := by decide +kernel
theorem dX4_tape_67 : decode cX4_tape 67 = .ok (.iload 4, 2) := by decide +kernel
theorem dX4_tape_69 : decode cX4_tape 69 = .ok (.aload_n 0, 1) := by decide +kernel
theorem dX4_tape_70 : decode cX4_tape 70 = .ok (.getfield 26, 3) := by decide +kernel
theorem dX4_tape_73 : decode cX4_tape 73 = .ok (.if_icmp .ge 25, 3) := by decide +kernel
theorem dX4_tape_76 : decode cX4_tape 76 = .ok (.aload_n 0, 1) := by decide +kernel
theorem dX4_tape_77 : decode cX4_tape 77 = .ok (.getfield 22, 3) := by decide +kernel
theorem dX4_tape_80 : decode cX4_tape 80 = .ok (.iload 4, 2) := by decide +kernel
theorem dX4_tape_82 : decode cX4_tape 82 = .ok (.aload_n 0, 1) := by decide +kernel
theorem dX4_tape_83 : decode cX4_tape 83 = .ok (.getfield 32, 3) := by decide +kernel
theorem dX4_tape_86 : decode cX4_tape 86 = .ok (.iload 4, 2) := by decide +kernel
theorem dX4_tape_88 : decode cX4_tape 88 = .ok (.invokevirtual 130, 3) := by decide +kernel
theorem dX4_tape_91 : decode cX4_tape 91 = .ok (.iastore, 1) := by decide +kernel
theorem dX4_tape_92 : decode cX4_tape 92 = .ok (.iinc 4 1, 3) := by decide +kernel
theorem dX4_tape_95 : decode cX4_tape 95 = .ok (.goto (-28), 3) := by decide +kernel
theorem dX4_tape_98 : decode cX4_tape 98 = .ok (.aload_n 0, 1) := by decide +kernel
theorem dX4_tape_99 : decode cX4_tape 99 = .ok (.getfield 26, 3) := by decide +kernel
theorem dX4_tape_102 : decode cX4_tape 102 = .ok (.ireturn, 1) := by decide +kernel
theorem dX4_put_0 : decode cX4_put 0 = .ok (.iload_n 3, 1) := by decide +kernel
theorem dX4_put_1 : decode cX4_put 1 = .ok (.iconst 1, 1) := by decide +kernel
theorem dX4_put_2 : decode cX4_put 2 = .ok (.if_icmp .lt 21, 3) := by decide +kernel
theorem dX4_put_5 : decode cX4_put 5 = .ok (.iload_n 3, 1) := by decide +kernel
theorem dX4_put_6 : decode cX4_put 6 = .ok (.bipush 64, 2) := by decide +kernel
theorem dX4_put_8 : decode cX4_put 8 = .ok (.if_icmp .gt 15, 3) := by decide +kernel
theorem dX4_put_11 : decode cX4_put 11 = .ok (.iload_n 3, 1) := by decide +kernel
theorem dX4_put_12 : decode cX4_put 12 = .ok (.sipush 200, 3) := by decide +kernel
theorem dX4_put_15 : decode cX4_put 15 = .ok (.aload_n 0, 1) := by decide +kernel
theorem dX4_put_16 : decode cX4_put 16 = .ok (.getfield 26, 3) := by decide +kernel
theorem dX4_put_19 : decode cX4_put 19 = .ok (.isub, 1) := by decide +kernel
theorem dX4_put_20 : decode cX4_put 20 = .ok (.if_icmp .le 5, 3) := by decide +kernel
theorem dX4_put_23 : decode cX4_put 23 = .ok (.iconst 0, 1) := by decide +kernel
theorem dX4_put_24 : decode cX4_put 24 = .ok (.ireturn, 1) := by decide +kernel
theorem dX4_put_25 : decode cX4_put 25 = .ok (.iconst 0, 1) := by decide +kernel
theorem dX4_put_26 : decode cX4_put 26 = .ok (.istore 4, 2) := by decide +kernel
theorem dX4_put_28 : decode cX4_put 28 = .ok (.iload 4, 2) := by decide +kernel
theorem dX4_put_30 : decode cX4_put 30 = .ok (.iload_n 3, 1) := by decide +kernel
theorem dX4_put_31 : decode cX4_put 31 = .ok (.if_icmp .ge 35, 3) := by decide +kernel
theorem dX4_put_34 : decode cX4_put 34 = .ok (.aload_n 0, 1) := by decide +kernel
theorem dX4_put_35 : decode cX4_put 35 = .ok (.getfield 22, 3) := by decide +kernel
theorem dX4_put_38 : decode cX4_put 38 = .ok (.aload_n 0, 1) := by decide +kernel
theorem dX4_put_39 : decode cX4_put 39 = .ok (.getfield 26, 3) := by decide +kernel
theorem dX4_put_42 : decode cX4_put 42 = .ok (.lload_n 1, 1) := by decide +kernel
theorem dX4_put_43 : decode cX4_put 43 = .ok (.iload 4, 2) := by decide +kernel
theorem dX4_put_45 : decode cX4_put 45 = .ok (.lushr, 1) := by decide +kernel
theorem dX4_put_46 : decode cX4_put 46 = .ok (.lconst 1, 1) := by decide +kernel
theorem dX4_put_47 : decode cX4_put 47 = .ok (.land, 1) := by decide +kernel
theorem dX4_put_48 : decode cX4_put 48 = .ok (.l2i, 1) := by decide +kernel
theorem dX4_put_49 : decode cX4_put 49 = .ok (.iastore, 1) := by decide +kernel
theorem dX4_put_50 : decode cX4_put 50 = .ok (.aload_n 0, 1) := by decide +kernel
theorem dX4_put_51 : decode cX4_put 51 = .ok (.dup, 1) := by decide +kernel
theorem dX4_put_52 : decode cX4_put 52 = .ok (.getfield 26, 3) := by decide +kernel
theorem dX4_put_55 : decode cX4_put 55 = .ok (.iconst 1, 1) := by decide +kernel
theorem dX4_put_56 : decode cX4_put 56 = .ok (.iadd, 1) := by decide +kernel
theorem dX4_put_57 : decode cX4_put 57 = .ok (.putfield 26, 3) := by decide +kernel
theorem dX4_put_60 : decode cX4_put 60 = .ok (.iinc 4 1, 3) := by decide +kernel
theorem dX4_put_63 : decode cX4_put 63 = .ok (.goto (-35), 3) := by decide +kernel
theorem dX4_put_66 : decode cX4_put 66 = .ok (.iconst 1, 1) := by decide +kernel
theorem dX4_put_67 : decode cX4_put 67 = .ok (.ireturn, 1) := by decide +kernel
set_option maxRecDepth 20000 in
theorem ggX4_bit_X4_isOnTape : GoodIn wsX4_bit wsX4_isOnTape := goodIn_r _ [8, 9, 10, 11, 12, 13, 14, 15, 16] (by decide +kernel) (by decide +kernel)
set_option maxRecDepth 20000 in
theorem gX4_bit_X4_isOnTape : GoodIn wsX4_bit (wsV RX4 133 RX4 yX4_isOnTape wsX4_isOnTape) := goodIn_app (goodIn_of _ (by decide +kernel)) ggX4_bit_X4_isOnTape
theorem dX4_bit_0 : decode cX4_bit 0 = .ok (.aload_n 0, 1) := by decide +kernel
theorem dX4_bit_1 : decode cX4_bit 1 = .ok (.iload_n 1, 1) := by decide +kernel
theorem dX4_bit_2 : decode cX4_bit 2 = .ok (.invokevirtual 133, 3) := by decide +kernel
theorem dX4_bit_5 : decode cX4_bit 5 = .ok (.ifCond .ne 11, 3) := by decide +kernel
theorem dX4_bit_8 : decode cX4_bit 8 = .ok (.new 48, 3) := by decide +kernel
theorem dX4_bit_11 : decode cX4_bit 11 = .ok (.dup, 1) := by decide +kernel
theorem dX4_bit_12 : decode cX4_bit 12 = .ok (.invokespecial 50, 3) := by decide +kernel
theorem dX4_bit_15 : decode cX4_bit 15 = .ok (.athrow, 1) := by decide +kernel
theorem dX4_bit_16 : decode cX4_bit 16 = .ok (.aload_n 0, 1) := by decide +kernel
theorem dX4_bit_17 : decode cX4_bit 17 = .ok (.getfield 22, 3) := by decide +kernel
theorem dX4_bit_20 : decode cX4_bit 20 = .ok (.iload_n 1, 1) := by decide +kernel
theorem dX4_bit_21 : decode cX4_bit 21 = .ok (.iaload, 1) := by decide +kernel
theorem dX4_bit_22 : decode cX4_bit 22 = .ok (.ireturn, 1) := by decide +kernel
set_option maxRecDepth 20000 in
theorem ggX4_flip_X4_isOnTape : GoodIn wsX4_flip wsX4_isOnTape := goodIn_r _ [8, 9, 10, 11, 12, 13, 14, 15, 16] (by decide +kernel) (by decide +kernel)
set_option maxRecDepth 20000 in
theorem gX4_flip_X4_isOnTape : GoodIn wsX4_flip (wsV RX4 133 RX4 yX4_isOnTape wsX4_isOnTape) := goodIn_app (goodIn_of _ (by decide +kernel)) ggX4_flip_X4_isOnTape
theorem dX4_flip_0 : decode cX4_flip 0 = .ok (.aload_n 0, 1) := by decide +kernel
theorem dX4_flip_1 : decode cX4_flip 1 = .ok (.iload_n 1, 1) := by decide +kernel
theorem dX4_flip_2 : decode cX4_flip 2 = .ok (.invokevirtual 133, 3) := by decide +kernel
theorem dX4_flip_5 : decode cX4_flip 5 = .ok (.ifCond .ne 11, 3) := by decide +kernel
theorem dX4_flip_8 : decode cX4_flip 8 = .ok (.new 48, 3) := by decide +kernel
theorem dX4_flip_11 : decode cX4_flip 11 = .ok (.dup, 1) := by decide +kernel
theorem dX4_flip_12 : decode cX4_flip 12 = .ok (.invokespecial 50, 3) := by decide +kernel
theorem dX4_flip_15 : decode cX4_flip 15 = .ok (.athrow, 1) := by decide +kernel
theorem dX4_flip_16 : decode cX4_flip 16 = .ok (.aload_n 0, 1) := by decide +kernel
theorem dX4_flip_17 : decode cX4_flip 17 = .ok (.getfield 22, 3) := by decide +kernel
theorem dX4_flip_20 : decode cX4_flip 20 = .ok (.iload_n 1, 1) := by decide +kernel
theorem dX4_flip_21 : decode cX4_flip 21 = .ok (.iconst 1, 1) := by decide +kernel
theorem dX4_flip_22 : decode cX4_flip 22 = .ok (.aload_n 0, 1) := by decide +kernel
theorem dX4_flip_23 : decode cX4_flip 23 = .ok (.getfield 22, 3) := by decide +kernel
theorem dX4_flip_26 : decode cX4_flip 26 = .ok (.iload_n 1, 1) := by decide +kernel
theorem dX4_flip_27 : decode cX4_flip 27 = .ok (.iaload, 1) := by decide +kernel
theorem dX4_flip_28 : decode cX4_flip 28 = .ok (.isub, 1) := by decide +kernel
theorem dX4_flip_29 : decode cX4_flip 29 = .ok (.iastore, 1) := by decide +kernel
theorem dX4_flip_30 : decode cX4_flip 30 = .ok (.return_, 1) := by decide +kernel
theorem dX4_wipe_0 : decode cX4_wipe 0 = .ok (.aload_n 0, 1) := by decide +kernel
theorem dX4_wipe_1 : decode cX4_wipe 1 = .ok (.getfield 26, 3) := by decide +kernel
theorem dX4_wipe_4 : decode cX4_wipe 4 = .ok (.istore_n 1, 1) := by decide +kernel
theorem dX4_wipe_5 : decode cX4_wipe 5 = .ok (.aload_n 0, 1) := by decide +kernel
theorem dX4_wipe_6 : decode cX4_wipe 6 = .ok (.iconst 0, 1) := by decide +kernel
theorem dX4_wipe_7 : decode cX4_wipe 7 = .ok (.putfield 26, 3) := by decide +kernel
theorem dX4_wipe_10 : decode cX4_wipe 10 = .ok (.iload_n 1, 1) := by decide +kernel
theorem dX4_wipe_11 : decode cX4_wipe 11 = .ok (.ireturn, 1) := by decide +kernel
set_option maxRecDepth 20000 in
theorem ggX4_read_X3_begin : GoodIn wsX4_read wsX3_begin := goodIn_r _ [8, 9, 10, 11, 12, 13, 14, 15, 16, 17, 18, 19, 20, 21, 22, 23, 24, 25, 26, 77, 78, 79, 80, 81, 82, 83, 84, 85, 86, 87, 88, 89] (by decide +kernel) (by decide +kernel)
set_option maxRecDepth 20000 in
theorem gX4_read_X3_begin : GoodIn wsX4_read (wsV RX4 136 RX3 yX3_begin wsX3_begin) := goodIn_app (goodIn_of _ (by decide +kernel)) ggX4_read_X3_begin
set_option maxRecDepth 20000 in
theorem ggX4_read_X3_isFinished : GoodIn wsX4_read wsX3_isFinished := goodIn_r _ [30, 11, 77, 78, 79, 80, 81, 82, 83, 84, 85] (by decide +kernel) (by decide +kernel)
set_option maxRecDepth 20000 in
theorem gX4_read_X3_isFinished : GoodIn wsX4_read (wsV RX4 139 RX3 yX3_isFinished wsX3_isFinished) := goodIn_app (goodIn_of _ (by decide +kernel)) ggX4_read_X3_isFinished
set_option maxRecDepth 20000 in
theorem ggX4_read_X3_take : GoodIn wsX4_read wsX3_take := goodIn_r _ [34, 10, 12, 13, 35, 36, 37, 7, 38, 17, 39, 40, 41, 42, 11, 14, 15, 43, 44, 45, 46, 16, 47, 48, 49, 50, 51, 52, 53, 9, 54, 55, 56, 57, 58, 59, 60, 61, 62, 63, 64, 65, 66, 67, 68, 69, 77, 78, 79, 80, 81, 82, 83, 84, 85, 86, 87, 88, 89] (by decide +kernel) (by decide +kernel)
set_option maxRecDepth 20000 in
theorem gX4_read_X3_take : GoodIn wsX4_read (wsV RX4 143 RX3 yX3_take wsX3_take) := goodIn_app (goodIn_of _ (by decide +kernel)) ggX4_read_X3_take
theorem dX4_read_0 : decode cX4_read 0 = .ok (.aload_n 0, 1) := by decide +kernel
theorem dX4_read_1 : decode cX4_read 1 = .ok (.getfield 39, 3) := by decide +kernel
theorem dX4_read_4 : decode cX4_read 4 = .ok (.invokevirtual 136, 3) := by decide +kernel
theorem dX4_read_7 : decode cX4_read 7 = .ok (.iconst 0, 1) := by decide +kernel
theorem dX4_read_8 : decode cX4_read 8 = .ok (.istore_n 1, 1) := by decide +kernel
theorem dX4_read_9 : decode cX4_read 9 = .ok (.iload_n 1, 1) := by decide +kernel
theorem dX4_read_10 : decode cX4_read 10 = .ok (.aload_n 0, 1) := by decide +kernel
theorem dX4_read_11 : decode cX4_read 11 = .ok (.getfield 26, 3) := by decide +kernel
theorem dX4_read_14 : decode cX4_read 14 = .ok (.if_icmp .ge 51, 3) := by decide +kernel
theorem dX4_read_17 : decode cX4_read 17 = .ok (.aload_n 0, 1) := by decide +kernel
theorem dX4_read_18 : decode cX4_read 18 = .ok (.getfield 39, 3) := by decide +kernel
theorem dX4_read_21 : decode cX4_read 21 = .ok (.invokevirtual 139, 3) := by decide +kernel
theorem dX4_read_24 : decode cX4_read 24 = .ok (.ifCond .eq 9, 3) := by decide +kernel
theorem dX4_read_27 : decode cX4_read 27 = .ok (.sipush 5000, 3) := by decide +kernel
theorem dX4_read_30 : decode cX4_read 30 = .ok (.iload_n 1, 1) := by decide +kernel
theorem dX4_read_31 : decode cX4_read 31 = .ok (.iadd, 1) := by decide +kernel
theorem dX4_read_32 : decode cX4_read 32 = .ok (.ireturn, 1) := by decide +kernel
theorem dX4_read_33 : decode cX4_read 33 = .ok (.aload_n 0, 1) := by decide +kernel
theorem dX4_read_34 : decode cX4_read 34 = .ok (.getfield 39, 3) := by decide +kernel
theorem dX4_read_37 : decode cX4_read 37 = .ok (.aload_n 0, 1) := by decide +kernel
theorem dX4_read_38 : decode cX4_read 38 = .ok (.getfield 22, 3) := by decide +kernel
theorem dX4_read_41 : decode cX4_read 41 = .ok (.iload_n 1, 1) := by decide +kernel
theorem dX4_read_42 : decode cX4_read 42 = .ok (.iaload, 1) := by decide +kernel
theorem dX4_read_43 : decode cX4_read 43 = .ok (.invokevirtual 143, 3) := by decide +kernel
theorem dX4_read_46 : decode cX4_read 46 = .ok (.istore_n 2, 1) := by decide +kernel
theorem dX4_read_47 : decode cX4_read 47 = .ok (.iload_n 2, 1) := by decide +kernel
theorem dX4_read_48 : decode cX4_read 48 = .ok (.ifCond .eq 11, 3) := by decide +kernel
theorem dX4_read_51 : decode cX4_read 51 = .ok (.sipush 1000, 3) := by decide +kernel
theorem dX4_read_54 : decode cX4_read 54 = .ok (.iload_n 2, 1) := by decide +kernel
theorem dX4_read_55 : decode cX4_read 55 = .ok (.imul, 1) := by decide +kernel
theorem dX4_read_56 : decode cX4_read 56 = .ok (.iload_n 1, 1) := by decide +kernel
theorem dX4_read_57 : decode cX4_read 57 = .ok (.iadd, 1) := by decide +kernel
theorem dX4_read_58 : decode cX4_read 58 = .ok (.ireturn, 1) := by decide +kernel
theorem dX4_read_59 : decode cX4_read 59 = .ok (.iinc 1 1, 3) := by decide +kernel
theorem dX4_read_62 : decode cX4_read 62 = .ok (.goto (-53), 3) := by decide +kernel
theorem dX4_read_65 : decode cX4_read 65 = .ok (.aload_n 0, 1) := by decide +kernel
theorem dX4_read_66 : decode cX4_read 66 = .ok (.getfield 39, 3) := by decide +kernel
theorem dX4_read_69 : decode cX4_read 69 = .ok (.invokevirtual 139, 3) := by decide +kernel
theorem dX4_read_72 : decode cX4_read 72 = .ok (.ifCond .eq 7, 3) := by decide +kernel
theorem dX4_read_75 : decode cX4_read 75 = .ok (.iconst 0, 1) := by decide +kernel
theorem dX4_read_76 : decode cX4_read 76 = .ok (.goto 11, 3) := by decide +kernel
theorem dX4_read_79 : decode cX4_read 79 = .ok (.sipush 4000, 3) := by decide +kernel
theorem dX4_read_82 : decode cX4_read 82 = .ok (.aload_n 0, 1) := by decide +kernel
theorem dX4_read_83 : decode cX4_read 83 = .ok (.getfield 26, 3) := by decide +kernel
theorem dX4_read_86 : decode cX4_read 86 = .ok (.iadd, 1) := by decide +kernel
theorem dX4_read_87 : decode cX4_read 87 = .ok (.ireturn, 1) := by decide +kernel
theorem dX4_isNode_0 : decode cX4_isNode 0 = .ok (.iload_n 0, 1) := by decide +kernel
theorem dX4_isNode_1 : decode cX4_isNode 1 = .ok (.ifCond .lt 12, 3) := by decide +kernel
theorem dX4_isNode_4 : decode cX4_isNode 4 = .ok (.iload_n 0, 1) := by decide +kernel
theorem dX4_isNode_5 : decode cX4_isNode 5 = .ok (.iconst 4, 1) := by decide +kernel
theorem dX4_isNode_6 : decode cX4_isNode 6 = .ok (.if_icmp .ge 7, 3) := by decide +kernel
theorem dX4_isNode_9 : decode cX4_isNode 9 = .ok (.iconst 1, 1) := by decide +kernel
theorem dX4_isNode_10 : decode cX4_isNode 10 = .ok (.goto 4, 3) := by decide +kernel
theorem dX4_isNode_13 : decode cX4_isNode 13 = .ok (.iconst 0, 1) := by decide +kernel
theorem dX4_isNode_14 : decode cX4_isNode 14 = .ok (.ireturn, 1) := by decide +kernel
theorem dX4_isOnTape_0 : decode cX4_isOnTape 0 = .ok (.iload_n 1, 1) := by decide +kernel
theorem dX4_isOnTape_1 : decode cX4_isOnTape 1 = .ok (.ifCond .lt 15, 3) := by decide +kernel
theorem dX4_isOnTape_4 : decode cX4_isOnTape 4 = .ok (.iload_n 1, 1) := by decide +kernel
theorem dX4_isOnTape_5 : decode cX4_isOnTape 5 = .ok (.aload_n 0, 1) := by decide +kernel
theorem dX4_isOnTape_6 : decode cX4_isOnTape 6 = .ok (.getfield 26, 3) := by decide +kernel
theorem dX4_isOnTape_9 : decode cX4_isOnTape 9 = .ok (.if_icmp .ge 7, 3) := by decide +kernel
theorem dX4_isOnTape_12 : decode cX4_isOnTape 12 = .ok (.iconst 1, 1) := by decide +kernel
theorem dX4_isOnTape_13 : decode cX4_isOnTape 13 = .ok (.goto 4, 3) := by decide +kernel
theorem dX4_isOnTape_16 : decode cX4_isOnTape 16 = .ok (.iconst 0, 1) := by decide +kernel
theorem dX4_isOnTape_17 : decode cX4_isOnTape 17 = .ok (.ireturn, 1) := by decide +kernel
set_option maxRecDepth 20000 in
theorem ggX4_oneStep_X4_brokenStep : GoodIn wsX4_oneStep wsX4_brokenStep := goodIn_r _ [6, 7, 8, 9, 10, 5, 11, 1, 222, 223, 224, 225, 226, 227, 228] (by decide +kernel) (by decide +kernel)
set_option maxRecDepth 20000 in
theorem gX4_oneStep_X4_brokenStep : GoodIn wsX4_oneStep (wsV RX4 146 RX4 yX4_brokenStep wsX4_brokenStep) := goodIn_app (goodIn_of _ (by decide +kernel)) ggX4_oneStep_X4_brokenStep
set_option maxRecDepth 20000 in
theorem ggX4_oneStep_X4_pauseStep : GoodIn wsX4_oneStep wsX4_pauseStep := goodIn_r _ [15, 7, 1, 222, 223, 224, 225, 226, 227, 228] (by decide +kernel) (by decide +kernel)
set_option maxRecDepth 20000 in
theorem gX4_oneStep_X4_pauseStep : GoodIn wsX4_oneStep (wsV RX4 149 RX4 yX4_pauseStep wsX4_pauseStep) := goodIn_app (goodIn_of _ (by decide +kernel)) ggX4_oneStep_X4_pauseStep
set_option maxRecDepth 20000 in
theorem ggX4_oneStep_X4_startSenders : GoodIn wsX4_oneStep wsX4_startSenders := goodIn_r _ [19, 20, 21, 22, 23, 24, 25, 26, 27, 28, 29, 30, 31, 32, 33, 34, 35, 36, 37, 38, 39, 40, 41, 42, 43, 44, 45, 46, 47, 48, 49, 50, 51, 52, 53, 54, 55, 56, 57, 58, 59, 60, 61, 62, 63, 64, 65, 66, 67, 68, 69, 70, 71, 72, 73, 74, 75, 76, 77, 5, 78, 79, 80, 81, 82, 83, 84, 85, 86, 87, 88, 89, 90, 91, 92, 93, 94, 95, 96, 97, 98, 222, 223, 224, 225, 226, 227, 228, 229, 230, 231, 232, 233, 234, 235, 236, 237, 238, 239, 240, 241, 242, 243, 244, 245, 246, 247, 248, 249, 250, 251, 252, 253, 254, 255, 256, 257, 258, 259, 260, 261, 262, 263, 264] (by decide +kernel) (by decide +kernel)
set_option maxRecDepth 20000 in
theorem gX4_oneStep_X4_startSenders : GoodIn wsX4_oneStep (wsV RX4 152 RX4 yX4_startSenders wsX4_startSenders) := goodIn_app (goodIn_of _ (by decide +kernel)) ggX4_oneStep_X4_startSenders
set_option maxRecDepth 20000 in
theorem ggX4_oneStep_X4_levelSent : GoodIn wsX4_oneStep wsX4_levelSent := goodIn_r _ [102, 20, 103, 104, 105, 24, 106, 27, 30, 29, 32, 107, 108, 109, 50, 110, 64, 75, 111, 112, 113, 82, 114, 86, 89, 90, 115, 116, 117, 118, 85, 92, 222, 223, 224, 225, 226, 227, 228, 229, 230, 231, 232, 233, 234, 235, 236, 237, 238, 239, 240, 241, 242, 243, 248, 249, 250, 251, 252, 253, 254, 255, 256, 257, 258, 259, 260, 261, 262, 263, 264] (by decide +kernel) (by decide +kernel)
set_option maxRecDepth 20000 in
theorem gX4_oneStep_X4_levelSent : GoodIn wsX4_oneStep (wsV RX4 155 RX4 yX4_levelSent wsX4_levelSent) := goodIn_app (goodIn_of _ (by decide +kernel)) ggX4_oneStep_X4_levelSent
set_option maxRecDepth 20000 in
theorem ggX4_oneStep_X4_someFindFaults : GoodIn wsX4_oneStep wsX4_someFindFaults := goodIn_r _ [122, 20, 123, 124, 125, 126, 24, 127, 128, 26, 27, 32, 79, 80, 81, 82, 83, 84, 85, 86, 87, 88, 89, 90, 91, 92, 93, 94, 95, 41, 96, 43, 44, 97, 98, 129, 130, 131, 132, 30, 29, 133, 134, 135, 50, 136, 64, 107, 108, 109, 110, 75, 137, 138, 139, 140, 76, 55, 141, 142, 143, 144, 115, 116, 117, 118, 145, 146, 147, 148, 149, 150, 151, 152, 77, 5, 78, 153, 154, 155, 156, 157, 158, 159, 160, 161, 162, 163, 164, 165, 166, 167, 168, 169, 170, 171, 172, 222, 223, 224, 225, 226, 227, 228, 229, 230, 231, 232, 233, 234, 235, 236, 237, 238, 239, 240, 241, 242, 243, 256, 257, 258, 259, 260, 261, 262, 263, 264, 244, 245, 246, 247, 248, 249, 250, 251, 252, 253, 254, 255] (by decide +kernel) (by decide +kernel)
set_option maxRecDepth 20000 in
theorem gX4_oneStep_X4_someFindFaults : GoodIn wsX4_oneStep (wsV RX4 158 RX4 yX4_someFindFaults wsX4_someFindFaults) := goodIn_app (goodIn_of _ (by decide +kernel)) ggX4_oneStep_X4_someFindFaults
set_option maxRecDepth 20000 in
theorem ggX4_oneStep_X4_breakOff : GoodIn wsX4_oneStep wsX4_breakOff := goodIn_r _ [176, 20, 1, 7, 177, 178, 179, 24, 180, 128, 181, 27, 182, 183, 26, 222, 223, 224, 225, 226, 227, 228, 229, 230, 231, 232, 233, 234, 235, 236, 237, 238, 239, 240, 241, 242, 243] (by decide +kernel) (by decide +kernel)
set_option maxRecDepth 20000 in
theorem gX4_oneStep_X4_breakOff : GoodIn wsX4_oneStep (wsV RX4 162 RX4 yX4_breakOff wsX4_breakOff) := goodIn_app (goodIn_of _ (by decide +kernel)) ggX4_oneStep_X4_breakOff
set_option maxRecDepth 20000 in
theorem ggX4_oneStep_X4_goOn : GoodIn wsX4_oneStep wsX4_goOn := goodIn_r _ [187, 20, 188, 1, 189, 190, 191, 24, 192, 27, 29, 30, 193, 32, 194, 195, 196, 197, 198, 182, 199, 200, 166, 201, 28, 202, 203, 204, 205, 37, 31, 206, 207, 208, 82, 209, 86, 210, 211, 212, 213, 214, 183, 215, 216, 217, 218, 219, 220, 221, 94, 95, 41, 96, 43, 44, 97, 98, 8, 9, 10, 5, 11, 7, 222, 223, 224, 225, 226, 227, 228, 229, 230, 231, 232, 233, 234, 235, 236, 237, 238, 239, 240, 241, 242, 243, 248, 249, 250, 251, 252, 253, 254, 255, 256, 257, 258, 259, 260, 261, 262, 263, 264, 244, 245, 246, 247] (by decide +kernel) (by decide +kernel)
set_option maxRecDepth 20000 in
theorem gX4_oneStep_X4_goOn : GoodIn wsX4_oneStep (wsV RX4 165 RX4 yX4_goOn wsX4_goOn) := goodIn_app (goodIn_of _ (by decide +kernel)) ggX4_oneStep_X4_goOn
theorem dX4_oneStep_0 : decode cX4_oneStep 0 = .ok (.aload_n 0, 1) := by decide +kernel
theorem dX4_oneStep_1 : decode cX4_oneStep 1 = .ok (.getfield 15, 3) := by decide +kernel
theorem dX4_oneStep_4 : decode cX4_oneStep 4 = .ok (.iconst 2, 1) := by decide +kernel
theorem dX4_oneStep_5 : decode cX4_oneStep 5 = .ok (.if_icmp .ne 8, 3) := by decide +kernel
theorem dX4_oneStep_8 : decode cX4_oneStep 8 = .ok (.aload_n 0, 1) := by decide +kernel
theorem dX4_oneStep_9 : decode cX4_oneStep 9 = .ok (.invokevirtual 146, 3) := by decide +kernel
theorem dX4_oneStep_12 : decode cX4_oneStep 12 = .ok (.ireturn, 1) := by decide +kernel
theorem dX4_oneStep_13 : decode cX4_oneStep 13 = .ok (.aload_n 0, 1) := by decide +kernel
theorem dX4_oneStep_14 : decode cX4_oneStep 14 = .ok (.getfield 15, 3) := by decide +kernel
theorem dX4_oneStep_17 : decode cX4_oneStep 17 = .ok (.iconst 3, 1) := by decide +kernel
theorem dX4_oneStep_18 : decode cX4_oneStep 18 = .ok (.if_icmp .ne 8, 3) := by decide +kernel
theorem dX4_oneStep_21 : decode cX4_oneStep 21 = .ok (.aload_n 0, 1) := by decide +kernel
theorem dX4_oneStep_22 : decode cX4_oneStep 22 = .ok (.invokevirtual 149, 3) := by decide +kernel
theorem dX4_oneStep_25 : decode cX4_oneStep 25 = .ok (.ireturn, 1) := by decide +kernel
theorem dX4_oneStep_26 : decode cX4_oneStep 26 = .ok (.aload_n 0, 1) := by decide +kernel
theorem dX4_oneStep_27 : decode cX4_oneStep 27 = .ok (.getfield 15, 3) := by decide +kernel
theorem dX4_oneStep_30 : decode cX4_oneStep 30 = .ok (.ifCond .ne 7, 3) := by decide +kernel
theorem dX4_oneStep_33 : decode cX4_oneStep 33 = .ok (.aload_n 0, 1) := by decide +kernel
theorem dX4_oneStep_34 : decode cX4_oneStep 34 = .ok (.invokevirtual 152, 3) := by decide +kernel
theorem dX4_oneStep_37 : decode cX4_oneStep 37 = .ok (.aload_n 0, 1) := by decide +kernel
theorem dX4_oneStep_38 : decode cX4_oneStep 38 = .ok (.invokevirtual 155, 3) := by decide +kernel
theorem dX4_oneStep_41 : decode cX4_oneStep 41 = .ok (.istore_n 2, 1) := by decide +kernel
theorem dX4_oneStep_42 : decode cX4_oneStep 42 = .ok (.aload_n 0, 1) := by decide +kernel
theorem dX4_oneStep_43 : decode cX4_oneStep 43 = .ok (.iload_n 2, 1) := by decide +kernel
theorem dX4_oneStep_44 : decode cX4_oneStep 44 = .ok (.iload_n 1, 1) := by decide +kernel
theorem dX4_oneStep_45 : decode cX4_oneStep 45 = .ok (.invokevirtual 158, 3) := by decide +kernel
theorem dX4_oneStep_48 : decode cX4_oneStep 48 = .ok (.ifCond .eq 10, 3) := by decide +kernel
theorem dX4_oneStep_51 : decode cX4_oneStep 51 = .ok (.aload_n 0, 1) := by decide +kernel
theorem dX4_oneStep_52 : decode cX4_oneStep 52 = .ok (.invokevirtual 162, 3) := by decide +kernel
theorem dX4_oneStep_55 : decode cX4_oneStep 55 = .ok (.goto 7, 3) := by decide +kernel
theorem dX4_oneStep_58 : decode cX4_oneStep 58 = .ok (.aload_n 0, 1) := by decide +kernel
theorem dX4_oneStep_59 : decode cX4_oneStep 59 = .ok (.invokevirtual 165, 3) := by decide +kernel
theorem dX4_oneStep_62 : decode cX4_oneStep 62 = .ok (.iload_n 2, 1) := by decide +kernel
theorem dX4_oneStep_63 : decode cX4_oneStep 63 = .ok (.ireturn, 1) := by decide +kernel
set_option maxRecDepth 20000 in
theorem ggX4_brokenStep_X4_beginPause : GoodIn wsX4_brokenStep wsX4_beginPause := goodIn_r _ [6, 7, 1, 8, 9, 10, 11, 12, 13, 14] (by decide +kernel) (by decide +kernel)
set_option maxRecDepth 20000 in
theorem gX4_brokenStep_X4_beginPause : GoodIn wsX4_brokenStep (wsV RX4 168 RX4 yX4_beginPause wsX4_beginPause) := goodIn_app (goodIn_of _ (by decide +kernel)) ggX4_brokenStep_X4_beginPause
theorem dX4_brokenStep_0 : decode cX4_brokenStep 0 = .ok (.aload_n 0, 1) := by decide +kernel
theorem dX4_brokenStep_1 : decode cX4_brokenStep 1 = .ok (.getfield 19, 3) := by decide +kernel
theorem dX4_brokenStep_4 : decode cX4_brokenStep 4 = .ok (.bipush 8, 2) := by decide +kernel
theorem dX4_brokenStep_6 : decode cX4_brokenStep 6 = .ok (.if_icmp .le 7, 3) := by decide +kernel
theorem dX4_brokenStep_9 : decode cX4_brokenStep 9 = .ok (.iconst 0, 1) := by decide +kernel
theorem dX4_brokenStep_10 : decode cX4_brokenStep 10 = .ok (.goto 4, 3) := by decide +kernel
theorem dX4_brokenStep_13 : decode cX4_brokenStep 13 = .ok (.iconst 1, 1) := by decide +kernel
theorem dX4_brokenStep_14 : decode cX4_brokenStep 14 = .ok (.istore_n 1, 1) := by decide +kernel
theorem dX4_brokenStep_15 : decode cX4_brokenStep 15 = .ok (.aload_n 0, 1) := by decide +kernel
theorem dX4_brokenStep_16 : decode cX4_brokenStep 16 = .ok (.dup, 1) := by decide +kernel
theorem dX4_brokenStep_17 : decode cX4_brokenStep 17 = .ok (.getfield 19, 3) := by decide +kernel
theorem dX4_brokenStep_20 : decode cX4_brokenStep 20 = .ok (.iconst 1, 1) := by decide +kernel
theorem dX4_brokenStep_21 : decode cX4_brokenStep 21 = .ok (.isub, 1) := by decide +kernel
theorem dX4_brokenStep_22 : decode cX4_brokenStep 22 = .ok (.putfield 19, 3) := by decide +kernel
theorem dX4_brokenStep_25 : decode cX4_brokenStep 25 = .ok (.aload_n 0, 1) := by decide +kernel
theorem dX4_brokenStep_26 : decode cX4_brokenStep 26 = .ok (.getfield 19, 3) := by decide +kernel
theorem dX4_brokenStep_29 : decode cX4_brokenStep 29 = .ok (.ifCond .ne 7, 3) := by decide +kernel
theorem dX4_brokenStep_32 : decode cX4_brokenStep 32 = .ok (.aload_n 0, 1) := by decide +kernel
theorem dX4_brokenStep_33 : decode cX4_brokenStep 33 = .ok (.invokevirtual 168, 3) := by decide +kernel
theorem dX4_brokenStep_36 : decode cX4_brokenStep 36 = .ok (.iload_n 1, 1) := by decide +kernel
theorem dX4_brokenStep_37 : decode cX4_brokenStep 37 = .ok (.ireturn, 1) := by decide +kernel
theorem dX4_pauseStep_0 : decode cX4_pauseStep 0 = .ok (.aload_n 0, 1) := by decide +kernel
theorem dX4_pauseStep_1 : decode cX4_pauseStep 1 = .ok (.dup, 1) := by decide +kernel
theorem dX4_pauseStep_2 : decode cX4_pauseStep 2 = .ok (.getfield 19, 3) := by decide +kernel
theorem dX4_pauseStep_5 : decode cX4_pauseStep 5 = .ok (.iconst 1, 1) := by decide +kernel
theorem dX4_pauseStep_6 : decode cX4_pauseStep 6 = .ok (.isub, 1) := by decide +kernel
theorem dX4_pauseStep_7 : decode cX4_pauseStep 7 = .ok (.putfield 19, 3) := by decide +kernel
theorem dX4_pauseStep_10 : decode cX4_pauseStep 10 = .ok (.aload_n 0, 1) := by decide +kernel
theorem dX4_pauseStep_11 : decode cX4_pauseStep 11 = .ok (.getfield 19, 3) := by decide +kernel
theorem dX4_pauseStep_14 : decode cX4_pauseStep 14 = .ok (.ifCond .ne 8, 3) := by decide +kernel
theorem dX4_pauseStep_17 : decode cX4_pauseStep 17 = .ok (.aload_n 0, 1) := by decide +kernel
theorem dX4_pauseStep_18 : decode cX4_pauseStep 18 = .ok (.iconst 0, 1) := by decide +kernel
theorem dX4_pauseStep_19 : decode cX4_pauseStep 19 = .ok (.putfield 15, 3) := by decide +kernel
theorem dX4_pauseStep_22 : decode cX4_pauseStep 22 = .ok (.iconst 1, 1) := by decide +kernel
theorem dX4_pauseStep_23 : decode cX4_pauseStep 23 = .ok (.ireturn, 1) := by decide +kernel
theorem dX4_beginPause_0 : decode cX4_beginPause 0 = .ok (.aload_n 0, 1) := by decide +kernel
theorem dX4_beginPause_1 : decode cX4_beginPause 1 = .ok (.iconst 3, 1) := by decide +kernel
theorem dX4_beginPause_2 : decode cX4_beginPause 2 = .ok (.putfield 15, 3) := by decide +kernel
theorem dX4_beginPause_5 : decode cX4_beginPause 5 = .ok (.aload_n 0, 1) := by decide +kernel
theorem dX4_beginPause_6 : decode cX4_beginPause 6 = .ok (.iconst 3, 1) := by decide +kernel
theorem dX4_beginPause_7 : decode cX4_beginPause 7 = .ok (.putfield 19, 3) := by decide +kernel
theorem dX4_beginPause_10 : decode cX4_beginPause 10 = .ok (.return_, 1) := by decide +kernel
set_option maxRecDepth 20000 in
theorem ggX4_startSenders_X2_startSending : GoodIn wsX4_startSenders wsX2_startSending := goodIn_r _ [6, 7, 8, 9, 10, 11, 12, 13, 14, 15, 16, 5, 17, 18, 19, 20, 21, 22, 23, 24, 25, 26, 27, 28, 29, 30, 31, 32, 33, 34, 35, 36, 37, 38, 39, 40, 41, 42, 43, 44, 45, 46, 47, 48, 49, 50, 51, 52, 53, 54, 55, 56, 57, 58, 59, 60, 61, 62, 63, 64, 65, 66, 67, 68, 69, 70, 71, 72, 73, 74, 75, 76, 77, 78, 79, 80, 88, 89, 90, 91, 92, 93, 94, 95, 96, 97, 98, 99, 100, 101, 102, 103, 104, 105, 106, 107, 108, 109, 110, 111, 112, 113, 114, 115, 116, 117, 118, 119, 120, 121, 122, 123] (by decide +kernel) (by decide +kernel)
set_option maxRecDepth 20000 in
theorem gX4_startSenders_X2_startSending : GoodIn wsX4_startSenders (wsV RX4 171 RX2 yX2_startSending wsX2_startSending) := goodIn_app (goodIn_of _ (by decide +kernel)) ggX4_startSenders_X2_startSending
theorem dX4_startSenders_0 : decode cX4_startSenders 0 = .ok (.iconst 0, 1) := by decide +kernel
theorem dX4_startSenders_1 : decode cX4_startSenders 1 = .ok (.istore_n 1, 1) := by decide +kernel
theorem dX4_startSenders_2 : decode cX4_startSenders 2 = .ok (.iload_n 1, 1) := by decide +kernel
theorem dX4_startSenders_3 : decode cX4_startSenders 3 = .ok (.iconst 4, 1) := by decide +kernel
theorem dX4_startSenders_4 : decode cX4_startSenders 4 = .ok (.if_icmp .ge 18, 3) := by decide +kernel
theorem dX4_startSenders_7 : decode cX4_startSenders 7 = .ok (.aload_n 0, 1) := by decide +kernel
theorem dX4_startSenders_8 : decode cX4_startSenders 8 = .ok (.getfield 11, 3) := by decide +kernel
theorem dX4_startSenders_11 : decode cX4_startSenders 11 = .ok (.iload_n 1, 1) := by decide +kernel
theorem dX4_startSenders_12 : decode cX4_startSenders 12 = .ok (.aaload, 1) := by decide +kernel
theorem dX4_startSenders_13 : decode cX4_startSenders 13 = .ok (.invokevirtual 171, 3) := by decide +kernel
theorem dX4_startSenders_16 : decode cX4_startSenders 16 = .ok (.iinc 1 1, 3) := by decide +kernel
theorem dX4_startSenders_19 : decode cX4_startSenders 19 = .ok (.goto (-17), 3) := by decide +kernel
theorem dX4_startSenders_22 : decode cX4_startSenders 22 = .ok (.return_, 1) := by decide +kernel
set_option maxRecDepth 20000 in
theorem ggX4_levelSent_X2_bitToSend : GoodIn wsX4_levelSent wsX2_bitToSend := goodIn_r _ [6, 7, 8, 9, 10, 11, 12, 13, 14, 15, 16, 17, 18, 19, 20, 21, 22, 23, 24, 25, 26, 27, 28, 29, 30, 31, 39, 40, 41, 42, 43, 44, 45, 46, 47, 48, 49, 50, 51, 52, 53, 54, 55, 56, 57, 58, 59, 60, 61, 62, 63, 64, 65, 66, 67, 68, 69, 70] (by decide +kernel) (by decide +kernel)
set_option maxRecDepth 20000 in
theorem gX4_levelSent_X2_bitToSend : GoodIn wsX4_levelSent (wsV RX4 174 RX2 yX2_bitToSend wsX2_bitToSend) := goodIn_app (goodIn_of _ (by decide +kernel)) ggX4_levelSent_X2_bitToSend
theorem dX4_levelSent_0 : decode cX4_levelSent 0 = .ok (.iconst 1, 1) := by decide +kernel
theorem dX4_levelSent_1 : decode cX4_levelSent 1 = .ok (.istore_n 1, 1) := by decide +kernel
theorem dX4_levelSent_2 : decode cX4_levelSent 2 = .ok (.iconst 0, 1) := by decide +kernel
theorem dX4_levelSent_3 : decode cX4_levelSent 3 = .ok (.istore_n 2, 1) := by decide +kernel
theorem dX4_levelSent_4 : decode cX4_levelSent 4 = .ok (.iload_n 2, 1) := by decide +kernel
theorem dX4_levelSent_5 : decode cX4_levelSent 5 = .ok (.iconst 4, 1) := by decide +kernel
theorem dX4_levelSent_6 : decode cX4_levelSent 6 = .ok (.if_icmp .ge 21, 3) := by decide +kernel
theorem dX4_levelSent_9 : decode cX4_levelSent 9 = .ok (.iload_n 1, 1) := by decide +kernel
theorem dX4_levelSent_10 : decode cX4_levelSent 10 = .ok (.aload_n 0, 1) := by decide +kernel
theorem dX4_levelSent_11 : decode cX4_levelSent 11 = .ok (.getfield 11, 3) := by decide +kernel
theorem dX4_levelSent_14 : decode cX4_levelSent 14 = .ok (.iload_n 2, 1) := by decide +kernel
theorem dX4_levelSent_15 : decode cX4_levelSent 15 = .ok (.aaload, 1) := by decide +kernel
theorem dX4_levelSent_16 : decode cX4_levelSent 16 = .ok (.invokevirtual 174, 3) := by decide +kernel
theorem dX4_levelSent_19 : decode cX4_levelSent 19 = .ok (.iand, 1) := by decide +kernel
theorem dX4_levelSent_20 : decode cX4_levelSent 20 = .ok (.istore_n 1, 1) := by decide +kernel
theorem dX4_levelSent_21 : decode cX4_levelSent 21 = .ok (.iinc 2 1, 3) := by decide +kernel
theorem dX4_levelSent_24 : decode cX4_levelSent 24 = .ok (.goto (-20), 3) := by decide +kernel
theorem dX4_levelSent_27 : decode cX4_levelSent 27 = .ok (.iload_n 1, 1) := by decide +kernel
theorem dX4_levelSent_28 : decode cX4_levelSent 28 = .ok (.ireturn, 1) := by decide +kernel
set_option maxRecDepth 20000 in
theorem ggX4_someFindFaults_X2_look : GoodIn wsX4_someFindFaults wsX2_look := goodIn_r _ [7, 8, 9, 10, 11, 12, 13, 14, 15, 16, 17, 18, 19, 20, 21, 22, 23, 24, 25, 26, 27, 28, 29, 30, 31, 32, 33, 34, 35, 36, 37, 6, 38, 39, 40, 41, 42, 43, 44, 45, 46, 47, 48, 49, 50, 51, 52, 53, 54, 55, 56, 57, 58, 59, 60, 61, 62, 63, 64, 65, 66, 67, 68, 69, 70, 71, 72, 73, 74, 75, 76, 77, 78, 79, 80, 81, 82, 83, 84, 85, 86, 87, 88, 89, 90, 91, 92, 93, 94, 95, 96, 104, 105, 106, 107, 108, 109, 110, 111, 112, 113, 114, 115, 116, 117, 118, 119, 120, 121, 122, 123, 124, 125, 126, 127, 128, 129, 130, 131, 132, 133, 134, 135, 136, 137, 138, 139] (by decide +kernel) (by decide +kernel)
set_option maxRecDepth 20000 in
theorem gX4_someFindFaults_X2_look : GoodIn wsX4_someFindFaults (wsV RX4 177 RX2 yX2_look wsX2_look) := goodIn_app (goodIn_of _ (by decide +kernel)) ggX4_someFindFaults_X2_look
theorem dX4_someFindFaults_0 : decode cX4_someFindFaults 0 = .ok (.iconst 0, 1) := by decide +kernel
theorem dX4_someFindFaults_1 : decode cX4_someFindFaults 1 = .ok (.istore_n 3, 1) := by decide +kernel
theorem dX4_someFindFaults_2 : decode cX4_someFindFaults 2 = .ok (.iconst 0, 1) := by decide +kernel
theorem dX4_someFindFaults_3 : decode cX4_someFindFaults 3 = .ok (.istore 4, 2) := by decide +kernel
theorem dX4_someFindFaults_5 : decode cX4_someFindFaults 5 = .ok (.iload 4, 2) := by decide +kernel
theorem dX4_someFindFaults_7 : decode cX4_someFindFaults 7 = .ok (.iconst 4, 1) := by decide +kernel
theorem dX4_someFindFaults_8 : decode cX4_someFindFaults 8 = .ok (.if_icmp .ge 42, 3) := by decide +kernel
theorem dX4_someFindFaults_11 : decode cX4_someFindFaults 11 = .ok (.aload_n 0, 1) := by decide +kernel
theorem dX4_someFindFaults_12 : decode cX4_someFindFaults 12 = .ok (.getfield 11, 3) := by decide +kernel
theorem dX4_someFindFaults_15 : decode cX4_someFindFaults 15 = .ok (.iload 4, 2) := by decide +kernel
theorem dX4_someFindFaults_17 : decode cX4_someFindFaults 17 = .ok (.aaload, 1) := by decide +kernel
theorem dX4_someFindFaults_18 : decode cX4_someFindFaults 18 = .ok (.iload_n 1, 1) := by decide +kernel
theorem dX4_someFindFaults_19 : decode cX4_someFindFaults 19 = .ok (.iload_n 2, 1) := by decide +kernel
theorem dX4_someFindFaults_20 : decode cX4_someFindFaults 20 = .ok (.iload 4, 2) := by decide +kernel
theorem dX4_someFindFaults_22 : decode cX4_someFindFaults 22 = .ok (.ishr, 1) := by decide +kernel
theorem dX4_someFindFaults_23 : decode cX4_someFindFaults 23 = .ok (.iconst 1, 1) := by decide +kernel
theorem dX4_someFindFaults_24 : decode cX4_someFindFaults 24 = .ok (.iand, 1) := by decide +kernel
theorem dX4_someFindFaults_25 : decode cX4_someFindFaults 25 = .ok (.ixor, 1) := by decide +kernel
theorem dX4_someFindFaults_26 : decode cX4_someFindFaults 26 = .ok (.invokevirtual 177, 3) := by decide +kernel
theorem dX4_someFindFaults_29 : decode cX4_someFindFaults 29 = .ok (.aload_n 0, 1) := by decide +kernel
theorem dX4_someFindFaults_30 : decode cX4_someFindFaults 30 = .ok (.getfield 11, 3) := by decide +kernel
theorem dX4_someFindFaults_33 : decode cX4_someFindFaults 33 = .ok (.iload 4, 2) := by decide +kernel
theorem dX4_someFindFaults_35 : decode cX4_someFindFaults 35 = .ok (.aaload, 1) := by decide +kernel
theorem dX4_someFindFaults_36 : decode cX4_someFindFaults 36 = .ok (.getfield 181, 3) := by decide +kernel
theorem dX4_someFindFaults_39 : decode cX4_someFindFaults 39 = .ok (.ifCond .eq 5, 3) := by decide +kernel
theorem dX4_someFindFaults_42 : decode cX4_someFindFaults 42 = .ok (.iconst 1, 1) := by decide +kernel
theorem dX4_someFindFaults_43 : decode cX4_someFindFaults 43 = .ok (.istore_n 3, 1) := by decide +kernel
theorem dX4_someFindFaults_44 : decode cX4_someFindFaults 44 = .ok (.iinc 4 1, 3) := by decide +kernel
theorem dX4_someFindFaults_47 : decode cX4_someFindFaults 47 = .ok (.goto (-42), 3) := by decide +kernel
theorem dX4_someFindFaults_50 : decode cX4_someFindFaults 50 = .ok (.iload_n 3, 1) := by decide +kernel
theorem dX4_someFindFaults_51 : decode cX4_someFindFaults 51 = .ok (.ireturn, 1) := by decide +kernel
set_option maxRecDepth 20000 in
theorem ggX4_breakOff_X2_countFault : GoodIn wsX4_breakOff wsX2_countFault := goodIn_r _ [8, 9, 10, 11, 12, 13, 14, 22, 23, 24, 25, 26, 27, 28, 29, 30, 31, 32, 33, 34, 35, 36] (by decide +kernel) (by decide +kernel)
set_option maxRecDepth 20000 in
theorem gX4_breakOff_X2_countFault : GoodIn wsX4_breakOff (wsV RX4 184 RX2 yX2_countFault wsX2_countFault) := goodIn_app (goodIn_of _ (by decide +kernel)) ggX4_breakOff_X2_countFault
theorem dX4_breakOff_0 : decode cX4_breakOff 0 = .ok (.iconst 0, 1) := by decide +kernel
theorem dX4_breakOff_1 : decode cX4_breakOff 1 = .ok (.istore_n 1, 1) := by decide +kernel
theorem dX4_breakOff_2 : decode cX4_breakOff 2 = .ok (.iload_n 1, 1) := by decide +kernel
theorem dX4_breakOff_3 : decode cX4_breakOff 3 = .ok (.iconst 4, 1) := by decide +kernel
theorem dX4_breakOff_4 : decode cX4_breakOff 4 = .ok (.if_icmp .ge 18, 3) := by decide +kernel
theorem dX4_breakOff_7 : decode cX4_breakOff 7 = .ok (.aload_n 0, 1) := by decide +kernel
theorem dX4_breakOff_8 : decode cX4_breakOff 8 = .ok (.getfield 11, 3) := by decide +kernel
theorem dX4_breakOff_11 : decode cX4_breakOff 11 = .ok (.iload_n 1, 1) := by decide +kernel
theorem dX4_breakOff_12 : decode cX4_breakOff 12 = .ok (.aaload, 1) := by decide +kernel
theorem dX4_breakOff_13 : decode cX4_breakOff 13 = .ok (.invokevirtual 184, 3) := by decide +kernel
theorem dX4_breakOff_16 : decode cX4_breakOff 16 = .ok (.iinc 1 1, 3) := by decide +kernel
theorem dX4_breakOff_19 : decode cX4_breakOff 19 = .ok (.goto (-17), 3) := by decide +kernel
theorem dX4_breakOff_22 : decode cX4_breakOff 22 = .ok (.aload_n 0, 1) := by decide +kernel
theorem dX4_breakOff_23 : decode cX4_breakOff 23 = .ok (.iconst 2, 1) := by decide +kernel
theorem dX4_breakOff_24 : decode cX4_breakOff 24 = .ok (.putfield 15, 3) := by decide +kernel
theorem dX4_breakOff_27 : decode cX4_breakOff 27 = .ok (.aload_n 0, 1) := by decide +kernel
theorem dX4_breakOff_28 : decode cX4_breakOff 28 = .ok (.bipush 14, 2) := by decide +kernel
theorem dX4_breakOff_30 : decode cX4_breakOff 30 = .ok (.putfield 19, 3) := by decide +kernel
theorem dX4_breakOff_33 : decode cX4_breakOff 33 = .ok (.return_, 1) := by decide +kernel
set_option maxRecDepth 20000 in
theorem ggX4_goOn_X2_endFrame : GoodIn wsX4_goOn wsX2_endFrame := goodIn_r _ [8, 9, 10, 11, 12, 13, 14, 15, 16, 7, 17, 18, 19, 20, 21, 22, 23, 24, 25, 26, 27, 28, 29, 30, 31, 32, 33, 34, 35, 36, 37, 38, 39, 40, 41, 42, 43, 44, 45, 46, 47, 48, 49, 50, 51, 52, 53, 54, 55, 56, 57, 71, 72, 73, 74, 75, 76, 77, 78, 79, 80, 81, 82, 83, 84, 85, 86, 87, 88, 89, 90, 91, 92, 93, 94, 95, 96, 97, 98, 99, 100, 101, 102, 103, 104, 105, 106] (by decide +kernel) (by decide +kernel)
set_option maxRecDepth 20000 in
theorem gX4_goOn_X2_endFrame : GoodIn wsX4_goOn (wsV RX4 187 RX2 yX2_endFrame wsX2_endFrame) := goodIn_app (goodIn_of _ (by decide +kernel)) ggX4_goOn_X2_endFrame
set_option maxRecDepth 20000 in
theorem ggX4_goOn_X4_beginPause : GoodIn wsX4_goOn wsX4_beginPause := goodIn_r _ [62, 3, 63, 64, 65, 66, 67, 68, 69, 70] (by decide +kernel) (by decide +kernel)
set_option maxRecDepth 20000 in
theorem gX4_goOn_X4_beginPause : GoodIn wsX4_goOn (wsV RX4 168 RX4 yX4_beginPause wsX4_beginPause) := goodIn_app (goodIn_of _ (by decide +kernel)) ggX4_goOn_X4_beginPause
theorem dX4_goOn_0 : decode cX4_goOn 0 = .ok (.iconst 0, 1) := by decide +kernel
theorem dX4_goOn_1 : decode cX4_goOn 1 = .ok (.istore_n 1, 1) := by decide +kernel
theorem dX4_goOn_2 : decode cX4_goOn 2 = .ok (.iconst 0, 1) := by decide +kernel
theorem dX4_goOn_3 : decode cX4_goOn 3 = .ok (.istore_n 2, 1) := by decide +kernel
theorem dX4_goOn_4 : decode cX4_goOn 4 = .ok (.iload_n 2, 1) := by decide +kernel
theorem dX4_goOn_5 : decode cX4_goOn 5 = .ok (.iconst 4, 1) := by decide +kernel
theorem dX4_goOn_6 : decode cX4_goOn 6 = .ok (.if_icmp .ge 33, 3) := by decide +kernel
theorem dX4_goOn_9 : decode cX4_goOn 9 = .ok (.aload_n 0, 1) := by decide +kernel
theorem dX4_goOn_10 : decode cX4_goOn 10 = .ok (.getfield 11, 3) := by decide +kernel
theorem dX4_goOn_13 : decode cX4_goOn 13 = .ok (.iload_n 2, 1) := by decide +kernel
theorem dX4_goOn_14 : decode cX4_goOn 14 = .ok (.aaload, 1) := by decide +kernel
theorem dX4_goOn_15 : decode cX4_goOn 15 = .ok (.invokevirtual 187, 3) := by decide +kernel
theorem dX4_goOn_18 : decode cX4_goOn 18 = .ok (.aload_n 0, 1) := by decide +kernel
theorem dX4_goOn_19 : decode cX4_goOn 19 = .ok (.getfield 11, 3) := by decide +kernel
theorem dX4_goOn_22 : decode cX4_goOn 22 = .ok (.iload_n 2, 1) := by decide +kernel
theorem dX4_goOn_23 : decode cX4_goOn 23 = .ok (.aaload, 1) := by decide +kernel
theorem dX4_goOn_24 : decode cX4_goOn 24 = .ok (.getfield 75, 3) := by decide +kernel
theorem dX4_goOn_27 : decode cX4_goOn 27 = .ok (.iconst 1, 1) := by decide +kernel
theorem dX4_goOn_28 : decode cX4_goOn 28 = .ok (.if_icmp .eq 5, 3) := by decide +kernel
theorem dX4_goOn_31 : decode cX4_goOn 31 = .ok (.iconst 1, 1) := by decide +kernel
theorem dX4_goOn_32 : decode cX4_goOn 32 = .ok (.istore_n 1, 1) := by decide +kernel
theorem dX4_goOn_33 : decode cX4_goOn 33 = .ok (.iinc 2 1, 3) := by decide +kernel
theorem dX4_goOn_36 : decode cX4_goOn 36 = .ok (.goto (-32), 3) := by decide +kernel
theorem dX4_goOn_39 : decode cX4_goOn 39 = .ok (.iload_n 1, 1) := by decide +kernel
theorem dX4_goOn_40 : decode cX4_goOn 40 = .ok (.ifCond .eq 11, 3) := by decide +kernel
theorem dX4_goOn_43 : decode cX4_goOn 43 = .ok (.aload_n 0, 1) := by decide +kernel
theorem dX4_goOn_44 : decode cX4_goOn 44 = .ok (.iconst 1, 1) := by decide +kernel
theorem dX4_goOn_45 : decode cX4_goOn 45 = .ok (.putfield 15, 3) := by decide +kernel
theorem dX4_goOn_48 : decode cX4_goOn 48 = .ok (.goto 15, 3) := by decide +kernel
theorem dX4_goOn_51 : decode cX4_goOn 51 = .ok (.aload_n 0, 1) := by decide +kernel
theorem dX4_goOn_52 : decode cX4_goOn 52 = .ok (.getfield 15, 3) := by decide +kernel
theorem dX4_goOn_55 : decode cX4_goOn 55 = .ok (.iconst 1, 1) := by decide +kernel
theorem dX4_goOn_56 : decode cX4_goOn 56 = .ok (.if_icmp .ne 7, 3) := by decide +kernel
theorem dX4_goOn_59 : decode cX4_goOn 59 = .ok (.aload_n 0, 1) := by decide +kernel
theorem dX4_goOn_60 : decode cX4_goOn 60 = .ok (.invokevirtual 168, 3) := by decide +kernel
theorem dX4_goOn_63 : decode cX4_goOn 63 = .ok (.return_, 1) := by decide +kernel
theorem dX4_nextCheck_0 : decode cX4_nextCheck 0 = .ok (.iload_n 0, 1) := by decide +kernel
theorem dX4_nextCheck_1 : decode cX4_nextCheck 1 = .ok (.iconst 1, 1) := by decide +kernel
theorem dX4_nextCheck_2 : decode cX4_nextCheck 2 = .ok (.ishl, 1) := by decide +kernel
theorem dX4_nextCheck_3 : decode cX4_nextCheck 3 = .ok (.sipush 32767, 3) := by decide +kernel
theorem dX4_nextCheck_6 : decode cX4_nextCheck 6 = .ok (.iand, 1) := by decide +kernel
theorem dX4_nextCheck_7 : decode cX4_nextCheck 7 = .ok (.istore_n 2, 1) := by decide +kernel
theorem dX4_nextCheck_8 : decode cX4_nextCheck 8 = .ok (.iload_n 0, 1) := by decide +kernel
theorem dX4_nextCheck_9 : decode cX4_nextCheck 9 = .ok (.bipush 14, 2) := by decide +kernel
theorem dX4_nextCheck_11 : decode cX4_nextCheck 11 = .ok (.ishr, 1) := by decide +kernel
theorem dX4_nextCheck_12 : decode cX4_nextCheck 12 = .ok (.iconst 1, 1) := by decide +kernel
theorem dX4_nextCheck_13 : decode cX4_nextCheck 13 = .ok (.iand, 1) := by decide +kernel
theorem dX4_nextCheck_14 : decode cX4_nextCheck 14 = .ok (.iload_n 1, 1) := by decide +kernel
theorem dX4_nextCheck_15 : decode cX4_nextCheck 15 = .ok (.if_icmp .eq 7, 3) := by decide +kernel
theorem dX4_nextCheck_18 : decode cX4_nextCheck 18 = .ok (.iconst 1, 1) := by decide +kernel
theorem dX4_nextCheck_19 : decode cX4_nextCheck 19 = .ok (.goto 4, 3) := by decide +kernel
theorem dX4_nextCheck_22 : decode cX4_nextCheck 22 = .ok (.iconst 0, 1) := by decide +kernel
theorem dX4_nextCheck_23 : decode cX4_nextCheck 23 = .ok (.istore_n 3, 1) := by decide +kernel
theorem dX4_nextCheck_24 : decode cX4_nextCheck 24 = .ok (.iload_n 3, 1) := by decide +kernel
theorem dX4_nextCheck_25 : decode cX4_nextCheck 25 = .ok (.ifCond .eq 11, 3) := by decide +kernel
theorem dX4_nextCheck_28 : decode cX4_nextCheck 28 = .ok (.iload_n 2, 1) := by decide +kernel
theorem dX4_nextCheck_29 : decode cX4_nextCheck 29 = .ok (.sipush 17817, 3) := by decide +kernel
theorem dX4_nextCheck_32 : decode cX4_nextCheck 32 = .ok (.ixor, 1) := by decide +kernel
theorem dX4_nextCheck_33 : decode cX4_nextCheck 33 = .ok (.goto 4, 3) := by decide +kernel
theorem dX4_nextCheck_36 : decode cX4_nextCheck 36 = .ok (.iload_n 2, 1) := by decide +kernel
theorem dX4_nextCheck_37 : decode cX4_nextCheck 37 = .ok (.ireturn, 1) := by decide +kernel
end
section
theorem dX5_init_0 : decode cX5_init 0 = .ok (.aload_n 0, 1) := by decide +kernel
theorem dX5_init_1 : decode cX5_init 1 = .ok (.invokespecial 1, 3) := by decide +kernel
theorem dX5_init_4 : decode cX5_init 4 = .ok (.aload_n 0, 1) := by decide +kernel
theorem dX5_init_5 : decode cX5_init 5 = .ok (.iconst 4, 1) := by decide +kernel
theorem dX5_init_6 : decode cX5_init 6 = .ok (.newarray .int, 2) := by decide +kernel
theorem dX5_init_8 : decode cX5_init 8 = .ok (.dup, 1) := by decide +kernel
theorem dX5_init_9 : decode cX5_init 9 = .ok (.iconst 0, 1) := by decide +kernel
theorem dX5_init_10 : decode cX5_init 10 = .ok (.iconst 1, 1) := by decide +kernel
theorem dX5_init_11 : decode cX5_init 11 = .ok (.iastore, 1) := by decide +kernel
theorem dX5_init_12 : decode cX5_init 12 = .ok (.dup, 1) := by decide +kernel
theorem dX5_init_13 : decode cX5_init 13 = .ok (.iconst 1, 1) := by decide +kernel
theorem dX5_init_14 : decode cX5_init 14 = .ok (.iconst 1, 1) := by decide +kernel
theorem dX5_init_15 : decode cX5_init 15 = .ok (.iastore, 1) := by decide +kernel
theorem dX5_init_16 : decode cX5_init 16 = .ok (.dup, 1) := by decide +kernel
theorem dX5_init_17 : decode cX5_init 17 = .ok (.iconst 2, 1) := by decide +kernel
theorem dX5_init_18 : decode cX5_init 18 = .ok (.iconst 1, 1) := by decide +kernel
theorem dX5_init_19 : decode cX5_init 19 = .ok (.iastore, 1) := by decide +kernel
theorem dX5_init_20 : decode cX5_init 20 = .ok (.dup, 1) := by decide +kernel
theorem dX5_init_21 : decode cX5_init 21 = .ok (.iconst 3, 1) := by decide +kernel
theorem dX5_init_22 : decode cX5_init 22 = .ok (.iconst 1, 1) := by decide +kernel
theorem dX5_init_23 : decode cX5_init 23 = .ok (.iastore, 1) := by decide +kernel
theorem dX5_init_24 : decode cX5_init 24 = .ok (.putfield 9, 3) := by decide +kernel
theorem dX5_init_27 : decode cX5_init 27 = .ok (.aload_n 0, 1) := by decide +kernel
theorem dX5_init_28 : decode cX5_init 28 = .ok (.iconst 4, 1) := by decide +kernel
theorem dX5_init_29 : decode cX5_init 29 = .ok (.newarray .int, 2) := by decide +kernel
theorem dX5_init_31 : decode cX5_init 31 = .ok (.putfield 13, 3) := by decide +kernel
theorem dX5_init_34 : decode cX5_init 34 = .ok (.aload_n 0, 1) := by decide +kernel
theorem dX5_init_35 : decode cX5_init 35 = .ok (.iconst 4, 1) := by decide +kernel
theorem dX5_init_36 : decode cX5_init 36 = .ok (.newarray .int, 2) := by decide +kernel
theorem dX5_init_38 : decode cX5_init 38 = .ok (.putfield 16, 3) := by decide +kernel
theorem dX5_init_41 : decode cX5_init 41 = .ok (.aload_n 0, 1) := by decide +kernel
theorem dX5_init_42 : decode cX5_init 42 = .ok (.iconst 4, 1) := by decide +kernel
theorem dX5_init_43 : decode cX5_init 43 = .ok (.newarray .int, 2) := by decide +kernel
theorem dX5_init_45 : decode cX5_init 45 = .ok (.putfield 19, 3) := by decide +kernel
theorem dX5_init_48 : decode cX5_init 48 = .ok (.aload_n 0, 1) := by decide +kernel
theorem dX5_init_49 : decode cX5_init 49 = .ok (.iconst 4, 1) := by decide +kernel
theorem dX5_init_50 : decode cX5_init 50 = .ok (.newarray .int, 2) := by decide +kernel
theorem dX5_init_52 : decode cX5_init 52 = .ok (.putfield 22, 3) := by decide +kernel
theorem dX5_init_55 : decode cX5_init 55 = .ok (.aload_n 0, 1) := by decide +kernel
theorem dX5_init_56 : decode cX5_init 56 = .ok (.iconst 4, 1) := by decide +kernel
theorem dX5_init_57 : decode cX5_init 57 = .ok (.newarray .int, 2) := by decide +kernel
theorem dX5_init_59 : decode cX5_init 59 = .ok (.putfield 25, 3) := by decide +kernel
theorem dX5_init_62 : decode cX5_init 62 = .ok (.aload_n 0, 1) := by decide +kernel
theorem dX5_init_63 : decode cX5_init 63 = .ok (.iconst 4, 1) := by decide +kernel
theorem dX5_init_64 : decode cX5_init 64 = .ok (.newarray .int, 2) := by decide +kernel
theorem dX5_init_66 : decode cX5_init 66 = .ok (.putfield 28, 3) := by decide +kernel
theorem dX5_init_69 : decode cX5_init 69 = .ok (.aload_n 0, 1) := by decide +kernel
theorem dX5_init_70 : decode cX5_init 70 = .ok (.bipush 16, 2) := by decide +kernel
theorem dX5_init_72 : decode cX5_init 72 = .ok (.newarray .boolean, 2) := by decide +kernel
theorem dX5_init_74 : decode cX5_init 74 = .ok (.putfield 31, 3) := by decide +kernel
theorem dX5_init_77 : decode cX5_init 77 = .ok (.aload_n 0, 1) := by decide +kernel
theorem dX5_init_78 : decode cX5_init 78 = .ok (.bipush 16, 2) := by decide +kernel
theorem dX5_init_80 : decode cX5_init 80 = .ok (.newarray .int, 2) := by decide +kernel
theorem dX5_init_82 : decode cX5_init 82 = .ok (.putfield 35, 3) := by decide +kernel
theorem dX5_init_85 : decode cX5_init 85 = .ok (.aload_n 0, 1) := by decide +kernel
theorem dX5_init_86 : decode cX5_init 86 = .ok (.bipush 16, 2) := by decide +kernel
theorem dX5_init_88 : decode cX5_init 88 = .ok (.newarray .long, 2) := by decide +kernel
theorem dX5_init_90 : decode cX5_init 90 = .ok (.putfield 38, 3) := by decide +kernel
theorem dX5_init_93 : decode cX5_init 93 = .ok (.aload_n 0, 1) := by decide +kernel
theorem dX5_init_94 : decode cX5_init 94 = .ok (.bipush 16, 2) := by decide +kernel
theorem dX5_init_96 : decode cX5_init 96 = .ok (.newarray .int, 2) := by decide +kernel
theorem dX5_init_98 : decode cX5_init 98 = .ok (.putfield 42, 3) := by decide +kernel
theorem dX5_init_101 : decode cX5_init 101 = .ok (.aload_n 0, 1) := by decide +kernel
theorem dX5_init_102 : decode cX5_init 102 = .ok (.iconst 4, 1) := by decide +kernel
theorem dX5_init_103 : decode cX5_init 103 = .ok (.newarray .boolean, 2) := by decide +kernel
theorem dX5_init_105 : decode cX5_init 105 = .ok (.putfield 45, 3) := by decide +kernel
theorem dX5_init_108 : decode cX5_init 108 = .ok (.aload_n 0, 1) := by decide +kernel
theorem dX5_init_109 : decode cX5_init 109 = .ok (.iconst 4, 1) := by decide +kernel
theorem dX5_init_110 : decode cX5_init 110 = .ok (.newarray .int, 2) := by decide +kernel
theorem dX5_init_112 : decode cX5_init 112 = .ok (.putfield 48, 3) := by decide +kernel
theorem dX5_init_115 : decode cX5_init 115 = .ok (.aload_n 0, 1) := by decide +kernel
theorem dX5_init_116 : decode cX5_init 116 = .ok (.iconst 4, 1) := by decide +kernel
theorem dX5_init_117 : decode cX5_init 117 = .ok (.newarray .long, 2) := by decide +kernel
theorem dX5_init_119 : decode cX5_init 119 = .ok (.putfield 51, 3) := by decide +kernel
theorem dX5_init_122 : decode cX5_init 122 = .ok (.aload_n 0, 1) := by decide +kernel
theorem dX5_init_123 : decode cX5_init 123 = .ok (.iconst 4, 1) := by decide +kernel
theorem dX5_init_124 : decode cX5_init 124 = .ok (.newarray .int, 2) := by decide +kernel
theorem dX5_init_126 : decode cX5_init 126 = .ok (.putfield 54, 3) := by decide +kernel
theorem dX5_init_129 : decode cX5_init 129 = .ok (.aload_n 0, 1) := by decide +kernel
theorem dX5_init_130 : decode cX5_init 130 = .ok (.sipush 1000, 3) := by decide +kernel
theorem dX5_init_133 : decode cX5_init 133 = .ok (.newarray .int, 2) := by decide +kernel
theorem dX5_init_135 : decode cX5_init 135 = .ok (.putfield 57, 3) := by decide +kernel
theorem dX5_init_138 : decode cX5_init 138 = .ok (.aload_n 0, 1) := by decide +kernel
theorem dX5_init_139 : decode cX5_init 139 = .ok (.sipush 1000, 3) := by decide +kernel
theorem dX5_init_142 : decode cX5_init 142 = .ok (.newarray .int, 2) := by decide +kernel
theorem dX5_init_144 : decode cX5_init 144 = .ok (.putfield 60, 3) := by decide +kernel
theorem dX5_init_147 : decode cX5_init 147 = .ok (.aload_n 0, 1) := by decide +kernel
theorem dX5_init_148 : decode cX5_init 148 = .ok (.iconst 5, 1) := by decide +kernel
theorem dX5_init_149 : decode cX5_init 149 = .ok (.newarray .int, 2) := by decide +kernel
theorem dX5_init_151 : decode cX5_init 151 = .ok (.putfield 63, 3) := by decide +kernel
theorem dX5_init_154 : decode cX5_init 154 = .ok (.aload_n 0, 1) := by decide +kernel
theorem dX5_init_155 : decode cX5_init 155 = .ok (.iconst 4, 1) := by decide +kernel
theorem dX5_init_156 : decode cX5_init 156 = .ok (.newarray .int, 2) := by decide +kernel
theorem dX5_init_158 : decode cX5_init 158 = .ok (.putfield 66, 3) := by decide +kernel
theorem dX5_init_161 : decode cX5_init 161 = .ok (.aload_n 0, 1) := by decide +kernel
theorem dX5_init_162 : decode cX5_init 162 = .ok (.iconst 4, 1) := by decide +kernel
theorem dX5_init_163 : decode cX5_init 163 = .ok (.newarray .int, 2) := by decide +kernel
theorem dX5_init_165 : decode cX5_init 165 = .ok (.putfield 69, 3) := by decide +kernel
theorem dX5_init_168 : decode cX5_init 168 = .ok (.aload_n 0, 1) := by decide +kernel
theorem dX5_init_169 : decode cX5_init 169 = .ok (.bipush 16, 2) := by decide +kernel
theorem dX5_init_171 : decode cX5_init 171 = .ok (.newarray .int, 2) := by decide +kernel
theorem dX5_init_173 : decode cX5_init 173 = .ok (.putfield 72, 3) := by decide +kernel
theorem dX5_init_176 : decode cX5_init 176 = .ok (.aload_n 0, 1) := by decide +kernel
theorem dX5_init_177 : decode cX5_init 177 = .ok (.sipush 640, 3) := by decide +kernel
theorem dX5_init_180 : decode cX5_init 180 = .ok (.newarray .int, 2) := by decide +kernel
theorem dX5_init_182 : decode cX5_init 182 = .ok (.putfield 75, 3) := by decide +kernel
theorem dX5_init_185 : decode cX5_init 185 = .ok (.aload_n 0, 1) := by decide +kernel
theorem dX5_init_186 : decode cX5_init 186 = .ok (.iconst 5, 1) := by decide +kernel
theorem dX5_init_187 : decode cX5_init 187 = .ok (.newarray .int, 2) := by decide +kernel
theorem dX5_init_189 : decode cX5_init 189 = .ok (.putfield 78, 3) := by decide +kernel
theorem dX5_init_192 : decode cX5_init 192 = .ok (.aload_n 0, 1) := by decide +kernel
theorem dX5_init_193 : decode cX5_init 193 = .ok (.iconst 5, 1) := by decide +kernel
theorem dX5_init_194 : decode cX5_init 194 = .ok (.newarray .int, 2) := by decide +kernel
theorem dX5_init_196 : decode cX5_init 196 = .ok (.putfield 81, 3) := by decide +kernel
theorem dX5_init_199 : decode cX5_init 199 = .ok (.aload_n 0, 1) := by decide +kernel
theorem dX5_init_200 : decode cX5_init 200 = .ok (.iconst 5, 1) := by decide +kernel
theorem dX5_init_201 : decode cX5_init 201 = .ok (.newarray .int, 2) := by decide +kernel
theorem dX5_init_203 : decode cX5_init 203 = .ok (.putfield 84, 3) := by decide +kernel
theorem dX5_init_206 : decode cX5_init 206 = .ok (.aload_n 0, 1) := by decide +kernel
theorem dX5_init_207 : decode cX5_init 207 = .ok (.iconst 5, 1) := by decide +kernel
theorem dX5_init_208 : decode cX5_init 208 = .ok (.newarray .int, 2) := by decide +kernel
theorem dX5_init_210 : decode cX5_init 210 = .ok (.putfield 87, 3) := by decide +kernel
theorem dX5_init_213 : decode cX5_init 213 = .ok (.aload_n 0, 1) := by decide +kernel
theorem dX5_init_214 : decode cX5_init 214 = .ok (.iconst 5, 1) := by decide +kernel
theorem dX5_init_215 : decode cX5_init 215 = .ok (.newarray .int, 2) := by decide +kernel
theorem dX5_init_217 : decode cX5_init 217 = .ok (.putfield 90, 3) := by decide +kernel
theorem dX5_init_220 : decode cX5_init 220 = .ok (.aload_n 0, 1) := by decide +kernel
theorem dX5_init_221 : decode cX5_init 221 = .ok (.sipush 200, 3) := by decide +kernel
theorem dX5_init_224 : decode cX5_init 224 = .ok (.newarray .int, 2) := by decide +kernel
theorem dX5_init_226 : decode cX5_init 226 = .ok (.putfield 93, 3) := by decide +kernel
theorem dX5_init_229 : decode cX5_init 229 = .ok (.aload_n 0, 1) := by decide +kernel
theorem dX5_init_230 : decode cX5_init 230 = .ok (.sipush 128, 3) := by decide +kernel
theorem dX5_init_233 : decode cX5_init 233 = .ok (.newarray .int, 2) := by decide +kernel
theorem dX5_init_235 : decode cX5_init 235 = .ok (.putfield 96, 3) := by decide +kernel
theorem dX5_init_238 : decode cX5_init 238 = .ok (.return_, 1) := by decide +kernel
theorem dX5_thrown_0 : decode cX5_thrown 0 = .ok (.aload_n 0, 1) := by decide +kernel
theorem dX5_thrown_1 : decode cX5_thrown 1 = .ok (.getfield 99, 3) := by decide +kernel
theorem dX5_thrown_4 : decode cX5_thrown 4 = .ok (.ireturn, 1) := by decide +kernel
theorem dX5_isNode_0 : decode cX5_isNode 0 = .ok (.iload_n 0, 1) := by decide +kernel
theorem dX5_isNode_1 : decode cX5_isNode 1 = .ok (.ifCond .lt 12, 3) := by decide +kernel
theorem dX5_isNode_4 : decode cX5_isNode 4 = .ok (.iload_n 0, 1) := by decide +kernel
theorem dX5_isNode_5 : decode cX5_isNode 5 = .ok (.iconst 4, 1) := by decide +kernel
theorem dX5_isNode_6 : decode cX5_isNode 6 = .ok (.if_icmp .ge 7, 3) := by decide +kernel
theorem dX5_isNode_9 : decode cX5_isNode 9 = .ok (.iconst 1, 1) := by decide +kernel
theorem dX5_isNode_10 : decode cX5_isNode 10 = .ok (.goto 4, 3) := by decide +kernel
theorem dX5_isNode_13 : decode cX5_isNode 13 = .ok (.iconst 0, 1) := by decide +kernel
theorem dX5_isNode_14 : decode cX5_isNode 14 = .ok (.ireturn, 1) := by decide +kernel
theorem dX5_say_0 : decode cX5_say 0 = .ok (.iload_n 2, 1) := by decide +kernel
theorem dX5_say_1 : decode cX5_say 1 = .ok (.iconst 1, 1) := by decide +kernel
theorem dX5_say_2 : decode cX5_say 2 = .ok (.isub, 1) := by decide +kernel
theorem dX5_say_3 : decode cX5_say 3 = .ok (.istore_n 3, 1) := by decide +kernel
theorem dX5_say_4 : decode cX5_say 4 = .ok (.iload_n 3, 1) := by decide +kernel
theorem dX5_say_5 : decode cX5_say 5 = .ok (.ifCond .lt 33, 3) := by decide +kernel
theorem dX5_say_8 : decode cX5_say 8 = .ok (.aload_n 0, 1) := by decide +kernel
theorem dX5_say_9 : decode cX5_say 9 = .ok (.getfield 96, 3) := by decide +kernel
theorem dX5_say_12 : decode cX5_say 12 = .ok (.aload_n 0, 1) := by decide +kernel
theorem dX5_say_13 : decode cX5_say 13 = .ok (.getfield 103, 3) := by decide +kernel
theorem dX5_say_16 : decode cX5_say 16 = .ok (.iload_n 1, 1) := by decide +kernel
theorem dX5_say_17 : decode cX5_say 17 = .ok (.iload_n 3, 1) := by decide +kernel
theorem dX5_say_18 : decode cX5_say 18 = .ok (.ishr, 1) := by decide +kernel
theorem dX5_say_19 : decode cX5_say 19 = .ok (.iconst 1, 1) := by decide +kernel
theorem dX5_say_20 : decode cX5_say 20 = .ok (.iand, 1) := by decide +kernel
theorem dX5_say_21 : decode cX5_say 21 = .ok (.iastore, 1) := by decide +kernel
theorem dX5_say_22 : decode cX5_say 22 = .ok (.aload_n 0, 1) := by decide +kernel
theorem dX5_say_23 : decode cX5_say 23 = .ok (.dup, 1) := by decide +kernel
theorem dX5_say_24 : decode cX5_say 24 = .ok (.getfield 103, 3) := by decide +kernel
theorem dX5_say_27 : decode cX5_say 27 = .ok (.iconst 1, 1) := by decide +kernel
theorem dX5_say_28 : decode cX5_say 28 = .ok (.iadd, 1) := by decide +kernel
theorem dX5_say_29 : decode cX5_say 29 = .ok (.putfield 103, 3) := by decide +kernel
theorem dX5_say_32 : decode cX5_say 32 = .ok (.iinc 3 (-1), 3) := by decide +kernel
theorem dX5_say_35 : decode cX5_say 35 = .ok (.goto (-31), 3) := by decide +kernel
theorem dX5_say_38 : decode cX5_say 38 = .ok (.return_, 1) := by decide +kernel
theorem dX5_nextCheck_0 : decode cX5_nextCheck 0 = .ok (.iload_n 1, 1) := by decide +kernel
theorem dX5_nextCheck_1 : decode cX5_nextCheck 1 = .ok (.iload_n 0, 1) := by decide +kernel
theorem dX5_nextCheck_2 : decode cX5_nextCheck 2 = .ok (.bipush 14, 2) := by decide +kernel
theorem dX5_nextCheck_4 : decode cX5_nextCheck 4 = .ok (.ishr, 1) := by decide +kernel
theorem dX5_nextCheck_5 : decode cX5_nextCheck 5 = .ok (.ixor, 1) := by decide +kernel
theorem dX5_nextCheck_6 : decode cX5_nextCheck 6 = .ok (.istore_n 2, 1) := by decide +kernel
theorem dX5_nextCheck_7 : decode cX5_nextCheck 7 = .ok (.iload_n 0, 1) := by decide +kernel
theorem dX5_nextCheck_8 : decode cX5_nextCheck 8 = .ok (.iconst 1, 1) := by decide +kernel
theorem dX5_nextCheck_9 : decode cX5_nextCheck 9 = .ok (.ishl, 1) := by decide +kernel
theorem dX5_nextCheck_10 : decode cX5_nextCheck 10 = .ok (.sipush 32767, 3) := by decide +kernel
theorem dX5_nextCheck_13 : decode cX5_nextCheck 13 = .ok (.iand, 1) := by decide +kernel
theorem dX5_nextCheck_14 : decode cX5_nextCheck 14 = .ok (.istore_n 3, 1) := by decide +kernel
theorem dX5_nextCheck_15 : decode cX5_nextCheck 15 = .ok (.iload_n 2, 1) := by decide +kernel
theorem dX5_nextCheck_16 : decode cX5_nextCheck 16 = .ok (.iconst 1, 1) := by decide +kernel
theorem dX5_nextCheck_17 : decode cX5_nextCheck 17 = .ok (.if_icmp .ne 11, 3) := by decide +kernel
theorem dX5_nextCheck_20 : decode cX5_nextCheck 20 = .ok (.iload_n 3, 1) := by decide +kernel
theorem dX5_nextCheck_21 : decode cX5_nextCheck 21 = .ok (.sipush 17817, 3) := by decide +kernel
theorem dX5_nextCheck_24 : decode cX5_nextCheck 24 = .ok (.ixor, 1) := by decide +kernel
theorem dX5_nextCheck_25 : decode cX5_nextCheck 25 = .ok (.goto 4, 3) := by decide +kernel
theorem dX5_nextCheck_28 : decode cX5_nextCheck 28 = .ok (.iload_n 3, 1) := by decide +kernel
theorem dX5_nextCheck_29 : decode cX5_nextCheck 29 = .ok (.ireturn, 1) := by decide +kernel
theorem dX5_lay_0 : decode cX5_lay 0 = .ok (.aload_n 0, 1) := by decide +kernel
theorem dX5_lay_1 : decode cX5_lay 1 = .ok (.getfield 57, 3) := by decide +kernel
theorem dX5_lay_4 : decode cX5_lay 4 = .ok (.sipush 200, 3) := by decide +kernel
theorem dX5_lay_7 : decode cX5_lay 7 = .ok (.iload_n 1, 1) := by decide +kernel
theorem dX5_lay_8 : decode cX5_lay 8 = .ok (.imul, 1) := by decide +kernel
theorem dX5_lay_9 : decode cX5_lay 9 = .ok (.iload_n 2, 1) := by decide +kernel
theorem dX5_lay_10 : decode cX5_lay 10 = .ok (.iadd, 1) := by decide +kernel
theorem dX5_lay_11 : decode cX5_lay 11 = .ok (.iload_n 3, 1) := by decide +kernel
theorem dX5_lay_12 : decode cX5_lay 12 = .ok (.iastore, 1) := by decide +kernel
theorem dX5_lay_13 : decode cX5_lay 13 = .ok (.aload_n 0, 1) := by decide +kernel
theorem dX5_lay_14 : decode cX5_lay 14 = .ok (.getfield 60, 3) := by decide +kernel
theorem dX5_lay_17 : decode cX5_lay 17 = .ok (.sipush 200, 3) := by decide +kernel
theorem dX5_lay_20 : decode cX5_lay 20 = .ok (.iload_n 1, 1) := by decide +kernel
theorem dX5_lay_21 : decode cX5_lay 21 = .ok (.imul, 1) := by decide +kernel
theorem dX5_lay_22 : decode cX5_lay 22 = .ok (.iload_n 2, 1) := by decide +kernel
theorem dX5_lay_23 : decode cX5_lay 23 = .ok (.iadd, 1) := by decide +kernel
theorem dX5_lay_24 : decode cX5_lay 24 = .ok (.iload 4, 2) := by decide +kernel
theorem dX5_lay_26 : decode cX5_lay 26 = .ok (.iastore, 1) := by decide +kernel
theorem dX5_lay_27 : decode cX5_lay 27 = .ok (.iload_n 2, 1) := by decide +kernel
theorem dX5_lay_28 : decode cX5_lay 28 = .ok (.iconst 1, 1) := by decide +kernel
theorem dX5_lay_29 : decode cX5_lay 29 = .ok (.iadd, 1) := by decide +kernel
theorem dX5_lay_30 : decode cX5_lay 30 = .ok (.ireturn, 1) := by decide +kernel
set_option maxRecDepth 20000 in
theorem ggX5_make_X5_say : GoodIn wsX5_make wsX5_say := goodIn_r _ [13, 7, 1, 23, 24, 25, 26, 27, 28, 29, 30, 31, 32, 33, 34, 35, 36, 37, 38, 39, 40, 41, 42, 43, 44, 45, 46, 47, 48, 49, 50, 51, 52, 53, 54, 55, 56, 57] (by decide +kernel) (by decide +kernel)
set_option maxRecDepth 20000 in
theorem gX5_make_X5_say : GoodIn wsX5_make (wsV RX5 106 RX5 yX5_say wsX5_say) := goodIn_app (goodIn_of _ (by decide +kernel)) ggX5_make_X5_say
set_option maxRecDepth 20000 in
theorem ggX5_make_X5_nextCheck : GoodIn wsX5_make wsX5_nextCheck := goodIn_r _ [16] (by decide +kernel) (by decide +kernel)
set_option maxRecDepth 20000 in
theorem gX5_make_X5_nextCheck : GoodIn wsX5_make (va_wsS RX5 112 yX5_nextCheck wsX5_nextCheck) := goodIn_app (goodIn_of _ (by decide +kernel)) ggX5_make_X5_nextCheck
set_option maxRecDepth 20000 in
theorem ggX5_make_X5_lay : GoodIn wsX5_make wsX5_lay := goodIn_r _ [20, 21, 22, 23, 24, 25, 26, 27, 28, 29, 30, 31, 32, 33, 34, 35, 36, 37, 38, 39, 40, 41, 42, 43, 44, 45, 46, 47, 48, 49, 50, 51, 52, 53, 54, 55, 56, 57] (by decide +kernel) (by decide +kernel)
set_option maxRecDepth 20000 in
theorem gX5_make_X5_lay : GoodIn wsX5_make (wsV RX5 116 RX5 yX5_lay wsX5_lay) := goodIn_app (goodIn_of _ (by decide +kernel)) ggX5_make_X5_lay
theorem dX5_make_0 : decode cX5_make 0 = .ok (.aload_n 0, 1) := by decide +kernel
theorem dX5_make_1 : decode cX5_make 1 = .ok (.iconst 0, 1) := by decide +kernel
theorem dX5_make_2 : decode cX5_make 2 = .ok (.putfield 103, 3) := by decide +kernel
theorem dX5_make_5 : decode cX5_make 5 = .ok (.aload_n 0, 1) := by decide +kernel
theorem dX5_make_6 : decode cX5_make 6 = .ok (.iconst 0, 1) := by decide +kernel
theorem dX5_make_7 : decode cX5_make 7 = .ok (.iconst 1, 1) := by decide +kernel
theorem dX5_make_8 : decode cX5_make 8 = .ok (.invokevirtual 106, 3) := by decide +kernel
theorem dX5_make_11 : decode cX5_make 11 = .ok (.aload_n 0, 1) := by decide +kernel
theorem dX5_make_12 : decode cX5_make 12 = .ok (.getfield 31, 3) := by decide +kernel
theorem dX5_make_15 : decode cX5_make 15 = .ok (.iload_n 1, 1) := by decide +kernel
theorem dX5_make_16 : decode cX5_make 16 = .ok (.baload, 1) := by decide +kernel
theorem dX5_make_17 : decode cX5_make 17 = .ok (.ifCond .eq 39, 3) := by decide +kernel
theorem dX5_make_20 : decode cX5_make 20 = .ok (.aload_n 0, 1) := by decide +kernel
theorem dX5_make_21 : decode cX5_make 21 = .ok (.aload_n 0, 1) := by decide +kernel
theorem dX5_make_22 : decode cX5_make 22 = .ok (.getfield 35, 3) := by decide +kernel
theorem dX5_make_25 : decode cX5_make 25 = .ok (.iload_n 1, 1) := by decide +kernel
theorem dX5_make_26 : decode cX5_make 26 = .ok (.iaload, 1) := by decide +kernel
theorem dX5_make_27 : decode cX5_make 27 = .ok (.bipush 18, 2) := by decide +kernel
theorem dX5_make_29 : decode cX5_make 29 = .ok (.ishr, 1) := by decide +kernel
theorem dX5_make_30 : decode cX5_make 30 = .ok (.bipush 11, 2) := by decide +kernel
theorem dX5_make_32 : decode cX5_make 32 = .ok (.invokevirtual 106, 3) := by decide +kernel
theorem dX5_make_35 : decode cX5_make 35 = .ok (.aload_n 0, 1) := by decide +kernel
theorem dX5_make_36 : decode cX5_make 36 = .ok (.iconst 3, 1) := by decide +kernel
theorem dX5_make_37 : decode cX5_make 37 = .ok (.iconst 2, 1) := by decide +kernel
theorem dX5_make_38 : decode cX5_make 38 = .ok (.invokevirtual 106, 3) := by decide +kernel
theorem dX5_make_41 : decode cX5_make 41 = .ok (.aload_n 0, 1) := by decide +kernel
theorem dX5_make_42 : decode cX5_make 42 = .ok (.aload_n 0, 1) := by decide +kernel
theorem dX5_make_43 : decode cX5_make 43 = .ok (.getfield 35, 3) := by decide +kernel
theorem dX5_make_46 : decode cX5_make 46 = .ok (.iload_n 1, 1) := by decide +kernel
theorem dX5_make_47 : decode cX5_make 47 = .ok (.iaload, 1) := by decide +kernel
theorem dX5_make_48 : decode cX5_make 48 = .ok (.bipush 18, 2) := by decide +kernel
theorem dX5_make_50 : decode cX5_make 50 = .ok (.invokevirtual 106, 3) := by decide +kernel
theorem dX5_make_53 : decode cX5_make 53 = .ok (.goto 15, 3) := by decide +kernel
theorem dX5_make_56 : decode cX5_make 56 = .ok (.aload_n 0, 1) := by decide +kernel
theorem dX5_make_57 : decode cX5_make 57 = .ok (.aload_n 0, 1) := by decide +kernel
theorem dX5_make_58 : decode cX5_make 58 = .ok (.getfield 35, 3) := by decide +kernel
theorem dX5_make_61 : decode cX5_make 61 = .ok (.iload_n 1, 1) := by decide +kernel
theorem dX5_make_62 : decode cX5_make 62 = .ok (.iaload, 1) := by decide +kernel
theorem dX5_make_63 : decode cX5_make 63 = .ok (.bipush 11, 2) := by decide +kernel
theorem dX5_make_65 : decode cX5_make 65 = .ok (.invokevirtual 106, 3) := by decide +kernel
theorem dX5_make_68 : decode cX5_make 68 = .ok (.aload_n 0, 1) := by decide +kernel
theorem dX5_make_69 : decode cX5_make 69 = .ok (.iconst 0, 1) := by decide +kernel
theorem dX5_make_70 : decode cX5_make 70 = .ok (.iconst 3, 1) := by decide +kernel
theorem dX5_make_71 : decode cX5_make 71 = .ok (.invokevirtual 106, 3) := by decide +kernel
theorem dX5_make_74 : decode cX5_make 74 = .ok (.aload_n 0, 1) := by decide +kernel
theorem dX5_make_75 : decode cX5_make 75 = .ok (.aload_n 0, 1) := by decide +kernel
theorem dX5_make_76 : decode cX5_make 76 = .ok (.getfield 42, 3) := by decide +kernel
theorem dX5_make_79 : decode cX5_make 79 = .ok (.iload_n 1, 1) := by decide +kernel
theorem dX5_make_80 : decode cX5_make 80 = .ok (.iaload, 1) := by decide +kernel
theorem dX5_make_81 : decode cX5_make 81 = .ok (.iconst 4, 1) := by decide +kernel
theorem dX5_make_82 : decode cX5_make 82 = .ok (.invokevirtual 106, 3) := by decide +kernel
theorem dX5_make_85 : decode cX5_make 85 = .ok (.iconst 0, 1) := by decide +kernel
theorem dX5_make_86 : decode cX5_make 86 = .ok (.istore_n 3, 1) := by decide +kernel
theorem dX5_make_87 : decode cX5_make 87 = .ok (.iload_n 3, 1) := by decide +kernel
theorem dX5_make_88 : decode cX5_make 88 = .ok (.aload_n 0, 1) := by decide +kernel
theorem dX5_make_89 : decode cX5_make 89 = .ok (.getfield 42, 3) := by decide +kernel
theorem dX5_make_92 : decode cX5_make 92 = .ok (.iload_n 1, 1) := by decide +kernel
theorem dX5_make_93 : decode cX5_make 93 = .ok (.iaload, 1) := by decide +kernel
theorem dX5_make_94 : decode cX5_make 94 = .ok (.if_icmp .ge 31, 3) := by decide +kernel
theorem dX5_make_97 : decode cX5_make 97 = .ok (.aload_n 0, 1) := by decide +kernel
theorem dX5_make_98 : decode cX5_make 98 = .ok (.aload_n 0, 1) := by decide +kernel
theorem dX5_make_99 : decode cX5_make 99 = .ok (.getfield 38, 3) := by decide +kernel
theorem dX5_make_102 : decode cX5_make 102 = .ok (.iload_n 1, 1) := by decide +kernel
theorem dX5_make_103 : decode cX5_make 103 = .ok (.laload, 1) := by decide +kernel
theorem dX5_make_104 : decode cX5_make 104 = .ok (.bipush 8, 2) := by decide +kernel
theorem dX5_make_106 : decode cX5_make 106 = .ok (.iload_n 3, 1) := by decide +kernel
theorem dX5_make_107 : decode cX5_make 107 = .ok (.imul, 1) := by decide +kernel
theorem dX5_make_108 : decode cX5_make 108 = .ok (.lshr, 1) := by decide +kernel
theorem dX5_make_109 : decode cX5_make 109 = .ok (.ldc2_w 110, 3) := by decide +kernel
theorem dX5_make_112 : decode cX5_make 112 = .ok (.land, 1) := by decide +kernel
theorem dX5_make_113 : decode cX5_make 113 = .ok (.l2i, 1) := by decide +kernel
theorem dX5_make_114 : decode cX5_make 114 = .ok (.bipush 8, 2) := by decide +kernel
theorem dX5_make_116 : decode cX5_make 116 = .ok (.invokevirtual 106, 3) := by decide +kernel
theorem dX5_make_119 : decode cX5_make 119 = .ok (.iinc 3 1, 3) := by decide +kernel
theorem dX5_make_122 : decode cX5_make 122 = .ok (.goto (-35), 3) := by decide +kernel
theorem dX5_make_125 : decode cX5_make 125 = .ok (.iconst 0, 1) := by decide +kernel
theorem dX5_make_126 : decode cX5_make 126 = .ok (.istore_n 3, 1) := by decide +kernel
theorem dX5_make_127 : decode cX5_make 127 = .ok (.iconst 0, 1) := by decide +kernel
theorem dX5_make_128 : decode cX5_make 128 = .ok (.istore 4, 2) := by decide +kernel
theorem dX5_make_130 : decode cX5_make 130 = .ok (.iload 4, 2) := by decide +kernel
theorem dX5_make_132 : decode cX5_make 132 = .ok (.aload_n 0, 1) := by decide +kernel
theorem dX5_make_133 : decode cX5_make 133 = .ok (.getfield 103, 3) := by decide +kernel
theorem dX5_make_136 : decode cX5_make 136 = .ok (.if_icmp .ge 21, 3) := by decide +kernel
theorem dX5_make_139 : decode cX5_make 139 = .ok (.iload_n 3, 1) := by decide +kernel
theorem dX5_make_140 : decode cX5_make 140 = .ok (.aload_n 0, 1) := by decide +kernel
theorem dX5_make_141 : decode cX5_make 141 = .ok (.getfield 96, 3) := by decide +kernel
theorem dX5_make_144 : decode cX5_make 144 = .ok (.iload 4, 2) := by decide +kernel
theorem dX5_make_146 : decode cX5_make 146 = .ok (.iaload, 1) := by decide +kernel
theorem dX5_make_147 : decode cX5_make 147 = .ok (.invokestatic 112, 3) := by decide +kernel
theorem dX5_make_150 : decode cX5_make 150 = .ok (.istore_n 3, 1) := by decide +kernel
theorem dX5_make_151 : decode cX5_make 151 = .ok (.iinc 4 1, 3) := by decide +kernel
theorem dX5_make_154 : decode cX5_make 154 = .ok (.goto (-24), 3) := by decide +kernel
theorem dX5_make_157 : decode cX5_make 157 = .ok (.aload_n 0, 1) := by decide +kernel
theorem dX5_make_158 : decode cX5_make 158 = .ok (.iload_n 3, 1) := by decide +kernel
theorem dX5_make_159 : decode cX5_make 159 = .ok (.bipush 15, 2) := by decide +kernel
theorem dX5_make_161 : decode cX5_make 161 = .ok (.invokevirtual 106, 3) := by decide +kernel
theorem dX5_make_164 : decode cX5_make 164 = .ok (.iconst 0, 1) := by decide +kernel
theorem dX5_make_165 : decode cX5_make 165 = .ok (.istore 4, 2) := by decide +kernel
theorem dX5_make_167 : decode cX5_make 167 = .ok (.iconst 0, 1) := by decide +kernel
theorem dX5_make_168 : decode cX5_make 168 = .ok (.istore 5, 2) := by decide +kernel
theorem dX5_make_170 : decode cX5_make 170 = .ok (.iconst 2, 1) := by decide +kernel
theorem dX5_make_171 : decode cX5_make 171 = .ok (.istore 6, 2) := by decide +kernel
theorem dX5_make_173 : decode cX5_make 173 = .ok (.iconst 0, 1) := by decide +kernel
theorem dX5_make_174 : decode cX5_make 174 = .ok (.istore 7, 2) := by decide +kernel
theorem dX5_make_176 : decode cX5_make 176 = .ok (.iload 7, 2) := by decide +kernel
theorem dX5_make_178 : decode cX5_make 178 = .ok (.aload_n 0, 1) := by decide +kernel
theorem dX5_make_179 : decode cX5_make 179 = .ok (.getfield 103, 3) := by decide +kernel
theorem dX5_make_182 : decode cX5_make 182 = .ok (.if_icmp .ge 96, 3) := by decide +kernel
theorem dX5_make_185 : decode cX5_make 185 = .ok (.aload_n 0, 1) := by decide +kernel
theorem dX5_make_186 : decode cX5_make 186 = .ok (.iload_n 2, 1) := by decide +kernel
theorem dX5_make_187 : decode cX5_make 187 = .ok (.iload 4, 2) := by decide +kernel
theorem dX5_make_189 : decode cX5_make 189 = .ok (.aload_n 0, 1) := by decide +kernel
theorem dX5_make_190 : decode cX5_make 190 = .ok (.getfield 96, 3) := by decide +kernel
theorem dX5_make_193 : decode cX5_make 193 = .ok (.iload 7, 2) := by decide +kernel
theorem dX5_make_195 : decode cX5_make 195 = .ok (.iaload, 1) := by decide +kernel
theorem dX5_make_196 : decode cX5_make 196 = .ok (.iload 7, 2) := by decide +kernel
theorem dX5_make_198 : decode cX5_make 198 = .ok (.invokevirtual 116, 3) := by decide +kernel
theorem dX5_make_201 : decode cX5_make 201 = .ok (.istore 4, 2) := by decide +kernel
theorem dX5_make_203 : decode cX5_make 203 = .ok (.aload_n 0, 1) := by decide +kernel
theorem dX5_make_204 : decode cX5_make 204 = .ok (.getfield 96, 3) := by decide +kernel
theorem dX5_make_207 : decode cX5_make 207 = .ok (.iload 7, 2) := by decide +kernel
theorem dX5_make_209 : decode cX5_make 209 = .ok (.iaload, 1) := by decide +kernel
theorem dX5_make_210 : decode cX5_make 210 = .ok (.iload 6, 2) := by decide +kernel
theorem dX5_make_212 : decode cX5_make 212 = .ok (.if_icmp .ne 10, 3) := by decide +kernel
theorem dX5_make_215 : decode cX5_make 215 = .ok (.iload 5, 2) := by decide +kernel
theorem dX5_make_217 : decode cX5_make 217 = .ok (.iconst 1, 1) := by decide +kernel
theorem dX5_make_218 : decode cX5_make 218 = .ok (.iadd, 1) := by decide +kernel
theorem dX5_make_219 : decode cX5_make 219 = .ok (.goto 4, 3) := by decide +kernel
theorem dX5_make_222 : decode cX5_make 222 = .ok (.iconst 1, 1) := by decide +kernel
theorem dX5_make_223 : decode cX5_make 223 = .ok (.istore 5, 2) := by decide +kernel
theorem dX5_make_225 : decode cX5_make 225 = .ok (.aload_n 0, 1) := by decide +kernel
theorem dX5_make_226 : decode cX5_make 226 = .ok (.getfield 96, 3) := by decide +kernel
theorem dX5_make_229 : decode cX5_make 229 = .ok (.iload 7, 2) := by decide +kernel
theorem dX5_make_231 : decode cX5_make 231 = .ok (.iaload, 1) := by decide +kernel
theorem dX5_make_232 : decode cX5_make 232 = .ok (.istore 6, 2) := by decide +kernel
theorem dX5_make_234 : decode cX5_make 234 = .ok (.iload 5, 2) := by decide +kernel
theorem dX5_make_236 : decode cX5_make 236 = .ok (.iconst 5, 1) := by decide +kernel
theorem dX5_make_237 : decode cX5_make 237 = .ok (.if_icmp .ne 35, 3) := by decide +kernel
theorem dX5_make_240 : decode cX5_make 240 = .ok (.iload 7, 2) := by decide +kernel
theorem dX5_make_242 : decode cX5_make 242 = .ok (.aload_n 0, 1) := by decide +kernel
theorem dX5_make_243 : decode cX5_make 243 = .ok (.getfield 103, 3) := by decide +kernel
theorem dX5_make_246 : decode cX5_make 246 = .ok (.iconst 1, 1) := by decide +kernel
theorem dX5_make_247 : decode cX5_make 247 = .ok (.isub, 1) := by decide +kernel
theorem dX5_make_248 : decode cX5_make 248 = .ok (.if_icmp .ge 24, 3) := by decide +kernel
theorem dX5_make_251 : decode cX5_make 251 = .ok (.iconst 1, 1) := by decide +kernel
theorem dX5_make_252 : decode cX5_make 252 = .ok (.iload 6, 2) := by decide +kernel
theorem dX5_make_254 : decode cX5_make 254 = .ok (.isub, 1) := by decide +kernel
theorem dX5_make_255 : decode cX5_make 255 = .ok (.istore 6, 2) := by decide +kernel
theorem dX5_make_257 : decode cX5_make 257 = .ok (.iconst 1, 1) := by decide +kernel
theorem dX5_make_258 : decode cX5_make 258 = .ok (.istore 5, 2) := by decide +kernel
theorem dX5_make_260 : decode cX5_make 260 = .ok (.aload_n 0, 1) := by decide +kernel
theorem dX5_make_261 : decode cX5_make 261 = .ok (.iload_n 2, 1) := by decide +kernel
theorem dX5_make_262 : decode cX5_make 262 = .ok (.iload 4, 2) := by decide +kernel
theorem dX5_make_264 : decode cX5_make 264 = .ok (.iload 6, 2) := by decide +kernel
theorem dX5_make_266 : decode cX5_make 266 = .ok (.iconst (-1), 1) := by decide +kernel
theorem dX5_make_267 : decode cX5_make 267 = .ok (.invokevirtual 116, 3) := by decide +kernel
theorem dX5_make_270 : decode cX5_make 270 = .ok (.istore 4, 2) := by decide +kernel
theorem dX5_make_272 : decode cX5_make 272 = .ok (.iinc 7 1, 3) := by decide +kernel
theorem dX5_make_275 : decode cX5_make 275 = .ok (.goto (-99), 3) := by decide +kernel
theorem dX5_make_278 : decode cX5_make 278 = .ok (.aload_n 0, 1) := by decide +kernel
theorem dX5_make_279 : decode cX5_make 279 = .ok (.iload_n 2, 1) := by decide +kernel
theorem dX5_make_280 : decode cX5_make 280 = .ok (.iload 4, 2) := by decide +kernel
theorem dX5_make_282 : decode cX5_make 282 = .ok (.iconst 1, 1) := by decide +kernel
theorem dX5_make_283 : decode cX5_make 283 = .ok (.sipush 200, 3) := by decide +kernel
theorem dX5_make_286 : decode cX5_make 286 = .ok (.invokevirtual 116, 3) := by decide +kernel
theorem dX5_make_289 : decode cX5_make 289 = .ok (.istore 4, 2) := by decide +kernel
theorem dX5_make_291 : decode cX5_make 291 = .ok (.aload_n 0, 1) := by decide +kernel
theorem dX5_make_292 : decode cX5_make 292 = .ok (.iload_n 2, 1) := by decide +kernel
theorem dX5_make_293 : decode cX5_make 293 = .ok (.iload 4, 2) := by decide +kernel
theorem dX5_make_295 : decode cX5_make 295 = .ok (.iconst 1, 1) := by decide +kernel
theorem dX5_make_296 : decode cX5_make 296 = .ok (.sipush 201, 3) := by decide +kernel
theorem dX5_make_299 : decode cX5_make 299 = .ok (.invokevirtual 116, 3) := by decide +kernel
theorem dX5_make_302 : decode cX5_make 302 = .ok (.istore 4, 2) := by decide +kernel
theorem dX5_make_304 : decode cX5_make 304 = .ok (.iconst 0, 1) := by decide +kernel
theorem dX5_make_305 : decode cX5_make 305 = .ok (.istore 7, 2) := by decide +kernel
theorem dX5_make_307 : decode cX5_make 307 = .ok (.iload 7, 2) := by decide +kernel
theorem dX5_make_309 : decode cX5_make 309 = .ok (.bipush 8, 2) := by decide +kernel
theorem dX5_make_311 : decode cX5_make 311 = .ok (.if_icmp .ge 22, 3) := by decide +kernel
theorem dX5_make_314 : decode cX5_make 314 = .ok (.aload_n 0, 1) := by decide +kernel
theorem dX5_make_315 : decode cX5_make 315 = .ok (.iload_n 2, 1) := by decide +kernel
theorem dX5_make_316 : decode cX5_make 316 = .ok (.iload 4, 2) := by decide +kernel
theorem dX5_make_318 : decode cX5_make 318 = .ok (.iconst 1, 1) := by decide +kernel
theorem dX5_make_319 : decode cX5_make 319 = .ok (.sipush 200, 3) := by decide +kernel
theorem dX5_make_322 : decode cX5_make 322 = .ok (.invokevirtual 116, 3) := by decide +kernel
theorem dX5_make_325 : decode cX5_make 325 = .ok (.istore 4, 2) := by decide +kernel
theorem dX5_make_327 : decode cX5_make 327 = .ok (.iinc 7 1, 3) := by decide +kernel
theorem dX5_make_330 : decode cX5_make 330 = .ok (.goto (-23), 3) := by decide +kernel
theorem dX5_make_333 : decode cX5_make 333 = .ok (.aload_n 0, 1) := by decide +kernel
theorem dX5_make_334 : decode cX5_make 334 = .ok (.getfield 63, 3) := by decide +kernel
theorem dX5_make_337 : decode cX5_make 337 = .ok (.iload_n 2, 1) := by decide +kernel
theorem dX5_make_338 : decode cX5_make 338 = .ok (.iload 4, 2) := by decide +kernel
theorem dX5_make_340 : decode cX5_make 340 = .ok (.iastore, 1) := by decide +kernel
theorem dX5_make_341 : decode cX5_make 341 = .ok (.return_, 1) := by decide +kernel
theorem dX5_begin_0 : decode cX5_begin 0 = .ok (.aload_n 0, 1) := by decide +kernel
theorem dX5_begin_1 : decode cX5_begin 1 = .ok (.getfield 78, 3) := by decide +kernel
theorem dX5_begin_4 : decode cX5_begin 4 = .ok (.iload_n 1, 1) := by decide +kernel
theorem dX5_begin_5 : decode cX5_begin 5 = .ok (.iconst 0, 1) := by decide +kernel
theorem dX5_begin_6 : decode cX5_begin 6 = .ok (.iastore, 1) := by decide +kernel
theorem dX5_begin_7 : decode cX5_begin 7 = .ok (.aload_n 0, 1) := by decide +kernel
theorem dX5_begin_8 : decode cX5_begin 8 = .ok (.getfield 81, 3) := by decide +kernel
theorem dX5_begin_11 : decode cX5_begin 11 = .ok (.iload_n 1, 1) := by decide +kernel
theorem dX5_begin_12 : decode cX5_begin 12 = .ok (.iconst 0, 1) := by decide +kernel
theorem dX5_begin_13 : decode cX5_begin 13 = .ok (.iastore, 1) := by decide +kernel
theorem dX5_begin_14 : decode cX5_begin 14 = .ok (.aload_n 0, 1) := by decide +kernel
theorem dX5_begin_15 : decode cX5_begin 15 = .ok (.getfield 84, 3) := by decide +kernel
theorem dX5_begin_18 : decode cX5_begin 18 = .ok (.iload_n 1, 1) := by decide +kernel
theorem dX5_begin_19 : decode cX5_begin 19 = .ok (.iconst 2, 1) := by decide +kernel
theorem dX5_begin_20 : decode cX5_begin 20 = .ok (.iastore, 1) := by decide +kernel
theorem dX5_begin_21 : decode cX5_begin 21 = .ok (.aload_n 0, 1) := by decide +kernel
theorem dX5_begin_22 : decode cX5_begin 22 = .ok (.getfield 87, 3) := by decide +kernel
theorem dX5_begin_25 : decode cX5_begin 25 = .ok (.iload_n 1, 1) := by decide +kernel
theorem dX5_begin_26 : decode cX5_begin 26 = .ok (.sipush 999, 3) := by decide +kernel
theorem dX5_begin_29 : decode cX5_begin 29 = .ok (.iastore, 1) := by decide +kernel
theorem dX5_begin_30 : decode cX5_begin 30 = .ok (.aload_n 0, 1) := by decide +kernel
theorem dX5_begin_31 : decode cX5_begin 31 = .ok (.getfield 90, 3) := by decide +kernel
theorem dX5_begin_34 : decode cX5_begin 34 = .ok (.iload_n 1, 1) := by decide +kernel
theorem dX5_begin_35 : decode cX5_begin 35 = .ok (.iconst 0, 1) := by decide +kernel
theorem dX5_begin_36 : decode cX5_begin 36 = .ok (.iastore, 1) := by decide +kernel
theorem dX5_begin_37 : decode cX5_begin 37 = .ok (.return_, 1) := by decide +kernel
theorem dX5_isLong_0 : decode cX5_isLong 0 = .ok (.aload_n 0, 1) := by decide +kernel
theorem dX5_isLong_1 : decode cX5_isLong 1 = .ok (.getfield 75, 3) := by decide +kernel
theorem dX5_isLong_4 : decode cX5_isLong 4 = .ok (.sipush 128, 3) := by decide +kernel
theorem dX5_isLong_7 : decode cX5_isLong 7 = .ok (.iload_n 1, 1) := by decide +kernel
theorem dX5_isLong_8 : decode cX5_isLong 8 = .ok (.imul, 1) := by decide +kernel
theorem dX5_isLong_9 : decode cX5_isLong 9 = .ok (.bipush 13, 2) := by decide +kernel
theorem dX5_isLong_11 : decode cX5_isLong 11 = .ok (.iadd, 1) := by decide +kernel
theorem dX5_isLong_12 : decode cX5_isLong 12 = .ok (.iaload, 1) := by decide +kernel
theorem dX5_isLong_13 : decode cX5_isLong 13 = .ok (.iconst 1, 1) := by decide +kernel
theorem dX5_isLong_14 : decode cX5_isLong 14 = .ok (.if_icmp .ne 7, 3) := by decide +kernel
theorem dX5_isLong_17 : decode cX5_isLong 17 = .ok (.iconst 1, 1) := by decide +kernel
theorem dX5_isLong_18 : decode cX5_isLong 18 = .ok (.goto 4, 3) := by decide +kernel
theorem dX5_isLong_21 : decode cX5_isLong 21 = .ok (.iconst 0, 1) := by decide +kernel
theorem dX5_isLong_22 : decode cX5_isLong 22 = .ok (.ireturn, 1) := by decide +kernel
theorem dX5_number_0 : decode cX5_number 0 = .ok (.iconst 0, 1) := by decide +kernel
theorem dX5_number_1 : decode cX5_number 1 = .ok (.istore 4, 2) := by decide +kernel
theorem dX5_number_3 : decode cX5_number 3 = .ok (.iconst 0, 1) := by decide +kernel
theorem dX5_number_4 : decode cX5_number 4 = .ok (.istore 5, 2) := by decide +kernel
theorem dX5_number_6 : decode cX5_number 6 = .ok (.iload 5, 2) := by decide +kernel
theorem dX5_number_8 : decode cX5_number 8 = .ok (.iload_n 3, 1) := by decide +kernel
theorem dX5_number_9 : decode cX5_number 9 = .ok (.if_icmp .ge 31, 3) := by decide +kernel
theorem dX5_number_12 : decode cX5_number 12 = .ok (.iconst 2, 1) := by decide +kernel
theorem dX5_number_13 : decode cX5_number 13 = .ok (.iload 4, 2) := by decide +kernel
theorem dX5_number_15 : decode cX5_number 15 = .ok (.imul, 1) := by decide +kernel
theorem dX5_number_16 : decode cX5_number 16 = .ok (.aload_n 0, 1) := by decide +kernel
theorem dX5_number_17 : decode cX5_number 17 = .ok (.getfield 75, 3) := by decide +kernel
theorem dX5_number_20 : decode cX5_number 20 = .ok (.sipush 128, 3) := by decide +kernel
theorem dX5_number_23 : decode cX5_number 23 = .ok (.iload_n 1, 1) := by decide +kernel
theorem dX5_number_24 : decode cX5_number 24 = .ok (.imul, 1) := by decide +kernel
theorem dX5_number_25 : decode cX5_number 25 = .ok (.iload_n 2, 1) := by decide +kernel
theorem dX5_number_26 : decode cX5_number 26 = .ok (.iadd, 1) := by decide +kernel
theorem dX5_number_27 : decode cX5_number 27 = .ok (.iload 5, 2) := by decide +kernel
theorem dX5_number_29 : decode cX5_number 29 = .ok (.iadd, 1) := by decide +kernel
theorem dX5_number_30 : decode cX5_number 30 = .ok (.iaload, 1) := by decide +kernel
theorem dX5_number_31 : decode cX5_number 31 = .ok (.iadd, 1) := by decide +kernel
theorem dX5_number_32 : decode cX5_number 32 = .ok (.istore 4, 2) := by decide +kernel
theorem dX5_number_34 : decode cX5_number 34 = .ok (.iinc 5 1, 3) := by decide +kernel
theorem dX5_number_37 : decode cX5_number 37 = .ok (.goto (-31), 3) := by decide +kernel
theorem dX5_number_40 : decode cX5_number 40 = .ok (.iload 4, 2) := by decide +kernel
theorem dX5_number_42 : decode cX5_number 42 = .ok (.ireturn, 1) := by decide +kernel
set_option maxRecDepth 20000 in
theorem ggX5_bytesOf_X5_isLong : GoodIn wsX5_bytesOf wsX5_isLong := goodIn_r _ [5, 6, 11, 12, 13, 14, 15, 16, 17, 18, 19, 20, 21, 22, 23, 24, 25, 26, 27, 28, 29, 30, 31, 32, 33, 34, 35, 36, 37, 38, 39, 40, 41, 42, 43, 44, 45] (by decide +kernel) (by decide +kernel)
set_option maxRecDepth 20000 in
theorem gX5_bytesOf_X5_isLong : GoodIn wsX5_bytesOf (wsV RX5 120 RX5 yX5_isLong wsX5_isLong) := goodIn_app (goodIn_of _ (by decide +kernel)) ggX5_bytesOf_X5_isLong
set_option maxRecDepth 20000 in
theorem ggX5_bytesOf_X5_number : GoodIn wsX5_bytesOf wsX5_number := goodIn_r _ [10, 6, 11, 12, 13, 14, 15, 16, 17, 18, 19, 20, 21, 22, 23, 24, 25, 26, 27, 28, 29, 30, 31, 32, 33, 34, 35, 36, 37, 38, 39, 40, 41, 42, 43, 44, 45] (by decide +kernel) (by decide +kernel)
set_option maxRecDepth 20000 in
theorem gX5_bytesOf_X5_number : GoodIn wsX5_bytesOf (wsV RX5 124 RX5 yX5_number wsX5_number) := goodIn_app (goodIn_of _ (by decide +kernel)) ggX5_bytesOf_X5_number
theorem dX5_bytesOf_0 : decode cX5_bytesOf 0 = .ok (.aload_n 0, 1) := by decide +kernel
theorem dX5_bytesOf_1 : decode cX5_bytesOf 1 = .ok (.iload_n 1, 1) := by decide +kernel
theorem dX5_bytesOf_2 : decode cX5_bytesOf 2 = .ok (.aload_n 0, 1) := by decide +kernel
theorem dX5_bytesOf_3 : decode cX5_bytesOf 3 = .ok (.iload_n 1, 1) := by decide +kernel
theorem dX5_bytesOf_4 : decode cX5_bytesOf 4 = .ok (.invokevirtual 120, 3) := by decide +kernel
theorem dX5_bytesOf_7 : decode cX5_bytesOf 7 = .ok (.ifCond .eq 8, 3) := by decide +kernel
theorem dX5_bytesOf_10 : decode cX5_bytesOf 10 = .ok (.bipush 35, 2) := by decide +kernel
theorem dX5_bytesOf_12 : decode cX5_bytesOf 12 = .ok (.goto 5, 3) := by decide +kernel
theorem dX5_bytesOf_15 : decode cX5_bytesOf 15 = .ok (.bipush 15, 2) := by decide +kernel
theorem dX5_bytesOf_17 : decode cX5_bytesOf 17 = .ok (.iconst 4, 1) := by decide +kernel
theorem dX5_bytesOf_18 : decode cX5_bytesOf 18 = .ok (.invokevirtual 124, 3) := by decide +kernel
theorem dX5_bytesOf_21 : decode cX5_bytesOf 21 = .ok (.istore_n 2, 1) := by decide +kernel
theorem dX5_bytesOf_22 : decode cX5_bytesOf 22 = .ok (.iload_n 2, 1) := by decide +kernel
theorem dX5_bytesOf_23 : decode cX5_bytesOf 23 = .ok (.bipush 8, 2) := by decide +kernel
theorem dX5_bytesOf_25 : decode cX5_bytesOf 25 = .ok (.if_icmp .le 8, 3) := by decide +kernel
theorem dX5_bytesOf_28 : decode cX5_bytesOf 28 = .ok (.bipush 8, 2) := by decide +kernel
theorem dX5_bytesOf_30 : decode cX5_bytesOf 30 = .ok (.goto 4, 3) := by decide +kernel
theorem dX5_bytesOf_33 : decode cX5_bytesOf 33 = .ok (.iload_n 2, 1) := by decide +kernel
theorem dX5_bytesOf_34 : decode cX5_bytesOf 34 = .ok (.ireturn, 1) := by decide +kernel
set_option maxRecDepth 20000 in
theorem ggX5_isRight_X5_nextCheck : GoodIn wsX5_isRight wsX5_nextCheck := goodIn_r _ [6] (by decide +kernel) (by decide +kernel)
set_option maxRecDepth 20000 in
theorem gX5_isRight_X5_nextCheck : GoodIn wsX5_isRight (va_wsS RX5 112 yX5_nextCheck wsX5_nextCheck) := goodIn_app (goodIn_of _ (by decide +kernel)) ggX5_isRight_X5_nextCheck
set_option maxRecDepth 20000 in
theorem ggX5_isRight_X5_number : GoodIn wsX5_isRight wsX5_number := goodIn_r _ [10, 2, 11, 12, 13, 14, 15, 16, 17, 18, 19, 20, 21, 22, 23, 24, 25, 26, 27, 28, 29, 30, 31, 32, 33, 34, 35, 36, 37, 38, 39, 40, 41, 42, 43, 44, 45] (by decide +kernel) (by decide +kernel)
set_option maxRecDepth 20000 in
theorem gX5_isRight_X5_number : GoodIn wsX5_isRight (wsV RX5 124 RX5 yX5_number wsX5_number) := goodIn_app (goodIn_of _ (by decide +kernel)) ggX5_isRight_X5_number
theorem dX5_isRight_0 : decode cX5_isRight 0 = .ok (.iconst 0, 1) := by decide +kernel
theorem dX5_isRight_1 : decode cX5_isRight 1 = .ok (.istore_n 2, 1) := by decide +kernel
theorem dX5_isRight_2 : decode cX5_isRight 2 = .ok (.iconst 0, 1) := by decide +kernel
theorem dX5_isRight_3 : decode cX5_isRight 3 = .ok (.istore_n 3, 1) := by decide +kernel
theorem dX5_isRight_4 : decode cX5_isRight 4 = .ok (.iload_n 3, 1) := by decide +kernel
theorem dX5_isRight_5 : decode cX5_isRight 5 = .ok (.aload_n 0, 1) := by decide +kernel
theorem dX5_isRight_6 : decode cX5_isRight 6 = .ok (.getfield 87, 3) := by decide +kernel
theorem dX5_isRight_9 : decode cX5_isRight 9 = .ok (.iload_n 1, 1) := by decide +kernel
theorem dX5_isRight_10 : decode cX5_isRight 10 = .ok (.iaload, 1) := by decide +kernel
theorem dX5_isRight_11 : decode cX5_isRight 11 = .ok (.bipush 15, 2) := by decide +kernel
theorem dX5_isRight_13 : decode cX5_isRight 13 = .ok (.isub, 1) := by decide +kernel
theorem dX5_isRight_14 : decode cX5_isRight 14 = .ok (.if_icmp .ge 26, 3) := by decide +kernel
theorem dX5_isRight_17 : decode cX5_isRight 17 = .ok (.iload_n 2, 1) := by decide +kernel
theorem dX5_isRight_18 : decode cX5_isRight 18 = .ok (.aload_n 0, 1) := by decide +kernel
theorem dX5_isRight_19 : decode cX5_isRight 19 = .ok (.getfield 75, 3) := by decide +kernel
theorem dX5_isRight_22 : decode cX5_isRight 22 = .ok (.sipush 128, 3) := by decide +kernel
theorem dX5_isRight_25 : decode cX5_isRight 25 = .ok (.iload_n 1, 1) := by decide +kernel
theorem dX5_isRight_26 : decode cX5_isRight 26 = .ok (.imul, 1) := by decide +kernel
theorem dX5_isRight_27 : decode cX5_isRight 27 = .ok (.iload_n 3, 1) := by decide +kernel
theorem dX5_isRight_28 : decode cX5_isRight 28 = .ok (.iadd, 1) := by decide +kernel
theorem dX5_isRight_29 : decode cX5_isRight 29 = .ok (.iaload, 1) := by decide +kernel
theorem dX5_isRight_30 : decode cX5_isRight 30 = .ok (.invokestatic 112, 3) := by decide +kernel
theorem dX5_isRight_33 : decode cX5_isRight 33 = .ok (.istore_n 2, 1) := by decide +kernel
theorem dX5_isRight_34 : decode cX5_isRight 34 = .ok (.iinc 3 1, 3) := by decide +kernel
theorem dX5_isRight_37 : decode cX5_isRight 37 = .ok (.goto (-33), 3) := by decide +kernel
theorem dX5_isRight_40 : decode cX5_isRight 40 = .ok (.iload_n 2, 1) := by decide +kernel
theorem dX5_isRight_41 : decode cX5_isRight 41 = .ok (.aload_n 0, 1) := by decide +kernel
theorem dX5_isRight_42 : decode cX5_isRight 42 = .ok (.iload_n 1, 1) := by decide +kernel
theorem dX5_isRight_43 : decode cX5_isRight 43 = .ok (.aload_n 0, 1) := by decide +kernel
theorem dX5_isRight_44 : decode cX5_isRight 44 = .ok (.getfield 87, 3) := by decide +kernel
theorem dX5_isRight_47 : decode cX5_isRight 47 = .ok (.iload_n 1, 1) := by decide +kernel
theorem dX5_isRight_48 : decode cX5_isRight 48 = .ok (.iaload, 1) := by decide +kernel
theorem dX5_isRight_49 : decode cX5_isRight 49 = .ok (.bipush 15, 2) := by decide +kernel
theorem dX5_isRight_51 : decode cX5_isRight 51 = .ok (.isub, 1) := by decide +kernel
theorem dX5_isRight_52 : decode cX5_isRight 52 = .ok (.bipush 15, 2) := by decide +kernel
theorem dX5_isRight_54 : decode cX5_isRight 54 = .ok (.invokevirtual 124, 3) := by decide +kernel
theorem dX5_isRight_57 : decode cX5_isRight 57 = .ok (.if_icmp .ne 7, 3) := by decide +kernel
theorem dX5_isRight_60 : decode cX5_isRight 60 = .ok (.iconst 1, 1) := by decide +kernel
theorem dX5_isRight_61 : decode cX5_isRight 61 = .ok (.goto 4, 3) := by decide +kernel
theorem dX5_isRight_64 : decode cX5_isRight 64 = .ok (.iconst 0, 1) := by decide +kernel
theorem dX5_isRight_65 : decode cX5_isRight 65 = .ok (.ireturn, 1) := by decide +kernel
set_option maxRecDepth 20000 in
theorem ggX5_takeTail_X5_isRight : GoodIn wsX5_takeTail wsX5_isRight := goodIn_r _ [6, 7, 8, 9, 10, 5, 11, 12, 13, 14, 15, 16, 17, 18, 19, 20, 21, 22, 23, 24, 25, 26, 27, 28, 29, 30, 31, 32, 33, 34, 35, 36, 37, 38, 39, 40, 41, 42, 43, 44, 45, 46, 47, 48, 49, 50] (by decide +kernel) (by decide +kernel)
set_option maxRecDepth 20000 in
theorem gX5_takeTail_X5_isRight : GoodIn wsX5_takeTail (wsV RX5 128 RX5 yX5_isRight wsX5_isRight) := goodIn_app (goodIn_of _ (by decide +kernel)) ggX5_takeTail_X5_isRight
theorem dX5_takeTail_0 : decode cX5_takeTail 0 = .ok (.aload_n 0, 1) := by decide +kernel
theorem dX5_takeTail_1 : decode cX5_takeTail 1 = .ok (.getfield 90, 3) := by decide +kernel
theorem dX5_takeTail_4 : decode cX5_takeTail 4 = .ok (.iload_n 1, 1) := by decide +kernel
theorem dX5_takeTail_5 : decode cX5_takeTail 5 = .ok (.iaload, 1) := by decide +kernel
theorem dX5_takeTail_6 : decode cX5_takeTail 6 = .ok (.istore_n 3, 1) := by decide +kernel
theorem dX5_takeTail_7 : decode cX5_takeTail 7 = .ok (.aload_n 0, 1) := by decide +kernel
theorem dX5_takeTail_8 : decode cX5_takeTail 8 = .ok (.getfield 90, 3) := by decide +kernel
theorem dX5_takeTail_11 : decode cX5_takeTail 11 = .ok (.iload_n 1, 1) := by decide +kernel
theorem dX5_takeTail_12 : decode cX5_takeTail 12 = .ok (.dup2, 1) := by decide +kernel
theorem dX5_takeTail_13 : decode cX5_takeTail 13 = .ok (.iaload, 1) := by decide +kernel
theorem dX5_takeTail_14 : decode cX5_takeTail 14 = .ok (.iconst 1, 1) := by decide +kernel
theorem dX5_takeTail_15 : decode cX5_takeTail 15 = .ok (.iadd, 1) := by decide +kernel
theorem dX5_takeTail_16 : decode cX5_takeTail 16 = .ok (.iastore, 1) := by decide +kernel
theorem dX5_takeTail_17 : decode cX5_takeTail 17 = .ok (.iload_n 3, 1) := by decide +kernel
theorem dX5_takeTail_18 : decode cX5_takeTail 18 = .ok (.iconst 2, 1) := by decide +kernel
theorem dX5_takeTail_19 : decode cX5_takeTail 19 = .ok (.if_icmp .ne 13, 3) := by decide +kernel
theorem dX5_takeTail_22 : decode cX5_takeTail 22 = .ok (.aload_n 0, 1) := by decide +kernel
theorem dX5_takeTail_23 : decode cX5_takeTail 23 = .ok (.iload_n 1, 1) := by decide +kernel
theorem dX5_takeTail_24 : decode cX5_takeTail 24 = .ok (.invokevirtual 128, 3) := by decide +kernel
theorem dX5_takeTail_27 : decode cX5_takeTail 27 = .ok (.ifCond .ne 5, 3) := by decide +kernel
theorem dX5_takeTail_30 : decode cX5_takeTail 30 = .ok (.iconst 2, 1) := by decide +kernel
theorem dX5_takeTail_31 : decode cX5_takeTail 31 = .ok (.ireturn, 1) := by decide +kernel
theorem dX5_takeTail_32 : decode cX5_takeTail 32 = .ok (.iload_n 3, 1) := by decide +kernel
theorem dX5_takeTail_33 : decode cX5_takeTail 33 = .ok (.iconst 1, 1) := by decide +kernel
theorem dX5_takeTail_34 : decode cX5_takeTail 34 = .ok (.if_icmp .eq 9, 3) := by decide +kernel
theorem dX5_takeTail_37 : decode cX5_takeTail 37 = .ok (.iload_n 2, 1) := by decide +kernel
theorem dX5_takeTail_38 : decode cX5_takeTail 38 = .ok (.ifCond .ne 5, 3) := by decide +kernel
theorem dX5_takeTail_41 : decode cX5_takeTail 41 = .ok (.iconst 3, 1) := by decide +kernel
theorem dX5_takeTail_42 : decode cX5_takeTail 42 = .ok (.ireturn, 1) := by decide +kernel
theorem dX5_takeTail_43 : decode cX5_takeTail 43 = .ok (.iload_n 3, 1) := by decide +kernel
theorem dX5_takeTail_44 : decode cX5_takeTail 44 = .ok (.bipush 9, 2) := by decide +kernel
theorem dX5_takeTail_46 : decode cX5_takeTail 46 = .ok (.if_icmp .ne 8, 3) := by decide +kernel
theorem dX5_takeTail_49 : decode cX5_takeTail 49 = .ok (.bipush 9, 2) := by decide +kernel
theorem dX5_takeTail_51 : decode cX5_takeTail 51 = .ok (.goto 4, 3) := by decide +kernel
theorem dX5_takeTail_54 : decode cX5_takeTail 54 = .ok (.iconst 0, 1) := by decide +kernel
theorem dX5_takeTail_55 : decode cX5_takeTail 55 = .ok (.ireturn, 1) := by decide +kernel
set_option maxRecDepth 20000 in
theorem ggX5_take_X5_takeTail : GoodIn wsX5_take wsX5_takeTail := goodIn_r _ [10, 11, 12, 13, 14, 9, 15, 2, 5, 16, 17, 18, 19, 20, 21, 22, 31, 32, 33, 34, 35, 36, 37, 38, 39, 40, 41, 42, 43, 44, 45, 46, 47, 48, 49, 50, 51, 52, 53, 54, 55, 56, 57, 58, 59, 60, 61, 62, 63, 64, 65] (by decide +kernel) (by decide +kernel)
set_option maxRecDepth 20000 in
theorem gX5_take_X5_takeTail : GoodIn wsX5_take (wsV RX5 131 RX5 yX5_takeTail wsX5_takeTail) := goodIn_app (goodIn_of _ (by decide +kernel)) ggX5_take_X5_takeTail
set_option maxRecDepth 20000 in
theorem ggX5_take_X5_isLong : GoodIn wsX5_take wsX5_isLong := goodIn_r _ [26, 5, 31, 32, 33, 34, 35, 36, 37, 38, 39, 40, 41, 42, 43, 44, 45, 46, 47, 48, 49, 50, 51, 52, 53, 54, 55, 56, 57, 58, 59, 60, 61, 62, 63, 64, 65] (by decide +kernel) (by decide +kernel)
set_option maxRecDepth 20000 in
theorem gX5_take_X5_isLong : GoodIn wsX5_take (wsV RX5 120 RX5 yX5_isLong wsX5_isLong) := goodIn_app (goodIn_of _ (by decide +kernel)) ggX5_take_X5_isLong
set_option maxRecDepth 20000 in
theorem ggX5_take_X5_bytesOf : GoodIn wsX5_take wsX5_bytesOf := goodIn_r _ [30, 23, 24, 25, 9, 26, 5, 19, 20, 21, 22, 31, 32, 33, 34, 35, 36, 37, 38, 39, 40, 41, 42, 43, 44, 45, 46, 47, 48, 49, 50, 51, 52, 53, 54, 55, 56, 57, 58, 59, 60, 61, 62, 63, 64, 65] (by decide +kernel) (by decide +kernel)
set_option maxRecDepth 20000 in
theorem gX5_take_X5_bytesOf : GoodIn wsX5_take (wsV RX5 134 RX5 yX5_bytesOf wsX5_bytesOf) := goodIn_app (goodIn_of _ (by decide +kernel)) ggX5_take_X5_bytesOf
theorem dX5_take_0 : decode cX5_take 0 = .ok (.aload_n 0, 1) := by decide +kernel
theorem dX5_take_1 : decode cX5_take 1 = .ok (.getfield 78, 3) := by decide +kernel
theorem dX5_take_4 : decode cX5_take 4 = .ok (.iload_n 1, 1) := by decide +kernel
theorem dX5_take_5 : decode cX5_take 5 = .ok (.iaload, 1) := by decide +kernel
theorem dX5_take_6 : decode cX5_take 6 = .ok (.aload_n 0, 1) := by decide +kernel
theorem dX5_take_7 : decode cX5_take 7 = .ok (.getfield 87, 3) := by decide +kernel
theorem dX5_take_10 : decode cX5_take 10 = .ok (.iload_n 1, 1) := by decide +kernel
theorem dX5_take_11 : decode cX5_take 11 = .ok (.iaload, 1) := by decide +kernel
theorem dX5_take_12 : decode cX5_take 12 = .ok (.if_icmp .ne 10, 3) := by decide +kernel
theorem dX5_take_15 : decode cX5_take 15 = .ok (.aload_n 0, 1) := by decide +kernel
theorem dX5_take_16 : decode cX5_take 16 = .ok (.iload_n 1, 1) := by decide +kernel
theorem dX5_take_17 : decode cX5_take 17 = .ok (.iload_n 2, 1) := by decide +kernel
theorem dX5_take_18 : decode cX5_take 18 = .ok (.invokevirtual 131, 3) := by decide +kernel
theorem dX5_take_21 : decode cX5_take 21 = .ok (.ireturn, 1) := by decide +kernel
theorem dX5_take_22 : decode cX5_take 22 = .ok (.aload_n 0, 1) := by decide +kernel
theorem dX5_take_23 : decode cX5_take 23 = .ok (.getfield 81, 3) := by decide +kernel
theorem dX5_take_26 : decode cX5_take 26 = .ok (.iload_n 1, 1) := by decide +kernel
theorem dX5_take_27 : decode cX5_take 27 = .ok (.iaload, 1) := by decide +kernel
theorem dX5_take_28 : decode cX5_take 28 = .ok (.iconst 5, 1) := by decide +kernel
theorem dX5_take_29 : decode cX5_take 29 = .ok (.if_icmp .ne 31, 3) := by decide +kernel
theorem dX5_take_32 : decode cX5_take 32 = .ok (.iload_n 2, 1) := by decide +kernel
theorem dX5_take_33 : decode cX5_take 33 = .ok (.aload_n 0, 1) := by decide +kernel
theorem dX5_take_34 : decode cX5_take 34 = .ok (.getfield 84, 3) := by decide +kernel
theorem dX5_take_37 : decode cX5_take 37 = .ok (.iload_n 1, 1) := by decide +kernel
theorem dX5_take_38 : decode cX5_take 38 = .ok (.iaload, 1) := by decide +kernel
theorem dX5_take_39 : decode cX5_take 39 = .ok (.if_icmp .ne 5, 3) := by decide +kernel
theorem dX5_take_42 : decode cX5_take 42 = .ok (.iconst 1, 1) := by decide +kernel
theorem dX5_take_43 : decode cX5_take 43 = .ok (.ireturn, 1) := by decide +kernel
theorem dX5_take_44 : decode cX5_take 44 = .ok (.aload_n 0, 1) := by decide +kernel
theorem dX5_take_45 : decode cX5_take 45 = .ok (.getfield 84, 3) := by decide +kernel
theorem dX5_take_48 : decode cX5_take 48 = .ok (.iload_n 1, 1) := by decide +kernel
theorem dX5_take_49 : decode cX5_take 49 = .ok (.iload_n 2, 1) := by decide +kernel
theorem dX5_take_50 : decode cX5_take 50 = .ok (.iastore, 1) := by decide +kernel
theorem dX5_take_51 : decode cX5_take 51 = .ok (.aload_n 0, 1) := by decide +kernel
theorem dX5_take_52 : decode cX5_take 52 = .ok (.getfield 81, 3) := by decide +kernel
theorem dX5_take_55 : decode cX5_take 55 = .ok (.iload_n 1, 1) := by decide +kernel
theorem dX5_take_56 : decode cX5_take 56 = .ok (.iconst 1, 1) := by decide +kernel
theorem dX5_take_57 : decode cX5_take 57 = .ok (.iastore, 1) := by decide +kernel
theorem dX5_take_58 : decode cX5_take 58 = .ok (.iconst 0, 1) := by decide +kernel
theorem dX5_take_59 : decode cX5_take 59 = .ok (.ireturn, 1) := by decide +kernel
theorem dX5_take_60 : decode cX5_take 60 = .ok (.aload_n 0, 1) := by decide +kernel
theorem dX5_take_61 : decode cX5_take 61 = .ok (.getfield 78, 3) := by decide +kernel
theorem dX5_take_64 : decode cX5_take 64 = .ok (.iload_n 1, 1) := by decide +kernel
theorem dX5_take_65 : decode cX5_take 65 = .ok (.iaload, 1) := by decide +kernel
theorem dX5_take_66 : decode cX5_take 66 = .ok (.ifCond .ne 10, 3) := by decide +kernel
theorem dX5_take_69 : decode cX5_take 69 = .ok (.iload_n 2, 1) := by decide +kernel
theorem dX5_take_70 : decode cX5_take 70 = .ok (.iconst 1, 1) := by decide +kernel
theorem dX5_take_71 : decode cX5_take 71 = .ok (.if_icmp .ne 5, 3) := by decide +kernel
theorem dX5_take_74 : decode cX5_take 74 = .ok (.iconst 3, 1) := by decide +kernel
theorem dX5_take_75 : decode cX5_take 75 = .ok (.ireturn, 1) := by decide +kernel
theorem dX5_take_76 : decode cX5_take 76 = .ok (.aload_n 0, 1) := by decide +kernel
theorem dX5_take_77 : decode cX5_take 77 = .ok (.getfield 81, 3) := by decide +kernel
theorem dX5_take_80 : decode cX5_take 80 = .ok (.iload_n 1, 1) := by decide +kernel
theorem dX5_take_81 : decode cX5_take 81 = .ok (.iload_n 2, 1) := by decide +kernel
theorem dX5_take_82 : decode cX5_take 82 = .ok (.aload_n 0, 1) := by decide +kernel
theorem dX5_take_83 : decode cX5_take 83 = .ok (.getfield 84, 3) := by decide +kernel
theorem dX5_take_86 : decode cX5_take 86 = .ok (.iload_n 1, 1) := by decide +kernel
theorem dX5_take_87 : decode cX5_take 87 = .ok (.iaload, 1) := by decide +kernel
theorem dX5_take_88 : decode cX5_take 88 = .ok (.if_icmp .ne 14, 3) := by decide +kernel
theorem dX5_take_91 : decode cX5_take 91 = .ok (.aload_n 0, 1) := by decide +kernel
theorem dX5_take_92 : decode cX5_take 92 = .ok (.getfield 81, 3) := by decide +kernel
theorem dX5_take_95 : decode cX5_take 95 = .ok (.iload_n 1, 1) := by decide +kernel
theorem dX5_take_96 : decode cX5_take 96 = .ok (.iaload, 1) := by decide +kernel
theorem dX5_take_97 : decode cX5_take 97 = .ok (.iconst 1, 1) := by decide +kernel
theorem dX5_take_98 : decode cX5_take 98 = .ok (.iadd, 1) := by decide +kernel
theorem dX5_take_99 : decode cX5_take 99 = .ok (.goto 4, 3) := by decide +kernel
theorem dX5_take_102 : decode cX5_take 102 = .ok (.iconst 1, 1) := by decide +kernel
theorem dX5_take_103 : decode cX5_take 103 = .ok (.iastore, 1) := by decide +kernel
theorem dX5_take_104 : decode cX5_take 104 = .ok (.aload_n 0, 1) := by decide +kernel
theorem dX5_take_105 : decode cX5_take 105 = .ok (.getfield 84, 3) := by decide +kernel
theorem dX5_take_108 : decode cX5_take 108 = .ok (.iload_n 1, 1) := by decide +kernel
theorem dX5_take_109 : decode cX5_take 109 = .ok (.iload_n 2, 1) := by decide +kernel
theorem dX5_take_110 : decode cX5_take 110 = .ok (.iastore, 1) := by decide +kernel
theorem dX5_take_111 : decode cX5_take 111 = .ok (.aload_n 0, 1) := by decide +kernel
theorem dX5_take_112 : decode cX5_take 112 = .ok (.getfield 75, 3) := by decide +kernel
theorem dX5_take_115 : decode cX5_take 115 = .ok (.sipush 128, 3) := by decide +kernel
theorem dX5_take_118 : decode cX5_take 118 = .ok (.iload_n 1, 1) := by decide +kernel
theorem dX5_take_119 : decode cX5_take 119 = .ok (.imul, 1) := by decide +kernel
theorem dX5_take_120 : decode cX5_take 120 = .ok (.aload_n 0, 1) := by decide +kernel
theorem dX5_take_121 : decode cX5_take 121 = .ok (.getfield 78, 3) := by decide +kernel
theorem dX5_take_124 : decode cX5_take 124 = .ok (.iload_n 1, 1) := by decide +kernel
theorem dX5_take_125 : decode cX5_take 125 = .ok (.iaload, 1) := by decide +kernel
theorem dX5_take_126 : decode cX5_take 126 = .ok (.iadd, 1) := by decide +kernel
theorem dX5_take_127 : decode cX5_take 127 = .ok (.iload_n 2, 1) := by decide +kernel
theorem dX5_take_128 : decode cX5_take 128 = .ok (.iastore, 1) := by decide +kernel
theorem dX5_take_129 : decode cX5_take 129 = .ok (.aload_n 0, 1) := by decide +kernel
theorem dX5_take_130 : decode cX5_take 130 = .ok (.getfield 78, 3) := by decide +kernel
theorem dX5_take_133 : decode cX5_take 133 = .ok (.iload_n 1, 1) := by decide +kernel
theorem dX5_take_134 : decode cX5_take 134 = .ok (.dup2, 1) := by decide +kernel
theorem dX5_take_135 : decode cX5_take 135 = .ok (.iaload, 1) := by decide +kernel
theorem dX5_take_136 : decode cX5_take 136 = .ok (.iconst 1, 1) := by decide +kernel
theorem dX5_take_137 : decode cX5_take 137 = .ok (.iadd, 1) := by decide +kernel
theorem dX5_take_138 : decode cX5_take 138 = .ok (.iastore, 1) := by decide +kernel
theorem dX5_take_139 : decode cX5_take 139 = .ok (.aload_n 0, 1) := by decide +kernel
theorem dX5_take_140 : decode cX5_take 140 = .ok (.getfield 78, 3) := by decide +kernel
theorem dX5_take_143 : decode cX5_take 143 = .ok (.iload_n 1, 1) := by decide +kernel
theorem dX5_take_144 : decode cX5_take 144 = .ok (.iaload, 1) := by decide +kernel
theorem dX5_take_145 : decode cX5_take 145 = .ok (.bipush 13, 2) := by decide +kernel
theorem dX5_take_147 : decode cX5_take 147 = .ok (.if_icmp .le 51, 3) := by decide +kernel
theorem dX5_take_150 : decode cX5_take 150 = .ok (.aload_n 0, 1) := by decide +kernel
theorem dX5_take_151 : decode cX5_take 151 = .ok (.getfield 78, 3) := by decide +kernel
theorem dX5_take_154 : decode cX5_take 154 = .ok (.iload_n 1, 1) := by decide +kernel
theorem dX5_take_155 : decode cX5_take 155 = .ok (.iaload, 1) := by decide +kernel
theorem dX5_take_156 : decode cX5_take 156 = .ok (.aload_n 0, 1) := by decide +kernel
theorem dX5_take_157 : decode cX5_take 157 = .ok (.iload_n 1, 1) := by decide +kernel
theorem dX5_take_158 : decode cX5_take 158 = .ok (.invokevirtual 120, 3) := by decide +kernel
theorem dX5_take_161 : decode cX5_take 161 = .ok (.ifCond .eq 8, 3) := by decide +kernel
theorem dX5_take_164 : decode cX5_take 164 = .ok (.bipush 39, 2) := by decide +kernel
theorem dX5_take_166 : decode cX5_take 166 = .ok (.goto 5, 3) := by decide +kernel
theorem dX5_take_169 : decode cX5_take 169 = .ok (.bipush 19, 2) := by decide +kernel
theorem dX5_take_171 : decode cX5_take 171 = .ok (.if_icmp .ne 27, 3) := by decide +kernel
theorem dX5_take_174 : decode cX5_take 174 = .ok (.aload_n 0, 1) := by decide +kernel
theorem dX5_take_175 : decode cX5_take 175 = .ok (.getfield 87, 3) := by decide +kernel
theorem dX5_take_178 : decode cX5_take 178 = .ok (.iload_n 1, 1) := by decide +kernel
theorem dX5_take_179 : decode cX5_take 179 = .ok (.aload_n 0, 1) := by decide +kernel
theorem dX5_take_180 : decode cX5_take 180 = .ok (.getfield 78, 3) := by decide +kernel
theorem dX5_take_183 : decode cX5_take 183 = .ok (.iload_n 1, 1) := by decide +kernel
theorem dX5_take_184 : decode cX5_take 184 = .ok (.iaload, 1) := by decide +kernel
theorem dX5_take_185 : decode cX5_take 185 = .ok (.bipush 8, 2) := by decide +kernel
theorem dX5_take_187 : decode cX5_take 187 = .ok (.aload_n 0, 1) := by decide +kernel
theorem dX5_take_188 : decode cX5_take 188 = .ok (.iload_n 1, 1) := by decide +kernel
theorem dX5_take_189 : decode cX5_take 189 = .ok (.invokevirtual 134, 3) := by decide +kernel
theorem dX5_take_192 : decode cX5_take 192 = .ok (.imul, 1) := by decide +kernel
theorem dX5_take_193 : decode cX5_take 193 = .ok (.iadd, 1) := by decide +kernel
theorem dX5_take_194 : decode cX5_take 194 = .ok (.bipush 15, 2) := by decide +kernel
theorem dX5_take_196 : decode cX5_take 196 = .ok (.iadd, 1) := by decide +kernel
theorem dX5_take_197 : decode cX5_take 197 = .ok (.iastore, 1) := by decide +kernel
theorem dX5_take_198 : decode cX5_take 198 = .ok (.iconst 0, 1) := by decide +kernel
theorem dX5_take_199 : decode cX5_take 199 = .ok (.ireturn, 1) := by decide +kernel
set_option maxRecDepth 20000 in
theorem ggX5_answers_X5_isRight : GoodIn wsX5_answers wsX5_isRight := goodIn_r _ [8, 2, 9, 10, 11, 7, 12, 13, 14, 15, 16, 17, 18, 19, 20, 21, 22, 23, 24, 25, 26, 27, 28, 29, 30, 31, 32, 33, 34, 35, 36, 37, 38, 39, 40, 41, 42, 43, 44, 45, 46, 47, 48, 49, 50, 51] (by decide +kernel) (by decide +kernel)
set_option maxRecDepth 20000 in
theorem gX5_answers_X5_isRight : GoodIn wsX5_answers (wsV RX5 128 RX5 yX5_isRight wsX5_isRight) := goodIn_app (goodIn_of _ (by decide +kernel)) ggX5_answers_X5_isRight
theorem dX5_answers_0 : decode cX5_answers 0 = .ok (.aload_n 0, 1) := by decide +kernel
theorem dX5_answers_1 : decode cX5_answers 1 = .ok (.getfield 78, 3) := by decide +kernel
theorem dX5_answers_4 : decode cX5_answers 4 = .ok (.iload_n 1, 1) := by decide +kernel
theorem dX5_answers_5 : decode cX5_answers 5 = .ok (.iaload, 1) := by decide +kernel
theorem dX5_answers_6 : decode cX5_answers 6 = .ok (.aload_n 0, 1) := by decide +kernel
theorem dX5_answers_7 : decode cX5_answers 7 = .ok (.getfield 87, 3) := by decide +kernel
theorem dX5_answers_10 : decode cX5_answers 10 = .ok (.iload_n 1, 1) := by decide +kernel
theorem dX5_answers_11 : decode cX5_answers 11 = .ok (.iaload, 1) := by decide +kernel
theorem dX5_answers_12 : decode cX5_answers 12 = .ok (.if_icmp .ne 25, 3) := by decide +kernel
theorem dX5_answers_15 : decode cX5_answers 15 = .ok (.aload_n 0, 1) := by decide +kernel
theorem dX5_answers_16 : decode cX5_answers 16 = .ok (.getfield 90, 3) := by decide +kernel
theorem dX5_answers_19 : decode cX5_answers 19 = .ok (.iload_n 1, 1) := by decide +kernel
theorem dX5_answers_20 : decode cX5_answers 20 = .ok (.iaload, 1) := by decide +kernel
theorem dX5_answers_21 : decode cX5_answers 21 = .ok (.iconst 1, 1) := by decide +kernel
theorem dX5_answers_22 : decode cX5_answers 22 = .ok (.if_icmp .ne 15, 3) := by decide +kernel
theorem dX5_answers_25 : decode cX5_answers 25 = .ok (.aload_n 0, 1) := by decide +kernel
theorem dX5_answers_26 : decode cX5_answers 26 = .ok (.iload_n 1, 1) := by decide +kernel
theorem dX5_answers_27 : decode cX5_answers 27 = .ok (.invokevirtual 128, 3) := by decide +kernel
theorem dX5_answers_30 : decode cX5_answers 30 = .ok (.ifCond .eq 7, 3) := by decide +kernel
theorem dX5_answers_33 : decode cX5_answers 33 = .ok (.iconst 1, 1) := by decide +kernel
theorem dX5_answers_34 : decode cX5_answers 34 = .ok (.goto 4, 3) := by decide +kernel
theorem dX5_answers_37 : decode cX5_answers 37 = .ok (.iconst 0, 1) := by decide +kernel
theorem dX5_answers_38 : decode cX5_answers 38 = .ok (.ireturn, 1) := by decide +kernel
theorem dX5_key_0 : decode cX5_key 0 = .ok (.iload_n 0, 1) := by decide +kernel
theorem dX5_key_1 : decode cX5_key 1 = .ok (.ifCond .eq 10, 3) := by decide +kernel
theorem dX5_key_4 : decode cX5_key 4 = .ok (.iload_n 1, 1) := by decide +kernel
theorem dX5_key_5 : decode cX5_key 5 = .ok (.bipush 18, 2) := by decide +kernel
theorem dX5_key_7 : decode cX5_key 7 = .ok (.ishr, 1) := by decide +kernel
theorem dX5_key_8 : decode cX5_key 8 = .ok (.goto 4, 3) := by decide +kernel
theorem dX5_key_11 : decode cX5_key 11 = .ok (.iload_n 1, 1) := by decide +kernel
theorem dX5_key_12 : decode cX5_key 12 = .ok (.ireturn, 1) := by decide +kernel
set_option maxRecDepth 20000 in
theorem ggX5_comesFirst_X5_key : GoodIn wsX5_comesFirst wsX5_key := goodIn_r _ [6] (by decide +kernel) (by decide +kernel)
set_option maxRecDepth 20000 in
theorem gX5_comesFirst_X5_key : GoodIn wsX5_comesFirst (va_wsS RX5 138 yX5_key wsX5_key) := goodIn_app (goodIn_of _ (by decide +kernel)) ggX5_comesFirst_X5_key
theorem dX5_comesFirst_0 : decode cX5_comesFirst 0 = .ok (.aload_n 0, 1) := by decide +kernel
theorem dX5_comesFirst_1 : decode cX5_comesFirst 1 = .ok (.getfield 31, 3) := by decide +kernel
theorem dX5_comesFirst_4 : decode cX5_comesFirst 4 = .ok (.iload_n 1, 1) := by decide +kernel
theorem dX5_comesFirst_5 : decode cX5_comesFirst 5 = .ok (.baload, 1) := by decide +kernel
theorem dX5_comesFirst_6 : decode cX5_comesFirst 6 = .ok (.aload_n 0, 1) := by decide +kernel
theorem dX5_comesFirst_7 : decode cX5_comesFirst 7 = .ok (.getfield 35, 3) := by decide +kernel
theorem dX5_comesFirst_10 : decode cX5_comesFirst 10 = .ok (.iload_n 1, 1) := by decide +kernel
theorem dX5_comesFirst_11 : decode cX5_comesFirst 11 = .ok (.iaload, 1) := by decide +kernel
theorem dX5_comesFirst_12 : decode cX5_comesFirst 12 = .ok (.invokestatic 138, 3) := by decide +kernel
theorem dX5_comesFirst_15 : decode cX5_comesFirst 15 = .ok (.istore_n 3, 1) := by decide +kernel
theorem dX5_comesFirst_16 : decode cX5_comesFirst 16 = .ok (.aload_n 0, 1) := by decide +kernel
theorem dX5_comesFirst_17 : decode cX5_comesFirst 17 = .ok (.getfield 31, 3) := by decide +kernel
theorem dX5_comesFirst_20 : decode cX5_comesFirst 20 = .ok (.iload_n 2, 1) := by decide +kernel
theorem dX5_comesFirst_21 : decode cX5_comesFirst 21 = .ok (.baload, 1) := by decide +kernel
theorem dX5_comesFirst_22 : decode cX5_comesFirst 22 = .ok (.aload_n 0, 1) := by decide +kernel
theorem dX5_comesFirst_23 : decode cX5_comesFirst 23 = .ok (.getfield 35, 3) := by decide +kernel
theorem dX5_comesFirst_26 : decode cX5_comesFirst 26 = .ok (.iload_n 2, 1) := by decide +kernel
theorem dX5_comesFirst_27 : decode cX5_comesFirst 27 = .ok (.iaload, 1) := by decide +kernel
theorem dX5_comesFirst_28 : decode cX5_comesFirst 28 = .ok (.invokestatic 138, 3) := by decide +kernel
theorem dX5_comesFirst_31 : decode cX5_comesFirst 31 = .ok (.istore 4, 2) := by decide +kernel
theorem dX5_comesFirst_33 : decode cX5_comesFirst 33 = .ok (.iload_n 3, 1) := by decide +kernel
theorem dX5_comesFirst_34 : decode cX5_comesFirst 34 = .ok (.iload 4, 2) := by decide +kernel
theorem dX5_comesFirst_36 : decode cX5_comesFirst 36 = .ok (.if_icmp .eq 15, 3) := by decide +kernel
theorem dX5_comesFirst_39 : decode cX5_comesFirst 39 = .ok (.iload_n 3, 1) := by decide +kernel
theorem dX5_comesFirst_40 : decode cX5_comesFirst 40 = .ok (.iload 4, 2) := by decide +kernel
theorem dX5_comesFirst_42 : decode cX5_comesFirst 42 = .ok (.if_icmp .ge 7, 3) := by decide +kernel
theorem dX5_comesFirst_45 : decode cX5_comesFirst 45 = .ok (.iconst 1, 1) := by decide +kernel
theorem dX5_comesFirst_46 : decode cX5_comesFirst 46 = .ok (.goto 4, 3) := by decide +kernel
theorem dX5_comesFirst_49 : decode cX5_comesFirst 49 = .ok (.iconst 0, 1) := by decide +kernel
theorem dX5_comesFirst_50 : decode cX5_comesFirst 50 = .ok (.ireturn, 1) := by decide +kernel
theorem dX5_comesFirst_51 : decode cX5_comesFirst 51 = .ok (.aload_n 0, 1) := by decide +kernel
theorem dX5_comesFirst_52 : decode cX5_comesFirst 52 = .ok (.getfield 31, 3) := by decide +kernel
theorem dX5_comesFirst_55 : decode cX5_comesFirst 55 = .ok (.iload_n 1, 1) := by decide +kernel
theorem dX5_comesFirst_56 : decode cX5_comesFirst 56 = .ok (.baload, 1) := by decide +kernel
theorem dX5_comesFirst_57 : decode cX5_comesFirst 57 = .ok (.aload_n 0, 1) := by decide +kernel
theorem dX5_comesFirst_58 : decode cX5_comesFirst 58 = .ok (.getfield 31, 3) := by decide +kernel
theorem dX5_comesFirst_61 : decode cX5_comesFirst 61 = .ok (.iload_n 2, 1) := by decide +kernel
theorem dX5_comesFirst_62 : decode cX5_comesFirst 62 = .ok (.baload, 1) := by decide +kernel
theorem dX5_comesFirst_63 : decode cX5_comesFirst 63 = .ok (.if_icmp .eq 10, 3) := by decide +kernel
theorem dX5_comesFirst_66 : decode cX5_comesFirst 66 = .ok (.aload_n 0, 1) := by decide +kernel
theorem dX5_comesFirst_67 : decode cX5_comesFirst 67 = .ok (.getfield 31, 3) := by decide +kernel
theorem dX5_comesFirst_70 : decode cX5_comesFirst 70 = .ok (.iload_n 2, 1) := by decide +kernel
theorem dX5_comesFirst_71 : decode cX5_comesFirst 71 = .ok (.baload, 1) := by decide +kernel
theorem dX5_comesFirst_72 : decode cX5_comesFirst 72 = .ok (.ireturn, 1) := by decide +kernel
theorem dX5_comesFirst_73 : decode cX5_comesFirst 73 = .ok (.aload_n 0, 1) := by decide +kernel
theorem dX5_comesFirst_74 : decode cX5_comesFirst 74 = .ok (.getfield 35, 3) := by decide +kernel
theorem dX5_comesFirst_77 : decode cX5_comesFirst 77 = .ok (.iload_n 1, 1) := by decide +kernel
theorem dX5_comesFirst_78 : decode cX5_comesFirst 78 = .ok (.iaload, 1) := by decide +kernel
theorem dX5_comesFirst_79 : decode cX5_comesFirst 79 = .ok (.aload_n 0, 1) := by decide +kernel
theorem dX5_comesFirst_80 : decode cX5_comesFirst 80 = .ok (.getfield 35, 3) := by decide +kernel
theorem dX5_comesFirst_83 : decode cX5_comesFirst 83 = .ok (.iload_n 2, 1) := by decide +kernel
theorem dX5_comesFirst_84 : decode cX5_comesFirst 84 = .ok (.iaload, 1) := by decide +kernel
theorem dX5_comesFirst_85 : decode cX5_comesFirst 85 = .ok (.if_icmp .ge 7, 3) := by decide +kernel
theorem dX5_comesFirst_88 : decode cX5_comesFirst 88 = .ok (.iconst 1, 1) := by decide +kernel
theorem dX5_comesFirst_89 : decode cX5_comesFirst 89 = .ok (.goto 4, 3) := by decide +kernel
theorem dX5_comesFirst_92 : decode cX5_comesFirst 92 = .ok (.iconst 0, 1) := by decide +kernel
theorem dX5_comesFirst_93 : decode cX5_comesFirst 93 = .ok (.ireturn, 1) := by decide +kernel
set_option maxRecDepth 20000 in
theorem ggX5_offer_X5_comesFirst : GoodIn wsX5_offer wsX5_comesFirst := goodIn_r _ [6, 7, 8, 9, 10, 5, 11, 12, 13, 14, 15, 16, 17, 18, 19, 20, 21, 22, 23, 24, 25, 26, 27, 28, 29, 30, 31, 32, 33, 34, 35, 36, 37, 38, 39, 40, 41, 42, 43, 44, 45, 46] (by decide +kernel) (by decide +kernel)
set_option maxRecDepth 20000 in
theorem gX5_offer_X5_comesFirst : GoodIn wsX5_offer (wsV RX5 142 RX5 yX5_comesFirst wsX5_comesFirst) := goodIn_app (goodIn_of _ (by decide +kernel)) ggX5_offer_X5_comesFirst
theorem dX5_offer_0 : decode cX5_offer 0 = .ok (.iconst (-1), 1) := by decide +kernel
theorem dX5_offer_1 : decode cX5_offer 1 = .ok (.istore_n 2, 1) := by decide +kernel
theorem dX5_offer_2 : decode cX5_offer 2 = .ok (.iconst 0, 1) := by decide +kernel
theorem dX5_offer_3 : decode cX5_offer 3 = .ok (.istore_n 3, 1) := by decide +kernel
theorem dX5_offer_4 : decode cX5_offer 4 = .ok (.iload_n 3, 1) := by decide +kernel
theorem dX5_offer_5 : decode cX5_offer 5 = .ok (.aload_n 0, 1) := by decide +kernel
theorem dX5_offer_6 : decode cX5_offer 6 = .ok (.getfield 28, 3) := by decide +kernel
theorem dX5_offer_9 : decode cX5_offer 9 = .ok (.iload_n 1, 1) := by decide +kernel
theorem dX5_offer_10 : decode cX5_offer 10 = .ok (.iaload, 1) := by decide +kernel
theorem dX5_offer_11 : decode cX5_offer 11 = .ok (.if_icmp .ge 36, 3) := by decide +kernel
theorem dX5_offer_14 : decode cX5_offer 14 = .ok (.iload_n 2, 1) := by decide +kernel
theorem dX5_offer_15 : decode cX5_offer 15 = .ok (.ifCond .lt 16, 3) := by decide +kernel
theorem dX5_offer_18 : decode cX5_offer 18 = .ok (.aload_n 0, 1) := by decide +kernel
theorem dX5_offer_19 : decode cX5_offer 19 = .ok (.iconst 4, 1) := by decide +kernel
theorem dX5_offer_20 : decode cX5_offer 20 = .ok (.iload_n 1, 1) := by decide +kernel
theorem dX5_offer_21 : decode cX5_offer 21 = .ok (.imul, 1) := by decide +kernel
theorem dX5_offer_22 : decode cX5_offer 22 = .ok (.iload_n 3, 1) := by decide +kernel
theorem dX5_offer_23 : decode cX5_offer 23 = .ok (.iadd, 1) := by decide +kernel
theorem dX5_offer_24 : decode cX5_offer 24 = .ok (.iload_n 2, 1) := by decide +kernel
theorem dX5_offer_25 : decode cX5_offer 25 = .ok (.invokevirtual 142, 3) := by decide +kernel
theorem dX5_offer_28 : decode cX5_offer 28 = .ok (.ifCond .eq 11, 3) := by decide +kernel
theorem dX5_offer_31 : decode cX5_offer 31 = .ok (.iconst 4, 1) := by decide +kernel
theorem dX5_offer_32 : decode cX5_offer 32 = .ok (.iload_n 1, 1) := by decide +kernel
theorem dX5_offer_33 : decode cX5_offer 33 = .ok (.imul, 1) := by decide +kernel
theorem dX5_offer_34 : decode cX5_offer 34 = .ok (.iload_n 3, 1) := by decide +kernel
theorem dX5_offer_35 : decode cX5_offer 35 = .ok (.iadd, 1) := by decide +kernel
theorem dX5_offer_36 : decode cX5_offer 36 = .ok (.goto 4, 3) := by decide +kernel
theorem dX5_offer_39 : decode cX5_offer 39 = .ok (.iload_n 2, 1) := by decide +kernel
theorem dX5_offer_40 : decode cX5_offer 40 = .ok (.istore_n 2, 1) := by decide +kernel
theorem dX5_offer_41 : decode cX5_offer 41 = .ok (.iinc 3 1, 3) := by decide +kernel
theorem dX5_offer_44 : decode cX5_offer 44 = .ok (.goto (-40), 3) := by decide +kernel
theorem dX5_offer_47 : decode cX5_offer 47 = .ok (.iload_n 2, 1) := by decide +kernel
theorem dX5_offer_48 : decode cX5_offer 48 = .ok (.ireturn, 1) := by decide +kernel
set_option maxRecDepth 20000 in
theorem ggX5_want_X5_isNode : GoodIn wsX5_want wsX5_isNode := goodIn_r _ [13] (by decide +kernel) (by decide +kernel)
set_option maxRecDepth 20000 in
theorem gX5_want_X5_isNode : GoodIn wsX5_want (va_wsS RX5 147 yX5_isNode wsX5_isNode) := goodIn_app (goodIn_of _ (by decide +kernel)) ggX5_want_X5_isNode
theorem dX5_want_0 : decode cX5_want 0 = .ok (.iload_n 3, 1) := by decide +kernel
theorem dX5_want_1 : decode cX5_want 1 = .ok (.ifCond .lt 39, 3) := by decide +kernel
theorem dX5_want_4 : decode cX5_want 4 = .ok (.iload_n 2, 1) := by decide +kernel
theorem dX5_want_5 : decode cX5_want 5 = .ok (.ifCond .eq 12, 3) := by decide +kernel
theorem dX5_want_8 : decode cX5_want 8 = .ok (.iload_n 3, 1) := by decide +kernel
theorem dX5_want_9 : decode cX5_want 9 = .ok (.ldc 146, 2) := by decide +kernel
theorem dX5_want_11 : decode cX5_want 11 = .ok (.if_icmp .ge 29, 3) := by decide +kernel
theorem dX5_want_14 : decode cX5_want 14 = .ok (.goto 10, 3) := by decide +kernel
theorem dX5_want_17 : decode cX5_want 17 = .ok (.iload_n 3, 1) := by decide +kernel
theorem dX5_want_18 : decode cX5_want 18 = .ok (.sipush 2048, 3) := by decide +kernel
theorem dX5_want_21 : decode cX5_want 21 = .ok (.if_icmp .ge 19, 3) := by decide +kernel
theorem dX5_want_24 : decode cX5_want 24 = .ok (.iload 6, 2) := by decide +kernel
theorem dX5_want_26 : decode cX5_want 26 = .ok (.ifCond .lt 14, 3) := by decide +kernel
theorem dX5_want_29 : decode cX5_want 29 = .ok (.iload 6, 2) := by decide +kernel
theorem dX5_want_31 : decode cX5_want 31 = .ok (.bipush 9, 2) := by decide +kernel
theorem dX5_want_33 : decode cX5_want 33 = .ok (.if_icmp .ge 7, 3) := by decide +kernel
theorem dX5_want_36 : decode cX5_want 36 = .ok (.iconst 1, 1) := by decide +kernel
theorem dX5_want_37 : decode cX5_want 37 = .ok (.goto 4, 3) := by decide +kernel
theorem dX5_want_40 : decode cX5_want 40 = .ok (.iconst 0, 1) := by decide +kernel
theorem dX5_want_41 : decode cX5_want 41 = .ok (.istore 7, 2) := by decide +kernel
theorem dX5_want_43 : decode cX5_want 43 = .ok (.aload_n 0, 1) := by decide +kernel
theorem dX5_want_44 : decode cX5_want 44 = .ok (.iload_n 1, 1) := by decide +kernel
theorem dX5_want_45 : decode cX5_want 45 = .ok (.invokestatic 147, 3) := by decide +kernel
theorem dX5_want_48 : decode cX5_want 48 = .ok (.ifCond .ne 7, 3) := by decide +kernel
theorem dX5_want_51 : decode cX5_want 51 = .ok (.iconst 1, 1) := by decide +kernel
theorem dX5_want_52 : decode cX5_want 52 = .ok (.goto 27, 3) := by decide +kernel
theorem dX5_want_55 : decode cX5_want 55 = .ok (.iload 7, 2) := by decide +kernel
theorem dX5_want_57 : decode cX5_want 57 = .ok (.ifCond .ne 7, 3) := by decide +kernel
theorem dX5_want_60 : decode cX5_want 60 = .ok (.iconst 2, 1) := by decide +kernel
theorem dX5_want_61 : decode cX5_want 61 = .ok (.goto 18, 3) := by decide +kernel
theorem dX5_want_64 : decode cX5_want 64 = .ok (.aload_n 0, 1) := by decide +kernel
theorem dX5_want_65 : decode cX5_want 65 = .ok (.getfield 28, 3) := by decide +kernel
theorem dX5_want_68 : decode cX5_want 68 = .ok (.iload_n 1, 1) := by decide +kernel
theorem dX5_want_69 : decode cX5_want 69 = .ok (.iaload, 1) := by decide +kernel
theorem dX5_want_70 : decode cX5_want 70 = .ok (.iconst 4, 1) := by decide +kernel
theorem dX5_want_71 : decode cX5_want 71 = .ok (.if_icmp .ne 7, 3) := by decide +kernel
theorem dX5_want_74 : decode cX5_want 74 = .ok (.iconst 3, 1) := by decide +kernel
theorem dX5_want_75 : decode cX5_want 75 = .ok (.goto 4, 3) := by decide +kernel
theorem dX5_want_78 : decode cX5_want 78 = .ok (.iconst 0, 1) := by decide +kernel
theorem dX5_want_79 : decode cX5_want 79 = .ok (.putfield 99, 3) := by decide +kernel
theorem dX5_want_82 : decode cX5_want 82 = .ok (.aload_n 0, 1) := by decide +kernel
theorem dX5_want_83 : decode cX5_want 83 = .ok (.getfield 99, 3) := by decide +kernel
theorem dX5_want_86 : decode cX5_want 86 = .ok (.ifCond .le 5, 3) := by decide +kernel
theorem dX5_want_89 : decode cX5_want 89 = .ok (.iconst 0, 1) := by decide +kernel
theorem dX5_want_90 : decode cX5_want 90 = .ok (.ireturn, 1) := by decide +kernel
theorem dX5_want_91 : decode cX5_want 91 = .ok (.iconst 4, 1) := by decide +kernel
theorem dX5_want_92 : decode cX5_want 92 = .ok (.iload_n 1, 1) := by decide +kernel
theorem dX5_want_93 : decode cX5_want 93 = .ok (.imul, 1) := by decide +kernel
theorem dX5_want_94 : decode cX5_want 94 = .ok (.aload_n 0, 1) := by decide +kernel
theorem dX5_want_95 : decode cX5_want 95 = .ok (.getfield 28, 3) := by decide +kernel
theorem dX5_want_98 : decode cX5_want 98 = .ok (.iload_n 1, 1) := by decide +kernel
theorem dX5_want_99 : decode cX5_want 99 = .ok (.iaload, 1) := by decide +kernel
theorem dX5_want_100 : decode cX5_want 100 = .ok (.iadd, 1) := by decide +kernel
theorem dX5_want_101 : decode cX5_want 101 = .ok (.istore 8, 2) := by decide +kernel
theorem dX5_want_103 : decode cX5_want 103 = .ok (.aload_n 0, 1) := by decide +kernel
theorem dX5_want_104 : decode cX5_want 104 = .ok (.getfield 31, 3) := by decide +kernel
theorem dX5_want_107 : decode cX5_want 107 = .ok (.iload 8, 2) := by decide +kernel
theorem dX5_want_109 : decode cX5_want 109 = .ok (.iload_n 2, 1) := by decide +kernel
theorem dX5_want_110 : decode cX5_want 110 = .ok (.bastore, 1) := by decide +kernel
theorem dX5_want_111 : decode cX5_want 111 = .ok (.aload_n 0, 1) := by decide +kernel
theorem dX5_want_112 : decode cX5_want 112 = .ok (.getfield 35, 3) := by decide +kernel
theorem dX5_want_115 : decode cX5_want 115 = .ok (.iload 8, 2) := by decide +kernel
theorem dX5_want_117 : decode cX5_want 117 = .ok (.iload_n 3, 1) := by decide +kernel
theorem dX5_want_118 : decode cX5_want 118 = .ok (.iastore, 1) := by decide +kernel
theorem dX5_want_119 : decode cX5_want 119 = .ok (.aload_n 0, 1) := by decide +kernel
theorem dX5_want_120 : decode cX5_want 120 = .ok (.getfield 38, 3) := by decide +kernel
theorem dX5_want_123 : decode cX5_want 123 = .ok (.iload 8, 2) := by decide +kernel
theorem dX5_want_125 : decode cX5_want 125 = .ok (.lload 4, 2) := by decide +kernel
theorem dX5_want_127 : decode cX5_want 127 = .ok (.lastore, 1) := by decide +kernel
theorem dX5_want_128 : decode cX5_want 128 = .ok (.aload_n 0, 1) := by decide +kernel
theorem dX5_want_129 : decode cX5_want 129 = .ok (.getfield 42, 3) := by decide +kernel
theorem dX5_want_132 : decode cX5_want 132 = .ok (.iload 8, 2) := by decide +kernel
theorem dX5_want_134 : decode cX5_want 134 = .ok (.iload 6, 2) := by decide +kernel
theorem dX5_want_136 : decode cX5_want 136 = .ok (.iastore, 1) := by decide +kernel
theorem dX5_want_137 : decode cX5_want 137 = .ok (.aload_n 0, 1) := by decide +kernel
theorem dX5_want_138 : decode cX5_want 138 = .ok (.getfield 72, 3) := by decide +kernel
theorem dX5_want_141 : decode cX5_want 141 = .ok (.iload 8, 2) := by decide +kernel
theorem dX5_want_143 : decode cX5_want 143 = .ok (.aload_n 0, 1) := by decide +kernel
theorem dX5_want_144 : decode cX5_want 144 = .ok (.getfield 150, 3) := by decide +kernel
theorem dX5_want_147 : decode cX5_want 147 = .ok (.iastore, 1) := by decide +kernel
theorem dX5_want_148 : decode cX5_want 148 = .ok (.aload_n 0, 1) := by decide +kernel
theorem dX5_want_149 : decode cX5_want 149 = .ok (.dup, 1) := by decide +kernel
theorem dX5_want_150 : decode cX5_want 150 = .ok (.getfield 150, 3) := by decide +kernel
theorem dX5_want_153 : decode cX5_want 153 = .ok (.iconst 1, 1) := by decide +kernel
theorem dX5_want_154 : decode cX5_want 154 = .ok (.iadd, 1) := by decide +kernel
theorem dX5_want_155 : decode cX5_want 155 = .ok (.putfield 150, 3) := by decide +kernel
theorem dX5_want_158 : decode cX5_want 158 = .ok (.aload_n 0, 1) := by decide +kernel
theorem dX5_want_159 : decode cX5_want 159 = .ok (.getfield 28, 3) := by decide +kernel
theorem dX5_want_162 : decode cX5_want 162 = .ok (.iload_n 1, 1) := by decide +kernel
theorem dX5_want_163 : decode cX5_want 163 = .ok (.dup2, 1) := by decide +kernel
theorem dX5_want_164 : decode cX5_want 164 = .ok (.iaload, 1) := by decide +kernel
theorem dX5_want_165 : decode cX5_want 165 = .ok (.iconst 1, 1) := by decide +kernel
theorem dX5_want_166 : decode cX5_want 166 = .ok (.iadd, 1) := by decide +kernel
theorem dX5_want_167 : decode cX5_want 167 = .ok (.iastore, 1) := by decide +kernel
theorem dX5_want_168 : decode cX5_want 168 = .ok (.aload_n 0, 1) := by decide +kernel
theorem dX5_want_169 : decode cX5_want 169 = .ok (.getfield 28, 3) := by decide +kernel
theorem dX5_want_172 : decode cX5_want 172 = .ok (.iload_n 1, 1) := by decide +kernel
theorem dX5_want_173 : decode cX5_want 173 = .ok (.iaload, 1) := by decide +kernel
theorem dX5_want_174 : decode cX5_want 174 = .ok (.ireturn, 1) := by decide +kernel
theorem dX5_sentOne_0 : decode cX5_sentOne 0 = .ok (.iconst 4, 1) := by decide +kernel
theorem dX5_sentOne_1 : decode cX5_sentOne 1 = .ok (.iload_n 1, 1) := by decide +kernel
theorem dX5_sentOne_2 : decode cX5_sentOne 2 = .ok (.imul, 1) := by decide +kernel
theorem dX5_sentOne_3 : decode cX5_sentOne 3 = .ok (.istore_n 2, 1) := by decide +kernel
theorem dX5_sentOne_4 : decode cX5_sentOne 4 = .ok (.aload_n 0, 1) := by decide +kernel
theorem dX5_sentOne_5 : decode cX5_sentOne 5 = .ok (.getfield 72, 3) := by decide +kernel
theorem dX5_sentOne_8 : decode cX5_sentOne 8 = .ok (.iload_n 2, 1) := by decide +kernel
theorem dX5_sentOne_9 : decode cX5_sentOne 9 = .ok (.iaload, 1) := by decide +kernel
theorem dX5_sentOne_10 : decode cX5_sentOne 10 = .ok (.aload_n 0, 1) := by decide +kernel
theorem dX5_sentOne_11 : decode cX5_sentOne 11 = .ok (.getfield 69, 3) := by decide +kernel
theorem dX5_sentOne_14 : decode cX5_sentOne 14 = .ok (.iload_n 1, 1) := by decide +kernel
theorem dX5_sentOne_15 : decode cX5_sentOne 15 = .ok (.iaload, 1) := by decide +kernel
theorem dX5_sentOne_16 : decode cX5_sentOne 16 = .ok (.if_icmp .eq 9, 3) := by decide +kernel
theorem dX5_sentOne_19 : decode cX5_sentOne 19 = .ok (.iinc 2 1, 3) := by decide +kernel
theorem dX5_sentOne_22 : decode cX5_sentOne 22 = .ok (.goto (-18), 3) := by decide +kernel
theorem dX5_sentOne_25 : decode cX5_sentOne 25 = .ok (.iload_n 2, 1) := by decide +kernel
theorem dX5_sentOne_26 : decode cX5_sentOne 26 = .ok (.ireturn, 1) := by decide +kernel
set_option maxRecDepth 20000 in
theorem ggX5_forget_X5_sentOne : GoodIn wsX5_forget wsX5_sentOne := goodIn_r _ [11, 6, 12, 13, 14, 15, 16, 17, 18, 19, 20, 21, 22, 23, 24, 25, 26, 27, 28, 29, 30, 31, 32, 33, 34, 35, 36, 37, 38, 39, 40, 41, 42, 43, 44, 45, 46, 47] (by decide +kernel) (by decide +kernel)
set_option maxRecDepth 20000 in
theorem gX5_forget_X5_sentOne : GoodIn wsX5_forget (wsV RX5 153 RX5 yX5_sentOne wsX5_sentOne) := goodIn_app (goodIn_of _ (by decide +kernel)) ggX5_forget_X5_sentOne
theorem dX5_forget_0 : decode cX5_forget 0 = .ok (.aload_n 0, 1) := by decide +kernel
theorem dX5_forget_1 : decode cX5_forget 1 = .ok (.iload_n 1, 1) := by decide +kernel
theorem dX5_forget_2 : decode cX5_forget 2 = .ok (.invokevirtual 153, 3) := by decide +kernel
theorem dX5_forget_5 : decode cX5_forget 5 = .ok (.istore_n 2, 1) := by decide +kernel
theorem dX5_forget_6 : decode cX5_forget 6 = .ok (.aload_n 0, 1) := by decide +kernel
theorem dX5_forget_7 : decode cX5_forget 7 = .ok (.getfield 28, 3) := by decide +kernel
theorem dX5_forget_10 : decode cX5_forget 10 = .ok (.iload_n 1, 1) := by decide +kernel
theorem dX5_forget_11 : decode cX5_forget 11 = .ok (.dup2, 1) := by decide +kernel
theorem dX5_forget_12 : decode cX5_forget 12 = .ok (.iaload, 1) := by decide +kernel
theorem dX5_forget_13 : decode cX5_forget 13 = .ok (.iconst 1, 1) := by decide +kernel
theorem dX5_forget_14 : decode cX5_forget 14 = .ok (.isub, 1) := by decide +kernel
theorem dX5_forget_15 : decode cX5_forget 15 = .ok (.iastore, 1) := by decide +kernel
theorem dX5_forget_16 : decode cX5_forget 16 = .ok (.iload_n 2, 1) := by decide +kernel
theorem dX5_forget_17 : decode cX5_forget 17 = .ok (.istore_n 3, 1) := by decide +kernel
theorem dX5_forget_18 : decode cX5_forget 18 = .ok (.iload_n 3, 1) := by decide +kernel
theorem dX5_forget_19 : decode cX5_forget 19 = .ok (.iconst 4, 1) := by decide +kernel
theorem dX5_forget_20 : decode cX5_forget 20 = .ok (.iload_n 1, 1) := by decide +kernel
theorem dX5_forget_21 : decode cX5_forget 21 = .ok (.imul, 1) := by decide +kernel
theorem dX5_forget_22 : decode cX5_forget 22 = .ok (.aload_n 0, 1) := by decide +kernel
theorem dX5_forget_23 : decode cX5_forget 23 = .ok (.getfield 28, 3) := by decide +kernel
theorem dX5_forget_26 : decode cX5_forget 26 = .ok (.iload_n 1, 1) := by decide +kernel
theorem dX5_forget_27 : decode cX5_forget 27 = .ok (.iaload, 1) := by decide +kernel
theorem dX5_forget_28 : decode cX5_forget 28 = .ok (.iadd, 1) := by decide +kernel
theorem dX5_forget_29 : decode cX5_forget 29 = .ok (.if_icmp .ge 79, 3) := by decide +kernel
theorem dX5_forget_32 : decode cX5_forget 32 = .ok (.aload_n 0, 1) := by decide +kernel
theorem dX5_forget_33 : decode cX5_forget 33 = .ok (.getfield 31, 3) := by decide +kernel
theorem dX5_forget_36 : decode cX5_forget 36 = .ok (.iload_n 3, 1) := by decide +kernel
theorem dX5_forget_37 : decode cX5_forget 37 = .ok (.aload_n 0, 1) := by decide +kernel
theorem dX5_forget_38 : decode cX5_forget 38 = .ok (.getfield 31, 3) := by decide +kernel
theorem dX5_forget_41 : decode cX5_forget 41 = .ok (.iload_n 3, 1) := by decide +kernel
theorem dX5_forget_42 : decode cX5_forget 42 = .ok (.iconst 1, 1) := by decide +kernel
theorem dX5_forget_43 : decode cX5_forget 43 = .ok (.iadd, 1) := by decide +kernel
theorem dX5_forget_44 : decode cX5_forget 44 = .ok (.baload, 1) := by decide +kernel
theorem dX5_forget_45 : decode cX5_forget 45 = .ok (.bastore, 1) := by decide +kernel
theorem dX5_forget_46 : decode cX5_forget 46 = .ok (.aload_n 0, 1) := by decide +kernel
theorem dX5_forget_47 : decode cX5_forget 47 = .ok (.getfield 35, 3) := by decide +kernel
theorem dX5_forget_50 : decode cX5_forget 50 = .ok (.iload_n 3, 1) := by decide +kernel
theorem dX5_forget_51 : decode cX5_forget 51 = .ok (.aload_n 0, 1) := by decide +kernel
theorem dX5_forget_52 : decode cX5_forget 52 = .ok (.getfield 35, 3) := by decide +kernel
theorem dX5_forget_55 : decode cX5_forget 55 = .ok (.iload_n 3, 1) := by decide +kernel
theorem dX5_forget_56 : decode cX5_forget 56 = .ok (.iconst 1, 1) := by decide +kernel
theorem dX5_forget_57 : decode cX5_forget 57 = .ok (.iadd, 1) := by decide +kernel
theorem dX5_forget_58 : decode cX5_forget 58 = .ok (.iaload, 1) := by decide +kernel
theorem dX5_forget_59 : decode cX5_forget 59 = .ok (.iastore, 1) := by decide +kernel
theorem dX5_forget_60 : decode cX5_forget 60 = .ok (.aload_n 0, 1) := by decide +kernel
theorem dX5_forget_61 : decode cX5_forget 61 = .ok (.getfield 38, 3) := by decide +kernel
theorem dX5_forget_64 : decode cX5_forget 64 = .ok (.iload_n 3, 1) := by decide +kernel
theorem dX5_forget_65 : decode cX5_forget 65 = .ok (.aload_n 0, 1) := by decide +kernel
theorem dX5_forget_66 : decode cX5_forget 66 = .ok (.getfield 38, 3) := by decide +kernel
theorem dX5_forget_69 : decode cX5_forget 69 = .ok (.iload_n 3, 1) := by decide +kernel
theorem dX5_forget_70 : decode cX5_forget 70 = .ok (.iconst 1, 1) := by decide +kernel
theorem dX5_forget_71 : decode cX5_forget 71 = .ok (.iadd, 1) := by decide +kernel
theorem dX5_forget_72 : decode cX5_forget 72 = .ok (.laload, 1) := by decide +kernel
theorem dX5_forget_73 : decode cX5_forget 73 = .ok (.lastore, 1) := by decide +kernel
theorem dX5_forget_74 : decode cX5_forget 74 = .ok (.aload_n 0, 1) := by decide +kernel
theorem dX5_forget_75 : decode cX5_forget 75 = .ok (.getfield 42, 3) := by decide +kernel
theorem dX5_forget_78 : decode cX5_forget 78 = .ok (.iload_n 3, 1) := by decide +kernel
theorem dX5_forget_79 : decode cX5_forget 79 = .ok (.aload_n 0, 1) := by decide +kernel
theorem dX5_forget_80 : decode cX5_forget 80 = .ok (.getfield 42, 3) := by decide +kernel
theorem dX5_forget_83 : decode cX5_forget 83 = .ok (.iload_n 3, 1) := by decide +kernel
theorem dX5_forget_84 : decode cX5_forget 84 = .ok (.iconst 1, 1) := by decide +kernel
theorem dX5_forget_85 : decode cX5_forget 85 = .ok (.iadd, 1) := by decide +kernel
theorem dX5_forget_86 : decode cX5_forget 86 = .ok (.iaload, 1) := by decide +kernel
theorem dX5_forget_87 : decode cX5_forget 87 = .ok (.iastore, 1) := by decide +kernel
theorem dX5_forget_88 : decode cX5_forget 88 = .ok (.aload_n 0, 1) := by decide +kernel
theorem dX5_forget_89 : decode cX5_forget 89 = .ok (.getfield 72, 3) := by decide +kernel
theorem dX5_forget_92 : decode cX5_forget 92 = .ok (.iload_n 3, 1) := by decide +kernel
theorem dX5_forget_93 : decode cX5_forget 93 = .ok (.aload_n 0, 1) := by decide +kernel
theorem dX5_forget_94 : decode cX5_forget 94 = .ok (.getfield 72, 3) := by decide +kernel
theorem dX5_forget_97 : decode cX5_forget 97 = .ok (.iload_n 3, 1) := by decide +kernel
theorem dX5_forget_98 : decode cX5_forget 98 = .ok (.iconst 1, 1) := by decide +kernel
theorem dX5_forget_99 : decode cX5_forget 99 = .ok (.iadd, 1) := by decide +kernel
theorem dX5_forget_100 : decode cX5_forget 100 = .ok (.iaload, 1) := by decide +kernel
theorem dX5_forget_101 : decode cX5_forget 101 = .ok (.iastore, 1) := by decide +kernel
theorem dX5_forget_102 : decode cX5_forget 102 = .ok (.iinc 3 1, 3) := by decide +kernel
theorem dX5_forget_105 : decode cX5_forget 105 = .ok (.goto (-87), 3) := by decide +kernel
theorem dX5_forget_108 : decode cX5_forget 108 = .ok (.return_, 1) := by decide +kernel
set_option maxRecDepth 20000 in
theorem ggX5_sends_X5_answers : GoodIn wsX5_sends wsX5_answers := goodIn_r _ [8, 9, 10, 11, 12, 13, 14, 7, 15, 16, 17, 18, 19, 20, 21, 22, 23, 24, 25, 26, 27, 28, 29, 30, 31, 32, 33, 34, 35, 36, 37, 38, 39, 40, 41, 42, 43, 44, 45, 46, 47, 48, 49, 50, 51, 52, 53, 54, 55, 56, 57, 58] (by decide +kernel) (by decide +kernel)
set_option maxRecDepth 20000 in
theorem gX5_sends_X5_answers : GoodIn wsX5_sends (wsV RX5 156 RX5 yX5_answers wsX5_answers) := goodIn_app (goodIn_of _ (by decide +kernel)) ggX5_sends_X5_answers
theorem dX5_sends_0 : decode cX5_sends 0 = .ok (.aload_n 0, 1) := by decide +kernel
theorem dX5_sends_1 : decode cX5_sends 1 = .ok (.getfield 9, 3) := by decide +kernel
theorem dX5_sends_4 : decode cX5_sends 4 = .ok (.iload_n 1, 1) := by decide +kernel
theorem dX5_sends_5 : decode cX5_sends 5 = .ok (.iaload, 1) := by decide +kernel
theorem dX5_sends_6 : decode cX5_sends 6 = .ok (.iconst 3, 1) := by decide +kernel
theorem dX5_sends_7 : decode cX5_sends 7 = .ok (.if_icmp .ne 21, 3) := by decide +kernel
theorem dX5_sends_10 : decode cX5_sends 10 = .ok (.aload_n 0, 1) := by decide +kernel
theorem dX5_sends_11 : decode cX5_sends 11 = .ok (.getfield 57, 3) := by decide +kernel
theorem dX5_sends_14 : decode cX5_sends 14 = .ok (.sipush 200, 3) := by decide +kernel
theorem dX5_sends_17 : decode cX5_sends 17 = .ok (.iload_n 1, 1) := by decide +kernel
theorem dX5_sends_18 : decode cX5_sends 18 = .ok (.imul, 1) := by decide +kernel
theorem dX5_sends_19 : decode cX5_sends 19 = .ok (.aload_n 0, 1) := by decide +kernel
theorem dX5_sends_20 : decode cX5_sends 20 = .ok (.getfield 66, 3) := by decide +kernel
theorem dX5_sends_23 : decode cX5_sends 23 = .ok (.iload_n 1, 1) := by decide +kernel
theorem dX5_sends_24 : decode cX5_sends 24 = .ok (.iaload, 1) := by decide +kernel
theorem dX5_sends_25 : decode cX5_sends 25 = .ok (.iadd, 1) := by decide +kernel
theorem dX5_sends_26 : decode cX5_sends 26 = .ok (.iaload, 1) := by decide +kernel
theorem dX5_sends_27 : decode cX5_sends 27 = .ok (.ireturn, 1) := by decide +kernel
theorem dX5_sends_28 : decode cX5_sends 28 = .ok (.aload_n 0, 1) := by decide +kernel
theorem dX5_sends_29 : decode cX5_sends 29 = .ok (.getfield 9, 3) := by decide +kernel
theorem dX5_sends_32 : decode cX5_sends 32 = .ok (.iload_n 1, 1) := by decide +kernel
theorem dX5_sends_33 : decode cX5_sends 33 = .ok (.iaload, 1) := by decide +kernel
theorem dX5_sends_34 : decode cX5_sends 34 = .ok (.iconst 2, 1) := by decide +kernel
theorem dX5_sends_35 : decode cX5_sends 35 = .ok (.if_icmp .ne 15, 3) := by decide +kernel
theorem dX5_sends_38 : decode cX5_sends 38 = .ok (.aload_n 0, 1) := by decide +kernel
theorem dX5_sends_39 : decode cX5_sends 39 = .ok (.iload_n 1, 1) := by decide +kernel
theorem dX5_sends_40 : decode cX5_sends 40 = .ok (.invokevirtual 156, 3) := by decide +kernel
theorem dX5_sends_43 : decode cX5_sends 43 = .ok (.ifCond .eq 7, 3) := by decide +kernel
theorem dX5_sends_46 : decode cX5_sends 46 = .ok (.iconst 0, 1) := by decide +kernel
theorem dX5_sends_47 : decode cX5_sends 47 = .ok (.goto 4, 3) := by decide +kernel
theorem dX5_sends_50 : decode cX5_sends 50 = .ok (.iconst 1, 1) := by decide +kernel
theorem dX5_sends_51 : decode cX5_sends 51 = .ok (.ireturn, 1) := by decide +kernel
set_option maxRecDepth 20000 in
theorem ggX5_offerAll_X5_offer : GoodIn wsX5_offerAll wsX5_offer := goodIn_r _ [9, 10, 11, 12, 13, 8, 14, 15, 16, 17, 18, 19, 52, 53, 54, 55, 56, 57, 58, 59, 60, 61, 62, 63, 64, 65, 66, 67, 68, 69, 70, 71, 72, 73, 74, 75, 76, 77, 78, 79, 80, 81, 82, 83, 84, 85, 86] (by decide +kernel) (by decide +kernel)
set_option maxRecDepth 20000 in
theorem gX5_offerAll_X5_offer : GoodIn wsX5_offerAll (wsV RX5 159 RX5 yX5_offer wsX5_offer) := goodIn_app (goodIn_of _ (by decide +kernel)) ggX5_offerAll_X5_offer
set_option maxRecDepth 20000 in
theorem ggX5_offerAll_X5_make : GoodIn wsX5_offerAll wsX5_make := goodIn_r _ [23, 24, 15, 16, 25, 26, 27, 28, 29, 30, 31, 32, 8, 33, 34, 35, 36, 37, 38, 39, 40, 41, 42, 52, 53, 54, 55, 56, 57, 58, 59, 60, 61, 62, 63, 64, 65, 66, 67, 68, 69, 70, 71, 72, 73, 74, 75, 76, 77, 78, 79, 80, 81, 82, 83, 84, 85, 86] (by decide +kernel) (by decide +kernel)
set_option maxRecDepth 20000 in
theorem gX5_offerAll_X5_make : GoodIn wsX5_offerAll (wsV RX5 162 RX5 yX5_make wsX5_make) := goodIn_app (goodIn_of _ (by decide +kernel)) ggX5_offerAll_X5_make
set_option maxRecDepth 20000 in
theorem ggX5_offerAll_X5_begin : GoodIn wsX5_offerAll wsX5_begin := goodIn_r _ [46, 47, 48, 49, 50, 51, 52, 53, 54, 55, 56, 57, 58, 59, 60, 61, 62, 63, 64, 65, 66, 67, 68, 69, 70, 71, 72, 73, 74, 75, 76, 77, 78, 79, 80, 81, 82, 83, 84, 85, 86] (by decide +kernel) (by decide +kernel)
set_option maxRecDepth 20000 in
theorem gX5_offerAll_X5_begin : GoodIn wsX5_offerAll (wsV RX5 165 RX5 yX5_begin wsX5_begin) := goodIn_app (goodIn_of _ (by decide +kernel)) ggX5_offerAll_X5_begin
theorem dX5_offerAll_0 : decode cX5_offerAll 0 = .ok (.iconst 0, 1) := by decide +kernel
theorem dX5_offerAll_1 : decode cX5_offerAll 1 = .ok (.istore_n 1, 1) := by decide +kernel
theorem dX5_offerAll_2 : decode cX5_offerAll 2 = .ok (.iload_n 1, 1) := by decide +kernel
theorem dX5_offerAll_3 : decode cX5_offerAll 3 = .ok (.iconst 4, 1) := by decide +kernel
theorem dX5_offerAll_4 : decode cX5_offerAll 4 = .ok (.if_icmp .ge 66, 3) := by decide +kernel
theorem dX5_offerAll_7 : decode cX5_offerAll 7 = .ok (.aload_n 0, 1) := by decide +kernel
theorem dX5_offerAll_8 : decode cX5_offerAll 8 = .ok (.iload_n 1, 1) := by decide +kernel
theorem dX5_offerAll_9 : decode cX5_offerAll 9 = .ok (.invokevirtual 159, 3) := by decide +kernel
theorem dX5_offerAll_12 : decode cX5_offerAll 12 = .ok (.istore_n 2, 1) := by decide +kernel
theorem dX5_offerAll_13 : decode cX5_offerAll 13 = .ok (.aload_n 0, 1) := by decide +kernel
theorem dX5_offerAll_14 : decode cX5_offerAll 14 = .ok (.getfield 9, 3) := by decide +kernel
theorem dX5_offerAll_17 : decode cX5_offerAll 17 = .ok (.iload_n 1, 1) := by decide +kernel
theorem dX5_offerAll_18 : decode cX5_offerAll 18 = .ok (.iaload, 1) := by decide +kernel
theorem dX5_offerAll_19 : decode cX5_offerAll 19 = .ok (.iconst 1, 1) := by decide +kernel
theorem dX5_offerAll_20 : decode cX5_offerAll 20 = .ok (.if_icmp .ne 44, 3) := by decide +kernel
theorem dX5_offerAll_23 : decode cX5_offerAll 23 = .ok (.iload_n 2, 1) := by decide +kernel
theorem dX5_offerAll_24 : decode cX5_offerAll 24 = .ok (.ifCond .lt 40, 3) := by decide +kernel
theorem dX5_offerAll_27 : decode cX5_offerAll 27 = .ok (.aload_n 0, 1) := by decide +kernel
theorem dX5_offerAll_28 : decode cX5_offerAll 28 = .ok (.getfield 9, 3) := by decide +kernel
theorem dX5_offerAll_31 : decode cX5_offerAll 31 = .ok (.iload_n 1, 1) := by decide +kernel
theorem dX5_offerAll_32 : decode cX5_offerAll 32 = .ok (.iconst 3, 1) := by decide +kernel
theorem dX5_offerAll_33 : decode cX5_offerAll 33 = .ok (.iastore, 1) := by decide +kernel
theorem dX5_offerAll_34 : decode cX5_offerAll 34 = .ok (.aload_n 0, 1) := by decide +kernel
theorem dX5_offerAll_35 : decode cX5_offerAll 35 = .ok (.getfield 69, 3) := by decide +kernel
theorem dX5_offerAll_38 : decode cX5_offerAll 38 = .ok (.iload_n 1, 1) := by decide +kernel
theorem dX5_offerAll_39 : decode cX5_offerAll 39 = .ok (.aload_n 0, 1) := by decide +kernel
theorem dX5_offerAll_40 : decode cX5_offerAll 40 = .ok (.getfield 72, 3) := by decide +kernel
theorem dX5_offerAll_43 : decode cX5_offerAll 43 = .ok (.iload_n 2, 1) := by decide +kernel
theorem dX5_offerAll_44 : decode cX5_offerAll 44 = .ok (.iaload, 1) := by decide +kernel
theorem dX5_offerAll_45 : decode cX5_offerAll 45 = .ok (.iastore, 1) := by decide +kernel
theorem dX5_offerAll_46 : decode cX5_offerAll 46 = .ok (.aload_n 0, 1) := by decide +kernel
theorem dX5_offerAll_47 : decode cX5_offerAll 47 = .ok (.getfield 66, 3) := by decide +kernel
theorem dX5_offerAll_50 : decode cX5_offerAll 50 = .ok (.iload_n 1, 1) := by decide +kernel
theorem dX5_offerAll_51 : decode cX5_offerAll 51 = .ok (.iconst 0, 1) := by decide +kernel
theorem dX5_offerAll_52 : decode cX5_offerAll 52 = .ok (.iastore, 1) := by decide +kernel
theorem dX5_offerAll_53 : decode cX5_offerAll 53 = .ok (.aload_n 0, 1) := by decide +kernel
theorem dX5_offerAll_54 : decode cX5_offerAll 54 = .ok (.iload_n 2, 1) := by decide +kernel
theorem dX5_offerAll_55 : decode cX5_offerAll 55 = .ok (.iload_n 1, 1) := by decide +kernel
theorem dX5_offerAll_56 : decode cX5_offerAll 56 = .ok (.invokevirtual 162, 3) := by decide +kernel
theorem dX5_offerAll_59 : decode cX5_offerAll 59 = .ok (.aload_n 0, 1) := by decide +kernel
theorem dX5_offerAll_60 : decode cX5_offerAll 60 = .ok (.iload_n 1, 1) := by decide +kernel
theorem dX5_offerAll_61 : decode cX5_offerAll 61 = .ok (.invokevirtual 165, 3) := by decide +kernel
theorem dX5_offerAll_64 : decode cX5_offerAll 64 = .ok (.iinc 1 1, 3) := by decide +kernel
theorem dX5_offerAll_67 : decode cX5_offerAll 67 = .ok (.goto (-65), 3) := by decide +kernel
theorem dX5_offerAll_70 : decode cX5_offerAll 70 = .ok (.return_, 1) := by decide +kernel
set_option maxRecDepth 20000 in
theorem ggX5_saw_X5_take : GoodIn wsX5_saw wsX5_take := goodIn_r _ [10, 11, 12, 13, 14, 15, 16, 17, 18, 9, 19, 20, 21, 22, 23, 24, 25, 26, 27, 28, 29, 30, 31, 32, 33, 34, 35, 36, 37, 38, 39, 46, 47, 48, 49, 50, 51, 52, 53, 54, 55, 56, 57, 58, 59, 60, 61, 62, 63, 64, 65, 66, 67, 68, 69, 70, 71, 72, 73, 74, 75, 76, 77, 78, 79, 80] (by decide +kernel) (by decide +kernel)
set_option maxRecDepth 20000 in
theorem gX5_saw_X5_take : GoodIn wsX5_saw (wsV RX5 169 RX5 yX5_take wsX5_take) := goodIn_app (goodIn_of _ (by decide +kernel)) ggX5_saw_X5_take
set_option maxRecDepth 20000 in
theorem ggX5_saw_X5_sentOne : GoodIn wsX5_saw wsX5_sentOne := goodIn_r _ [43, 44, 45, 46, 47, 48, 49, 50, 51, 52, 53, 54, 55, 56, 57, 58, 59, 60, 61, 62, 63, 64, 65, 66, 67, 68, 69, 70, 71, 72, 73, 74, 75, 76, 77, 78, 79, 80] (by decide +kernel) (by decide +kernel)
set_option maxRecDepth 20000 in
theorem gX5_saw_X5_sentOne : GoodIn wsX5_saw (wsV RX5 153 RX5 yX5_sentOne wsX5_sentOne) := goodIn_app (goodIn_of _ (by decide +kernel)) ggX5_saw_X5_sentOne
theorem dX5_saw_0 : decode cX5_saw 0 = .ok (.aload_n 0, 1) := by decide +kernel
theorem dX5_saw_1 : decode cX5_saw 1 = .ok (.getfield 60, 3) := by decide +kernel
theorem dX5_saw_4 : decode cX5_saw 4 = .ok (.sipush 200, 3) := by decide +kernel
theorem dX5_saw_7 : decode cX5_saw 7 = .ok (.iload_n 1, 1) := by decide +kernel
theorem dX5_saw_8 : decode cX5_saw 8 = .ok (.imul, 1) := by decide +kernel
theorem dX5_saw_9 : decode cX5_saw 9 = .ok (.aload_n 0, 1) := by decide +kernel
theorem dX5_saw_10 : decode cX5_saw 10 = .ok (.getfield 66, 3) := by decide +kernel
theorem dX5_saw_13 : decode cX5_saw 13 = .ok (.iload_n 1, 1) := by decide +kernel
theorem dX5_saw_14 : decode cX5_saw 14 = .ok (.iaload, 1) := by decide +kernel
theorem dX5_saw_15 : decode cX5_saw 15 = .ok (.iadd, 1) := by decide +kernel
theorem dX5_saw_16 : decode cX5_saw 16 = .ok (.iaload, 1) := by decide +kernel
theorem dX5_saw_17 : decode cX5_saw 17 = .ok (.istore_n 3, 1) := by decide +kernel
theorem dX5_saw_18 : decode cX5_saw 18 = .ok (.aload_n 0, 1) := by decide +kernel
theorem dX5_saw_19 : decode cX5_saw 19 = .ok (.getfield 57, 3) := by decide +kernel
theorem dX5_saw_22 : decode cX5_saw 22 = .ok (.sipush 200, 3) := by decide +kernel
theorem dX5_saw_25 : decode cX5_saw 25 = .ok (.iload_n 1, 1) := by decide +kernel
theorem dX5_saw_26 : decode cX5_saw 26 = .ok (.imul, 1) := by decide +kernel
theorem dX5_saw_27 : decode cX5_saw 27 = .ok (.aload_n 0, 1) := by decide +kernel
theorem dX5_saw_28 : decode cX5_saw 28 = .ok (.getfield 66, 3) := by decide +kernel
theorem dX5_saw_31 : decode cX5_saw 31 = .ok (.iload_n 1, 1) := by decide +kernel
theorem dX5_saw_32 : decode cX5_saw 32 = .ok (.iaload, 1) := by decide +kernel
theorem dX5_saw_33 : decode cX5_saw 33 = .ok (.iadd, 1) := by decide +kernel
theorem dX5_saw_34 : decode cX5_saw 34 = .ok (.iaload, 1) := by decide +kernel
theorem dX5_saw_35 : decode cX5_saw 35 = .ok (.istore 4, 2) := by decide +kernel
theorem dX5_saw_37 : decode cX5_saw 37 = .ok (.aload_n 0, 1) := by decide +kernel
theorem dX5_saw_38 : decode cX5_saw 38 = .ok (.iload_n 1, 1) := by decide +kernel
theorem dX5_saw_39 : decode cX5_saw 39 = .ok (.iload_n 2, 1) := by decide +kernel
theorem dX5_saw_40 : decode cX5_saw 40 = .ok (.invokevirtual 169, 3) := by decide +kernel
theorem dX5_saw_43 : decode cX5_saw 43 = .ok (.pop, 1) := by decide +kernel
theorem dX5_saw_44 : decode cX5_saw 44 = .ok (.aload_n 0, 1) := by decide +kernel
theorem dX5_saw_45 : decode cX5_saw 45 = .ok (.getfield 66, 3) := by decide +kernel
theorem dX5_saw_48 : decode cX5_saw 48 = .ok (.iload_n 1, 1) := by decide +kernel
theorem dX5_saw_49 : decode cX5_saw 49 = .ok (.dup2, 1) := by decide +kernel
theorem dX5_saw_50 : decode cX5_saw 50 = .ok (.iaload, 1) := by decide +kernel
theorem dX5_saw_51 : decode cX5_saw 51 = .ok (.iconst 1, 1) := by decide +kernel
theorem dX5_saw_52 : decode cX5_saw 52 = .ok (.iadd, 1) := by decide +kernel
theorem dX5_saw_53 : decode cX5_saw 53 = .ok (.iastore, 1) := by decide +kernel
theorem dX5_saw_54 : decode cX5_saw 54 = .ok (.iload_n 3, 1) := by decide +kernel
theorem dX5_saw_55 : decode cX5_saw 55 = .ok (.sipush 201, 3) := by decide +kernel
theorem dX5_saw_58 : decode cX5_saw 58 = .ok (.if_icmp .ne 14, 3) := by decide +kernel
theorem dX5_saw_61 : decode cX5_saw 61 = .ok (.iload_n 2, 1) := by decide +kernel
theorem dX5_saw_62 : decode cX5_saw 62 = .ok (.iconst 1, 1) := by decide +kernel
theorem dX5_saw_63 : decode cX5_saw 63 = .ok (.if_icmp .ne 7, 3) := by decide +kernel
theorem dX5_saw_66 : decode cX5_saw 66 = .ok (.iconst 5, 1) := by decide +kernel
theorem dX5_saw_67 : decode cX5_saw 67 = .ok (.goto 4, 3) := by decide +kernel
theorem dX5_saw_70 : decode cX5_saw 70 = .ok (.iconst 0, 1) := by decide +kernel
theorem dX5_saw_71 : decode cX5_saw 71 = .ok (.ireturn, 1) := by decide +kernel
theorem dX5_saw_72 : decode cX5_saw 72 = .ok (.iload_n 2, 1) := by decide +kernel
theorem dX5_saw_73 : decode cX5_saw 73 = .ok (.iload 4, 2) := by decide +kernel
theorem dX5_saw_75 : decode cX5_saw 75 = .ok (.if_icmp .ne 5, 3) := by decide +kernel
theorem dX5_saw_78 : decode cX5_saw 78 = .ok (.iconst 0, 1) := by decide +kernel
theorem dX5_saw_79 : decode cX5_saw 79 = .ok (.ireturn, 1) := by decide +kernel
theorem dX5_saw_80 : decode cX5_saw 80 = .ok (.aload_n 0, 1) := by decide +kernel
theorem dX5_saw_81 : decode cX5_saw 81 = .ok (.getfield 31, 3) := by decide +kernel
theorem dX5_saw_84 : decode cX5_saw 84 = .ok (.aload_n 0, 1) := by decide +kernel
theorem dX5_saw_85 : decode cX5_saw 85 = .ok (.iload_n 1, 1) := by decide +kernel
theorem dX5_saw_86 : decode cX5_saw 86 = .ok (.invokevirtual 153, 3) := by decide +kernel
theorem dX5_saw_89 : decode cX5_saw 89 = .ok (.baload, 1) := by decide +kernel
theorem dX5_saw_90 : decode cX5_saw 90 = .ok (.ifCond .eq 8, 3) := by decide +kernel
theorem dX5_saw_93 : decode cX5_saw 93 = .ok (.bipush 35, 2) := by decide +kernel
theorem dX5_saw_95 : decode cX5_saw 95 = .ok (.goto 5, 3) := by decide +kernel
theorem dX5_saw_98 : decode cX5_saw 98 = .ok (.bipush 15, 2) := by decide +kernel
theorem dX5_saw_100 : decode cX5_saw 100 = .ok (.istore 5, 2) := by decide +kernel
theorem dX5_saw_102 : decode cX5_saw 102 = .ok (.iload 4, 2) := by decide +kernel
theorem dX5_saw_104 : decode cX5_saw 104 = .ok (.ifCond .eq 15, 3) := by decide +kernel
theorem dX5_saw_107 : decode cX5_saw 107 = .ok (.iload_n 3, 1) := by decide +kernel
theorem dX5_saw_108 : decode cX5_saw 108 = .ok (.ifCond .lt 11, 3) := by decide +kernel
theorem dX5_saw_111 : decode cX5_saw 111 = .ok (.iload 5, 2) := by decide +kernel
theorem dX5_saw_113 : decode cX5_saw 113 = .ok (.iload_n 3, 1) := by decide +kernel
theorem dX5_saw_114 : decode cX5_saw 114 = .ok (.isub, 1) := by decide +kernel
theorem dX5_saw_115 : decode cX5_saw 115 = .ok (.iconst 4, 1) := by decide +kernel
theorem dX5_saw_116 : decode cX5_saw 116 = .ok (.if_icmp .ge 5, 3) := by decide +kernel
theorem dX5_saw_119 : decode cX5_saw 119 = .ok (.iconst 4, 1) := by decide +kernel
theorem dX5_saw_120 : decode cX5_saw 120 = .ok (.ireturn, 1) := by decide +kernel
theorem dX5_saw_121 : decode cX5_saw 121 = .ok (.aload_n 0, 1) := by decide +kernel
theorem dX5_saw_122 : decode cX5_saw 122 = .ok (.getfield 9, 3) := by decide +kernel
theorem dX5_saw_125 : decode cX5_saw 125 = .ok (.iload_n 1, 1) := by decide +kernel
theorem dX5_saw_126 : decode cX5_saw 126 = .ok (.iconst 2, 1) := by decide +kernel
theorem dX5_saw_127 : decode cX5_saw 127 = .ok (.iastore, 1) := by decide +kernel
theorem dX5_saw_128 : decode cX5_saw 128 = .ok (.iconst 0, 1) := by decide +kernel
theorem dX5_saw_129 : decode cX5_saw 129 = .ok (.ireturn, 1) := by decide +kernel
set_option maxRecDepth 20000 in
theorem ggX5_idle_X5_begin : GoodIn wsX5_idle wsX5_begin := goodIn_r _ [6, 7, 8, 9, 10, 11, 40, 41, 42, 43, 44, 45, 46, 47, 48, 49, 50, 51, 52, 53, 54, 55, 56, 57, 58, 59, 60, 61, 62, 63, 64, 65, 66, 67, 68, 69, 70, 71, 72, 73, 74] (by decide +kernel) (by decide +kernel)
set_option maxRecDepth 20000 in
theorem gX5_idle_X5_begin : GoodIn wsX5_idle (wsV RX5 165 RX5 yX5_begin wsX5_begin) := goodIn_app (goodIn_of _ (by decide +kernel)) ggX5_idle_X5_begin
set_option maxRecDepth 20000 in
theorem ggX5_idle_X5_take : GoodIn wsX5_idle wsX5_take := goodIn_r _ [15, 7, 10, 8, 9, 16, 17, 18, 19, 5, 20, 11, 21, 22, 23, 24, 25, 26, 27, 28, 29, 30, 31, 32, 33, 34, 35, 36, 37, 38, 39, 40, 41, 42, 43, 44, 45, 46, 47, 48, 49, 50, 51, 52, 53, 54, 55, 56, 57, 58, 59, 60, 61, 62, 63, 64, 65, 66, 67, 68, 69, 70, 71, 72, 73, 74] (by decide +kernel) (by decide +kernel)
set_option maxRecDepth 20000 in
theorem gX5_idle_X5_take : GoodIn wsX5_idle (wsV RX5 169 RX5 yX5_take wsX5_take) := goodIn_app (goodIn_of _ (by decide +kernel)) ggX5_idle_X5_take
theorem dX5_idle_0 : decode cX5_idle 0 = .ok (.iload_n 2, 1) := by decide +kernel
theorem dX5_idle_1 : decode cX5_idle 1 = .ok (.ifCond .ne 22, 3) := by decide +kernel
theorem dX5_idle_4 : decode cX5_idle 4 = .ok (.aload_n 0, 1) := by decide +kernel
theorem dX5_idle_5 : decode cX5_idle 5 = .ok (.getfield 9, 3) := by decide +kernel
theorem dX5_idle_8 : decode cX5_idle 8 = .ok (.iload_n 1, 1) := by decide +kernel
theorem dX5_idle_9 : decode cX5_idle 9 = .ok (.iconst 2, 1) := by decide +kernel
theorem dX5_idle_10 : decode cX5_idle 10 = .ok (.iastore, 1) := by decide +kernel
theorem dX5_idle_11 : decode cX5_idle 11 = .ok (.aload_n 0, 1) := by decide +kernel
theorem dX5_idle_12 : decode cX5_idle 12 = .ok (.iload_n 1, 1) := by decide +kernel
theorem dX5_idle_13 : decode cX5_idle 13 = .ok (.invokevirtual 165, 3) := by decide +kernel
theorem dX5_idle_16 : decode cX5_idle 16 = .ok (.aload_n 0, 1) := by decide +kernel
theorem dX5_idle_17 : decode cX5_idle 17 = .ok (.iload_n 1, 1) := by decide +kernel
theorem dX5_idle_18 : decode cX5_idle 18 = .ok (.iconst 0, 1) := by decide +kernel
theorem dX5_idle_19 : decode cX5_idle 19 = .ok (.invokevirtual 169, 3) := by decide +kernel
theorem dX5_idle_22 : decode cX5_idle 22 = .ok (.ireturn, 1) := by decide +kernel
theorem dX5_idle_23 : decode cX5_idle 23 = .ok (.iconst 0, 1) := by decide +kernel
theorem dX5_idle_24 : decode cX5_idle 24 = .ok (.ireturn, 1) := by decide +kernel
set_option maxRecDepth 20000 in
theorem ggX5_sees_X5_saw : GoodIn wsX5_sees wsX5_saw := goodIn_r _ [6, 7, 8, 9, 10, 1, 11, 12, 13, 5, 14, 15, 16, 17, 18, 19, 20, 21, 22, 23, 24, 25, 26, 27, 28, 29, 30, 31, 32, 33, 34, 35, 36, 37, 38, 39, 40, 41, 42, 43, 44, 45, 46, 47, 48, 49, 58, 59, 60, 61, 62, 63, 64, 65, 66, 67, 68, 69, 70, 71, 72, 73, 74, 75, 76, 77, 78, 79, 80, 81, 82, 83, 84, 85, 86, 87, 88, 89, 90, 91, 92] rfl (by decide +kernel)
set_option maxRecDepth 20000 in
theorem gX5_sees_X5_saw : GoodIn wsX5_sees (wsV RX5 172 RX5 yX5_saw wsX5_saw) := goodIn_app (goodIn_of _ (by decide +kernel)) ggX5_sees_X5_saw
set_option maxRecDepth 20000 in
theorem ggX5_sees_X5_take : GoodIn wsX5_sees wsX5_take := goodIn_r _ [14, 15, 16, 17, 18, 19, 20, 21, 22, 5, 23, 24, 25, 26, 27, 28, 29, 30, 31, 32, 33, 34, 35, 36, 37, 38, 39, 40, 41, 42, 43, 58, 59, 60, 61, 62, 63, 64, 65, 66, 67, 68, 69, 70, 71, 72, 73, 74, 75, 76, 77, 78, 79, 80, 81, 82, 83, 84, 85, 86, 87, 88, 89, 90, 91, 92] (by decide +kernel) (by decide +kernel)
set_option maxRecDepth 20000 in
theorem gX5_sees_X5_take : GoodIn wsX5_sees (wsV RX5 169 RX5 yX5_take wsX5_take) := goodIn_app (goodIn_of _ (by decide +kernel)) ggX5_sees_X5_take
set_option maxRecDepth 20000 in
theorem ggX5_sees_X5_idle : GoodIn wsX5_sees wsX5_idle := goodIn_r _ [53, 1, 54, 55, 56, 5, 57, 15, 17, 18, 16, 24, 11, 12, 13, 14, 19, 20, 21, 22, 23, 25, 26, 27, 28, 29, 30, 31, 32, 33, 34, 35, 36, 37, 38, 39, 40, 41, 42, 43, 58, 59, 60, 61, 62, 63, 64, 65, 66, 67, 68, 69, 70, 71, 72, 73, 74, 75, 76, 77, 78, 79, 80, 81, 82, 83, 84, 85, 86, 87, 88, 89, 90, 91, 92] rfl (by decide +kernel)
set_option maxRecDepth 20000 in
theorem gX5_sees_X5_idle : GoodIn wsX5_sees (wsV RX5 175 RX5 yX5_idle wsX5_idle) := goodIn_app (goodIn_of _ (by decide +kernel)) ggX5_sees_X5_idle
theorem dX5_sees_0 : decode cX5_sees 0 = .ok (.aload_n 0, 1) := by decide +kernel
theorem dX5_sees_1 : decode cX5_sees 1 = .ok (.getfield 9, 3) := by decide +kernel
theorem dX5_sees_4 : decode cX5_sees 4 = .ok (.iload_n 1, 1) := by decide +kernel
theorem dX5_sees_5 : decode cX5_sees 5 = .ok (.iaload, 1) := by decide +kernel
theorem dX5_sees_6 : decode cX5_sees 6 = .ok (.iconst 3, 1) := by decide +kernel
theorem dX5_sees_7 : decode cX5_sees 7 = .ok (.if_icmp .ne 10, 3) := by decide +kernel
theorem dX5_sees_10 : decode cX5_sees 10 = .ok (.aload_n 0, 1) := by decide +kernel
theorem dX5_sees_11 : decode cX5_sees 11 = .ok (.iload_n 1, 1) := by decide +kernel
theorem dX5_sees_12 : decode cX5_sees 12 = .ok (.iload_n 2, 1) := by decide +kernel
theorem dX5_sees_13 : decode cX5_sees 13 = .ok (.invokevirtual 172, 3) := by decide +kernel
theorem dX5_sees_16 : decode cX5_sees 16 = .ok (.ireturn, 1) := by decide +kernel
theorem dX5_sees_17 : decode cX5_sees 17 = .ok (.aload_n 0, 1) := by decide +kernel
theorem dX5_sees_18 : decode cX5_sees 18 = .ok (.getfield 9, 3) := by decide +kernel
theorem dX5_sees_21 : decode cX5_sees 21 = .ok (.iload_n 1, 1) := by decide +kernel
theorem dX5_sees_22 : decode cX5_sees 22 = .ok (.iaload, 1) := by decide +kernel
theorem dX5_sees_23 : decode cX5_sees 23 = .ok (.iconst 2, 1) := by decide +kernel
theorem dX5_sees_24 : decode cX5_sees 24 = .ok (.if_icmp .ne 12, 3) := by decide +kernel
theorem dX5_sees_27 : decode cX5_sees 27 = .ok (.aload_n 0, 1) := by decide +kernel
theorem dX5_sees_28 : decode cX5_sees 28 = .ok (.iload_n 1, 1) := by decide +kernel
theorem dX5_sees_29 : decode cX5_sees 29 = .ok (.iload_n 2, 1) := by decide +kernel
theorem dX5_sees_30 : decode cX5_sees 30 = .ok (.invokevirtual 169, 3) := by decide +kernel
theorem dX5_sees_33 : decode cX5_sees 33 = .ok (.goto 23, 3) := by decide +kernel
theorem dX5_sees_36 : decode cX5_sees 36 = .ok (.aload_n 0, 1) := by decide +kernel
theorem dX5_sees_37 : decode cX5_sees 37 = .ok (.getfield 9, 3) := by decide +kernel
theorem dX5_sees_40 : decode cX5_sees 40 = .ok (.iload_n 1, 1) := by decide +kernel
theorem dX5_sees_41 : decode cX5_sees 41 = .ok (.iaload, 1) := by decide +kernel
theorem dX5_sees_42 : decode cX5_sees 42 = .ok (.iconst 1, 1) := by decide +kernel
theorem dX5_sees_43 : decode cX5_sees 43 = .ok (.if_icmp .ne 12, 3) := by decide +kernel
theorem dX5_sees_46 : decode cX5_sees 46 = .ok (.aload_n 0, 1) := by decide +kernel
theorem dX5_sees_47 : decode cX5_sees 47 = .ok (.iload_n 1, 1) := by decide +kernel
theorem dX5_sees_48 : decode cX5_sees 48 = .ok (.iload_n 2, 1) := by decide +kernel
theorem dX5_sees_49 : decode cX5_sees 49 = .ok (.invokevirtual 175, 3) := by decide +kernel
theorem dX5_sees_52 : decode cX5_sees 52 = .ok (.goto 4, 3) := by decide +kernel
theorem dX5_sees_55 : decode cX5_sees 55 = .ok (.iconst 0, 1) := by decide +kernel
theorem dX5_sees_56 : decode cX5_sees 56 = .ok (.ireturn, 1) := by decide +kernel
theorem dX5_breakOff_0 : decode cX5_breakOff 0 = .ok (.iconst 0, 1) := by decide +kernel
theorem dX5_breakOff_1 : decode cX5_breakOff 1 = .ok (.istore_n 2, 1) := by decide +kernel
theorem dX5_breakOff_2 : decode cX5_breakOff 2 = .ok (.iload_n 2, 1) := by decide +kernel
theorem dX5_breakOff_3 : decode cX5_breakOff 3 = .ok (.iconst 4, 1) := by decide +kernel
theorem dX5_breakOff_4 : decode cX5_breakOff 4 = .ok (.if_icmp .ge 88, 3) := by decide +kernel
theorem dX5_breakOff_7 : decode cX5_breakOff 7 = .ok (.iload_n 1, 1) := by decide +kernel
theorem dX5_breakOff_8 : decode cX5_breakOff 8 = .ok (.iload_n 2, 1) := by decide +kernel
theorem dX5_breakOff_9 : decode cX5_breakOff 9 = .ok (.ishr, 1) := by decide +kernel
theorem dX5_breakOff_10 : decode cX5_breakOff 10 = .ok (.iconst 1, 1) := by decide +kernel
theorem dX5_breakOff_11 : decode cX5_breakOff 11 = .ok (.iand, 1) := by decide +kernel
theorem dX5_breakOff_12 : decode cX5_breakOff 12 = .ok (.iconst 1, 1) := by decide +kernel
theorem dX5_breakOff_13 : decode cX5_breakOff 13 = .ok (.if_icmp .ne 41, 3) := by decide +kernel
theorem dX5_breakOff_16 : decode cX5_breakOff 16 = .ok (.aload_n 0, 1) := by decide +kernel
theorem dX5_breakOff_17 : decode cX5_breakOff 17 = .ok (.getfield 9, 3) := by decide +kernel
theorem dX5_breakOff_20 : decode cX5_breakOff 20 = .ok (.iload_n 2, 1) := by decide +kernel
theorem dX5_breakOff_21 : decode cX5_breakOff 21 = .ok (.iaload, 1) := by decide +kernel
theorem dX5_breakOff_22 : decode cX5_breakOff 22 = .ok (.iconst 3, 1) := by decide +kernel
theorem dX5_breakOff_23 : decode cX5_breakOff 23 = .ok (.if_icmp .ne 21, 3) := by decide +kernel
theorem dX5_breakOff_26 : decode cX5_breakOff 26 = .ok (.aload_n 0, 1) := by decide +kernel
theorem dX5_breakOff_27 : decode cX5_breakOff 27 = .ok (.getfield 13, 3) := by decide +kernel
theorem dX5_breakOff_30 : decode cX5_breakOff 30 = .ok (.iload_n 2, 1) := by decide +kernel
theorem dX5_breakOff_31 : decode cX5_breakOff 31 = .ok (.aload_n 0, 1) := by decide +kernel
theorem dX5_breakOff_32 : decode cX5_breakOff 32 = .ok (.getfield 13, 3) := by decide +kernel
theorem dX5_breakOff_35 : decode cX5_breakOff 35 = .ok (.iload_n 2, 1) := by decide +kernel
theorem dX5_breakOff_36 : decode cX5_breakOff 36 = .ok (.iaload, 1) := by decide +kernel
theorem dX5_breakOff_37 : decode cX5_breakOff 37 = .ok (.bipush 8, 2) := by decide +kernel
theorem dX5_breakOff_39 : decode cX5_breakOff 39 = .ok (.iadd, 1) := by decide +kernel
theorem dX5_breakOff_40 : decode cX5_breakOff 40 = .ok (.iastore, 1) := by decide +kernel
theorem dX5_breakOff_41 : decode cX5_breakOff 41 = .ok (.goto 13, 3) := by decide +kernel
theorem dX5_breakOff_44 : decode cX5_breakOff 44 = .ok (.aload_n 0, 1) := by decide +kernel
theorem dX5_breakOff_45 : decode cX5_breakOff 45 = .ok (.getfield 16, 3) := by decide +kernel
theorem dX5_breakOff_48 : decode cX5_breakOff 48 = .ok (.iload_n 2, 1) := by decide +kernel
theorem dX5_breakOff_49 : decode cX5_breakOff 49 = .ok (.dup2, 1) := by decide +kernel
theorem dX5_breakOff_50 : decode cX5_breakOff 50 = .ok (.iaload, 1) := by decide +kernel
theorem dX5_breakOff_51 : decode cX5_breakOff 51 = .ok (.iconst 1, 1) := by decide +kernel
theorem dX5_breakOff_52 : decode cX5_breakOff 52 = .ok (.iadd, 1) := by decide +kernel
theorem dX5_breakOff_53 : decode cX5_breakOff 53 = .ok (.iastore, 1) := by decide +kernel
theorem dX5_breakOff_54 : decode cX5_breakOff 54 = .ok (.aload_n 0, 1) := by decide +kernel
theorem dX5_breakOff_55 : decode cX5_breakOff 55 = .ok (.getfield 9, 3) := by decide +kernel
theorem dX5_breakOff_58 : decode cX5_breakOff 58 = .ok (.iload_n 2, 1) := by decide +kernel
theorem dX5_breakOff_59 : decode cX5_breakOff 59 = .ok (.aload_n 0, 1) := by decide +kernel
theorem dX5_breakOff_60 : decode cX5_breakOff 60 = .ok (.getfield 9, 3) := by decide +kernel
theorem dX5_breakOff_63 : decode cX5_breakOff 63 = .ok (.iload_n 2, 1) := by decide +kernel
theorem dX5_breakOff_64 : decode cX5_breakOff 64 = .ok (.iaload, 1) := by decide +kernel
theorem dX5_breakOff_65 : decode cX5_breakOff 65 = .ok (.ifCond .eq 15, 3) := by decide +kernel
theorem dX5_breakOff_68 : decode cX5_breakOff 68 = .ok (.aload_n 0, 1) := by decide +kernel
theorem dX5_breakOff_69 : decode cX5_breakOff 69 = .ok (.getfield 13, 3) := by decide +kernel
theorem dX5_breakOff_72 : decode cX5_breakOff 72 = .ok (.iload_n 2, 1) := by decide +kernel
theorem dX5_breakOff_73 : decode cX5_breakOff 73 = .ok (.iaload, 1) := by decide +kernel
theorem dX5_breakOff_74 : decode cX5_breakOff 74 = .ok (.sipush 255, 3) := by decide +kernel
theorem dX5_breakOff_77 : decode cX5_breakOff 77 = .ok (.if_icmp .le 7, 3) := by decide +kernel
theorem dX5_breakOff_80 : decode cX5_breakOff 80 = .ok (.iconst 0, 1) := by decide +kernel
theorem dX5_breakOff_81 : decode cX5_breakOff 81 = .ok (.goto 4, 3) := by decide +kernel
theorem dX5_breakOff_84 : decode cX5_breakOff 84 = .ok (.iconst 1, 1) := by decide +kernel
theorem dX5_breakOff_85 : decode cX5_breakOff 85 = .ok (.iastore, 1) := by decide +kernel
theorem dX5_breakOff_86 : decode cX5_breakOff 86 = .ok (.iinc 2 1, 3) := by decide +kernel
theorem dX5_breakOff_89 : decode cX5_breakOff 89 = .ok (.goto (-87), 3) := by decide +kernel
theorem dX5_breakOff_92 : decode cX5_breakOff 92 = .ok (.aload_n 0, 1) := by decide +kernel
theorem dX5_breakOff_93 : decode cX5_breakOff 93 = .ok (.iconst 2, 1) := by decide +kernel
theorem dX5_breakOff_94 : decode cX5_breakOff 94 = .ok (.putfield 178, 3) := by decide +kernel
theorem dX5_breakOff_97 : decode cX5_breakOff 97 = .ok (.aload_n 0, 1) := by decide +kernel
theorem dX5_breakOff_98 : decode cX5_breakOff 98 = .ok (.bipush 14, 2) := by decide +kernel
theorem dX5_breakOff_100 : decode cX5_breakOff 100 = .ok (.putfield 181, 3) := by decide +kernel
theorem dX5_breakOff_103 : decode cX5_breakOff 103 = .ok (.return_, 1) := by decide +kernel
set_option maxRecDepth 20000 in
theorem ggX5_keep_X5_isLong : GoodIn wsX5_keep wsX5_isLong := goodIn_r _ [12, 13, 22, 23, 24, 25, 26, 27, 28, 29, 30, 31, 32, 33, 34, 35, 36, 37, 38, 39, 40, 41, 42, 43, 44, 45, 46, 47, 48, 49, 50, 51, 52, 53, 54, 55, 56] (by decide +kernel) (by decide +kernel)
set_option maxRecDepth 20000 in
theorem gX5_keep_X5_isLong : GoodIn wsX5_keep (wsV RX5 120 RX5 yX5_isLong wsX5_isLong) := goodIn_app (goodIn_of _ (by decide +kernel)) ggX5_keep_X5_isLong
set_option maxRecDepth 20000 in
theorem ggX5_keep_X5_number : GoodIn wsX5_keep wsX5_number := goodIn_r _ [17, 13, 22, 23, 24, 25, 26, 27, 28, 29, 30, 31, 32, 33, 34, 35, 36, 37, 38, 39, 40, 41, 42, 43, 44, 45, 46, 47, 48, 49, 50, 51, 52, 53, 54, 55, 56] (by decide +kernel) (by decide +kernel)
set_option maxRecDepth 20000 in
theorem gX5_keep_X5_number : GoodIn wsX5_keep (wsV RX5 124 RX5 yX5_number wsX5_number) := goodIn_app (goodIn_of _ (by decide +kernel)) ggX5_keep_X5_number
set_option maxRecDepth 20000 in
theorem ggX5_keep_X5_bytesOf : GoodIn wsX5_keep wsX5_bytesOf := goodIn_r _ [21, 8, 9, 10, 11, 12, 13, 14, 15, 16, 17, 22, 23, 24, 25, 26, 27, 28, 29, 30, 31, 32, 33, 34, 35, 36, 37, 38, 39, 40, 41, 42, 43, 44, 45, 46, 47, 48, 49, 50, 51, 52, 53, 54, 55, 56] (by decide +kernel) (by decide +kernel)
set_option maxRecDepth 20000 in
theorem gX5_keep_X5_bytesOf : GoodIn wsX5_keep (wsV RX5 134 RX5 yX5_bytesOf wsX5_bytesOf) := goodIn_app (goodIn_of _ (by decide +kernel)) ggX5_keep_X5_bytesOf
theorem dX5_keep_0 : decode cX5_keep 0 = .ok (.aload_n 0, 1) := by decide +kernel
theorem dX5_keep_1 : decode cX5_keep 1 = .ok (.iload_n 1, 1) := by decide +kernel
theorem dX5_keep_2 : decode cX5_keep 2 = .ok (.invokevirtual 120, 3) := by decide +kernel
theorem dX5_keep_5 : decode cX5_keep 5 = .ok (.istore_n 2, 1) := by decide +kernel
theorem dX5_keep_6 : decode cX5_keep 6 = .ok (.aload_n 0, 1) := by decide +kernel
theorem dX5_keep_7 : decode cX5_keep 7 = .ok (.getfield 45, 3) := by decide +kernel
theorem dX5_keep_10 : decode cX5_keep 10 = .ok (.iload_n 1, 1) := by decide +kernel
theorem dX5_keep_11 : decode cX5_keep 11 = .ok (.iload_n 2, 1) := by decide +kernel
theorem dX5_keep_12 : decode cX5_keep 12 = .ok (.bastore, 1) := by decide +kernel
theorem dX5_keep_13 : decode cX5_keep 13 = .ok (.aload_n 0, 1) := by decide +kernel
theorem dX5_keep_14 : decode cX5_keep 14 = .ok (.getfield 48, 3) := by decide +kernel
theorem dX5_keep_17 : decode cX5_keep 17 = .ok (.iload_n 1, 1) := by decide +kernel
theorem dX5_keep_18 : decode cX5_keep 18 = .ok (.iload_n 2, 1) := by decide +kernel
theorem dX5_keep_19 : decode cX5_keep 19 = .ok (.ifCond .eq 27, 3) := by decide +kernel
theorem dX5_keep_22 : decode cX5_keep 22 = .ok (.aload_n 0, 1) := by decide +kernel
theorem dX5_keep_23 : decode cX5_keep 23 = .ok (.iload_n 1, 1) := by decide +kernel
theorem dX5_keep_24 : decode cX5_keep 24 = .ok (.iconst 1, 1) := by decide +kernel
theorem dX5_keep_25 : decode cX5_keep 25 = .ok (.bipush 11, 2) := by decide +kernel
theorem dX5_keep_27 : decode cX5_keep 27 = .ok (.invokevirtual 124, 3) := by decide +kernel
theorem dX5_keep_30 : decode cX5_keep 30 = .ok (.bipush 18, 2) := by decide +kernel
theorem dX5_keep_32 : decode cX5_keep 32 = .ok (.ishl, 1) := by decide +kernel
theorem dX5_keep_33 : decode cX5_keep 33 = .ok (.aload_n 0, 1) := by decide +kernel
theorem dX5_keep_34 : decode cX5_keep 34 = .ok (.iload_n 1, 1) := by decide +kernel
theorem dX5_keep_35 : decode cX5_keep 35 = .ok (.bipush 14, 2) := by decide +kernel
theorem dX5_keep_37 : decode cX5_keep 37 = .ok (.bipush 18, 2) := by decide +kernel
theorem dX5_keep_39 : decode cX5_keep 39 = .ok (.invokevirtual 124, 3) := by decide +kernel
theorem dX5_keep_42 : decode cX5_keep 42 = .ok (.ior, 1) := by decide +kernel
theorem dX5_keep_43 : decode cX5_keep 43 = .ok (.goto 11, 3) := by decide +kernel
theorem dX5_keep_46 : decode cX5_keep 46 = .ok (.aload_n 0, 1) := by decide +kernel
theorem dX5_keep_47 : decode cX5_keep 47 = .ok (.iload_n 1, 1) := by decide +kernel
theorem dX5_keep_48 : decode cX5_keep 48 = .ok (.iconst 1, 1) := by decide +kernel
theorem dX5_keep_49 : decode cX5_keep 49 = .ok (.bipush 11, 2) := by decide +kernel
theorem dX5_keep_51 : decode cX5_keep 51 = .ok (.invokevirtual 124, 3) := by decide +kernel
theorem dX5_keep_54 : decode cX5_keep 54 = .ok (.iastore, 1) := by decide +kernel
theorem dX5_keep_55 : decode cX5_keep 55 = .ok (.aload_n 0, 1) := by decide +kernel
theorem dX5_keep_56 : decode cX5_keep 56 = .ok (.getfield 54, 3) := by decide +kernel
theorem dX5_keep_59 : decode cX5_keep 59 = .ok (.iload_n 1, 1) := by decide +kernel
theorem dX5_keep_60 : decode cX5_keep 60 = .ok (.aload_n 0, 1) := by decide +kernel
theorem dX5_keep_61 : decode cX5_keep 61 = .ok (.iload_n 1, 1) := by decide +kernel
theorem dX5_keep_62 : decode cX5_keep 62 = .ok (.invokevirtual 134, 3) := by decide +kernel
theorem dX5_keep_65 : decode cX5_keep 65 = .ok (.iastore, 1) := by decide +kernel
theorem dX5_keep_66 : decode cX5_keep 66 = .ok (.lconst 0, 1) := by decide +kernel
theorem dX5_keep_67 : decode cX5_keep 67 = .ok (.lstore_n 3, 1) := by decide +kernel
theorem dX5_keep_68 : decode cX5_keep 68 = .ok (.iconst 0, 1) := by decide +kernel
theorem dX5_keep_69 : decode cX5_keep 69 = .ok (.istore 5, 2) := by decide +kernel
theorem dX5_keep_71 : decode cX5_keep 71 = .ok (.iload 5, 2) := by decide +kernel
theorem dX5_keep_73 : decode cX5_keep 73 = .ok (.aload_n 0, 1) := by decide +kernel
theorem dX5_keep_74 : decode cX5_keep 74 = .ok (.getfield 54, 3) := by decide +kernel
theorem dX5_keep_77 : decode cX5_keep 77 = .ok (.iload_n 1, 1) := by decide +kernel
theorem dX5_keep_78 : decode cX5_keep 78 = .ok (.iaload, 1) := by decide +kernel
theorem dX5_keep_79 : decode cX5_keep 79 = .ok (.if_icmp .ge 43, 3) := by decide +kernel
theorem dX5_keep_82 : decode cX5_keep 82 = .ok (.lload_n 3, 1) := by decide +kernel
theorem dX5_keep_83 : decode cX5_keep 83 = .ok (.aload_n 0, 1) := by decide +kernel
theorem dX5_keep_84 : decode cX5_keep 84 = .ok (.iload_n 1, 1) := by decide +kernel
theorem dX5_keep_85 : decode cX5_keep 85 = .ok (.iload_n 2, 1) := by decide +kernel
theorem dX5_keep_86 : decode cX5_keep 86 = .ok (.ifCond .eq 8, 3) := by decide +kernel
theorem dX5_keep_89 : decode cX5_keep 89 = .ok (.bipush 39, 2) := by decide +kernel
theorem dX5_keep_91 : decode cX5_keep 91 = .ok (.goto 5, 3) := by decide +kernel
theorem dX5_keep_94 : decode cX5_keep 94 = .ok (.bipush 19, 2) := by decide +kernel
theorem dX5_keep_96 : decode cX5_keep 96 = .ok (.bipush 8, 2) := by decide +kernel
theorem dX5_keep_98 : decode cX5_keep 98 = .ok (.iload 5, 2) := by decide +kernel
theorem dX5_keep_100 : decode cX5_keep 100 = .ok (.imul, 1) := by decide +kernel
theorem dX5_keep_101 : decode cX5_keep 101 = .ok (.iadd, 1) := by decide +kernel
theorem dX5_keep_102 : decode cX5_keep 102 = .ok (.bipush 8, 2) := by decide +kernel
theorem dX5_keep_104 : decode cX5_keep 104 = .ok (.invokevirtual 124, 3) := by decide +kernel
theorem dX5_keep_107 : decode cX5_keep 107 = .ok (.i2l, 1) := by decide +kernel
theorem dX5_keep_108 : decode cX5_keep 108 = .ok (.bipush 8, 2) := by decide +kernel
theorem dX5_keep_110 : decode cX5_keep 110 = .ok (.iload 5, 2) := by decide +kernel
theorem dX5_keep_112 : decode cX5_keep 112 = .ok (.imul, 1) := by decide +kernel
theorem dX5_keep_113 : decode cX5_keep 113 = .ok (.lshl, 1) := by decide +kernel
theorem dX5_keep_114 : decode cX5_keep 114 = .ok (.lor, 1) := by decide +kernel
theorem dX5_keep_115 : decode cX5_keep 115 = .ok (.lstore_n 3, 1) := by decide +kernel
theorem dX5_keep_116 : decode cX5_keep 116 = .ok (.iinc 5 1, 3) := by decide +kernel
theorem dX5_keep_119 : decode cX5_keep 119 = .ok (.goto (-48), 3) := by decide +kernel
theorem dX5_keep_122 : decode cX5_keep 122 = .ok (.aload_n 0, 1) := by decide +kernel
theorem dX5_keep_123 : decode cX5_keep 123 = .ok (.getfield 51, 3) := by decide +kernel
theorem dX5_keep_126 : decode cX5_keep 126 = .ok (.iload_n 1, 1) := by decide +kernel
theorem dX5_keep_127 : decode cX5_keep 127 = .ok (.lload_n 3, 1) := by decide +kernel
theorem dX5_keep_128 : decode cX5_keep 128 = .ok (.lastore, 1) := by decide +kernel
theorem dX5_keep_129 : decode cX5_keep 129 = .ok (.aload_n 0, 1) := by decide +kernel
theorem dX5_keep_130 : decode cX5_keep 130 = .ok (.getfield 22, 3) := by decide +kernel
theorem dX5_keep_133 : decode cX5_keep 133 = .ok (.iload_n 1, 1) := by decide +kernel
theorem dX5_keep_134 : decode cX5_keep 134 = .ok (.dup2, 1) := by decide +kernel
theorem dX5_keep_135 : decode cX5_keep 135 = .ok (.iaload, 1) := by decide +kernel
theorem dX5_keep_136 : decode cX5_keep 136 = .ok (.iconst 1, 1) := by decide +kernel
theorem dX5_keep_137 : decode cX5_keep 137 = .ok (.iadd, 1) := by decide +kernel
theorem dX5_keep_138 : decode cX5_keep 138 = .ok (.iastore, 1) := by decide +kernel
theorem dX5_keep_139 : decode cX5_keep 139 = .ok (.aload_n 0, 1) := by decide +kernel
theorem dX5_keep_140 : decode cX5_keep 140 = .ok (.getfield 16, 3) := by decide +kernel
theorem dX5_keep_143 : decode cX5_keep 143 = .ok (.iload_n 1, 1) := by decide +kernel
theorem dX5_keep_144 : decode cX5_keep 144 = .ok (.aload_n 0, 1) := by decide +kernel
theorem dX5_keep_145 : decode cX5_keep 145 = .ok (.getfield 16, 3) := by decide +kernel
theorem dX5_keep_148 : decode cX5_keep 148 = .ok (.iload_n 1, 1) := by decide +kernel
theorem dX5_keep_149 : decode cX5_keep 149 = .ok (.iaload, 1) := by decide +kernel
theorem dX5_keep_150 : decode cX5_keep 150 = .ok (.ifCond .le 14, 3) := by decide +kernel
theorem dX5_keep_153 : decode cX5_keep 153 = .ok (.aload_n 0, 1) := by decide +kernel
theorem dX5_keep_154 : decode cX5_keep 154 = .ok (.getfield 16, 3) := by decide +kernel
theorem dX5_keep_157 : decode cX5_keep 157 = .ok (.iload_n 1, 1) := by decide +kernel
theorem dX5_keep_158 : decode cX5_keep 158 = .ok (.iaload, 1) := by decide +kernel
theorem dX5_keep_159 : decode cX5_keep 159 = .ok (.iconst 1, 1) := by decide +kernel
theorem dX5_keep_160 : decode cX5_keep 160 = .ok (.isub, 1) := by decide +kernel
theorem dX5_keep_161 : decode cX5_keep 161 = .ok (.goto 4, 3) := by decide +kernel
theorem dX5_keep_164 : decode cX5_keep 164 = .ok (.iconst 0, 1) := by decide +kernel
theorem dX5_keep_165 : decode cX5_keep 165 = .ok (.iastore, 1) := by decide +kernel
theorem dX5_keep_166 : decode cX5_keep 166 = .ok (.aload_n 0, 1) := by decide +kernel
theorem dX5_keep_167 : decode cX5_keep 167 = .ok (.getfield 9, 3) := by decide +kernel
theorem dX5_keep_170 : decode cX5_keep 170 = .ok (.iload_n 1, 1) := by decide +kernel
theorem dX5_keep_171 : decode cX5_keep 171 = .ok (.iconst 1, 1) := by decide +kernel
theorem dX5_keep_172 : decode cX5_keep 172 = .ok (.iastore, 1) := by decide +kernel
theorem dX5_keep_173 : decode cX5_keep 173 = .ok (.return_, 1) := by decide +kernel
set_option maxRecDepth 20000 in
theorem ggX5_finish_X5_forget : GoodIn wsX5_finish wsX5_forget := goodIn_r _ [12, 13, 14, 15, 16, 17, 18, 19, 20, 21, 11, 22, 23, 47, 48, 49, 50, 51, 52, 53, 54, 55, 56, 57, 58, 59, 60, 61, 62, 63, 64, 65, 66, 67, 68, 69, 70, 71, 72, 73, 74, 75, 76, 77, 78, 79, 80, 81] (by decide +kernel) (by decide +kernel)
set_option maxRecDepth 20000 in
theorem gX5_finish_X5_forget : GoodIn wsX5_finish (wsV RX5 184 RX5 yX5_forget wsX5_forget) := goodIn_app (goodIn_of _ (by decide +kernel)) ggX5_finish_X5_forget
set_option maxRecDepth 20000 in
theorem ggX5_finish_X5_keep : GoodIn wsX5_finish wsX5_keep := goodIn_r _ [27, 28, 29, 30, 31, 32, 33, 1, 34, 35, 36, 11, 37, 38, 39, 40, 41, 42, 43, 44, 45, 46, 47, 48, 49, 50, 51, 52, 53, 54, 55, 56, 57, 58, 59, 60, 61, 62, 63, 64, 65, 66, 67, 68, 69, 70, 71, 72, 73, 74, 75, 76, 77, 78, 79, 80, 81] (by decide +kernel) (by decide +kernel)
set_option maxRecDepth 20000 in
theorem gX5_finish_X5_keep : GoodIn wsX5_finish (wsV RX5 187 RX5 yX5_keep wsX5_keep) := goodIn_app (goodIn_of _ (by decide +kernel)) ggX5_finish_X5_keep
theorem dX5_finish_0 : decode cX5_finish 0 = .ok (.iconst 0, 1) := by decide +kernel
theorem dX5_finish_1 : decode cX5_finish 1 = .ok (.istore_n 2, 1) := by decide +kernel
theorem dX5_finish_2 : decode cX5_finish 2 = .ok (.iconst 0, 1) := by decide +kernel
theorem dX5_finish_3 : decode cX5_finish 3 = .ok (.istore_n 3, 1) := by decide +kernel
theorem dX5_finish_4 : decode cX5_finish 4 = .ok (.iload_n 3, 1) := by decide +kernel
theorem dX5_finish_5 : decode cX5_finish 5 = .ok (.iconst 4, 1) := by decide +kernel
theorem dX5_finish_6 : decode cX5_finish 6 = .ok (.if_icmp .ge 127, 3) := by decide +kernel
theorem dX5_finish_9 : decode cX5_finish 9 = .ok (.aload_n 0, 1) := by decide +kernel
theorem dX5_finish_10 : decode cX5_finish 10 = .ok (.getfield 9, 3) := by decide +kernel
theorem dX5_finish_13 : decode cX5_finish 13 = .ok (.iload_n 3, 1) := by decide +kernel
theorem dX5_finish_14 : decode cX5_finish 14 = .ok (.iaload, 1) := by decide +kernel
theorem dX5_finish_15 : decode cX5_finish 15 = .ok (.iconst 3, 1) := by decide +kernel
theorem dX5_finish_16 : decode cX5_finish 16 = .ok (.if_icmp .ne 67, 3) := by decide +kernel
theorem dX5_finish_19 : decode cX5_finish 19 = .ok (.aload_n 0, 1) := by decide +kernel
theorem dX5_finish_20 : decode cX5_finish 20 = .ok (.getfield 66, 3) := by decide +kernel
theorem dX5_finish_23 : decode cX5_finish 23 = .ok (.iload_n 3, 1) := by decide +kernel
theorem dX5_finish_24 : decode cX5_finish 24 = .ok (.iaload, 1) := by decide +kernel
theorem dX5_finish_25 : decode cX5_finish 25 = .ok (.aload_n 0, 1) := by decide +kernel
theorem dX5_finish_26 : decode cX5_finish 26 = .ok (.getfield 63, 3) := by decide +kernel
theorem dX5_finish_29 : decode cX5_finish 29 = .ok (.iload_n 3, 1) := by decide +kernel
theorem dX5_finish_30 : decode cX5_finish 30 = .ok (.iaload, 1) := by decide +kernel
theorem dX5_finish_31 : decode cX5_finish 31 = .ok (.if_icmp .ne 52, 3) := by decide +kernel
theorem dX5_finish_34 : decode cX5_finish 34 = .ok (.aload_n 0, 1) := by decide +kernel
theorem dX5_finish_35 : decode cX5_finish 35 = .ok (.iload_n 3, 1) := by decide +kernel
theorem dX5_finish_36 : decode cX5_finish 36 = .ok (.invokevirtual 184, 3) := by decide +kernel
theorem dX5_finish_39 : decode cX5_finish 39 = .ok (.aload_n 0, 1) := by decide +kernel
theorem dX5_finish_40 : decode cX5_finish 40 = .ok (.getfield 19, 3) := by decide +kernel
theorem dX5_finish_43 : decode cX5_finish 43 = .ok (.iload_n 3, 1) := by decide +kernel
theorem dX5_finish_44 : decode cX5_finish 44 = .ok (.dup2, 1) := by decide +kernel
theorem dX5_finish_45 : decode cX5_finish 45 = .ok (.iaload, 1) := by decide +kernel
theorem dX5_finish_46 : decode cX5_finish 46 = .ok (.iconst 1, 1) := by decide +kernel
theorem dX5_finish_47 : decode cX5_finish 47 = .ok (.iadd, 1) := by decide +kernel
theorem dX5_finish_48 : decode cX5_finish 48 = .ok (.iastore, 1) := by decide +kernel
theorem dX5_finish_49 : decode cX5_finish 49 = .ok (.aload_n 0, 1) := by decide +kernel
theorem dX5_finish_50 : decode cX5_finish 50 = .ok (.getfield 13, 3) := by decide +kernel
theorem dX5_finish_53 : decode cX5_finish 53 = .ok (.iload_n 3, 1) := by decide +kernel
theorem dX5_finish_54 : decode cX5_finish 54 = .ok (.aload_n 0, 1) := by decide +kernel
theorem dX5_finish_55 : decode cX5_finish 55 = .ok (.getfield 13, 3) := by decide +kernel
theorem dX5_finish_58 : decode cX5_finish 58 = .ok (.iload_n 3, 1) := by decide +kernel
theorem dX5_finish_59 : decode cX5_finish 59 = .ok (.iaload, 1) := by decide +kernel
theorem dX5_finish_60 : decode cX5_finish 60 = .ok (.ifCond .le 14, 3) := by decide +kernel
theorem dX5_finish_63 : decode cX5_finish 63 = .ok (.aload_n 0, 1) := by decide +kernel
theorem dX5_finish_64 : decode cX5_finish 64 = .ok (.getfield 13, 3) := by decide +kernel
theorem dX5_finish_67 : decode cX5_finish 67 = .ok (.iload_n 3, 1) := by decide +kernel
theorem dX5_finish_68 : decode cX5_finish 68 = .ok (.iaload, 1) := by decide +kernel
theorem dX5_finish_69 : decode cX5_finish 69 = .ok (.iconst 1, 1) := by decide +kernel
theorem dX5_finish_70 : decode cX5_finish 70 = .ok (.isub, 1) := by decide +kernel
theorem dX5_finish_71 : decode cX5_finish 71 = .ok (.goto 4, 3) := by decide +kernel
theorem dX5_finish_74 : decode cX5_finish 74 = .ok (.iconst 0, 1) := by decide +kernel
theorem dX5_finish_75 : decode cX5_finish 75 = .ok (.iastore, 1) := by decide +kernel
theorem dX5_finish_76 : decode cX5_finish 76 = .ok (.aload_n 0, 1) := by decide +kernel
theorem dX5_finish_77 : decode cX5_finish 77 = .ok (.getfield 9, 3) := by decide +kernel
theorem dX5_finish_80 : decode cX5_finish 80 = .ok (.iload_n 3, 1) := by decide +kernel
theorem dX5_finish_81 : decode cX5_finish 81 = .ok (.iconst 1, 1) := by decide +kernel
theorem dX5_finish_82 : decode cX5_finish 82 = .ok (.iastore, 1) := by decide +kernel
theorem dX5_finish_83 : decode cX5_finish 83 = .ok (.aload_n 0, 1) := by decide +kernel
theorem dX5_finish_84 : decode cX5_finish 84 = .ok (.getfield 9, 3) := by decide +kernel
theorem dX5_finish_87 : decode cX5_finish 87 = .ok (.iload_n 3, 1) := by decide +kernel
theorem dX5_finish_88 : decode cX5_finish 88 = .ok (.iaload, 1) := by decide +kernel
theorem dX5_finish_89 : decode cX5_finish 89 = .ok (.iconst 2, 1) := by decide +kernel
theorem dX5_finish_90 : decode cX5_finish 90 = .ok (.if_icmp .ne 17, 3) := by decide +kernel
theorem dX5_finish_93 : decode cX5_finish 93 = .ok (.iload_n 1, 1) := by decide +kernel
theorem dX5_finish_94 : decode cX5_finish 94 = .ok (.iload_n 3, 1) := by decide +kernel
theorem dX5_finish_95 : decode cX5_finish 95 = .ok (.ishr, 1) := by decide +kernel
theorem dX5_finish_96 : decode cX5_finish 96 = .ok (.iconst 1, 1) := by decide +kernel
theorem dX5_finish_97 : decode cX5_finish 97 = .ok (.iand, 1) := by decide +kernel
theorem dX5_finish_98 : decode cX5_finish 98 = .ok (.iconst 1, 1) := by decide +kernel
theorem dX5_finish_99 : decode cX5_finish 99 = .ok (.if_icmp .ne 8, 3) := by decide +kernel
theorem dX5_finish_102 : decode cX5_finish 102 = .ok (.aload_n 0, 1) := by decide +kernel
theorem dX5_finish_103 : decode cX5_finish 103 = .ok (.iload_n 3, 1) := by decide +kernel
theorem dX5_finish_104 : decode cX5_finish 104 = .ok (.invokevirtual 187, 3) := by decide +kernel
theorem dX5_finish_107 : decode cX5_finish 107 = .ok (.iload_n 2, 1) := by decide +kernel
theorem dX5_finish_108 : decode cX5_finish 108 = .ok (.ifCond .ne 13, 3) := by decide +kernel
theorem dX5_finish_111 : decode cX5_finish 111 = .ok (.aload_n 0, 1) := by decide +kernel
theorem dX5_finish_112 : decode cX5_finish 112 = .ok (.getfield 9, 3) := by decide +kernel
theorem dX5_finish_115 : decode cX5_finish 115 = .ok (.iload_n 3, 1) := by decide +kernel
theorem dX5_finish_116 : decode cX5_finish 116 = .ok (.iaload, 1) := by decide +kernel
theorem dX5_finish_117 : decode cX5_finish 117 = .ok (.iconst 1, 1) := by decide +kernel
theorem dX5_finish_118 : decode cX5_finish 118 = .ok (.if_icmp .le 7, 3) := by decide +kernel
theorem dX5_finish_121 : decode cX5_finish 121 = .ok (.iconst 1, 1) := by decide +kernel
theorem dX5_finish_122 : decode cX5_finish 122 = .ok (.goto 4, 3) := by decide +kernel
theorem dX5_finish_125 : decode cX5_finish 125 = .ok (.iconst 0, 1) := by decide +kernel
theorem dX5_finish_126 : decode cX5_finish 126 = .ok (.istore_n 2, 1) := by decide +kernel
theorem dX5_finish_127 : decode cX5_finish 127 = .ok (.iinc 3 1, 3) := by decide +kernel
theorem dX5_finish_130 : decode cX5_finish 130 = .ok (.goto (-126), 3) := by decide +kernel
theorem dX5_finish_133 : decode cX5_finish 133 = .ok (.aload_n 0, 1) := by decide +kernel
theorem dX5_finish_134 : decode cX5_finish 134 = .ok (.iload_n 2, 1) := by decide +kernel
theorem dX5_finish_135 : decode cX5_finish 135 = .ok (.ifCond .eq 7, 3) := by decide +kernel
theorem dX5_finish_138 : decode cX5_finish 138 = .ok (.iconst 1, 1) := by decide +kernel
theorem dX5_finish_139 : decode cX5_finish 139 = .ok (.goto 4, 3) := by decide +kernel
theorem dX5_finish_142 : decode cX5_finish 142 = .ok (.iconst 3, 1) := by decide +kernel
theorem dX5_finish_143 : decode cX5_finish 143 = .ok (.putfield 178, 3) := by decide +kernel
theorem dX5_finish_146 : decode cX5_finish 146 = .ok (.aload_n 0, 1) := by decide +kernel
theorem dX5_finish_147 : decode cX5_finish 147 = .ok (.iload_n 2, 1) := by decide +kernel
theorem dX5_finish_148 : decode cX5_finish 148 = .ok (.ifCond .eq 7, 3) := by decide +kernel
theorem dX5_finish_151 : decode cX5_finish 151 = .ok (.iconst 0, 1) := by decide +kernel
theorem dX5_finish_152 : decode cX5_finish 152 = .ok (.goto 4, 3) := by decide +kernel
theorem dX5_finish_155 : decode cX5_finish 155 = .ok (.iconst 3, 1) := by decide +kernel
theorem dX5_finish_156 : decode cX5_finish 156 = .ok (.putfield 181, 3) := by decide +kernel
theorem dX5_finish_159 : decode cX5_finish 159 = .ok (.return_, 1) := by decide +kernel
set_option maxRecDepth 20000 in
theorem ggX5_liveStep_X5_offerAll : GoodIn wsX5_liveStep wsX5_offerAll := goodIn_r _ [8, 2, 9, 10, 11, 12, 13, 14, 7, 15, 16, 17, 18, 19, 20, 21, 22, 23, 24, 25, 26, 27, 28, 29, 30, 31, 32, 33, 34, 35, 36, 37, 38, 39, 40, 41, 42, 43, 44, 45, 46, 47, 48, 49, 50, 51, 52, 53, 54, 55, 56, 57, 132, 133, 134, 135, 136, 137, 138, 139, 140, 141, 142, 143, 144, 145, 146, 147, 148, 149, 150, 151, 152, 153, 154, 155, 156, 157, 158, 159, 160, 161, 162, 163, 164, 165, 166] rfl (by decide +kernel)
set_option maxRecDepth 20000 in
theorem gX5_liveStep_X5_offerAll : GoodIn wsX5_liveStep (wsV RX5 190 RX5 yX5_offerAll wsX5_offerAll) := goodIn_app (goodIn_of _ (by decide +kernel)) ggX5_liveStep_X5_offerAll
set_option maxRecDepth 20000 in
theorem ggX5_liveStep_X5_sends : GoodIn wsX5_liveStep wsX5_sends := goodIn_r _ [61, 2, 47, 11, 62, 63, 64, 7, 65, 53, 56, 57, 66, 67, 68, 69, 70, 40, 41, 42, 71, 72, 73, 74, 132, 133, 134, 135, 136, 137, 138, 139, 140, 141, 142, 143, 144, 145, 146, 147, 148, 149, 150, 151, 152, 153, 154, 155, 156, 157, 158, 159, 160, 161, 162, 163, 164, 165, 166] (by decide +kernel) (by decide +kernel)
set_option maxRecDepth 20000 in
theorem gX5_liveStep_X5_sends : GoodIn wsX5_liveStep (wsV RX5 193 RX5 yX5_sends wsX5_sends) := goodIn_app (goodIn_of _ (by decide +kernel)) ggX5_liveStep_X5_sends
set_option maxRecDepth 20000 in
theorem ggX5_liveStep_X5_sees : GoodIn wsX5_liveStep wsX5_sees := goodIn_r _ [78, 2, 79, 80, 81, 7, 82, 48, 11, 47, 21, 83, 84, 85, 86, 53, 56, 54, 55, 70, 87, 88, 89, 90, 57, 66, 67, 68, 69, 40, 41, 42, 71, 72, 73, 74, 91, 92, 93, 94, 95, 96, 97, 98, 99, 100, 101, 102, 10, 9, 103, 104, 105, 106, 49, 50, 51, 52, 132, 133, 134, 135, 136, 137, 138, 139, 140, 141, 142, 143, 144, 145, 146, 147, 148, 149, 150, 151, 152, 153, 154, 155, 156, 157, 158, 159, 160, 161, 162, 163, 164, 165, 166] rfl (by decide +kernel)
set_option maxRecDepth 20000 in
theorem gX5_liveStep_X5_sees : GoodIn wsX5_liveStep (wsV RX5 196 RX5 yX5_sees wsX5_sees) := goodIn_app (goodIn_of _ (by decide +kernel)) ggX5_liveStep_X5_sees
set_option maxRecDepth 20000 in
theorem ggX5_liveStep_X5_breakOff : GoodIn wsX5_liveStep wsX5_breakOff := goodIn_r _ [110, 2, 111, 112, 1, 113, 132, 133, 134, 135, 136, 137, 138, 139, 140, 141, 142, 143, 144, 145, 146, 147, 148, 149, 150, 151, 152, 153, 154, 155, 156, 157, 158, 159, 160, 161, 162, 163, 164, 165, 166] (by decide +kernel) (by decide +kernel)
set_option maxRecDepth 20000 in
theorem gX5_liveStep_X5_breakOff : GoodIn wsX5_liveStep (wsV RX5 199 RX5 yX5_breakOff wsX5_breakOff) := goodIn_app (goodIn_of _ (by decide +kernel)) ggX5_liveStep_X5_breakOff
set_option maxRecDepth 20000 in
theorem ggX5_liveStep_X5_finish : GoodIn wsX5_liveStep wsX5_finish := goodIn_r _ [117, 2, 11, 35, 118, 111, 1, 113, 119, 120, 121, 7, 122, 16, 21, 22, 32, 31, 10, 99, 100, 101, 102, 9, 123, 124, 125, 126, 127, 128, 129, 130, 131, 112, 91, 92, 93, 94, 70, 71, 72, 73, 74, 95, 96, 97, 98, 132, 133, 134, 135, 136, 137, 138, 139, 140, 141, 142, 143, 144, 145, 146, 147, 148, 149, 150, 151, 152, 153, 154, 155, 156, 157, 158, 159, 160, 161, 162, 163, 164, 165, 166] rfl (by decide +kernel)
set_option maxRecDepth 20000 in
theorem gX5_liveStep_X5_finish : GoodIn wsX5_liveStep (wsV RX5 202 RX5 yX5_finish wsX5_finish) := goodIn_app (goodIn_of _ (by decide +kernel)) ggX5_liveStep_X5_finish
theorem dX5_liveStep_0 : decode cX5_liveStep 0 = .ok (.aload_n 0, 1) := by decide +kernel
theorem dX5_liveStep_1 : decode cX5_liveStep 1 = .ok (.getfield 178, 3) := by decide +kernel
theorem dX5_liveStep_4 : decode cX5_liveStep 4 = .ok (.ifCond .ne 7, 3) := by decide +kernel
theorem dX5_liveStep_7 : decode cX5_liveStep 7 = .ok (.iconst 1, 1) := by decide +kernel
theorem dX5_liveStep_8 : decode cX5_liveStep 8 = .ok (.goto 4, 3) := by decide +kernel
theorem dX5_liveStep_11 : decode cX5_liveStep 11 = .ok (.iconst 0, 1) := by decide +kernel
theorem dX5_liveStep_12 : decode cX5_liveStep 12 = .ok (.istore_n 2, 1) := by decide +kernel
theorem dX5_liveStep_13 : decode cX5_liveStep 13 = .ok (.iload_n 2, 1) := by decide +kernel
theorem dX5_liveStep_14 : decode cX5_liveStep 14 = .ok (.ifCond .eq 7, 3) := by decide +kernel
theorem dX5_liveStep_17 : decode cX5_liveStep 17 = .ok (.aload_n 0, 1) := by decide +kernel
theorem dX5_liveStep_18 : decode cX5_liveStep 18 = .ok (.invokevirtual 190, 3) := by decide +kernel
theorem dX5_liveStep_21 : decode cX5_liveStep 21 = .ok (.iconst 1, 1) := by decide +kernel
theorem dX5_liveStep_22 : decode cX5_liveStep 22 = .ok (.istore_n 3, 1) := by decide +kernel
theorem dX5_liveStep_23 : decode cX5_liveStep 23 = .ok (.iconst 0, 1) := by decide +kernel
theorem dX5_liveStep_24 : decode cX5_liveStep 24 = .ok (.istore 4, 2) := by decide +kernel
theorem dX5_liveStep_26 : decode cX5_liveStep 26 = .ok (.iload 4, 2) := by decide +kernel
theorem dX5_liveStep_28 : decode cX5_liveStep 28 = .ok (.iconst 4, 1) := by decide +kernel
theorem dX5_liveStep_29 : decode cX5_liveStep 29 = .ok (.if_icmp .ge 34, 3) := by decide +kernel
theorem dX5_liveStep_32 : decode cX5_liveStep 32 = .ok (.aload_n 0, 1) := by decide +kernel
theorem dX5_liveStep_33 : decode cX5_liveStep 33 = .ok (.getfield 9, 3) := by decide +kernel
theorem dX5_liveStep_36 : decode cX5_liveStep 36 = .ok (.iload 4, 2) := by decide +kernel
theorem dX5_liveStep_38 : decode cX5_liveStep 38 = .ok (.iaload, 1) := by decide +kernel
theorem dX5_liveStep_39 : decode cX5_liveStep 39 = .ok (.ifCond .eq 16, 3) := by decide +kernel
theorem dX5_liveStep_42 : decode cX5_liveStep 42 = .ok (.aload_n 0, 1) := by decide +kernel
theorem dX5_liveStep_43 : decode cX5_liveStep 43 = .ok (.iload 4, 2) := by decide +kernel
theorem dX5_liveStep_45 : decode cX5_liveStep 45 = .ok (.invokevirtual 193, 3) := by decide +kernel
theorem dX5_liveStep_48 : decode cX5_liveStep 48 = .ok (.ifCond .ne 7, 3) := by decide +kernel
theorem dX5_liveStep_51 : decode cX5_liveStep 51 = .ok (.iconst 0, 1) := by decide +kernel
theorem dX5_liveStep_52 : decode cX5_liveStep 52 = .ok (.goto 4, 3) := by decide +kernel
theorem dX5_liveStep_55 : decode cX5_liveStep 55 = .ok (.iload_n 3, 1) := by decide +kernel
theorem dX5_liveStep_56 : decode cX5_liveStep 56 = .ok (.istore_n 3, 1) := by decide +kernel
theorem dX5_liveStep_57 : decode cX5_liveStep 57 = .ok (.iinc 4 1, 3) := by decide +kernel
theorem dX5_liveStep_60 : decode cX5_liveStep 60 = .ok (.goto (-34), 3) := by decide +kernel
theorem dX5_liveStep_63 : decode cX5_liveStep 63 = .ok (.iconst 0, 1) := by decide +kernel
theorem dX5_liveStep_64 : decode cX5_liveStep 64 = .ok (.istore 4, 2) := by decide +kernel
theorem dX5_liveStep_66 : decode cX5_liveStep 66 = .ok (.iconst 0, 1) := by decide +kernel
theorem dX5_liveStep_67 : decode cX5_liveStep 67 = .ok (.istore 5, 2) := by decide +kernel
theorem dX5_liveStep_69 : decode cX5_liveStep 69 = .ok (.iload_n 3, 1) := by decide +kernel
theorem dX5_liveStep_70 : decode cX5_liveStep 70 = .ok (.ifCond .ne 7, 3) := by decide +kernel
theorem dX5_liveStep_73 : decode cX5_liveStep 73 = .ok (.iconst 1, 1) := by decide +kernel
theorem dX5_liveStep_74 : decode cX5_liveStep 74 = .ok (.goto 4, 3) := by decide +kernel
theorem dX5_liveStep_77 : decode cX5_liveStep 77 = .ok (.iconst 0, 1) := by decide +kernel
theorem dX5_liveStep_78 : decode cX5_liveStep 78 = .ok (.istore 6, 2) := by decide +kernel
theorem dX5_liveStep_80 : decode cX5_liveStep 80 = .ok (.iconst 0, 1) := by decide +kernel
theorem dX5_liveStep_81 : decode cX5_liveStep 81 = .ok (.istore 7, 2) := by decide +kernel
theorem dX5_liveStep_83 : decode cX5_liveStep 83 = .ok (.iload 7, 2) := by decide +kernel
theorem dX5_liveStep_85 : decode cX5_liveStep 85 = .ok (.iconst 4, 1) := by decide +kernel
theorem dX5_liveStep_86 : decode cX5_liveStep 86 = .ok (.if_icmp .ge 126, 3) := by decide +kernel
theorem dX5_liveStep_89 : decode cX5_liveStep 89 = .ok (.iload_n 1, 1) := by decide +kernel
theorem dX5_liveStep_90 : decode cX5_liveStep 90 = .ok (.iload 7, 2) := by decide +kernel
theorem dX5_liveStep_92 : decode cX5_liveStep 92 = .ok (.ishr, 1) := by decide +kernel
theorem dX5_liveStep_93 : decode cX5_liveStep 93 = .ok (.iconst 1, 1) := by decide +kernel
theorem dX5_liveStep_94 : decode cX5_liveStep 94 = .ok (.iand, 1) := by decide +kernel
theorem dX5_liveStep_95 : decode cX5_liveStep 95 = .ok (.iconst 1, 1) := by decide +kernel
theorem dX5_liveStep_96 : decode cX5_liveStep 96 = .ok (.if_icmp .ne 9, 3) := by decide +kernel
theorem dX5_liveStep_99 : decode cX5_liveStep 99 = .ok (.iconst 1, 1) := by decide +kernel
theorem dX5_liveStep_100 : decode cX5_liveStep 100 = .ok (.iload_n 3, 1) := by decide +kernel
theorem dX5_liveStep_101 : decode cX5_liveStep 101 = .ok (.isub, 1) := by decide +kernel
theorem dX5_liveStep_102 : decode cX5_liveStep 102 = .ok (.goto 4, 3) := by decide +kernel
theorem dX5_liveStep_105 : decode cX5_liveStep 105 = .ok (.iload_n 3, 1) := by decide +kernel
theorem dX5_liveStep_106 : decode cX5_liveStep 106 = .ok (.istore 8, 2) := by decide +kernel
theorem dX5_liveStep_108 : decode cX5_liveStep 108 = .ok (.aload_n 0, 1) := by decide +kernel
theorem dX5_liveStep_109 : decode cX5_liveStep 109 = .ok (.getfield 9, 3) := by decide +kernel
theorem dX5_liveStep_112 : decode cX5_liveStep 112 = .ok (.iload 7, 2) := by decide +kernel
theorem dX5_liveStep_114 : decode cX5_liveStep 114 = .ok (.iaload, 1) := by decide +kernel
theorem dX5_liveStep_115 : decode cX5_liveStep 115 = .ok (.ifCond .ne 7, 3) := by decide +kernel
theorem dX5_liveStep_118 : decode cX5_liveStep 118 = .ok (.iconst 0, 1) := by decide +kernel
theorem dX5_liveStep_119 : decode cX5_liveStep 119 = .ok (.goto 11, 3) := by decide +kernel
theorem dX5_liveStep_122 : decode cX5_liveStep 122 = .ok (.aload_n 0, 1) := by decide +kernel
theorem dX5_liveStep_123 : decode cX5_liveStep 123 = .ok (.iload 7, 2) := by decide +kernel
theorem dX5_liveStep_125 : decode cX5_liveStep 125 = .ok (.iload 8, 2) := by decide +kernel
theorem dX5_liveStep_127 : decode cX5_liveStep 127 = .ok (.invokevirtual 196, 3) := by decide +kernel
theorem dX5_liveStep_130 : decode cX5_liveStep 130 = .ok (.istore 9, 2) := by decide +kernel
theorem dX5_liveStep_132 : decode cX5_liveStep 132 = .ok (.iload 6, 2) := by decide +kernel
theorem dX5_liveStep_134 : decode cX5_liveStep 134 = .ok (.ifCond .ne 14, 3) := by decide +kernel
theorem dX5_liveStep_137 : decode cX5_liveStep 137 = .ok (.aload_n 0, 1) := by decide +kernel
theorem dX5_liveStep_138 : decode cX5_liveStep 138 = .ok (.getfield 9, 3) := by decide +kernel
theorem dX5_liveStep_141 : decode cX5_liveStep 141 = .ok (.iload 7, 2) := by decide +kernel
theorem dX5_liveStep_143 : decode cX5_liveStep 143 = .ok (.iaload, 1) := by decide +kernel
theorem dX5_liveStep_144 : decode cX5_liveStep 144 = .ok (.iconst 2, 1) := by decide +kernel
theorem dX5_liveStep_145 : decode cX5_liveStep 145 = .ok (.if_icmp .ne 7, 3) := by decide +kernel
theorem dX5_liveStep_148 : decode cX5_liveStep 148 = .ok (.iconst 1, 1) := by decide +kernel
theorem dX5_liveStep_149 : decode cX5_liveStep 149 = .ok (.goto 4, 3) := by decide +kernel
theorem dX5_liveStep_152 : decode cX5_liveStep 152 = .ok (.iconst 0, 1) := by decide +kernel
theorem dX5_liveStep_153 : decode cX5_liveStep 153 = .ok (.istore 6, 2) := by decide +kernel
theorem dX5_liveStep_155 : decode cX5_liveStep 155 = .ok (.iload 9, 2) := by decide +kernel
theorem dX5_liveStep_157 : decode cX5_liveStep 157 = .ok (.bipush 9, 2) := by decide +kernel
theorem dX5_liveStep_159 : decode cX5_liveStep 159 = .ok (.if_icmp .ne 13, 3) := by decide +kernel
theorem dX5_liveStep_162 : decode cX5_liveStep 162 = .ok (.iload 5, 2) := by decide +kernel
theorem dX5_liveStep_164 : decode cX5_liveStep 164 = .ok (.iconst 1, 1) := by decide +kernel
theorem dX5_liveStep_165 : decode cX5_liveStep 165 = .ok (.iload 7, 2) := by decide +kernel
theorem dX5_liveStep_167 : decode cX5_liveStep 167 = .ok (.ishl, 1) := by decide +kernel
theorem dX5_liveStep_168 : decode cX5_liveStep 168 = .ok (.ior, 1) := by decide +kernel
theorem dX5_liveStep_169 : decode cX5_liveStep 169 = .ok (.goto 5, 3) := by decide +kernel
theorem dX5_liveStep_172 : decode cX5_liveStep 172 = .ok (.iload 5, 2) := by decide +kernel
theorem dX5_liveStep_174 : decode cX5_liveStep 174 = .ok (.istore 5, 2) := by decide +kernel
theorem dX5_liveStep_176 : decode cX5_liveStep 176 = .ok (.iload 9, 2) := by decide +kernel
theorem dX5_liveStep_178 : decode cX5_liveStep 178 = .ok (.ifCond .le 28, 3) := by decide +kernel
theorem dX5_liveStep_181 : decode cX5_liveStep 181 = .ok (.iload 9, 2) := by decide +kernel
theorem dX5_liveStep_183 : decode cX5_liveStep 183 = .ok (.bipush 9, 2) := by decide +kernel
theorem dX5_liveStep_185 : decode cX5_liveStep 185 = .ok (.if_icmp .ge 21, 3) := by decide +kernel
theorem dX5_liveStep_188 : decode cX5_liveStep 188 = .ok (.iload 4, 2) := by decide +kernel
theorem dX5_liveStep_190 : decode cX5_liveStep 190 = .ok (.iconst 1, 1) := by decide +kernel
theorem dX5_liveStep_191 : decode cX5_liveStep 191 = .ok (.iload 7, 2) := by decide +kernel
theorem dX5_liveStep_193 : decode cX5_liveStep 193 = .ok (.ishl, 1) := by decide +kernel
theorem dX5_liveStep_194 : decode cX5_liveStep 194 = .ok (.ior, 1) := by decide +kernel
theorem dX5_liveStep_195 : decode cX5_liveStep 195 = .ok (.istore 4, 2) := by decide +kernel
theorem dX5_liveStep_197 : decode cX5_liveStep 197 = .ok (.aload_n 0, 1) := by decide +kernel
theorem dX5_liveStep_198 : decode cX5_liveStep 198 = .ok (.getfield 25, 3) := by decide +kernel
theorem dX5_liveStep_201 : decode cX5_liveStep 201 = .ok (.iload 7, 2) := by decide +kernel
theorem dX5_liveStep_203 : decode cX5_liveStep 203 = .ok (.iload 9, 2) := by decide +kernel
theorem dX5_liveStep_205 : decode cX5_liveStep 205 = .ok (.iastore, 1) := by decide +kernel
theorem dX5_liveStep_206 : decode cX5_liveStep 206 = .ok (.iinc 7 1, 3) := by decide +kernel
theorem dX5_liveStep_209 : decode cX5_liveStep 209 = .ok (.goto (-126), 3) := by decide +kernel
theorem dX5_liveStep_212 : decode cX5_liveStep 212 = .ok (.iload 4, 2) := by decide +kernel
theorem dX5_liveStep_214 : decode cX5_liveStep 214 = .ok (.ifCond .le 12, 3) := by decide +kernel
theorem dX5_liveStep_217 : decode cX5_liveStep 217 = .ok (.aload_n 0, 1) := by decide +kernel
theorem dX5_liveStep_218 : decode cX5_liveStep 218 = .ok (.iload 4, 2) := by decide +kernel
theorem dX5_liveStep_220 : decode cX5_liveStep 220 = .ok (.invokevirtual 199, 3) := by decide +kernel
theorem dX5_liveStep_223 : decode cX5_liveStep 223 = .ok (.goto 18, 3) := by decide +kernel
theorem dX5_liveStep_226 : decode cX5_liveStep 226 = .ok (.iload_n 2, 1) := by decide +kernel
theorem dX5_liveStep_227 : decode cX5_liveStep 227 = .ok (.ifCond .eq 8, 3) := by decide +kernel
theorem dX5_liveStep_230 : decode cX5_liveStep 230 = .ok (.iload 6, 2) := by decide +kernel
theorem dX5_liveStep_232 : decode cX5_liveStep 232 = .ok (.ifCond .eq 9, 3) := by decide +kernel
theorem dX5_liveStep_235 : decode cX5_liveStep 235 = .ok (.aload_n 0, 1) := by decide +kernel
theorem dX5_liveStep_236 : decode cX5_liveStep 236 = .ok (.iload 5, 2) := by decide +kernel
theorem dX5_liveStep_238 : decode cX5_liveStep 238 = .ok (.invokevirtual 202, 3) := by decide +kernel
theorem dX5_liveStep_241 : decode cX5_liveStep 241 = .ok (.iload_n 3, 1) := by decide +kernel
theorem dX5_liveStep_242 : decode cX5_liveStep 242 = .ok (.ireturn, 1) := by decide +kernel
set_option maxRecDepth 20000 in
theorem ggX5_oneStep_X5_liveStep : GoodIn wsX5_oneStep wsX5_liveStep := goodIn_r _ [7, 1, 8, 9, 10, 11, 12, 6, 13, 14, 15, 16, 17, 18, 19, 20, 21, 22, 23, 24, 25, 26, 27, 28, 29, 30, 31, 32, 33, 34, 35, 36, 37, 38, 39, 40, 41, 42, 43, 44, 45, 46, 47, 48, 49, 50, 51, 52, 53, 54, 55, 56, 57, 58, 59, 60, 61, 62, 63, 64, 65, 66, 67, 68, 69, 70, 71, 72, 73, 74, 75, 76, 77, 78, 79, 80, 81, 82, 83, 84, 85, 86, 87, 88, 89, 90, 91, 92, 93, 94, 95, 96, 97, 98, 99, 100, 101, 102, 103, 104, 105, 106, 107, 108, 109, 110, 111, 112, 113, 114, 115, 116, 117, 2, 118, 119, 120, 121, 122, 123, 124, 125, 126, 127, 128, 129, 130, 131, 132, 133, 134, 135, 136, 137, 138, 139, 140, 141, 142, 143, 144, 145, 146, 147, 148, 149, 150, 151, 152, 153, 154, 155, 156, 157, 158, 159, 160, 161, 162, 163, 164, 165, 166, 167, 168, 169, 170] rfl (by decide +kernel)
set_option maxRecDepth 20000 in
theorem gX5_oneStep_X5_liveStep : GoodIn wsX5_oneStep (wsV RX5 205 RX5 yX5_liveStep wsX5_liveStep) := goodIn_app (goodIn_of _ (by decide +kernel)) ggX5_oneStep_X5_liveStep
theorem dX5_oneStep_0 : decode cX5_oneStep 0 = .ok (.aload_n 0, 1) := by decide +kernel
theorem dX5_oneStep_1 : decode cX5_oneStep 1 = .ok (.getfield 178, 3) := by decide +kernel
theorem dX5_oneStep_4 : decode cX5_oneStep 4 = .ok (.ifCond .eq 11, 3) := by decide +kernel
theorem dX5_oneStep_7 : decode cX5_oneStep 7 = .ok (.aload_n 0, 1) := by decide +kernel
theorem dX5_oneStep_8 : decode cX5_oneStep 8 = .ok (.getfield 178, 3) := by decide +kernel
theorem dX5_oneStep_11 : decode cX5_oneStep 11 = .ok (.iconst 1, 1) := by decide +kernel
theorem dX5_oneStep_12 : decode cX5_oneStep 12 = .ok (.if_icmp .ne 9, 3) := by decide +kernel
theorem dX5_oneStep_15 : decode cX5_oneStep 15 = .ok (.aload_n 0, 1) := by decide +kernel
theorem dX5_oneStep_16 : decode cX5_oneStep 16 = .ok (.iload_n 1, 1) := by decide +kernel
theorem dX5_oneStep_17 : decode cX5_oneStep 17 = .ok (.invokevirtual 205, 3) := by decide +kernel
theorem dX5_oneStep_20 : decode cX5_oneStep 20 = .ok (.ireturn, 1) := by decide +kernel
theorem dX5_oneStep_21 : decode cX5_oneStep 21 = .ok (.aload_n 0, 1) := by decide +kernel
theorem dX5_oneStep_22 : decode cX5_oneStep 22 = .ok (.getfield 178, 3) := by decide +kernel
theorem dX5_oneStep_25 : decode cX5_oneStep 25 = .ok (.iconst 2, 1) := by decide +kernel
theorem dX5_oneStep_26 : decode cX5_oneStep 26 = .ok (.if_icmp .ne 16, 3) := by decide +kernel
theorem dX5_oneStep_29 : decode cX5_oneStep 29 = .ok (.aload_n 0, 1) := by decide +kernel
theorem dX5_oneStep_30 : decode cX5_oneStep 30 = .ok (.getfield 181, 3) := by decide +kernel
theorem dX5_oneStep_33 : decode cX5_oneStep 33 = .ok (.bipush 8, 2) := by decide +kernel
theorem dX5_oneStep_35 : decode cX5_oneStep 35 = .ok (.if_icmp .le 7, 3) := by decide +kernel
theorem dX5_oneStep_38 : decode cX5_oneStep 38 = .ok (.iconst 0, 1) := by decide +kernel
theorem dX5_oneStep_39 : decode cX5_oneStep 39 = .ok (.goto 4, 3) := by decide +kernel
theorem dX5_oneStep_42 : decode cX5_oneStep 42 = .ok (.iconst 1, 1) := by decide +kernel
theorem dX5_oneStep_43 : decode cX5_oneStep 43 = .ok (.istore_n 2, 1) := by decide +kernel
theorem dX5_oneStep_44 : decode cX5_oneStep 44 = .ok (.aload_n 0, 1) := by decide +kernel
theorem dX5_oneStep_45 : decode cX5_oneStep 45 = .ok (.dup, 1) := by decide +kernel
theorem dX5_oneStep_46 : decode cX5_oneStep 46 = .ok (.getfield 181, 3) := by decide +kernel
theorem dX5_oneStep_49 : decode cX5_oneStep 49 = .ok (.iconst 1, 1) := by decide +kernel
theorem dX5_oneStep_50 : decode cX5_oneStep 50 = .ok (.isub, 1) := by decide +kernel
theorem dX5_oneStep_51 : decode cX5_oneStep 51 = .ok (.putfield 181, 3) := by decide +kernel
theorem dX5_oneStep_54 : decode cX5_oneStep 54 = .ok (.aload_n 0, 1) := by decide +kernel
theorem dX5_oneStep_55 : decode cX5_oneStep 55 = .ok (.getfield 181, 3) := by decide +kernel
theorem dX5_oneStep_58 : decode cX5_oneStep 58 = .ok (.ifCond .ne 37, 3) := by decide +kernel
theorem dX5_oneStep_61 : decode cX5_oneStep 61 = .ok (.aload_n 0, 1) := by decide +kernel
theorem dX5_oneStep_62 : decode cX5_oneStep 62 = .ok (.aload_n 0, 1) := by decide +kernel
theorem dX5_oneStep_63 : decode cX5_oneStep 63 = .ok (.getfield 178, 3) := by decide +kernel
theorem dX5_oneStep_66 : decode cX5_oneStep 66 = .ok (.iconst 2, 1) := by decide +kernel
theorem dX5_oneStep_67 : decode cX5_oneStep 67 = .ok (.if_icmp .ne 7, 3) := by decide +kernel
theorem dX5_oneStep_70 : decode cX5_oneStep 70 = .ok (.iconst 3, 1) := by decide +kernel
theorem dX5_oneStep_71 : decode cX5_oneStep 71 = .ok (.goto 4, 3) := by decide +kernel
theorem dX5_oneStep_74 : decode cX5_oneStep 74 = .ok (.iconst 0, 1) := by decide +kernel
theorem dX5_oneStep_75 : decode cX5_oneStep 75 = .ok (.putfield 181, 3) := by decide +kernel
theorem dX5_oneStep_78 : decode cX5_oneStep 78 = .ok (.aload_n 0, 1) := by decide +kernel
theorem dX5_oneStep_79 : decode cX5_oneStep 79 = .ok (.aload_n 0, 1) := by decide +kernel
theorem dX5_oneStep_80 : decode cX5_oneStep 80 = .ok (.getfield 178, 3) := by decide +kernel
theorem dX5_oneStep_83 : decode cX5_oneStep 83 = .ok (.iconst 2, 1) := by decide +kernel
theorem dX5_oneStep_84 : decode cX5_oneStep 84 = .ok (.if_icmp .ne 7, 3) := by decide +kernel
theorem dX5_oneStep_87 : decode cX5_oneStep 87 = .ok (.iconst 3, 1) := by decide +kernel
theorem dX5_oneStep_88 : decode cX5_oneStep 88 = .ok (.goto 4, 3) := by decide +kernel
theorem dX5_oneStep_91 : decode cX5_oneStep 91 = .ok (.iconst 0, 1) := by decide +kernel
theorem dX5_oneStep_92 : decode cX5_oneStep 92 = .ok (.putfield 178, 3) := by decide +kernel
theorem dX5_oneStep_95 : decode cX5_oneStep 95 = .ok (.iload_n 2, 1) := by decide +kernel
theorem dX5_oneStep_96 : decode cX5_oneStep 96 = .ok (.ireturn, 1) := by decide +kernel
set_option maxRecDepth 20000 in
theorem ggX5_step_X5_oneStep : GoodIn wsX5_step wsX5_oneStep := goodIn_r _ [6, 7, 8, 9, 10, 11, 5, 12, 13, 14, 15, 16, 17, 18, 19, 20, 21, 22, 23, 24, 25, 26, 27, 28, 29, 30, 31, 32, 33, 34, 35, 36, 37, 38, 39, 40, 41, 42, 43, 44, 45, 46, 47, 48, 49, 50, 51, 52, 53, 54, 55, 56, 57, 58, 59, 60, 61, 62, 63, 64, 65, 66, 67, 68, 69, 70, 71, 72, 73, 74, 75, 76, 77, 78, 79, 80, 81, 82, 83, 84, 85, 86, 87, 88, 89, 90, 91, 92, 93, 94, 95, 96, 97, 98, 99, 100, 101, 102, 103, 104, 105, 106, 107, 108, 109, 110, 111, 112, 113, 114, 115, 116, 117, 118, 119, 120, 121, 122, 123, 124, 125, 126, 127, 128, 129, 130, 131, 132, 133, 134, 135, 136, 137, 138, 139, 140, 141, 142, 143, 144, 145, 146, 147, 148, 149, 150, 151, 152, 153, 154, 155, 156, 157, 158, 159, 160, 161, 162, 163, 164, 165, 166, 167, 168, 169, 170, 171, 172, 173, 174, 175] rfl (by decide +kernel)
set_option maxRecDepth 20000 in
theorem gX5_step_X5_oneStep : GoodIn wsX5_step (wsV RX5 208 RX5 yX5_oneStep wsX5_oneStep) := goodIn_app (goodIn_of _ (by decide +kernel)) ggX5_step_X5_oneStep
theorem dX5_step_0 : decode cX5_step 0 = .ok (.aload_n 0, 1) := by decide +kernel
theorem dX5_step_1 : decode cX5_step 1 = .ok (.iload_n 1, 1) := by decide +kernel
theorem dX5_step_2 : decode cX5_step 2 = .ok (.iconst 1, 1) := by decide +kernel
theorem dX5_step_3 : decode cX5_step 3 = .ok (.if_icmp .lt 20, 3) := by decide +kernel
theorem dX5_step_6 : decode cX5_step 6 = .ok (.iload_n 1, 1) := by decide +kernel
theorem dX5_step_7 : decode cX5_step 7 = .ok (.sipush 200, 3) := by decide +kernel
theorem dX5_step_10 : decode cX5_step 10 = .ok (.if_icmp .gt 13, 3) := by decide +kernel
theorem dX5_step_13 : decode cX5_step 13 = .ok (.iload_n 2, 1) := by decide +kernel
theorem dX5_step_14 : decode cX5_step 14 = .ok (.ifCond .lt 9, 3) := by decide +kernel
theorem dX5_step_17 : decode cX5_step 17 = .ok (.iload_n 2, 1) := by decide +kernel
theorem dX5_step_18 : decode cX5_step 18 = .ok (.bipush 15, 2) := by decide +kernel
theorem dX5_step_20 : decode cX5_step 20 = .ok (.if_icmp .le 7, 3) := by decide +kernel
theorem dX5_step_23 : decode cX5_step 23 = .ok (.iconst 1, 1) := by decide +kernel
theorem dX5_step_24 : decode cX5_step 24 = .ok (.goto 4, 3) := by decide +kernel
theorem dX5_step_27 : decode cX5_step 27 = .ok (.iconst 0, 1) := by decide +kernel
theorem dX5_step_28 : decode cX5_step 28 = .ok (.putfield 99, 3) := by decide +kernel
theorem dX5_step_31 : decode cX5_step 31 = .ok (.aload_n 0, 1) := by decide +kernel
theorem dX5_step_32 : decode cX5_step 32 = .ok (.getfield 99, 3) := by decide +kernel
theorem dX5_step_35 : decode cX5_step 35 = .ok (.ifCond .le 5, 3) := by decide +kernel
theorem dX5_step_38 : decode cX5_step 38 = .ok (.iconst 0, 1) := by decide +kernel
theorem dX5_step_39 : decode cX5_step 39 = .ok (.ireturn, 1) := by decide +kernel
theorem dX5_step_40 : decode cX5_step 40 = .ok (.iconst 1, 1) := by decide +kernel
theorem dX5_step_41 : decode cX5_step 41 = .ok (.istore_n 3, 1) := by decide +kernel
theorem dX5_step_42 : decode cX5_step 42 = .ok (.iconst 0, 1) := by decide +kernel
theorem dX5_step_43 : decode cX5_step 43 = .ok (.istore 4, 2) := by decide +kernel
theorem dX5_step_45 : decode cX5_step 45 = .ok (.iload 4, 2) := by decide +kernel
theorem dX5_step_47 : decode cX5_step 47 = .ok (.iload_n 1, 1) := by decide +kernel
theorem dX5_step_48 : decode cX5_step 48 = .ok (.if_icmp .ge 24, 3) := by decide +kernel
theorem dX5_step_51 : decode cX5_step 51 = .ok (.aload_n 0, 1) := by decide +kernel
theorem dX5_step_52 : decode cX5_step 52 = .ok (.iload 4, 2) := by decide +kernel
theorem dX5_step_54 : decode cX5_step 54 = .ok (.ifCond .ne 7, 3) := by decide +kernel
theorem dX5_step_57 : decode cX5_step 57 = .ok (.iload_n 2, 1) := by decide +kernel
theorem dX5_step_58 : decode cX5_step 58 = .ok (.goto 4, 3) := by decide +kernel
theorem dX5_step_61 : decode cX5_step 61 = .ok (.iconst 0, 1) := by decide +kernel
theorem dX5_step_62 : decode cX5_step 62 = .ok (.invokevirtual 208, 3) := by decide +kernel
theorem dX5_step_65 : decode cX5_step 65 = .ok (.istore_n 3, 1) := by decide +kernel
theorem dX5_step_66 : decode cX5_step 66 = .ok (.iinc 4 1, 3) := by decide +kernel
theorem dX5_step_69 : decode cX5_step 69 = .ok (.goto (-24), 3) := by decide +kernel
theorem dX5_step_72 : decode cX5_step 72 = .ok (.iload_n 3, 1) := by decide +kernel
theorem dX5_step_73 : decode cX5_step 73 = .ok (.ireturn, 1) := by decide +kernel
set_option maxRecDepth 20000 in
theorem ggX5_join_X5_isNode : GoodIn wsX5_join wsX5_isNode := goodIn_r _ [8] (by decide +kernel) (by decide +kernel)
set_option maxRecDepth 20000 in
theorem gX5_join_X5_isNode : GoodIn wsX5_join (va_wsS RX5 147 yX5_isNode wsX5_isNode) := goodIn_app (goodIn_of _ (by decide +kernel)) ggX5_join_X5_isNode
theorem dX5_join_0 : decode cX5_join 0 = .ok (.aload_n 0, 1) := by decide +kernel
theorem dX5_join_1 : decode cX5_join 1 = .ok (.iload_n 1, 1) := by decide +kernel
theorem dX5_join_2 : decode cX5_join 2 = .ok (.invokestatic 147, 3) := by decide +kernel
theorem dX5_join_5 : decode cX5_join 5 = .ok (.ifCond .eq 7, 3) := by decide +kernel
theorem dX5_join_8 : decode cX5_join 8 = .ok (.iconst 0, 1) := by decide +kernel
theorem dX5_join_9 : decode cX5_join 9 = .ok (.goto 4, 3) := by decide +kernel
theorem dX5_join_12 : decode cX5_join 12 = .ok (.iconst 1, 1) := by decide +kernel
theorem dX5_join_13 : decode cX5_join 13 = .ok (.putfield 99, 3) := by decide +kernel
theorem dX5_join_16 : decode cX5_join 16 = .ok (.aload_n 0, 1) := by decide +kernel
theorem dX5_join_17 : decode cX5_join 17 = .ok (.getfield 99, 3) := by decide +kernel
theorem dX5_join_20 : decode cX5_join 20 = .ok (.ifCond .gt 12, 3) := by decide +kernel
theorem dX5_join_23 : decode cX5_join 23 = .ok (.aload_n 0, 1) := by decide +kernel
theorem dX5_join_24 : decode cX5_join 24 = .ok (.getfield 9, 3) := by decide +kernel
theorem dX5_join_27 : decode cX5_join 27 = .ok (.iload_n 1, 1) := by decide +kernel
theorem dX5_join_28 : decode cX5_join 28 = .ok (.iaload, 1) := by decide +kernel
theorem dX5_join_29 : decode cX5_join 29 = .ok (.ifCond .eq 5, 3) := by decide +kernel
theorem dX5_join_32 : decode cX5_join 32 = .ok (.iconst 0, 1) := by decide +kernel
theorem dX5_join_33 : decode cX5_join 33 = .ok (.ireturn, 1) := by decide +kernel
theorem dX5_join_34 : decode cX5_join 34 = .ok (.aload_n 0, 1) := by decide +kernel
theorem dX5_join_35 : decode cX5_join 35 = .ok (.getfield 9, 3) := by decide +kernel
theorem dX5_join_38 : decode cX5_join 38 = .ok (.iload_n 1, 1) := by decide +kernel
theorem dX5_join_39 : decode cX5_join 39 = .ok (.iconst 1, 1) := by decide +kernel
theorem dX5_join_40 : decode cX5_join 40 = .ok (.iastore, 1) := by decide +kernel
theorem dX5_join_41 : decode cX5_join 41 = .ok (.aload_n 0, 1) := by decide +kernel
theorem dX5_join_42 : decode cX5_join 42 = .ok (.getfield 13, 3) := by decide +kernel
theorem dX5_join_45 : decode cX5_join 45 = .ok (.iload_n 1, 1) := by decide +kernel
theorem dX5_join_46 : decode cX5_join 46 = .ok (.iconst 0, 1) := by decide +kernel
theorem dX5_join_47 : decode cX5_join 47 = .ok (.iastore, 1) := by decide +kernel
theorem dX5_join_48 : decode cX5_join 48 = .ok (.aload_n 0, 1) := by decide +kernel
theorem dX5_join_49 : decode cX5_join 49 = .ok (.getfield 16, 3) := by decide +kernel
theorem dX5_join_52 : decode cX5_join 52 = .ok (.iload_n 1, 1) := by decide +kernel
theorem dX5_join_53 : decode cX5_join 53 = .ok (.iconst 0, 1) := by decide +kernel
theorem dX5_join_54 : decode cX5_join 54 = .ok (.iastore, 1) := by decide +kernel
theorem dX5_join_55 : decode cX5_join 55 = .ok (.iconst 1, 1) := by decide +kernel
theorem dX5_join_56 : decode cX5_join 56 = .ok (.ireturn, 1) := by decide +kernel
theorem dX5_wire_0 : decode cX5_wire 0 = .ok (.aload_n 0, 1) := by decide +kernel
theorem dX5_wire_1 : decode cX5_wire 1 = .ok (.iconst 0, 1) := by decide +kernel
theorem dX5_wire_2 : decode cX5_wire 2 = .ok (.putfield 99, 3) := by decide +kernel
theorem dX5_wire_5 : decode cX5_wire 5 = .ok (.aload_n 0, 1) := by decide +kernel
theorem dX5_wire_6 : decode cX5_wire 6 = .ok (.getfield 178, 3) := by decide +kernel
theorem dX5_wire_9 : decode cX5_wire 9 = .ok (.ireturn, 1) := by decide +kernel
set_option maxRecDepth 20000 in
theorem ggX5_node_X5_isNode : GoodIn wsX5_node wsX5_isNode := goodIn_r _ [12] (by decide +kernel) (by decide +kernel)
set_option maxRecDepth 20000 in
theorem gX5_node_X5_isNode : GoodIn wsX5_node (va_wsS RX5 147 yX5_isNode wsX5_isNode) := goodIn_app (goodIn_of _ (by decide +kernel)) ggX5_node_X5_isNode
theorem dX5_node_0 : decode cX5_node 0 = .ok (.aload_n 0, 1) := by decide +kernel
theorem dX5_node_1 : decode cX5_node 1 = .ok (.iload_n 1, 1) := by decide +kernel
theorem dX5_node_2 : decode cX5_node 2 = .ok (.invokestatic 147, 3) := by decide +kernel
theorem dX5_node_5 : decode cX5_node 5 = .ok (.ifCond .eq 13, 3) := by decide +kernel
theorem dX5_node_8 : decode cX5_node 8 = .ok (.iload_n 2, 1) := by decide +kernel
theorem dX5_node_9 : decode cX5_node 9 = .ok (.ifCond .lt 9, 3) := by decide +kernel
theorem dX5_node_12 : decode cX5_node 12 = .ok (.iload_n 2, 1) := by decide +kernel
theorem dX5_node_13 : decode cX5_node 13 = .ok (.bipush 6, 2) := by decide +kernel
theorem dX5_node_15 : decode cX5_node 15 = .ok (.if_icmp .le 7, 3) := by decide +kernel
theorem dX5_node_18 : decode cX5_node 18 = .ok (.iconst 1, 1) := by decide +kernel
theorem dX5_node_19 : decode cX5_node 19 = .ok (.goto 4, 3) := by decide +kernel
theorem dX5_node_22 : decode cX5_node 22 = .ok (.iconst 0, 1) := by decide +kernel
theorem dX5_node_23 : decode cX5_node 23 = .ok (.putfield 99, 3) := by decide +kernel
theorem dX5_node_26 : decode cX5_node 26 = .ok (.aload_n 0, 1) := by decide +kernel
theorem dX5_node_27 : decode cX5_node 27 = .ok (.getfield 99, 3) := by decide +kernel
theorem dX5_node_30 : decode cX5_node 30 = .ok (.ifCond .le 5, 3) := by decide +kernel
theorem dX5_node_33 : decode cX5_node 33 = .ok (.iconst 0, 1) := by decide +kernel
theorem dX5_node_34 : decode cX5_node 34 = .ok (.ireturn, 1) := by decide +kernel
theorem dX5_node_35 : decode cX5_node 35 = .ok (.iload_n 2, 1) := by decide +kernel
theorem dX5_node_36 : decode cX5_node 36 = .ok (.tableswitch 82 0 5 #[40, 47, 54, 61, 68, 75], 40) := by decide +kernel
theorem dX5_node_76 : decode cX5_node 76 = .ok (.aload_n 0, 1) := by decide +kernel
theorem dX5_node_77 : decode cX5_node 77 = .ok (.getfield 9, 3) := by decide +kernel
theorem dX5_node_80 : decode cX5_node 80 = .ok (.iload_n 1, 1) := by decide +kernel
theorem dX5_node_81 : decode cX5_node 81 = .ok (.iaload, 1) := by decide +kernel
theorem dX5_node_82 : decode cX5_node 82 = .ok (.ireturn, 1) := by decide +kernel
theorem dX5_node_83 : decode cX5_node 83 = .ok (.aload_n 0, 1) := by decide +kernel
theorem dX5_node_84 : decode cX5_node 84 = .ok (.getfield 13, 3) := by decide +kernel
theorem dX5_node_87 : decode cX5_node 87 = .ok (.iload_n 1, 1) := by decide +kernel
theorem dX5_node_88 : decode cX5_node 88 = .ok (.iaload, 1) := by decide +kernel
theorem dX5_node_89 : decode cX5_node 89 = .ok (.ireturn, 1) := by decide +kernel
theorem dX5_node_90 : decode cX5_node 90 = .ok (.aload_n 0, 1) := by decide +kernel
theorem dX5_node_91 : decode cX5_node 91 = .ok (.getfield 16, 3) := by decide +kernel
theorem dX5_node_94 : decode cX5_node 94 = .ok (.iload_n 1, 1) := by decide +kernel
theorem dX5_node_95 : decode cX5_node 95 = .ok (.iaload, 1) := by decide +kernel
theorem dX5_node_96 : decode cX5_node 96 = .ok (.ireturn, 1) := by decide +kernel
theorem dX5_node_97 : decode cX5_node 97 = .ok (.aload_n 0, 1) := by decide +kernel
theorem dX5_node_98 : decode cX5_node 98 = .ok (.getfield 28, 3) := by decide +kernel
theorem dX5_node_101 : decode cX5_node 101 = .ok (.iload_n 1, 1) := by decide +kernel
theorem dX5_node_102 : decode cX5_node 102 = .ok (.iaload, 1) := by decide +kernel
theorem dX5_node_103 : decode cX5_node 103 = .ok (.ireturn, 1) := by decide +kernel
theorem dX5_node_104 : decode cX5_node 104 = .ok (.aload_n 0, 1) := by decide +kernel
theorem dX5_node_105 : decode cX5_node 105 = .ok (.getfield 19, 3) := by decide +kernel
theorem dX5_node_108 : decode cX5_node 108 = .ok (.iload_n 1, 1) := by decide +kernel
theorem dX5_node_109 : decode cX5_node 109 = .ok (.iaload, 1) := by decide +kernel
theorem dX5_node_110 : decode cX5_node 110 = .ok (.ireturn, 1) := by decide +kernel
theorem dX5_node_111 : decode cX5_node 111 = .ok (.aload_n 0, 1) := by decide +kernel
theorem dX5_node_112 : decode cX5_node 112 = .ok (.getfield 22, 3) := by decide +kernel
theorem dX5_node_115 : decode cX5_node 115 = .ok (.iload_n 1, 1) := by decide +kernel
theorem dX5_node_116 : decode cX5_node 116 = .ok (.iaload, 1) := by decide +kernel
theorem dX5_node_117 : decode cX5_node 117 = .ok (.ireturn, 1) := by decide +kernel
theorem dX5_node_118 : decode cX5_node 118 = .ok (.aload_n 0, 1) := by decide +kernel
theorem dX5_node_119 : decode cX5_node 119 = .ok (.getfield 25, 3) := by decide +kernel
theorem dX5_node_122 : decode cX5_node 122 = .ok (.iload_n 1, 1) := by decide +kernel
theorem dX5_node_123 : decode cX5_node 123 = .ok (.iaload, 1) := by decide +kernel
theorem dX5_node_124 : decode cX5_node 124 = .ok (.ireturn, 1) := by decide +kernel
set_option maxRecDepth 20000 in
theorem ggX5_received_X5_isNode : GoodIn wsX5_received wsX5_isNode := goodIn_r _ [10] (by decide +kernel) (by decide +kernel)
set_option maxRecDepth 20000 in
theorem gX5_received_X5_isNode : GoodIn wsX5_received (va_wsS RX5 147 yX5_isNode wsX5_isNode) := goodIn_app (goodIn_of _ (by decide +kernel)) ggX5_received_X5_isNode
theorem dX5_received_0 : decode cX5_received 0 = .ok (.aload_n 0, 1) := by decide +kernel
theorem dX5_received_1 : decode cX5_received 1 = .ok (.iload_n 1, 1) := by decide +kernel
theorem dX5_received_2 : decode cX5_received 2 = .ok (.invokestatic 147, 3) := by decide +kernel
theorem dX5_received_5 : decode cX5_received 5 = .ok (.ifCond .eq 12, 3) := by decide +kernel
theorem dX5_received_8 : decode cX5_received 8 = .ok (.iload_n 2, 1) := by decide +kernel
theorem dX5_received_9 : decode cX5_received 9 = .ok (.ifCond .lt 8, 3) := by decide +kernel
theorem dX5_received_12 : decode cX5_received 12 = .ok (.iload_n 2, 1) := by decide +kernel
theorem dX5_received_13 : decode cX5_received 13 = .ok (.iconst 3, 1) := by decide +kernel
theorem dX5_received_14 : decode cX5_received 14 = .ok (.if_icmp .le 7, 3) := by decide +kernel
theorem dX5_received_17 : decode cX5_received 17 = .ok (.iconst 1, 1) := by decide +kernel
theorem dX5_received_18 : decode cX5_received 18 = .ok (.goto 17, 3) := by decide +kernel
theorem dX5_received_21 : decode cX5_received 21 = .ok (.aload_n 0, 1) := by decide +kernel
theorem dX5_received_22 : decode cX5_received 22 = .ok (.getfield 22, 3) := by decide +kernel
theorem dX5_received_25 : decode cX5_received 25 = .ok (.iload_n 1, 1) := by decide +kernel
theorem dX5_received_26 : decode cX5_received 26 = .ok (.iaload, 1) := by decide +kernel
theorem dX5_received_27 : decode cX5_received 27 = .ok (.ifCond .ne 7, 3) := by decide +kernel
theorem dX5_received_30 : decode cX5_received 30 = .ok (.iconst 2, 1) := by decide +kernel
theorem dX5_received_31 : decode cX5_received 31 = .ok (.goto 4, 3) := by decide +kernel
theorem dX5_received_34 : decode cX5_received 34 = .ok (.iconst 0, 1) := by decide +kernel
theorem dX5_received_35 : decode cX5_received 35 = .ok (.putfield 99, 3) := by decide +kernel
theorem dX5_received_38 : decode cX5_received 38 = .ok (.aload_n 0, 1) := by decide +kernel
theorem dX5_received_39 : decode cX5_received 39 = .ok (.getfield 99, 3) := by decide +kernel
theorem dX5_received_42 : decode cX5_received 42 = .ok (.ifCond .le 5, 3) := by decide +kernel
theorem dX5_received_45 : decode cX5_received 45 = .ok (.lconst 0, 1) := by decide +kernel
theorem dX5_received_46 : decode cX5_received 46 = .ok (.lreturn, 1) := by decide +kernel
theorem dX5_received_47 : decode cX5_received 47 = .ok (.iload_n 2, 1) := by decide +kernel
theorem dX5_received_48 : decode cX5_received 48 = .ok (.ifCond .ne 13, 3) := by decide +kernel
theorem dX5_received_51 : decode cX5_received 51 = .ok (.aload_n 0, 1) := by decide +kernel
theorem dX5_received_52 : decode cX5_received 52 = .ok (.getfield 48, 3) := by decide +kernel
theorem dX5_received_55 : decode cX5_received 55 = .ok (.iload_n 1, 1) := by decide +kernel
theorem dX5_received_56 : decode cX5_received 56 = .ok (.iaload, 1) := by decide +kernel
theorem dX5_received_57 : decode cX5_received 57 = .ok (.i2l, 1) := by decide +kernel
theorem dX5_received_58 : decode cX5_received 58 = .ok (.goto 46, 3) := by decide +kernel
theorem dX5_received_61 : decode cX5_received 61 = .ok (.iload_n 2, 1) := by decide +kernel
theorem dX5_received_62 : decode cX5_received 62 = .ok (.iconst 1, 1) := by decide +kernel
theorem dX5_received_63 : decode cX5_received 63 = .ok (.if_icmp .ne 20, 3) := by decide +kernel
theorem dX5_received_66 : decode cX5_received 66 = .ok (.aload_n 0, 1) := by decide +kernel
theorem dX5_received_67 : decode cX5_received 67 = .ok (.getfield 45, 3) := by decide +kernel
theorem dX5_received_70 : decode cX5_received 70 = .ok (.iload_n 1, 1) := by decide +kernel
theorem dX5_received_71 : decode cX5_received 71 = .ok (.baload, 1) := by decide +kernel
theorem dX5_received_72 : decode cX5_received 72 = .ok (.ifCond .eq 7, 3) := by decide +kernel
theorem dX5_received_75 : decode cX5_received 75 = .ok (.lconst 1, 1) := by decide +kernel
theorem dX5_received_76 : decode cX5_received 76 = .ok (.goto 28, 3) := by decide +kernel
theorem dX5_received_79 : decode cX5_received 79 = .ok (.lconst 0, 1) := by decide +kernel
theorem dX5_received_80 : decode cX5_received 80 = .ok (.goto 24, 3) := by decide +kernel
theorem dX5_received_83 : decode cX5_received 83 = .ok (.iload_n 2, 1) := by decide +kernel
theorem dX5_received_84 : decode cX5_received 84 = .ok (.iconst 2, 1) := by decide +kernel
theorem dX5_received_85 : decode cX5_received 85 = .ok (.if_icmp .ne 13, 3) := by decide +kernel
theorem dX5_received_88 : decode cX5_received 88 = .ok (.aload_n 0, 1) := by decide +kernel
theorem dX5_received_89 : decode cX5_received 89 = .ok (.getfield 54, 3) := by decide +kernel
theorem dX5_received_92 : decode cX5_received 92 = .ok (.iload_n 1, 1) := by decide +kernel
theorem dX5_received_93 : decode cX5_received 93 = .ok (.iaload, 1) := by decide +kernel
theorem dX5_received_94 : decode cX5_received 94 = .ok (.i2l, 1) := by decide +kernel
theorem dX5_received_95 : decode cX5_received 95 = .ok (.goto 9, 3) := by decide +kernel
theorem dX5_received_98 : decode cX5_received 98 = .ok (.aload_n 0, 1) := by decide +kernel
theorem dX5_received_99 : decode cX5_received 99 = .ok (.getfield 51, 3) := by decide +kernel
theorem dX5_received_102 : decode cX5_received 102 = .ok (.iload_n 1, 1) := by decide +kernel
theorem dX5_received_103 : decode cX5_received 103 = .ok (.laload, 1) := by decide +kernel
theorem dX5_received_104 : decode cX5_received 104 = .ok (.lreturn, 1) := by decide +kernel
set_option maxRecDepth 20000 in
theorem ggX5_tape_X5_isNode : GoodIn wsX5_tape wsX5_isNode := goodIn_r _ [9] (by decide +kernel) (by decide +kernel)
set_option maxRecDepth 20000 in
theorem gX5_tape_X5_isNode : GoodIn wsX5_tape (va_wsS RX5 147 yX5_isNode wsX5_isNode) := goodIn_app (goodIn_of _ (by decide +kernel)) ggX5_tape_X5_isNode
set_option maxRecDepth 20000 in
theorem ggX5_tape_X5_offer : GoodIn wsX5_tape wsX5_offer := goodIn_r _ [13, 14, 15, 16, 17, 8, 18, 19, 20, 21, 22, 23, 45, 46, 47, 48, 49, 50, 51, 52, 53, 54, 55, 56, 57, 58, 59, 60, 61, 62, 63, 64, 65, 66, 67, 68, 69, 70, 71, 72, 73, 74, 75, 76, 77, 78, 79] (by decide +kernel) (by decide +kernel)
set_option maxRecDepth 20000 in
theorem gX5_tape_X5_offer : GoodIn wsX5_tape (wsV RX5 159 RX5 yX5_offer wsX5_offer) := goodIn_app (goodIn_of _ (by decide +kernel)) ggX5_tape_X5_offer
set_option maxRecDepth 20000 in
theorem ggX5_tape_X5_make : GoodIn wsX5_tape wsX5_make := goodIn_r _ [27, 28, 19, 20, 29, 30, 31, 32, 2, 33, 34, 35, 8, 36, 37, 38, 39, 40, 41, 42, 43, 5, 44, 45, 46, 47, 48, 49, 50, 51, 52, 53, 54, 55, 56, 57, 58, 59, 60, 61, 62, 63, 64, 65, 66, 67, 68, 69, 70, 71, 72, 73, 74, 75, 76, 77, 78, 79] (by decide +kernel) (by decide +kernel)
set_option maxRecDepth 20000 in
theorem gX5_tape_X5_make : GoodIn wsX5_tape (wsV RX5 162 RX5 yX5_make wsX5_make) := goodIn_app (goodIn_of _ (by decide +kernel)) ggX5_tape_X5_make
theorem dX5_tape_0 : decode cX5_tape 0 = .ok (.aload_n 0, 1) := by decide +kernel
theorem dX5_tape_1 : decode cX5_tape 1 = .ok (.iload_n 1, 1) := by decide +kernel
theorem dX5_tape_2 : decode cX5_tape 2 = .ok (.invokestatic 147, 3) := by decide +kernel
theorem dX5_tape_5 : decode cX5_tape 5 = .ok (.ifCond .ne 7, 3) := by decide +kernel
theorem dX5_tape_8 : decode cX5_tape 8 = .ok (.iconst 1, 1) := by decide +kernel
theorem dX5_tape_9 : decode cX5_tape 9 = .ok (.goto 16, 3) := by decide +kernel
theorem dX5_tape_12 : decode cX5_tape 12 = .ok (.aload_n 0, 1) := by decide +kernel
theorem dX5_tape_13 : decode cX5_tape 13 = .ok (.iload_n 1, 1) := by decide +kernel
theorem dX5_tape_14 : decode cX5_tape 14 = .ok (.invokevirtual 159, 3) := by decide +kernel
theorem dX5_tape_17 : decode cX5_tape 17 = .ok (.ifCond .ge 7, 3) := by decide +kernel
theorem dX5_tape_20 : decode cX5_tape 20 = .ok (.iconst 2, 1) := by decide +kernel
theorem dX5_tape_21 : decode cX5_tape 21 = .ok (.goto 4, 3) := by decide +kernel
theorem dX5_tape_24 : decode cX5_tape 24 = .ok (.iconst 0, 1) := by decide +kernel
theorem dX5_tape_25 : decode cX5_tape 25 = .ok (.putfield 99, 3) := by decide +kernel
theorem dX5_tape_28 : decode cX5_tape 28 = .ok (.aload_n 0, 1) := by decide +kernel
theorem dX5_tape_29 : decode cX5_tape 29 = .ok (.getfield 99, 3) := by decide +kernel
theorem dX5_tape_32 : decode cX5_tape 32 = .ok (.ifCond .le 5, 3) := by decide +kernel
theorem dX5_tape_35 : decode cX5_tape 35 = .ok (.iconst 0, 1) := by decide +kernel
theorem dX5_tape_36 : decode cX5_tape 36 = .ok (.ireturn, 1) := by decide +kernel
theorem dX5_tape_37 : decode cX5_tape 37 = .ok (.aload_n 0, 1) := by decide +kernel
theorem dX5_tape_38 : decode cX5_tape 38 = .ok (.aload_n 0, 1) := by decide +kernel
theorem dX5_tape_39 : decode cX5_tape 39 = .ok (.iload_n 1, 1) := by decide +kernel
theorem dX5_tape_40 : decode cX5_tape 40 = .ok (.invokevirtual 159, 3) := by decide +kernel
theorem dX5_tape_43 : decode cX5_tape 43 = .ok (.iconst 4, 1) := by decide +kernel
theorem dX5_tape_44 : decode cX5_tape 44 = .ok (.invokevirtual 162, 3) := by decide +kernel
theorem dX5_tape_47 : decode cX5_tape 47 = .ok (.aload_n 0, 1) := by decide +kernel
theorem dX5_tape_48 : decode cX5_tape 48 = .ok (.aload_n 0, 1) := by decide +kernel
theorem dX5_tape_49 : decode cX5_tape 49 = .ok (.getfield 63, 3) := by decide +kernel
theorem dX5_tape_52 : decode cX5_tape 52 = .ok (.iconst 4, 1) := by decide +kernel
theorem dX5_tape_53 : decode cX5_tape 53 = .ok (.iaload, 1) := by decide +kernel
theorem dX5_tape_54 : decode cX5_tape 54 = .ok (.putfield 211, 3) := by decide +kernel
theorem dX5_tape_57 : decode cX5_tape 57 = .ok (.iconst 0, 1) := by decide +kernel
theorem dX5_tape_58 : decode cX5_tape 58 = .ok (.istore_n 2, 1) := by decide +kernel
theorem dX5_tape_59 : decode cX5_tape 59 = .ok (.iload_n 2, 1) := by decide +kernel
theorem dX5_tape_60 : decode cX5_tape 60 = .ok (.aload_n 0, 1) := by decide +kernel
theorem dX5_tape_61 : decode cX5_tape 61 = .ok (.getfield 211, 3) := by decide +kernel
theorem dX5_tape_64 : decode cX5_tape 64 = .ok (.if_icmp .ge 25, 3) := by decide +kernel
theorem dX5_tape_67 : decode cX5_tape 67 = .ok (.aload_n 0, 1) := by decide +kernel
theorem dX5_tape_68 : decode cX5_tape 68 = .ok (.getfield 93, 3) := by decide +kernel
theorem dX5_tape_71 : decode cX5_tape 71 = .ok (.iload_n 2, 1) := by decide +kernel
theorem dX5_tape_72 : decode cX5_tape 72 = .ok (.aload_n 0, 1) := by decide +kernel
theorem dX5_tape_73 : decode cX5_tape 73 = .ok (.getfield 57, 3) := by decide +kernel
theorem dX5_tape_76 : decode cX5_tape 76 = .ok (.sipush 800, 3) := by decide +kernel
theorem dX5_tape_79 : decode cX5_tape 79 = .ok (.iload_n 2, 1) := by decide +kernel
theorem dX5_tape_80 : decode cX5_tape 80 = .ok (.iadd, 1) := by decide +kernel
theorem dX5_tape_81 : decode cX5_tape 81 = .ok (.iaload, 1) := by decide +kernel
theorem dX5_tape_82 : decode cX5_tape 82 = .ok (.iastore, 1) := by decide +kernel
theorem dX5_tape_83 : decode cX5_tape 83 = .ok (.iinc 2 1, 3) := by decide +kernel
theorem dX5_tape_86 : decode cX5_tape 86 = .ok (.goto (-27), 3) := by decide +kernel
theorem dX5_tape_89 : decode cX5_tape 89 = .ok (.aload_n 0, 1) := by decide +kernel
theorem dX5_tape_90 : decode cX5_tape 90 = .ok (.getfield 211, 3) := by decide +kernel
theorem dX5_tape_93 : decode cX5_tape 93 = .ok (.ireturn, 1) := by decide +kernel
theorem dX5_put_0 : decode cX5_put 0 = .ok (.aload_n 0, 1) := by decide +kernel
theorem dX5_put_1 : decode cX5_put 1 = .ok (.iconst 0, 1) := by decide +kernel
theorem dX5_put_2 : decode cX5_put 2 = .ok (.putfield 99, 3) := by decide +kernel
theorem dX5_put_5 : decode cX5_put 5 = .ok (.iload_n 3, 1) := by decide +kernel
theorem dX5_put_6 : decode cX5_put 6 = .ok (.iconst 1, 1) := by decide +kernel
theorem dX5_put_7 : decode cX5_put 7 = .ok (.if_icmp .lt 21, 3) := by decide +kernel
theorem dX5_put_10 : decode cX5_put 10 = .ok (.iload_n 3, 1) := by decide +kernel
theorem dX5_put_11 : decode cX5_put 11 = .ok (.bipush 64, 2) := by decide +kernel
theorem dX5_put_13 : decode cX5_put 13 = .ok (.if_icmp .gt 15, 3) := by decide +kernel
theorem dX5_put_16 : decode cX5_put 16 = .ok (.aload_n 0, 1) := by decide +kernel
theorem dX5_put_17 : decode cX5_put 17 = .ok (.getfield 211, 3) := by decide +kernel
theorem dX5_put_20 : decode cX5_put 20 = .ok (.iload_n 3, 1) := by decide +kernel
theorem dX5_put_21 : decode cX5_put 21 = .ok (.iadd, 1) := by decide +kernel
theorem dX5_put_22 : decode cX5_put 22 = .ok (.sipush 200, 3) := by decide +kernel
theorem dX5_put_25 : decode cX5_put 25 = .ok (.if_icmp .le 5, 3) := by decide +kernel
theorem dX5_put_28 : decode cX5_put 28 = .ok (.iconst 0, 1) := by decide +kernel
theorem dX5_put_29 : decode cX5_put 29 = .ok (.ireturn, 1) := by decide +kernel
theorem dX5_put_30 : decode cX5_put 30 = .ok (.iconst 0, 1) := by decide +kernel
theorem dX5_put_31 : decode cX5_put 31 = .ok (.istore 4, 2) := by decide +kernel
theorem dX5_put_33 : decode cX5_put 33 = .ok (.iload 4, 2) := by decide +kernel
theorem dX5_put_35 : decode cX5_put 35 = .ok (.iload_n 3, 1) := by decide +kernel
theorem dX5_put_36 : decode cX5_put 36 = .ok (.if_icmp .ge 35, 3) := by decide +kernel
theorem dX5_put_39 : decode cX5_put 39 = .ok (.aload_n 0, 1) := by decide +kernel
theorem dX5_put_40 : decode cX5_put 40 = .ok (.getfield 93, 3) := by decide +kernel
theorem dX5_put_43 : decode cX5_put 43 = .ok (.aload_n 0, 1) := by decide +kernel
theorem dX5_put_44 : decode cX5_put 44 = .ok (.getfield 211, 3) := by decide +kernel
theorem dX5_put_47 : decode cX5_put 47 = .ok (.lload_n 1, 1) := by decide +kernel
theorem dX5_put_48 : decode cX5_put 48 = .ok (.iload 4, 2) := by decide +kernel
theorem dX5_put_50 : decode cX5_put 50 = .ok (.lshr, 1) := by decide +kernel
theorem dX5_put_51 : decode cX5_put 51 = .ok (.lconst 1, 1) := by decide +kernel
theorem dX5_put_52 : decode cX5_put 52 = .ok (.land, 1) := by decide +kernel
theorem dX5_put_53 : decode cX5_put 53 = .ok (.l2i, 1) := by decide +kernel
theorem dX5_put_54 : decode cX5_put 54 = .ok (.iastore, 1) := by decide +kernel
theorem dX5_put_55 : decode cX5_put 55 = .ok (.aload_n 0, 1) := by decide +kernel
theorem dX5_put_56 : decode cX5_put 56 = .ok (.dup, 1) := by decide +kernel
theorem dX5_put_57 : decode cX5_put 57 = .ok (.getfield 211, 3) := by decide +kernel
theorem dX5_put_60 : decode cX5_put 60 = .ok (.iconst 1, 1) := by decide +kernel
theorem dX5_put_61 : decode cX5_put 61 = .ok (.iadd, 1) := by decide +kernel
theorem dX5_put_62 : decode cX5_put 62 = .ok (.putfield 211, 3) := by decide +kernel
theorem dX5_put_65 : decode cX5_put 65 = .ok (.iinc 4 1, 3) := by decide +kernel
theorem dX5_put_68 : decode cX5_put 68 = .ok (.goto (-35), 3) := by decide +kernel
theorem dX5_put_71 : decode cX5_put 71 = .ok (.iconst 1, 1) := by decide +kernel
theorem dX5_put_72 : decode cX5_put 72 = .ok (.ireturn, 1) := by decide +kernel
theorem dX5_bit_0 : decode cX5_bit 0 = .ok (.aload_n 0, 1) := by decide +kernel
theorem dX5_bit_1 : decode cX5_bit 1 = .ok (.iload_n 1, 1) := by decide +kernel
theorem dX5_bit_2 : decode cX5_bit 2 = .ok (.ifCond .lt 11, 3) := by decide +kernel
theorem dX5_bit_5 : decode cX5_bit 5 = .ok (.iload_n 1, 1) := by decide +kernel
theorem dX5_bit_6 : decode cX5_bit 6 = .ok (.aload_n 0, 1) := by decide +kernel
theorem dX5_bit_7 : decode cX5_bit 7 = .ok (.getfield 211, 3) := by decide +kernel
theorem dX5_bit_10 : decode cX5_bit 10 = .ok (.if_icmp .lt 7, 3) := by decide +kernel
theorem dX5_bit_13 : decode cX5_bit 13 = .ok (.iconst 1, 1) := by decide +kernel
theorem dX5_bit_14 : decode cX5_bit 14 = .ok (.goto 4, 3) := by decide +kernel
theorem dX5_bit_17 : decode cX5_bit 17 = .ok (.iconst 0, 1) := by decide +kernel
theorem dX5_bit_18 : decode cX5_bit 18 = .ok (.putfield 99, 3) := by decide +kernel
theorem dX5_bit_21 : decode cX5_bit 21 = .ok (.aload_n 0, 1) := by decide +kernel
theorem dX5_bit_22 : decode cX5_bit 22 = .ok (.getfield 99, 3) := by decide +kernel
theorem dX5_bit_25 : decode cX5_bit 25 = .ok (.ifCond .le 7, 3) := by decide +kernel
theorem dX5_bit_28 : decode cX5_bit 28 = .ok (.iconst 0, 1) := by decide +kernel
theorem dX5_bit_29 : decode cX5_bit 29 = .ok (.goto 9, 3) := by decide +kernel
theorem dX5_bit_32 : decode cX5_bit 32 = .ok (.aload_n 0, 1) := by decide +kernel
theorem dX5_bit_33 : decode cX5_bit 33 = .ok (.getfield 93, 3) := by decide +kernel
theorem dX5_bit_36 : decode cX5_bit 36 = .ok (.iload_n 1, 1) := by decide +kernel
theorem dX5_bit_37 : decode cX5_bit 37 = .ok (.iaload, 1) := by decide +kernel
theorem dX5_bit_38 : decode cX5_bit 38 = .ok (.ireturn, 1) := by decide +kernel
theorem dX5_flip_0 : decode cX5_flip 0 = .ok (.aload_n 0, 1) := by decide +kernel
theorem dX5_flip_1 : decode cX5_flip 1 = .ok (.iload_n 1, 1) := by decide +kernel
theorem dX5_flip_2 : decode cX5_flip 2 = .ok (.ifCond .lt 11, 3) := by decide +kernel
theorem dX5_flip_5 : decode cX5_flip 5 = .ok (.iload_n 1, 1) := by decide +kernel
theorem dX5_flip_6 : decode cX5_flip 6 = .ok (.aload_n 0, 1) := by decide +kernel
theorem dX5_flip_7 : decode cX5_flip 7 = .ok (.getfield 211, 3) := by decide +kernel
theorem dX5_flip_10 : decode cX5_flip 10 = .ok (.if_icmp .lt 7, 3) := by decide +kernel
theorem dX5_flip_13 : decode cX5_flip 13 = .ok (.iconst 1, 1) := by decide +kernel
theorem dX5_flip_14 : decode cX5_flip 14 = .ok (.goto 4, 3) := by decide +kernel
theorem dX5_flip_17 : decode cX5_flip 17 = .ok (.iconst 0, 1) := by decide +kernel
theorem dX5_flip_18 : decode cX5_flip 18 = .ok (.putfield 99, 3) := by decide +kernel
theorem dX5_flip_21 : decode cX5_flip 21 = .ok (.aload_n 0, 1) := by decide +kernel
theorem dX5_flip_22 : decode cX5_flip 22 = .ok (.getfield 99, 3) := by decide +kernel
theorem dX5_flip_25 : decode cX5_flip 25 = .ok (.ifCond .ne 17, 3) := by decide +kernel
theorem dX5_flip_28 : decode cX5_flip 28 = .ok (.aload_n 0, 1) := by decide +kernel
theorem dX5_flip_29 : decode cX5_flip 29 = .ok (.getfield 93, 3) := by decide +kernel
theorem dX5_flip_32 : decode cX5_flip 32 = .ok (.iload_n 1, 1) := by decide +kernel
theorem dX5_flip_33 : decode cX5_flip 33 = .ok (.iconst 1, 1) := by decide +kernel
theorem dX5_flip_34 : decode cX5_flip 34 = .ok (.aload_n 0, 1) := by decide +kernel
theorem dX5_flip_35 : decode cX5_flip 35 = .ok (.getfield 93, 3) := by decide +kernel
theorem dX5_flip_38 : decode cX5_flip 38 = .ok (.iload_n 1, 1) := by decide +kernel
theorem dX5_flip_39 : decode cX5_flip 39 = .ok (.iaload, 1) := by decide +kernel
theorem dX5_flip_40 : decode cX5_flip 40 = .ok (.isub, 1) := by decide +kernel
theorem dX5_flip_41 : decode cX5_flip 41 = .ok (.iastore, 1) := by decide +kernel
theorem dX5_flip_42 : decode cX5_flip 42 = .ok (.return_, 1) := by decide +kernel
theorem dX5_wipe_0 : decode cX5_wipe 0 = .ok (.aload_n 0, 1) := by decide +kernel
theorem dX5_wipe_1 : decode cX5_wipe 1 = .ok (.iconst 0, 1) := by decide +kernel
theorem dX5_wipe_2 : decode cX5_wipe 2 = .ok (.putfield 99, 3) := by decide +kernel
theorem dX5_wipe_5 : decode cX5_wipe 5 = .ok (.aload_n 0, 1) := by decide +kernel
theorem dX5_wipe_6 : decode cX5_wipe 6 = .ok (.getfield 211, 3) := by decide +kernel
theorem dX5_wipe_9 : decode cX5_wipe 9 = .ok (.istore_n 1, 1) := by decide +kernel
theorem dX5_wipe_10 : decode cX5_wipe 10 = .ok (.aload_n 0, 1) := by decide +kernel
theorem dX5_wipe_11 : decode cX5_wipe 11 = .ok (.iconst 0, 1) := by decide +kernel
theorem dX5_wipe_12 : decode cX5_wipe 12 = .ok (.putfield 211, 3) := by decide +kernel
theorem dX5_wipe_15 : decode cX5_wipe 15 = .ok (.iload_n 1, 1) := by decide +kernel
theorem dX5_wipe_16 : decode cX5_wipe 16 = .ok (.ireturn, 1) := by decide +kernel
set_option maxRecDepth 20000 in
theorem ggX5_read_X5_begin : GoodIn wsX5_read wsX5_begin := goodIn_r _ [8, 9, 10, 11, 12, 13, 42, 43, 44, 45, 46, 47, 48, 49, 50, 51, 52, 53, 54, 55, 56, 57, 58, 59, 60, 61, 62, 63, 64, 65, 66, 67, 68, 69, 70, 71, 72, 73, 74, 75, 76] (by decide +kernel) (by decide +kernel)
set_option maxRecDepth 20000 in
theorem gX5_read_X5_begin : GoodIn wsX5_read (wsV RX5 165 RX5 yX5_begin wsX5_begin) := goodIn_app (goodIn_of _ (by decide +kernel)) ggX5_read_X5_begin
set_option maxRecDepth 20000 in
theorem ggX5_read_X5_take : GoodIn wsX5_read wsX5_take := goodIn_r _ [17, 9, 12, 10, 11, 18, 19, 20, 21, 7, 22, 13, 23, 24, 25, 26, 27, 28, 29, 30, 31, 32, 33, 34, 35, 36, 37, 38, 39, 40, 41, 42, 43, 44, 45, 46, 47, 48, 49, 50, 51, 52, 53, 54, 55, 56, 57, 58, 59, 60, 61, 62, 63, 64, 65, 66, 67, 68, 69, 70, 71, 72, 73, 74, 75, 76] (by decide +kernel) (by decide +kernel)
set_option maxRecDepth 20000 in
theorem gX5_read_X5_take : GoodIn wsX5_read (wsV RX5 169 RX5 yX5_take wsX5_take) := goodIn_app (goodIn_of _ (by decide +kernel)) ggX5_read_X5_take
theorem dX5_read_0 : decode cX5_read 0 = .ok (.aload_n 0, 1) := by decide +kernel
theorem dX5_read_1 : decode cX5_read 1 = .ok (.iconst 0, 1) := by decide +kernel
theorem dX5_read_2 : decode cX5_read 2 = .ok (.putfield 99, 3) := by decide +kernel
theorem dX5_read_5 : decode cX5_read 5 = .ok (.aload_n 0, 1) := by decide +kernel
theorem dX5_read_6 : decode cX5_read 6 = .ok (.iconst 4, 1) := by decide +kernel
theorem dX5_read_7 : decode cX5_read 7 = .ok (.invokevirtual 165, 3) := by decide +kernel
theorem dX5_read_10 : decode cX5_read 10 = .ok (.iconst 0, 1) := by decide +kernel
theorem dX5_read_11 : decode cX5_read 11 = .ok (.istore_n 1, 1) := by decide +kernel
theorem dX5_read_12 : decode cX5_read 12 = .ok (.iload_n 1, 1) := by decide +kernel
theorem dX5_read_13 : decode cX5_read 13 = .ok (.aload_n 0, 1) := by decide +kernel
theorem dX5_read_14 : decode cX5_read 14 = .ok (.getfield 211, 3) := by decide +kernel
theorem dX5_read_17 : decode cX5_read 17 = .ok (.if_icmp .ge 59, 3) := by decide +kernel
theorem dX5_read_20 : decode cX5_read 20 = .ok (.aload_n 0, 1) := by decide +kernel
theorem dX5_read_21 : decode cX5_read 21 = .ok (.iconst 4, 1) := by decide +kernel
theorem dX5_read_22 : decode cX5_read 22 = .ok (.aload_n 0, 1) := by decide +kernel
theorem dX5_read_23 : decode cX5_read 23 = .ok (.getfield 93, 3) := by decide +kernel
theorem dX5_read_26 : decode cX5_read 26 = .ok (.iload_n 1, 1) := by decide +kernel
theorem dX5_read_27 : decode cX5_read 27 = .ok (.iaload, 1) := by decide +kernel
theorem dX5_read_28 : decode cX5_read 28 = .ok (.invokevirtual 169, 3) := by decide +kernel
theorem dX5_read_31 : decode cX5_read 31 = .ok (.istore_n 2, 1) := by decide +kernel
theorem dX5_read_32 : decode cX5_read 32 = .ok (.iload_n 2, 1) := by decide +kernel
theorem dX5_read_33 : decode cX5_read 33 = .ok (.bipush 9, 2) := by decide +kernel
theorem dX5_read_35 : decode cX5_read 35 = .ok (.if_icmp .ne 23, 3) := by decide +kernel
theorem dX5_read_38 : decode cX5_read 38 = .ok (.iload_n 1, 1) := by decide +kernel
theorem dX5_read_39 : decode cX5_read 39 = .ok (.iconst 1, 1) := by decide +kernel
theorem dX5_read_40 : decode cX5_read 40 = .ok (.iadd, 1) := by decide +kernel
theorem dX5_read_41 : decode cX5_read 41 = .ok (.aload_n 0, 1) := by decide +kernel
theorem dX5_read_42 : decode cX5_read 42 = .ok (.getfield 211, 3) := by decide +kernel
theorem dX5_read_45 : decode cX5_read 45 = .ok (.if_icmp .ne 7, 3) := by decide +kernel
theorem dX5_read_48 : decode cX5_read 48 = .ok (.iconst 0, 1) := by decide +kernel
theorem dX5_read_49 : decode cX5_read 49 = .ok (.goto 8, 3) := by decide +kernel
theorem dX5_read_52 : decode cX5_read 52 = .ok (.sipush 5001, 3) := by decide +kernel
theorem dX5_read_55 : decode cX5_read 55 = .ok (.iload_n 1, 1) := by decide +kernel
theorem dX5_read_56 : decode cX5_read 56 = .ok (.iadd, 1) := by decide +kernel
theorem dX5_read_57 : decode cX5_read 57 = .ok (.ireturn, 1) := by decide +kernel
theorem dX5_read_58 : decode cX5_read 58 = .ok (.iload_n 2, 1) := by decide +kernel
theorem dX5_read_59 : decode cX5_read 59 = .ok (.ifCond .le 11, 3) := by decide +kernel
theorem dX5_read_62 : decode cX5_read 62 = .ok (.sipush 1000, 3) := by decide +kernel
theorem dX5_read_65 : decode cX5_read 65 = .ok (.iload_n 2, 1) := by decide +kernel
theorem dX5_read_66 : decode cX5_read 66 = .ok (.imul, 1) := by decide +kernel
theorem dX5_read_67 : decode cX5_read 67 = .ok (.iload_n 1, 1) := by decide +kernel
theorem dX5_read_68 : decode cX5_read 68 = .ok (.iadd, 1) := by decide +kernel
theorem dX5_read_69 : decode cX5_read 69 = .ok (.ireturn, 1) := by decide +kernel
theorem dX5_read_70 : decode cX5_read 70 = .ok (.iinc 1 1, 3) := by decide +kernel
theorem dX5_read_73 : decode cX5_read 73 = .ok (.goto (-61), 3) := by decide +kernel
theorem dX5_read_76 : decode cX5_read 76 = .ok (.sipush 4000, 3) := by decide +kernel
theorem dX5_read_79 : decode cX5_read 79 = .ok (.aload_n 0, 1) := by decide +kernel
theorem dX5_read_80 : decode cX5_read 80 = .ok (.getfield 211, 3) := by decide +kernel
theorem dX5_read_83 : decode cX5_read 83 = .ok (.iadd, 1) := by decide +kernel
theorem dX5_read_84 : decode cX5_read 84 = .ok (.ireturn, 1) := by decide +kernel
theorem dJ9_max_7cf53_0 : decode cJ9_max_7cf53 0 = .ok (.iload_n 0, 1) := by decide +kernel
theorem dJ9_max_7cf53_1 : decode cJ9_max_7cf53 1 = .ok (.iload_n 1, 1) := by decide +kernel
theorem dJ9_max_7cf53_2 : decode cJ9_max_7cf53 2 = .ok (.if_icmp .lt 7, 3) := by decide +kernel
theorem dJ9_max_7cf53_5 : decode cJ9_max_7cf53 5 = .ok (.iload_n 0, 1) := by decide +kernel
theorem dJ9_max_7cf53_6 : decode cJ9_max_7cf53 6 = .ok (.goto 4, 3) := by decide +kernel
theorem dJ9_max_7cf53_9 : decode cJ9_max_7cf53 9 = .ok (.iload_n 1, 1) := by decide +kernel
theorem dJ9_max_7cf53_10 : decode cJ9_max_7cf53 10 = .ok (.ireturn, 1) := by decide +kernel
theorem dJ9_min_7cf53_0 : decode cJ9_min_7cf53 0 = .ok (.iload_n 0, 1) := by decide +kernel
theorem dJ9_min_7cf53_1 : decode cJ9_min_7cf53 1 = .ok (.iload_n 1, 1) := by decide +kernel
theorem dJ9_min_7cf53_2 : decode cJ9_min_7cf53 2 = .ok (.if_icmp .gt 7, 3) := by decide +kernel
theorem dJ9_min_7cf53_5 : decode cJ9_min_7cf53 5 = .ok (.iload_n 0, 1) := by decide +kernel
theorem dJ9_min_7cf53_6 : decode cJ9_min_7cf53 6 = .ok (.goto 4, 3) := by decide +kernel
theorem dJ9_min_7cf53_9 : decode cJ9_min_7cf53 9 = .ok (.iload_n 1, 1) := by decide +kernel
theorem dJ9_min_7cf53_10 : decode cJ9_min_7cf53 10 = .ok (.ireturn, 1) := by decide +kernel
end
section
set_option maxRecDepth 20000 in
theorem ggL_want_X4_want : GoodIn wsL_want wsX4_want := goodIn_ca (goodIn_ca (goodIn_ca (goodIn_r _ [8, 9, 10, 11, 12, 13, 14, 15, 16, 17, 18, 7, 19, 20, 21, 22, 23, 24, 25, 26, 27, 28, 29, 30, 31, 32, 33, 34, 35, 36, 37, 38, 39, 40, 41, 42, 43, 44, 45, 46, 47, 48, 49, 50, 51, 52, 53, 54, 55, 56, 57, 58, 59, 60, 61] (by decide +kernel) (by decide +kernel)) (goodIn_sub (fun _ h => List.mem_cons_of_mem _ (List.mem_append_left _ (List.mem_append_left _ (List.mem_append_right _ h)))) (by decide +kernel))) (goodIn_sub (fun _ h => List.mem_cons_of_mem _ (List.mem_append_left _ (List.mem_append_right _ h))) (by decide +kernel))) (goodIn_sub (fun _ h => List.mem_cons_of_mem _ (List.mem_append_right _ h)) (by decide +kernel))
set_option maxRecDepth 20000 in
theorem gL_want_X4_want : GoodIn wsL_want (wsV RL 7 RX4 yX4_want wsX4_want) := goodIn_app (goodIn_of _ (by decide +kernel)) ggL_want_X4_want
theorem dL_want_0 : decode cL_want 0 = .ok (.aload 7, 2) := by decide +kernel
theorem dL_want_2 : decode cL_want 2 = .ok (.iconst 0, 1) := by decide +kernel
theorem dL_want_3 : decode cL_want 3 = .ok (.aload_n 0, 1) := by decide +kernel
theorem dL_want_4 : decode cL_want 4 = .ok (.iload_n 1, 1) := by decide +kernel
theorem dL_want_5 : decode cL_want 5 = .ok (.iload_n 2, 1) := by decide +kernel
theorem dL_want_6 : decode cL_want 6 = .ok (.iload_n 3, 1) := by decide +kernel
theorem dL_want_7 : decode cL_want 7 = .ok (.lload 4, 2) := by decide +kernel
theorem dL_want_9 : decode cL_want 9 = .ok (.iload 6, 2) := by decide +kernel
theorem dL_want_11 : decode cL_want 11 = .ok (.invokevirtual 7, 3) := by decide +kernel
theorem dL_want_14 : decode cL_want 14 = .ok (.i2l, 1) := by decide +kernel
theorem dL_want_15 : decode cL_want 15 = .ok (.lastore, 1) := by decide +kernel
theorem dL_want_16 : decode cL_want 16 = .ok (.goto 15, 3) := by decide +kernel
theorem dL_want_19 : decode cL_want 19 = .ok (.astore 8, 2) := by decide +kernel
theorem dL_want_21 : decode cL_want 21 = .ok (.iconst 1, 1) := by decide +kernel
theorem dL_want_22 : decode cL_want 22 = .ok (.ireturn, 1) := by decide +kernel
theorem dL_want_23 : decode cL_want 23 = .ok (.astore 8, 2) := by decide +kernel
theorem dL_want_25 : decode cL_want 25 = .ok (.iconst 2, 1) := by decide +kernel
theorem dL_want_26 : decode cL_want 26 = .ok (.ireturn, 1) := by decide +kernel
theorem dL_want_27 : decode cL_want 27 = .ok (.astore 8, 2) := by decide +kernel
theorem dL_want_29 : decode cL_want 29 = .ok (.iconst 3, 1) := by decide +kernel
theorem dL_want_30 : decode cL_want 30 = .ok (.ireturn, 1) := by decide +kernel
theorem dL_want_31 : decode cL_want 31 = .ok (.iconst 0, 1) := by decide +kernel
theorem dL_want_32 : decode cL_want 32 = .ok (.ireturn, 1) := by decide +kernel
set_option maxRecDepth 20000 in
theorem ggL_step_X4_step : GoodIn wsL_step wsX4_step := goodIn_ca (goodIn_r _ [6, 7, 8, 9, 10, 11, 5, 12, 13, 14, 15, 16, 17, 18, 19, 20, 21, 22, 23, 24, 25, 26, 27, 28, 29, 30, 31, 32, 33, 34, 35, 36, 37, 38, 39, 40, 41, 42, 43, 44, 45, 46, 47, 48, 49, 50, 51, 52, 53, 54, 55, 56, 57, 58, 59, 60, 61, 62, 63, 64, 65, 66, 67, 68, 69, 70, 71, 72, 73, 74, 75, 76, 77, 78, 79, 80, 81, 82, 83, 84, 85, 86, 87, 88, 89, 90, 91, 92, 93, 94, 95, 96, 97, 98, 99, 100, 101, 102, 103, 104, 105, 106, 107, 108, 109, 110, 111, 112, 113, 114, 115, 116, 117, 118, 119, 120, 121, 122, 123, 124, 125, 126, 127, 128, 129, 130, 131, 132, 133, 134, 135, 136, 137, 138, 139, 140, 141, 142, 143, 144, 145, 146, 147, 148, 149, 150, 151, 152, 153, 154, 155, 156, 157, 158, 159, 160, 161, 162, 163, 164, 165, 166, 167, 168, 169, 170, 171, 172, 173, 174, 175, 176, 177, 178, 179, 180, 181, 182, 183, 184, 185, 186, 187, 188, 189, 190, 191, 192, 193, 194, 195, 196, 197, 198, 199, 200, 201, 202, 203, 204, 205, 206, 207, 208, 209, 210, 211, 212, 213, 214, 215, 216, 217, 218, 219, 220, 221, 222, 223, 224, 225, 226, 227, 228, 229, 230, 231, 232, 233, 234, 235, 236, 237, 238, 239, 240, 241, 242, 243, 244, 245, 246, 247, 248, 249, 250, 251, 252, 253, 254, 255, 256, 257, 258, 259, 260, 261, 262, 263, 264, 265, 266, 267, 268, 269, 270, 271, 272, 273, 274, 275] rfl (by decide +kernel)) (goodIn_sub (fun _ h => List.mem_cons_of_mem _ (List.mem_append_right _ h)) (by decide +kernel))
set_option maxRecDepth 20000 in
theorem gL_step_X4_step : GoodIn wsL_step (wsV RL 19 RX4 yX4_step wsX4_step) := goodIn_app (goodIn_of _ (by decide +kernel)) ggL_step_X4_step
theorem dL_step_0 : decode cL_step 0 = .ok (.aload_n 3, 1) := by decide +kernel
theorem dL_step_1 : decode cL_step 1 = .ok (.iconst 0, 1) := by decide +kernel
theorem dL_step_2 : decode cL_step 2 = .ok (.aload_n 0, 1) := by decide +kernel
theorem dL_step_3 : decode cL_step 3 = .ok (.iload_n 1, 1) := by decide +kernel
theorem dL_step_4 : decode cL_step 4 = .ok (.iload_n 2, 1) := by decide +kernel
theorem dL_step_5 : decode cL_step 5 = .ok (.invokevirtual 19, 3) := by decide +kernel
theorem dL_step_8 : decode cL_step 8 = .ok (.i2l, 1) := by decide +kernel
theorem dL_step_9 : decode cL_step 9 = .ok (.lastore, 1) := by decide +kernel
theorem dL_step_10 : decode cL_step 10 = .ok (.goto 7, 3) := by decide +kernel
theorem dL_step_13 : decode cL_step 13 = .ok (.astore 4, 2) := by decide +kernel
theorem dL_step_15 : decode cL_step 15 = .ok (.iconst 1, 1) := by decide +kernel
theorem dL_step_16 : decode cL_step 16 = .ok (.ireturn, 1) := by decide +kernel
theorem dL_step_17 : decode cL_step 17 = .ok (.iconst 0, 1) := by decide +kernel
theorem dL_step_18 : decode cL_step 18 = .ok (.ireturn, 1) := by decide +kernel
set_option maxRecDepth 20000 in
theorem ggL_join_X4_join : GoodIn wsL_join wsX4_join := goodIn_ca (goodIn_r _ [6, 7, 8, 9, 10, 11, 12, 5, 13, 14, 15, 16, 17, 18, 19, 20, 21, 22, 23, 24, 25, 26, 27, 28, 29, 30, 31, 32, 33, 34, 35, 36, 37, 38, 39, 40, 41, 42, 43] (by decide +kernel) (by decide +kernel)) (goodIn_sub (fun _ h => List.mem_cons_of_mem _ (List.mem_append_right _ h)) (by decide +kernel))
set_option maxRecDepth 20000 in
theorem gL_join_X4_join : GoodIn wsL_join (wsV RL 23 RX4 yX4_join wsX4_join) := goodIn_app (goodIn_of _ (by decide +kernel)) ggL_join_X4_join
theorem dL_join_0 : decode cL_join 0 = .ok (.aload_n 2, 1) := by decide +kernel
theorem dL_join_1 : decode cL_join 1 = .ok (.iconst 0, 1) := by decide +kernel
theorem dL_join_2 : decode cL_join 2 = .ok (.aload_n 0, 1) := by decide +kernel
theorem dL_join_3 : decode cL_join 3 = .ok (.iload_n 1, 1) := by decide +kernel
theorem dL_join_4 : decode cL_join 4 = .ok (.invokevirtual 23, 3) := by decide +kernel
theorem dL_join_7 : decode cL_join 7 = .ok (.ifCond .eq 7, 3) := by decide +kernel
theorem dL_join_10 : decode cL_join 10 = .ok (.lconst 1, 1) := by decide +kernel
theorem dL_join_11 : decode cL_join 11 = .ok (.goto 4, 3) := by decide +kernel
theorem dL_join_14 : decode cL_join 14 = .ok (.lconst 0, 1) := by decide +kernel
theorem dL_join_15 : decode cL_join 15 = .ok (.lastore, 1) := by decide +kernel
theorem dL_join_16 : decode cL_join 16 = .ok (.goto 6, 3) := by decide +kernel
theorem dL_join_19 : decode cL_join 19 = .ok (.astore_n 3, 1) := by decide +kernel
theorem dL_join_20 : decode cL_join 20 = .ok (.iconst 1, 1) := by decide +kernel
theorem dL_join_21 : decode cL_join 21 = .ok (.ireturn, 1) := by decide +kernel
theorem dL_join_22 : decode cL_join 22 = .ok (.iconst 0, 1) := by decide +kernel
theorem dL_join_23 : decode cL_join 23 = .ok (.ireturn, 1) := by decide +kernel
set_option maxRecDepth 20000 in
theorem ggL_node_X4_node : GoodIn wsL_node wsX4_node := goodIn_ca (goodIn_r _ [6, 7, 8, 9, 10, 11, 12, 13, 14, 15, 16, 17, 18, 19, 5, 20, 21, 22, 23, 24, 25, 26, 27, 28, 29, 30, 31, 32, 33, 34, 35, 36, 37, 38, 39, 40, 41, 42] (by decide +kernel) (by decide +kernel)) (goodIn_sub (fun _ h => List.mem_cons_of_mem _ (List.mem_append_right _ h)) (by decide +kernel))
set_option maxRecDepth 20000 in
theorem gL_node_X4_node : GoodIn wsL_node (wsV RL 27 RX4 yX4_node wsX4_node) := goodIn_app (goodIn_of _ (by decide +kernel)) ggL_node_X4_node
theorem dL_node_0 : decode cL_node 0 = .ok (.aload_n 3, 1) := by decide +kernel
theorem dL_node_1 : decode cL_node 1 = .ok (.iconst 0, 1) := by decide +kernel
theorem dL_node_2 : decode cL_node 2 = .ok (.aload_n 0, 1) := by decide +kernel
theorem dL_node_3 : decode cL_node 3 = .ok (.iload_n 1, 1) := by decide +kernel
theorem dL_node_4 : decode cL_node 4 = .ok (.iload_n 2, 1) := by decide +kernel
theorem dL_node_5 : decode cL_node 5 = .ok (.invokevirtual 27, 3) := by decide +kernel
theorem dL_node_8 : decode cL_node 8 = .ok (.i2l, 1) := by decide +kernel
theorem dL_node_9 : decode cL_node 9 = .ok (.lastore, 1) := by decide +kernel
theorem dL_node_10 : decode cL_node 10 = .ok (.goto 7, 3) := by decide +kernel
theorem dL_node_13 : decode cL_node 13 = .ok (.astore 4, 2) := by decide +kernel
theorem dL_node_15 : decode cL_node 15 = .ok (.iconst 1, 1) := by decide +kernel
theorem dL_node_16 : decode cL_node 16 = .ok (.ireturn, 1) := by decide +kernel
theorem dL_node_17 : decode cL_node 17 = .ok (.iconst 0, 1) := by decide +kernel
theorem dL_node_18 : decode cL_node 18 = .ok (.ireturn, 1) := by decide +kernel
set_option maxRecDepth 20000 in
theorem ggL_received_X4_received : GoodIn wsL_received wsX4_received := goodIn_ca (goodIn_ca (goodIn_r _ [7, 8, 9, 10, 11, 12, 13, 14, 15, 16, 17, 18, 19, 20, 6, 21, 22, 23, 24, 25, 26, 27, 28, 29, 30, 31, 32, 33, 34, 35, 36, 37, 38, 39, 40, 41, 42, 43, 44, 45, 46, 47] (by decide +kernel) (by decide +kernel)) (goodIn_sub (fun _ h => List.mem_cons_of_mem _ (List.mem_append_left _ (List.mem_append_right _ h))) (by decide +kernel))) (goodIn_sub (fun _ h => List.mem_cons_of_mem _ (List.mem_append_right _ h)) (by decide +kernel))
set_option maxRecDepth 20000 in
theorem gL_received_X4_received : GoodIn wsL_received (wsV RL 30 RX4 yX4_received wsX4_received) := goodIn_app (goodIn_of _ (by decide +kernel)) ggL_received_X4_received
theorem dL_received_0 : decode cL_received 0 = .ok (.aload_n 3, 1) := by decide +kernel
theorem dL_received_1 : decode cL_received 1 = .ok (.iconst 0, 1) := by decide +kernel
theorem dL_received_2 : decode cL_received 2 = .ok (.aload_n 0, 1) := by decide +kernel
theorem dL_received_3 : decode cL_received 3 = .ok (.iload_n 1, 1) := by decide +kernel
theorem dL_received_4 : decode cL_received 4 = .ok (.iload_n 2, 1) := by decide +kernel
theorem dL_received_5 : decode cL_received 5 = .ok (.invokevirtual 30, 3) := by decide +kernel
theorem dL_received_8 : decode cL_received 8 = .ok (.lastore, 1) := by decide +kernel
theorem dL_received_9 : decode cL_received 9 = .ok (.goto 11, 3) := by decide +kernel
theorem dL_received_12 : decode cL_received 12 = .ok (.astore 4, 2) := by decide +kernel
theorem dL_received_14 : decode cL_received 14 = .ok (.iconst 1, 1) := by decide +kernel
theorem dL_received_15 : decode cL_received 15 = .ok (.ireturn, 1) := by decide +kernel
theorem dL_received_16 : decode cL_received 16 = .ok (.astore 4, 2) := by decide +kernel
theorem dL_received_18 : decode cL_received 18 = .ok (.iconst 2, 1) := by decide +kernel
theorem dL_received_19 : decode cL_received 19 = .ok (.ireturn, 1) := by decide +kernel
theorem dL_received_20 : decode cL_received 20 = .ok (.iconst 0, 1) := by decide +kernel
theorem dL_received_21 : decode cL_received 21 = .ok (.ireturn, 1) := by decide +kernel
set_option maxRecDepth 20000 in
theorem ggL_tape_X4_tape : GoodIn wsL_tape wsX4_tape := goodIn_ca (goodIn_ca (goodIn_r _ [7, 8, 9, 10, 11, 12, 13, 14, 15, 16, 17, 18, 19, 6, 20, 21, 22, 23, 24, 25, 26, 27, 28, 29, 30, 31, 32, 33, 34, 35, 36, 37, 38, 39, 40, 41, 42, 43, 44, 45, 46, 47, 48, 49, 50, 51, 52, 53, 54, 55, 56, 57, 58, 59, 60, 61, 62, 63, 64, 65, 66, 67, 68, 69, 70, 71, 72, 73, 74, 75, 76, 77, 78, 79, 80, 81, 82, 83, 84, 85, 86, 87, 88, 89, 90, 91, 92, 93, 94, 95, 96, 97, 98, 99, 100, 101, 102, 103, 104, 105, 106] rfl (by decide +kernel)) (goodIn_sub (fun _ h => List.mem_cons_of_mem _ (List.mem_append_left _ (List.mem_append_right _ h))) (by decide +kernel))) (goodIn_sub (fun _ h => List.mem_cons_of_mem _ (List.mem_append_right _ h)) (by decide +kernel))
set_option maxRecDepth 20000 in
theorem gL_tape_X4_tape : GoodIn wsL_tape (wsV RL 36 RX4 yX4_tape wsX4_tape) := goodIn_app (goodIn_of _ (by decide +kernel)) ggL_tape_X4_tape
theorem dL_tape_0 : decode cL_tape 0 = .ok (.aload_n 2, 1) := by decide +kernel
theorem dL_tape_1 : decode cL_tape 1 = .ok (.iconst 0, 1) := by decide +kernel
theorem dL_tape_2 : decode cL_tape 2 = .ok (.aload_n 0, 1) := by decide +kernel
theorem dL_tape_3 : decode cL_tape 3 = .ok (.iload_n 1, 1) := by decide +kernel
theorem dL_tape_4 : decode cL_tape 4 = .ok (.invokevirtual 36, 3) := by decide +kernel
theorem dL_tape_7 : decode cL_tape 7 = .ok (.i2l, 1) := by decide +kernel
theorem dL_tape_8 : decode cL_tape 8 = .ok (.lastore, 1) := by decide +kernel
theorem dL_tape_9 : decode cL_tape 9 = .ok (.goto 9, 3) := by decide +kernel
theorem dL_tape_12 : decode cL_tape 12 = .ok (.astore_n 3, 1) := by decide +kernel
theorem dL_tape_13 : decode cL_tape 13 = .ok (.iconst 1, 1) := by decide +kernel
theorem dL_tape_14 : decode cL_tape 14 = .ok (.ireturn, 1) := by decide +kernel
theorem dL_tape_15 : decode cL_tape 15 = .ok (.astore_n 3, 1) := by decide +kernel
theorem dL_tape_16 : decode cL_tape 16 = .ok (.iconst 2, 1) := by decide +kernel
theorem dL_tape_17 : decode cL_tape 17 = .ok (.ireturn, 1) := by decide +kernel
theorem dL_tape_18 : decode cL_tape 18 = .ok (.iconst 0, 1) := by decide +kernel
theorem dL_tape_19 : decode cL_tape 19 = .ok (.ireturn, 1) := by decide +kernel
set_option maxRecDepth 20000 in
theorem ggL_bit_X4_bit : GoodIn wsL_bit wsX4_bit := goodIn_ca (goodIn_r _ [6, 7, 8, 9, 10, 11, 12, 5, 13, 14, 15, 16, 17, 18, 19, 20, 21] (by decide +kernel) (by decide +kernel)) (goodIn_sub (fun _ h => List.mem_cons_of_mem _ (List.mem_append_right _ h)) (by decide +kernel))
set_option maxRecDepth 20000 in
theorem gL_bit_X4_bit : GoodIn wsL_bit (wsV RL 40 RX4 yX4_bit wsX4_bit) := goodIn_app (goodIn_of _ (by decide +kernel)) ggL_bit_X4_bit
theorem dL_bit_0 : decode cL_bit 0 = .ok (.aload_n 2, 1) := by decide +kernel
theorem dL_bit_1 : decode cL_bit 1 = .ok (.iconst 0, 1) := by decide +kernel
theorem dL_bit_2 : decode cL_bit 2 = .ok (.aload_n 0, 1) := by decide +kernel
theorem dL_bit_3 : decode cL_bit 3 = .ok (.iload_n 1, 1) := by decide +kernel
theorem dL_bit_4 : decode cL_bit 4 = .ok (.invokevirtual 40, 3) := by decide +kernel
theorem dL_bit_7 : decode cL_bit 7 = .ok (.i2l, 1) := by decide +kernel
theorem dL_bit_8 : decode cL_bit 8 = .ok (.lastore, 1) := by decide +kernel
theorem dL_bit_9 : decode cL_bit 9 = .ok (.goto 6, 3) := by decide +kernel
theorem dL_bit_12 : decode cL_bit 12 = .ok (.astore_n 3, 1) := by decide +kernel
theorem dL_bit_13 : decode cL_bit 13 = .ok (.iconst 1, 1) := by decide +kernel
theorem dL_bit_14 : decode cL_bit 14 = .ok (.ireturn, 1) := by decide +kernel
theorem dL_bit_15 : decode cL_bit 15 = .ok (.iconst 0, 1) := by decide +kernel
theorem dL_bit_16 : decode cL_bit 16 = .ok (.ireturn, 1) := by decide +kernel
set_option maxRecDepth 20000 in
theorem ggL_flip_X4_flip : GoodIn wsL_flip wsX4_flip := goodIn_ca (goodIn_r _ [6, 7, 8, 9, 10, 11, 12, 5, 13, 14, 15, 16, 17, 18, 19, 20, 21] (by decide +kernel) (by decide +kernel)) (goodIn_sub (fun _ h => List.mem_cons_of_mem _ (List.mem_append_right _ h)) (by decide +kernel))
set_option maxRecDepth 20000 in
theorem gL_flip_X4_flip : GoodIn wsL_flip (wsV RL 43 RX4 yX4_flip wsX4_flip) := goodIn_app (goodIn_of _ (by decide +kernel)) ggL_flip_X4_flip
theorem dL_flip_0 : decode cL_flip 0 = .ok (.aload_n 0, 1) := by decide +kernel
theorem dL_flip_1 : decode cL_flip 1 = .ok (.iload_n 1, 1) := by decide +kernel
theorem dL_flip_2 : decode cL_flip 2 = .ok (.invokevirtual 43, 3) := by decide +kernel
theorem dL_flip_5 : decode cL_flip 5 = .ok (.goto 6, 3) := by decide +kernel
theorem dL_flip_8 : decode cL_flip 8 = .ok (.astore_n 2, 1) := by decide +kernel
theorem dL_flip_9 : decode cL_flip 9 = .ok (.iconst 1, 1) := by decide +kernel
theorem dL_flip_10 : decode cL_flip 10 = .ok (.ireturn, 1) := by decide +kernel
theorem dL_flip_11 : decode cL_flip 11 = .ok (.iconst 0, 1) := by decide +kernel
theorem dL_flip_12 : decode cL_flip 12 = .ok (.ireturn, 1) := by decide +kernel
set_option maxRecDepth 20000 in
theorem ggL_law_X4_init : GoodIn wsL_law wsX4_init := goodIn_r _ [10, 11, 12, 13, 14, 15, 16, 17, 18, 19, 20, 21, 22, 23, 24, 25, 26, 27, 28, 29, 30, 31, 32, 33, 34, 35, 36, 37, 38, 39, 40, 41, 42, 43, 44, 45, 46, 47, 48, 49, 50, 51, 52, 53, 54, 55, 56, 57, 58, 59, 60, 61, 62, 63, 64, 65, 66, 67, 68, 69, 70, 71, 72, 73, 74, 75, 76, 77, 78, 79, 80, 81, 82, 83, 84, 85, 590, 591, 592, 593, 594, 595, 596, 632, 633, 634, 635, 636, 637, 638, 639, 640, 641, 642, 643, 644, 645, 646, 647, 648, 649, 650, 651, 652, 653, 654, 655, 656, 657, 658, 659, 660, 661, 662, 663, 664, 665, 666, 667] rfl (by decide +kernel)
set_option maxRecDepth 20000 in
theorem gL_law_X4_init : GoodIn wsL_law (wsX4_init) := ggL_law_X4_init
set_option maxRecDepth 20000 in
theorem ggL_law_X5_init : GoodIn wsL_law wsX5_init := goodIn_r _ [88, 89, 12, 13, 18, 90, 91, 92, 93, 94, 95, 96, 97, 98, 99, 6, 100, 101, 102, 103, 104, 105, 106, 107, 108, 109, 110, 111, 112, 113, 114, 115, 116, 117, 118, 119, 597, 598, 599, 600, 601, 602, 603, 604, 605, 606, 607, 608, 609, 610, 611, 612, 613, 614, 615, 616, 617, 618, 619, 620, 621, 622, 623, 624, 625, 626, 627, 628, 629, 630, 631] (by decide +kernel) (by decide +kernel)
set_option maxRecDepth 20000 in
theorem gL_law_X5_init : GoodIn wsL_law (wsX5_init) := ggL_law_X5_init
set_option maxRecDepth 20000 in
theorem ggL_law_L_want : GoodIn wsL_law wsL_want := goodIn_ca (goodIn_ca (goodIn_ca (goodIn_r _ [123, 124, 125, 126, 127, 128, 129, 2, 130, 131, 132, 133, 134, 135, 136, 15, 137, 138, 139, 140, 141, 142, 143, 30, 144, 77, 69, 145, 146, 147, 47, 148, 60, 61, 62, 63, 590, 591, 592, 593, 594, 595, 596, 649, 650, 651, 652, 653, 654, 655, 656, 657, 658, 659, 660, 661, 662, 663, 664, 665, 666, 667] (by decide +kernel) (by decide +kernel)) (goodIn_sub (fun _ h => List.mem_append_left _ (List.mem_append_left _ (List.mem_append_left _ (List.mem_append_right _ h)))) (by decide +kernel))) (goodIn_sub (fun _ h => List.mem_append_left _ (List.mem_append_left _ (List.mem_append_right _ h))) (by decide +kernel))) (goodIn_sub (fun _ h => List.mem_append_left _ (List.mem_append_right _ h)) (by decide +kernel))
set_option maxRecDepth 20000 in
theorem gL_law_L_want : GoodIn wsL_law (va_wsS RL 53 yL_want wsL_want) := goodIn_app (goodIn_of _ (by decide +kernel)) ggL_law_L_want
set_option maxRecDepth 20000 in
theorem ggL_law_X5_want : GoodIn wsL_law wsX5_want := goodIn_r _ [152, 153, 96, 154, 98, 99, 100, 101, 111, 155, 156, 157, 5, 158, 597, 598, 599, 600, 601, 602, 603, 604, 605, 606, 607, 608, 609, 610, 611, 612, 613, 614, 615, 616, 617, 618, 619, 620, 621, 622, 623, 624, 625, 626, 627, 628, 629, 630, 631] (by decide +kernel) (by decide +kernel)
set_option maxRecDepth 20000 in
theorem gL_law_X5_want : GoodIn wsL_law (wsV RL 58 RX5 yX5_want wsX5_want) := goodIn_app (goodIn_of _ (by decide +kernel)) ggL_law_X5_want
set_option maxRecDepth 20000 in
theorem ggL_law_X5_thrown : GoodIn wsL_law wsX5_thrown := goodIn_r _ [162, 154, 597, 598, 599, 600, 601, 602, 603, 604, 605, 606, 607, 608, 609, 610, 611, 612, 613, 614, 615, 616, 617, 618, 619, 620, 621, 622, 623, 624, 625, 626, 627, 628, 629, 630, 631] (by decide +kernel) (by decide +kernel)
set_option maxRecDepth 20000 in
theorem gL_law_X5_thrown : GoodIn wsL_law (wsV RL 59 RX5 yX5_thrown wsX5_thrown) := goodIn_app (goodIn_of _ (by decide +kernel)) ggL_law_X5_thrown
set_option maxRecDepth 20000 in
theorem ggL_law_L_step : GoodIn wsL_law wsL_step := goodIn_ca (goodIn_r _ [165, 125, 166, 167, 168, 2, 169, 133, 134, 170, 171, 172, 173, 16, 174, 175, 176, 177, 17, 178, 179, 180, 181, 182, 183, 184, 185, 186, 187, 188, 189, 15, 190, 191, 192, 30, 193, 75, 76, 84, 85, 72, 69, 74, 194, 195, 196, 197, 77, 198, 199, 200, 47, 201, 60, 61, 202, 203, 204, 205, 206, 23, 207, 208, 209, 38, 37, 210, 211, 212, 41, 213, 214, 215, 216, 36, 39, 40, 217, 218, 219, 220, 221, 222, 223, 224, 34, 35, 225, 226, 227, 228, 229, 27, 230, 48, 49, 50, 51, 52, 53, 54, 55, 56, 231, 146, 147, 148, 62, 63, 232, 233, 234, 235, 236, 237, 238, 239, 240, 241, 242, 243, 244, 245, 246, 247, 248, 249, 250, 251, 252, 253, 254, 255, 256, 257, 258, 259, 260, 83, 261, 262, 263, 264, 265, 266, 267, 268, 269, 270, 271, 272, 273, 274, 275, 276, 277, 278, 279, 280, 281, 282, 283, 284, 285, 286, 287, 288, 289, 290, 291, 292, 293, 294, 295, 296, 297, 298, 299, 300, 301, 302, 303, 304, 305, 306, 307, 308, 309, 310, 311, 312, 82, 78, 79, 313, 314, 315, 316, 317, 318, 319, 320, 321, 322, 323, 324, 325, 326, 80, 327, 328, 329, 330, 331, 332, 333, 334, 335, 336, 337, 338, 339, 340, 341, 81, 342, 70, 343, 344, 345, 346, 145, 590, 591, 592, 593, 594, 595, 596, 649, 650, 651, 652, 653, 654, 655, 656, 657, 658, 659, 660, 661, 662, 663, 664, 665, 666, 667, 632, 633, 634, 635, 636, 637, 638, 639, 640, 641, 642, 643, 644, 645, 646, 647, 648] rfl (by decide +kernel)) (goodIn_sub (fun _ h => List.mem_append_left _ (List.mem_append_left _ (List.mem_append_right _ h))) (by decide +kernel))
set_option maxRecDepth 20000 in
theorem gL_law_L_step : GoodIn wsL_law (va_wsS RL 63 yL_step wsL_step) := goodIn_app (goodIn_of _ (by decide +kernel)) ggL_law_L_step
set_option maxRecDepth 20000 in
theorem ggL_law_X5_step : GoodIn wsL_law wsX5_step := goodIn_r _ [350, 154, 351, 352, 353, 5, 354, 355, 356, 357, 358, 359, 360, 90, 95, 361, 362, 363, 364, 110, 111, 109, 365, 366, 367, 368, 96, 369, 370, 371, 372, 98, 99, 373, 374, 375, 376, 377, 378, 379, 380, 101, 100, 381, 119, 108, 382, 383, 384, 385, 386, 387, 388, 389, 390, 391, 392, 106, 107, 393, 394, 395, 396, 113, 114, 115, 116, 117, 397, 398, 399, 400, 401, 402, 403, 404, 405, 406, 407, 408, 112, 409, 410, 411, 412, 413, 414, 415, 416, 417, 418, 419, 420, 421, 422, 423, 424, 425, 426, 427, 428, 429, 430, 431, 432, 433, 434, 435, 436, 437, 438, 439, 440, 441, 442, 443, 444, 445, 446, 447, 448, 91, 92, 449, 450, 451, 452, 93, 453, 454, 455, 456, 457, 458, 459, 460, 102, 103, 105, 104, 94, 597, 598, 599, 600, 601, 602, 603, 604, 605, 606, 607, 608, 609, 610, 611, 612, 613, 614, 615, 616, 617, 618, 619, 620, 621, 622, 623, 624, 625, 626, 627, 628, 629, 630, 631] rfl (by decide +kernel)
set_option maxRecDepth 20000 in
theorem gL_law_X5_step : GoodIn wsL_law (wsV RL 66 RX5 yX5_step wsX5_step) := goodIn_app (goodIn_of _ (by decide +kernel)) ggL_law_X5_step
set_option maxRecDepth 20000 in
theorem ggL_law_L_join : GoodIn wsL_law wsL_join := goodIn_ca (goodIn_r _ [463, 124, 464, 465, 466, 2, 467, 131, 132, 15, 468, 138, 139, 140, 469, 470, 471, 30, 472, 75, 78, 79, 590, 591, 592, 593, 594, 595, 596, 649, 650, 651, 652, 653, 654, 655, 656, 657, 658, 659, 660, 661, 662, 663] (by decide +kernel) (by decide +kernel)) (goodIn_sub (fun _ h => List.mem_append_left _ (List.mem_append_left _ (List.mem_append_left _ (List.mem_append_right _ h)))) (by decide +kernel))
set_option maxRecDepth 20000 in
theorem gL_law_L_join : GoodIn wsL_law (va_wsS RL 67 yL_join wsL_join) := goodIn_app (goodIn_of _ (by decide +kernel)) ggL_law_L_join
set_option maxRecDepth 20000 in
theorem ggL_law_X5_join : GoodIn wsL_law wsX5_join := goodIn_r _ [476, 154, 90, 91, 92, 156, 157, 5, 158, 597, 598, 599, 600, 601, 602, 603, 604, 605, 606, 607, 608, 609, 610, 611, 612, 613, 614, 615, 616, 617, 618, 619, 620, 621, 622, 623, 624, 625, 626, 627, 628, 629, 630, 631] (by decide +kernel) (by decide +kernel)
set_option maxRecDepth 20000 in
theorem gL_law_X5_join : GoodIn wsL_law (wsV RL 70 RX5 yX5_join wsX5_join) := goodIn_app (goodIn_of _ (by decide +kernel)) ggL_law_X5_join
set_option maxRecDepth 20000 in
theorem ggL_law_X4_wire : GoodIn wsL_law wsX4_wire := goodIn_r _ [480, 16, 590, 591, 592, 593, 594, 595, 596] (by decide +kernel) (by decide +kernel)
set_option maxRecDepth 20000 in
theorem gL_law_X4_wire : GoodIn wsL_law (wsV RL 71 RX4 yX4_wire wsX4_wire) := goodIn_app (goodIn_of _ (by decide +kernel)) ggL_law_X4_wire
set_option maxRecDepth 20000 in
theorem ggL_law_X5_wire : GoodIn wsL_law wsX5_wire := goodIn_r _ [484, 154, 355, 597, 598, 599, 600, 601, 602, 603, 604, 605, 606, 607, 608, 609, 610, 611, 612, 613, 614, 615, 616, 617, 618, 619, 620, 621, 622, 623, 624, 625, 626, 627, 628, 629, 630, 631] (by decide +kernel) (by decide +kernel)
set_option maxRecDepth 20000 in
theorem gL_law_X5_wire : GoodIn wsL_law (wsV RL 74 RX5 yX5_wire wsX5_wire) := goodIn_app (goodIn_of _ (by decide +kernel)) ggL_law_X5_wire
set_option maxRecDepth 20000 in
theorem ggL_law_L_node : GoodIn wsL_law wsL_node := goodIn_ca (goodIn_r _ [487, 124, 488, 489, 490, 2, 491, 131, 132, 15, 468, 317, 492, 493, 137, 494, 495, 496, 138, 139, 140, 590, 591, 592, 593, 594, 595, 596, 649, 650, 651, 652, 653, 654, 655, 656, 657, 658, 659, 660, 661, 662, 663] (by decide +kernel) (by decide +kernel)) (goodIn_sub (fun _ h => List.mem_append_left _ (List.mem_append_left _ (List.mem_append_left _ (List.mem_append_right _ h)))) (by decide +kernel))
set_option maxRecDepth 20000 in
theorem gL_law_L_node : GoodIn wsL_law (va_wsS RL 75 yL_node wsL_node) := goodIn_app (goodIn_of _ (by decide +kernel)) ggL_law_L_node
set_option maxRecDepth 20000 in
theorem ggL_law_X5_node : GoodIn wsL_law wsX5_node := goodIn_r _ [500, 154, 90, 91, 92, 96, 93, 94, 95, 156, 157, 5, 158, 597, 598, 599, 600, 601, 602, 603, 604, 605, 606, 607, 608, 609, 610, 611, 612, 613, 614, 615, 616, 617, 618, 619, 620, 621, 622, 623, 624, 625, 626, 627, 628, 629, 630, 631] (by decide +kernel) (by decide +kernel)
set_option maxRecDepth 20000 in
theorem gL_law_X5_node : GoodIn wsL_law (wsV RL 77 RX5 yX5_node wsX5_node) := goodIn_app (goodIn_of _ (by decide +kernel)) ggL_law_X5_node
set_option maxRecDepth 20000 in
theorem ggL_law_L_received : GoodIn wsL_law wsL_received := goodIn_ca (goodIn_ca (goodIn_r _ [503, 124, 504, 505, 506, 507, 2, 508, 131, 132, 509, 510, 15, 495, 511, 512, 513, 514, 515, 138, 139, 140, 590, 591, 592, 593, 594, 595, 596, 649, 650, 651, 652, 653, 654, 655, 656, 657, 658, 659, 660, 661, 662, 663, 664, 665, 666, 667] (by decide +kernel) (by decide +kernel)) (goodIn_sub (fun _ h => List.mem_append_left _ (List.mem_append_left _ (List.mem_append_left _ (List.mem_append_right _ h)))) (by decide +kernel))) (goodIn_sub (fun _ h => List.mem_append_right _ h) (by decide +kernel))
set_option maxRecDepth 20000 in
theorem gL_law_L_received : GoodIn wsL_law (va_wsS RL 78 yL_received wsL_received) := goodIn_app (goodIn_of _ (by decide +kernel)) ggL_law_L_received
set_option maxRecDepth 20000 in
theorem ggL_law_X5_received : GoodIn wsL_law wsX5_received := goodIn_r _ [519, 94, 154, 103, 102, 105, 104, 156, 157, 5, 158, 597, 598, 599, 600, 601, 602, 603, 604, 605, 606, 607, 608, 609, 610, 611, 612, 613, 614, 615, 616, 617, 618, 619, 620, 621, 622, 623, 624, 625, 626, 627, 628, 629, 630, 631] (by decide +kernel) (by decide +kernel)
set_option maxRecDepth 20000 in
theorem gL_law_X5_received : GoodIn wsL_law (wsV RL 80 RX5 yX5_received wsX5_received) := goodIn_app (goodIn_of _ (by decide +kernel)) ggL_law_X5_received
set_option maxRecDepth 20000 in
theorem ggL_law_L_tape : GoodIn wsL_law wsL_tape := goodIn_ca (goodIn_ca (goodIn_r _ [522, 124, 504, 523, 524, 525, 2, 526, 131, 132, 509, 510, 15, 24, 527, 528, 20, 19, 138, 139, 140, 529, 195, 196, 30, 197, 77, 69, 198, 199, 200, 47, 201, 60, 61, 202, 203, 530, 205, 206, 23, 207, 208, 209, 38, 37, 210, 211, 212, 41, 213, 214, 215, 216, 36, 39, 40, 217, 218, 219, 220, 221, 222, 223, 224, 34, 35, 225, 226, 531, 241, 242, 243, 590, 591, 592, 593, 594, 595, 596, 649, 650, 651, 652, 653, 654, 655, 656, 657, 658, 659, 660, 661, 662, 663, 632, 633, 634, 635, 636, 637, 638, 639, 664, 665, 666, 667] rfl (by decide +kernel)) (goodIn_sub (fun _ h => List.mem_append_left _ (List.mem_append_left _ (List.mem_append_left _ (List.mem_append_right _ h)))) (by decide +kernel))) (goodIn_sub (fun _ h => List.mem_append_right _ h) (by decide +kernel))
set_option maxRecDepth 20000 in
theorem gL_law_L_tape : GoodIn wsL_law (va_wsS RL 81 yL_tape wsL_tape) := goodIn_app (goodIn_of _ (by decide +kernel)) ggL_law_L_tape
set_option maxRecDepth 20000 in
theorem ggL_law_X5_tape : GoodIn wsL_law wsX5_tape := goodIn_r _ [535, 154, 108, 536, 118, 106, 156, 157, 5, 158, 365, 366, 367, 368, 96, 369, 370, 371, 372, 98, 99, 373, 374, 375, 376, 377, 378, 379, 380, 101, 100, 381, 119, 382, 383, 384, 385, 386, 387, 388, 389, 390, 391, 392, 107, 597, 598, 599, 600, 601, 602, 603, 604, 605, 606, 607, 608, 609, 610, 611, 612, 613, 614, 615, 616, 617, 618, 619, 620, 621, 622, 623, 624, 625, 626, 627, 628, 629, 630, 631] rfl (by decide +kernel)
set_option maxRecDepth 20000 in
theorem gL_law_X5_tape : GoodIn wsL_law (wsV RL 83 RX5 yX5_tape wsX5_tape) := goodIn_app (goodIn_of _ (by decide +kernel)) ggL_law_X5_tape
set_option maxRecDepth 20000 in
theorem ggL_law_X4_put : GoodIn wsL_law wsX4_put := goodIn_r _ [540, 20, 19, 590, 591, 592, 593, 594, 595, 596] (by decide +kernel) (by decide +kernel)
set_option maxRecDepth 20000 in
theorem gL_law_X4_put : GoodIn wsL_law (wsV RL 84 RX4 yX4_put wsX4_put) := goodIn_app (goodIn_of _ (by decide +kernel)) ggL_law_X4_put
set_option maxRecDepth 20000 in
theorem ggL_law_X5_put : GoodIn wsL_law wsX5_put := goodIn_r _ [544, 154, 536, 118, 597, 598, 599, 600, 601, 602, 603, 604, 605, 606, 607, 608, 609, 610, 611, 612, 613, 614, 615, 616, 617, 618, 619, 620, 621, 622, 623, 624, 625, 626, 627, 628, 629, 630, 631] (by decide +kernel) (by decide +kernel)
set_option maxRecDepth 20000 in
theorem gL_law_X5_put : GoodIn wsL_law (wsV RL 88 RX5 yX5_put wsX5_put) := goodIn_app (goodIn_of _ (by decide +kernel)) ggL_law_X5_put
set_option maxRecDepth 20000 in
theorem ggL_law_L_bit : GoodIn wsL_law wsL_bit := goodIn_ca (goodIn_r _ [547, 124, 548, 549, 550, 2, 551, 131, 132, 19, 552, 553, 554, 555, 20, 590, 591, 592, 593, 594, 595, 596] (by decide +kernel) (by decide +kernel)) (goodIn_sub (fun _ h => List.mem_append_left _ (List.mem_append_left _ (List.mem_append_left _ (List.mem_append_right _ h)))) (by decide +kernel))
set_option maxRecDepth 20000 in
theorem gL_law_L_bit : GoodIn wsL_law (va_wsS RL 89 yL_bit wsL_bit) := goodIn_app (goodIn_of _ (by decide +kernel)) ggL_law_L_bit
set_option maxRecDepth 20000 in
theorem ggL_law_X5_bit : GoodIn wsL_law wsX5_bit := goodIn_r _ [559, 536, 154, 118, 597, 598, 599, 600, 601, 602, 603, 604, 605, 606, 607, 608, 609, 610, 611, 612, 613, 614, 615, 616, 617, 618, 619, 620, 621, 622, 623, 624, 625, 626, 627, 628, 629, 630, 631] (by decide +kernel) (by decide +kernel)
set_option maxRecDepth 20000 in
theorem gL_law_X5_bit : GoodIn wsL_law (wsV RL 91 RX5 yX5_bit wsX5_bit) := goodIn_app (goodIn_of _ (by decide +kernel)) ggL_law_X5_bit
set_option maxRecDepth 20000 in
theorem ggL_law_L_flip : GoodIn wsL_law wsL_flip := goodIn_ca (goodIn_r _ [562, 124, 563, 564, 565, 2, 566, 131, 132, 19, 552, 553, 554, 555, 20, 590, 591, 592, 593, 594, 595, 596] (by decide +kernel) (by decide +kernel)) (goodIn_sub (fun _ h => List.mem_append_left _ (List.mem_append_left _ (List.mem_append_left _ (List.mem_append_right _ h)))) (by decide +kernel))
set_option maxRecDepth 20000 in
theorem gL_law_L_flip : GoodIn wsL_law (va_wsS RL 92 yL_flip wsL_flip) := goodIn_app (goodIn_of _ (by decide +kernel)) ggL_law_L_flip
set_option maxRecDepth 20000 in
theorem ggL_law_X5_flip : GoodIn wsL_law wsX5_flip := goodIn_r _ [570, 536, 154, 118, 597, 598, 599, 600, 601, 602, 603, 604, 605, 606, 607, 608, 609, 610, 611, 612, 613, 614, 615, 616, 617, 618, 619, 620, 621, 622, 623, 624, 625, 626, 627, 628, 629, 630, 631] (by decide +kernel) (by decide +kernel)
set_option maxRecDepth 20000 in
theorem gL_law_X5_flip : GoodIn wsL_law (wsV RL 95 RX5 yX5_flip wsX5_flip) := goodIn_app (goodIn_of _ (by decide +kernel)) ggL_law_X5_flip
set_option maxRecDepth 20000 in
theorem ggL_law_X4_wipe : GoodIn wsL_law wsX4_wipe := goodIn_r _ [574, 20, 590, 591, 592, 593, 594, 595, 596] (by decide +kernel) (by decide +kernel)
set_option maxRecDepth 20000 in
theorem gL_law_X4_wipe : GoodIn wsL_law (wsV RL 96 RX4 yX4_wipe wsX4_wipe) := goodIn_app (goodIn_of _ (by decide +kernel)) ggL_law_X4_wipe
set_option maxRecDepth 20000 in
theorem ggL_law_X5_wipe : GoodIn wsL_law wsX5_wipe := goodIn_r _ [578, 154, 536, 597, 598, 599, 600, 601, 602, 603, 604, 605, 606, 607, 608, 609, 610, 611, 612, 613, 614, 615, 616, 617, 618, 619, 620, 621, 622, 623, 624, 625, 626, 627, 628, 629, 630, 631] (by decide +kernel) (by decide +kernel)
set_option maxRecDepth 20000 in
theorem gL_law_X5_wipe : GoodIn wsL_law (wsV RL 99 RX5 yX5_wipe wsX5_wipe) := goodIn_app (goodIn_of _ (by decide +kernel)) ggL_law_X5_wipe
set_option maxRecDepth 20000 in
theorem ggL_law_X4_read : GoodIn wsL_law wsX4_read := goodIn_r _ [582, 28, 20, 19, 583, 228, 229, 27, 230, 48, 49, 50, 51, 52, 53, 54, 55, 56, 231, 146, 147, 47, 148, 60, 61, 62, 63, 584, 335, 336, 337, 585, 274, 275, 276, 248, 249, 250, 251, 277, 278, 279, 280, 281, 282, 283, 284, 225, 2, 226, 285, 286, 287, 288, 289, 290, 291, 292, 293, 294, 295, 296, 297, 298, 299, 300, 301, 302, 303, 304, 590, 591, 592, 593, 594, 595, 596, 640, 641, 642, 643, 644, 645, 646, 647, 648, 664, 665, 666, 667] rfl (by decide +kernel)
set_option maxRecDepth 20000 in
theorem gL_law_X4_read : GoodIn wsL_law (wsV RL 100 RX4 yX4_read wsX4_read) := goodIn_app (goodIn_of _ (by decide +kernel)) ggL_law_X4_read
set_option maxRecDepth 20000 in
theorem ggL_law_X5_read : GoodIn wsL_law wsX5_read := goodIn_r _ [589, 154, 536, 118, 393, 394, 395, 5, 396, 113, 114, 115, 116, 117, 421, 422, 423, 424, 112, 425, 426, 427, 428, 405, 406, 407, 408, 386, 387, 388, 409, 410, 411, 412, 429, 430, 431, 432, 433, 434, 435, 436, 597, 598, 599, 600, 601, 602, 603, 604, 605, 606, 607, 608, 609, 610, 611, 612, 613, 614, 615, 616, 617, 618, 619, 620, 621, 622, 623, 624, 625, 626, 627, 628, 629, 630, 631] rfl (by decide +kernel)
set_option maxRecDepth 20000 in
theorem gL_law_X5_read : GoodIn wsL_law (wsV RL 103 RX5 yX5_read wsX5_read) := goodIn_app (goodIn_of _ (by decide +kernel)) ggL_law_X5_read
theorem dL_law_0 : decode cL_law 0 = .ok (.new 8, 3) := by decide +kernel
theorem dL_law_3 : decode cL_law 3 = .ok (.dup, 1) := by decide +kernel
theorem dL_law_4 : decode cL_law 4 = .ok (.invokespecial 47, 3) := by decide +kernel
theorem dL_law_7 : decode cL_law 7 = .ok (.astore_n 1, 1) := by decide +kernel
theorem dL_law_8 : decode cL_law 8 = .ok (.new 48, 3) := by decide +kernel
theorem dL_law_11 : decode cL_law 11 = .ok (.dup, 1) := by decide +kernel
theorem dL_law_12 : decode cL_law 12 = .ok (.invokespecial 50, 3) := by decide +kernel
theorem dL_law_15 : decode cL_law 15 = .ok (.astore_n 2, 1) := by decide +kernel
theorem dL_law_16 : decode cL_law 16 = .ok (.iconst 1, 1) := by decide +kernel
theorem dL_law_17 : decode cL_law 17 = .ok (.newarray .long, 2) := by decide +kernel
theorem dL_law_19 : decode cL_law 19 = .ok (.astore_n 3, 1) := by decide +kernel
theorem dL_law_20 : decode cL_law 20 = .ok (.iconst 0, 1) := by decide +kernel
theorem dL_law_21 : decode cL_law 21 = .ok (.istore 4, 2) := by decide +kernel
theorem dL_law_23 : decode cL_law 23 = .ok (.iload 4, 2) := by decide +kernel
theorem dL_law_25 : decode cL_law 25 = .ok (.aload_n 0, 1) := by decide +kernel
theorem dL_law_26 : decode cL_law 26 = .ok (.arraylength, 1) := by decide +kernel
theorem dL_law_27 : decode cL_law 27 = .ok (.bipush 7, 2) := by decide +kernel
theorem dL_law_29 : decode cL_law 29 = .ok (.isub, 1) := by decide +kernel
theorem dL_law_30 : decode cL_law 30 = .ok (.if_icmp .gt 756, 3) := by decide +kernel
theorem dL_law_33 : decode cL_law 33 = .ok (.aload_n 0, 1) := by decide +kernel
theorem dL_law_34 : decode cL_law 34 = .ok (.iload 4, 2) := by decide +kernel
theorem dL_law_36 : decode cL_law 36 = .ok (.iaload, 1) := by decide +kernel
theorem dL_law_37 : decode cL_law 37 = .ok (.bipush 15, 2) := by decide +kernel
theorem dL_law_39 : decode cL_law 39 = .ok (.iand, 1) := by decide +kernel
theorem dL_law_40 : decode cL_law 40 = .ok (.tableswitch 740 0 11 #[64, 218, 286, 349, 362, 430, 497, 553, 622, 678, 714, 727], 64) := by decide +kernel
theorem dL_law_104 : decode cL_law 104 = .ok (.aload_n 1, 1) := by decide +kernel
theorem dL_law_105 : decode cL_law 105 = .ok (.aload_n 0, 1) := by decide +kernel
theorem dL_law_106 : decode cL_law 106 = .ok (.iload 4, 2) := by decide +kernel
theorem dL_law_108 : decode cL_law 108 = .ok (.iconst 1, 1) := by decide +kernel
theorem dL_law_109 : decode cL_law 109 = .ok (.iadd, 1) := by decide +kernel
theorem dL_law_110 : decode cL_law 110 = .ok (.iaload, 1) := by decide +kernel
theorem dL_law_111 : decode cL_law 111 = .ok (.aload_n 0, 1) := by decide +kernel
theorem dL_law_112 : decode cL_law 112 = .ok (.iload 4, 2) := by decide +kernel
theorem dL_law_114 : decode cL_law 114 = .ok (.iconst 2, 1) := by decide +kernel
theorem dL_law_115 : decode cL_law 115 = .ok (.iadd, 1) := by decide +kernel
theorem dL_law_116 : decode cL_law 116 = .ok (.iaload, 1) := by decide +kernel
theorem dL_law_117 : decode cL_law 117 = .ok (.ifCond .eq 7, 3) := by decide +kernel
theorem dL_law_120 : decode cL_law 120 = .ok (.iconst 1, 1) := by decide +kernel
theorem dL_law_121 : decode cL_law 121 = .ok (.goto 4, 3) := by decide +kernel
theorem dL_law_124 : decode cL_law 124 = .ok (.iconst 0, 1) := by decide +kernel
theorem dL_law_125 : decode cL_law 125 = .ok (.aload_n 0, 1) := by decide +kernel
theorem dL_law_126 : decode cL_law 126 = .ok (.iload 4, 2) := by decide +kernel
theorem dL_law_128 : decode cL_law 128 = .ok (.iconst 3, 1) := by decide +kernel
theorem dL_law_129 : decode cL_law 129 = .ok (.iadd, 1) := by decide +kernel
theorem dL_law_130 : decode cL_law 130 = .ok (.iaload, 1) := by decide +kernel
theorem dL_law_131 : decode cL_law 131 = .ok (.aload_n 0, 1) := by decide +kernel
theorem dL_law_132 : decode cL_law 132 = .ok (.iload 4, 2) := by decide +kernel
theorem dL_law_134 : decode cL_law 134 = .ok (.iconst 4, 1) := by decide +kernel
theorem dL_law_135 : decode cL_law 135 = .ok (.iadd, 1) := by decide +kernel
theorem dL_law_136 : decode cL_law 136 = .ok (.iaload, 1) := by decide +kernel
theorem dL_law_137 : decode cL_law 137 = .ok (.i2l, 1) := by decide +kernel
theorem dL_law_138 : decode cL_law 138 = .ok (.bipush 32, 2) := by decide +kernel
theorem dL_law_140 : decode cL_law 140 = .ok (.lshl, 1) := by decide +kernel
theorem dL_law_141 : decode cL_law 141 = .ok (.aload_n 0, 1) := by decide +kernel
theorem dL_law_142 : decode cL_law 142 = .ok (.iload 4, 2) := by decide +kernel
theorem dL_law_144 : decode cL_law 144 = .ok (.iconst 5, 1) := by decide +kernel
theorem dL_law_145 : decode cL_law 145 = .ok (.iadd, 1) := by decide +kernel
theorem dL_law_146 : decode cL_law 146 = .ok (.iaload, 1) := by decide +kernel
theorem dL_law_147 : decode cL_law 147 = .ok (.i2l, 1) := by decide +kernel
theorem dL_law_148 : decode cL_law 148 = .ok (.ldc2_w 51, 3) := by decide +kernel
theorem dL_law_151 : decode cL_law 151 = .ok (.land, 1) := by decide +kernel
theorem dL_law_152 : decode cL_law 152 = .ok (.lor, 1) := by decide +kernel
theorem dL_law_153 : decode cL_law 153 = .ok (.aload_n 0, 1) := by decide +kernel
theorem dL_law_154 : decode cL_law 154 = .ok (.iload 4, 2) := by decide +kernel
theorem dL_law_156 : decode cL_law 156 = .ok (.bipush 6, 2) := by decide +kernel
theorem dL_law_158 : decode cL_law 158 = .ok (.iadd, 1) := by decide +kernel
theorem dL_law_159 : decode cL_law 159 = .ok (.iaload, 1) := by decide +kernel
theorem dL_law_160 : decode cL_law 160 = .ok (.aload_n 3, 1) := by decide +kernel
theorem dL_law_161 : decode cL_law 161 = .ok (.invokestatic 53, 3) := by decide +kernel
theorem dL_law_164 : decode cL_law 164 = .ok (.istore 5, 2) := by decide +kernel
theorem dL_law_166 : decode cL_law 166 = .ok (.aload_n 2, 1) := by decide +kernel
theorem dL_law_167 : decode cL_law 167 = .ok (.aload_n 0, 1) := by decide +kernel
theorem dL_law_168 : decode cL_law 168 = .ok (.iload 4, 2) := by decide +kernel
theorem dL_law_170 : decode cL_law 170 = .ok (.iconst 1, 1) := by decide +kernel
theorem dL_law_171 : decode cL_law 171 = .ok (.iadd, 1) := by decide +kernel
theorem dL_law_172 : decode cL_law 172 = .ok (.iaload, 1) := by decide +kernel
theorem dL_law_173 : decode cL_law 173 = .ok (.aload_n 0, 1) := by decide +kernel
theorem dL_law_174 : decode cL_law 174 = .ok (.iload 4, 2) := by decide +kernel
theorem dL_law_176 : decode cL_law 176 = .ok (.iconst 2, 1) := by decide +kernel
theorem dL_law_177 : decode cL_law 177 = .ok (.iadd, 1) := by decide +kernel
theorem dL_law_178 : decode cL_law 178 = .ok (.iaload, 1) := by decide +kernel
theorem dL_law_179 : decode cL_law 179 = .ok (.ifCond .eq 7, 3) := by decide +kernel
theorem dL_law_182 : decode cL_law 182 = .ok (.iconst 1, 1) := by decide +kernel
theorem dL_law_183 : decode cL_law 183 = .ok (.goto 4, 3) := by decide +kernel
theorem dL_law_186 : decode cL_law 186 = .ok (.iconst 0, 1) := by decide +kernel
theorem dL_law_187 : decode cL_law 187 = .ok (.aload_n 0, 1) := by decide +kernel
theorem dL_law_188 : decode cL_law 188 = .ok (.iload 4, 2) := by decide +kernel
theorem dL_law_190 : decode cL_law 190 = .ok (.iconst 3, 1) := by decide +kernel
theorem dL_law_191 : decode cL_law 191 = .ok (.iadd, 1) := by decide +kernel
theorem dL_law_192 : decode cL_law 192 = .ok (.iaload, 1) := by decide +kernel
theorem dL_law_193 : decode cL_law 193 = .ok (.aload_n 0, 1) := by decide +kernel
theorem dL_law_194 : decode cL_law 194 = .ok (.iload 4, 2) := by decide +kernel
theorem dL_law_196 : decode cL_law 196 = .ok (.iconst 4, 1) := by decide +kernel
theorem dL_law_197 : decode cL_law 197 = .ok (.iadd, 1) := by decide +kernel
theorem dL_law_198 : decode cL_law 198 = .ok (.iaload, 1) := by decide +kernel
theorem dL_law_199 : decode cL_law 199 = .ok (.i2l, 1) := by decide +kernel
theorem dL_law_200 : decode cL_law 200 = .ok (.bipush 32, 2) := by decide +kernel
theorem dL_law_202 : decode cL_law 202 = .ok (.lshl, 1) := by decide +kernel
theorem dL_law_203 : decode cL_law 203 = .ok (.aload_n 0, 1) := by decide +kernel
theorem dL_law_204 : decode cL_law 204 = .ok (.iload 4, 2) := by decide +kernel
theorem dL_law_206 : decode cL_law 206 = .ok (.iconst 5, 1) := by decide +kernel
theorem dL_law_207 : decode cL_law 207 = .ok (.iadd, 1) := by decide +kernel
theorem dL_law_208 : decode cL_law 208 = .ok (.iaload, 1) := by decide +kernel
theorem dL_law_209 : decode cL_law 209 = .ok (.i2l, 1) := by decide +kernel
theorem dL_law_210 : decode cL_law 210 = .ok (.ldc2_w 51, 3) := by decide +kernel
theorem dL_law_213 : decode cL_law 213 = .ok (.land, 1) := by decide +kernel
theorem dL_law_214 : decode cL_law 214 = .ok (.lor, 1) := by decide +kernel
theorem dL_law_215 : decode cL_law 215 = .ok (.aload_n 0, 1) := by decide +kernel
theorem dL_law_216 : decode cL_law 216 = .ok (.iload 4, 2) := by decide +kernel
theorem dL_law_218 : decode cL_law 218 = .ok (.bipush 6, 2) := by decide +kernel
theorem dL_law_220 : decode cL_law 220 = .ok (.iadd, 1) := by decide +kernel
theorem dL_law_221 : decode cL_law 221 = .ok (.iaload, 1) := by decide +kernel
theorem dL_law_222 : decode cL_law 222 = .ok (.invokevirtual 58, 3) := by decide +kernel
theorem dL_law_225 : decode cL_law 225 = .ok (.istore 6, 2) := by decide +kernel
theorem dL_law_227 : decode cL_law 227 = .ok (.aload_n 2, 1) := by decide +kernel
theorem dL_law_228 : decode cL_law 228 = .ok (.invokevirtual 59, 3) := by decide +kernel
theorem dL_law_231 : decode cL_law 231 = .ok (.iload 5, 2) := by decide +kernel
theorem dL_law_233 : decode cL_law 233 = .ok (.if_icmp .eq 5, 3) := by decide +kernel
theorem dL_law_236 : decode cL_law 236 = .ok (.iconst 0, 1) := by decide +kernel
theorem dL_law_237 : decode cL_law 237 = .ok (.ireturn, 1) := by decide +kernel
theorem dL_law_238 : decode cL_law 238 = .ok (.iload 5, 2) := by decide +kernel
theorem dL_law_240 : decode cL_law 240 = .ok (.ifCond .ne 15, 3) := by decide +kernel
theorem dL_law_243 : decode cL_law 243 = .ok (.aload_n 3, 1) := by decide +kernel
theorem dL_law_244 : decode cL_law 244 = .ok (.iconst 0, 1) := by decide +kernel
theorem dL_law_245 : decode cL_law 245 = .ok (.laload, 1) := by decide +kernel
theorem dL_law_246 : decode cL_law 246 = .ok (.iload 6, 2) := by decide +kernel
theorem dL_law_248 : decode cL_law 248 = .ok (.i2l, 1) := by decide +kernel
theorem dL_law_249 : decode cL_law 249 = .ok (.lcmp, 1) := by decide +kernel
theorem dL_law_250 : decode cL_law 250 = .ok (.ifCond .eq 5, 3) := by decide +kernel
theorem dL_law_253 : decode cL_law 253 = .ok (.iconst 0, 1) := by decide +kernel
theorem dL_law_254 : decode cL_law 254 = .ok (.ireturn, 1) := by decide +kernel
theorem dL_law_255 : decode cL_law 255 = .ok (.goto 525, 3) := by decide +kernel
theorem dL_law_258 : decode cL_law 258 = .ok (.aload_n 1, 1) := by decide +kernel
theorem dL_law_259 : decode cL_law 259 = .ok (.aload_n 0, 1) := by decide +kernel
theorem dL_law_260 : decode cL_law 260 = .ok (.iload 4, 2) := by decide +kernel
theorem dL_law_262 : decode cL_law 262 = .ok (.iconst 1, 1) := by decide +kernel
theorem dL_law_263 : decode cL_law 263 = .ok (.iadd, 1) := by decide +kernel
theorem dL_law_264 : decode cL_law 264 = .ok (.iaload, 1) := by decide +kernel
theorem dL_law_265 : decode cL_law 265 = .ok (.aload_n 0, 1) := by decide +kernel
theorem dL_law_266 : decode cL_law 266 = .ok (.iload 4, 2) := by decide +kernel
theorem dL_law_268 : decode cL_law 268 = .ok (.iconst 2, 1) := by decide +kernel
theorem dL_law_269 : decode cL_law 269 = .ok (.iadd, 1) := by decide +kernel
theorem dL_law_270 : decode cL_law 270 = .ok (.iaload, 1) := by decide +kernel
theorem dL_law_271 : decode cL_law 271 = .ok (.aload_n 3, 1) := by decide +kernel
theorem dL_law_272 : decode cL_law 272 = .ok (.invokestatic 63, 3) := by decide +kernel
theorem dL_law_275 : decode cL_law 275 = .ok (.istore 5, 2) := by decide +kernel
theorem dL_law_277 : decode cL_law 277 = .ok (.aload_n 2, 1) := by decide +kernel
theorem dL_law_278 : decode cL_law 278 = .ok (.aload_n 0, 1) := by decide +kernel
theorem dL_law_279 : decode cL_law 279 = .ok (.iload 4, 2) := by decide +kernel
theorem dL_law_281 : decode cL_law 281 = .ok (.iconst 1, 1) := by decide +kernel
theorem dL_law_282 : decode cL_law 282 = .ok (.iadd, 1) := by decide +kernel
theorem dL_law_283 : decode cL_law 283 = .ok (.iaload, 1) := by decide +kernel
theorem dL_law_284 : decode cL_law 284 = .ok (.aload_n 0, 1) := by decide +kernel
theorem dL_law_285 : decode cL_law 285 = .ok (.iload 4, 2) := by decide +kernel
theorem dL_law_287 : decode cL_law 287 = .ok (.iconst 2, 1) := by decide +kernel
theorem dL_law_288 : decode cL_law 288 = .ok (.iadd, 1) := by decide +kernel
theorem dL_law_289 : decode cL_law 289 = .ok (.iaload, 1) := by decide +kernel
theorem dL_law_290 : decode cL_law 290 = .ok (.invokevirtual 66, 3) := by decide +kernel
theorem dL_law_293 : decode cL_law 293 = .ok (.istore 6, 2) := by decide +kernel
theorem dL_law_295 : decode cL_law 295 = .ok (.aload_n 2, 1) := by decide +kernel
theorem dL_law_296 : decode cL_law 296 = .ok (.invokevirtual 59, 3) := by decide +kernel
theorem dL_law_299 : decode cL_law 299 = .ok (.iload 5, 2) := by decide +kernel
theorem dL_law_301 : decode cL_law 301 = .ok (.if_icmp .eq 5, 3) := by decide +kernel
theorem dL_law_304 : decode cL_law 304 = .ok (.iconst 0, 1) := by decide +kernel
theorem dL_law_305 : decode cL_law 305 = .ok (.ireturn, 1) := by decide +kernel
theorem dL_law_306 : decode cL_law 306 = .ok (.iload 5, 2) := by decide +kernel
theorem dL_law_308 : decode cL_law 308 = .ok (.ifCond .ne 15, 3) := by decide +kernel
theorem dL_law_311 : decode cL_law 311 = .ok (.aload_n 3, 1) := by decide +kernel
theorem dL_law_312 : decode cL_law 312 = .ok (.iconst 0, 1) := by decide +kernel
theorem dL_law_313 : decode cL_law 313 = .ok (.laload, 1) := by decide +kernel
theorem dL_law_314 : decode cL_law 314 = .ok (.iload 6, 2) := by decide +kernel
theorem dL_law_316 : decode cL_law 316 = .ok (.i2l, 1) := by decide +kernel
theorem dL_law_317 : decode cL_law 317 = .ok (.lcmp, 1) := by decide +kernel
theorem dL_law_318 : decode cL_law 318 = .ok (.ifCond .eq 5, 3) := by decide +kernel
theorem dL_law_321 : decode cL_law 321 = .ok (.iconst 0, 1) := by decide +kernel
theorem dL_law_322 : decode cL_law 322 = .ok (.ireturn, 1) := by decide +kernel
theorem dL_law_323 : decode cL_law 323 = .ok (.goto 457, 3) := by decide +kernel
theorem dL_law_326 : decode cL_law 326 = .ok (.aload_n 1, 1) := by decide +kernel
theorem dL_law_327 : decode cL_law 327 = .ok (.aload_n 0, 1) := by decide +kernel
theorem dL_law_328 : decode cL_law 328 = .ok (.iload 4, 2) := by decide +kernel
theorem dL_law_330 : decode cL_law 330 = .ok (.iconst 1, 1) := by decide +kernel
theorem dL_law_331 : decode cL_law 331 = .ok (.iadd, 1) := by decide +kernel
theorem dL_law_332 : decode cL_law 332 = .ok (.iaload, 1) := by decide +kernel
theorem dL_law_333 : decode cL_law 333 = .ok (.aload_n 3, 1) := by decide +kernel
theorem dL_law_334 : decode cL_law 334 = .ok (.invokestatic 67, 3) := by decide +kernel
theorem dL_law_337 : decode cL_law 337 = .ok (.istore 5, 2) := by decide +kernel
theorem dL_law_339 : decode cL_law 339 = .ok (.aload_n 2, 1) := by decide +kernel
theorem dL_law_340 : decode cL_law 340 = .ok (.aload_n 0, 1) := by decide +kernel
theorem dL_law_341 : decode cL_law 341 = .ok (.iload 4, 2) := by decide +kernel
theorem dL_law_343 : decode cL_law 343 = .ok (.iconst 1, 1) := by decide +kernel
theorem dL_law_344 : decode cL_law 344 = .ok (.iadd, 1) := by decide +kernel
theorem dL_law_345 : decode cL_law 345 = .ok (.iaload, 1) := by decide +kernel
theorem dL_law_346 : decode cL_law 346 = .ok (.invokevirtual 70, 3) := by decide +kernel
theorem dL_law_349 : decode cL_law 349 = .ok (.istore 6, 2) := by decide +kernel
theorem dL_law_351 : decode cL_law 351 = .ok (.aload_n 2, 1) := by decide +kernel
theorem dL_law_352 : decode cL_law 352 = .ok (.invokevirtual 59, 3) := by decide +kernel
theorem dL_law_355 : decode cL_law 355 = .ok (.iload 5, 2) := by decide +kernel
theorem dL_law_357 : decode cL_law 357 = .ok (.if_icmp .eq 5, 3) := by decide +kernel
theorem dL_law_360 : decode cL_law 360 = .ok (.iconst 0, 1) := by decide +kernel
theorem dL_law_361 : decode cL_law 361 = .ok (.ireturn, 1) := by decide +kernel
theorem dL_law_362 : decode cL_law 362 = .ok (.iload 5, 2) := by decide +kernel
theorem dL_law_364 : decode cL_law 364 = .ok (.ifCond .ne 22, 3) := by decide +kernel
theorem dL_law_367 : decode cL_law 367 = .ok (.aload_n 3, 1) := by decide +kernel
theorem dL_law_368 : decode cL_law 368 = .ok (.iconst 0, 1) := by decide +kernel
theorem dL_law_369 : decode cL_law 369 = .ok (.laload, 1) := by decide +kernel
theorem dL_law_370 : decode cL_law 370 = .ok (.iload 6, 2) := by decide +kernel
theorem dL_law_372 : decode cL_law 372 = .ok (.ifCond .eq 7, 3) := by decide +kernel
theorem dL_law_375 : decode cL_law 375 = .ok (.lconst 1, 1) := by decide +kernel
theorem dL_law_376 : decode cL_law 376 = .ok (.goto 4, 3) := by decide +kernel
theorem dL_law_379 : decode cL_law 379 = .ok (.lconst 0, 1) := by decide +kernel
theorem dL_law_380 : decode cL_law 380 = .ok (.lcmp, 1) := by decide +kernel
theorem dL_law_381 : decode cL_law 381 = .ok (.ifCond .eq 5, 3) := by decide +kernel
theorem dL_law_384 : decode cL_law 384 = .ok (.iconst 0, 1) := by decide +kernel
theorem dL_law_385 : decode cL_law 385 = .ok (.ireturn, 1) := by decide +kernel
theorem dL_law_386 : decode cL_law 386 = .ok (.goto 394, 3) := by decide +kernel
theorem dL_law_389 : decode cL_law 389 = .ok (.aload_n 1, 1) := by decide +kernel
theorem dL_law_390 : decode cL_law 390 = .ok (.invokevirtual 71, 3) := by decide +kernel
theorem dL_law_393 : decode cL_law 393 = .ok (.aload_n 2, 1) := by decide +kernel
theorem dL_law_394 : decode cL_law 394 = .ok (.invokevirtual 74, 3) := by decide +kernel
theorem dL_law_397 : decode cL_law 397 = .ok (.if_icmp .eq 383, 3) := by decide +kernel
theorem dL_law_400 : decode cL_law 400 = .ok (.iconst 0, 1) := by decide +kernel
theorem dL_law_401 : decode cL_law 401 = .ok (.ireturn, 1) := by decide +kernel
theorem dL_law_402 : decode cL_law 402 = .ok (.aload_n 1, 1) := by decide +kernel
theorem dL_law_403 : decode cL_law 403 = .ok (.aload_n 0, 1) := by decide +kernel
theorem dL_law_404 : decode cL_law 404 = .ok (.iload 4, 2) := by decide +kernel
theorem dL_law_406 : decode cL_law 406 = .ok (.iconst 1, 1) := by decide +kernel
theorem dL_law_407 : decode cL_law 407 = .ok (.iadd, 1) := by decide +kernel
theorem dL_law_408 : decode cL_law 408 = .ok (.iaload, 1) := by decide +kernel
theorem dL_law_409 : decode cL_law 409 = .ok (.aload_n 0, 1) := by decide +kernel
theorem dL_law_410 : decode cL_law 410 = .ok (.iload 4, 2) := by decide +kernel
theorem dL_law_412 : decode cL_law 412 = .ok (.iconst 2, 1) := by decide +kernel
theorem dL_law_413 : decode cL_law 413 = .ok (.iadd, 1) := by decide +kernel
theorem dL_law_414 : decode cL_law 414 = .ok (.iaload, 1) := by decide +kernel
theorem dL_law_415 : decode cL_law 415 = .ok (.aload_n 3, 1) := by decide +kernel
theorem dL_law_416 : decode cL_law 416 = .ok (.invokestatic 75, 3) := by decide +kernel
theorem dL_law_419 : decode cL_law 419 = .ok (.istore 5, 2) := by decide +kernel
theorem dL_law_421 : decode cL_law 421 = .ok (.aload_n 2, 1) := by decide +kernel
theorem dL_law_422 : decode cL_law 422 = .ok (.aload_n 0, 1) := by decide +kernel
theorem dL_law_423 : decode cL_law 423 = .ok (.iload 4, 2) := by decide +kernel
theorem dL_law_425 : decode cL_law 425 = .ok (.iconst 1, 1) := by decide +kernel
theorem dL_law_426 : decode cL_law 426 = .ok (.iadd, 1) := by decide +kernel
theorem dL_law_427 : decode cL_law 427 = .ok (.iaload, 1) := by decide +kernel
theorem dL_law_428 : decode cL_law 428 = .ok (.aload_n 0, 1) := by decide +kernel
theorem dL_law_429 : decode cL_law 429 = .ok (.iload 4, 2) := by decide +kernel
theorem dL_law_431 : decode cL_law 431 = .ok (.iconst 2, 1) := by decide +kernel
theorem dL_law_432 : decode cL_law 432 = .ok (.iadd, 1) := by decide +kernel
theorem dL_law_433 : decode cL_law 433 = .ok (.iaload, 1) := by decide +kernel
theorem dL_law_434 : decode cL_law 434 = .ok (.invokevirtual 77, 3) := by decide +kernel
theorem dL_law_437 : decode cL_law 437 = .ok (.istore 6, 2) := by decide +kernel
theorem dL_law_439 : decode cL_law 439 = .ok (.aload_n 2, 1) := by decide +kernel
theorem dL_law_440 : decode cL_law 440 = .ok (.invokevirtual 59, 3) := by decide +kernel
theorem dL_law_443 : decode cL_law 443 = .ok (.iload 5, 2) := by decide +kernel
theorem dL_law_445 : decode cL_law 445 = .ok (.if_icmp .eq 5, 3) := by decide +kernel
theorem dL_law_448 : decode cL_law 448 = .ok (.iconst 0, 1) := by decide +kernel
theorem dL_law_449 : decode cL_law 449 = .ok (.ireturn, 1) := by decide +kernel
theorem dL_law_450 : decode cL_law 450 = .ok (.iload 5, 2) := by decide +kernel
theorem dL_law_452 : decode cL_law 452 = .ok (.ifCond .ne 15, 3) := by decide +kernel
theorem dL_law_455 : decode cL_law 455 = .ok (.aload_n 3, 1) := by decide +kernel
theorem dL_law_456 : decode cL_law 456 = .ok (.iconst 0, 1) := by decide +kernel
theorem dL_law_457 : decode cL_law 457 = .ok (.laload, 1) := by decide +kernel
theorem dL_law_458 : decode cL_law 458 = .ok (.iload 6, 2) := by decide +kernel
theorem dL_law_460 : decode cL_law 460 = .ok (.i2l, 1) := by decide +kernel
theorem dL_law_461 : decode cL_law 461 = .ok (.lcmp, 1) := by decide +kernel
theorem dL_law_462 : decode cL_law 462 = .ok (.ifCond .eq 5, 3) := by decide +kernel
theorem dL_law_465 : decode cL_law 465 = .ok (.iconst 0, 1) := by decide +kernel
theorem dL_law_466 : decode cL_law 466 = .ok (.ireturn, 1) := by decide +kernel
theorem dL_law_467 : decode cL_law 467 = .ok (.goto 313, 3) := by decide +kernel
theorem dL_law_470 : decode cL_law 470 = .ok (.aload_n 1, 1) := by decide +kernel
theorem dL_law_471 : decode cL_law 471 = .ok (.aload_n 0, 1) := by decide +kernel
theorem dL_law_472 : decode cL_law 472 = .ok (.iload 4, 2) := by decide +kernel
theorem dL_law_474 : decode cL_law 474 = .ok (.iconst 1, 1) := by decide +kernel
theorem dL_law_475 : decode cL_law 475 = .ok (.iadd, 1) := by decide +kernel
theorem dL_law_476 : decode cL_law 476 = .ok (.iaload, 1) := by decide +kernel
theorem dL_law_477 : decode cL_law 477 = .ok (.aload_n 0, 1) := by decide +kernel
theorem dL_law_478 : decode cL_law 478 = .ok (.iload 4, 2) := by decide +kernel
theorem dL_law_480 : decode cL_law 480 = .ok (.iconst 2, 1) := by decide +kernel
theorem dL_law_481 : decode cL_law 481 = .ok (.iadd, 1) := by decide +kernel
theorem dL_law_482 : decode cL_law 482 = .ok (.iaload, 1) := by decide +kernel
theorem dL_law_483 : decode cL_law 483 = .ok (.aload_n 3, 1) := by decide +kernel
theorem dL_law_484 : decode cL_law 484 = .ok (.invokestatic 78, 3) := by decide +kernel
theorem dL_law_487 : decode cL_law 487 = .ok (.istore 5, 2) := by decide +kernel
theorem dL_law_489 : decode cL_law 489 = .ok (.aload_n 2, 1) := by decide +kernel
theorem dL_law_490 : decode cL_law 490 = .ok (.aload_n 0, 1) := by decide +kernel
theorem dL_law_491 : decode cL_law 491 = .ok (.iload 4, 2) := by decide +kernel
theorem dL_law_493 : decode cL_law 493 = .ok (.iconst 1, 1) := by decide +kernel
theorem dL_law_494 : decode cL_law 494 = .ok (.iadd, 1) := by decide +kernel
theorem dL_law_495 : decode cL_law 495 = .ok (.iaload, 1) := by decide +kernel
theorem dL_law_496 : decode cL_law 496 = .ok (.aload_n 0, 1) := by decide +kernel
theorem dL_law_497 : decode cL_law 497 = .ok (.iload 4, 2) := by decide +kernel
theorem dL_law_499 : decode cL_law 499 = .ok (.iconst 2, 1) := by decide +kernel
theorem dL_law_500 : decode cL_law 500 = .ok (.iadd, 1) := by decide +kernel
theorem dL_law_501 : decode cL_law 501 = .ok (.iaload, 1) := by decide +kernel
theorem dL_law_502 : decode cL_law 502 = .ok (.invokevirtual 80, 3) := by decide +kernel
theorem dL_law_505 : decode cL_law 505 = .ok (.lstore 6, 2) := by decide +kernel
theorem dL_law_507 : decode cL_law 507 = .ok (.aload_n 2, 1) := by decide +kernel
theorem dL_law_508 : decode cL_law 508 = .ok (.invokevirtual 59, 3) := by decide +kernel
theorem dL_law_511 : decode cL_law 511 = .ok (.iload 5, 2) := by decide +kernel
theorem dL_law_513 : decode cL_law 513 = .ok (.if_icmp .eq 5, 3) := by decide +kernel
theorem dL_law_516 : decode cL_law 516 = .ok (.iconst 0, 1) := by decide +kernel
theorem dL_law_517 : decode cL_law 517 = .ok (.ireturn, 1) := by decide +kernel
theorem dL_law_518 : decode cL_law 518 = .ok (.iload 5, 2) := by decide +kernel
theorem dL_law_520 : decode cL_law 520 = .ok (.ifCond .ne 14, 3) := by decide +kernel
theorem dL_law_523 : decode cL_law 523 = .ok (.aload_n 3, 1) := by decide +kernel
theorem dL_law_524 : decode cL_law 524 = .ok (.iconst 0, 1) := by decide +kernel
theorem dL_law_525 : decode cL_law 525 = .ok (.laload, 1) := by decide +kernel
theorem dL_law_526 : decode cL_law 526 = .ok (.lload 6, 2) := by decide +kernel
theorem dL_law_528 : decode cL_law 528 = .ok (.lcmp, 1) := by decide +kernel
theorem dL_law_529 : decode cL_law 529 = .ok (.ifCond .eq 5, 3) := by decide +kernel
theorem dL_law_532 : decode cL_law 532 = .ok (.iconst 0, 1) := by decide +kernel
theorem dL_law_533 : decode cL_law 533 = .ok (.ireturn, 1) := by decide +kernel
theorem dL_law_534 : decode cL_law 534 = .ok (.goto 246, 3) := by decide +kernel
theorem dL_law_537 : decode cL_law 537 = .ok (.aload_n 1, 1) := by decide +kernel
theorem dL_law_538 : decode cL_law 538 = .ok (.aload_n 0, 1) := by decide +kernel
theorem dL_law_539 : decode cL_law 539 = .ok (.iload 4, 2) := by decide +kernel
theorem dL_law_541 : decode cL_law 541 = .ok (.iconst 1, 1) := by decide +kernel
theorem dL_law_542 : decode cL_law 542 = .ok (.iadd, 1) := by decide +kernel
theorem dL_law_543 : decode cL_law 543 = .ok (.iaload, 1) := by decide +kernel
theorem dL_law_544 : decode cL_law 544 = .ok (.aload_n 3, 1) := by decide +kernel
theorem dL_law_545 : decode cL_law 545 = .ok (.invokestatic 81, 3) := by decide +kernel
theorem dL_law_548 : decode cL_law 548 = .ok (.istore 5, 2) := by decide +kernel
theorem dL_law_550 : decode cL_law 550 = .ok (.aload_n 2, 1) := by decide +kernel
theorem dL_law_551 : decode cL_law 551 = .ok (.aload_n 0, 1) := by decide +kernel
theorem dL_law_552 : decode cL_law 552 = .ok (.iload 4, 2) := by decide +kernel
theorem dL_law_554 : decode cL_law 554 = .ok (.iconst 1, 1) := by decide +kernel
theorem dL_law_555 : decode cL_law 555 = .ok (.iadd, 1) := by decide +kernel
theorem dL_law_556 : decode cL_law 556 = .ok (.iaload, 1) := by decide +kernel
theorem dL_law_557 : decode cL_law 557 = .ok (.invokevirtual 83, 3) := by decide +kernel
theorem dL_law_560 : decode cL_law 560 = .ok (.istore 6, 2) := by decide +kernel
theorem dL_law_562 : decode cL_law 562 = .ok (.aload_n 2, 1) := by decide +kernel
theorem dL_law_563 : decode cL_law 563 = .ok (.invokevirtual 59, 3) := by decide +kernel
theorem dL_law_566 : decode cL_law 566 = .ok (.iload 5, 2) := by decide +kernel
theorem dL_law_568 : decode cL_law 568 = .ok (.if_icmp .eq 5, 3) := by decide +kernel
theorem dL_law_571 : decode cL_law 571 = .ok (.iconst 0, 1) := by decide +kernel
theorem dL_law_572 : decode cL_law 572 = .ok (.ireturn, 1) := by decide +kernel
theorem dL_law_573 : decode cL_law 573 = .ok (.iload 5, 2) := by decide +kernel
theorem dL_law_575 : decode cL_law 575 = .ok (.ifCond .ne 15, 3) := by decide +kernel
theorem dL_law_578 : decode cL_law 578 = .ok (.aload_n 3, 1) := by decide +kernel
theorem dL_law_579 : decode cL_law 579 = .ok (.iconst 0, 1) := by decide +kernel
theorem dL_law_580 : decode cL_law 580 = .ok (.laload, 1) := by decide +kernel
theorem dL_law_581 : decode cL_law 581 = .ok (.iload 6, 2) := by decide +kernel
theorem dL_law_583 : decode cL_law 583 = .ok (.i2l, 1) := by decide +kernel
theorem dL_law_584 : decode cL_law 584 = .ok (.lcmp, 1) := by decide +kernel
theorem dL_law_585 : decode cL_law 585 = .ok (.ifCond .eq 5, 3) := by decide +kernel
theorem dL_law_588 : decode cL_law 588 = .ok (.iconst 0, 1) := by decide +kernel
theorem dL_law_589 : decode cL_law 589 = .ok (.ireturn, 1) := by decide +kernel
theorem dL_law_590 : decode cL_law 590 = .ok (.goto 190, 3) := by decide +kernel
theorem dL_law_593 : decode cL_law 593 = .ok (.aload_n 1, 1) := by decide +kernel
theorem dL_law_594 : decode cL_law 594 = .ok (.aload_n 0, 1) := by decide +kernel
theorem dL_law_595 : decode cL_law 595 = .ok (.iload 4, 2) := by decide +kernel
theorem dL_law_597 : decode cL_law 597 = .ok (.iconst 1, 1) := by decide +kernel
theorem dL_law_598 : decode cL_law 598 = .ok (.iadd, 1) := by decide +kernel
theorem dL_law_599 : decode cL_law 599 = .ok (.iaload, 1) := by decide +kernel
theorem dL_law_600 : decode cL_law 600 = .ok (.i2l, 1) := by decide +kernel
theorem dL_law_601 : decode cL_law 601 = .ok (.bipush 32, 2) := by decide +kernel
theorem dL_law_603 : decode cL_law 603 = .ok (.lshl, 1) := by decide +kernel
theorem dL_law_604 : decode cL_law 604 = .ok (.aload_n 0, 1) := by decide +kernel
theorem dL_law_605 : decode cL_law 605 = .ok (.iload 4, 2) := by decide +kernel
theorem dL_law_607 : decode cL_law 607 = .ok (.iconst 2, 1) := by decide +kernel
theorem dL_law_608 : decode cL_law 608 = .ok (.iadd, 1) := by decide +kernel
theorem dL_law_609 : decode cL_law 609 = .ok (.iaload, 1) := by decide +kernel
theorem dL_law_610 : decode cL_law 610 = .ok (.i2l, 1) := by decide +kernel
theorem dL_law_611 : decode cL_law 611 = .ok (.ldc2_w 51, 3) := by decide +kernel
theorem dL_law_614 : decode cL_law 614 = .ok (.land, 1) := by decide +kernel
theorem dL_law_615 : decode cL_law 615 = .ok (.lor, 1) := by decide +kernel
theorem dL_law_616 : decode cL_law 616 = .ok (.aload_n 0, 1) := by decide +kernel
theorem dL_law_617 : decode cL_law 617 = .ok (.iload 4, 2) := by decide +kernel
theorem dL_law_619 : decode cL_law 619 = .ok (.iconst 3, 1) := by decide +kernel
theorem dL_law_620 : decode cL_law 620 = .ok (.iadd, 1) := by decide +kernel
theorem dL_law_621 : decode cL_law 621 = .ok (.iaload, 1) := by decide +kernel
theorem dL_law_622 : decode cL_law 622 = .ok (.invokevirtual 84, 3) := by decide +kernel
theorem dL_law_625 : decode cL_law 625 = .ok (.aload_n 2, 1) := by decide +kernel
theorem dL_law_626 : decode cL_law 626 = .ok (.aload_n 0, 1) := by decide +kernel
theorem dL_law_627 : decode cL_law 627 = .ok (.iload 4, 2) := by decide +kernel
theorem dL_law_629 : decode cL_law 629 = .ok (.iconst 1, 1) := by decide +kernel
theorem dL_law_630 : decode cL_law 630 = .ok (.iadd, 1) := by decide +kernel
theorem dL_law_631 : decode cL_law 631 = .ok (.iaload, 1) := by decide +kernel
theorem dL_law_632 : decode cL_law 632 = .ok (.i2l, 1) := by decide +kernel
theorem dL_law_633 : decode cL_law 633 = .ok (.bipush 32, 2) := by decide +kernel
theorem dL_law_635 : decode cL_law 635 = .ok (.lshl, 1) := by decide +kernel
theorem dL_law_636 : decode cL_law 636 = .ok (.aload_n 0, 1) := by decide +kernel
theorem dL_law_637 : decode cL_law 637 = .ok (.iload 4, 2) := by decide +kernel
theorem dL_law_639 : decode cL_law 639 = .ok (.iconst 2, 1) := by decide +kernel
theorem dL_law_640 : decode cL_law 640 = .ok (.iadd, 1) := by decide +kernel
theorem dL_law_641 : decode cL_law 641 = .ok (.iaload, 1) := by decide +kernel
theorem dL_law_642 : decode cL_law 642 = .ok (.i2l, 1) := by decide +kernel
theorem dL_law_643 : decode cL_law 643 = .ok (.ldc2_w 51, 3) := by decide +kernel
theorem dL_law_646 : decode cL_law 646 = .ok (.land, 1) := by decide +kernel
theorem dL_law_647 : decode cL_law 647 = .ok (.lor, 1) := by decide +kernel
theorem dL_law_648 : decode cL_law 648 = .ok (.aload_n 0, 1) := by decide +kernel
theorem dL_law_649 : decode cL_law 649 = .ok (.iload 4, 2) := by decide +kernel
theorem dL_law_651 : decode cL_law 651 = .ok (.iconst 3, 1) := by decide +kernel
theorem dL_law_652 : decode cL_law 652 = .ok (.iadd, 1) := by decide +kernel
theorem dL_law_653 : decode cL_law 653 = .ok (.iaload, 1) := by decide +kernel
theorem dL_law_654 : decode cL_law 654 = .ok (.invokevirtual 88, 3) := by decide +kernel
theorem dL_law_657 : decode cL_law 657 = .ok (.if_icmp .eq 123, 3) := by decide +kernel
theorem dL_law_660 : decode cL_law 660 = .ok (.iconst 0, 1) := by decide +kernel
theorem dL_law_661 : decode cL_law 661 = .ok (.ireturn, 1) := by decide +kernel
theorem dL_law_662 : decode cL_law 662 = .ok (.aload_n 1, 1) := by decide +kernel
theorem dL_law_663 : decode cL_law 663 = .ok (.aload_n 0, 1) := by decide +kernel
theorem dL_law_664 : decode cL_law 664 = .ok (.iload 4, 2) := by decide +kernel
theorem dL_law_666 : decode cL_law 666 = .ok (.iconst 1, 1) := by decide +kernel
theorem dL_law_667 : decode cL_law 667 = .ok (.iadd, 1) := by decide +kernel
theorem dL_law_668 : decode cL_law 668 = .ok (.iaload, 1) := by decide +kernel
theorem dL_law_669 : decode cL_law 669 = .ok (.aload_n 3, 1) := by decide +kernel
theorem dL_law_670 : decode cL_law 670 = .ok (.invokestatic 89, 3) := by decide +kernel
theorem dL_law_673 : decode cL_law 673 = .ok (.istore 5, 2) := by decide +kernel
theorem dL_law_675 : decode cL_law 675 = .ok (.aload_n 2, 1) := by decide +kernel
theorem dL_law_676 : decode cL_law 676 = .ok (.aload_n 0, 1) := by decide +kernel
theorem dL_law_677 : decode cL_law 677 = .ok (.iload 4, 2) := by decide +kernel
theorem dL_law_679 : decode cL_law 679 = .ok (.iconst 1, 1) := by decide +kernel
theorem dL_law_680 : decode cL_law 680 = .ok (.iadd, 1) := by decide +kernel
theorem dL_law_681 : decode cL_law 681 = .ok (.iaload, 1) := by decide +kernel
theorem dL_law_682 : decode cL_law 682 = .ok (.invokevirtual 91, 3) := by decide +kernel
theorem dL_law_685 : decode cL_law 685 = .ok (.istore 6, 2) := by decide +kernel
theorem dL_law_687 : decode cL_law 687 = .ok (.aload_n 2, 1) := by decide +kernel
theorem dL_law_688 : decode cL_law 688 = .ok (.invokevirtual 59, 3) := by decide +kernel
theorem dL_law_691 : decode cL_law 691 = .ok (.iload 5, 2) := by decide +kernel
theorem dL_law_693 : decode cL_law 693 = .ok (.if_icmp .eq 5, 3) := by decide +kernel
theorem dL_law_696 : decode cL_law 696 = .ok (.iconst 0, 1) := by decide +kernel
theorem dL_law_697 : decode cL_law 697 = .ok (.ireturn, 1) := by decide +kernel
theorem dL_law_698 : decode cL_law 698 = .ok (.iload 5, 2) := by decide +kernel
theorem dL_law_700 : decode cL_law 700 = .ok (.ifCond .ne 15, 3) := by decide +kernel
theorem dL_law_703 : decode cL_law 703 = .ok (.aload_n 3, 1) := by decide +kernel
theorem dL_law_704 : decode cL_law 704 = .ok (.iconst 0, 1) := by decide +kernel
theorem dL_law_705 : decode cL_law 705 = .ok (.laload, 1) := by decide +kernel
theorem dL_law_706 : decode cL_law 706 = .ok (.iload 6, 2) := by decide +kernel
theorem dL_law_708 : decode cL_law 708 = .ok (.i2l, 1) := by decide +kernel
theorem dL_law_709 : decode cL_law 709 = .ok (.lcmp, 1) := by decide +kernel
theorem dL_law_710 : decode cL_law 710 = .ok (.ifCond .eq 5, 3) := by decide +kernel
theorem dL_law_713 : decode cL_law 713 = .ok (.iconst 0, 1) := by decide +kernel
theorem dL_law_714 : decode cL_law 714 = .ok (.ireturn, 1) := by decide +kernel
theorem dL_law_715 : decode cL_law 715 = .ok (.goto 65, 3) := by decide +kernel
theorem dL_law_718 : decode cL_law 718 = .ok (.aload_n 1, 1) := by decide +kernel
theorem dL_law_719 : decode cL_law 719 = .ok (.aload_n 0, 1) := by decide +kernel
theorem dL_law_720 : decode cL_law 720 = .ok (.iload 4, 2) := by decide +kernel
theorem dL_law_722 : decode cL_law 722 = .ok (.iconst 1, 1) := by decide +kernel
theorem dL_law_723 : decode cL_law 723 = .ok (.iadd, 1) := by decide +kernel
theorem dL_law_724 : decode cL_law 724 = .ok (.iaload, 1) := by decide +kernel
theorem dL_law_725 : decode cL_law 725 = .ok (.invokestatic 92, 3) := by decide +kernel
theorem dL_law_728 : decode cL_law 728 = .ok (.istore 5, 2) := by decide +kernel
theorem dL_law_730 : decode cL_law 730 = .ok (.aload_n 2, 1) := by decide +kernel
theorem dL_law_731 : decode cL_law 731 = .ok (.aload_n 0, 1) := by decide +kernel
theorem dL_law_732 : decode cL_law 732 = .ok (.iload 4, 2) := by decide +kernel
theorem dL_law_734 : decode cL_law 734 = .ok (.iconst 1, 1) := by decide +kernel
theorem dL_law_735 : decode cL_law 735 = .ok (.iadd, 1) := by decide +kernel
theorem dL_law_736 : decode cL_law 736 = .ok (.iaload, 1) := by decide +kernel
theorem dL_law_737 : decode cL_law 737 = .ok (.invokevirtual 95, 3) := by decide +kernel
theorem dL_law_740 : decode cL_law 740 = .ok (.aload_n 2, 1) := by decide +kernel
theorem dL_law_741 : decode cL_law 741 = .ok (.invokevirtual 59, 3) := by decide +kernel
theorem dL_law_744 : decode cL_law 744 = .ok (.iload 5, 2) := by decide +kernel
theorem dL_law_746 : decode cL_law 746 = .ok (.if_icmp .eq 5, 3) := by decide +kernel
theorem dL_law_749 : decode cL_law 749 = .ok (.iconst 0, 1) := by decide +kernel
theorem dL_law_750 : decode cL_law 750 = .ok (.ireturn, 1) := by decide +kernel
theorem dL_law_751 : decode cL_law 751 = .ok (.goto 29, 3) := by decide +kernel
theorem dL_law_754 : decode cL_law 754 = .ok (.aload_n 1, 1) := by decide +kernel
theorem dL_law_755 : decode cL_law 755 = .ok (.invokevirtual 96, 3) := by decide +kernel
theorem dL_law_758 : decode cL_law 758 = .ok (.aload_n 2, 1) := by decide +kernel
theorem dL_law_759 : decode cL_law 759 = .ok (.invokevirtual 99, 3) := by decide +kernel
theorem dL_law_762 : decode cL_law 762 = .ok (.if_icmp .eq 18, 3) := by decide +kernel
theorem dL_law_765 : decode cL_law 765 = .ok (.iconst 0, 1) := by decide +kernel
theorem dL_law_766 : decode cL_law 766 = .ok (.ireturn, 1) := by decide +kernel
theorem dL_law_767 : decode cL_law 767 = .ok (.aload_n 1, 1) := by decide +kernel
theorem dL_law_768 : decode cL_law 768 = .ok (.invokevirtual 100, 3) := by decide +kernel
theorem dL_law_771 : decode cL_law 771 = .ok (.aload_n 2, 1) := by decide +kernel
theorem dL_law_772 : decode cL_law 772 = .ok (.invokevirtual 103, 3) := by decide +kernel
theorem dL_law_775 : decode cL_law 775 = .ok (.if_icmp .eq 5, 3) := by decide +kernel
theorem dL_law_778 : decode cL_law 778 = .ok (.iconst 0, 1) := by decide +kernel
theorem dL_law_779 : decode cL_law 779 = .ok (.ireturn, 1) := by decide +kernel
theorem dL_law_780 : decode cL_law 780 = .ok (.iinc 4 7, 3) := by decide +kernel
theorem dL_law_783 : decode cL_law 783 = .ok (.goto (-760), 3) := by decide +kernel
theorem dL_law_786 : decode cL_law 786 = .ok (.iconst 1, 1) := by decide +kernel
theorem dL_law_787 : decode cL_law 787 = .ok (.ireturn, 1) := by decide +kernel
end
section
/-! the base: array classes, nest words, worlds side by side, contracts, calls -/
/-- array classes: 0 int, 1 long, 2 boolean, 3 Frame, 4 Node -/
abbrev ty5 (y : Nat → ClassId) : List (ClassId × FieldType) := [(y 0, .int), (y 1, .long), (y 2, .boolean), (y 3, .object RX0), (y 4, .object RX2)]
def NW (U : State) : Prop := va_Nw (.methodLinkNest RX4 31 yX1_init RX4) U ∧ va_Nw (.methodLinkNest RX4 38 yX3_init RX4) U ∧ va_Nw (.methodLinkNest RX3 11 yX0_init RX4) U ∧ va_Nw (.methodLinkNest RX2 17 yX0_init RX4) U ∧ va_Nw (.methodLinkNest RX2 24 yX1_init RX4) U ∧ va_Nw (.methodLinkNest RX2 31 yX3_init RX4) U ∧ va_Nw (.methodLinkNest RX3 59 yX4_nextCheck RX4) U ∧ va_Nw (.methodLinkNest RX1 65 yX4_nextCheck RX4) U
theorem NW.warm {s U : State} (hW : s.WarmedH U.vm) (h : NW s) : NW U := by
  obtain ⟨h1, h2, h3, h4, h5, h6, h7, h8⟩ := h
  exact ⟨va_Nw.warmM hW h1, va_Nw.warmM hW h2, va_Nw.warmM hW h3, va_Nw.warmM hW h4, va_Nw.warmM hW h5, va_Nw.warmM hW h6, va_Nw.warmM hW h7, va_Nw.warmM hW h8⟩
theorem NW.same {u U : State} (hv : u.vm = U.vm) (h : NW u) : NW U := by
  obtain ⟨h1, h2, h3, h4, h5, h6, h7, h8⟩ := h
  exact ⟨va_Nw.same rfl hv h1, va_Nw.same rfl hv h2, va_Nw.same rfl hv h3, va_Nw.same rfl hv h4, va_Nw.same rfl hv h5, va_Nw.same rfl hv h6, va_Nw.same rfl hv h7, va_Nw.same rfl hv h8⟩
/-- what the tables say: classes, array classes, nest words -/
def KW (dC : Nat → ClassId) (dI : Nat → Nat → Nat) (y : Nat → ClassId) (U : State) : Prop := va_K (dC, dI) vwCl (ty5 y) U ∧ NW U
theorem KW.warm {dC : Nat → ClassId} {dI : Nat → Nat → Nat} {y : Nat → ClassId} {s U : State} (hW : s.WarmedH U.vm) (h : KW dC dI y s) : KW dC dI y U := ⟨va_K.moved hW.alike h.1, h.2.warm hW⟩
/-- a contract's start: the world w at the heap of size sz -/
def PW (dC : Nat → ClassId) (dI : Nat → Nat → Nat) (y : Nat → ClassId) (av : List Value) (w : va_W) (sz : Nat) : Array Value → State → Prop := va_Pc av (fun U => U.heap.size = sz ∧ va_P (dC, dI) vwCl w U.heap ∧ KW dC dI y U ∧ va_D (fun _ => True) w)
theorem PW.blind {dC : Nat → ClassId} {dI : Nat → Nat → Nat} {y : Nat → ClassId} {av : List Value} {w : va_W} {sz : Nat} : FrameBlind (PW dC dI y av w sz) := by
  intro a U g mk q
  obtain ⟨q0, q1, qP, qK, qD⟩ := q
  exact ⟨q0, q1, qP, ⟨va_K.moved (u := U) (U := U.calling g mk a) (Vm.Alike.refl U.vm) qK.1, NW.same (u := U) rfl qK.2⟩, qD⟩
/-- a contract's end: the world of u -/
def BW {S : Type} (dC : Nat → ClassId) (dI : Nat → Nat → Nat) (A : Nat → Prop) (world : S → va_W) : S → State → Prop := fun u t => va_P (dC, dI) vwCl (world u) t.heap ∧ va_D A (world u)
def MI {S : Type} (l : Launch) (x : MethodName) (ws : List Cond) (rm : Room) (dC : Nat → ClassId) (dI : Nat → Nat → Nat) (y : Nat → ClassId) (av : List Value) (w : va_W) (sz : Nat) (world : S → va_W) (K : Int32 → S → Prop) : Prop := Met l x ws rm (PW dC dI y av w sz) (va_Qi K (BW dC dI (va_A w sz) world) (va_A w sz)) 0 0 (va_A w sz)
def ML {S : Type} (l : Launch) (x : MethodName) (ws : List Cond) (rm : Room) (dC : Nat → ClassId) (dI : Nat → Nat → Nat) (y : Nat → ClassId) (av : List Value) (w : va_W) (sz : Nat) (world : S → va_W) (K : Int64 → S → Prop) : Prop := Met l x ws rm (PW dC dI y av w sz) (va_Ql K (BW dC dI (va_A w sz) world) (va_A w sz)) 0 0 (va_A w sz)
def MV {S : Type} (l : Launch) (x : MethodName) (ws : List Cond) (rm : Room) (dC : Nat → ClassId) (dI : Nat → Nat → Nat) (y : Nat → ClassId) (av : List Value) (w : va_W) (sz : Nat) (world : S → va_W) (K : S → Prop) : Prop := Met l x ws rm (PW dC dI y av w sz) (va_Qv K (BW dC dI (va_A w sz) world) (va_A w sz)) 0 0 (va_A w sz)
/-! worlds side by side -/
theorem va_P.left {D : va_G} {cl : List vw_C} {w1 w2 : va_W} {H : Heap} (h : va_P D cl (w1 ++ w2) H) : va_P D cl w1 H := fun k q hk => h k q (by rw [List.getElem?_append_left (List.getElem?_eq_some_iff.mp hk).1]; exact hk)
theorem va_P.right {D : va_G} {cl : List vw_C} {w1 w2 : va_W} {H : Heap} (h : va_P D cl (w1 ++ w2) H) : va_P D cl w2 H := fun k q hk => h (w1.length + k) q (by rw [List.getElem?_append_right (Nat.le_add_right _ _), Nat.add_sub_cancel_left]; exact hk)
theorem va_D.left {A : Nat → Prop} {w1 w2 : va_W} (h : va_D A (w1 ++ w2)) : va_D A w1 := by
  have e : ∀ (k : Nat) (q : Nat × va_E), w1[k]? = some q → (w1 ++ w2)[k]? = some q := fun k q hk => by rw [List.getElem?_append_left (List.getElem?_eq_some_iff.mp hk).1]; exact hk
  exact ⟨fun i j p q hi hj hpq => h.1 i j p q (e i p hi) (e j q hj) hpq, fun k q hk => h.2 k q (e k q hk)⟩
theorem va_D.right {A : Nat → Prop} {w1 w2 : va_W} (h : va_D A (w1 ++ w2)) : va_D A w2 := by
  have e : ∀ (k : Nat) (q : Nat × va_E), w2[k]? = some q → (w1 ++ w2)[w1.length + k]? = some q := fun k q hk => by rw [List.getElem?_append_right (Nat.le_add_right _ _), Nat.add_sub_cancel_left]; exact hk
  exact ⟨fun i j p q hi hj hpq => by have := h.1 _ _ p q (e i p hi) (e j q hj) hpq; omega, fun k q hk => h.2 _ q (e k q hk)⟩
theorem va_D.apart {A : Nat → Prop} {w1 w2 : va_W} (h : va_D A (w1 ++ w2)) {i j : Nat} {p q : Nat × va_E} (hi : w1[i]? = some p) (hj : w2[j]? = some q) : p.1 ≠ q.1 := by
  intro hpq
  have hl := (List.getElem?_eq_some_iff.mp hi).1
  have := h.1 i (w1.length + j) p q (by rw [List.getElem?_append_left hl]; exact hi) (by rw [List.getElem?_append_right (Nat.le_add_right _ _), Nat.add_sub_cancel_left]; exact hj) hpq
  omega
/-- what stands beside a block stays, if only the block's cells (and new ones) change -/
theorem wj_keep {D : va_G} {cl : List vw_C} {blk oth : va_W} {H H1 : Heap} (hP : va_P D cl oth H) (hap : ∀ (i j : Nat) (p q : Nat × va_E), oth[i]? = some p → blk[j]? = some q → p.1 ≠ q.1) (hk : ∀ q : Nat, q < H.size → ¬ va_A blk H.size q → H1[q]? = H[q]?) :
    va_P D cl oth H1 ∧ ∀ (k : Nat) (q : Nat × va_E), oth[k]? = some q → ¬ va_A blk H.size q.1 := by
  have key : ∀ (k : Nat) (q : Nat × va_E), oth[k]? = some q → ¬ va_A blk H.size q.1 := by
    intro k q hq h
    have hl := (hP k q hq).lt
    rcases h with ⟨j, e, h⟩ | h
    · exact hap k j q (q.1, e) hq h rfl
    · omega
  exact ⟨fun k q hq => (hP k q hq).kept (hk q.1 (hP k q hq).lt (key k q hq)), key⟩
theorem wj_mid {A0 : Nat → Prop} {D : va_G} {cl : List vw_C} {pre blk post w1 : va_W} {H H1 : Heap} (hP : va_P D cl (pre ++ (blk ++ post)) H) (hD : va_D A0 (pre ++ (blk ++ post))) (hk : ∀ q : Nat, q < H.size → ¬ va_A blk H.size q → H1[q]? = H[q]?) (hF : ∀ q, va_A blk H.size q → A0 q) (hP1 : va_P D cl w1 H1) (hD1 : va_D (va_A blk H.size) w1) :
    va_P D cl (pre ++ (w1 ++ post)) H1 ∧ va_D A0 (pre ++ (w1 ++ post)) := by
  have apre : ∀ (i j : Nat) (p q : Nat × va_E), pre[i]? = some p → blk[j]? = some q → p.1 ≠ q.1 := fun i j p q hi hj => hD.apart hi (by rw [List.getElem?_append_left (List.getElem?_eq_some_iff.mp hj).1]; exact hj)
  have apost : ∀ (i j : Nat) (p q : Nat × va_E), post[i]? = some p → blk[j]? = some q → p.1 ≠ q.1 := fun i j p q hi hj h => hD.right.apart hj hi h.symm
  obtain ⟨k1, n1⟩ := wj_keep hP.left apre hk
  obtain ⟨k2, n2⟩ := wj_keep hP.right.right apost hk
  have d1 : va_D A0 w1 := hD1.weaken (fun _ _ _ h => hF _ h)
  have dr : va_D A0 (w1 ++ post) := va_D.app d1 hD.right.right (fun i j p q hi hj h => n2 j q hj (by rw [← h]; exact hD1.2 i p hi))
  refine ⟨k1.app (hP1.app k2), va_D.app hD.left dr (fun i j p q hi hj h => ?_)⟩
  by_cases hl : j < w1.length
  · rw [List.getElem?_append_left hl] at hj
    exact n1 i p hi (by rw [h]; exact hD1.2 j q hj)
  · rw [List.getElem?_append_right (by omega)] at hj
    exact hD.apart hi (j := blk.length + (j - w1.length)) (by rw [List.getElem?_append_right (Nat.le_add_right _ _), Nat.add_sub_cancel_left]; exact hj) h
theorem wj_free {A0 : Nat → Prop} {pre blk post : va_W} {H0 H : Heap} {locs : List Loc} (hD : va_D A0 (pre ++ (blk ++ post))) (hS : va_S A0 H0 H locs) (hA : ∀ q, H0.size ≤ q → A0 q) : ∀ q, va_A blk H.size q → A0 q := by
  intro q h
  rcases h with ⟨k, e, h⟩ | h
  · exact hD.right.left.2 k (q, e) h
  · exact hA q (Nat.le_trans hS.1 h)
theorem PW.of {dC : Nat → ClassId} {dI : Nat → Nat → Nat} {y : Nat → ClassId} {As : List Value} {pre blk post : va_W} {A0 : Nat → Prop} {s : State} {H : Heap} (hP : va_P (dC, dI) vwCl (pre ++ (blk ++ post)) H) (hD : va_D A0 (pre ++ (blk ++ post))) (hK : KW dC dI y s) : ∀ U : State, U.heap = H → s.WarmedH U.vm → PW dC dI y As blk H.size As.toArray U :=
  fun U hU hW => ⟨rfl, by rw [hU], by rw [hU]; exact hP.right.left, hK.warm hW, hD.right.left.weaken (fun _ _ _ _ => trivial)⟩
section KC
variable {p : Program} {l : Launch} {e : Env} {R : Room} {s : State} {m : MethodId} {args : Array Value} {below : List Frame} {meth : Method} {c : Code} {H : Heap} {locs : List Loc} {cells slots : Nat} {Q : State → Prop}
variable {x : MethodName} {bytes cc : ByteArray} {maxL nL n index : Nat} {ret : Option FieldType} {wsc : List Cond} {rm : Room} {Ts : List Cond} {own C host : String} {b : Addr} {As rest st0 : List Value} {pc : Nat} {ls : Array Slot}
variable {dC : Nat → ClassId} {dI : Nat → Nat → Nat} {y : Nat → ClassId} {pre blk post : va_W} {A0 : Nat → Prop} {H0 : Heap} {S : Type} {world : S → va_W}
theorem kVi {K : Int32 → S → Prop} (Sx : CallFix p m c cc nL s args Ts own) (hM : MI l x wsc rm dC dI y (.ref b :: As) blk H.size world K) (cw : CallW R s args own C index x bytes maxL ret wsc rm 0 0 n) (hK : KW dC dI y s)
    (hP : va_P (dC, dI) vwCl (pre ++ (blk ++ post)) H) (hD : va_D A0 (pre ++ (blk ++ post))) (hrv : ∃ cell : Cell, H[b]? = some cell ∧ cell.vm.isStatics = false ∧ s.vm.findClass C = some cell.cls) (hS : va_S A0 H0 H locs) (hA : ∀ q, H0.size ≤ q → A0 q)
    (hn : As.length = n) (hsize : ls.size = nL) (hstk : st0 = As.reverse ++ .ref b :: rest) (hW : (rest.map fun v => v.category).sum ≤ 8) (hdg : decode cc pc = .ok (.invokevirtual index, 3)) (hc : cells ≤ R.cells ∧ slots ≤ R.slots)
    (kk : ∀ (r : Int32) (u : S) (H1 : Heap) (locs1 : List Loc), K r u → va_P (dC, dI) vwCl (pre ++ (world u ++ post)) H1 → va_D A0 (pre ++ (world u ++ post)) → va_S A0 H0 H1 locs1 → W p l e R s m args below meth c H1 locs1 cells slots Q (F0 m (pc + 3) ls (.int r :: rest))) : W p l e R s m args below meth c H locs cells slots Q (F0 m pc ls st0) := by
  have hF := wj_free hD hS hA
  refine va_calli (va_runV (As := As) (rest := rest) Sx hM cw ⟨PW.blind, hrv, PW.of hP hD hK⟩ rfl hn hsize hstk (lv_room hW) hdg hc) hS (fun q _ h => hF q h) hF (fun r u t H1 locs1 ht hvm hw hB hz hk hS1 => ?_)
  obtain ⟨hP1, hD1⟩ := hB
  rw [ht] at hP1
  obtain ⟨hP2, hD2⟩ := wj_mid hP hD hk hF hP1 hD1
  exact kk r u H1 locs1 hw hP2 hD2 hS1
theorem kVl {K : Int64 → S → Prop} (Sx : CallFix p m c cc nL s args Ts own) (hM : ML l x wsc rm dC dI y (.ref b :: As) blk H.size world K) (cw : CallW R s args own C index x bytes maxL ret wsc rm 0 0 n) (hK : KW dC dI y s)
    (hP : va_P (dC, dI) vwCl (pre ++ (blk ++ post)) H) (hD : va_D A0 (pre ++ (blk ++ post))) (hrv : ∃ cell : Cell, H[b]? = some cell ∧ cell.vm.isStatics = false ∧ s.vm.findClass C = some cell.cls) (hS : va_S A0 H0 H locs) (hA : ∀ q, H0.size ≤ q → A0 q)
    (hn : As.length = n) (hsize : ls.size = nL) (hstk : st0 = As.reverse ++ .ref b :: rest) (hW : (rest.map fun v => v.category).sum ≤ 8) (hdg : decode cc pc = .ok (.invokevirtual index, 3)) (hc : cells ≤ R.cells ∧ slots ≤ R.slots)
    (kk : ∀ (r : Int64) (u : S) (H1 : Heap) (locs1 : List Loc), K r u → va_P (dC, dI) vwCl (pre ++ (world u ++ post)) H1 → va_D A0 (pre ++ (world u ++ post)) → va_S A0 H0 H1 locs1 → W p l e R s m args below meth c H1 locs1 cells slots Q (F0 m (pc + 3) ls (.long r :: rest))) : W p l e R s m args below meth c H locs cells slots Q (F0 m pc ls st0) := by
  have hF := wj_free hD hS hA
  refine va_calll (va_runV (As := As) (rest := rest) Sx hM cw ⟨PW.blind, hrv, PW.of hP hD hK⟩ rfl hn hsize hstk (lv_room hW) hdg hc) hS (fun q _ h => hF q h) hF (fun r u t H1 locs1 ht hvm hw hB hz hk hS1 => ?_)
  obtain ⟨hP1, hD1⟩ := hB
  rw [ht] at hP1
  obtain ⟨hP2, hD2⟩ := wj_mid hP hD hk hF hP1 hD1
  exact kk r u H1 locs1 hw hP2 hD2 hS1
theorem kVv {K : S → Prop} (Sx : CallFix p m c cc nL s args Ts own) (hM : MV l x wsc rm dC dI y (.ref b :: As) blk H.size world K) (cw : CallW R s args own C index x bytes maxL ret wsc rm 0 0 n) (hK : KW dC dI y s)
    (hP : va_P (dC, dI) vwCl (pre ++ (blk ++ post)) H) (hD : va_D A0 (pre ++ (blk ++ post))) (hrv : ∃ cell : Cell, H[b]? = some cell ∧ cell.vm.isStatics = false ∧ s.vm.findClass C = some cell.cls) (hS : va_S A0 H0 H locs) (hA : ∀ q, H0.size ≤ q → A0 q)
    (hn : As.length = n) (hsize : ls.size = nL) (hstk : st0 = As.reverse ++ .ref b :: rest) (hW : (rest.map fun v => v.category).sum ≤ 8) (hdg : decode cc pc = .ok (.invokevirtual index, 3)) (hc : cells ≤ R.cells ∧ slots ≤ R.slots)
    (kk : ∀ (u : S) (H1 : Heap) (locs1 : List Loc), K u → va_P (dC, dI) vwCl (pre ++ (world u ++ post)) H1 → va_D A0 (pre ++ (world u ++ post)) → va_S A0 H0 H1 locs1 → W p l e R s m args below meth c H1 locs1 cells slots Q (F0 m (pc + 3) ls rest)) : W p l e R s m args below meth c H locs cells slots Q (F0 m pc ls st0) := by
  have hF := wj_free hD hS hA
  refine va_callv (va_runV (As := As) (rest := rest) Sx hM cw ⟨PW.blind, hrv, PW.of hP hD hK⟩ rfl hn hsize hstk (lv_room hW) hdg hc) hS (fun q _ h => hF q h) hF (fun u t H1 locs1 ht hvm hw hB hz hk hS1 => ?_)
  obtain ⟨hP1, hD1⟩ := hB
  rw [ht] at hP1
  obtain ⟨hP2, hD2⟩ := wj_mid hP hD hk hF hP1 hD1
  exact kk u H1 locs1 hw hP2 hD2 hS1
/-- a static method that sees no cell -/
def MS (l : Launch) (x : MethodName) (ws : List Cond) (rm : Room) (dC : Nat → ClassId) (dI : Nat → Nat → Nat) (y : Nat → ClassId) (av : List Value) (sz : Nat) (K : Int32 → Prop) : Prop := MI (S := Unit) l x ws rm dC dI y av [] sz (fun _ => []) (fun r _ => K r)
theorem wj_nil {A0 : Nat → Prop} {D : va_G} {cl : List vw_C} {ws : va_W} {H H1 : Heap} (hP : va_P D cl ws H) (hk : ∀ q : Nat, q < H.size → ¬ va_A [] H.size q → H1[q]? = H[q]?) : va_P D cl ws H1 :=
  (wj_keep (blk := []) hP (fun _ _ _ _ _ hj => by simp at hj) hk).1
theorem kSi {K : Int32 → Prop} {ws : va_W} (Sx : CallFix p m c cc nL s args Ts own) (hM : MS l x wsc rm dC dI y As H.size K) (cw : CallB R s args own index x bytes maxL ret wsc rm 0 0 n ∧ (Cond.static x).before args s = true) (hK : KW dC dI y s)
    (hP : va_P (dC, dI) vwCl ws H) (hD : va_D A0 ws) (hS : va_S A0 H0 H locs) (hA : ∀ q, H0.size ≤ q → A0 q)
    (hn : As.length = n) (hsize : ls.size = nL) (hstk : st0 = As.reverse ++ rest) (hW : (rest.map fun v => v.category).sum ≤ 8) (hdg : decode cc pc = .ok (.invokestatic index, 3)) (hc : cells ≤ R.cells ∧ slots ≤ R.slots)
    (kk : ∀ (r : Int32) (H1 : Heap) (locs1 : List Loc), K r → va_P (dC, dI) vwCl ws H1 → va_D A0 ws → va_S A0 H0 H1 locs1 → W p l e R s m args below meth c H1 locs1 cells slots Q (F0 m (pc + 3) ls (.int r :: rest))) : W p l e R s m args below meth c H locs cells slots Q (F0 m pc ls st0) := by
  have hF : ∀ q, va_A [] H.size q → A0 q := fun q h => by
    rcases h with ⟨k, e, h⟩ | h
    · simp at h
    · exact hA q (Nat.le_trans hS.1 h)
  refine va_calli (va_runS (As := As) (rest := rest) Sx hM cw ⟨PW.blind, fun U hU hW => ⟨rfl, by rw [hU], fun k q h => by simp at h, hK.warm hW, ⟨fun i j p q h => by simp at h, fun k q h => by simp at h⟩⟩⟩ rfl hn hsize hstk (lv_room hW) hdg hc) hS (fun q _ h => hF q h) hF (fun r u t H1 locs1 ht hvm hw hB hz hk hS1 => ?_)
  exact kk r H1 locs1 hw (wj_nil (A0 := A0) hP hk) hD hS1
theorem kSNi {K : Int32 → Prop} {ws : va_W} (Sx : CallFix p m c cc nL s args Ts own) (hM : MS l x wsc rm dC dI y As H.size K) (cw : va_CN R s args own index x host bytes maxL ret wsc rm 0 0 n ∧ (Cond.static x).before args s = true ∧ True) (hK : KW dC dI y s)
    (hP : va_P (dC, dI) vwCl ws H) (hD : va_D A0 ws) (hS : va_S A0 H0 H locs) (hA : ∀ q, H0.size ≤ q → A0 q)
    (hn : As.length = n) (hsize : ls.size = nL) (hstk : st0 = As.reverse ++ rest) (hW : (rest.map fun v => v.category).sum ≤ 8) (hdg : decode cc pc = .ok (.invokestatic index, 3)) (hc : cells ≤ R.cells ∧ slots ≤ R.slots)
    (kk : ∀ (r : Int32) (H1 : Heap) (locs1 : List Loc), K r → va_P (dC, dI) vwCl ws H1 → va_D A0 ws → va_S A0 H0 H1 locs1 → W p l e R s m args below meth c H1 locs1 cells slots Q (F0 m (pc + 3) ls (.int r :: rest))) : W p l e R s m args below meth c H locs cells slots Q (F0 m pc ls st0) := by
  have hF : ∀ q, va_A [] H.size q → A0 q := fun q h => by
    rcases h with ⟨k, e, h⟩ | h
    · simp at h
    · exact hA q (Nat.le_trans hS.1 h)
  refine va_calli (va_runSN (As := As) (rest := rest) Sx hM cw ⟨PW.blind, fun U hU hW => ⟨rfl, by rw [hU], fun k q h => by simp at h, hK.warm hW, ⟨fun i j p q h => by simp at h, fun k q h => by simp at h⟩⟩⟩ rfl hn hsize hstk (lv_room hW) hdg hc) hS (fun q _ h => hF q h) hF (fun r u t H1 locs1 ht hvm hw hB hz hk hS1 => ?_)
  exact kk r H1 locs1 hw (wj_nil (A0 := A0) hP hk) hD hS1
end KC
end
section
/-! the states: what the objects hold, without addresses; the worlds: their cells -/
abbrev FrameS : Type := Int32 × Int32 × Int64 × Int32
/-- bits, places, length, head, framed, alike, last, check -/
abbrev LineS : Type := (Nat → Int32) × (Nat → Int32) × Int32 × Int32 × Int32 × Int32 × Int32 × Int32
/-- taken, tail, alike, last, check, checkTaken, sizePlace, checkPlace, frame -/
abbrev ReaderS : Type := Int32 × Int32 × Int32 × Int32 × Int32 × Int32 × Int32 × Int32 × FrameS
/-- on, role, wants, sendingCount, receivingCount, framesSent, framesReceived, lastFault, found, sending, next, wanted, lastReceived, line, reader -/
abbrev NodeS : Type := Int32 × Int32 × Int32 × Int32 × Int32 × Int32 × Int32 × Int32 × Int32 × Int32 × Int32 × (Nat → FrameS) × FrameS × LineS × ReaderS
/-- state, stepsLeft, tapeLength, tapeBits, tapeLine, tapeReader, nodes -/
abbrev WireS : Type := Int32 × Int32 × Int32 × (Nat → Int32) × LineS × ReaderS × (Nat → NodeS)
/-- the reference: its ints, its rows of ints (and booleans), its rows of longs, each by the number of its field -/
abbrev ModelS : Type := (Nat → Int32) × (Nat → Nat → Int32) × (Nat → Nat → Int64)
abbrev frE (F : FrameS) : va_E := .inr (0, [.int F.1, .int F.2.1, .long F.2.2.1, .int F.2.2.2])
abbrev frW (a : Nat) (F : FrameS) : va_W := [(a, frE F)]
abbrev LineA : Type := Nat × Nat × Nat
abbrev lnW (y : Nat → ClassId) (a : LineA) (L : LineS) : va_W := [(a.1, .inr (1, [.ref a.2.1, .ref a.2.2, .int L.2.2.1, .int L.2.2.2.1, .int L.2.2.2.2.1, .int L.2.2.2.2.2.1, .int L.2.2.2.2.2.2.1, .int L.2.2.2.2.2.2.2])), (a.2.1, .inl (y 0, 160, .inl L.1)), (a.2.2, .inl (y 0, 160, .inl L.2.1))]
abbrev ReaderA : Type := Nat × Nat
abbrev rdW (a : ReaderA) (R : ReaderS) : va_W := [(a.1, .inr (3, [.ref a.2, .int R.1, .int R.2.1, .int R.2.2.1, .int R.2.2.2.1, .int R.2.2.2.2.1, .int R.2.2.2.2.2.1, .int R.2.2.2.2.2.2.1, .int R.2.2.2.2.2.2.2.1])), (a.2, frE R.2.2.2.2.2.2.2.2)]
/-- object, row of the wanted, the wanted, lastReceived, line, reader -/
abbrev NodeA : Type := Nat × Nat × (Nat → Nat) × Nat × LineA × ReaderA
abbrev ndW (y : Nat → ClassId) (a : NodeA) (N : NodeS) : va_W := [(a.1, .inr (2, [.ref a.2.1, .ref a.2.2.2.1, .ref a.2.2.2.2.1.1, .ref a.2.2.2.2.2.1, .int N.1, .int N.2.1, .int N.2.2.1, .int N.2.2.2.1, .int N.2.2.2.2.1, .int N.2.2.2.2.2.1, .int N.2.2.2.2.2.2.1, .int N.2.2.2.2.2.2.2.1, .int N.2.2.2.2.2.2.2.2.1, .int N.2.2.2.2.2.2.2.2.2.1, .int N.2.2.2.2.2.2.2.2.2.2.1])), (a.2.1, .inl (y 3, 4, .inr (.inr (.inr (.inr (fun j => some (a.2.2.1 j))))))), (a.2.2.1 0, frE (N.2.2.2.2.2.2.2.2.2.2.2.1 0)), (a.2.2.1 1, frE (N.2.2.2.2.2.2.2.2.2.2.2.1 1)), (a.2.2.1 2, frE (N.2.2.2.2.2.2.2.2.2.2.2.1 2)), (a.2.2.1 3, frE (N.2.2.2.2.2.2.2.2.2.2.2.1 3)), (a.2.2.2.1, frE N.2.2.2.2.2.2.2.2.2.2.2.2.1)] ++ (lnW y a.2.2.2.2.1 N.2.2.2.2.2.2.2.2.2.2.2.2.2.1 ++ rdW a.2.2.2.2.2 N.2.2.2.2.2.2.2.2.2.2.2.2.2.2)
/-- the node at other places of its wanted frames -/
abbrev aw (a : NodeA) (g : Nat → Nat) : NodeA := (a.1, a.2.1, g, a.2.2.2)
/-- the node's cells while its row of the wanted is g -/
abbrev ndX (y : Nat → ClassId) (a : NodeA) (g : Nat → Nat) (N : NodeS) : va_W := [(a.1, .inr (2, [.ref a.2.1, .ref a.2.2.2.1, .ref a.2.2.2.2.1.1, .ref a.2.2.2.2.2.1, .int N.1, .int N.2.1, .int N.2.2.1, .int N.2.2.2.1, .int N.2.2.2.2.1, .int N.2.2.2.2.2.1, .int N.2.2.2.2.2.2.1, .int N.2.2.2.2.2.2.2.1, .int N.2.2.2.2.2.2.2.2.1, .int N.2.2.2.2.2.2.2.2.2.1, .int N.2.2.2.2.2.2.2.2.2.2.1])), (a.2.1, .inl (y 3, 4, .inr (.inr (.inr (.inr (fun j => some (g j))))))), (a.2.2.1 0, frE (N.2.2.2.2.2.2.2.2.2.2.2.1 0)), (a.2.2.1 1, frE (N.2.2.2.2.2.2.2.2.2.2.2.1 1)), (a.2.2.1 2, frE (N.2.2.2.2.2.2.2.2.2.2.2.1 2)), (a.2.2.1 3, frE (N.2.2.2.2.2.2.2.2.2.2.2.1 3)), (a.2.2.2.1, frE N.2.2.2.2.2.2.2.2.2.2.2.2.1)] ++ (lnW y a.2.2.2.2.1 N.2.2.2.2.2.2.2.2.2.2.2.2.2.1 ++ rdW a.2.2.2.2.2 N.2.2.2.2.2.2.2.2.2.2.2.2.2.2)
/-- object, row of the nodes, row of the tape, line, reader, nodes; the nodes' wanted frames stand at gs -/
abbrev WireA : Type := Nat × Nat × Nat × LineA × ReaderA × (Nat → NodeA)
abbrev wrW (y : Nat → ClassId) (a : WireA) (gs : Nat → Nat → Nat) (S : WireS) : va_W := [(a.1, .inr (4, [.ref a.2.1, .int S.1, .int S.2.1, .ref a.2.2.1, .int S.2.2.1, .ref a.2.2.2.1.1, .ref a.2.2.2.2.1.1])), (a.2.1, .inl (y 4, 4, .inr (.inr (.inr (.inr (fun j => some (a.2.2.2.2.2 j).1)))))), (a.2.2.1, .inl (y 0, 200, .inl S.2.2.2.1))] ++ (lnW y a.2.2.2.1 S.2.2.2.2.1 ++ (rdW a.2.2.2.2.1 S.2.2.2.2.2.1 ++ (ndW y (aw (a.2.2.2.2.2 0) (gs 0)) (S.2.2.2.2.2.2 0) ++ (ndW y (aw (a.2.2.2.2.2 1) (gs 1)) (S.2.2.2.2.2.2 1) ++ (ndW y (aw (a.2.2.2.2.2 2) (gs 2)) (S.2.2.2.2.2.2 2) ++ (ndW y (aw (a.2.2.2.2.2 3) (gs 3)) (S.2.2.2.2.2.2 3)))))))
/-- the reference: its object at a 0, the row of field k at a k -/
abbrev mdW (y : Nat → ClassId) (a : Nat → Nat) (M : ModelS) : va_W := [(a 0, .inr (5, [.int (M.1 0), .int (M.1 1), .int (M.1 2), .ref (a 3), .ref (a 4), .ref (a 5), .ref (a 6), .ref (a 7), .ref (a 8), .ref (a 9), .ref (a 10), .ref (a 11), .ref (a 12), .ref (a 13), .ref (a 14), .ref (a 15), .ref (a 16), .ref (a 17), .ref (a 18), .ref (a 19), .ref (a 20), .ref (a 21), .ref (a 22), .ref (a 23), .int (M.1 24), .ref (a 25), .ref (a 26), .ref (a 27), .ref (a 28), .ref (a 29), .ref (a 30), .ref (a 31), .int (M.1 32), .ref (a 33), .int (M.1 34)])), (a 3, .inl (y 0, 4, .inl (M.2.1 3))), (a 4, .inl (y 0, 4, .inl (M.2.1 4))), (a 5, .inl (y 0, 4, .inl (M.2.1 5))), (a 6, .inl (y 0, 4, .inl (M.2.1 6))), (a 7, .inl (y 0, 4, .inl (M.2.1 7))), (a 8, .inl (y 0, 4, .inl (M.2.1 8))), (a 9, .inl (y 0, 4, .inl (M.2.1 9))), (a 10, .inl (y 2, 16, .inl (M.2.1 10))), (a 11, .inl (y 0, 16, .inl (M.2.1 11))), (a 12, .inl (y 1, 16, .inr (.inl (M.2.2 12)))), (a 13, .inl (y 0, 16, .inl (M.2.1 13))), (a 14, .inl (y 2, 4, .inl (M.2.1 14))), (a 15, .inl (y 0, 4, .inl (M.2.1 15))), (a 16, .inl (y 1, 4, .inr (.inl (M.2.2 16)))), (a 17, .inl (y 0, 4, .inl (M.2.1 17))), (a 18, .inl (y 0, 1000, .inl (M.2.1 18))), (a 19, .inl (y 0, 1000, .inl (M.2.1 19))), (a 20, .inl (y 0, 5, .inl (M.2.1 20))), (a 21, .inl (y 0, 4, .inl (M.2.1 21))), (a 22, .inl (y 0, 4, .inl (M.2.1 22))), (a 23, .inl (y 0, 16, .inl (M.2.1 23))), (a 25, .inl (y 0, 640, .inl (M.2.1 25))), (a 26, .inl (y 0, 5, .inl (M.2.1 26))), (a 27, .inl (y 0, 5, .inl (M.2.1 27))), (a 28, .inl (y 0, 5, .inl (M.2.1 28))), (a 29, .inl (y 0, 5, .inl (M.2.1 29))), (a 30, .inl (y 0, 5, .inl (M.2.1 30))), (a 31, .inl (y 0, 200, .inl (M.2.1 31))), (a 33, .inl (y 0, 128, .inl (M.2.1 33)))]
/-- what a boolean field takes as it is -/
def bz (v : Int32) : Prop := narrow .boolean (.int v) = .int v ∧ fits .boolean (.int v) = true
theorem bz_0 : bz 0 := ⟨rfl, rfl⟩
theorem bz_1 : bz 1 := ⟨rfl, rfl⟩
theorem up_some (f : Nat → Nat) (k v : Nat) : va_up (fun j => some (f j)) k (some v) = fun j => some (va_up f k v j) := by
  funext j
  unfold va_up
  split <;> rfl
/-- read-only cells of a start: they stay -/
theorem ro_at {A : Nat → Prop} {D : va_G} {cl : List vw_C} {wr : va_W} {H0 H : Heap} {locs : List Loc} (hS : va_S A H0 H locs) (hP : va_P D cl wr H0) (hn : ∀ (k : Nat) (q : Nat × va_E), wr[k]? = some q → ¬ A q.1) : va_P D cl wr H := hP.kept (fun k q hq => hS.2.1 q.1 (hP k q hq).lt (hn k q hq))
/-- what stands at a method's every point -/
def Cx (p : Program) (s : State) (m : MethodId) (args : Array Value) (meth : Method) (c : Code) (cc : ByteArray) (nL : Nat) (ret : Option FieldType) (ws : List Cond) (own : String) (A : Nat → Prop) (dC : Nat → ClassId) (dI : Nat → Nat → Nat) (y : Nat → ClassId) : Prop :=
  p.tables.exec = Jvm.exec ∧ c.code = cc ∧ meth.sig.returnType = ret ∧ c.maxLocals = nL ∧ s.vm.findClass own = some m.cls ∧ (∀ w ∈ ws, w.before args s = true) ∧ meth.locks = false ∧ (∀ q : Nat, s.heap.size ≤ q → A q) ∧ KW dC dI y s
section AR
variable {p : Program} {l : Launch} {e : Env} {R : Room} {s : State} {m : MethodId} {args : Array Value} {below : List Frame} {meth : Method} {c : Code} {H : Heap} {locs : List Loc} {cells slots : Nat} {Q : State → Prop}
variable {cc : ByteArray} {pc : Nat} {ls : Array Slot} {rest : List Value} {D : va_G} {cl : List vw_C} {A : Nat → Prop} {a : Nat} {tys : List (ClassId × FieldType)} {ws : va_W} {H0 : Heap}
theorem fold_i {x v : Int32} (h : x = v) (k : W p l e R s m args below meth c H locs cells slots Q (F0 m pc ls (.int v :: rest))) : W p l e R s m args below meth c H locs cells slots Q (F0 m pc ls (.int x :: rest)) := h ▸ k
theorem ar_ild (hexec : p.tables.exec = Jvm.exec) (hb : c.code = cc) (hK : va_K D cl tys s) (hP : va_P D cl ws H) (q0 t0 : Nat) {cA : ClassId} {n : Nat} {f : Nat → Int32} (ha : ws[q0]? = some (a, .inl (cA, n, .inl f))) (ht : tys[t0]? = some (cA, .int)) {i : Int32} {j : Nat} (hj : i.toNatClampNeg = j) (hin : vp_in i n) (hdg : decode cc pc = .ok (.iaload, 1))
    (kk : W p l e R s m args below meth c H locs cells slots Q (F0 m (pc + 1) ls (.int (f j) :: rest))) : W p l e R s m args below meth c H locs cells slots Q (F0 m pc ls (.int i :: .ref a :: rest)) := by
  subst hj
  exact va_iald hexec hb hK hP q0 t0 ha ht hin hdg kk
theorem ar_zld (hexec : p.tables.exec = Jvm.exec) (hb : c.code = cc) (hK : va_K D cl tys s) (hP : va_P D cl ws H) (q0 t0 : Nat) {cA : ClassId} {n : Nat} {f : Nat → Int32} (ha : ws[q0]? = some (a, .inl (cA, n, .inl f))) (ht : tys[t0]? = some (cA, .boolean)) {i : Int32} {j : Nat} (hj : i.toNatClampNeg = j) (hin : vp_in i n) (hdg : decode cc pc = .ok (.baload, 1))
    (kk : W p l e R s m args below meth c H locs cells slots Q (F0 m (pc + 1) ls (.int (f j) :: rest))) : W p l e R s m args below meth c H locs cells slots Q (F0 m pc ls (.int i :: .ref a :: rest)) := by
  subst hj
  exact va_zald hexec hb hK hP q0 t0 ha ht hin hdg kk
theorem ar_lld (hexec : p.tables.exec = Jvm.exec) (hb : c.code = cc) (hK : va_K D cl tys s) (hP : va_P D cl ws H) (q0 t0 : Nat) {cA : ClassId} {n : Nat} {f : Nat → Int64} (ha : ws[q0]? = some (a, .inl (cA, n, .inr (.inl f)))) (ht : tys[t0]? = some (cA, .long)) {i : Int32} {j : Nat} (hj : i.toNatClampNeg = j) (hin : vp_in i n) (hdg : decode cc pc = .ok (.laload, 1))
    (kk : W p l e R s m args below meth c H locs cells slots Q (F0 m (pc + 1) ls (.long (f j) :: rest))) : W p l e R s m args below meth c H locs cells slots Q (F0 m pc ls (.int i :: .ref a :: rest)) := by
  subst hj
  exact va_lald hexec hb hK hP q0 t0 ha ht hin hdg kk
theorem ar_qld (hexec : p.tables.exec = Jvm.exec) (hb : c.code = cc) (hK : va_K D cl tys s) (hP : va_P D cl ws H) (q0 t0 : Nat) {cA : ClassId} {C : String} {n : Nat} {f : Nat → Nat} (ha : ws[q0]? = some (a, .inl (cA, n, .inr (.inr (.inr (.inr (fun j => some (f j)))))))) (ht : tys[t0]? = some (cA, .object C)) {i : Int32} {j : Nat} (hj : i.toNatClampNeg = j) (hin : vp_in i n) (hdg : decode cc pc = .ok (.aaload, 1))
    (kk : W p l e R s m args below meth c H locs cells slots Q (F0 m (pc + 1) ls (.ref (f j) :: rest))) : W p l e R s m args below meth c H locs cells slots Q (F0 m pc ls (.int i :: .ref a :: rest)) := by
  subst hj
  exact va_aldq hexec hb hK hP q0 t0 ha ht hin hdg kk
theorem ar_ist (hexec : p.tables.exec = Jvm.exec) (hb : c.code = cc) (hK : va_K D cl tys s) (hP : va_P D cl ws H) (hD : va_D A ws) (hS : va_S A H0 H locs) (q0 t0 : Nat) {cA : ClassId} {n : Nat} {f : Nat → Int32} (ha : ws[q0]? = some (a, .inl (cA, n, .inl f))) (ht : tys[t0]? = some (cA, .int)) {i : Int32} {x : Int32} {j : Nat} (hj : i.toNatClampNeg = j) (hin : vp_in i n) (hdg : decode cc pc = .ok (.iastore, 1))
    (kk : ∀ (H1 : Heap) (locs1 : List Loc), va_P D cl (ws.set q0 (a, .inl (cA, n, .inl (upd f j x)))) H1 → va_D A (ws.set q0 (a, .inl (cA, n, .inl (upd f j x)))) → va_S A H0 H1 locs1 → W p l e R s m args below meth c H1 locs1 cells slots Q (F0 m (pc + 1) ls rest)) : W p l e R s m args below meth c H locs cells slots Q (F0 m pc ls (.int x :: .int i :: .ref a :: rest)) := by
  subst hj
  exact va_iast hexec hb hK hP hD hS q0 t0 ha ht hin hdg kk
theorem nar_bz {v : Int32} (h : bz v) : vp_nar .boolean v = v := by
  unfold vp_nar
  rw [h.1]
theorem ar_zst (hexec : p.tables.exec = Jvm.exec) (hb : c.code = cc) (hK : va_K D cl tys s) (hP : va_P D cl ws H) (hD : va_D A ws) (hS : va_S A H0 H locs) (q0 t0 : Nat) {cA : ClassId} {n : Nat} {f : Nat → Int32} (ha : ws[q0]? = some (a, .inl (cA, n, .inl f))) (ht : tys[t0]? = some (cA, .boolean)) {i : Int32} {x : Int32} {j : Nat} (hj : i.toNatClampNeg = j) (hin : vp_in i n) (hz : bz x) (hdg : decode cc pc = .ok (.bastore, 1))
    (kk : ∀ (H1 : Heap) (locs1 : List Loc), va_P D cl (ws.set q0 (a, .inl (cA, n, .inl (upd f j x)))) H1 → va_D A (ws.set q0 (a, .inl (cA, n, .inl (upd f j x)))) → va_S A H0 H1 locs1 → W p l e R s m args below meth c H1 locs1 cells slots Q (F0 m (pc + 1) ls rest)) : W p l e R s m args below meth c H locs cells slots Q (F0 m pc ls (.int x :: .int i :: .ref a :: rest)) := by
  subst hj
  refine va_zast hexec hb hK hP hD hS q0 t0 ha ht hin hdg ?_
  rw [nar_bz hz]
  exact kk
theorem ar_lst (hexec : p.tables.exec = Jvm.exec) (hb : c.code = cc) (hK : va_K D cl tys s) (hP : va_P D cl ws H) (hD : va_D A ws) (hS : va_S A H0 H locs) (q0 t0 : Nat) {cA : ClassId} {n : Nat} {f : Nat → Int64} (ha : ws[q0]? = some (a, .inl (cA, n, .inr (.inl f)))) (ht : tys[t0]? = some (cA, .long)) {i : Int32} {x : Int64} {j : Nat} (hj : i.toNatClampNeg = j) (hin : vp_in i n) (hdg : decode cc pc = .ok (.lastore, 1))
    (kk : ∀ (H1 : Heap) (locs1 : List Loc), va_P D cl (ws.set q0 (a, .inl (cA, n, .inr (.inl (vp_updL f j x))))) H1 → va_D A (ws.set q0 (a, .inl (cA, n, .inr (.inl (vp_updL f j x))))) → va_S A H0 H1 locs1 → W p l e R s m args below meth c H1 locs1 cells slots Q (F0 m (pc + 1) ls rest)) : W p l e R s m args below meth c H locs cells slots Q (F0 m pc ls (.long x :: .int i :: .ref a :: rest)) := by
  subst hj
  exact va_last hexec hb hK hP hD hS q0 t0 ha ht hin hdg kk
end AR
theorem vin_lit (k N : Nat) (h : Nat.blt k N = true) (hN : Nat.blt N 2147483648 = true) : vp_in (nI k) N := vp_in_nI (Nat.blt_eq.mp h) (Nat.blt_eq.mp hN)
theorem clamp_lit (k : Nat) (hN : Nat.blt k 2147483648 = true) : (nI k).toNatClampNeg = k := nI_clamp (Nat.blt_eq.mp hN)
end
section
/-! calls of a method over the caller's whole world; contracts with a read-only world; small rows -/
theorem vin4 {x : Int32} (h : vp_in x 4) : x = 0 ∨ x = 1 ∨ x = 2 ∨ x = 3 := by
  obtain ⟨j, hj, rfl⟩ := vp_in_of h (by decide)
  rcases (show j = 0 ∨ j = 1 ∨ j = 2 ∨ j = 3 by omega) with rfl | rfl | rfl | rfl
  · exact Or.inl rfl
  · exact Or.inr (Or.inl rfl)
  · exact Or.inr (Or.inr (Or.inl rfl))
  · exact Or.inr (Or.inr (Or.inr rfl))
/-- a contract's start with read-only cells wr beside its world -/
def PWR (dC : Nat → ClassId) (dI : Nat → Nat → Nat) (y : Nat → ClassId) (av : List Value) (w wr : va_W) (sz : Nat) : Array Value → State → Prop := va_Pc av (fun U => U.heap.size = sz ∧ va_P (dC, dI) vwCl w U.heap ∧ va_P (dC, dI) vwCl wr U.heap ∧ KW dC dI y U ∧ va_D (fun _ => True) (w ++ wr))
theorem PWR.blind {dC : Nat → ClassId} {dI : Nat → Nat → Nat} {y : Nat → ClassId} {av : List Value} {w wr : va_W} {sz : Nat} : FrameBlind (PWR dC dI y av w wr sz) := by
  intro a U g mk q
  obtain ⟨q0, q1, qP, qR, qK, qD⟩ := q
  exact ⟨q0, q1, qP, qR, ⟨va_K.moved (u := U) (U := U.calling g mk a) (Vm.Alike.refl U.vm) qK.1, NW.same (u := U) rfl qK.2⟩, qD⟩
def MVR {S : Type} (l : Launch) (x : MethodName) (ws : List Cond) (rm : Room) (dC : Nat → ClassId) (dI : Nat → Nat → Nat) (y : Nat → ClassId) (av : List Value) (w wr : va_W) (sz : Nat) (world : S → va_W) (K : S → Prop) : Prop := Met l x ws rm (PWR dC dI y av w wr sz) (va_Qv K (BW dC dI (va_A w sz) world) (va_A w sz)) 0 0 (va_A w sz)
theorem ro_not {D : va_G} {cl : List vw_C} {w wr : va_W} {H : Heap} {A : Nat → Prop} (hR : va_P D cl wr H) (hD : va_D A (w ++ wr)) : ∀ (k : Nat) (q : Nat × va_E), wr[k]? = some q → ¬ va_A w H.size q.1 := by
  intro k q hq h
  rcases h with ⟨j, e, h⟩ | h
  · exact hD.apart h hq rfl
  · have := (hR k q hq).lt
    omega
section KD
variable {p : Program} {l : Launch} {e : Env} {R : Room} {s : State} {m : MethodId} {args : Array Value} {below : List Frame} {meth : Method} {c : Code} {H : Heap} {locs : List Loc} {cells slots : Nat} {Q : State → Prop}
variable {x : MethodName} {bytes cc : ByteArray} {maxL nL n index : Nat} {ret : Option FieldType} {wsc : List Cond} {rm : Room} {Ts : List Cond} {own C host : String} {b : Addr} {As rest st0 : List Value} {pc : Nat} {ls : Array Slot}
variable {dC : Nat → ClassId} {dI : Nat → Nat → Nat} {y : Nat → ClassId} {pre blk post wr : va_W} {A0 : Nat → Prop} {H0 : Heap} {S : Type} {world : S → va_W}
theorem k0i {K : Int32 → S → Prop} (Sx : CallFix p m c cc nL s args Ts own) (hM : MI l x wsc rm dC dI y (.ref b :: As) blk H.size world K) (cw : CallW R s args own C index x bytes maxL ret wsc rm 0 0 n) (hK : KW dC dI y s)
    (hP : va_P (dC, dI) vwCl blk H) (hD : va_D A0 blk) (hrv : ∃ cell : Cell, H[b]? = some cell ∧ cell.vm.isStatics = false ∧ s.vm.findClass C = some cell.cls) (hS : va_S A0 H0 H locs) (hA : ∀ q, H0.size ≤ q → A0 q)
    (hn : As.length = n) (hsize : ls.size = nL) (hstk : st0 = As.reverse ++ .ref b :: rest) (hW : (rest.map fun v => v.category).sum ≤ 8) (hdg : decode cc pc = .ok (.invokevirtual index, 3)) (hc : cells ≤ R.cells ∧ slots ≤ R.slots)
    (kk : ∀ (r : Int32) (u : S) (H1 : Heap) (locs1 : List Loc), K r u → va_P (dC, dI) vwCl (world u) H1 → va_D A0 (world u) → va_S A0 H0 H1 locs1 → W p l e R s m args below meth c H1 locs1 cells slots Q (F0 m (pc + 3) ls (.int r :: rest))) : W p l e R s m args below meth c H locs cells slots Q (F0 m pc ls st0) := by
  refine kVi (pre := []) (post := []) Sx hM cw hK (by rw [List.nil_append, List.append_nil]; exact hP) (by rw [List.nil_append, List.append_nil]; exact hD) hrv hS hA hn hsize hstk hW hdg hc (fun r u H1 locs1 h1 h2 h3 h4 => ?_)
  rw [List.nil_append, List.append_nil] at h2 h3
  exact kk r u H1 locs1 h1 h2 h3 h4
theorem k0l {K : Int64 → S → Prop} (Sx : CallFix p m c cc nL s args Ts own) (hM : ML l x wsc rm dC dI y (.ref b :: As) blk H.size world K) (cw : CallW R s args own C index x bytes maxL ret wsc rm 0 0 n) (hK : KW dC dI y s)
    (hP : va_P (dC, dI) vwCl blk H) (hD : va_D A0 blk) (hrv : ∃ cell : Cell, H[b]? = some cell ∧ cell.vm.isStatics = false ∧ s.vm.findClass C = some cell.cls) (hS : va_S A0 H0 H locs) (hA : ∀ q, H0.size ≤ q → A0 q)
    (hn : As.length = n) (hsize : ls.size = nL) (hstk : st0 = As.reverse ++ .ref b :: rest) (hW : (rest.map fun v => v.category).sum ≤ 8) (hdg : decode cc pc = .ok (.invokevirtual index, 3)) (hc : cells ≤ R.cells ∧ slots ≤ R.slots)
    (kk : ∀ (r : Int64) (u : S) (H1 : Heap) (locs1 : List Loc), K r u → va_P (dC, dI) vwCl (world u) H1 → va_D A0 (world u) → va_S A0 H0 H1 locs1 → W p l e R s m args below meth c H1 locs1 cells slots Q (F0 m (pc + 3) ls (.long r :: rest))) : W p l e R s m args below meth c H locs cells slots Q (F0 m pc ls st0) := by
  refine kVl (pre := []) (post := []) Sx hM cw hK (by rw [List.nil_append, List.append_nil]; exact hP) (by rw [List.nil_append, List.append_nil]; exact hD) hrv hS hA hn hsize hstk hW hdg hc (fun r u H1 locs1 h1 h2 h3 h4 => ?_)
  rw [List.nil_append, List.append_nil] at h2 h3
  exact kk r u H1 locs1 h1 h2 h3 h4
theorem k0v {K : S → Prop} (Sx : CallFix p m c cc nL s args Ts own) (hM : MV l x wsc rm dC dI y (.ref b :: As) blk H.size world K) (cw : CallW R s args own C index x bytes maxL ret wsc rm 0 0 n) (hK : KW dC dI y s)
    (hP : va_P (dC, dI) vwCl blk H) (hD : va_D A0 blk) (hrv : ∃ cell : Cell, H[b]? = some cell ∧ cell.vm.isStatics = false ∧ s.vm.findClass C = some cell.cls) (hS : va_S A0 H0 H locs) (hA : ∀ q, H0.size ≤ q → A0 q)
    (hn : As.length = n) (hsize : ls.size = nL) (hstk : st0 = As.reverse ++ .ref b :: rest) (hW : (rest.map fun v => v.category).sum ≤ 8) (hdg : decode cc pc = .ok (.invokevirtual index, 3)) (hc : cells ≤ R.cells ∧ slots ≤ R.slots)
    (kk : ∀ (u : S) (H1 : Heap) (locs1 : List Loc), K u → va_P (dC, dI) vwCl (world u) H1 → va_D A0 (world u) → va_S A0 H0 H1 locs1 → W p l e R s m args below meth c H1 locs1 cells slots Q (F0 m (pc + 3) ls rest)) : W p l e R s m args below meth c H locs cells slots Q (F0 m pc ls st0) := by
  refine kVv (pre := []) (post := []) Sx hM cw hK (by rw [List.nil_append, List.append_nil]; exact hP) (by rw [List.nil_append, List.append_nil]; exact hD) hrv hS hA hn hsize hstk hW hdg hc (fun u H1 locs1 h1 h2 h3 h4 => ?_)
  rw [List.nil_append, List.append_nil] at h2 h3
  exact kk u H1 locs1 h1 h2 h3 h4
/-- a callee with read-only cells -/
theorem kVvR {K : S → Prop} (Sx : CallFix p m c cc nL s args Ts own) (hM : MVR l x wsc rm dC dI y (.ref b :: As) blk wr H.size world K) (cw : CallW R s args own C index x bytes maxL ret wsc rm 0 0 n) (hK : KW dC dI y s)
    (hP : va_P (dC, dI) vwCl (pre ++ (blk ++ post)) H) (hD : va_D A0 (pre ++ (blk ++ post))) (hwr : va_P (dC, dI) vwCl wr H) (hap : va_D A0 (blk ++ wr)) (hrv : ∃ cell : Cell, H[b]? = some cell ∧ cell.vm.isStatics = false ∧ s.vm.findClass C = some cell.cls) (hS : va_S A0 H0 H locs) (hA : ∀ q, H0.size ≤ q → A0 q)
    (hn : As.length = n) (hsize : ls.size = nL) (hstk : st0 = As.reverse ++ .ref b :: rest) (hW : (rest.map fun v => v.category).sum ≤ 8) (hdg : decode cc pc = .ok (.invokevirtual index, 3)) (hc : cells ≤ R.cells ∧ slots ≤ R.slots)
    (kk : ∀ (u : S) (H1 : Heap) (locs1 : List Loc), K u → va_P (dC, dI) vwCl (pre ++ (world u ++ post)) H1 → va_D A0 (pre ++ (world u ++ post)) → va_S A0 H0 H1 locs1 → W p l e R s m args below meth c H1 locs1 cells slots Q (F0 m (pc + 3) ls rest)) : W p l e R s m args below meth c H locs cells slots Q (F0 m pc ls st0) := by
  have hF := wj_free hD hS hA
  refine va_callv (va_runV (As := As) (rest := rest) Sx hM cw ⟨PWR.blind, hrv, fun U hU hW => ⟨rfl, by rw [hU], by rw [hU]; exact hP.right.left, by rw [hU]; exact hwr, hK.warm hW, hap.weaken (fun _ _ _ _ => trivial)⟩⟩ rfl hn hsize hstk (lv_room hW) hdg hc) hS (fun q _ h => hF q h) hF (fun u t H1 locs1 ht hvm hw hB hz hk hS1 => ?_)
  obtain ⟨hP1, hD1⟩ := hB
  rw [ht] at hP1
  obtain ⟨hP2, hD2⟩ := wj_mid hP hD hk hF hP1 hD1
  exact kk u H1 locs1 hw hP2 hD2 hS1
end KD
end
section
/-! stores into the cells of the reference: its state (I, A, L) by functions of the fields' numbers -/
section MR
variable {p : Program} {l : Launch} {e : Env} {R : Room} {s : State} {m : MethodId} {args : Array Value} {below : List Frame} {meth : Method} {c : Code} {H : Heap} {locs : List Loc} {cells slots : Nat} {Q : State → Prop}
variable {cc : ByteArray} {pc : Nat} {ls : Array Slot} {rest : List Value} {dC : Nat → ClassId} {dI : Nat → Nat → Nat} {y : Nat → ClassId} {a : Nat → Nat} {B : Nat → Prop} {H0 : Heap} {I : Nat → Int32} {A : Nat → Nat → Int32} {L : Nat → Nat → Int64}
theorem mst_3 (hexec : p.tables.exec = Jvm.exec) (hb : c.code = cc) (hK : va_K (dC, dI) vwCl (ty5 y) s) (hP : va_P (dC, dI) vwCl (mdW y a (I, A, L)) H) (hD : va_D B (mdW y a (I, A, L))) (hS : va_S B H0 H locs) {f : Nat → Int32} (ha : A 3 = f) {i : Int32} {x : Int32} {j : Nat} (hj : i.toNatClampNeg = j) (hin : vp_in i 4) (hdg : decode cc pc = .ok (.iastore, 1))
    (kk : ∀ (H1 : Heap) (locs1 : List Loc), va_P (dC, dI) vwCl (mdW y a (I, va_up A 3 (upd f j x), L)) H1 → va_D B (mdW y a (I, va_up A 3 (upd f j x), L)) → va_S B H0 H1 locs1 → W p l e R s m args below meth c H1 locs1 cells slots Q (F0 m (pc + 1) ls rest)) : W p l e R s m args below meth c H locs cells slots Q (F0 m pc ls (.int x :: .int i :: .ref (a 3) :: rest)) := by
  subst ha
  exact ar_ist (f := A 3) hexec hb hK hP hD hS 1 0 rfl rfl hj hin hdg kk
theorem mst_4 (hexec : p.tables.exec = Jvm.exec) (hb : c.code = cc) (hK : va_K (dC, dI) vwCl (ty5 y) s) (hP : va_P (dC, dI) vwCl (mdW y a (I, A, L)) H) (hD : va_D B (mdW y a (I, A, L))) (hS : va_S B H0 H locs) {f : Nat → Int32} (ha : A 4 = f) {i : Int32} {x : Int32} {j : Nat} (hj : i.toNatClampNeg = j) (hin : vp_in i 4) (hdg : decode cc pc = .ok (.iastore, 1))
    (kk : ∀ (H1 : Heap) (locs1 : List Loc), va_P (dC, dI) vwCl (mdW y a (I, va_up A 4 (upd f j x), L)) H1 → va_D B (mdW y a (I, va_up A 4 (upd f j x), L)) → va_S B H0 H1 locs1 → W p l e R s m args below meth c H1 locs1 cells slots Q (F0 m (pc + 1) ls rest)) : W p l e R s m args below meth c H locs cells slots Q (F0 m pc ls (.int x :: .int i :: .ref (a 4) :: rest)) := by
  subst ha
  exact ar_ist (f := A 4) hexec hb hK hP hD hS 2 0 rfl rfl hj hin hdg kk
theorem mst_5 (hexec : p.tables.exec = Jvm.exec) (hb : c.code = cc) (hK : va_K (dC, dI) vwCl (ty5 y) s) (hP : va_P (dC, dI) vwCl (mdW y a (I, A, L)) H) (hD : va_D B (mdW y a (I, A, L))) (hS : va_S B H0 H locs) {f : Nat → Int32} (ha : A 5 = f) {i : Int32} {x : Int32} {j : Nat} (hj : i.toNatClampNeg = j) (hin : vp_in i 4) (hdg : decode cc pc = .ok (.iastore, 1))
    (kk : ∀ (H1 : Heap) (locs1 : List Loc), va_P (dC, dI) vwCl (mdW y a (I, va_up A 5 (upd f j x), L)) H1 → va_D B (mdW y a (I, va_up A 5 (upd f j x), L)) → va_S B H0 H1 locs1 → W p l e R s m args below meth c H1 locs1 cells slots Q (F0 m (pc + 1) ls rest)) : W p l e R s m args below meth c H locs cells slots Q (F0 m pc ls (.int x :: .int i :: .ref (a 5) :: rest)) := by
  subst ha
  exact ar_ist (f := A 5) hexec hb hK hP hD hS 3 0 rfl rfl hj hin hdg kk
theorem mst_6 (hexec : p.tables.exec = Jvm.exec) (hb : c.code = cc) (hK : va_K (dC, dI) vwCl (ty5 y) s) (hP : va_P (dC, dI) vwCl (mdW y a (I, A, L)) H) (hD : va_D B (mdW y a (I, A, L))) (hS : va_S B H0 H locs) {f : Nat → Int32} (ha : A 6 = f) {i : Int32} {x : Int32} {j : Nat} (hj : i.toNatClampNeg = j) (hin : vp_in i 4) (hdg : decode cc pc = .ok (.iastore, 1))
    (kk : ∀ (H1 : Heap) (locs1 : List Loc), va_P (dC, dI) vwCl (mdW y a (I, va_up A 6 (upd f j x), L)) H1 → va_D B (mdW y a (I, va_up A 6 (upd f j x), L)) → va_S B H0 H1 locs1 → W p l e R s m args below meth c H1 locs1 cells slots Q (F0 m (pc + 1) ls rest)) : W p l e R s m args below meth c H locs cells slots Q (F0 m pc ls (.int x :: .int i :: .ref (a 6) :: rest)) := by
  subst ha
  exact ar_ist (f := A 6) hexec hb hK hP hD hS 4 0 rfl rfl hj hin hdg kk
theorem mst_7 (hexec : p.tables.exec = Jvm.exec) (hb : c.code = cc) (hK : va_K (dC, dI) vwCl (ty5 y) s) (hP : va_P (dC, dI) vwCl (mdW y a (I, A, L)) H) (hD : va_D B (mdW y a (I, A, L))) (hS : va_S B H0 H locs) {f : Nat → Int32} (ha : A 7 = f) {i : Int32} {x : Int32} {j : Nat} (hj : i.toNatClampNeg = j) (hin : vp_in i 4) (hdg : decode cc pc = .ok (.iastore, 1))
    (kk : ∀ (H1 : Heap) (locs1 : List Loc), va_P (dC, dI) vwCl (mdW y a (I, va_up A 7 (upd f j x), L)) H1 → va_D B (mdW y a (I, va_up A 7 (upd f j x), L)) → va_S B H0 H1 locs1 → W p l e R s m args below meth c H1 locs1 cells slots Q (F0 m (pc + 1) ls rest)) : W p l e R s m args below meth c H locs cells slots Q (F0 m pc ls (.int x :: .int i :: .ref (a 7) :: rest)) := by
  subst ha
  exact ar_ist (f := A 7) hexec hb hK hP hD hS 5 0 rfl rfl hj hin hdg kk
theorem mst_8 (hexec : p.tables.exec = Jvm.exec) (hb : c.code = cc) (hK : va_K (dC, dI) vwCl (ty5 y) s) (hP : va_P (dC, dI) vwCl (mdW y a (I, A, L)) H) (hD : va_D B (mdW y a (I, A, L))) (hS : va_S B H0 H locs) {f : Nat → Int32} (ha : A 8 = f) {i : Int32} {x : Int32} {j : Nat} (hj : i.toNatClampNeg = j) (hin : vp_in i 4) (hdg : decode cc pc = .ok (.iastore, 1))
    (kk : ∀ (H1 : Heap) (locs1 : List Loc), va_P (dC, dI) vwCl (mdW y a (I, va_up A 8 (upd f j x), L)) H1 → va_D B (mdW y a (I, va_up A 8 (upd f j x), L)) → va_S B H0 H1 locs1 → W p l e R s m args below meth c H1 locs1 cells slots Q (F0 m (pc + 1) ls rest)) : W p l e R s m args below meth c H locs cells slots Q (F0 m pc ls (.int x :: .int i :: .ref (a 8) :: rest)) := by
  subst ha
  exact ar_ist (f := A 8) hexec hb hK hP hD hS 6 0 rfl rfl hj hin hdg kk
theorem mst_9 (hexec : p.tables.exec = Jvm.exec) (hb : c.code = cc) (hK : va_K (dC, dI) vwCl (ty5 y) s) (hP : va_P (dC, dI) vwCl (mdW y a (I, A, L)) H) (hD : va_D B (mdW y a (I, A, L))) (hS : va_S B H0 H locs) {f : Nat → Int32} (ha : A 9 = f) {i : Int32} {x : Int32} {j : Nat} (hj : i.toNatClampNeg = j) (hin : vp_in i 4) (hdg : decode cc pc = .ok (.iastore, 1))
    (kk : ∀ (H1 : Heap) (locs1 : List Loc), va_P (dC, dI) vwCl (mdW y a (I, va_up A 9 (upd f j x), L)) H1 → va_D B (mdW y a (I, va_up A 9 (upd f j x), L)) → va_S B H0 H1 locs1 → W p l e R s m args below meth c H1 locs1 cells slots Q (F0 m (pc + 1) ls rest)) : W p l e R s m args below meth c H locs cells slots Q (F0 m pc ls (.int x :: .int i :: .ref (a 9) :: rest)) := by
  subst ha
  exact ar_ist (f := A 9) hexec hb hK hP hD hS 7 0 rfl rfl hj hin hdg kk
theorem mst_10 (hexec : p.tables.exec = Jvm.exec) (hb : c.code = cc) (hK : va_K (dC, dI) vwCl (ty5 y) s) (hP : va_P (dC, dI) vwCl (mdW y a (I, A, L)) H) (hD : va_D B (mdW y a (I, A, L))) (hS : va_S B H0 H locs) {f : Nat → Int32} (ha : A 10 = f) {i : Int32} {x : Int32} {j : Nat} (hj : i.toNatClampNeg = j) (hin : vp_in i 16) (hz : bz x) (hdg : decode cc pc = .ok (.bastore, 1))
    (kk : ∀ (H1 : Heap) (locs1 : List Loc), va_P (dC, dI) vwCl (mdW y a (I, va_up A 10 (upd f j x), L)) H1 → va_D B (mdW y a (I, va_up A 10 (upd f j x), L)) → va_S B H0 H1 locs1 → W p l e R s m args below meth c H1 locs1 cells slots Q (F0 m (pc + 1) ls rest)) : W p l e R s m args below meth c H locs cells slots Q (F0 m pc ls (.int x :: .int i :: .ref (a 10) :: rest)) := by
  subst ha
  exact ar_zst (f := A 10) hexec hb hK hP hD hS 8 2 rfl rfl hj hin hz hdg kk
theorem mst_11 (hexec : p.tables.exec = Jvm.exec) (hb : c.code = cc) (hK : va_K (dC, dI) vwCl (ty5 y) s) (hP : va_P (dC, dI) vwCl (mdW y a (I, A, L)) H) (hD : va_D B (mdW y a (I, A, L))) (hS : va_S B H0 H locs) {f : Nat → Int32} (ha : A 11 = f) {i : Int32} {x : Int32} {j : Nat} (hj : i.toNatClampNeg = j) (hin : vp_in i 16) (hdg : decode cc pc = .ok (.iastore, 1))
    (kk : ∀ (H1 : Heap) (locs1 : List Loc), va_P (dC, dI) vwCl (mdW y a (I, va_up A 11 (upd f j x), L)) H1 → va_D B (mdW y a (I, va_up A 11 (upd f j x), L)) → va_S B H0 H1 locs1 → W p l e R s m args below meth c H1 locs1 cells slots Q (F0 m (pc + 1) ls rest)) : W p l e R s m args below meth c H locs cells slots Q (F0 m pc ls (.int x :: .int i :: .ref (a 11) :: rest)) := by
  subst ha
  exact ar_ist (f := A 11) hexec hb hK hP hD hS 9 0 rfl rfl hj hin hdg kk
theorem mst_12 (hexec : p.tables.exec = Jvm.exec) (hb : c.code = cc) (hK : va_K (dC, dI) vwCl (ty5 y) s) (hP : va_P (dC, dI) vwCl (mdW y a (I, A, L)) H) (hD : va_D B (mdW y a (I, A, L))) (hS : va_S B H0 H locs) {f : Nat → Int64} (ha : L 12 = f) {i : Int32} {x : Int64} {j : Nat} (hj : i.toNatClampNeg = j) (hin : vp_in i 16) (hdg : decode cc pc = .ok (.lastore, 1))
    (kk : ∀ (H1 : Heap) (locs1 : List Loc), va_P (dC, dI) vwCl (mdW y a (I, A, va_up L 12 (vp_updL f j x))) H1 → va_D B (mdW y a (I, A, va_up L 12 (vp_updL f j x))) → va_S B H0 H1 locs1 → W p l e R s m args below meth c H1 locs1 cells slots Q (F0 m (pc + 1) ls rest)) : W p l e R s m args below meth c H locs cells slots Q (F0 m pc ls (.long x :: .int i :: .ref (a 12) :: rest)) := by
  subst ha
  exact ar_lst (f := L 12) hexec hb hK hP hD hS 10 1 rfl rfl hj hin hdg kk
theorem mst_13 (hexec : p.tables.exec = Jvm.exec) (hb : c.code = cc) (hK : va_K (dC, dI) vwCl (ty5 y) s) (hP : va_P (dC, dI) vwCl (mdW y a (I, A, L)) H) (hD : va_D B (mdW y a (I, A, L))) (hS : va_S B H0 H locs) {f : Nat → Int32} (ha : A 13 = f) {i : Int32} {x : Int32} {j : Nat} (hj : i.toNatClampNeg = j) (hin : vp_in i 16) (hdg : decode cc pc = .ok (.iastore, 1))
    (kk : ∀ (H1 : Heap) (locs1 : List Loc), va_P (dC, dI) vwCl (mdW y a (I, va_up A 13 (upd f j x), L)) H1 → va_D B (mdW y a (I, va_up A 13 (upd f j x), L)) → va_S B H0 H1 locs1 → W p l e R s m args below meth c H1 locs1 cells slots Q (F0 m (pc + 1) ls rest)) : W p l e R s m args below meth c H locs cells slots Q (F0 m pc ls (.int x :: .int i :: .ref (a 13) :: rest)) := by
  subst ha
  exact ar_ist (f := A 13) hexec hb hK hP hD hS 11 0 rfl rfl hj hin hdg kk
theorem mst_14 (hexec : p.tables.exec = Jvm.exec) (hb : c.code = cc) (hK : va_K (dC, dI) vwCl (ty5 y) s) (hP : va_P (dC, dI) vwCl (mdW y a (I, A, L)) H) (hD : va_D B (mdW y a (I, A, L))) (hS : va_S B H0 H locs) {f : Nat → Int32} (ha : A 14 = f) {i : Int32} {x : Int32} {j : Nat} (hj : i.toNatClampNeg = j) (hin : vp_in i 4) (hz : bz x) (hdg : decode cc pc = .ok (.bastore, 1))
    (kk : ∀ (H1 : Heap) (locs1 : List Loc), va_P (dC, dI) vwCl (mdW y a (I, va_up A 14 (upd f j x), L)) H1 → va_D B (mdW y a (I, va_up A 14 (upd f j x), L)) → va_S B H0 H1 locs1 → W p l e R s m args below meth c H1 locs1 cells slots Q (F0 m (pc + 1) ls rest)) : W p l e R s m args below meth c H locs cells slots Q (F0 m pc ls (.int x :: .int i :: .ref (a 14) :: rest)) := by
  subst ha
  exact ar_zst (f := A 14) hexec hb hK hP hD hS 12 2 rfl rfl hj hin hz hdg kk
theorem mst_15 (hexec : p.tables.exec = Jvm.exec) (hb : c.code = cc) (hK : va_K (dC, dI) vwCl (ty5 y) s) (hP : va_P (dC, dI) vwCl (mdW y a (I, A, L)) H) (hD : va_D B (mdW y a (I, A, L))) (hS : va_S B H0 H locs) {f : Nat → Int32} (ha : A 15 = f) {i : Int32} {x : Int32} {j : Nat} (hj : i.toNatClampNeg = j) (hin : vp_in i 4) (hdg : decode cc pc = .ok (.iastore, 1))
    (kk : ∀ (H1 : Heap) (locs1 : List Loc), va_P (dC, dI) vwCl (mdW y a (I, va_up A 15 (upd f j x), L)) H1 → va_D B (mdW y a (I, va_up A 15 (upd f j x), L)) → va_S B H0 H1 locs1 → W p l e R s m args below meth c H1 locs1 cells slots Q (F0 m (pc + 1) ls rest)) : W p l e R s m args below meth c H locs cells slots Q (F0 m pc ls (.int x :: .int i :: .ref (a 15) :: rest)) := by
  subst ha
  exact ar_ist (f := A 15) hexec hb hK hP hD hS 13 0 rfl rfl hj hin hdg kk
theorem mst_16 (hexec : p.tables.exec = Jvm.exec) (hb : c.code = cc) (hK : va_K (dC, dI) vwCl (ty5 y) s) (hP : va_P (dC, dI) vwCl (mdW y a (I, A, L)) H) (hD : va_D B (mdW y a (I, A, L))) (hS : va_S B H0 H locs) {f : Nat → Int64} (ha : L 16 = f) {i : Int32} {x : Int64} {j : Nat} (hj : i.toNatClampNeg = j) (hin : vp_in i 4) (hdg : decode cc pc = .ok (.lastore, 1))
    (kk : ∀ (H1 : Heap) (locs1 : List Loc), va_P (dC, dI) vwCl (mdW y a (I, A, va_up L 16 (vp_updL f j x))) H1 → va_D B (mdW y a (I, A, va_up L 16 (vp_updL f j x))) → va_S B H0 H1 locs1 → W p l e R s m args below meth c H1 locs1 cells slots Q (F0 m (pc + 1) ls rest)) : W p l e R s m args below meth c H locs cells slots Q (F0 m pc ls (.long x :: .int i :: .ref (a 16) :: rest)) := by
  subst ha
  exact ar_lst (f := L 16) hexec hb hK hP hD hS 14 1 rfl rfl hj hin hdg kk
theorem mst_17 (hexec : p.tables.exec = Jvm.exec) (hb : c.code = cc) (hK : va_K (dC, dI) vwCl (ty5 y) s) (hP : va_P (dC, dI) vwCl (mdW y a (I, A, L)) H) (hD : va_D B (mdW y a (I, A, L))) (hS : va_S B H0 H locs) {f : Nat → Int32} (ha : A 17 = f) {i : Int32} {x : Int32} {j : Nat} (hj : i.toNatClampNeg = j) (hin : vp_in i 4) (hdg : decode cc pc = .ok (.iastore, 1))
    (kk : ∀ (H1 : Heap) (locs1 : List Loc), va_P (dC, dI) vwCl (mdW y a (I, va_up A 17 (upd f j x), L)) H1 → va_D B (mdW y a (I, va_up A 17 (upd f j x), L)) → va_S B H0 H1 locs1 → W p l e R s m args below meth c H1 locs1 cells slots Q (F0 m (pc + 1) ls rest)) : W p l e R s m args below meth c H locs cells slots Q (F0 m pc ls (.int x :: .int i :: .ref (a 17) :: rest)) := by
  subst ha
  exact ar_ist (f := A 17) hexec hb hK hP hD hS 15 0 rfl rfl hj hin hdg kk
theorem mst_18 (hexec : p.tables.exec = Jvm.exec) (hb : c.code = cc) (hK : va_K (dC, dI) vwCl (ty5 y) s) (hP : va_P (dC, dI) vwCl (mdW y a (I, A, L)) H) (hD : va_D B (mdW y a (I, A, L))) (hS : va_S B H0 H locs) {f : Nat → Int32} (ha : A 18 = f) {i : Int32} {x : Int32} {j : Nat} (hj : i.toNatClampNeg = j) (hin : vp_in i 1000) (hdg : decode cc pc = .ok (.iastore, 1))
    (kk : ∀ (H1 : Heap) (locs1 : List Loc), va_P (dC, dI) vwCl (mdW y a (I, va_up A 18 (upd f j x), L)) H1 → va_D B (mdW y a (I, va_up A 18 (upd f j x), L)) → va_S B H0 H1 locs1 → W p l e R s m args below meth c H1 locs1 cells slots Q (F0 m (pc + 1) ls rest)) : W p l e R s m args below meth c H locs cells slots Q (F0 m pc ls (.int x :: .int i :: .ref (a 18) :: rest)) := by
  subst ha
  exact ar_ist (f := A 18) hexec hb hK hP hD hS 16 0 rfl rfl hj hin hdg kk
theorem mst_19 (hexec : p.tables.exec = Jvm.exec) (hb : c.code = cc) (hK : va_K (dC, dI) vwCl (ty5 y) s) (hP : va_P (dC, dI) vwCl (mdW y a (I, A, L)) H) (hD : va_D B (mdW y a (I, A, L))) (hS : va_S B H0 H locs) {f : Nat → Int32} (ha : A 19 = f) {i : Int32} {x : Int32} {j : Nat} (hj : i.toNatClampNeg = j) (hin : vp_in i 1000) (hdg : decode cc pc = .ok (.iastore, 1))
    (kk : ∀ (H1 : Heap) (locs1 : List Loc), va_P (dC, dI) vwCl (mdW y a (I, va_up A 19 (upd f j x), L)) H1 → va_D B (mdW y a (I, va_up A 19 (upd f j x), L)) → va_S B H0 H1 locs1 → W p l e R s m args below meth c H1 locs1 cells slots Q (F0 m (pc + 1) ls rest)) : W p l e R s m args below meth c H locs cells slots Q (F0 m pc ls (.int x :: .int i :: .ref (a 19) :: rest)) := by
  subst ha
  exact ar_ist (f := A 19) hexec hb hK hP hD hS 17 0 rfl rfl hj hin hdg kk
theorem mst_20 (hexec : p.tables.exec = Jvm.exec) (hb : c.code = cc) (hK : va_K (dC, dI) vwCl (ty5 y) s) (hP : va_P (dC, dI) vwCl (mdW y a (I, A, L)) H) (hD : va_D B (mdW y a (I, A, L))) (hS : va_S B H0 H locs) {f : Nat → Int32} (ha : A 20 = f) {i : Int32} {x : Int32} {j : Nat} (hj : i.toNatClampNeg = j) (hin : vp_in i 5) (hdg : decode cc pc = .ok (.iastore, 1))
    (kk : ∀ (H1 : Heap) (locs1 : List Loc), va_P (dC, dI) vwCl (mdW y a (I, va_up A 20 (upd f j x), L)) H1 → va_D B (mdW y a (I, va_up A 20 (upd f j x), L)) → va_S B H0 H1 locs1 → W p l e R s m args below meth c H1 locs1 cells slots Q (F0 m (pc + 1) ls rest)) : W p l e R s m args below meth c H locs cells slots Q (F0 m pc ls (.int x :: .int i :: .ref (a 20) :: rest)) := by
  subst ha
  exact ar_ist (f := A 20) hexec hb hK hP hD hS 18 0 rfl rfl hj hin hdg kk
theorem mst_21 (hexec : p.tables.exec = Jvm.exec) (hb : c.code = cc) (hK : va_K (dC, dI) vwCl (ty5 y) s) (hP : va_P (dC, dI) vwCl (mdW y a (I, A, L)) H) (hD : va_D B (mdW y a (I, A, L))) (hS : va_S B H0 H locs) {f : Nat → Int32} (ha : A 21 = f) {i : Int32} {x : Int32} {j : Nat} (hj : i.toNatClampNeg = j) (hin : vp_in i 4) (hdg : decode cc pc = .ok (.iastore, 1))
    (kk : ∀ (H1 : Heap) (locs1 : List Loc), va_P (dC, dI) vwCl (mdW y a (I, va_up A 21 (upd f j x), L)) H1 → va_D B (mdW y a (I, va_up A 21 (upd f j x), L)) → va_S B H0 H1 locs1 → W p l e R s m args below meth c H1 locs1 cells slots Q (F0 m (pc + 1) ls rest)) : W p l e R s m args below meth c H locs cells slots Q (F0 m pc ls (.int x :: .int i :: .ref (a 21) :: rest)) := by
  subst ha
  exact ar_ist (f := A 21) hexec hb hK hP hD hS 19 0 rfl rfl hj hin hdg kk
theorem mst_22 (hexec : p.tables.exec = Jvm.exec) (hb : c.code = cc) (hK : va_K (dC, dI) vwCl (ty5 y) s) (hP : va_P (dC, dI) vwCl (mdW y a (I, A, L)) H) (hD : va_D B (mdW y a (I, A, L))) (hS : va_S B H0 H locs) {f : Nat → Int32} (ha : A 22 = f) {i : Int32} {x : Int32} {j : Nat} (hj : i.toNatClampNeg = j) (hin : vp_in i 4) (hdg : decode cc pc = .ok (.iastore, 1))
    (kk : ∀ (H1 : Heap) (locs1 : List Loc), va_P (dC, dI) vwCl (mdW y a (I, va_up A 22 (upd f j x), L)) H1 → va_D B (mdW y a (I, va_up A 22 (upd f j x), L)) → va_S B H0 H1 locs1 → W p l e R s m args below meth c H1 locs1 cells slots Q (F0 m (pc + 1) ls rest)) : W p l e R s m args below meth c H locs cells slots Q (F0 m pc ls (.int x :: .int i :: .ref (a 22) :: rest)) := by
  subst ha
  exact ar_ist (f := A 22) hexec hb hK hP hD hS 20 0 rfl rfl hj hin hdg kk
theorem mst_23 (hexec : p.tables.exec = Jvm.exec) (hb : c.code = cc) (hK : va_K (dC, dI) vwCl (ty5 y) s) (hP : va_P (dC, dI) vwCl (mdW y a (I, A, L)) H) (hD : va_D B (mdW y a (I, A, L))) (hS : va_S B H0 H locs) {f : Nat → Int32} (ha : A 23 = f) {i : Int32} {x : Int32} {j : Nat} (hj : i.toNatClampNeg = j) (hin : vp_in i 16) (hdg : decode cc pc = .ok (.iastore, 1))
    (kk : ∀ (H1 : Heap) (locs1 : List Loc), va_P (dC, dI) vwCl (mdW y a (I, va_up A 23 (upd f j x), L)) H1 → va_D B (mdW y a (I, va_up A 23 (upd f j x), L)) → va_S B H0 H1 locs1 → W p l e R s m args below meth c H1 locs1 cells slots Q (F0 m (pc + 1) ls rest)) : W p l e R s m args below meth c H locs cells slots Q (F0 m pc ls (.int x :: .int i :: .ref (a 23) :: rest)) := by
  subst ha
  exact ar_ist (f := A 23) hexec hb hK hP hD hS 21 0 rfl rfl hj hin hdg kk
theorem mst_25 (hexec : p.tables.exec = Jvm.exec) (hb : c.code = cc) (hK : va_K (dC, dI) vwCl (ty5 y) s) (hP : va_P (dC, dI) vwCl (mdW y a (I, A, L)) H) (hD : va_D B (mdW y a (I, A, L))) (hS : va_S B H0 H locs) {f : Nat → Int32} (ha : A 25 = f) {i : Int32} {x : Int32} {j : Nat} (hj : i.toNatClampNeg = j) (hin : vp_in i 640) (hdg : decode cc pc = .ok (.iastore, 1))
    (kk : ∀ (H1 : Heap) (locs1 : List Loc), va_P (dC, dI) vwCl (mdW y a (I, va_up A 25 (upd f j x), L)) H1 → va_D B (mdW y a (I, va_up A 25 (upd f j x), L)) → va_S B H0 H1 locs1 → W p l e R s m args below meth c H1 locs1 cells slots Q (F0 m (pc + 1) ls rest)) : W p l e R s m args below meth c H locs cells slots Q (F0 m pc ls (.int x :: .int i :: .ref (a 25) :: rest)) := by
  subst ha
  exact ar_ist (f := A 25) hexec hb hK hP hD hS 22 0 rfl rfl hj hin hdg kk
theorem mst_26 (hexec : p.tables.exec = Jvm.exec) (hb : c.code = cc) (hK : va_K (dC, dI) vwCl (ty5 y) s) (hP : va_P (dC, dI) vwCl (mdW y a (I, A, L)) H) (hD : va_D B (mdW y a (I, A, L))) (hS : va_S B H0 H locs) {f : Nat → Int32} (ha : A 26 = f) {i : Int32} {x : Int32} {j : Nat} (hj : i.toNatClampNeg = j) (hin : vp_in i 5) (hdg : decode cc pc = .ok (.iastore, 1))
    (kk : ∀ (H1 : Heap) (locs1 : List Loc), va_P (dC, dI) vwCl (mdW y a (I, va_up A 26 (upd f j x), L)) H1 → va_D B (mdW y a (I, va_up A 26 (upd f j x), L)) → va_S B H0 H1 locs1 → W p l e R s m args below meth c H1 locs1 cells slots Q (F0 m (pc + 1) ls rest)) : W p l e R s m args below meth c H locs cells slots Q (F0 m pc ls (.int x :: .int i :: .ref (a 26) :: rest)) := by
  subst ha
  exact ar_ist (f := A 26) hexec hb hK hP hD hS 23 0 rfl rfl hj hin hdg kk
theorem mst_27 (hexec : p.tables.exec = Jvm.exec) (hb : c.code = cc) (hK : va_K (dC, dI) vwCl (ty5 y) s) (hP : va_P (dC, dI) vwCl (mdW y a (I, A, L)) H) (hD : va_D B (mdW y a (I, A, L))) (hS : va_S B H0 H locs) {f : Nat → Int32} (ha : A 27 = f) {i : Int32} {x : Int32} {j : Nat} (hj : i.toNatClampNeg = j) (hin : vp_in i 5) (hdg : decode cc pc = .ok (.iastore, 1))
    (kk : ∀ (H1 : Heap) (locs1 : List Loc), va_P (dC, dI) vwCl (mdW y a (I, va_up A 27 (upd f j x), L)) H1 → va_D B (mdW y a (I, va_up A 27 (upd f j x), L)) → va_S B H0 H1 locs1 → W p l e R s m args below meth c H1 locs1 cells slots Q (F0 m (pc + 1) ls rest)) : W p l e R s m args below meth c H locs cells slots Q (F0 m pc ls (.int x :: .int i :: .ref (a 27) :: rest)) := by
  subst ha
  exact ar_ist (f := A 27) hexec hb hK hP hD hS 24 0 rfl rfl hj hin hdg kk
theorem mst_28 (hexec : p.tables.exec = Jvm.exec) (hb : c.code = cc) (hK : va_K (dC, dI) vwCl (ty5 y) s) (hP : va_P (dC, dI) vwCl (mdW y a (I, A, L)) H) (hD : va_D B (mdW y a (I, A, L))) (hS : va_S B H0 H locs) {f : Nat → Int32} (ha : A 28 = f) {i : Int32} {x : Int32} {j : Nat} (hj : i.toNatClampNeg = j) (hin : vp_in i 5) (hdg : decode cc pc = .ok (.iastore, 1))
    (kk : ∀ (H1 : Heap) (locs1 : List Loc), va_P (dC, dI) vwCl (mdW y a (I, va_up A 28 (upd f j x), L)) H1 → va_D B (mdW y a (I, va_up A 28 (upd f j x), L)) → va_S B H0 H1 locs1 → W p l e R s m args below meth c H1 locs1 cells slots Q (F0 m (pc + 1) ls rest)) : W p l e R s m args below meth c H locs cells slots Q (F0 m pc ls (.int x :: .int i :: .ref (a 28) :: rest)) := by
  subst ha
  exact ar_ist (f := A 28) hexec hb hK hP hD hS 25 0 rfl rfl hj hin hdg kk
theorem mst_29 (hexec : p.tables.exec = Jvm.exec) (hb : c.code = cc) (hK : va_K (dC, dI) vwCl (ty5 y) s) (hP : va_P (dC, dI) vwCl (mdW y a (I, A, L)) H) (hD : va_D B (mdW y a (I, A, L))) (hS : va_S B H0 H locs) {f : Nat → Int32} (ha : A 29 = f) {i : Int32} {x : Int32} {j : Nat} (hj : i.toNatClampNeg = j) (hin : vp_in i 5) (hdg : decode cc pc = .ok (.iastore, 1))
    (kk : ∀ (H1 : Heap) (locs1 : List Loc), va_P (dC, dI) vwCl (mdW y a (I, va_up A 29 (upd f j x), L)) H1 → va_D B (mdW y a (I, va_up A 29 (upd f j x), L)) → va_S B H0 H1 locs1 → W p l e R s m args below meth c H1 locs1 cells slots Q (F0 m (pc + 1) ls rest)) : W p l e R s m args below meth c H locs cells slots Q (F0 m pc ls (.int x :: .int i :: .ref (a 29) :: rest)) := by
  subst ha
  exact ar_ist (f := A 29) hexec hb hK hP hD hS 26 0 rfl rfl hj hin hdg kk
theorem mst_30 (hexec : p.tables.exec = Jvm.exec) (hb : c.code = cc) (hK : va_K (dC, dI) vwCl (ty5 y) s) (hP : va_P (dC, dI) vwCl (mdW y a (I, A, L)) H) (hD : va_D B (mdW y a (I, A, L))) (hS : va_S B H0 H locs) {f : Nat → Int32} (ha : A 30 = f) {i : Int32} {x : Int32} {j : Nat} (hj : i.toNatClampNeg = j) (hin : vp_in i 5) (hdg : decode cc pc = .ok (.iastore, 1))
    (kk : ∀ (H1 : Heap) (locs1 : List Loc), va_P (dC, dI) vwCl (mdW y a (I, va_up A 30 (upd f j x), L)) H1 → va_D B (mdW y a (I, va_up A 30 (upd f j x), L)) → va_S B H0 H1 locs1 → W p l e R s m args below meth c H1 locs1 cells slots Q (F0 m (pc + 1) ls rest)) : W p l e R s m args below meth c H locs cells slots Q (F0 m pc ls (.int x :: .int i :: .ref (a 30) :: rest)) := by
  subst ha
  exact ar_ist (f := A 30) hexec hb hK hP hD hS 27 0 rfl rfl hj hin hdg kk
theorem mst_31 (hexec : p.tables.exec = Jvm.exec) (hb : c.code = cc) (hK : va_K (dC, dI) vwCl (ty5 y) s) (hP : va_P (dC, dI) vwCl (mdW y a (I, A, L)) H) (hD : va_D B (mdW y a (I, A, L))) (hS : va_S B H0 H locs) {f : Nat → Int32} (ha : A 31 = f) {i : Int32} {x : Int32} {j : Nat} (hj : i.toNatClampNeg = j) (hin : vp_in i 200) (hdg : decode cc pc = .ok (.iastore, 1))
    (kk : ∀ (H1 : Heap) (locs1 : List Loc), va_P (dC, dI) vwCl (mdW y a (I, va_up A 31 (upd f j x), L)) H1 → va_D B (mdW y a (I, va_up A 31 (upd f j x), L)) → va_S B H0 H1 locs1 → W p l e R s m args below meth c H1 locs1 cells slots Q (F0 m (pc + 1) ls rest)) : W p l e R s m args below meth c H locs cells slots Q (F0 m pc ls (.int x :: .int i :: .ref (a 31) :: rest)) := by
  subst ha
  exact ar_ist (f := A 31) hexec hb hK hP hD hS 28 0 rfl rfl hj hin hdg kk
theorem mst_33 (hexec : p.tables.exec = Jvm.exec) (hb : c.code = cc) (hK : va_K (dC, dI) vwCl (ty5 y) s) (hP : va_P (dC, dI) vwCl (mdW y a (I, A, L)) H) (hD : va_D B (mdW y a (I, A, L))) (hS : va_S B H0 H locs) {f : Nat → Int32} (ha : A 33 = f) {i : Int32} {x : Int32} {j : Nat} (hj : i.toNatClampNeg = j) (hin : vp_in i 128) (hdg : decode cc pc = .ok (.iastore, 1))
    (kk : ∀ (H1 : Heap) (locs1 : List Loc), va_P (dC, dI) vwCl (mdW y a (I, va_up A 33 (upd f j x), L)) H1 → va_D B (mdW y a (I, va_up A 33 (upd f j x), L)) → va_S B H0 H1 locs1 → W p l e R s m args below meth c H1 locs1 cells slots Q (F0 m (pc + 1) ls rest)) : W p l e R s m args below meth c H locs cells slots Q (F0 m pc ls (.int x :: .int i :: .ref (a 33) :: rest)) := by
  subst ha
  exact ar_ist (f := A 33) hexec hb hK hP hD hS 29 0 rfl rfl hj hin hdg kk
theorem mput_0 {index : Nat} {Ts : List Cond} (hexec : p.tables.exec = Jvm.exec) (hb : c.code = cc) (hts : ∀ w ∈ Ts, w.before args s = true) (hin : ∀ w ∈ wsX50, w ∈ Ts) (hown : s.vm.findClass RX5 = some m.cls) (hK : va_K (dC, dI) vwCl (ty5 y) s) (hP : va_P (dC, dI) vwCl (mdW y a (I, A, L)) H) (hD : va_D B (mdW y a (I, A, L))) (hS : va_S B H0 H locs) {v : Int32} (hlink : (Cond.fieldLink RX5 index "SharedWireModel" (TX5 0).2.1 (TX5 0).2.2.1).before args s = true) (hdg : decode cc pc = .ok (.putfield index, 3))
    (kk : ∀ (H1 : Heap) (locs1 : List Loc), va_P (dC, dI) vwCl (mdW y a (va_up I 0 v, A, L)) H1 → va_D B (mdW y a (va_up I 0 v, A, L)) → va_S B H0 H1 locs1 → W p l e R s m args below meth c H1 locs1 cells slots Q (F0 m (pc + 3) ls rest)) : W p l e R s m args below meth c H locs cells slots Q (F0 m pc ls (.int v :: .ref (a 0) :: rest)) := by
  exact va_put (D := (dC, dI)) (ci := 5) (v := .int v) (ty := .int) (C := RX5) (T := TX5) (N := 35) hexec hb hts hin tyX5 tyX5_ok nmX5 hown hK hP hD hS 0 rfl rfl 0 (by decide) hlink (fun _ h9 => h9) rfl (by decide +kernel) rfl rfl (Nat.le_of_ble_eq_true rfl) hdg kk
theorem mput_1 {index : Nat} {Ts : List Cond} (hexec : p.tables.exec = Jvm.exec) (hb : c.code = cc) (hts : ∀ w ∈ Ts, w.before args s = true) (hin : ∀ w ∈ wsX50, w ∈ Ts) (hown : s.vm.findClass RX5 = some m.cls) (hK : va_K (dC, dI) vwCl (ty5 y) s) (hP : va_P (dC, dI) vwCl (mdW y a (I, A, L)) H) (hD : va_D B (mdW y a (I, A, L))) (hS : va_S B H0 H locs) {v : Int32} (hlink : (Cond.fieldLink RX5 index "SharedWireModel" (TX5 1).2.1 (TX5 1).2.2.1).before args s = true) (hdg : decode cc pc = .ok (.putfield index, 3))
    (kk : ∀ (H1 : Heap) (locs1 : List Loc), va_P (dC, dI) vwCl (mdW y a (va_up I 1 v, A, L)) H1 → va_D B (mdW y a (va_up I 1 v, A, L)) → va_S B H0 H1 locs1 → W p l e R s m args below meth c H1 locs1 cells slots Q (F0 m (pc + 3) ls rest)) : W p l e R s m args below meth c H locs cells slots Q (F0 m pc ls (.int v :: .ref (a 0) :: rest)) := by
  exact va_put (D := (dC, dI)) (ci := 5) (v := .int v) (ty := .int) (C := RX5) (T := TX5) (N := 35) hexec hb hts hin tyX5 tyX5_ok nmX5 hown hK hP hD hS 0 rfl rfl 1 (by decide) hlink (fun _ h9 => h9) rfl (by decide +kernel) rfl rfl (Nat.le_of_ble_eq_true rfl) hdg kk
theorem mput_2 {index : Nat} {Ts : List Cond} (hexec : p.tables.exec = Jvm.exec) (hb : c.code = cc) (hts : ∀ w ∈ Ts, w.before args s = true) (hin : ∀ w ∈ wsX50, w ∈ Ts) (hown : s.vm.findClass RX5 = some m.cls) (hK : va_K (dC, dI) vwCl (ty5 y) s) (hP : va_P (dC, dI) vwCl (mdW y a (I, A, L)) H) (hD : va_D B (mdW y a (I, A, L))) (hS : va_S B H0 H locs) {v : Int32} (hlink : (Cond.fieldLink RX5 index "SharedWireModel" (TX5 2).2.1 (TX5 2).2.2.1).before args s = true) (hdg : decode cc pc = .ok (.putfield index, 3))
    (kk : ∀ (H1 : Heap) (locs1 : List Loc), va_P (dC, dI) vwCl (mdW y a (va_up I 2 v, A, L)) H1 → va_D B (mdW y a (va_up I 2 v, A, L)) → va_S B H0 H1 locs1 → W p l e R s m args below meth c H1 locs1 cells slots Q (F0 m (pc + 3) ls rest)) : W p l e R s m args below meth c H locs cells slots Q (F0 m pc ls (.int v :: .ref (a 0) :: rest)) := by
  exact va_put (D := (dC, dI)) (ci := 5) (v := .int v) (ty := .int) (C := RX5) (T := TX5) (N := 35) hexec hb hts hin tyX5 tyX5_ok nmX5 hown hK hP hD hS 0 rfl rfl 2 (by decide) hlink (fun _ h9 => h9) rfl (by decide +kernel) rfl rfl (Nat.le_of_ble_eq_true rfl) hdg kk
theorem mput_24 {index : Nat} {Ts : List Cond} (hexec : p.tables.exec = Jvm.exec) (hb : c.code = cc) (hts : ∀ w ∈ Ts, w.before args s = true) (hin : ∀ w ∈ wsX50, w ∈ Ts) (hown : s.vm.findClass RX5 = some m.cls) (hK : va_K (dC, dI) vwCl (ty5 y) s) (hP : va_P (dC, dI) vwCl (mdW y a (I, A, L)) H) (hD : va_D B (mdW y a (I, A, L))) (hS : va_S B H0 H locs) {v : Int32} (hlink : (Cond.fieldLink RX5 index "SharedWireModel" (TX5 24).2.1 (TX5 24).2.2.1).before args s = true) (hdg : decode cc pc = .ok (.putfield index, 3))
    (kk : ∀ (H1 : Heap) (locs1 : List Loc), va_P (dC, dI) vwCl (mdW y a (va_up I 24 v, A, L)) H1 → va_D B (mdW y a (va_up I 24 v, A, L)) → va_S B H0 H1 locs1 → W p l e R s m args below meth c H1 locs1 cells slots Q (F0 m (pc + 3) ls rest)) : W p l e R s m args below meth c H locs cells slots Q (F0 m pc ls (.int v :: .ref (a 0) :: rest)) := by
  exact va_put (D := (dC, dI)) (ci := 5) (v := .int v) (ty := .int) (C := RX5) (T := TX5) (N := 35) hexec hb hts hin tyX5 tyX5_ok nmX5 hown hK hP hD hS 0 rfl rfl 24 (by decide) hlink (fun _ h9 => h9) rfl (by decide +kernel) rfl rfl (Nat.le_of_ble_eq_true rfl) hdg kk
theorem mput_32 {index : Nat} {Ts : List Cond} (hexec : p.tables.exec = Jvm.exec) (hb : c.code = cc) (hts : ∀ w ∈ Ts, w.before args s = true) (hin : ∀ w ∈ wsX50, w ∈ Ts) (hown : s.vm.findClass RX5 = some m.cls) (hK : va_K (dC, dI) vwCl (ty5 y) s) (hP : va_P (dC, dI) vwCl (mdW y a (I, A, L)) H) (hD : va_D B (mdW y a (I, A, L))) (hS : va_S B H0 H locs) {v : Int32} (hlink : (Cond.fieldLink RX5 index "SharedWireModel" (TX5 32).2.1 (TX5 32).2.2.1).before args s = true) (hdg : decode cc pc = .ok (.putfield index, 3))
    (kk : ∀ (H1 : Heap) (locs1 : List Loc), va_P (dC, dI) vwCl (mdW y a (va_up I 32 v, A, L)) H1 → va_D B (mdW y a (va_up I 32 v, A, L)) → va_S B H0 H1 locs1 → W p l e R s m args below meth c H1 locs1 cells slots Q (F0 m (pc + 3) ls rest)) : W p l e R s m args below meth c H locs cells slots Q (F0 m pc ls (.int v :: .ref (a 0) :: rest)) := by
  exact va_put (D := (dC, dI)) (ci := 5) (v := .int v) (ty := .int) (C := RX5) (T := TX5) (N := 35) hexec hb hts hin tyX5 tyX5_ok nmX5 hown hK hP hD hS 0 rfl rfl 32 (by decide) hlink (fun _ h9 => h9) rfl (by decide +kernel) rfl rfl (Nat.le_of_ble_eq_true rfl) hdg kk
theorem mput_34 {index : Nat} {Ts : List Cond} (hexec : p.tables.exec = Jvm.exec) (hb : c.code = cc) (hts : ∀ w ∈ Ts, w.before args s = true) (hin : ∀ w ∈ wsX50, w ∈ Ts) (hown : s.vm.findClass RX5 = some m.cls) (hK : va_K (dC, dI) vwCl (ty5 y) s) (hP : va_P (dC, dI) vwCl (mdW y a (I, A, L)) H) (hD : va_D B (mdW y a (I, A, L))) (hS : va_S B H0 H locs) {v : Int32} (hlink : (Cond.fieldLink RX5 index "SharedWireModel" (TX5 34).2.1 (TX5 34).2.2.1).before args s = true) (hdg : decode cc pc = .ok (.putfield index, 3))
    (kk : ∀ (H1 : Heap) (locs1 : List Loc), va_P (dC, dI) vwCl (mdW y a (va_up I 34 v, A, L)) H1 → va_D B (mdW y a (va_up I 34 v, A, L)) → va_S B H0 H1 locs1 → W p l e R s m args below meth c H1 locs1 cells slots Q (F0 m (pc + 3) ls rest)) : W p l e R s m args below meth c H locs cells slots Q (F0 m pc ls (.int v :: .ref (a 0) :: rest)) := by
  exact va_put (D := (dC, dI)) (ci := 5) (v := .int v) (ty := .int) (C := RX5) (T := TX5) (N := 35) hexec hb hts hin tyX5 tyX5_ok nmX5 hown hK hP hD hS 0 rfl rfl 34 (by decide) hlink (fun _ h9 => h9) rfl (by decide +kernel) rfl rfl (Nat.le_of_ble_eq_true rfl) hdg kk
end MR
end
section
/-! a store into a node's row of wanted frames -/
section NS
variable {p : Program} {l : Launch} {e : Env} {R : Room} {s : State} {m : MethodId} {args : Array Value} {below : List Frame} {meth : Method} {c : Code} {H : Heap} {locs : List Loc} {cells slots : Nat} {Q : State → Prop}
variable {cc : ByteArray} {pc : Nat} {ls : Array Slot} {rest : List Value} {dC : Nat → ClassId} {dI : Nat → Nat → Nat} {y : Nat → ClassId} {a : NodeA} {B : Nat → Prop} {H0 : Heap} {g : Nat → Nat} {N : NodeS}
theorem nst (hexec : p.tables.exec = Jvm.exec) (hb : c.code = cc) (hK : va_K (dC, dI) vwCl (ty5 y) s) (hP : va_P (dC, dI) vwCl (ndX y a g N) H) (hD : va_D B (ndX y a g N)) (hS : va_S B H0 H locs) {i : Int32} {j k : Nat} (hk : (ndX y a g N)[2 + k]? = some (a.2.2.1 k, frE (N.2.2.2.2.2.2.2.2.2.2.2.1 k))) (hj : i.toNatClampNeg = j) (hin : vp_in i 4) (hdg : decode cc pc = .ok (.aastore, 1))
    (kk : ∀ (H1 : Heap) (locs1 : List Loc), va_P (dC, dI) vwCl (ndX y a (va_up g j (a.2.2.1 k)) N) H1 → va_D B (ndX y a (va_up g j (a.2.2.1 k)) N) → va_S B H0 H1 locs1 → W p l e R s m args below meth c H1 locs1 cells slots Q (F0 m (pc + 1) ls rest)) : W p l e R s m args below meth c H locs cells slots Q (F0 m pc ls (.ref (a.2.2.1 k) :: .int i :: .ref a.2.1 :: rest)) := by
  subst hj
  refine va_astq hexec hb hK hP hD hS 1 3 (2 + k) 0 rfl rfl hk rfl hin hdg (fun H1 locs1 h1 h2 h3 => ?_)
  rw [up_some] at h1 h2
  exact kk H1 locs1 h1 h2 h3
end NS
end
section
/-! methods that may throw: premises, contracts, ends -/
def XW (U : State) : Prop := va_Nw (.declares (Bundle.init0 "java/lang/RuntimeException")) U ∧ va_Nw (.declares (Bundle.init0 "java/lang/Exception")) U ∧ va_Nw (.declares (Bundle.init0 Bundle.tN)) U ∧ va_Nw (.castable "java/lang/IndexOutOfBoundsException" "java/lang/IndexOutOfBoundsException") U ∧ va_Nw (.castable "java/lang/IllegalArgumentException" "java/lang/IllegalArgumentException") U ∧ va_Nw (.castable "java/lang/UnsupportedOperationException" "java/lang/UnsupportedOperationException") U ∧ va_Nw (.castable "java/util/NoSuchElementException" "java/util/NoSuchElementException") U
theorem XW.warm {s U : State} (hW : s.WarmedH U.vm) (h : XW s) : XW U := by
  obtain ⟨h1, h2, h3, h4, h5, h6, h7⟩ := h
  exact ⟨va_Nw.warmD hW h1, va_Nw.warmD hW h2, va_Nw.warmD hW h3, va_Nw.warmC hW h4, va_Nw.warmC hW h5, va_Nw.warmC hW h6, va_Nw.warmC hW h7⟩
theorem XW.same {u U : State} (hv : u.vm = U.vm) (h : XW u) : XW U := by
  obtain ⟨h1, h2, h3, h4, h5, h6, h7⟩ := h
  exact ⟨va_Nw.same rfl hv h1, va_Nw.same rfl hv h2, va_Nw.same rfl hv h3, va_Nw.same rfl hv h4, va_Nw.same rfl hv h5, va_Nw.same rfl hv h6, va_Nw.same rfl hv h7⟩
/-- Throwable's two statics lie outside A -/
def ZW (A : Nat → Prop) (U : State) (H : Heap) : Prop := vx_Zq Bundle.tN "UNASSIGNED_STACK" Bundle.steD A U H ∧ vx_Zq Bundle.tN "SUPPRESSED_SENTINEL" Bundle.listD A U H
theorem ZW.moved {A : Nat → Prop} {u U : State} {H : Heap} (hvm : u.vm.Alike U.vm) (h : ZW A u H) : ZW A U H := ⟨h.1.moved hvm, h.2.moved hvm⟩
theorem ZW.kept {A : Nat → Prop} {U : State} {H H1 : Heap} (h : ZW A U H) (hq : ∀ a : Nat, a < H.size → ¬ A a → H1[a]? = H[a]?) : ZW A U H1 := ⟨h.1.kept hq, h.2.kept hq⟩
theorem ZW.narrow {A B : Nat → Prop} {U : State} {H : Heap} (h : ZW A U H) (hAB : ∀ q, B q → A q) : ZW B U H := ⟨h.1.narrow hAB, h.2.narrow hAB⟩
def PX (dC : Nat → ClassId) (dI : Nat → Nat → Nat) (y : Nat → ClassId) (av : List Value) (w : va_W) (sz : Nat) : Array Value → State → Prop := va_Pc av (fun U => U.heap.size = sz ∧ va_P (dC, dI) vwCl w U.heap ∧ KW dC dI y U ∧ XW U ∧ ZW (va_A w sz) U U.heap ∧ va_D (fun _ => True) w)
theorem PX.blind {dC : Nat → ClassId} {dI : Nat → Nat → Nat} {y : Nat → ClassId} {av : List Value} {w : va_W} {sz : Nat} : FrameBlind (PX dC dI y av w sz) := by
  intro a U g mk q
  obtain ⟨q0, q1, qP, qK, qX, qZ, qD⟩ := q
  exact ⟨q0, q1, qP, ⟨va_K.moved (u := U) (U := U.calling g mk a) (Vm.Alike.refl U.vm) qK.1, NW.same (u := U) rfl qK.2⟩, XW.same (u := U) rfl qX, ZW.moved (u := U) (U := U.calling g mk a) (Vm.Alike.refl U.vm) qZ, qD⟩
/-- how it may leave: which exception, over which world -/
def XE {S : Type} (dC : Nat → ClassId) (dI : Nat → Nat → Nat) (A : Nat → Prop) (world : S → va_W) (KE : String → S → Prop) : String → State → State → Prop := vx_X (fun _ : S => True) (fun E u t => KE E u ∧ va_P (dC, dI) vwCl (world u) t.heap ∧ va_D A (world u)) A
def MIX {S : Type} (l : Launch) (x : MethodName) (ws : List Cond) (rm : Room) (dC : Nat → ClassId) (dI : Nat → Nat → Nat) (y : Nat → ClassId) (av : List Value) (w : va_W) (sz : Nat) (world : S → va_W) (K : Int32 → S → Prop) (KE : String → S → Prop) : Prop := vx_Met l x ws rm (PX dC dI y av w sz) (va_Qi K (BW dC dI (va_A w sz) world) (va_A w sz)) (XE dC dI (va_A w sz) world KE) 1 6 (va_A w sz)
def MLX {S : Type} (l : Launch) (x : MethodName) (ws : List Cond) (rm : Room) (dC : Nat → ClassId) (dI : Nat → Nat → Nat) (y : Nat → ClassId) (av : List Value) (w : va_W) (sz : Nat) (world : S → va_W) (K : Int64 → S → Prop) (KE : String → S → Prop) : Prop := vx_Met l x ws rm (PX dC dI y av w sz) (va_Ql K (BW dC dI (va_A w sz) world) (va_A w sz)) (XE dC dI (va_A w sz) world KE) 1 6 (va_A w sz)
def MVX {S : Type} (l : Launch) (x : MethodName) (ws : List Cond) (rm : Room) (dC : Nat → ClassId) (dI : Nat → Nat → Nat) (y : Nat → ClassId) (av : List Value) (w : va_W) (sz : Nat) (world : S → va_W) (K : S → Prop) (KE : String → S → Prop) : Prop := vx_Met l x ws rm (PX dC dI y av w sz) (va_Qv K (BW dC dI (va_A w sz) world) (va_A w sz)) (XE dC dI (va_A w sz) world KE) 1 6 (va_A w sz)
theorem xe_of {S : Type} {dC : Nat → ClassId} {dI : Nat → Nat → Nat} {A : Nat → Prop} {world : S → va_W} {KE : String → S → Prop} {s t : State} {H : Heap} {locs : List Loc} {E : String} (u : S) (hf : KE E u) (hP : va_P (dC, dI) vwCl (world u) H) (hD : va_D A (world u)) (hS : va_S A s.heap H locs) (hz : H.size ≤ t.heap.size) (hk : ∀ q : Nat, q < H.size → t.heap[q]? = H[q]?) : XE dC dI A world KE E s t :=
  ⟨u, trivial, ⟨hf, hP.kept (fun k q hq => hk q.1 (hP k q hq).lt), hD⟩, Nat.le_trans hS.1 hz, fun q h1 h2 => (hk q (Nat.lt_of_lt_of_le h1 hS.1)).trans (hS.2.1 q h1 h2)⟩
abbrev exN : List String := ["java/lang/RuntimeException", "java/lang/Exception"]
set_option maxRecDepth 20000 in
theorem hat_50 {args : Array Value} {s : State} (h1 : ∀ w ∈ (vx_at0 RX4 50 "java/lang/IndexOutOfBoundsException" exN).filter goodWord, w.before args s = true) (hX : XW s) : ∀ w ∈ vx_at0 RX4 50 "java/lang/IndexOutOfBoundsException" exN, w.before args s = true :=
  vx_hat (B := [.declares (Bundle.init0 "java/lang/RuntimeException"), .declares (Bundle.init0 "java/lang/Exception"), .declares (Bundle.init0 Bundle.tN), .castable "java/lang/IndexOutOfBoundsException" "java/lang/IndexOutOfBoundsException"]) h1 (by decide +kernel) (vx_c (va_Nw.use rfl hX.1) (vx_c (va_Nw.use rfl hX.2.1) (vx_c (va_Nw.use rfl hX.2.2.1) (vx_c (va_Nw.use rfl hX.2.2.2.1) vx_n))))
set_option maxRecDepth 20000 in
theorem hat_53 {args : Array Value} {s : State} (h1 : ∀ w ∈ (vx_at0 RX4 53 "java/lang/IllegalArgumentException" exN).filter goodWord, w.before args s = true) (hX : XW s) : ∀ w ∈ vx_at0 RX4 53 "java/lang/IllegalArgumentException" exN, w.before args s = true :=
  vx_hat (B := [.declares (Bundle.init0 "java/lang/RuntimeException"), .declares (Bundle.init0 "java/lang/Exception"), .declares (Bundle.init0 Bundle.tN), .castable "java/lang/IllegalArgumentException" "java/lang/IllegalArgumentException"]) h1 (by decide +kernel) (vx_c (va_Nw.use rfl hX.1) (vx_c (va_Nw.use rfl hX.2.1) (vx_c (va_Nw.use rfl hX.2.2.1) (vx_c (va_Nw.use rfl hX.2.2.2.2.1) vx_n))))
set_option maxRecDepth 20000 in
theorem hat_59 {args : Array Value} {s : State} (h1 : ∀ w ∈ (vx_at0 RX4 59 "java/lang/UnsupportedOperationException" exN).filter goodWord, w.before args s = true) (hX : XW s) : ∀ w ∈ vx_at0 RX4 59 "java/lang/UnsupportedOperationException" exN, w.before args s = true :=
  vx_hat (B := [.declares (Bundle.init0 "java/lang/RuntimeException"), .declares (Bundle.init0 "java/lang/Exception"), .declares (Bundle.init0 Bundle.tN), .castable "java/lang/UnsupportedOperationException" "java/lang/UnsupportedOperationException"]) h1 (by decide +kernel) (vx_c (va_Nw.use rfl hX.1) (vx_c (va_Nw.use rfl hX.2.1) (vx_c (va_Nw.use rfl hX.2.2.1) (vx_c (va_Nw.use rfl hX.2.2.2.2.2.1) vx_n))))
set_option maxRecDepth 20000 in
theorem hat_95 {args : Array Value} {s : State} (h1 : ∀ w ∈ (vx_at0 RX4 95 "java/util/NoSuchElementException" exN).filter goodWord, w.before args s = true) (hX : XW s) : ∀ w ∈ vx_at0 RX4 95 "java/util/NoSuchElementException" exN, w.before args s = true :=
  vx_hat (B := [.declares (Bundle.init0 "java/lang/RuntimeException"), .declares (Bundle.init0 "java/lang/Exception"), .declares (Bundle.init0 Bundle.tN), .castable "java/util/NoSuchElementException" "java/util/NoSuchElementException"]) h1 (by decide +kernel) (vx_c (va_Nw.use rfl hX.1) (vx_c (va_Nw.use rfl hX.2.1) (vx_c (va_Nw.use rfl hX.2.2.1) (vx_c (va_Nw.use rfl hX.2.2.2.2.2.2) vx_n))))
set_option maxRecDepth 20000 in
theorem got_50 : ∀ w ∈ Cond.classLink RX4 48 "java/lang/IndexOutOfBoundsException" :: Cond.initialized "java/lang/IndexOutOfBoundsException" :: vx_at0 RX4 50 "java/lang/IndexOutOfBoundsException" exN, vx_ot w = true := by decide +kernel
set_option maxRecDepth 20000 in
theorem got_53 : ∀ w ∈ Cond.classLink RX4 51 "java/lang/IllegalArgumentException" :: Cond.initialized "java/lang/IllegalArgumentException" :: vx_at0 RX4 53 "java/lang/IllegalArgumentException" exN, vx_ot w = true := by decide +kernel
set_option maxRecDepth 20000 in
theorem got_59 : ∀ w ∈ Cond.classLink RX4 57 "java/lang/UnsupportedOperationException" :: Cond.initialized "java/lang/UnsupportedOperationException" :: vx_at0 RX4 59 "java/lang/UnsupportedOperationException" exN, vx_ot w = true := by decide +kernel
set_option maxRecDepth 20000 in
theorem got_95 : ∀ w ∈ Cond.classLink RX4 93 "java/util/NoSuchElementException" :: Cond.initialized "java/util/NoSuchElementException" :: vx_at0 RX4 95 "java/util/NoSuchElementException" exN, vx_ot w = true := by decide +kernel
end
section
/-! constructors: contracts that make cells, new arrays of known classes, calls of constructors -/
def OW (U : State) : Prop := va_AO RX0 U ∧ va_AO RX2 U
theorem OW.moved {u U : State} (hvm : u.vm.Alike U.vm) (h : OW u) : OW U := ⟨h.1.moved hvm, h.2.moved hvm⟩
def PC (dC : Nat → ClassId) (dI : Nat → Nat → Nat) (y : Nat → ClassId) (av : List Value) (w : va_W) (sz : Nat) : Array Value → State → Prop := va_Pc av (fun U => U.heap.size = sz ∧ va_P (dC, dI) vwCl w U.heap ∧ KW dC dI y U ∧ OW U ∧ va_D (fun _ => True) w)
theorem PC.blind {dC : Nat → ClassId} {dI : Nat → Nat → Nat} {y : Nat → ClassId} {av : List Value} {w : va_W} {sz : Nat} : FrameBlind (PC dC dI y av w sz) := by
  intro a U g mk q
  obtain ⟨q0, q1, qP, qK, qO, qD⟩ := q
  exact ⟨q0, q1, qP, ⟨va_K.moved (u := U) (U := U.calling g mk a) (Vm.Alike.refl U.vm) qK.1, NW.same (u := U) rfl qK.2⟩, OW.moved (u := U) (U := U.calling g mk a) (Vm.Alike.refl U.vm) qO, qD⟩
/-- a constructor: mc cells of ms slots come; the world of u -/
def MC {S : Type} (l : Launch) (x : MethodName) (ws : List Cond) (rm : Room) (dC : Nat → ClassId) (dI : Nat → Nat → Nat) (y : Nat → ClassId) (av : List Value) (w : va_W) (sz : Nat) (world : S → va_W) (K : S → Prop) (mc ms : Nat) : Prop := Met l x ws rm (PC dC dI y av w sz) (va_Qv K (BW dC dI (va_A w sz) world) (va_A w sz)) mc ms (va_A w sz)
theorem PC.of {dC : Nat → ClassId} {dI : Nat → Nat → Nat} {y : Nat → ClassId} {As : List Value} {pre blk post : va_W} {A0 : Nat → Prop} {s : State} {H : Heap} (hP : va_P (dC, dI) vwCl (pre ++ (blk ++ post)) H) (hD : va_D A0 (pre ++ (blk ++ post))) (hK : KW dC dI y s) (hO : OW s) : ∀ U : State, U.heap = H → s.WarmedH U.vm → PC dC dI y As blk H.size As.toArray U :=
  fun U hU hW => ⟨rfl, by rw [hU], by rw [hU]; exact hP.right.left, hK.warm hW, hO.moved hW.alike, hD.right.left.weaken (fun _ _ _ _ => trivial)⟩
theorem arrq_ext (cA : ClassId) {n : Nat} {f g : Nat → Option Nat} (h : ∀ j, j < n → f j = g j) : vp_cell cA (n, .inr (.inr (.inr (.inr f)))) = vp_cell cA (n, .inr (.inr (.inr (.inr g)))) := by
  rw [vp_cell_q, vp_cell_q]
  unfold arrV
  congr 1
  refine Array.ext (by simp) (fun i h1 h2 => ?_)
  simp only [Array.getElem_ofFn]
  rw [h i (by simpa using h1)]
/-- a row of references told by another function, the same where the row is -/
theorem va_P.rowq {D : va_G} {cl : List vw_C} {w1 w2 : va_W} {a : Nat} {cA : ClassId} {n : Nat} {f g : Nat → Option Nat} {H : Heap} (hP : va_P D cl (w1 ++ (a, .inl (cA, n, .inr (.inr (.inr (.inr f))))) :: w2) H) (h : ∀ j, j < n → f j = g j) : va_P D cl (w1 ++ (a, .inl (cA, n, .inr (.inr (.inr (.inr g))))) :: w2) H := by
  intro k q hk
  by_cases hl : k < w1.length
  · rw [List.getElem?_append_left hl] at hk
    exact hP k q (by rw [List.getElem?_append_left hl]; exact hk)
  · rw [List.getElem?_append_right (by omega)] at hk
    cases hj : k - w1.length with
    | zero =>
      rw [hj, List.getElem?_cons_zero] at hk
      cases hk
      have h1 := hP k (a, .inl (cA, n, .inr (.inr (.inr (.inr f))))) (by rw [List.getElem?_append_right (by omega), hj, List.getElem?_cons_zero])
      show H[a]? = some (vp_cell cA (n, .inr (.inr (.inr (.inr g)))))
      rw [← arrq_ext cA h]
      exact h1
    | succ j =>
      rw [hj, List.getElem?_cons_succ] at hk
      exact hP k q (by rw [List.getElem?_append_right (by omega), hj, List.getElem?_cons_succ]; exact hk)
theorem va_D.rowq {A : Nat → Prop} {w1 w2 : va_W} {a : Nat} {e0 e1 : va_E} (hD : va_D A (w1 ++ (a, e0) :: w2)) : va_D A (w1 ++ (a, e1) :: w2) := by
  have h := hD.set (p := w1.length) (a := a) (e0 := e0) (e := e1) (by rw [List.getElem?_append_right (Nat.le_refl _), Nat.sub_self, List.getElem?_cons_zero])
  rwa [List.set_append_right _ _ (Nat.le_refl _), Nat.sub_self, List.set_cons_zero] at h
section CT
variable {p : Program} {l : Launch} {e : Env} {R : Room} {s : State} {m : MethodId} {args : Array Value} {below : List Frame} {meth : Method} {c : Code} {H : Heap} {locs : List Loc} {cells slots : Nat} {Q : State → Prop}
variable {cc : ByteArray} {pc : Nat} {ls : Array Slot} {rest st0 : List Value} {dC : Nat → ClassId} {dI : Nat → Nat → Nat} {y : Nat → ClassId} {A : Nat → Prop} {H0 : Heap} {ws : va_W}
theorem nw_int (hexec : p.tables.exec = Jvm.exec) (hb : c.code = cc) (harr : (Cond.arrayClass .int).before args s = true) (hK : KW dC dI y s) (hP : va_P (dC, dI) vwCl ws H) (hD : va_D A ws) (hS : va_S A H0 H locs) (hA : ∀ q, H0.size ≤ q → A q) {n : Int32} {N' : Nat} (hn : ¬ n < 0) (hN : n.toNatClampNeg = N') (hbytes : N' * componentBytes .int ≤ 536870912) (hcells : cells + 1 ≤ R.cells) (hslots : slots + N' ≤ R.slots) (hdg : decode cc pc = .ok (.newarray .int, 2))
    (kk : ∀ (q : Nat) (H1 : Heap), va_P (dC, dI) vwCl (ws ++ [(q, .inl (y 0, N', .inl (fun _ => 0)))]) H1 → va_D A (ws ++ [(q, .inl (y 0, N', .inl (fun _ => 0)))]) → va_S A H0 H1 locs → W p l e R s m args below meth c H1 locs (cells + 1) (slots + N') Q (F0 m (pc + 2) ls (.ref q :: rest))) : W p l e R s m args below meth c H locs cells slots Q (F0 m pc ls (.int n :: rest)) := by
  refine va_newa (atype := .int) (ty := .int) hexec hb harr rfl hK.1 hP hD hS hA (a0 := (N', .inl (fun _ => 0))) (fun _ => rfl) hn hN hbytes hcells hslots hdg (fun q cA H1 hK' h1 h2 h3 => ?_)
  have e9 : cA = y 0 := Option.some.inj ((show s.vm.findClass _ = some cA from (hK'.2 5 (cA, .int) rfl).2).symm.trans (hK.1.2 0 (y 0, .int) rfl).2)
  subst e9
  exact kk q H1 h1 h2 h3
theorem nw_long (hexec : p.tables.exec = Jvm.exec) (hb : c.code = cc) (harr : (Cond.arrayClass .long).before args s = true) (hK : KW dC dI y s) (hP : va_P (dC, dI) vwCl ws H) (hD : va_D A ws) (hS : va_S A H0 H locs) (hA : ∀ q, H0.size ≤ q → A q) {n : Int32} {N' : Nat} (hn : ¬ n < 0) (hN : n.toNatClampNeg = N') (hbytes : N' * componentBytes .long ≤ 536870912) (hcells : cells + 1 ≤ R.cells) (hslots : slots + N' ≤ R.slots) (hdg : decode cc pc = .ok (.newarray .long, 2))
    (kk : ∀ (q : Nat) (H1 : Heap), va_P (dC, dI) vwCl (ws ++ [(q, .inl (y 1, N', .inr (.inl (fun _ => 0))))]) H1 → va_D A (ws ++ [(q, .inl (y 1, N', .inr (.inl (fun _ => 0))))]) → va_S A H0 H1 locs → W p l e R s m args below meth c H1 locs (cells + 1) (slots + N') Q (F0 m (pc + 2) ls (.ref q :: rest))) : W p l e R s m args below meth c H locs cells slots Q (F0 m pc ls (.int n :: rest)) := by
  refine va_newa (atype := .long) (ty := .long) hexec hb harr rfl hK.1 hP hD hS hA (a0 := (N', .inr (.inl (fun _ => 0)))) (fun _ => rfl) hn hN hbytes hcells hslots hdg (fun q cA H1 hK' h1 h2 h3 => ?_)
  have e9 : cA = y 1 := Option.some.inj ((show s.vm.findClass _ = some cA from (hK'.2 5 (cA, .long) rfl).2).symm.trans (hK.1.2 1 (y 1, .long) rfl).2)
  subst e9
  exact kk q H1 h1 h2 h3
theorem nw_bool (hexec : p.tables.exec = Jvm.exec) (hb : c.code = cc) (harr : (Cond.arrayClass .boolean).before args s = true) (hK : KW dC dI y s) (hP : va_P (dC, dI) vwCl ws H) (hD : va_D A ws) (hS : va_S A H0 H locs) (hA : ∀ q, H0.size ≤ q → A q) {n : Int32} {N' : Nat} (hn : ¬ n < 0) (hN : n.toNatClampNeg = N') (hbytes : N' * componentBytes .boolean ≤ 536870912) (hcells : cells + 1 ≤ R.cells) (hslots : slots + N' ≤ R.slots) (hdg : decode cc pc = .ok (.newarray .boolean, 2))
    (kk : ∀ (q : Nat) (H1 : Heap), va_P (dC, dI) vwCl (ws ++ [(q, .inl (y 2, N', .inl (fun _ => 0)))]) H1 → va_D A (ws ++ [(q, .inl (y 2, N', .inl (fun _ => 0)))]) → va_S A H0 H1 locs → W p l e R s m args below meth c H1 locs (cells + 1) (slots + N') Q (F0 m (pc + 2) ls (.ref q :: rest))) : W p l e R s m args below meth c H locs cells slots Q (F0 m pc ls (.int n :: rest)) := by
  refine va_newa (atype := .boolean) (ty := .boolean) hexec hb harr rfl hK.1 hP hD hS hA (a0 := (N', .inl (fun _ => 0))) (fun _ => rfl) hn hN hbytes hcells hslots hdg (fun q cA H1 hK' h1 h2 h3 => ?_)
  have e9 : cA = y 2 := Option.some.inj ((show s.vm.findClass _ = some cA from (hK'.2 5 (cA, .boolean) rfl).2).symm.trans (hK.1.2 2 (y 2, .boolean) rfl).2)
  subst e9
  exact kk q H1 h1 h2 h3
theorem nw_q {own C : String} {index t0 : Nat} (ht0 : (ty5 y)[t0]? = some (y t0, .object C)) (hexec : p.tables.exec = Jvm.exec) (hb : c.code = cc) (hown : s.vm.findClass own = some m.cls) (hclink : (Cond.classLink own index C).before args s = true) (hover : va_AO C s) (hK : KW dC dI y s) (hP : va_P (dC, dI) vwCl ws H) (hD : va_D A ws) (hS : va_S A H0 H locs) (hA : ∀ q, H0.size ≤ q → A q) {n : Int32} {N' : Nat} (hn : ¬ n < 0) (hN : n.toNatClampNeg = N') (hbytes : N' * 4 ≤ 536870912) (hcells : cells + 1 ≤ R.cells) (hslots : slots + N' ≤ R.slots) (hdg : decode cc pc = .ok (.anewarray index, 3))
    (kk : ∀ (q : Nat) (H1 : Heap), va_P (dC, dI) vwCl (ws ++ [(q, .inl (y t0, N', .inr (.inr (.inr (.inr (fun _ => none))))))]) H1 → va_D A (ws ++ [(q, .inl (y t0, N', .inr (.inr (.inr (.inr (fun _ => none))))))]) → va_S A H0 H1 locs → W p l e R s m args below meth c H1 locs (cells + 1) (slots + N') Q (F0 m (pc + 3) ls (.ref q :: rest))) : W p l e R s m args below meth c H locs cells slots Q (F0 m pc ls (.int n :: rest)) := by
  refine va_newq hexec hb hown hclink hover hK.1 hP hD hS hA hn hN hbytes hcells hslots hdg (fun q cA H1 hK' h1 h2 h3 => ?_)
  have e9 : cA = y t0 := by
    obtain ⟨k1, c1, a1, a2, a3, a4⟩ := (hK'.2 5 (cA, .object C) rfl).2
    obtain ⟨k2, c2, b1, b2, b3, b4⟩ := (hK.1.2 t0 (y t0, .object C) ht0).2
    exact Option.some.inj (a4.symm.trans b4)
  subst e9
  exact kk q H1 h1 h2 h3
variable {x : MethodName} {bytes : ByteArray} {maxL nL index mc ms : Nat} {wsc : List Cond} {rm : Room} {Ts : List Cond} {own host : String} {b : Addr} {pre blk post : va_W} {S : Type} {world : S → va_W}
/-- a constructor is called; its object is the block -/
theorem kIN {K : S → Prop} (Sx : CallFix p m c cc nL s args Ts own) (hM : MC l x wsc rm dC dI y [.ref b] blk H.size world K mc ms) (cw : va_CN R s args own index x host bytes maxL none wsc rm mc ms 0 ∧ x.name = "<init>" ∧ (Cond.instanceMethod x).before args s = true) (hK : KW dC dI y s) (hO : OW s)
    (hP : va_P (dC, dI) vwCl (pre ++ (blk ++ post)) H) (hD : va_D A (pre ++ (blk ++ post))) (hS : va_S A H0 H locs) (hA : ∀ q, H0.size ≤ q → A q)
    (hsize : ls.size = nL) (hW : (rest.map fun v => v.category).sum ≤ 8) (hdg : decode cc pc = .ok (.invokespecial index, 3)) (hc : cells + mc ≤ R.cells ∧ slots + ms ≤ R.slots)
    (kk : ∀ (u : S) (H1 : Heap) (locs1 : List Loc), K u → va_P (dC, dI) vwCl (pre ++ (world u ++ post)) H1 → va_D A (pre ++ (world u ++ post)) → va_S A H0 H1 locs1 → W p l e R s m args below meth c H1 locs1 (cells + mc) (slots + ms) Q (F0 m (pc + 3) ls rest)) : W p l e R s m args below meth c H locs cells slots Q (F0 m pc ls (.ref b :: rest)) := by
  have hF := wj_free hD hS hA
  refine va_callv (va_runIN (As := []) (rest := rest) Sx hM cw ⟨PC.blind, PC.of hP hD hK hO⟩ rfl rfl hsize rfl (lv_room hW) hdg hc) hS (fun q _ h => hF q h) hF (fun u t H1 locs1 ht hvm hw hB hz hk hS1 => ?_)
  obtain ⟨hP1, hD1⟩ := hB
  rw [ht] at hP1
  obtain ⟨hP2, hD2⟩ := wj_mid hP hD hk hF hP1 hD1
  exact kk u H1 locs1 hw hP2 hD2 hS1
theorem kI {K : S → Prop} (Sx : CallFix p m c cc nL s args Ts own) (hM : MC l x wsc rm dC dI y [.ref b] blk H.size world K mc ms) (cw : CallB R s args own index x bytes maxL none wsc rm mc ms 0 ∧ x.name = "<init>" ∧ (Cond.instanceMethod x).before args s = true) (hK : KW dC dI y s) (hO : OW s)
    (hP : va_P (dC, dI) vwCl (pre ++ (blk ++ post)) H) (hD : va_D A (pre ++ (blk ++ post))) (hS : va_S A H0 H locs) (hA : ∀ q, H0.size ≤ q → A q)
    (hsize : ls.size = nL) (hW : (rest.map fun v => v.category).sum ≤ 8) (hdg : decode cc pc = .ok (.invokespecial index, 3)) (hc : cells + mc ≤ R.cells ∧ slots + ms ≤ R.slots)
    (kk : ∀ (u : S) (H1 : Heap) (locs1 : List Loc), K u → va_P (dC, dI) vwCl (pre ++ (world u ++ post)) H1 → va_D A (pre ++ (world u ++ post)) → va_S A H0 H1 locs1 → W p l e R s m args below meth c H1 locs1 (cells + mc) (slots + ms) Q (F0 m (pc + 3) ls rest)) : W p l e R s m args below meth c H locs cells slots Q (F0 m pc ls (.ref b :: rest)) := by
  have hF := wj_free hD hS hA
  refine va_callv (va_runI (As := []) (rest := rest) Sx hM cw ⟨PC.blind, PC.of hP hD hK hO⟩ rfl rfl hsize rfl (lv_room hW) hdg hc) hS (fun q _ h => hF q h) hF (fun u t H1 locs1 ht hvm hw hB hz hk hS1 => ?_)
  obtain ⟨hP1, hD1⟩ := hB
  rw [ht] at hP1
  obtain ⟨hP2, hD2⟩ := wj_mid hP hD hk hF hP1 hD1
  exact kk u H1 locs1 hw hP2 hD2 hS1
end CT
abbrev frameI : FrameS := (0, 0, 0, 0)
abbrev lineI : LineS := (fun _ => 0, fun _ => 0, 0, 0, 0, 0, -1, 0)
abbrev readerI : ReaderS := (0, 0, 0, -1, 0, 0, 15, 19, frameI)
abbrev nodeI : NodeS := (1, 1, 0, 0, 0, 0, 0, 0, 0, 0, 0, fun _ => frameI, frameI, lineI, readerI)
abbrev wireI : WireS := (0, 0, 0, fun _ => 0, lineI, readerI, fun _ => nodeI)
abbrev modelI : ModelS := (fun _ => 0, va_up (fun _ _ => 0) 3 (upd (upd (upd (upd (fun _ => 0) 0 1) 1 1) 2 1) 3 1), fun _ _ => 0)
end
