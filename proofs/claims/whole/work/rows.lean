section
-- ===== PART A: goes FIRST, ahead of the names: the tables' words, and 'selects' of the private methods out of them =====
/-- a private method of a class that the tables say can be made, by its rows of tables_1 -/
def lw_okq (q : MethodName × Nat) : Prop := (q.1.cls ≠ "java/lang/invoke/MethodHandle" ∧ q.1.cls ≠ "java/lang/invoke/VarHandle") ∧ Cond.instantiable q.1.cls q.2 ∈ tables_1 ∧ Cond.privateMethod q.1 ∈ tables_1 ∧ Cond.instanceMethod q.1 ∈ tables_1
theorem lw_p0 : lw_okq (⟨"java/lang/Throwable", "fillInStackTrace", "(I)Ljava/lang/Throwable;"⟩, 6) := ⟨⟨by decide +kernel, by decide +kernel⟩, List.mem_of_getElem? (i := 250) (by decide +kernel), List.mem_of_getElem? (i := 248) (by decide +kernel), List.mem_of_getElem? (i := 249) (by decide +kernel)⟩
theorem lw_p1 : lw_okq (⟨"SpectrumBoard$Processor", "interrupt", "()V"⟩, 11) := ⟨⟨by decide +kernel, by decide +kernel⟩, List.mem_of_getElem? (i := 111) (by decide +kernel), List.mem_of_getElem? (i := 375) (by decide +kernel), List.mem_of_getElem? (i := 376) (by decide +kernel)⟩
theorem lw_p2 : lw_okq (⟨"SpectrumBoard$Processor", "isTrapNext", "()Z"⟩, 11) := ⟨⟨by decide +kernel, by decide +kernel⟩, List.mem_of_getElem? (i := 111) (by decide +kernel), List.mem_of_getElem? (i := 411) (by decide +kernel), List.mem_of_getElem? (i := 412) (by decide +kernel)⟩
theorem lw_p3 : lw_okq (⟨"SpectrumBoard$Processor", "executeFirstQuarter", "(II)V"⟩, 11) := ⟨⟨by decide +kernel, by decide +kernel⟩, List.mem_of_getElem? (i := 111) (by decide +kernel), List.mem_of_getElem? (i := 428) (by decide +kernel), List.mem_of_getElem? (i := 429) (by decide +kernel)⟩
theorem lw_p4 : lw_okq (⟨"SpectrumBoard$Processor", "jumpNear", "(I)V"⟩, 11) := ⟨⟨by decide +kernel, by decide +kernel⟩, List.mem_of_getElem? (i := 111) (by decide +kernel), List.mem_of_getElem? (i := 432) (by decide +kernel), List.mem_of_getElem? (i := 433) (by decide +kernel)⟩
theorem lw_p5 : lw_okq (⟨"SpectrumBoard$Processor", "countDown", "()Z"⟩, 11) := ⟨⟨by decide +kernel, by decide +kernel⟩, List.mem_of_getElem? (i := 111) (by decide +kernel), List.mem_of_getElem? (i := 448) (by decide +kernel), List.mem_of_getElem? (i := 449) (by decide +kernel)⟩
theorem lw_p6 : lw_okq (⟨"SpectrumBoard$Processor", "jumpBy", "(IZ)V"⟩, 11) := ⟨⟨by decide +kernel, by decide +kernel⟩, List.mem_of_getElem? (i := 111) (by decide +kernel), List.mem_of_getElem? (i := 467) (by decide +kernel), List.mem_of_getElem? (i := 468) (by decide +kernel)⟩
theorem lw_p7 : lw_okq (⟨"SpectrumBoard$Processor", "loadPairOrAdd", "(I)V"⟩, 11) := ⟨⟨by decide +kernel, by decide +kernel⟩, List.mem_of_getElem? (i := 111) (by decide +kernel), List.mem_of_getElem? (i := 482) (by decide +kernel), List.mem_of_getElem? (i := 483) (by decide +kernel)⟩
theorem lw_p8 : lw_okq (⟨"SpectrumBoard$Processor", "loadByAddress", "(I)V"⟩, 11) := ⟨⟨by decide +kernel, by decide +kernel⟩, List.mem_of_getElem? (i := 111) (by decide +kernel), List.mem_of_getElem? (i := 504) (by decide +kernel), List.mem_of_getElem? (i := 505) (by decide +kernel)⟩
theorem lw_p9 : lw_okq (⟨"SpectrumBoard$Processor", "storeA", "(I)V"⟩, 11) := ⟨⟨by decide +kernel, by decide +kernel⟩, List.mem_of_getElem? (i := 111) (by decide +kernel), List.mem_of_getElem? (i := 508) (by decide +kernel), List.mem_of_getElem? (i := 509) (by decide +kernel)⟩
theorem lw_p10 : lw_okq (⟨"SpectrumBoard$Processor", "loadA", "(I)V"⟩, 11) := ⟨⟨by decide +kernel, by decide +kernel⟩, List.mem_of_getElem? (i := 111) (by decide +kernel), List.mem_of_getElem? (i := 513) (by decide +kernel), List.mem_of_getElem? (i := 514) (by decide +kernel)⟩
theorem lw_p11 : lw_okq (⟨"SpectrumBoard$Processor", "stepPair", "(I)V"⟩, 11) := ⟨⟨by decide +kernel, by decide +kernel⟩, List.mem_of_getElem? (i := 111) (by decide +kernel), List.mem_of_getElem? (i := 526) (by decide +kernel), List.mem_of_getElem? (i := 527) (by decide +kernel)⟩
theorem lw_p12 : lw_okq (⟨"SpectrumBoard$Processor", "stepOperand", "(IZ)V"⟩, 11) := ⟨⟨by decide +kernel, by decide +kernel⟩, List.mem_of_getElem? (i := 111) (by decide +kernel), List.mem_of_getElem? (i := 530) (by decide +kernel), List.mem_of_getElem? (i := 531) (by decide +kernel)⟩
theorem lw_p13 : lw_okq (⟨"SpectrumBoard$Processor", "changeA", "(I)V"⟩, 11) := ⟨⟨by decide +kernel, by decide +kernel⟩, List.mem_of_getElem? (i := 111) (by decide +kernel), List.mem_of_getElem? (i := 559) (by decide +kernel), List.mem_of_getElem? (i := 560) (by decide +kernel)⟩
theorem lw_p14 : lw_okq (⟨"SpectrumBoard$Processor", "loadOrHalt", "(II)V"⟩, 11) := ⟨⟨by decide +kernel, by decide +kernel⟩, List.mem_of_getElem? (i := 111) (by decide +kernel), List.mem_of_getElem? (i := 600) (by decide +kernel), List.mem_of_getElem? (i := 601) (by decide +kernel)⟩
theorem lw_p15 : lw_okq (⟨"SpectrumBoard$Arithmetic", "sum", "(III)I"⟩, 1) := ⟨⟨by decide +kernel, by decide +kernel⟩, List.mem_of_getElem? (i := 117) (by decide +kernel), List.mem_of_getElem? (i := 608) (by decide +kernel), List.mem_of_getElem? (i := 609) (by decide +kernel)⟩
def lw_privs_1 : List (MethodName × Nat) := [(⟨"java/lang/Throwable", "fillInStackTrace", "(I)Ljava/lang/Throwable;"⟩, 6), (⟨"SpectrumBoard$Processor", "interrupt", "()V"⟩, 11), (⟨"SpectrumBoard$Processor", "isTrapNext", "()Z"⟩, 11), (⟨"SpectrumBoard$Processor", "executeFirstQuarter", "(II)V"⟩, 11), (⟨"SpectrumBoard$Processor", "jumpNear", "(I)V"⟩, 11), (⟨"SpectrumBoard$Processor", "countDown", "()Z"⟩, 11), (⟨"SpectrumBoard$Processor", "jumpBy", "(IZ)V"⟩, 11), (⟨"SpectrumBoard$Processor", "loadPairOrAdd", "(I)V"⟩, 11), (⟨"SpectrumBoard$Processor", "loadByAddress", "(I)V"⟩, 11), (⟨"SpectrumBoard$Processor", "storeA", "(I)V"⟩, 11), (⟨"SpectrumBoard$Processor", "loadA", "(I)V"⟩, 11), (⟨"SpectrumBoard$Processor", "stepPair", "(I)V"⟩, 11), (⟨"SpectrumBoard$Processor", "stepOperand", "(IZ)V"⟩, 11), (⟨"SpectrumBoard$Processor", "changeA", "(I)V"⟩, 11), (⟨"SpectrumBoard$Processor", "loadOrHalt", "(II)V"⟩, 11), (⟨"SpectrumBoard$Arithmetic", "sum", "(III)I"⟩, 1)]
theorem lw_r1 : ∀ q ∈ lw_privs_1, lw_okq q := List.forall_mem_cons.mpr ⟨lw_p0, List.forall_mem_cons.mpr ⟨lw_p1, List.forall_mem_cons.mpr ⟨lw_p2, List.forall_mem_cons.mpr ⟨lw_p3, List.forall_mem_cons.mpr ⟨lw_p4, List.forall_mem_cons.mpr ⟨lw_p5, List.forall_mem_cons.mpr ⟨lw_p6, List.forall_mem_cons.mpr ⟨lw_p7, List.forall_mem_cons.mpr ⟨lw_p8, List.forall_mem_cons.mpr ⟨lw_p9, List.forall_mem_cons.mpr ⟨lw_p10, List.forall_mem_cons.mpr ⟨lw_p11, List.forall_mem_cons.mpr ⟨lw_p12, List.forall_mem_cons.mpr ⟨lw_p13, List.forall_mem_cons.mpr ⟨lw_p14, List.forall_mem_cons.mpr ⟨lw_p15, fun _ h => absurd h List.not_mem_nil⟩⟩⟩⟩⟩⟩⟩⟩⟩⟩⟩⟩⟩⟩⟩⟩
theorem lw_p16 : lw_okq (⟨"SpectrumBoard$Arithmetic", "difference", "(III)I"⟩, 1) := ⟨⟨by decide +kernel, by decide +kernel⟩, List.mem_of_getElem? (i := 117) (by decide +kernel), List.mem_of_getElem? (i := 612) (by decide +kernel), List.mem_of_getElem? (i := 613) (by decide +kernel)⟩
theorem lw_p17 : lw_okq (⟨"SpectrumBoard$Arithmetic", "logical", "(II)V"⟩, 1) := ⟨⟨by decide +kernel, by decide +kernel⟩, List.mem_of_getElem? (i := 117) (by decide +kernel), List.mem_of_getElem? (i := 616) (by decide +kernel), List.mem_of_getElem? (i := 617) (by decide +kernel)⟩
theorem lw_p18 : lw_okq (⟨"SpectrumBoard$Processor", "executeAlone", "(I)V"⟩, 11) := ⟨⟨by decide +kernel, by decide +kernel⟩, List.mem_of_getElem? (i := 111) (by decide +kernel), List.mem_of_getElem? (i := 623) (by decide +kernel), List.mem_of_getElem? (i := 624) (by decide +kernel)⟩
theorem lw_p19 : lw_okq (⟨"SpectrumBoard$Processor", "jumpTo", "(IZ)V"⟩, 11) := ⟨⟨by decide +kernel, by decide +kernel⟩, List.mem_of_getElem? (i := 111) (by decide +kernel), List.mem_of_getElem? (i := 627) (by decide +kernel), List.mem_of_getElem? (i := 628) (by decide +kernel)⟩
theorem lw_p20 : lw_okq (⟨"SpectrumBoard$Processor", "executeBits", "(I)V"⟩, 11) := ⟨⟨by decide +kernel, by decide +kernel⟩, List.mem_of_getElem? (i := 111) (by decide +kernel), List.mem_of_getElem? (i := 635) (by decide +kernel), List.mem_of_getElem? (i := 636) (by decide +kernel)⟩
theorem lw_p21 : lw_okq (⟨"SpectrumBoard$Processor", "callTo", "(IZ)V"⟩, 11) := ⟨⟨by decide +kernel, by decide +kernel⟩, List.mem_of_getElem? (i := 111) (by decide +kernel), List.mem_of_getElem? (i := 647) (by decide +kernel), List.mem_of_getElem? (i := 648) (by decide +kernel)⟩
theorem lw_p22 : lw_okq (⟨"SpectrumBoard$Ports", "moveSpeaker", "(I)V"⟩, 7) := ⟨⟨by decide +kernel, by decide +kernel⟩, List.mem_of_getElem? (i := 52) (by decide +kernel), List.mem_of_getElem? (i := 659) (by decide +kernel), List.mem_of_getElem? (i := 660) (by decide +kernel)⟩
theorem lw_p23 : lw_okq (⟨"SpectrumBoard$Processor", "exchangeWithOthers", "()V"⟩, 11) := ⟨⟨by decide +kernel, by decide +kernel⟩, List.mem_of_getElem? (i := 111) (by decide +kernel), List.mem_of_getElem? (i := 664) (by decide +kernel), List.mem_of_getElem? (i := 665) (by decide +kernel)⟩
theorem lw_p24 : lw_okq (⟨"SpectrumBoard$Processor", "inputToA", "()V"⟩, 11) := ⟨⟨by decide +kernel, by decide +kernel⟩, List.mem_of_getElem? (i := 111) (by decide +kernel), List.mem_of_getElem? (i := 668) (by decide +kernel), List.mem_of_getElem? (i := 669) (by decide +kernel)⟩
theorem lw_p25 : lw_okq (⟨"SpectrumBoard$Ports", "keysOf", "(I)I"⟩, 7) := ⟨⟨by decide +kernel, by decide +kernel⟩, List.mem_of_getElem? (i := 52) (by decide +kernel), List.mem_of_getElem? (i := 680) (by decide +kernel), List.mem_of_getElem? (i := 681) (by decide +kernel)⟩
theorem lw_p26 : lw_okq (⟨"SpectrumBoard$Processor", "exchangeHlWithStack", "()V"⟩, 11) := ⟨⟨by decide +kernel, by decide +kernel⟩, List.mem_of_getElem? (i := 111) (by decide +kernel), List.mem_of_getElem? (i := 684) (by decide +kernel), List.mem_of_getElem? (i := 685) (by decide +kernel)⟩
theorem lw_p27 : lw_okq (⟨"SpectrumBoard$Processor", "executeMore", "(I)V"⟩, 11) := ⟨⟨by decide +kernel, by decide +kernel⟩, List.mem_of_getElem? (i := 111) (by decide +kernel), List.mem_of_getElem? (i := 688) (by decide +kernel), List.mem_of_getElem? (i := 689) (by decide +kernel)⟩
theorem lw_p28 : lw_okq (⟨"SpectrumBoard$Processor", "copyByte", "(Z)V"⟩, 11) := ⟨⟨by decide +kernel, by decide +kernel⟩, List.mem_of_getElem? (i := 111) (by decide +kernel), List.mem_of_getElem? (i := 696) (by decide +kernel), List.mem_of_getElem? (i := 697) (by decide +kernel)⟩
theorem lw_p29 : lw_okq (⟨"SpectrumBoard$Processor", "calculateWithHl", "(I)V"⟩, 11) := ⟨⟨by decide +kernel, by decide +kernel⟩, List.mem_of_getElem? (i := 111) (by decide +kernel), List.mem_of_getElem? (i := 702) (by decide +kernel), List.mem_of_getElem? (i := 703) (by decide +kernel)⟩
theorem lw_p30 : lw_okq (⟨"SpectrumBoard$Processor", "loadStackFromHl", "()V"⟩, 11) := ⟨⟨by decide +kernel, by decide +kernel⟩, List.mem_of_getElem? (i := 111) (by decide +kernel), List.mem_of_getElem? (i := 719) (by decide +kernel), List.mem_of_getElem? (i := 720) (by decide +kernel)⟩
theorem lw_p31 : lw_okq (⟨"SpectrumBoard$Processor", "turnInterruptsOn", "()V"⟩, 11) := ⟨⟨by decide +kernel, by decide +kernel⟩, List.mem_of_getElem? (i := 111) (by decide +kernel), List.mem_of_getElem? (i := 723) (by decide +kernel), List.mem_of_getElem? (i := 724) (by decide +kernel)⟩
def lw_privs_2 : List (MethodName × Nat) := [(⟨"SpectrumBoard$Arithmetic", "difference", "(III)I"⟩, 1), (⟨"SpectrumBoard$Arithmetic", "logical", "(II)V"⟩, 1), (⟨"SpectrumBoard$Processor", "executeAlone", "(I)V"⟩, 11), (⟨"SpectrumBoard$Processor", "jumpTo", "(IZ)V"⟩, 11), (⟨"SpectrumBoard$Processor", "executeBits", "(I)V"⟩, 11), (⟨"SpectrumBoard$Processor", "callTo", "(IZ)V"⟩, 11), (⟨"SpectrumBoard$Ports", "moveSpeaker", "(I)V"⟩, 7), (⟨"SpectrumBoard$Processor", "exchangeWithOthers", "()V"⟩, 11), (⟨"SpectrumBoard$Processor", "inputToA", "()V"⟩, 11), (⟨"SpectrumBoard$Ports", "keysOf", "(I)I"⟩, 7), (⟨"SpectrumBoard$Processor", "exchangeHlWithStack", "()V"⟩, 11), (⟨"SpectrumBoard$Processor", "executeMore", "(I)V"⟩, 11), (⟨"SpectrumBoard$Processor", "copyByte", "(Z)V"⟩, 11), (⟨"SpectrumBoard$Processor", "calculateWithHl", "(I)V"⟩, 11), (⟨"SpectrumBoard$Processor", "loadStackFromHl", "()V"⟩, 11), (⟨"SpectrumBoard$Processor", "turnInterruptsOn", "()V"⟩, 11)]
theorem lw_r2 : ∀ q ∈ lw_privs_2, lw_okq q := List.forall_mem_cons.mpr ⟨lw_p16, List.forall_mem_cons.mpr ⟨lw_p17, List.forall_mem_cons.mpr ⟨lw_p18, List.forall_mem_cons.mpr ⟨lw_p19, List.forall_mem_cons.mpr ⟨lw_p20, List.forall_mem_cons.mpr ⟨lw_p21, List.forall_mem_cons.mpr ⟨lw_p22, List.forall_mem_cons.mpr ⟨lw_p23, List.forall_mem_cons.mpr ⟨lw_p24, List.forall_mem_cons.mpr ⟨lw_p25, List.forall_mem_cons.mpr ⟨lw_p26, List.forall_mem_cons.mpr ⟨lw_p27, List.forall_mem_cons.mpr ⟨lw_p28, List.forall_mem_cons.mpr ⟨lw_p29, List.forall_mem_cons.mpr ⟨lw_p30, List.forall_mem_cons.mpr ⟨lw_p31, fun _ h => absurd h List.not_mem_nil⟩⟩⟩⟩⟩⟩⟩⟩⟩⟩⟩⟩⟩⟩⟩⟩
theorem lw_p32 : lw_okq (⟨"SpectrumBoard$Processor", "executeLastQuarter", "(II)V"⟩, 11) := ⟨⟨by decide +kernel, by decide +kernel⟩, List.mem_of_getElem? (i := 111) (by decide +kernel), List.mem_of_getElem? (i := 727) (by decide +kernel), List.mem_of_getElem? (i := 728) (by decide +kernel)⟩
theorem lw_p33 : lw_okq (⟨"SpectrumBoard$Processor", "returnIf", "(Z)V"⟩, 11) := ⟨⟨by decide +kernel, by decide +kernel⟩, List.mem_of_getElem? (i := 111) (by decide +kernel), List.mem_of_getElem? (i := 731) (by decide +kernel), List.mem_of_getElem? (i := 732) (by decide +kernel)⟩
theorem lw_p34 : lw_okq (⟨"SpectrumBoard$Processor", "pushPair", "(I)V"⟩, 11) := ⟨⟨by decide +kernel, by decide +kernel⟩, List.mem_of_getElem? (i := 111) (by decide +kernel), List.mem_of_getElem? (i := 738) (by decide +kernel), List.mem_of_getElem? (i := 739) (by decide +kernel)⟩
theorem lw_p35 : lw_okq (⟨"SpectrumBoardModel", "refused", "(I)Z"⟩, 20) := ⟨⟨by decide +kernel, by decide +kernel⟩, List.mem_of_getElem? (i := 749) (by decide +kernel), List.mem_of_getElem? (i := 827) (by decide +kernel), List.mem_of_getElem? (i := 828) (by decide +kernel)⟩
theorem lw_p36 : lw_okq (⟨"SpectrumBoardModel", "interrupt", "()V"⟩, 20) := ⟨⟨by decide +kernel, by decide +kernel⟩, List.mem_of_getElem? (i := 749) (by decide +kernel), List.mem_of_getElem? (i := 831) (by decide +kernel), List.mem_of_getElem? (i := 832) (by decide +kernel)⟩
theorem lw_p37 : lw_okq (⟨"SpectrumBoardModel", "push", "(I)V"⟩, 20) := ⟨⟨by decide +kernel, by decide +kernel⟩, List.mem_of_getElem? (i := 749) (by decide +kernel), List.mem_of_getElem? (i := 835) (by decide +kernel), List.mem_of_getElem? (i := 836) (by decide +kernel)⟩
theorem lw_p38 : lw_okq (⟨"SpectrumBoardModel", "write", "(II)V"⟩, 20) := ⟨⟨by decide +kernel, by decide +kernel⟩, List.mem_of_getElem? (i := 749) (by decide +kernel), List.mem_of_getElem? (i := 840) (by decide +kernel), List.mem_of_getElem? (i := 841) (by decide +kernel)⟩
theorem lw_p39 : lw_okq (⟨"SpectrumBoardModel", "open", "(I)V"⟩, 20) := ⟨⟨by decide +kernel, by decide +kernel⟩, List.mem_of_getElem? (i := 749) (by decide +kernel), List.mem_of_getElem? (i := 844) (by decide +kernel), List.mem_of_getElem? (i := 845) (by decide +kernel)⟩
theorem lw_p40 : lw_okq (⟨"SpectrumBoardModel", "delay", "()V"⟩, 20) := ⟨⟨by decide +kernel, by decide +kernel⟩, List.mem_of_getElem? (i := 749) (by decide +kernel), List.mem_of_getElem? (i := 848) (by decide +kernel), List.mem_of_getElem? (i := 849) (by decide +kernel)⟩
theorem lw_p41 : lw_okq (⟨"SpectrumBoardModel", "instruction", "()V"⟩, 20) := ⟨⟨by decide +kernel, by decide +kernel⟩, List.mem_of_getElem? (i := 749) (by decide +kernel), List.mem_of_getElem? (i := 852) (by decide +kernel), List.mem_of_getElem? (i := 853) (by decide +kernel)⟩
theorem lw_p42 : lw_okq (⟨"SpectrumBoardModel", "fetch", "()I"⟩, 20) := ⟨⟨by decide +kernel, by decide +kernel⟩, List.mem_of_getElem? (i := 749) (by decide +kernel), List.mem_of_getElem? (i := 856) (by decide +kernel), List.mem_of_getElem? (i := 857) (by decide +kernel)⟩
theorem lw_p43 : lw_okq (⟨"SpectrumBoardModel", "one", "(I)V"⟩, 20) := ⟨⟨by decide +kernel, by decide +kernel⟩, List.mem_of_getElem? (i := 749) (by decide +kernel), List.mem_of_getElem? (i := 860) (by decide +kernel), List.mem_of_getElem? (i := 861) (by decide +kernel)⟩
theorem lw_p44 : lw_okq (⟨"SpectrumBoardModel", "jumpRelative", "(I)V"⟩, 20) := ⟨⟨by decide +kernel, by decide +kernel⟩, List.mem_of_getElem? (i := 749) (by decide +kernel), List.mem_of_getElem? (i := 864) (by decide +kernel), List.mem_of_getElem? (i := 865) (by decide +kernel)⟩
theorem lw_p45 : lw_okq (⟨"SpectrumBoardModel", "exchange", "(II)V"⟩, 20) := ⟨⟨by decide +kernel, by decide +kernel⟩, List.mem_of_getElem? (i := 749) (by decide +kernel), List.mem_of_getElem? (i := 868) (by decide +kernel), List.mem_of_getElem? (i := 869) (by decide +kernel)⟩
theorem lw_p46 : lw_okq (⟨"SpectrumBoardModel", "holds", "(I)Z"⟩, 20) := ⟨⟨by decide +kernel, by decide +kernel⟩, List.mem_of_getElem? (i := 749) (by decide +kernel), List.mem_of_getElem? (i := 872) (by decide +kernel), List.mem_of_getElem? (i := 873) (by decide +kernel)⟩
theorem lw_p47 : lw_okq (⟨"SpectrumBoardModel", "next", "()I"⟩, 20) := ⟨⟨by decide +kernel, by decide +kernel⟩, List.mem_of_getElem? (i := 749) (by decide +kernel), List.mem_of_getElem? (i := 876) (by decide +kernel), List.mem_of_getElem? (i := 877) (by decide +kernel)⟩
def lw_privs_3 : List (MethodName × Nat) := [(⟨"SpectrumBoard$Processor", "executeLastQuarter", "(II)V"⟩, 11), (⟨"SpectrumBoard$Processor", "returnIf", "(Z)V"⟩, 11), (⟨"SpectrumBoard$Processor", "pushPair", "(I)V"⟩, 11), (⟨"SpectrumBoardModel", "refused", "(I)Z"⟩, 20), (⟨"SpectrumBoardModel", "interrupt", "()V"⟩, 20), (⟨"SpectrumBoardModel", "push", "(I)V"⟩, 20), (⟨"SpectrumBoardModel", "write", "(II)V"⟩, 20), (⟨"SpectrumBoardModel", "open", "(I)V"⟩, 20), (⟨"SpectrumBoardModel", "delay", "()V"⟩, 20), (⟨"SpectrumBoardModel", "instruction", "()V"⟩, 20), (⟨"SpectrumBoardModel", "fetch", "()I"⟩, 20), (⟨"SpectrumBoardModel", "one", "(I)V"⟩, 20), (⟨"SpectrumBoardModel", "jumpRelative", "(I)V"⟩, 20), (⟨"SpectrumBoardModel", "exchange", "(II)V"⟩, 20), (⟨"SpectrumBoardModel", "holds", "(I)Z"⟩, 20), (⟨"SpectrumBoardModel", "next", "()I"⟩, 20)]
theorem lw_r3 : ∀ q ∈ lw_privs_3, lw_okq q := List.forall_mem_cons.mpr ⟨lw_p32, List.forall_mem_cons.mpr ⟨lw_p33, List.forall_mem_cons.mpr ⟨lw_p34, List.forall_mem_cons.mpr ⟨lw_p35, List.forall_mem_cons.mpr ⟨lw_p36, List.forall_mem_cons.mpr ⟨lw_p37, List.forall_mem_cons.mpr ⟨lw_p38, List.forall_mem_cons.mpr ⟨lw_p39, List.forall_mem_cons.mpr ⟨lw_p40, List.forall_mem_cons.mpr ⟨lw_p41, List.forall_mem_cons.mpr ⟨lw_p42, List.forall_mem_cons.mpr ⟨lw_p43, List.forall_mem_cons.mpr ⟨lw_p44, List.forall_mem_cons.mpr ⟨lw_p45, List.forall_mem_cons.mpr ⟨lw_p46, List.forall_mem_cons.mpr ⟨lw_p47, fun _ h => absurd h List.not_mem_nil⟩⟩⟩⟩⟩⟩⟩⟩⟩⟩⟩⟩⟩⟩⟩⟩
theorem lw_p48 : lw_okq (⟨"SpectrumBoardModel", "read", "(I)I"⟩, 20) := ⟨⟨by decide +kernel, by decide +kernel⟩, List.mem_of_getElem? (i := 749) (by decide +kernel), List.mem_of_getElem? (i := 880) (by decide +kernel), List.mem_of_getElem? (i := 881) (by decide +kernel)⟩
theorem lw_p49 : lw_okq (⟨"SpectrumBoardModel", "nextPair", "()I"⟩, 20) := ⟨⟨by decide +kernel, by decide +kernel⟩, List.mem_of_getElem? (i := 749) (by decide +kernel), List.mem_of_getElem? (i := 884) (by decide +kernel), List.mem_of_getElem? (i := 885) (by decide +kernel)⟩
theorem lw_p50 : lw_okq (⟨"SpectrumBoardModel", "setPair", "(II)V"⟩, 20) := ⟨⟨by decide +kernel, by decide +kernel⟩, List.mem_of_getElem? (i := 749) (by decide +kernel), List.mem_of_getElem? (i := 888) (by decide +kernel), List.mem_of_getElem? (i := 889) (by decide +kernel)⟩
theorem lw_p51 : lw_okq (⟨"SpectrumBoardModel", "addPair", "(I)V"⟩, 20) := ⟨⟨by decide +kernel, by decide +kernel⟩, List.mem_of_getElem? (i := 749) (by decide +kernel), List.mem_of_getElem? (i := 892) (by decide +kernel), List.mem_of_getElem? (i := 893) (by decide +kernel)⟩
theorem lw_p52 : lw_okq (⟨"SpectrumBoardModel", "hl", "()I"⟩, 20) := ⟨⟨by decide +kernel, by decide +kernel⟩, List.mem_of_getElem? (i := 749) (by decide +kernel), List.mem_of_getElem? (i := 896) (by decide +kernel), List.mem_of_getElem? (i := 897) (by decide +kernel)⟩
theorem lw_p53 : lw_okq (⟨"SpectrumBoardModel", "pair", "(I)I"⟩, 20) := ⟨⟨by decide +kernel, by decide +kernel⟩, List.mem_of_getElem? (i := 749) (by decide +kernel), List.mem_of_getElem? (i := 900) (by decide +kernel), List.mem_of_getElem? (i := 901) (by decide +kernel)⟩
theorem lw_p54 : lw_okq (⟨"SpectrumBoardModel", "loads", "(I)V"⟩, 20) := ⟨⟨by decide +kernel, by decide +kernel⟩, List.mem_of_getElem? (i := 749) (by decide +kernel), List.mem_of_getElem? (i := 904) (by decide +kernel), List.mem_of_getElem? (i := 905) (by decide +kernel)⟩
theorem lw_p55 : lw_okq (⟨"SpectrumBoardModel", "step", "(IZ)V"⟩, 20) := ⟨⟨by decide +kernel, by decide +kernel⟩, List.mem_of_getElem? (i := 749) (by decide +kernel), List.mem_of_getElem? (i := 908) (by decide +kernel), List.mem_of_getElem? (i := 909) (by decide +kernel)⟩
theorem lw_p56 : lw_okq (⟨"SpectrumBoardModel", "carry", "()I"⟩, 20) := ⟨⟨by decide +kernel, by decide +kernel⟩, List.mem_of_getElem? (i := 749) (by decide +kernel), List.mem_of_getElem? (i := 912) (by decide +kernel), List.mem_of_getElem? (i := 913) (by decide +kernel)⟩
theorem lw_p57 : lw_okq (⟨"SpectrumBoardModel", "operand", "(I)I"⟩, 20) := ⟨⟨by decide +kernel, by decide +kernel⟩, List.mem_of_getElem? (i := 749) (by decide +kernel), List.mem_of_getElem? (i := 916) (by decide +kernel), List.mem_of_getElem? (i := 917) (by decide +kernel)⟩
theorem lw_p58 : lw_okq (⟨"SpectrumBoardModel", "minus", "(III)I"⟩, 20) := ⟨⟨by decide +kernel, by decide +kernel⟩, List.mem_of_getElem? (i := 749) (by decide +kernel), List.mem_of_getElem? (i := 920) (by decide +kernel), List.mem_of_getElem? (i := 921) (by decide +kernel)⟩
theorem lw_p59 : lw_okq (⟨"SpectrumBoardModel", "plus", "(III)I"⟩, 20) := ⟨⟨by decide +kernel, by decide +kernel⟩, List.mem_of_getElem? (i := 749) (by decide +kernel), List.mem_of_getElem? (i := 927) (by decide +kernel), List.mem_of_getElem? (i := 928) (by decide +kernel)⟩
theorem lw_p60 : lw_okq (⟨"SpectrumBoardModel", "setOperand", "(II)V"⟩, 20) := ⟨⟨by decide +kernel, by decide +kernel⟩, List.mem_of_getElem? (i := 749) (by decide +kernel), List.mem_of_getElem? (i := 931) (by decide +kernel), List.mem_of_getElem? (i := 932) (by decide +kernel)⟩
theorem lw_p61 : lw_okq (⟨"SpectrumBoardModel", "accumulator", "(I)V"⟩, 20) := ⟨⟨by decide +kernel, by decide +kernel⟩, List.mem_of_getElem? (i := 749) (by decide +kernel), List.mem_of_getElem? (i := 935) (by decide +kernel), List.mem_of_getElem? (i := 936) (by decide +kernel)⟩
theorem lw_p62 : lw_okq (⟨"SpectrumBoardModel", "turnA", "(I)V"⟩, 20) := ⟨⟨by decide +kernel, by decide +kernel⟩, List.mem_of_getElem? (i := 749) (by decide +kernel), List.mem_of_getElem? (i := 939) (by decide +kernel), List.mem_of_getElem? (i := 940) (by decide +kernel)⟩
theorem lw_p63 : lw_okq (⟨"SpectrumBoardModel", "turned", "(II)I"⟩, 20) := ⟨⟨by decide +kernel, by decide +kernel⟩, List.mem_of_getElem? (i := 749) (by decide +kernel), List.mem_of_getElem? (i := 943) (by decide +kernel), List.mem_of_getElem? (i := 944) (by decide +kernel)⟩
def lw_privs_4 : List (MethodName × Nat) := [(⟨"SpectrumBoardModel", "read", "(I)I"⟩, 20), (⟨"SpectrumBoardModel", "nextPair", "()I"⟩, 20), (⟨"SpectrumBoardModel", "setPair", "(II)V"⟩, 20), (⟨"SpectrumBoardModel", "addPair", "(I)V"⟩, 20), (⟨"SpectrumBoardModel", "hl", "()I"⟩, 20), (⟨"SpectrumBoardModel", "pair", "(I)I"⟩, 20), (⟨"SpectrumBoardModel", "loads", "(I)V"⟩, 20), (⟨"SpectrumBoardModel", "step", "(IZ)V"⟩, 20), (⟨"SpectrumBoardModel", "carry", "()I"⟩, 20), (⟨"SpectrumBoardModel", "operand", "(I)I"⟩, 20), (⟨"SpectrumBoardModel", "minus", "(III)I"⟩, 20), (⟨"SpectrumBoardModel", "plus", "(III)I"⟩, 20), (⟨"SpectrumBoardModel", "setOperand", "(II)V"⟩, 20), (⟨"SpectrumBoardModel", "accumulator", "(I)V"⟩, 20), (⟨"SpectrumBoardModel", "turnA", "(I)V"⟩, 20), (⟨"SpectrumBoardModel", "turned", "(II)I"⟩, 20)]
theorem lw_r4 : ∀ q ∈ lw_privs_4, lw_okq q := List.forall_mem_cons.mpr ⟨lw_p48, List.forall_mem_cons.mpr ⟨lw_p49, List.forall_mem_cons.mpr ⟨lw_p50, List.forall_mem_cons.mpr ⟨lw_p51, List.forall_mem_cons.mpr ⟨lw_p52, List.forall_mem_cons.mpr ⟨lw_p53, List.forall_mem_cons.mpr ⟨lw_p54, List.forall_mem_cons.mpr ⟨lw_p55, List.forall_mem_cons.mpr ⟨lw_p56, List.forall_mem_cons.mpr ⟨lw_p57, List.forall_mem_cons.mpr ⟨lw_p58, List.forall_mem_cons.mpr ⟨lw_p59, List.forall_mem_cons.mpr ⟨lw_p60, List.forall_mem_cons.mpr ⟨lw_p61, List.forall_mem_cons.mpr ⟨lw_p62, List.forall_mem_cons.mpr ⟨lw_p63, fun _ h => absurd h List.not_mem_nil⟩⟩⟩⟩⟩⟩⟩⟩⟩⟩⟩⟩⟩⟩⟩⟩
theorem lw_p64 : lw_okq (⟨"SpectrumBoardModel", "correct", "()V"⟩, 20) := ⟨⟨by decide +kernel, by decide +kernel⟩, List.mem_of_getElem? (i := 749) (by decide +kernel), List.mem_of_getElem? (i := 947) (by decide +kernel), List.mem_of_getElem? (i := 948) (by decide +kernel)⟩
theorem lw_p65 : lw_okq (⟨"SpectrumBoardModel", "reckon", "(II)V"⟩, 20) := ⟨⟨by decide +kernel, by decide +kernel⟩, List.mem_of_getElem? (i := 749) (by decide +kernel), List.mem_of_getElem? (i := 954) (by decide +kernel), List.mem_of_getElem? (i := 955) (by decide +kernel)⟩
theorem lw_p66 : lw_okq (⟨"SpectrumBoardModel", "three", "(I)V"⟩, 20) := ⟨⟨by decide +kernel, by decide +kernel⟩, List.mem_of_getElem? (i := 749) (by decide +kernel), List.mem_of_getElem? (i := 958) (by decide +kernel), List.mem_of_getElem? (i := 959) (by decide +kernel)⟩
theorem lw_p67 : lw_okq (⟨"SpectrumBoardModel", "pop", "()I"⟩, 20) := ⟨⟨by decide +kernel, by decide +kernel⟩, List.mem_of_getElem? (i := 749) (by decide +kernel), List.mem_of_getElem? (i := 962) (by decide +kernel), List.mem_of_getElem? (i := 963) (by decide +kernel)⟩
theorem lw_p68 : lw_okq (⟨"SpectrumBoardModel", "readPair", "(I)I"⟩, 20) := ⟨⟨by decide +kernel, by decide +kernel⟩, List.mem_of_getElem? (i := 749) (by decide +kernel), List.mem_of_getElem? (i := 966) (by decide +kernel), List.mem_of_getElem? (i := 967) (by decide +kernel)⟩
theorem lw_p69 : lw_okq (⟨"SpectrumBoardModel", "back", "(I)V"⟩, 20) := ⟨⟨by decide +kernel, by decide +kernel⟩, List.mem_of_getElem? (i := 749) (by decide +kernel), List.mem_of_getElem? (i := 970) (by decide +kernel), List.mem_of_getElem? (i := 971) (by decide +kernel)⟩
theorem lw_p70 : lw_okq (⟨"SpectrumBoardModel", "various", "(I)V"⟩, 20) := ⟨⟨by decide +kernel, by decide +kernel⟩, List.mem_of_getElem? (i := 749) (by decide +kernel), List.mem_of_getElem? (i := 974) (by decide +kernel), List.mem_of_getElem? (i := 975) (by decide +kernel)⟩
theorem lw_p71 : lw_okq (⟨"SpectrumBoardModel", "bits", "(I)V"⟩, 20) := ⟨⟨by decide +kernel, by decide +kernel⟩, List.mem_of_getElem? (i := 749) (by decide +kernel), List.mem_of_getElem? (i := 978) (by decide +kernel), List.mem_of_getElem? (i := 979) (by decide +kernel)⟩
theorem lw_p72 : lw_okq (⟨"SpectrumBoardModel", "send", "(I)V"⟩, 20) := ⟨⟨by decide +kernel, by decide +kernel⟩, List.mem_of_getElem? (i := 749) (by decide +kernel), List.mem_of_getElem? (i := 982) (by decide +kernel), List.mem_of_getElem? (i := 983) (by decide +kernel)⟩
theorem lw_p73 : lw_okq (⟨"SpectrumBoardModel", "openPort", "(I)V"⟩, 20) := ⟨⟨by decide +kernel, by decide +kernel⟩, List.mem_of_getElem? (i := 749) (by decide +kernel), List.mem_of_getElem? (i := 986) (by decide +kernel), List.mem_of_getElem? (i := 987) (by decide +kernel)⟩
theorem lw_p74 : lw_okq (⟨"SpectrumBoardModel", "receive", "(I)V"⟩, 20) := ⟨⟨by decide +kernel, by decide +kernel⟩, List.mem_of_getElem? (i := 749) (by decide +kernel), List.mem_of_getElem? (i := 990) (by decide +kernel), List.mem_of_getElem? (i := 991) (by decide +kernel)⟩
theorem lw_p75 : lw_okq (⟨"SpectrumBoardModel", "callIf", "(Z)V"⟩, 20) := ⟨⟨by decide +kernel, by decide +kernel⟩, List.mem_of_getElem? (i := 749) (by decide +kernel), List.mem_of_getElem? (i := 994) (by decide +kernel), List.mem_of_getElem? (i := 995) (by decide +kernel)⟩
theorem lw_p76 : lw_okq (⟨"SpectrumBoardModel", "ahead", "(I)V"⟩, 20) := ⟨⟨by decide +kernel, by decide +kernel⟩, List.mem_of_getElem? (i := 749) (by decide +kernel), List.mem_of_getElem? (i := 998) (by decide +kernel), List.mem_of_getElem? (i := 999) (by decide +kernel)⟩
theorem lw_p77 : lw_okq (⟨"SpectrumBoardModel", "extended", "(I)V"⟩, 20) := ⟨⟨by decide +kernel, by decide +kernel⟩, List.mem_of_getElem? (i := 749) (by decide +kernel), List.mem_of_getElem? (i := 1002) (by decide +kernel), List.mem_of_getElem? (i := 1003) (by decide +kernel)⟩
theorem lw_p78 : lw_okq (⟨"SpectrumBoardModel", "addPairWithCarry", "(IZ)V"⟩, 20) := ⟨⟨by decide +kernel, by decide +kernel⟩, List.mem_of_getElem? (i := 749) (by decide +kernel), List.mem_of_getElem? (i := 1006) (by decide +kernel), List.mem_of_getElem? (i := 1007) (by decide +kernel)⟩
theorem lw_p79 : lw_okq (⟨"SpectrumBoardModel", "move", "(Z)V"⟩, 20) := ⟨⟨by decide +kernel, by decide +kernel⟩, List.mem_of_getElem? (i := 749) (by decide +kernel), List.mem_of_getElem? (i := 1010) (by decide +kernel), List.mem_of_getElem? (i := 1011) (by decide +kernel)⟩
def lw_privs_5 : List (MethodName × Nat) := [(⟨"SpectrumBoardModel", "correct", "()V"⟩, 20), (⟨"SpectrumBoardModel", "reckon", "(II)V"⟩, 20), (⟨"SpectrumBoardModel", "three", "(I)V"⟩, 20), (⟨"SpectrumBoardModel", "pop", "()I"⟩, 20), (⟨"SpectrumBoardModel", "readPair", "(I)I"⟩, 20), (⟨"SpectrumBoardModel", "back", "(I)V"⟩, 20), (⟨"SpectrumBoardModel", "various", "(I)V"⟩, 20), (⟨"SpectrumBoardModel", "bits", "(I)V"⟩, 20), (⟨"SpectrumBoardModel", "send", "(I)V"⟩, 20), (⟨"SpectrumBoardModel", "openPort", "(I)V"⟩, 20), (⟨"SpectrumBoardModel", "receive", "(I)V"⟩, 20), (⟨"SpectrumBoardModel", "callIf", "(Z)V"⟩, 20), (⟨"SpectrumBoardModel", "ahead", "(I)V"⟩, 20), (⟨"SpectrumBoardModel", "extended", "(I)V"⟩, 20), (⟨"SpectrumBoardModel", "addPairWithCarry", "(IZ)V"⟩, 20), (⟨"SpectrumBoardModel", "move", "(Z)V"⟩, 20)]
theorem lw_r5 : ∀ q ∈ lw_privs_5, lw_okq q := List.forall_mem_cons.mpr ⟨lw_p64, List.forall_mem_cons.mpr ⟨lw_p65, List.forall_mem_cons.mpr ⟨lw_p66, List.forall_mem_cons.mpr ⟨lw_p67, List.forall_mem_cons.mpr ⟨lw_p68, List.forall_mem_cons.mpr ⟨lw_p69, List.forall_mem_cons.mpr ⟨lw_p70, List.forall_mem_cons.mpr ⟨lw_p71, List.forall_mem_cons.mpr ⟨lw_p72, List.forall_mem_cons.mpr ⟨lw_p73, List.forall_mem_cons.mpr ⟨lw_p74, List.forall_mem_cons.mpr ⟨lw_p75, List.forall_mem_cons.mpr ⟨lw_p76, List.forall_mem_cons.mpr ⟨lw_p77, List.forall_mem_cons.mpr ⟨lw_p78, List.forall_mem_cons.mpr ⟨lw_p79, fun _ h => absurd h List.not_mem_nil⟩⟩⟩⟩⟩⟩⟩⟩⟩⟩⟩⟩⟩⟩⟩⟩
def lw_privs : List (MethodName × Nat) := lw_privs_1 ++ (lw_privs_2 ++ (lw_privs_3 ++ (lw_privs_4 ++ (lw_privs_5))))
def lw_tbl : List Cond := k2_sels lw_privs ++ tables_1
theorem lw_privs_ok : ∀ q ∈ lw_privs, lw_okq q := by
  show ∀ q ∈ lw_privs_1 ++ (lw_privs_2 ++ (lw_privs_3 ++ (lw_privs_4 ++ (lw_privs_5)))), lw_okq q
  exact List.forall_mem_append.mpr ⟨lw_r1, List.forall_mem_append.mpr ⟨lw_r2, List.forall_mem_append.mpr ⟨lw_r3, List.forall_mem_append.mpr ⟨lw_r4, lw_r5⟩⟩⟩⟩
end
section
/-! ONE WORLD, KEPT WHOLE THROUGH ALL METHODS OF A SYSTEM: contracts, entry, ends, calls -/
def sw_good (F : (Nat → Prop) → State → Heap → Prop) : Prop := (∀ (A : Nat → Prop) (u U : State) (H : Heap), u.vm.Alike U.vm → F A u H → F A U H) ∧ (∀ (A : Nat → Prop) (U : State) (H H1 : Heap), F A U H → (∀ a : Nat, a < H.size → ¬ A a → H1[a]? = H[a]?) → F A U H1) ∧ (∀ (A B : Nat → Prop) (U : State) (H : Heap), F A U H → (∀ q : Nat, B q → A q) → F B U H)
def sw_Pc (D : va_G) (cl : List vw_C) (tys : List (ClassId × FieldType)) (F : (Nat → Prop) → State → Heap → Prop) (as : List Value) (w : va_W) (sz : Nat) : Array Value → State → Prop := va_Pc as (fun U => U.heap.size = sz ∧ va_P D cl w U.heap ∧ va_K D cl tys U ∧ va_D (fun _ => True) w ∧ F (va_A w sz) U U.heap)
def sw_Qi (D : va_G) (cl : List vw_C) (tys : List (ClassId × FieldType)) (A : Nat → Prop) (w' : va_W) (r : Int32) : Array Value → State → Outcome → State → Prop := va_Qi (fun (r' : Int32) (_ : Unit) => r' = r) (fun _ t => va_P D cl w' t.heap ∧ va_K D cl tys t ∧ va_D A w') A
def sw_Qv (D : va_G) (cl : List vw_C) (tys : List (ClassId × FieldType)) (A : Nat → Prop) (w' : va_W) : Array Value → State → Outcome → State → Prop := va_Qv (fun (_ : Unit) => True) (fun _ t => va_P D cl w' t.heap ∧ va_K D cl tys t ∧ va_D A w') A
def sw_Mi (l : Launch) (y : MethodName) (ws : List Cond) (rm : Room) (D : va_G) (cl : List vw_C) (tys : List (ClassId × FieldType)) (F : (Nat → Prop) → State → Heap → Prop) (as : List Value) (w w' : va_W) (r : Int32) : Prop := ∀ sz : Nat, Met l y ws rm (sw_Pc D cl tys F as w sz) (sw_Qi D cl tys (va_A w sz) w' r) 0 0 (va_A w sz)
def sw_Mv (l : Launch) (y : MethodName) (ws : List Cond) (rm : Room) (D : va_G) (cl : List vw_C) (tys : List (ClassId × FieldType)) (F : (Nat → Prop) → State → Heap → Prop) (as : List Value) (w w' : va_W) : Prop := ∀ sz : Nat, Met l y ws rm (sw_Pc D cl tys F as w sz) (sw_Qv D cl tys (va_A w sz) w') 0 0 (va_A w sz)
/-- what a walk carries along -/
def sw_X (p : Program) (s : State) (m : MethodId) (args : Array Value) (meth : Method) (c : Code) (cc : ByteArray) (nL : Nat) (own : String) (ret : Option FieldType) (ws : List Cond) (D : va_G) (cl : List vw_C) (tys : List (ClassId × FieldType)) (F : (Nat → Prop) → State → Heap → Prop) (A : Nat → Prop) : Prop :=
  CallFix p m c cc nL s args ws own ∧ meth.sig.returnType = ret ∧ meth.locks = false ∧ va_K D cl tys s ∧ (∀ q : Nat, s.heap.size ≤ q → A q) ∧ F A s s.heap
theorem sw_blind {D : va_G} {cl : List vw_C} {tys : List (ClassId × FieldType)} {F : (Nat → Prop) → State → Heap → Prop} (hg : sw_good F) {as : List Value} {w : va_W} {sz : Nat} : FrameBlind (sw_Pc D cl tys F as w sz) := by
  intro a U g mk q
  obtain ⟨q0, q1, qP, qK, qD, qF⟩ := q
  exact ⟨q0, q1, qP, va_K.moved (u := U) (U := U.calling g mk a) (Vm.Alike.refl U.vm) qK, qD, hg.1 _ U (U.calling g mk a) _ (Vm.Alike.refl U.vm) qF⟩
theorem sw_of {l : Launch} {y : MethodName} {ws ws' : List Cond} {rm : Room} {D : va_G} {cl : List vw_C} {tys : List (ClassId × FieldType)} {F : (Nat → Prop) → State → Heap → Prop} {as : List Value} {w : va_W} {sz : Nat} {Qc : Array Value → State → Outcome → State → Prop} {cc : ByteArray} {maxL : Nat} {ret : Option FieldType} {mc ms : Nat}
    (hy : plainName y.cls = true) (hw : ws = Cond.code y cc maxL ret :: ws') (hl : (lg_sl as).length ≤ maxL)
    (body : ∀ (p : Program) (e : Env) (s : State) (m : MethodId) (args : Array Value) (below : List Frame) (meth : Method) (c : Code) (A : Nat → Prop) (ls : Array Slot), va_A w sz = A → s.heap.size = sz → sw_X p s m args meth c cc maxL y.cls ret ws D cl tys F A → (y.name = "<init>" → meth.name = "<init>") → va_P D cl w s.heap → va_D A w → va_S A s.heap s.heap [] → lv_has ls maxL (lv_args 0 as) →
      W p l e rm s m args below meth c s.heap [] 0 0 (MQ below Qc args s mc ms A) (F0 m 0 ls [])) : Met l y ws rm (sw_Pc D cl tys F as w sz) Qc mc ms (va_A w sz) := by
  refine Met.ofW (cc := cc) (maxL := maxL) (ret := ret) hy hw ?_
  intro p e s m args below meth c s₁ B hml hv
  obtain ⟨rfl, hsz, hP, hK, hD0, hF⟩ := hv
  have hts := atoms_spec (ws := ws) B.pre
  have hown : s.vm.findClass y.cls = some m.cls := findClass_of_methodNamed B.named
  have hin : y.name = "<init>" → meth.name = "<init>" := fun h => ((name_of_methodNamed B.named B.method).1).trans h
  have hl2 := lv_entry as (n := maxL) hl
  rw [lg_entry_eq]
  generalize (lg_sl as ++ List.replicate (maxL - (lg_sl as).length) Slot.unset).toArray = ls at hl2 ⊢
  exact body p e s m _ below meth c _ ls rfl hsz ⟨⟨B.exec, B.bytes, hml, hown, hts⟩, B.returns, B.notSynchronized, hK, fun q h => Or.inr (by rw [← hsz]; exact h), hF⟩ hin hP (hD0.self (sz := sz)) va_S.rf hl2
section SW
variable {p : Program} {l : Launch} {e : Env} {R : Room} {s : State} {m : MethodId} {args : Array Value} {below : List Frame} {meth : Method} {c : Code} {H : Heap} {locs : List Loc} {cells slots : Nat} {Q : State → Prop}
variable {cc : ByteArray} {nL : Nat} {own : String} {ret : Option FieldType} {Ts : List Cond} {D : va_G} {cl : List vw_C} {tys : List (ClassId × FieldType)} {F : (Nat → Prop) → State → Heap → Prop} {A : Nat → Prop} {w w2 : va_W} {pc : Nat} {ls : Array Slot} {rest : List Value}
theorem sw_iret {r : Int32} (X : sw_X p s m args meth c cc nL own (some .int) Ts D cl tys F A) (hP : va_P D cl w H) (hD : va_D A w) (hS : va_S A s.heap H locs) (hdg : decode cc pc = .ok (.ireturn, 1)) :
    W p l e R s m args below meth c H locs cells slots (MQ below (sw_Qi D cl tys A w r) args s cells slots A) (F0 m pc ls [.int r]) := by
  obtain ⟨⟨hx, hb, hml, hown, hts⟩, hr, hlocks, hK, hA, hF⟩ := X
  exact W.iret (v := r) hx hb hr (fun t ht hW => ⟨⟨r, (), rfl, rfl, by rw [ht]; exact hP, va_K.moved hW.alike hK, hD⟩, hS.F ht⟩) hS.2.2 hdg
theorem sw_vret (X : sw_X p s m args meth c cc nL own none Ts D cl tys F A) (hP : va_P D cl w H) (hD : va_D A w) (hS : va_S A s.heap H locs) (hdg : decode cc pc = .ok (.return_, 1)) :
    W p l e R s m args below meth c H locs cells slots (MQ below (sw_Qv D cl tys A w) args s cells slots A) (F0 m pc ls []) := by
  obtain ⟨⟨hx, hb, hml, hown, hts⟩, hr, hlocks, hK, hA, hF⟩ := X
  exact W.vret hx hb hr (fun t ht hW => ⟨⟨(), rfl, trivial, by rw [ht]; exact hP, va_K.moved hW.alike hK, hD⟩, hS.F ht⟩) hS.2.2 hdg
end SW
end
section
/-! THE WORDS, ONE LIST FOR ALL METHODS; rows of a walk that keeps one world -/
def sw_tb : List Cond := lw_tbl.filter goodWord
abbrev sw_ws (y : MethodName) (cc : ByteArray) (nL : Nat) (ret : Option FieldType) : List Cond := Cond.code y cc nL ret :: sw_tb
theorem sw_in {w : Cond} (i : Nat) (h : tables_1[i]? = some w) (hg : goodWord w = true) : w ∈ sw_tb := List.mem_filter.mpr ⟨List.mem_append_right _ (List.mem_of_getElem? h), hg⟩
theorem sw_inp {w : Cond} (i : Nat) (h : (k2_sels lw_privs)[i]? = some w) (hg : goodWord w = true) : w ∈ sw_tb := List.mem_filter.mpr ⟨List.mem_append_left _ (List.mem_of_getElem? h), hg⟩
theorem sw_gin {y yo : MethodName} {cc co : ByteArray} {nL no : Nat} {ret ro : Option FieldType} (h : Cond.code y cc nL ret ∈ sw_tb) : GoodIn (sw_ws yo co no ro) (sw_ws y cc nL ret) := by
  intro w hw
  have hm : w ∈ sw_tb := by
    rcases List.mem_cons.mp hw with h1 | h1
    · rw [h1]; exact h
    · exact h1
  exact ⟨List.mem_cons_of_mem _ hm, good_of_word (List.mem_filter.mp hm).2⟩
def sw_calV (y : MethodName) (cc : ByteArray) (nL : Nat) (ret : Option FieldType) (n : Nat) : Prop := Cond.code y cc nL ret ∈ sw_tb ∧ Cond.instanceMethod y ∈ sw_tb ∧ Cond.selects y.cls y y ∈ sw_tb ∧ Cond.initialized y.cls ∈ sw_tb ∧ (y.cls ≠ "java/lang/invoke/MethodHandle" ∧ y.cls ≠ "java/lang/invoke/VarHandle" ∧ (parseMethodDescriptor y.desc).map (fun d => d.parameters.length) = some n)
def sw_calS (y : MethodName) (cc : ByteArray) (nL : Nat) (ret : Option FieldType) (n : Nat) : Prop := Cond.code y cc nL ret ∈ sw_tb ∧ Cond.static y ∈ sw_tb ∧ Cond.initialized y.cls ∈ sw_tb ∧ (y.cls ≠ "java/lang/invoke/MethodHandle" ∧ y.cls ≠ "java/lang/invoke/VarHandle" ∧ (parseMethodDescriptor y.desc).map (fun d => d.parameters.length) = some n)
abbrev sw_rm (f n : Nat) : Room := { frames := f, cells := 0, slots := 0, locals := n }
section SWR
variable {p : Program} {l : Launch} {e : Env} {R : Room} {s : State} {m : MethodId} {args : Array Value} {below : List Frame} {meth : Method} {c : Code} {H : Heap} {locs : List Loc} {cells slots : Nat} {Q : State → Prop}
variable {cc : ByteArray} {nL : Nat} {own : String} {ret ro : Option FieldType} {yo : MethodName} {D : va_G} {cl : List vw_C} {tys : List (ClassId × FieldType)} {F : (Nat → Prop) → State → Heap → Prop} {A : Nat → Prop} {w w2 : va_W} {pc : Nat} {ls : Array Slot} {rest st : List Value}
theorem sw_sub (hA : ∀ q : Nat, s.heap.size ≤ q → A q) (hD : va_D A w) (hS : va_S A s.heap H locs) : ∀ q, va_A w H.size q → A q := by
  intro q h
  rcases h with ⟨k, e, h⟩ | h
  · exact hD.2 k (q, e) h
  · exact hA q (Nat.le_trans hS.1 h)
theorem sw_pre {as : List Value} (hg : sw_good F) (X : sw_X p s m args meth c cc nL own ret (sw_ws yo cc nL ro) D cl tys F A) (hP : va_P D cl w H) (hD : va_D A w) (hS : va_S A s.heap H locs) : ∀ U : State, U.heap = H → s.WarmedH U.vm → sw_Pc D cl tys F as w H.size as.toArray U := by
  obtain ⟨-, -, -, hK, hA, hF⟩ := X
  intro U hU hW
  refine ⟨rfl, by rw [hU], by rw [hU]; exact hP, va_K.moved hW.alike hK, hD.weaken (fun _ _ _ _ => trivial), ?_⟩
  rw [hU]
  exact hg.2.2 _ _ _ _ (hg.1 _ _ _ _ hW.alike (hg.2.1 _ _ _ _ hF hS.2.1)) (sw_sub hA hD hS)
/-- a call of an instance method that answers an int -/
theorem sw_vi {y : MethodName} {bytes : ByteArray} {maxL n index : Nat} {rt : Option FieldType} {f1 n1 f0 n0 : Nat} {b : Nat} {As : List Value} {r : Int32} (hg : sw_good F) (X : sw_X p s m args meth c cc nL own ret (sw_ws yo cc nL ro) D cl tys F A) (hM : sw_Mi l y (sw_ws y bytes maxL rt) (sw_rm f1 n1) D cl tys F (.ref b :: As) w w2 r) (hc : sw_calV y bytes maxL rt n) (hlk : Cond.methodLink own index y ∈ sw_tb)
    (hP : va_P D cl w H) (hD : va_D A w) (hS : va_S A s.heap H locs) (q0 ci : Nat) {fs : List Value} (he : w[q0]? = some (b, .inr (ci, fs))) {q : vw_C} (hci : cl[ci]? = some q) (hq : q.1 = y.cls) (hR : Nat.ble (f1 + 1) f0 = true ∧ Nat.ble (8 + (maxL + 11) + n1) n0 = true) (hn : As.length = n) (hl : ls.size = nL) (hst : st = As.reverse ++ .ref b :: rest) (hw : (rest.map fun v => v.category).sum ≤ 8) (hdg : decode cc pc = .ok (.invokevirtual index, 3))
    (kk : ∀ (H1 : Heap) (locs1 : List Loc), va_P D cl w2 H1 → va_D A w2 → va_S A s.heap H1 locs1 → W p l e (sw_rm f0 n0) s m args below meth c H1 locs1 0 0 Q (F0 m (pc + 3) ls (.int r :: rest))) : W p l e (sw_rm f0 n0) s m args below meth c H locs 0 0 Q (F0 m pc ls st) := by
  have hsb := sw_sub X.2.2.2.2.1 hD hS
  have hts := X.1.2.2.2.2
  obtain ⟨k1, k2, k3, k4, k5⟩ := hc
  have cw : CallW (sw_rm f0 n0) s args own y.cls index y bytes maxL rt (sw_ws y bytes maxL rt) (sw_rm f1 n1) 0 0 n := ⟨callB_of n hts (sw_gin k1) rfl rfl rfl (hts _ (List.mem_cons_of_mem _ k4)) (hts _ (List.mem_cons_of_mem _ hlk)) k5 ⟨Nat.le_of_ble_eq_true hR.1, Nat.le_of_ble_eq_true hR.2⟩, hts _ (List.mem_cons_of_mem _ k2), hts _ (List.mem_cons_of_mem _ k3)⟩
  refine va_calli (va_runV (C := y.cls) (As := As) (rest := rest) X.1 (hM H.size) cw ⟨sw_blind hg, by rw [← hq]; exact va_recv X.2.2.2.1 hP hci he, sw_pre (as := .ref b :: As) hg X hP hD hS⟩ rfl hn hl hst (lv_room hw) hdg ⟨Nat.zero_le _, Nat.zero_le _⟩) hS (fun q _ h => hsb q h) hsb (fun r9 u t H1 locs1 ht hvm hw9 hB hz1 hk1 hS1 => ?_)
  obtain ⟨hP1, hK1, hD1⟩ := hB
  rw [ht] at hP1
  subst hw9
  exact kk H1 locs1 hP1 (hD1.weaken (fun k q _ h => hsb q.1 h)) hS1
/-- a call of an instance method that answers nothing -/
theorem sw_vv {y : MethodName} {bytes : ByteArray} {maxL n index : Nat} {rt : Option FieldType} {f1 n1 f0 n0 : Nat} {b : Nat} {As : List Value} (hg : sw_good F) (X : sw_X p s m args meth c cc nL own ret (sw_ws yo cc nL ro) D cl tys F A) (hM : sw_Mv l y (sw_ws y bytes maxL rt) (sw_rm f1 n1) D cl tys F (.ref b :: As) w w2) (hc : sw_calV y bytes maxL rt n) (hlk : Cond.methodLink own index y ∈ sw_tb)
    (hP : va_P D cl w H) (hD : va_D A w) (hS : va_S A s.heap H locs) (q0 ci : Nat) {fs : List Value} (he : w[q0]? = some (b, .inr (ci, fs))) {q : vw_C} (hci : cl[ci]? = some q) (hq : q.1 = y.cls) (hR : Nat.ble (f1 + 1) f0 = true ∧ Nat.ble (8 + (maxL + 11) + n1) n0 = true) (hn : As.length = n) (hl : ls.size = nL) (hst : st = As.reverse ++ .ref b :: rest) (hw : (rest.map fun v => v.category).sum ≤ 8) (hdg : decode cc pc = .ok (.invokevirtual index, 3))
    (kk : ∀ (H1 : Heap) (locs1 : List Loc), va_P D cl w2 H1 → va_D A w2 → va_S A s.heap H1 locs1 → W p l e (sw_rm f0 n0) s m args below meth c H1 locs1 0 0 Q (F0 m (pc + 3) ls rest)) : W p l e (sw_rm f0 n0) s m args below meth c H locs 0 0 Q (F0 m pc ls st) := by
  have hsb := sw_sub X.2.2.2.2.1 hD hS
  have hts := X.1.2.2.2.2
  obtain ⟨k1, k2, k3, k4, k5⟩ := hc
  have cw : CallW (sw_rm f0 n0) s args own y.cls index y bytes maxL rt (sw_ws y bytes maxL rt) (sw_rm f1 n1) 0 0 n := ⟨callB_of n hts (sw_gin k1) rfl rfl rfl (hts _ (List.mem_cons_of_mem _ k4)) (hts _ (List.mem_cons_of_mem _ hlk)) k5 ⟨Nat.le_of_ble_eq_true hR.1, Nat.le_of_ble_eq_true hR.2⟩, hts _ (List.mem_cons_of_mem _ k2), hts _ (List.mem_cons_of_mem _ k3)⟩
  refine va_callv (va_runV (C := y.cls) (As := As) (rest := rest) X.1 (hM H.size) cw ⟨sw_blind hg, by rw [← hq]; exact va_recv X.2.2.2.1 hP hci he, sw_pre (as := .ref b :: As) hg X hP hD hS⟩ rfl hn hl hst (lv_room hw) hdg ⟨Nat.zero_le _, Nat.zero_le _⟩) hS (fun q _ h => hsb q h) hsb (fun u t H1 locs1 ht hvm hw9 hB hz1 hk1 hS1 => ?_)
  obtain ⟨hP1, hK1, hD1⟩ := hB
  rw [ht] at hP1
  exact kk H1 locs1 hP1 (hD1.weaken (fun k q _ h => hsb q.1 h)) hS1
/-- a call of a static method that answers an int -/
theorem sw_si {y : MethodName} {bytes : ByteArray} {maxL n index : Nat} {rt : Option FieldType} {f1 n1 f0 n0 : Nat} {As : List Value} {r : Int32} (hg : sw_good F) (X : sw_X p s m args meth c cc nL own ret (sw_ws yo cc nL ro) D cl tys F A) (hM : sw_Mi l y (sw_ws y bytes maxL rt) (sw_rm f1 n1) D cl tys F As w w2 r) (hc : sw_calS y bytes maxL rt n) (hlk : Cond.methodLink own index y ∈ sw_tb)
    (hP : va_P D cl w H) (hD : va_D A w) (hS : va_S A s.heap H locs) (hR : Nat.ble (f1 + 1) f0 = true ∧ Nat.ble (8 + (maxL + 11) + n1) n0 = true) (hn : As.length = n) (hl : ls.size = nL) (hst : st = As.reverse ++ rest) (hw : (rest.map fun v => v.category).sum ≤ 8) (hdg : decode cc pc = .ok (.invokestatic index, 3))
    (kk : ∀ (H1 : Heap) (locs1 : List Loc), va_P D cl w2 H1 → va_D A w2 → va_S A s.heap H1 locs1 → W p l e (sw_rm f0 n0) s m args below meth c H1 locs1 0 0 Q (F0 m (pc + 3) ls (.int r :: rest))) : W p l e (sw_rm f0 n0) s m args below meth c H locs 0 0 Q (F0 m pc ls st) := by
  have hsb := sw_sub X.2.2.2.2.1 hD hS
  have hts := X.1.2.2.2.2
  obtain ⟨k1, k2, k4, k5⟩ := hc
  have cw : CallB (sw_rm f0 n0) s args own index y bytes maxL rt (sw_ws y bytes maxL rt) (sw_rm f1 n1) 0 0 n ∧ (Cond.static y).before args s = true := ⟨callB_of n hts (sw_gin k1) rfl rfl rfl (hts _ (List.mem_cons_of_mem _ k4)) (hts _ (List.mem_cons_of_mem _ hlk)) k5 ⟨Nat.le_of_ble_eq_true hR.1, Nat.le_of_ble_eq_true hR.2⟩, hts _ (List.mem_cons_of_mem _ k2)⟩
  refine va_calli (va_runS (As := As) (rest := rest) X.1 (hM H.size) cw ⟨sw_blind hg, sw_pre (as := As) hg X hP hD hS⟩ rfl hn hl hst (lv_room hw) hdg ⟨Nat.zero_le _, Nat.zero_le _⟩) hS (fun q _ h => hsb q h) hsb (fun r9 u t H1 locs1 ht hvm hw9 hB hz1 hk1 hS1 => ?_)
  obtain ⟨hP1, hK1, hD1⟩ := hB
  rw [ht] at hP1
  subst hw9
  exact kk H1 locs1 hP1 (hD1.weaken (fun k q _ h => hsb q.1 h)) hS1
theorem sw_get (X : sw_X p s m args meth c cc nL own ret (sw_ws yo cc nL ro) D cl tys F A) (hP : va_P D cl w H) (q0 : Nat) {ci a index : Nat} {fs : List Value} (he : w[q0]? = some (a, .inr (ci, fs))) {C : String} {T : u_T} {N : Nat} (hc : cl[ci]? = some (C, T, N)) (hin : ∀ w ∈ u_ws C T N, w ∈ sw_tb) (k : Nat) (hk : k < N) (hlk : Cond.fieldLink own index (T k).1 (T k).2.1 (T k).2.2.1 ∈ sw_tb) {v : Value} (hv : fs[k]? = some v) (hdg : decode cc pc = .ok (.getfield index, 3))
    (kk : W p l e R s m args below meth c H locs cells slots Q (F0 m (pc + 3) ls (v :: rest))) : W p l e R s m args below meth c H locs cells slots Q (F0 m pc ls (.ref a :: rest)) := by
  obtain ⟨⟨hx, hb, hml, hown, hts⟩, hr, hlocks, hK, hA, hF⟩ := X
  exact va_get (D := D) (ci := ci) (v := v) (C := C) (T := T) (N := N) hx hb hts (fun w h => List.mem_cons_of_mem _ (hin w h)) hown hK hP q0 he hc k hk (hts _ (List.mem_cons_of_mem _ hlk)) (fun _ h9 => h9) hv hdg kk
theorem sw_put (X : sw_X p s m args meth c cc nL own ret (sw_ws yo cc nL ro) D cl tys F A) (hP : va_P D cl w H) (hD : va_D A w) (hS : va_S A s.heap H locs) (q0 : Nat) {ci a index : Nat} {fs : List Value} (he : w[q0]? = some (a, .inr (ci, fs))) {C : String} {T : u_T} {N : Nat} (hc : cl[ci]? = some (C, T, N)) (hin : ∀ w ∈ u_ws C T N, w ∈ sw_tb) (ty0 : Nat → FieldType) (hty : ∀ k, k < N → parseFieldDescriptor (T k).2.2.1 = some (ty0 k)) (hnm : ∀ a, a < N → ∀ b, b < N → a ≠ b → (T a).2.1 ≠ (T b).2.1) (k : Nat) (hk : k < N) (hlk : Cond.fieldLink own index (T k).1 (T k).2.1 (T k).2.2.1 ∈ sw_tb) (hfin : (T k).2.2.2 = false) {v : Value} (hn : narrow (ty0 k) v = v) (hfit : fits (ty0 k) v = true) (hl : k < fs.length) (hw2 : w.set q0 (a, .inr (ci, fs.set k v)) = w2) (hdg : decode cc pc = .ok (.putfield index, 3))
    (kk : ∀ (H1 : Heap) (locs1 : List Loc), va_P D cl w2 H1 → va_D A w2 → va_S A s.heap H1 locs1 → W p l e R s m args below meth c H1 locs1 cells slots Q (F0 m (pc + 3) ls rest)) : W p l e R s m args below meth c H locs cells slots Q (F0 m pc ls (v :: .ref a :: rest)) := by
  obtain ⟨⟨hx, hb, hml, hown, hts⟩, hr, hlocks, hK, hA, hF⟩ := X
  subst hw2
  exact va_put (D := D) (ci := ci) (v := v) (ty := ty0 k) (C := C) (T := T) (N := N) hx hb hts (fun w h => List.mem_cons_of_mem _ (hin w h)) ty0 hty hnm hown hK hP hD hS q0 he hc k hk (hts _ (List.mem_cons_of_mem _ hlk)) (fun _ h9 => h9) hfin (hty k hk) hn hfit hl hdg kk
theorem sw_iald (X : sw_X p s m args meth c cc nL own ret (sw_ws yo cc nL ro) D cl tys F A) (hP : va_P D cl w H) (q0 : Nat) {a n : Nat} {cA : ClassId} {f : Nat → Int32} (he : w[q0]? = some (a, .inl (cA, n, .inl f))) (ht : tys[0]? = some (cA, .int)) {i : Int32} (hin : vp_in i n) (hdg : decode cc pc = .ok (.iaload, 1))
    (kk : W p l e R s m args below meth c H locs cells slots Q (F0 m (pc + 1) ls (.int (f i.toNatClampNeg) :: rest))) : W p l e R s m args below meth c H locs cells slots Q (F0 m pc ls (.int i :: .ref a :: rest)) :=
  va_iald X.1.1 X.1.2.1 X.2.2.2.1 hP q0 0 he ht hin hdg kk
theorem sw_iast (X : sw_X p s m args meth c cc nL own ret (sw_ws yo cc nL ro) D cl tys F A) (hP : va_P D cl w H) (hD : va_D A w) (hS : va_S A s.heap H locs) (q0 : Nat) {a n : Nat} {cA : ClassId} {f : Nat → Int32} (he : w[q0]? = some (a, .inl (cA, n, .inl f))) (ht : tys[0]? = some (cA, .int)) {i x : Int32} (hin : vp_in i n) (hw2 : w.set q0 (a, .inl (cA, n, .inl (upd f i.toNatClampNeg x))) = w2) (hdg : decode cc pc = .ok (.iastore, 1))
    (kk : ∀ (H1 : Heap) (locs1 : List Loc), va_P D cl w2 H1 → va_D A w2 → va_S A s.heap H1 locs1 → W p l e R s m args below meth c H1 locs1 cells slots Q (F0 m (pc + 1) ls rest)) : W p l e R s m args below meth c H locs cells slots Q (F0 m pc ls (.int x :: .int i :: .ref a :: rest)) := by
  subst hw2
  exact va_iast X.1.1 X.1.2.1 X.2.2.2.1 hP hD hS q0 0 he ht hin hdg kk
theorem sw_bret {r : Int32} (X : sw_X p s m args meth c cc nL own (some .boolean) (sw_ws yo cc nL ro) D cl tys F A) (hn : narrow .boolean (.int r) = .int r) (hP : va_P D cl w H) (hD : va_D A w) (hS : va_S A s.heap H locs) (hdg : decode cc pc = .ok (.ireturn, 1)) :
    W p l e R s m args below meth c H locs cells slots (MQ below (sw_Qi D cl tys A w r) args s cells slots A) (F0 m pc ls [.int r]) := by
  obtain ⟨⟨hx, hb, hml, hown, hts⟩, hr, hlocks, hK, hA, hF⟩ := X
  exact W.zret (v := r) (ty := .boolean) hx hb hr hn (fun t ht hW => ⟨⟨r, (), rfl, rfl, by rw [ht]; exact hP, va_K.moved hW.alike hK, hD⟩, hS.F ht⟩) hS.2.2 hdg
theorem sw_tabK (hx : p.tables.exec = Jvm.exec) (hb : c.code = cc) {dflt lo hi off : Int} {offs : Array Int} {len tgt : Nat} {x : Int32} (hdg : decode cc pc = .ok (.tableswitch dflt lo hi offs, len)) (ks : List Int32) (h : x ∈ ks) (hk : ks.all (fun k => decide (lo ≤ k.toInt) && (decide (k.toInt ≤ hi) && decide (offs[(k.toInt - lo).toNat]? = some off))) = true) (ht : (pc : Int) + off = (tgt : Int))
    (kk : W p l e R s m args below meth c H locs cells slots Q (F0 m tgt ls rest)) : W p l e R s m args below meth c H locs cells slots Q (F0 m pc ls (.int x :: rest)) := by
  have h1 := List.all_eq_true.mp hk x h
  simp only [Bool.and_eq_true, decide_eq_true_eq] at h1
  exact lv_tableIn hx hb hdg (by omega) (by omega) h1.2.2 ht kk
theorem sw_tabD (hx : p.tables.exec = Jvm.exec) (hb : c.code = cc) {dflt lo hi : Int} {offs : Array Int} {len tgt : Nat} {x : Int32} (hdg : decode cc pc = .ok (.tableswitch dflt lo hi offs, len)) (ks : List Int32) (h : ¬ x ∈ ks) (hk : (List.range (hi - lo + 1).toNat).all (fun i => decide (offs[i]? = some dflt) || decide (Int32.ofInt (lo + (i : Int)) ∈ ks)) = true) (ht : (pc : Int) + dflt = (tgt : Int))
    (kk : W p l e R s m args below meth c H locs cells slots Q (F0 m tgt ls rest)) : W p l e R s m args below meth c H locs cells slots Q (F0 m pc ls (.int x :: rest)) := by
  by_cases ho : x.toInt < lo ∨ hi < x.toInt
  · exact lv_tableOut hx hb hdg ho ht kk
  · have h1 := List.all_eq_true.mp hk (x.toInt - lo).toNat (List.mem_range.mpr (by omega))
    simp only [Bool.or_eq_true, decide_eq_true_eq] at h1
    rcases h1 with h1 | h1
    · exact lv_tableIn hx hb hdg (by omega) (by omega) h1 ht kk
    · refine absurd ?_ h
      have e : lo + ((x.toInt - lo).toNat : Int) = x.toInt := by omega
      rw [e, Int32.ofInt_toInt] at h1
      exact h1
theorem sw_lkK (hx : p.tables.exec = Jvm.exec) (hb : c.code = cc) {dflt off : Int} {ps : Array (Int × Int)} {len tgt : Nat} {x : Int32} (hdg : decode cc pc = .ok (.lookupswitch dflt ps, len)) (hp : (ps.toList.zip (ps.toList.drop 1)).all (fun (a, next) => a.1 < next.1) = true) (ks : List Int32) (h : x ∈ ks) (hk : ks.all (fun k => decide (Op.lookupswitch.offset ps.toList dflt k.toInt = off)) = true) (ht : (pc : Int) + off = (tgt : Int))
    (kk : W p l e R s m args below meth c H locs cells slots Q (F0 m tgt ls rest)) : W p l e R s m args below meth c H locs cells slots Q (F0 m pc ls (.int x :: rest)) := by
  have h1 := List.all_eq_true.mp hk x h
  simp only [decide_eq_true_eq] at h1
  exact lv_lookup hx hb hdg hp h1 ht kk
theorem sw_lkD (hx : p.tables.exec = Jvm.exec) (hb : c.code = cc) {dflt : Int} {ps : Array (Int × Int)} {len tgt : Nat} {x : Int32} (hdg : decode cc pc = .ok (.lookupswitch dflt ps, len)) (hp : (ps.toList.zip (ps.toList.drop 1)).all (fun (a, next) => a.1 < next.1) = true) (ks : List Int32) (h : ¬ x ∈ ks) (hk : ps.toList.all (fun q => decide (q.2 = dflt) || decide (Int32.ofInt q.1 ∈ ks)) = true) (ht : (pc : Int) + dflt = (tgt : Int))
    (kk : W p l e R s m args below meth c H locs cells slots Q (F0 m tgt ls rest)) : W p l e R s m args below meth c H locs cells slots Q (F0 m pc ls (.int x :: rest)) := by
  refine lv_lookup hx hb hdg hp ?_ ht kk
  have key : ∀ l : List (Int × Int), l.all (fun q => decide (q.2 = dflt) || decide (Int32.ofInt q.1 ∈ ks)) = true → Op.lookupswitch.offset l dflt x.toInt = dflt := by
    intro l
    induction l with
    | nil => intro _; simp [Op.lookupswitch.offset]
    | cons q l ih =>
      intro hl
      simp only [List.all_cons, Bool.and_eq_true, Bool.or_eq_true, decide_eq_true_eq] at hl
      have ih := ih hl.2
      by_cases e : q.1 = x.toInt
      · rcases hl.1 with h1 | h1
        · simp [Op.lookupswitch.offset, e, h1]
        · rw [e, Int32.ofInt_toInt] at h1
          exact absurd h1 h
      · simp only [Op.lookupswitch.offset] at ih ⊢
        simpa [e] using ih
  exact key _ hk
end SWR
/-! naming, binding -/
def nm {α β : Type} (x : α) (f : α → Option β) : Option β := f x
theorem nm_use {α β : Type} {x y : α} {f : α → Option β} {z : Option β} (e : y = x) (h : nm x f = z) : f y = z := by subst e; exact h
def bd {α β : Type} (x : Option α) (f : α → Option β) : Option β := x.bind f
theorem bd_some {α β : Type} {x : Option α} {f : α → Option β} {z : β} (h : bd x f = some z) : ∃ a, x = some a ∧ f a = some z := Option.bind_eq_some_iff.mp h
def bd2 {α σ β : Type} (x : Option (α × σ)) (f : α → σ → Option β) : Option β := x.bind (fun p => f p.1 p.2)
theorem bd2_some {α σ β : Type} {x : Option (α × σ)} {f : α → σ → Option β} {z : β} (h : bd2 x f = some z) : ∃ a s, x = some (a, s) ∧ f a s = some z := by
  obtain ⟨⟨a, s⟩, h1, h2⟩ := Option.bind_eq_some_iff.mp h
  exact ⟨a, s, h1, h2⟩
theorem if_yes {α : Type} {c : Prop} [Decidable c] {x y : Option α} {z : α} (h : (if c then x else y) = some z) (hc : c) : x = some z := by rw [if_pos hc] at h; exact h
theorem if_no {α : Type} {c : Prop} [Decidable c] {x y : Option α} {z : α} (h : (if c then x else y) = some z) (hc : ¬ c) : y = some z := by rw [if_neg hc] at h; exact h
/-- an index, or a boolean, that is looked at -/
def gd {α : Type} (c : Prop) [Decidable c] (x : Option α) : Option α := if c then x else none
theorem gd_some {α : Type} {c : Prop} [Decidable c] {x : Option α} {z : α} (h : gd c x = some z) : c ∧ x = some z := by
  unfold gd at h
  split at h
  · exact ⟨by assumption, h⟩
  · cases h
def vin (i : Int32) (n : Int32) : Prop := 0 ≤ i ∧ i < n
theorem vin_in {i : Int32} {n : Int32} {k : Nat} (h : 0 ≤ i ∧ i < n) (hn : n.toInt = (k : Int)) : vp_in i k := by
  rw [vp_in_iff]
  have h1 := Int32.le_iff_toInt_le.mp h.1
  have h2 := Int32.lt_iff_toInt_lt.mp h.2
  rw [Int32.toInt_zero] at h1
  omega
theorem bz_n {x : Int32} (h : x = 0 ∨ x = 1) : narrow .boolean (.int x) = .int x := by
  rcases h with rfl | rfl <;> decide
theorem bz_f {x : Int32} (h : x = 0 ∨ x = 1) : fits .boolean (.int x) = true := by
  rcases h with rfl | rfl <;> decide
end
section
def RX0 : String := "SpectrumBoard$Arithmetic"
def TX0 : u_T := fun k => match k with
  | _ => ("SpectrumBoard$Arithmetic", "registers", "LSpectrumBoard$Registers;", true)
def tyX0 : Nat → FieldType := fun k => match k with
  | _ => .object "SpectrumBoard$Registers"
theorem nmX0 : ∀ a, a < 1 → ∀ b, b < 1 → a ≠ b → (TX0 a).2.1 ≠ (TX0 b).2.1 := by decide +kernel
theorem tyX0_ok : ∀ k, k < 1 → parseFieldDescriptor (TX0 k).2.2.1 = some (tyX0 k) := by decide +kernel
abbrev cX0_init : ByteArray := prog_2_method_1_code
def yX0_init : MethodName := ⟨RX0, "<init>", "(LSpectrumBoard$Registers;)V"⟩
abbrev cX0_withA : ByteArray := prog_2_method_2_code
def yX0_withA : MethodName := ⟨RX0, "withA", "(II)V"⟩
abbrev cX0_negate : ByteArray := prog_2_method_3_code
def yX0_negate : MethodName := ⟨RX0, "negate", "()V"⟩
abbrev cX0_sum : ByteArray := prog_2_method_4_code
def yX0_sum : MethodName := ⟨RX0, "sum", "(III)I"⟩
abbrev cX0_difference : ByteArray := prog_2_method_5_code
def yX0_difference : MethodName := ⟨RX0, "difference", "(III)I"⟩
abbrev cX0_logical : ByteArray := prog_2_method_6_code
def yX0_logical : MethodName := ⟨RX0, "logical", "(II)V"⟩
abbrev cX0_oneMore : ByteArray := prog_2_method_7_code
def yX0_oneMore : MethodName := ⟨RX0, "oneMore", "(I)I"⟩
abbrev cX0_oneLess : ByteArray := prog_2_method_8_code
def yX0_oneLess : MethodName := ⟨RX0, "oneLess", "(I)I"⟩
abbrev cX0_addToHl : ByteArray := prog_2_method_9_code
def yX0_addToHl : MethodName := ⟨RX0, "addToHl", "(I)V"⟩
abbrev cX0_addToHlWithCarry : ByteArray := prog_2_method_10_code
def yX0_addToHlWithCarry : MethodName := ⟨RX0, "addToHlWithCarry", "(I)V"⟩
abbrev cX0_takeFromHlWithCarry : ByteArray := prog_2_method_11_code
def yX0_takeFromHlWithCarry : MethodName := ⟨RX0, "takeFromHlWithCarry", "(I)V"⟩
abbrev cX0_shifted : ByteArray := prog_2_method_12_code
def yX0_shifted : MethodName := ⟨RX0, "shifted", "(II)I"⟩
abbrev cX0_shiftA : ByteArray := prog_2_method_13_code
def yX0_shiftA : MethodName := ⟨RX0, "shiftA", "(I)V"⟩
abbrev cX0_moved : ByteArray := prog_2_method_14_code
def yX0_moved : MethodName := ⟨RX0, "moved", "(III)I"⟩
abbrev cX0_bitOut : ByteArray := prog_2_method_15_code
def yX0_bitOut : MethodName := ⟨RX0, "bitOut", "(II)I"⟩
abbrev cX0_testBit : ByteArray := prog_2_method_16_code
def yX0_testBit : MethodName := ⟨RX0, "testBit", "(II)V"⟩
abbrev cX0_adjustDecimal : ByteArray := prog_2_method_17_code
def yX0_adjustDecimal : MethodName := ⟨RX0, "adjustDecimal", "()V"⟩
abbrev cX0_turnRoundA : ByteArray := prog_2_method_18_code
def yX0_turnRoundA : MethodName := ⟨RX0, "turnRoundA", "()V"⟩
abbrev cX0_setCarry : ByteArray := prog_2_method_19_code
def yX0_setCarry : MethodName := ⟨RX0, "setCarry", "()V"⟩
abbrev cX0_turnRoundCarry : ByteArray := prog_2_method_20_code
def yX0_turnRoundCarry : MethodName := ⟨RX0, "turnRoundCarry", "()V"⟩
abbrev cX0_signAndZero : ByteArray := prog_2_method_21_code
def yX0_signAndZero : MethodName := ⟨RX0, "signAndZero", "(I)I"⟩
abbrev cX0_signAndZeroOfPair : ByteArray := prog_2_method_22_code
def yX0_signAndZeroOfPair : MethodName := ⟨RX0, "signAndZeroOfPair", "(I)I"⟩
abbrev cX0_even : ByteArray := prog_2_method_23_code
def yX0_even : MethodName := ⟨RX0, "even", "(I)I"⟩
def RX1 : String := "SpectrumBoard$Clock"
def TX1 : u_T := fun k => match k with
  | _ => ("SpectrumBoard$Clock", "now", "I", false)
def tyX1 : Nat → FieldType := fun k => match k with
  | _ => .int
theorem nmX1 : ∀ a, a < 1 → ∀ b, b < 1 → a ≠ b → (TX1 a).2.1 ≠ (TX1 b).2.1 := by decide +kernel
theorem tyX1_ok : ∀ k, k < 1 → parseFieldDescriptor (TX1 k).2.2.1 = some (tyX1 k) := by decide +kernel
abbrev cX1_init : ByteArray := prog_3_method_1_code
def yX1_init : MethodName := ⟨RX1, "<init>", "()V"⟩
abbrev cX1_pass : ByteArray := prog_3_method_2_code
def yX1_pass : MethodName := ⟨RX1, "pass", "(I)V"⟩
abbrev cX1_waitForPictureIf : ByteArray := prog_3_method_3_code
def yX1_waitForPictureIf : MethodName := ⟨RX1, "waitForPictureIf", "(Z)V"⟩
abbrev cX1_asksForInterrupt : ByteArray := prog_3_method_4_code
def yX1_asksForInterrupt : MethodName := ⟨RX1, "asksForInterrupt", "()Z"⟩
def RX2 : String := "SpectrumBoard$Memory"
def TX2 : u_T := fun k => match k with
  | 0 => ("SpectrumBoard$Memory", "clock", "LSpectrumBoard$Clock;", true)
  | _ => ("SpectrumBoard$Memory", "bytes", "[I", true)
def tyX2 : Nat → FieldType := fun k => match k with
  | 0 => .object "SpectrumBoard$Clock"
  | _ => .array .int
theorem nmX2 : ∀ a, a < 2 → ∀ b, b < 2 → a ≠ b → (TX2 a).2.1 ≠ (TX2 b).2.1 := by decide +kernel
theorem tyX2_ok : ∀ k, k < 2 → parseFieldDescriptor (TX2 k).2.2.1 = some (tyX2 k) := by decide +kernel
abbrev cX2_init : ByteArray := prog_4_method_1_code
def yX2_init : MethodName := ⟨RX2, "<init>", "(LSpectrumBoard$Clock;)V"⟩
abbrev cX2_has : ByteArray := prog_4_method_2_code
def yX2_has : MethodName := ⟨RX2, "has", "(I)Z"⟩
abbrev cX2_within : ByteArray := prog_4_method_3_code
def yX2_within : MethodName := ⟨RX2, "within", "(I)I"⟩
abbrev cX2_at : ByteArray := prog_4_method_4_code
def yX2_at : MethodName := ⟨RX2, "at", "(I)I"⟩
abbrev cX2_put : ByteArray := prog_4_method_5_code
def yX2_put : MethodName := ⟨RX2, "put", "(II)V"⟩
abbrev cX2_fetch : ByteArray := prog_4_method_6_code
def yX2_fetch : MethodName := ⟨RX2, "fetch", "(I)I"⟩
abbrev cX2_read : ByteArray := prog_4_method_7_code
def yX2_read : MethodName := ⟨RX2, "read", "(I)I"⟩
abbrev cX2_write : ByteArray := prog_4_method_8_code
def yX2_write : MethodName := ⟨RX2, "write", "(II)V"⟩
abbrev cX2_isWaitedFor : ByteArray := prog_4_method_9_code
def yX2_isWaitedFor : MethodName := ⟨RX2, "isWaitedFor", "(I)Z"⟩
def RX3 : String := "SpectrumBoard$Operands"
def TX3 : u_T := fun k => match k with
  | 0 => ("SpectrumBoard$Operands", "memory", "LSpectrumBoard$Memory;", true)
  | _ => ("SpectrumBoard$Operands", "registers", "LSpectrumBoard$Registers;", true)
def tyX3 : Nat → FieldType := fun k => match k with
  | 0 => .object "SpectrumBoard$Memory"
  | _ => .object "SpectrumBoard$Registers"
theorem nmX3 : ∀ a, a < 2 → ∀ b, b < 2 → a ≠ b → (TX3 a).2.1 ≠ (TX3 b).2.1 := by decide +kernel
theorem tyX3_ok : ∀ k, k < 2 → parseFieldDescriptor (TX3 k).2.2.1 = some (tyX3 k) := by decide +kernel
abbrev cX3_init : ByteArray := prog_5_method_1_code
def yX3_init : MethodName := ⟨RX3, "<init>", "(LSpectrumBoard$Memory;LSpectrumBoard$Registers;)V"⟩
abbrev cX3_isAtHl : ByteArray := prog_5_method_2_code
def yX3_isAtHl : MethodName := ⟨RX3, "isAtHl", "(I)Z"⟩
abbrev cX3_pairOf : ByteArray := prog_5_method_3_code
def yX3_pairOf : MethodName := ⟨RX3, "pairOf", "(I)I"⟩
abbrev cX3_stackPairOf : ByteArray := prog_5_method_4_code
def yX3_stackPairOf : MethodName := ⟨RX3, "stackPairOf", "(I)I"⟩
abbrev cX3_holds : ByteArray := prog_5_method_5_code
def yX3_holds : MethodName := ⟨RX3, "holds", "(I)Z"⟩
abbrev cX3_fetchNext : ByteArray := prog_5_method_6_code
def yX3_fetchNext : MethodName := ⟨RX3, "fetchNext", "()I"⟩
abbrev cX3_next : ByteArray := prog_5_method_7_code
def yX3_next : MethodName := ⟨RX3, "next", "()I"⟩
abbrev cX3_nextPair : ByteArray := prog_5_method_8_code
def yX3_nextPair : MethodName := ⟨RX3, "nextPair", "()I"⟩
abbrev cX3_value : ByteArray := prog_5_method_9_code
def yX3_value : MethodName := ⟨RX3, "value", "(I)I"⟩
abbrev cX3_store : ByteArray := prog_5_method_10_code
def yX3_store : MethodName := ⟨RX3, "store", "(II)V"⟩
abbrev cX3_readPair : ByteArray := prog_5_method_11_code
def yX3_readPair : MethodName := ⟨RX3, "readPair", "(I)I"⟩
abbrev cX3_writePair : ByteArray := prog_5_method_12_code
def yX3_writePair : MethodName := ⟨RX3, "writePair", "(II)V"⟩
abbrev cX3_push : ByteArray := prog_5_method_13_code
def yX3_push : MethodName := ⟨RX3, "push", "(I)V"⟩
abbrev cX3_pop : ByteArray := prog_5_method_14_code
def yX3_pop : MethodName := ⟨RX3, "pop", "()I"⟩
def RX4 : String := "SpectrumBoard$Ports"
def TX4 : u_T := fun k => match k with
  | 0 => ("SpectrumBoard$Ports", "clock", "LSpectrumBoard$Clock;", true)
  | 1 => ("SpectrumBoard$Ports", "tape", "LSpectrumBoard$Tape;", true)
  | 2 => ("SpectrumBoard$Ports", "rows", "[I", true)
  | 3 => ("SpectrumBoard$Ports", "border", "I", false)
  | 4 => ("SpectrumBoard$Ports", "speaker", "I", false)
  | 5 => ("SpectrumBoard$Ports", "speakerChanges", "I", false)
  | _ => ("SpectrumBoard$Ports", "changeTimes", "[I", true)
def tyX4 : Nat → FieldType := fun k => match k with
  | 0 => .object "SpectrumBoard$Clock"
  | 1 => .object "SpectrumBoard$Tape"
  | 2 => .array .int
  | 3 => .int
  | 4 => .int
  | 5 => .int
  | _ => .array .int
theorem nmX4 : ∀ a, a < 7 → ∀ b, b < 7 → a ≠ b → (TX4 a).2.1 ≠ (TX4 b).2.1 := by decide +kernel
theorem tyX4_ok : ∀ k, k < 7 → parseFieldDescriptor (TX4 k).2.2.1 = some (tyX4 k) := by decide +kernel
abbrev cX4_init : ByteArray := prog_6_method_1_code
def yX4_init : MethodName := ⟨RX4, "<init>", "(LSpectrumBoard$Clock;)V"⟩
abbrev cX4_input : ByteArray := prog_6_method_2_code
def yX4_input : MethodName := ⟨RX4, "input", "(II)I"⟩
abbrev cX4_output : ByteArray := prog_6_method_3_code
def yX4_output : MethodName := ⟨RX4, "output", "(II)V"⟩
abbrev cX4_timeOfChange : ByteArray := prog_6_method_4_code
def yX4_timeOfChange : MethodName := ⟨RX4, "timeOfChange", "(I)I"⟩
abbrev cX4_isWaitedFor : ByteArray := prog_6_method_5_code
def yX4_isWaitedFor : MethodName := ⟨RX4, "isWaitedFor", "(I)Z"⟩
abbrev cX4_keysOf : ByteArray := prog_6_method_6_code
def yX4_keysOf : MethodName := ⟨RX4, "keysOf", "(I)I"⟩
abbrev cX4_moveSpeaker : ByteArray := prog_6_method_7_code
def yX4_moveSpeaker : MethodName := ⟨RX4, "moveSpeaker", "(I)V"⟩
def RX5 : String := "SpectrumBoard$Processor"
def TX5 : u_T := fun k => match k with
  | 0 => ("SpectrumBoard$Processor", "clock", "LSpectrumBoard$Clock;", true)
  | 1 => ("SpectrumBoard$Processor", "memory", "LSpectrumBoard$Memory;", true)
  | 2 => ("SpectrumBoard$Processor", "ports", "LSpectrumBoard$Ports;", true)
  | 3 => ("SpectrumBoard$Processor", "registers", "LSpectrumBoard$Registers;", true)
  | 4 => ("SpectrumBoard$Processor", "arithmetic", "LSpectrumBoard$Arithmetic;", true)
  | 5 => ("SpectrumBoard$Processor", "operands", "LSpectrumBoard$Operands;", true)
  | 6 => ("SpectrumBoard$Processor", "halted", "Z", false)
  | 7 => ("SpectrumBoard$Processor", "interruptsOn", "Z", false)
  | 8 => ("SpectrumBoard$Processor", "justTurnedOn", "Z", false)
  | 9 => ("SpectrumBoard$Processor", "interrupts", "I", false)
  | _ => ("SpectrumBoard$Processor", "instructions", "I", false)
def tyX5 : Nat → FieldType := fun k => match k with
  | 0 => .object "SpectrumBoard$Clock"
  | 1 => .object "SpectrumBoard$Memory"
  | 2 => .object "SpectrumBoard$Ports"
  | 3 => .object "SpectrumBoard$Registers"
  | 4 => .object "SpectrumBoard$Arithmetic"
  | 5 => .object "SpectrumBoard$Operands"
  | 6 => .boolean
  | 7 => .boolean
  | 8 => .boolean
  | 9 => .int
  | _ => .int
theorem nmX5 : ∀ a, a < 11 → ∀ b, b < 11 → a ≠ b → (TX5 a).2.1 ≠ (TX5 b).2.1 := by decide +kernel
theorem tyX5_ok : ∀ k, k < 11 → parseFieldDescriptor (TX5 k).2.2.1 = some (tyX5 k) := by decide +kernel
abbrev cX5_init : ByteArray := prog_7_method_1_code
def yX5_init : MethodName := ⟨RX5, "<init>", "(LSpectrumBoard$Clock;LSpectrumBoard$Memory;LSpectrumBoard$Ports;LSpectrumBoard$Registers;)V"⟩
abbrev cX5_step : ByteArray := prog_7_method_2_code
def yX5_step : MethodName := ⟨RX5, "step", "()Z"⟩
abbrev cX5_interrupt : ByteArray := prog_7_method_3_code
def yX5_interrupt : MethodName := ⟨RX5, "interrupt", "()V"⟩
abbrev cX5_isTrapNext : ByteArray := prog_7_method_4_code
def yX5_isTrapNext : MethodName := ⟨RX5, "isTrapNext", "()Z"⟩
abbrev cX5_isOfMore : ByteArray := prog_7_method_5_code
def yX5_isOfMore : MethodName := ⟨RX5, "isOfMore", "(I)Z"⟩
abbrev cX5_loadOrHalt : ByteArray := prog_7_method_6_code
def yX5_loadOrHalt : MethodName := ⟨RX5, "loadOrHalt", "(II)V"⟩
abbrev cX5_executeFirstQuarter : ByteArray := prog_7_method_7_code
def yX5_executeFirstQuarter : MethodName := ⟨RX5, "executeFirstQuarter", "(II)V"⟩
abbrev cX5_jumpNear : ByteArray := prog_7_method_8_code
def yX5_jumpNear : MethodName := ⟨RX5, "jumpNear", "(I)V"⟩
abbrev cX5_countDown : ByteArray := prog_7_method_9_code
def yX5_countDown : MethodName := ⟨RX5, "countDown", "()Z"⟩
abbrev cX5_jumpBy : ByteArray := prog_7_method_10_code
def yX5_jumpBy : MethodName := ⟨RX5, "jumpBy", "(IZ)V"⟩
abbrev cX5_loadPairOrAdd : ByteArray := prog_7_method_11_code
def yX5_loadPairOrAdd : MethodName := ⟨RX5, "loadPairOrAdd", "(I)V"⟩
abbrev cX5_loadByAddress : ByteArray := prog_7_method_12_code
def yX5_loadByAddress : MethodName := ⟨RX5, "loadByAddress", "(I)V"⟩
abbrev cX5_storeA : ByteArray := prog_7_method_13_code
def yX5_storeA : MethodName := ⟨RX5, "storeA", "(I)V"⟩
abbrev cX5_loadA : ByteArray := prog_7_method_14_code
def yX5_loadA : MethodName := ⟨RX5, "loadA", "(I)V"⟩
abbrev cX5_stepPair : ByteArray := prog_7_method_15_code
def yX5_stepPair : MethodName := ⟨RX5, "stepPair", "(I)V"⟩
abbrev cX5_stepOperand : ByteArray := prog_7_method_16_code
def yX5_stepOperand : MethodName := ⟨RX5, "stepOperand", "(IZ)V"⟩
abbrev cX5_changeA : ByteArray := prog_7_method_17_code
def yX5_changeA : MethodName := ⟨RX5, "changeA", "(I)V"⟩
abbrev cX5_standsAlone : ByteArray := prog_7_method_18_code
def yX5_standsAlone : MethodName := ⟨RX5, "standsAlone", "(II)Z"⟩
abbrev cX5_executeAlone : ByteArray := prog_7_method_19_code
def yX5_executeAlone : MethodName := ⟨RX5, "executeAlone", "(I)V"⟩
abbrev cX5_executeLastQuarter : ByteArray := prog_7_method_20_code
def yX5_executeLastQuarter : MethodName := ⟨RX5, "executeLastQuarter", "(II)V"⟩
abbrev cX5_returnIf : ByteArray := prog_7_method_21_code
def yX5_returnIf : MethodName := ⟨RX5, "returnIf", "(Z)V"⟩
abbrev cX5_exchangeWithOthers : ByteArray := prog_7_method_22_code
def yX5_exchangeWithOthers : MethodName := ⟨RX5, "exchangeWithOthers", "()V"⟩
abbrev cX5_loadStackFromHl : ByteArray := prog_7_method_23_code
def yX5_loadStackFromHl : MethodName := ⟨RX5, "loadStackFromHl", "()V"⟩
abbrev cX5_jumpTo : ByteArray := prog_7_method_24_code
def yX5_jumpTo : MethodName := ⟨RX5, "jumpTo", "(IZ)V"⟩
abbrev cX5_callTo : ByteArray := prog_7_method_25_code
def yX5_callTo : MethodName := ⟨RX5, "callTo", "(IZ)V"⟩
abbrev cX5_inputToA : ByteArray := prog_7_method_26_code
def yX5_inputToA : MethodName := ⟨RX5, "inputToA", "()V"⟩
abbrev cX5_exchangeHlWithStack : ByteArray := prog_7_method_27_code
def yX5_exchangeHlWithStack : MethodName := ⟨RX5, "exchangeHlWithStack", "()V"⟩
abbrev cX5_turnInterruptsOn : ByteArray := prog_7_method_28_code
def yX5_turnInterruptsOn : MethodName := ⟨RX5, "turnInterruptsOn", "()V"⟩
abbrev cX5_pushPair : ByteArray := prog_7_method_29_code
def yX5_pushPair : MethodName := ⟨RX5, "pushPair", "(I)V"⟩
abbrev cX5_executeBits : ByteArray := prog_7_method_30_code
def yX5_executeBits : MethodName := ⟨RX5, "executeBits", "(I)V"⟩
abbrev cX5_executeMore : ByteArray := prog_7_method_31_code
def yX5_executeMore : MethodName := ⟨RX5, "executeMore", "(I)V"⟩
abbrev cX5_calculateWithHl : ByteArray := prog_7_method_32_code
def yX5_calculateWithHl : MethodName := ⟨RX5, "calculateWithHl", "(I)V"⟩
abbrev cX5_copyByte : ByteArray := prog_7_method_33_code
def yX5_copyByte : MethodName := ⟨RX5, "copyByte", "(Z)V"⟩
def RX6 : String := "SpectrumBoard$Registers"
def TX6 : u_T := fun k => match k with
  | _ => ("SpectrumBoard$Registers", "pairs", "[I", true)
def tyX6 : Nat → FieldType := fun k => match k with
  | _ => .array .int
theorem nmX6 : ∀ a, a < 1 → ∀ b, b < 1 → a ≠ b → (TX6 a).2.1 ≠ (TX6 b).2.1 := by decide +kernel
theorem tyX6_ok : ∀ k, k < 1 → parseFieldDescriptor (TX6 k).2.2.1 = some (tyX6 k) := by decide +kernel
abbrev cX6_init : ByteArray := prog_8_method_1_code
def yX6_init : MethodName := ⟨RX6, "<init>", "()V"⟩
abbrev cX6_has : ByteArray := prog_8_method_2_code
def yX6_has : MethodName := ⟨RX6, "has", "(I)Z"⟩
abbrev cX6_pair : ByteArray := prog_8_method_3_code
def yX6_pair : MethodName := ⟨RX6, "pair", "(I)I"⟩
abbrev cX6_load : ByteArray := prog_8_method_4_code
def yX6_load : MethodName := ⟨RX6, "load", "(II)V"⟩
abbrev cX6_move : ByteArray := prog_8_method_5_code
def yX6_move : MethodName := ⟨RX6, "move", "(II)V"⟩
abbrev cX6_exchange : ByteArray := prog_8_method_6_code
def yX6_exchange : MethodName := ⟨RX6, "exchange", "(II)V"⟩
abbrev cX6_single : ByteArray := prog_8_method_7_code
def yX6_single : MethodName := ⟨RX6, "single", "(I)I"⟩
abbrev cX6_loadSingle : ByteArray := prog_8_method_8_code
def yX6_loadSingle : MethodName := ⟨RX6, "loadSingle", "(II)V"⟩
abbrev cX6_flags : ByteArray := prog_8_method_9_code
def yX6_flags : MethodName := ⟨RX6, "flags", "()I"⟩
abbrev cX6_loadFlags : ByteArray := prog_8_method_10_code
def yX6_loadFlags : MethodName := ⟨RX6, "loadFlags", "(I)V"⟩
abbrev cX6_pairWith : ByteArray := prog_8_method_11_code
def yX6_pairWith : MethodName := ⟨RX6, "pairWith", "(I)I"⟩
abbrev cX6_isHigher : ByteArray := prog_8_method_12_code
def yX6_isHigher : MethodName := ⟨RX6, "isHigher", "(I)Z"⟩
def RX7 : String := "SpectrumBoard$Tape"
def TX7 : u_T := fun k => match k with
  | 0 => ("SpectrumBoard$Tape", "times", "[I", true)
  | 1 => ("SpectrumBoard$Tape", "edges", "I", false)
  | _ => ("SpectrumBoard$Tape", "lastTime", "I", false)
def tyX7 : Nat → FieldType := fun k => match k with
  | 0 => .array .int
  | 1 => .int
  | _ => .int
theorem nmX7 : ∀ a, a < 3 → ∀ b, b < 3 → a ≠ b → (TX7 a).2.1 ≠ (TX7 b).2.1 := by decide +kernel
theorem tyX7_ok : ∀ k, k < 3 → parseFieldDescriptor (TX7 k).2.2.1 = some (tyX7 k) := by decide +kernel
abbrev cX7_init : ByteArray := prog_9_method_1_code
def yX7_init : MethodName := ⟨RX7, "<init>", "()V"⟩
abbrev cX7_isFull : ByteArray := prog_9_method_2_code
def yX7_isFull : MethodName := ⟨RX7, "isFull", "()Z"⟩
abbrev cX7_append : ByteArray := prog_9_method_3_code
def yX7_append : MethodName := ⟨RX7, "append", "(I)I"⟩
abbrev cX7_ear : ByteArray := prog_9_method_4_code
def yX7_ear : MethodName := ⟨RX7, "ear", "(I)I"⟩
def RX8 : String := "SpectrumBoard"
def TX8 : u_T := fun k => match k with
  | 0 => ("SpectrumBoard", "clock", "LSpectrumBoard$Clock;", true)
  | 1 => ("SpectrumBoard", "memory", "LSpectrumBoard$Memory;", true)
  | 2 => ("SpectrumBoard", "ports", "LSpectrumBoard$Ports;", true)
  | 3 => ("SpectrumBoard", "registers", "LSpectrumBoard$Registers;", true)
  | _ => ("SpectrumBoard", "processor", "LSpectrumBoard$Processor;", true)
def tyX8 : Nat → FieldType := fun k => match k with
  | 0 => .object "SpectrumBoard$Clock"
  | 1 => .object "SpectrumBoard$Memory"
  | 2 => .object "SpectrumBoard$Ports"
  | 3 => .object "SpectrumBoard$Registers"
  | _ => .object "SpectrumBoard$Processor"
theorem nmX8 : ∀ a, a < 5 → ∀ b, b < 5 → a ≠ b → (TX8 a).2.1 ≠ (TX8 b).2.1 := by decide +kernel
theorem tyX8_ok : ∀ k, k < 5 → parseFieldDescriptor (TX8 k).2.2.1 = some (tyX8 k) := by decide +kernel
abbrev cX8_init : ByteArray := prog_1_method_1_code
def yX8_init : MethodName := ⟨RX8, "<init>", "()V"⟩
abbrev cX8_poke : ByteArray := prog_1_method_2_code
def yX8_poke : MethodName := ⟨RX8, "poke", "(III)I"⟩
abbrev cX8_peek : ByteArray := prog_1_method_3_code
def yX8_peek : MethodName := ⟨RX8, "peek", "(I)I"⟩
abbrev cX8_set : ByteArray := prog_1_method_4_code
def yX8_set : MethodName := ⟨RX8, "set", "(II)V"⟩
abbrev cX8_get : ByteArray := prog_1_method_5_code
def yX8_get : MethodName := ⟨RX8, "get", "(I)I"⟩
abbrev cX8_key : ByteArray := prog_1_method_6_code
def yX8_key : MethodName := ⟨RX8, "key", "(II)V"⟩
abbrev cX8_edge : ByteArray := prog_1_method_7_code
def yX8_edge : MethodName := ⟨RX8, "edge", "(I)I"⟩
abbrev cX8_run : ByteArray := prog_1_method_8_code
def yX8_run : MethodName := ⟨RX8, "run", "(I)Z"⟩
abbrev cX8_count : ByteArray := prog_1_method_9_code
def yX8_count : MethodName := ⟨RX8, "count", "(I)I"⟩
abbrev cX8_change : ByteArray := prog_1_method_10_code
def yX8_change : MethodName := ⟨RX8, "change", "(I)I"⟩
def RX9 : String := "SpectrumBoardModel"
def TX9 : u_T := fun k => match k with
  | 0 => ("SpectrumBoardModel", "refusal", "I", false)
  | 1 => ("SpectrumBoardModel", "memory", "[I", true)
  | 2 => ("SpectrumBoardModel", "reg", "[I", true)
  | 3 => ("SpectrumBoardModel", "other", "[I", true)
  | 4 => ("SpectrumBoardModel", "sp", "I", false)
  | 5 => ("SpectrumBoardModel", "pc", "I", false)
  | 6 => ("SpectrumBoardModel", "time", "I", false)
  | 7 => ("SpectrumBoardModel", "isHalted", "Z", false)
  | 8 => ("SpectrumBoardModel", "isOn", "Z", false)
  | 9 => ("SpectrumBoardModel", "isBehindEi", "Z", false)
  | 10 => ("SpectrumBoardModel", "isTrapped", "Z", false)
  | 11 => ("SpectrumBoardModel", "interrupts", "I", false)
  | 12 => ("SpectrumBoardModel", "instructions", "I", false)
  | 13 => ("SpectrumBoardModel", "rows", "[I", true)
  | 14 => ("SpectrumBoardModel", "edges", "I", false)
  | 15 => ("SpectrumBoardModel", "edgeAt", "[I", true)
  | 16 => ("SpectrumBoardModel", "border", "I", false)
  | 17 => ("SpectrumBoardModel", "speaker", "I", false)
  | 18 => ("SpectrumBoardModel", "changes", "I", false)
  | _ => ("SpectrumBoardModel", "changeAt", "[I", true)
def tyX9 : Nat → FieldType := fun k => match k with
  | 0 => .int
  | 1 => .array .int
  | 2 => .array .int
  | 3 => .array .int
  | 4 => .int
  | 5 => .int
  | 6 => .int
  | 7 => .boolean
  | 8 => .boolean
  | 9 => .boolean
  | 10 => .boolean
  | 11 => .int
  | 12 => .int
  | 13 => .array .int
  | 14 => .int
  | 15 => .array .int
  | 16 => .int
  | 17 => .int
  | 18 => .int
  | _ => .array .int
theorem nmX9 : ∀ a, a < 20 → ∀ b, b < 20 → a ≠ b → (TX9 a).2.1 ≠ (TX9 b).2.1 := by decide +kernel
theorem tyX9_ok : ∀ k, k < 20 → parseFieldDescriptor (TX9 k).2.2.1 = some (tyX9 k) := by decide +kernel
abbrev cX9_init : ByteArray := prog_11_method_1_code
def yX9_init : MethodName := ⟨RX9, "<init>", "()V"⟩
abbrev cX9_thrown : ByteArray := prog_11_method_2_code
def yX9_thrown : MethodName := ⟨RX9, "thrown", "()I"⟩
abbrev cX9_refused : ByteArray := prog_11_method_3_code
def yX9_refused : MethodName := ⟨RX9, "refused", "(I)Z"⟩
abbrev cX9_isIn : ByteArray := prog_11_method_4_code
def yX9_isIn : MethodName := ⟨RX9, "isIn", "(III)Z"⟩
abbrev cX9_delay : ByteArray := prog_11_method_5_code
def yX9_delay : MethodName := ⟨RX9, "delay", "()V"⟩
abbrev cX9_open : ByteArray := prog_11_method_6_code
def yX9_open : MethodName := ⟨RX9, "open", "(I)V"⟩
abbrev cX9_read : ByteArray := prog_11_method_7_code
def yX9_read : MethodName := ⟨RX9, "read", "(I)I"⟩
abbrev cX9_write : ByteArray := prog_11_method_8_code
def yX9_write : MethodName := ⟨RX9, "write", "(II)V"⟩
abbrev cX9_fetch : ByteArray := prog_11_method_9_code
def yX9_fetch : MethodName := ⟨RX9, "fetch", "()I"⟩
abbrev cX9_next : ByteArray := prog_11_method_10_code
def yX9_next : MethodName := ⟨RX9, "next", "()I"⟩
abbrev cX9_nextPair : ByteArray := prog_11_method_11_code
def yX9_nextPair : MethodName := ⟨RX9, "nextPair", "()I"⟩
abbrev cX9_readPair : ByteArray := prog_11_method_12_code
def yX9_readPair : MethodName := ⟨RX9, "readPair", "(I)I"⟩
abbrev cX9_push : ByteArray := prog_11_method_13_code
def yX9_push : MethodName := ⟨RX9, "push", "(I)V"⟩
abbrev cX9_pop : ByteArray := prog_11_method_14_code
def yX9_pop : MethodName := ⟨RX9, "pop", "()I"⟩
abbrev cX9_pair : ByteArray := prog_11_method_15_code
def yX9_pair : MethodName := ⟨RX9, "pair", "(I)I"⟩
abbrev cX9_setPair : ByteArray := prog_11_method_16_code
def yX9_setPair : MethodName := ⟨RX9, "setPair", "(II)V"⟩
abbrev cX9_hl : ByteArray := prog_11_method_17_code
def yX9_hl : MethodName := ⟨RX9, "hl", "()I"⟩
abbrev cX9_operand : ByteArray := prog_11_method_18_code
def yX9_operand : MethodName := ⟨RX9, "operand", "(I)I"⟩
abbrev cX9_setOperand : ByteArray := prog_11_method_19_code
def yX9_setOperand : MethodName := ⟨RX9, "setOperand", "(II)V"⟩
abbrev cX9_carry : ByteArray := prog_11_method_20_code
def yX9_carry : MethodName := ⟨RX9, "carry", "()I"⟩
abbrev cX9_holds : ByteArray := prog_11_method_21_code
def yX9_holds : MethodName := ⟨RX9, "holds", "(I)Z"⟩
abbrev cX9_signs : ByteArray := prog_11_method_22_code
def yX9_signs : MethodName := ⟨RX9, "signs", "(I)I"⟩
abbrev cX9_even : ByteArray := prog_11_method_23_code
def yX9_even : MethodName := ⟨RX9, "even", "(I)I"⟩
abbrev cX9_plus : ByteArray := prog_11_method_24_code
def yX9_plus : MethodName := ⟨RX9, "plus", "(III)I"⟩
abbrev cX9_minus : ByteArray := prog_11_method_25_code
def yX9_minus : MethodName := ⟨RX9, "minus", "(III)I"⟩
abbrev cX9_reckon : ByteArray := prog_11_method_26_code
def yX9_reckon : MethodName := ⟨RX9, "reckon", "(II)V"⟩
abbrev cX9_addPair : ByteArray := prog_11_method_27_code
def yX9_addPair : MethodName := ⟨RX9, "addPair", "(I)V"⟩
abbrev cX9_addPairWithCarry : ByteArray := prog_11_method_28_code
def yX9_addPairWithCarry : MethodName := ⟨RX9, "addPairWithCarry", "(IZ)V"⟩
abbrev cX9_correct : ByteArray := prog_11_method_29_code
def yX9_correct : MethodName := ⟨RX9, "correct", "()V"⟩
abbrev cX9_turned : ByteArray := prog_11_method_30_code
def yX9_turned : MethodName := ⟨RX9, "turned", "(II)I"⟩
abbrev cX9_turnA : ByteArray := prog_11_method_31_code
def yX9_turnA : MethodName := ⟨RX9, "turnA", "(I)V"⟩
abbrev cX9_bits : ByteArray := prog_11_method_32_code
def yX9_bits : MethodName := ⟨RX9, "bits", "(I)V"⟩
abbrev cX9_one : ByteArray := prog_11_method_33_code
def yX9_one : MethodName := ⟨RX9, "one", "(I)V"⟩
abbrev cX9_step : ByteArray := prog_11_method_34_code
def yX9_step : MethodName := ⟨RX9, "step", "(IZ)V"⟩
abbrev cX9_jumpRelative : ByteArray := prog_11_method_35_code
def yX9_jumpRelative : MethodName := ⟨RX9, "jumpRelative", "(I)V"⟩
abbrev cX9_exchange : ByteArray := prog_11_method_36_code
def yX9_exchange : MethodName := ⟨RX9, "exchange", "(II)V"⟩
abbrev cX9_loads : ByteArray := prog_11_method_37_code
def yX9_loads : MethodName := ⟨RX9, "loads", "(I)V"⟩
abbrev cX9_accumulator : ByteArray := prog_11_method_38_code
def yX9_accumulator : MethodName := ⟨RX9, "accumulator", "(I)V"⟩
abbrev cX9_three : ByteArray := prog_11_method_39_code
def yX9_three : MethodName := ⟨RX9, "three", "(I)V"⟩
abbrev cX9_callIf : ByteArray := prog_11_method_40_code
def yX9_callIf : MethodName := ⟨RX9, "callIf", "(Z)V"⟩
abbrev cX9_back : ByteArray := prog_11_method_41_code
def yX9_back : MethodName := ⟨RX9, "back", "(I)V"⟩
abbrev cX9_ahead : ByteArray := prog_11_method_42_code
def yX9_ahead : MethodName := ⟨RX9, "ahead", "(I)V"⟩
abbrev cX9_various : ByteArray := prog_11_method_43_code
def yX9_various : MethodName := ⟨RX9, "various", "(I)V"⟩
abbrev cX9_extended : ByteArray := prog_11_method_44_code
def yX9_extended : MethodName := ⟨RX9, "extended", "(I)V"⟩
abbrev cX9_move : ByteArray := prog_11_method_45_code
def yX9_move : MethodName := ⟨RX9, "move", "(Z)V"⟩
abbrev cX9_openPort : ByteArray := prog_11_method_46_code
def yX9_openPort : MethodName := ⟨RX9, "openPort", "(I)V"⟩
abbrev cX9_send : ByteArray := prog_11_method_47_code
def yX9_send : MethodName := ⟨RX9, "send", "(I)V"⟩
abbrev cX9_receive : ByteArray := prog_11_method_48_code
def yX9_receive : MethodName := ⟨RX9, "receive", "(I)V"⟩
abbrev cX9_instruction : ByteArray := prog_11_method_49_code
def yX9_instruction : MethodName := ⟨RX9, "instruction", "()V"⟩
abbrev cX9_interrupt : ByteArray := prog_11_method_50_code
def yX9_interrupt : MethodName := ⟨RX9, "interrupt", "()V"⟩
abbrev cX9_run : ByteArray := prog_11_method_51_code
def yX9_run : MethodName := ⟨RX9, "run", "(I)Z"⟩
abbrev cX9_poke : ByteArray := prog_11_method_52_code
def yX9_poke : MethodName := ⟨RX9, "poke", "(III)I"⟩
abbrev cX9_peek : ByteArray := prog_11_method_53_code
def yX9_peek : MethodName := ⟨RX9, "peek", "(I)I"⟩
abbrev cX9_set : ByteArray := prog_11_method_54_code
def yX9_set : MethodName := ⟨RX9, "set", "(II)V"⟩
abbrev cX9_get : ByteArray := prog_11_method_55_code
def yX9_get : MethodName := ⟨RX9, "get", "(I)I"⟩
abbrev cX9_key : ByteArray := prog_11_method_56_code
def yX9_key : MethodName := ⟨RX9, "key", "(II)V"⟩
abbrev cX9_edge : ByteArray := prog_11_method_57_code
def yX9_edge : MethodName := ⟨RX9, "edge", "(I)I"⟩
abbrev cX9_count : ByteArray := prog_11_method_58_code
def yX9_count : MethodName := ⟨RX9, "count", "(I)I"⟩
abbrev cX9_change : ByteArray := prog_11_method_59_code
def yX9_change : MethodName := ⟨RX9, "change", "(I)I"⟩
def RJ6 : String := "java/lang/Integer"
def TJ6 : u_T := fun k => match k with
  | _ => ("", "", "", false)
def tyJ6 : Nat → FieldType := fun k => match k with
  | _ => .int
theorem nmJ6 : ∀ a, a < 0 → ∀ b, b < 0 → a ≠ b → (TJ6 a).2.1 ≠ (TJ6 b).2.1 := by decide +kernel
theorem tyJ6_ok : ∀ k, k < 0 → parseFieldDescriptor (TJ6 k).2.2.1 = some (tyJ6 k) := by decide +kernel
abbrev cJ6_bitCount_0f7a4 : ByteArray := prog_15_method_49_code
def yJ6_bitCount_0f7a4 : MethodName := ⟨RJ6, "bitCount", "(I)I"⟩
def RL : String := "SpectrumBoardLaw"
abbrev cL_poke : ByteArray := method_3_code
def yL_poke : MethodName := ⟨RL, "poke", "(LSpectrumBoard;III[J)I"⟩
abbrev cL_peek : ByteArray := method_4_code
def yL_peek : MethodName := ⟨RL, "peek", "(LSpectrumBoard;I[J)I"⟩
abbrev cL_set : ByteArray := method_5_code
def yL_set : MethodName := ⟨RL, "set", "(LSpectrumBoard;II)I"⟩
abbrev cL_get : ByteArray := method_6_code
def yL_get : MethodName := ⟨RL, "get", "(LSpectrumBoard;I[J)I"⟩
abbrev cL_key : ByteArray := method_7_code
def yL_key : MethodName := ⟨RL, "key", "(LSpectrumBoard;II)I"⟩
abbrev cL_edge : ByteArray := method_8_code
def yL_edge : MethodName := ⟨RL, "edge", "(LSpectrumBoard;I[J)I"⟩
abbrev cL_run : ByteArray := method_9_code
def yL_run : MethodName := ⟨RL, "run", "(LSpectrumBoard;I[J)I"⟩
abbrev cL_count : ByteArray := method_10_code
def yL_count : MethodName := ⟨RL, "count", "(LSpectrumBoard;I[J)I"⟩
abbrev cL_law : ByteArray := code
def yL_law : MethodName := ⟨RL, "law", "([I)Z"⟩
abbrev vwCl : List vw_C := [(RX0, TX0, 1), (RX1, TX1, 1), (RX2, TX2, 2), (RX3, TX3, 2), (RX4, TX4, 7), (RX5, TX5, 11), (RX6, TX6, 1), (RX7, TX7, 3), (RX8, TX8, 5), (RX9, TX9, 20)]
end
section
/-! the pure state, the two worlds, rows of their fields and arrays -/
abbrev zS : Type := (Nat → Int32) × (Nat → Nat → Int32)
def st1 (s : zS) (k : Nat) (v : Int32) : zS := (upd s.1 k v, s.2)
def st2 (s : zS) (k i : Nat) (v : Int32) : zS := (s.1, fun j => if j = k then upd (s.2 k) i v else s.2 j)
def cW (ad : Nat → Nat) (cI : ClassId) (s : zS) : va_W := [(ad 0, .inr (8, [.ref (ad 1), .ref (ad 2), .ref (ad 3), .ref (ad 4), .ref (ad 5)])), (ad 1, .inr (1, [.int (s.1 0)])), (ad 2, .inr (2, [.ref (ad 1), .ref (ad 9)])), (ad 3, .inr (4, [.ref (ad 1), .ref (ad 8), .ref (ad 10), .int (s.1 1), .int (s.1 2), .int (s.1 3), .ref (ad 11)])), (ad 4, .inr (6, [.ref (ad 13)])), (ad 5, .inr (5, [.ref (ad 1), .ref (ad 2), .ref (ad 3), .ref (ad 4), .ref (ad 6), .ref (ad 7), .int (s.1 4), .int (s.1 5), .int (s.1 6), .int (s.1 7), .int (s.1 8)])), (ad 6, .inr (0, [.ref (ad 4)])), (ad 7, .inr (3, [.ref (ad 2), .ref (ad 4)])), (ad 8, .inr (7, [.ref (ad 12), .int (s.1 9), .int (s.1 10)])), (ad 9, .inl (cI, 4096, .inl (s.2 0))), (ad 10, .inl (cI, 8, .inl (s.2 1))), (ad 11, .inl (cI, 100, .inl (s.2 2))), (ad 12, .inl (cI, 64, .inl (s.2 3))), (ad 13, .inl (cI, 10, .inl (s.2 4)))]
def ct0 (j : Nat) : Int32 := ([(6 : Int32), (5 : Int32), (4 : Int32), (3 : Int32), (2 : Int32), (1 : Int32), (0 : Int32), (0 : Int32)] : List Int32).getD j 0
def ct1 (j : Nat) : Int32 := ([(64 : Int32), (1 : Int32), (4 : Int32), (128 : Int32)] : List Int32).getD j 0
def cF : (Nat → Prop) → State → Heap → Prop := fun A U H => (∃ t : Nat, va_Z "SpectrumBoard$Clock" "WAITS" "[I" (.ref t) A U H ∧ va_T .int t 8 (fun j => .int (ct0 j)) A U H) ∧ (∃ t : Nat, va_Z "SpectrumBoard$Operands" "FLAG_OF_CONDITION" "[I" (.ref t) A U H ∧ va_T .int t 4 (fun j => .int (ct1 j)) A U H)
theorem c_good : sw_good cF := ⟨fun A u U H hv h => ⟨h.1.imp fun t q => ⟨q.1.moved hv, q.2.moved hv⟩, h.2.imp fun t q => ⟨q.1.moved hv, q.2.moved hv⟩⟩, fun A U H H1 h hq => ⟨h.1.imp fun t q => ⟨q.1.kept hq, q.2.kept hq⟩, h.2.imp fun t q => ⟨q.1.kept hq, q.2.kept hq⟩⟩, fun A B U H h hq => ⟨h.1.imp fun t q => ⟨q.1.narrow hq, q.2.narrow hq⟩, h.2.imp fun t q => ⟨q.1.narrow hq, q.2.narrow hq⟩⟩⟩
def mW (ad : Nat → Nat) (cI : ClassId) (s : zS) : va_W := [(ad 0, .inr (9, [.int (s.1 0), .ref (ad 1), .ref (ad 2), .ref (ad 3), .int (s.1 1), .int (s.1 2), .int (s.1 3), .int (s.1 4), .int (s.1 5), .int (s.1 6), .int (s.1 7), .int (s.1 8), .int (s.1 9), .ref (ad 4), .int (s.1 10), .ref (ad 5), .int (s.1 11), .int (s.1 12), .int (s.1 13), .ref (ad 6)])), (ad 1, .inl (cI, 4096, .inl (s.2 0))), (ad 2, .inl (cI, 8, .inl (s.2 1))), (ad 3, .inl (cI, 8, .inl (s.2 2))), (ad 4, .inl (cI, 8, .inl (s.2 3))), (ad 5, .inl (cI, 64, .inl (s.2 4))), (ad 6, .inl (cI, 100, .inl (s.2 5)))]
def mF : (Nat → Prop) → State → Heap → Prop := fun _ _ _ => True
theorem m_good : sw_good mF := ⟨fun _ _ _ _ _ _ => trivial, fun _ _ _ _ _ _ => trivial, fun _ _ _ _ _ _ => trivial⟩
theorem tbX0 : ∀ w ∈ u_ws RX0 TX0 1, w ∈ sw_tb := by decide +kernel
theorem tbX1 : ∀ w ∈ u_ws RX1 TX1 1, w ∈ sw_tb := by decide +kernel
theorem tbX2 : ∀ w ∈ u_ws RX2 TX2 2, w ∈ sw_tb := by decide +kernel
theorem tbX3 : ∀ w ∈ u_ws RX3 TX3 2, w ∈ sw_tb := by decide +kernel
theorem tbX4 : ∀ w ∈ u_ws RX4 TX4 7, w ∈ sw_tb := by decide +kernel
theorem tbX5 : ∀ w ∈ u_ws RX5 TX5 11, w ∈ sw_tb := by decide +kernel
theorem tbX6 : ∀ w ∈ u_ws RX6 TX6 1, w ∈ sw_tb := by decide +kernel
theorem tbX7 : ∀ w ∈ u_ws RX7 TX7 3, w ∈ sw_tb := by decide +kernel
theorem tbX8 : ∀ w ∈ u_ws RX8 TX8 5, w ∈ sw_tb := by decide +kernel
theorem tbX9 : ∀ w ∈ u_ws RX9 TX9 20, w ∈ sw_tb := by decide +kernel
section WR
variable {p : Program} {l : Launch} {e : Env} {R : Room} {s : State} {m : MethodId} {args : Array Value} {below : List Frame} {meth : Method} {c : Code} {H : Heap} {locs : List Loc} {cells slots : Nat} {Q : State → Prop}
variable {cc : ByteArray} {nL : Nat} {own : String} {ret ro : Option FieldType} {yo : MethodName} {dC : Nat → ClassId} {dI : Nat → Nat → Nat} {A : Nat → Prop} {pc index : Nat} {ls : Array Slot} {rest : List Value} {ad : Nat → Nat} {cI : ClassId} {s0 : zS}
theorem cg_0_0 (X : sw_X p s m args meth c cc nL own ret (sw_ws yo cc nL ro) (dC, dI) vwCl [(cI, .int)] cF A) (hP : va_P (dC, dI) vwCl (cW ad cI s0) H) (hlk : Cond.fieldLink own index "SpectrumBoard" "clock" "LSpectrumBoard$Clock;" ∈ sw_tb) (hdg : decode cc pc = .ok (.getfield index, 3)) (kk : W p l e R s m args below meth c H locs cells slots Q (F0 m (pc + 3) ls (.ref (ad 1) :: rest))) : W p l e R s m args below meth c H locs cells slots Q (F0 m pc ls (.ref (ad 0) :: rest)) := sw_get X hP 0 rfl rfl tbX8 0 (by decide) hlk rfl hdg kk
theorem cg_0_1 (X : sw_X p s m args meth c cc nL own ret (sw_ws yo cc nL ro) (dC, dI) vwCl [(cI, .int)] cF A) (hP : va_P (dC, dI) vwCl (cW ad cI s0) H) (hlk : Cond.fieldLink own index "SpectrumBoard" "memory" "LSpectrumBoard$Memory;" ∈ sw_tb) (hdg : decode cc pc = .ok (.getfield index, 3)) (kk : W p l e R s m args below meth c H locs cells slots Q (F0 m (pc + 3) ls (.ref (ad 2) :: rest))) : W p l e R s m args below meth c H locs cells slots Q (F0 m pc ls (.ref (ad 0) :: rest)) := sw_get X hP 0 rfl rfl tbX8 1 (by decide) hlk rfl hdg kk
theorem cg_0_2 (X : sw_X p s m args meth c cc nL own ret (sw_ws yo cc nL ro) (dC, dI) vwCl [(cI, .int)] cF A) (hP : va_P (dC, dI) vwCl (cW ad cI s0) H) (hlk : Cond.fieldLink own index "SpectrumBoard" "ports" "LSpectrumBoard$Ports;" ∈ sw_tb) (hdg : decode cc pc = .ok (.getfield index, 3)) (kk : W p l e R s m args below meth c H locs cells slots Q (F0 m (pc + 3) ls (.ref (ad 3) :: rest))) : W p l e R s m args below meth c H locs cells slots Q (F0 m pc ls (.ref (ad 0) :: rest)) := sw_get X hP 0 rfl rfl tbX8 2 (by decide) hlk rfl hdg kk
theorem cg_0_3 (X : sw_X p s m args meth c cc nL own ret (sw_ws yo cc nL ro) (dC, dI) vwCl [(cI, .int)] cF A) (hP : va_P (dC, dI) vwCl (cW ad cI s0) H) (hlk : Cond.fieldLink own index "SpectrumBoard" "registers" "LSpectrumBoard$Registers;" ∈ sw_tb) (hdg : decode cc pc = .ok (.getfield index, 3)) (kk : W p l e R s m args below meth c H locs cells slots Q (F0 m (pc + 3) ls (.ref (ad 4) :: rest))) : W p l e R s m args below meth c H locs cells slots Q (F0 m pc ls (.ref (ad 0) :: rest)) := sw_get X hP 0 rfl rfl tbX8 3 (by decide) hlk rfl hdg kk
theorem cg_0_4 (X : sw_X p s m args meth c cc nL own ret (sw_ws yo cc nL ro) (dC, dI) vwCl [(cI, .int)] cF A) (hP : va_P (dC, dI) vwCl (cW ad cI s0) H) (hlk : Cond.fieldLink own index "SpectrumBoard" "processor" "LSpectrumBoard$Processor;" ∈ sw_tb) (hdg : decode cc pc = .ok (.getfield index, 3)) (kk : W p l e R s m args below meth c H locs cells slots Q (F0 m (pc + 3) ls (.ref (ad 5) :: rest))) : W p l e R s m args below meth c H locs cells slots Q (F0 m pc ls (.ref (ad 0) :: rest)) := sw_get X hP 0 rfl rfl tbX8 4 (by decide) hlk rfl hdg kk
theorem cg_1_0 (X : sw_X p s m args meth c cc nL own ret (sw_ws yo cc nL ro) (dC, dI) vwCl [(cI, .int)] cF A) (hP : va_P (dC, dI) vwCl (cW ad cI s0) H) (hlk : Cond.fieldLink own index "SpectrumBoard$Clock" "now" "I" ∈ sw_tb) (hdg : decode cc pc = .ok (.getfield index, 3)) (kk : W p l e R s m args below meth c H locs cells slots Q (F0 m (pc + 3) ls (.int (s0.1 0) :: rest))) : W p l e R s m args below meth c H locs cells slots Q (F0 m pc ls (.ref (ad 1) :: rest)) := sw_get X hP 1 rfl rfl tbX1 0 (by decide) hlk rfl hdg kk
theorem cp_1_0 {v : Int32} (X : sw_X p s m args meth c cc nL own ret (sw_ws yo cc nL ro) (dC, dI) vwCl [(cI, .int)] cF A) (hP : va_P (dC, dI) vwCl (cW ad cI s0) H) (hD : va_D A (cW ad cI s0)) (hS : va_S A s.heap H locs) (hlk : Cond.fieldLink own index "SpectrumBoard$Clock" "now" "I" ∈ sw_tb) (hdg : decode cc pc = .ok (.putfield index, 3)) (kk : ∀ (H1 : Heap) (locs1 : List Loc), va_P (dC, dI) vwCl (cW ad cI (st1 s0 0 v)) H1 → va_D A (cW ad cI (st1 s0 0 v)) → va_S A s.heap H1 locs1 → W p l e R s m args below meth c H1 locs1 cells slots Q (F0 m (pc + 3) ls rest)) : W p l e R s m args below meth c H locs cells slots Q (F0 m pc ls (.int v :: .ref (ad 1) :: rest)) := sw_put X hP hD hS 1 rfl rfl tbX1 tyX1 tyX1_ok nmX1 0 (by decide) hlk rfl rfl rfl (by simp) rfl hdg kk
theorem cg_2_0 (X : sw_X p s m args meth c cc nL own ret (sw_ws yo cc nL ro) (dC, dI) vwCl [(cI, .int)] cF A) (hP : va_P (dC, dI) vwCl (cW ad cI s0) H) (hlk : Cond.fieldLink own index "SpectrumBoard$Memory" "clock" "LSpectrumBoard$Clock;" ∈ sw_tb) (hdg : decode cc pc = .ok (.getfield index, 3)) (kk : W p l e R s m args below meth c H locs cells slots Q (F0 m (pc + 3) ls (.ref (ad 1) :: rest))) : W p l e R s m args below meth c H locs cells slots Q (F0 m pc ls (.ref (ad 2) :: rest)) := sw_get X hP 2 rfl rfl tbX2 0 (by decide) hlk rfl hdg kk
theorem cg_2_1 (X : sw_X p s m args meth c cc nL own ret (sw_ws yo cc nL ro) (dC, dI) vwCl [(cI, .int)] cF A) (hP : va_P (dC, dI) vwCl (cW ad cI s0) H) (hlk : Cond.fieldLink own index "SpectrumBoard$Memory" "bytes" "[I" ∈ sw_tb) (hdg : decode cc pc = .ok (.getfield index, 3)) (kk : W p l e R s m args below meth c H locs cells slots Q (F0 m (pc + 3) ls (.ref (ad 9) :: rest))) : W p l e R s m args below meth c H locs cells slots Q (F0 m pc ls (.ref (ad 2) :: rest)) := sw_get X hP 2 rfl rfl tbX2 1 (by decide) hlk rfl hdg kk
theorem cg_3_0 (X : sw_X p s m args meth c cc nL own ret (sw_ws yo cc nL ro) (dC, dI) vwCl [(cI, .int)] cF A) (hP : va_P (dC, dI) vwCl (cW ad cI s0) H) (hlk : Cond.fieldLink own index "SpectrumBoard$Ports" "clock" "LSpectrumBoard$Clock;" ∈ sw_tb) (hdg : decode cc pc = .ok (.getfield index, 3)) (kk : W p l e R s m args below meth c H locs cells slots Q (F0 m (pc + 3) ls (.ref (ad 1) :: rest))) : W p l e R s m args below meth c H locs cells slots Q (F0 m pc ls (.ref (ad 3) :: rest)) := sw_get X hP 3 rfl rfl tbX4 0 (by decide) hlk rfl hdg kk
theorem cg_3_1 (X : sw_X p s m args meth c cc nL own ret (sw_ws yo cc nL ro) (dC, dI) vwCl [(cI, .int)] cF A) (hP : va_P (dC, dI) vwCl (cW ad cI s0) H) (hlk : Cond.fieldLink own index "SpectrumBoard$Ports" "tape" "LSpectrumBoard$Tape;" ∈ sw_tb) (hdg : decode cc pc = .ok (.getfield index, 3)) (kk : W p l e R s m args below meth c H locs cells slots Q (F0 m (pc + 3) ls (.ref (ad 8) :: rest))) : W p l e R s m args below meth c H locs cells slots Q (F0 m pc ls (.ref (ad 3) :: rest)) := sw_get X hP 3 rfl rfl tbX4 1 (by decide) hlk rfl hdg kk
theorem cg_3_2 (X : sw_X p s m args meth c cc nL own ret (sw_ws yo cc nL ro) (dC, dI) vwCl [(cI, .int)] cF A) (hP : va_P (dC, dI) vwCl (cW ad cI s0) H) (hlk : Cond.fieldLink own index "SpectrumBoard$Ports" "rows" "[I" ∈ sw_tb) (hdg : decode cc pc = .ok (.getfield index, 3)) (kk : W p l e R s m args below meth c H locs cells slots Q (F0 m (pc + 3) ls (.ref (ad 10) :: rest))) : W p l e R s m args below meth c H locs cells slots Q (F0 m pc ls (.ref (ad 3) :: rest)) := sw_get X hP 3 rfl rfl tbX4 2 (by decide) hlk rfl hdg kk
theorem cg_3_3 (X : sw_X p s m args meth c cc nL own ret (sw_ws yo cc nL ro) (dC, dI) vwCl [(cI, .int)] cF A) (hP : va_P (dC, dI) vwCl (cW ad cI s0) H) (hlk : Cond.fieldLink own index "SpectrumBoard$Ports" "border" "I" ∈ sw_tb) (hdg : decode cc pc = .ok (.getfield index, 3)) (kk : W p l e R s m args below meth c H locs cells slots Q (F0 m (pc + 3) ls (.int (s0.1 1) :: rest))) : W p l e R s m args below meth c H locs cells slots Q (F0 m pc ls (.ref (ad 3) :: rest)) := sw_get X hP 3 rfl rfl tbX4 3 (by decide) hlk rfl hdg kk
theorem cp_3_3 {v : Int32} (X : sw_X p s m args meth c cc nL own ret (sw_ws yo cc nL ro) (dC, dI) vwCl [(cI, .int)] cF A) (hP : va_P (dC, dI) vwCl (cW ad cI s0) H) (hD : va_D A (cW ad cI s0)) (hS : va_S A s.heap H locs) (hlk : Cond.fieldLink own index "SpectrumBoard$Ports" "border" "I" ∈ sw_tb) (hdg : decode cc pc = .ok (.putfield index, 3)) (kk : ∀ (H1 : Heap) (locs1 : List Loc), va_P (dC, dI) vwCl (cW ad cI (st1 s0 1 v)) H1 → va_D A (cW ad cI (st1 s0 1 v)) → va_S A s.heap H1 locs1 → W p l e R s m args below meth c H1 locs1 cells slots Q (F0 m (pc + 3) ls rest)) : W p l e R s m args below meth c H locs cells slots Q (F0 m pc ls (.int v :: .ref (ad 3) :: rest)) := sw_put X hP hD hS 3 rfl rfl tbX4 tyX4 tyX4_ok nmX4 3 (by decide) hlk rfl rfl rfl (by simp) rfl hdg kk
theorem cg_3_4 (X : sw_X p s m args meth c cc nL own ret (sw_ws yo cc nL ro) (dC, dI) vwCl [(cI, .int)] cF A) (hP : va_P (dC, dI) vwCl (cW ad cI s0) H) (hlk : Cond.fieldLink own index "SpectrumBoard$Ports" "speaker" "I" ∈ sw_tb) (hdg : decode cc pc = .ok (.getfield index, 3)) (kk : W p l e R s m args below meth c H locs cells slots Q (F0 m (pc + 3) ls (.int (s0.1 2) :: rest))) : W p l e R s m args below meth c H locs cells slots Q (F0 m pc ls (.ref (ad 3) :: rest)) := sw_get X hP 3 rfl rfl tbX4 4 (by decide) hlk rfl hdg kk
theorem cp_3_4 {v : Int32} (X : sw_X p s m args meth c cc nL own ret (sw_ws yo cc nL ro) (dC, dI) vwCl [(cI, .int)] cF A) (hP : va_P (dC, dI) vwCl (cW ad cI s0) H) (hD : va_D A (cW ad cI s0)) (hS : va_S A s.heap H locs) (hlk : Cond.fieldLink own index "SpectrumBoard$Ports" "speaker" "I" ∈ sw_tb) (hdg : decode cc pc = .ok (.putfield index, 3)) (kk : ∀ (H1 : Heap) (locs1 : List Loc), va_P (dC, dI) vwCl (cW ad cI (st1 s0 2 v)) H1 → va_D A (cW ad cI (st1 s0 2 v)) → va_S A s.heap H1 locs1 → W p l e R s m args below meth c H1 locs1 cells slots Q (F0 m (pc + 3) ls rest)) : W p l e R s m args below meth c H locs cells slots Q (F0 m pc ls (.int v :: .ref (ad 3) :: rest)) := sw_put X hP hD hS 3 rfl rfl tbX4 tyX4 tyX4_ok nmX4 4 (by decide) hlk rfl rfl rfl (by simp) rfl hdg kk
theorem cg_3_5 (X : sw_X p s m args meth c cc nL own ret (sw_ws yo cc nL ro) (dC, dI) vwCl [(cI, .int)] cF A) (hP : va_P (dC, dI) vwCl (cW ad cI s0) H) (hlk : Cond.fieldLink own index "SpectrumBoard$Ports" "speakerChanges" "I" ∈ sw_tb) (hdg : decode cc pc = .ok (.getfield index, 3)) (kk : W p l e R s m args below meth c H locs cells slots Q (F0 m (pc + 3) ls (.int (s0.1 3) :: rest))) : W p l e R s m args below meth c H locs cells slots Q (F0 m pc ls (.ref (ad 3) :: rest)) := sw_get X hP 3 rfl rfl tbX4 5 (by decide) hlk rfl hdg kk
theorem cp_3_5 {v : Int32} (X : sw_X p s m args meth c cc nL own ret (sw_ws yo cc nL ro) (dC, dI) vwCl [(cI, .int)] cF A) (hP : va_P (dC, dI) vwCl (cW ad cI s0) H) (hD : va_D A (cW ad cI s0)) (hS : va_S A s.heap H locs) (hlk : Cond.fieldLink own index "SpectrumBoard$Ports" "speakerChanges" "I" ∈ sw_tb) (hdg : decode cc pc = .ok (.putfield index, 3)) (kk : ∀ (H1 : Heap) (locs1 : List Loc), va_P (dC, dI) vwCl (cW ad cI (st1 s0 3 v)) H1 → va_D A (cW ad cI (st1 s0 3 v)) → va_S A s.heap H1 locs1 → W p l e R s m args below meth c H1 locs1 cells slots Q (F0 m (pc + 3) ls rest)) : W p l e R s m args below meth c H locs cells slots Q (F0 m pc ls (.int v :: .ref (ad 3) :: rest)) := sw_put X hP hD hS 3 rfl rfl tbX4 tyX4 tyX4_ok nmX4 5 (by decide) hlk rfl rfl rfl (by simp) rfl hdg kk
theorem cg_3_6 (X : sw_X p s m args meth c cc nL own ret (sw_ws yo cc nL ro) (dC, dI) vwCl [(cI, .int)] cF A) (hP : va_P (dC, dI) vwCl (cW ad cI s0) H) (hlk : Cond.fieldLink own index "SpectrumBoard$Ports" "changeTimes" "[I" ∈ sw_tb) (hdg : decode cc pc = .ok (.getfield index, 3)) (kk : W p l e R s m args below meth c H locs cells slots Q (F0 m (pc + 3) ls (.ref (ad 11) :: rest))) : W p l e R s m args below meth c H locs cells slots Q (F0 m pc ls (.ref (ad 3) :: rest)) := sw_get X hP 3 rfl rfl tbX4 6 (by decide) hlk rfl hdg kk
theorem cg_4_0 (X : sw_X p s m args meth c cc nL own ret (sw_ws yo cc nL ro) (dC, dI) vwCl [(cI, .int)] cF A) (hP : va_P (dC, dI) vwCl (cW ad cI s0) H) (hlk : Cond.fieldLink own index "SpectrumBoard$Registers" "pairs" "[I" ∈ sw_tb) (hdg : decode cc pc = .ok (.getfield index, 3)) (kk : W p l e R s m args below meth c H locs cells slots Q (F0 m (pc + 3) ls (.ref (ad 13) :: rest))) : W p l e R s m args below meth c H locs cells slots Q (F0 m pc ls (.ref (ad 4) :: rest)) := sw_get X hP 4 rfl rfl tbX6 0 (by decide) hlk rfl hdg kk
theorem cg_5_0 (X : sw_X p s m args meth c cc nL own ret (sw_ws yo cc nL ro) (dC, dI) vwCl [(cI, .int)] cF A) (hP : va_P (dC, dI) vwCl (cW ad cI s0) H) (hlk : Cond.fieldLink own index "SpectrumBoard$Processor" "clock" "LSpectrumBoard$Clock;" ∈ sw_tb) (hdg : decode cc pc = .ok (.getfield index, 3)) (kk : W p l e R s m args below meth c H locs cells slots Q (F0 m (pc + 3) ls (.ref (ad 1) :: rest))) : W p l e R s m args below meth c H locs cells slots Q (F0 m pc ls (.ref (ad 5) :: rest)) := sw_get X hP 5 rfl rfl tbX5 0 (by decide) hlk rfl hdg kk
theorem cg_5_1 (X : sw_X p s m args meth c cc nL own ret (sw_ws yo cc nL ro) (dC, dI) vwCl [(cI, .int)] cF A) (hP : va_P (dC, dI) vwCl (cW ad cI s0) H) (hlk : Cond.fieldLink own index "SpectrumBoard$Processor" "memory" "LSpectrumBoard$Memory;" ∈ sw_tb) (hdg : decode cc pc = .ok (.getfield index, 3)) (kk : W p l e R s m args below meth c H locs cells slots Q (F0 m (pc + 3) ls (.ref (ad 2) :: rest))) : W p l e R s m args below meth c H locs cells slots Q (F0 m pc ls (.ref (ad 5) :: rest)) := sw_get X hP 5 rfl rfl tbX5 1 (by decide) hlk rfl hdg kk
theorem cg_5_2 (X : sw_X p s m args meth c cc nL own ret (sw_ws yo cc nL ro) (dC, dI) vwCl [(cI, .int)] cF A) (hP : va_P (dC, dI) vwCl (cW ad cI s0) H) (hlk : Cond.fieldLink own index "SpectrumBoard$Processor" "ports" "LSpectrumBoard$Ports;" ∈ sw_tb) (hdg : decode cc pc = .ok (.getfield index, 3)) (kk : W p l e R s m args below meth c H locs cells slots Q (F0 m (pc + 3) ls (.ref (ad 3) :: rest))) : W p l e R s m args below meth c H locs cells slots Q (F0 m pc ls (.ref (ad 5) :: rest)) := sw_get X hP 5 rfl rfl tbX5 2 (by decide) hlk rfl hdg kk
theorem cg_5_3 (X : sw_X p s m args meth c cc nL own ret (sw_ws yo cc nL ro) (dC, dI) vwCl [(cI, .int)] cF A) (hP : va_P (dC, dI) vwCl (cW ad cI s0) H) (hlk : Cond.fieldLink own index "SpectrumBoard$Processor" "registers" "LSpectrumBoard$Registers;" ∈ sw_tb) (hdg : decode cc pc = .ok (.getfield index, 3)) (kk : W p l e R s m args below meth c H locs cells slots Q (F0 m (pc + 3) ls (.ref (ad 4) :: rest))) : W p l e R s m args below meth c H locs cells slots Q (F0 m pc ls (.ref (ad 5) :: rest)) := sw_get X hP 5 rfl rfl tbX5 3 (by decide) hlk rfl hdg kk
theorem cg_5_4 (X : sw_X p s m args meth c cc nL own ret (sw_ws yo cc nL ro) (dC, dI) vwCl [(cI, .int)] cF A) (hP : va_P (dC, dI) vwCl (cW ad cI s0) H) (hlk : Cond.fieldLink own index "SpectrumBoard$Processor" "arithmetic" "LSpectrumBoard$Arithmetic;" ∈ sw_tb) (hdg : decode cc pc = .ok (.getfield index, 3)) (kk : W p l e R s m args below meth c H locs cells slots Q (F0 m (pc + 3) ls (.ref (ad 6) :: rest))) : W p l e R s m args below meth c H locs cells slots Q (F0 m pc ls (.ref (ad 5) :: rest)) := sw_get X hP 5 rfl rfl tbX5 4 (by decide) hlk rfl hdg kk
theorem cg_5_5 (X : sw_X p s m args meth c cc nL own ret (sw_ws yo cc nL ro) (dC, dI) vwCl [(cI, .int)] cF A) (hP : va_P (dC, dI) vwCl (cW ad cI s0) H) (hlk : Cond.fieldLink own index "SpectrumBoard$Processor" "operands" "LSpectrumBoard$Operands;" ∈ sw_tb) (hdg : decode cc pc = .ok (.getfield index, 3)) (kk : W p l e R s m args below meth c H locs cells slots Q (F0 m (pc + 3) ls (.ref (ad 7) :: rest))) : W p l e R s m args below meth c H locs cells slots Q (F0 m pc ls (.ref (ad 5) :: rest)) := sw_get X hP 5 rfl rfl tbX5 5 (by decide) hlk rfl hdg kk
theorem cg_5_6 (X : sw_X p s m args meth c cc nL own ret (sw_ws yo cc nL ro) (dC, dI) vwCl [(cI, .int)] cF A) (hP : va_P (dC, dI) vwCl (cW ad cI s0) H) (hlk : Cond.fieldLink own index "SpectrumBoard$Processor" "halted" "Z" ∈ sw_tb) (hdg : decode cc pc = .ok (.getfield index, 3)) (kk : W p l e R s m args below meth c H locs cells slots Q (F0 m (pc + 3) ls (.int (s0.1 4) :: rest))) : W p l e R s m args below meth c H locs cells slots Q (F0 m pc ls (.ref (ad 5) :: rest)) := sw_get X hP 5 rfl rfl tbX5 6 (by decide) hlk rfl hdg kk
theorem cp_5_6 {v : Int32} (X : sw_X p s m args meth c cc nL own ret (sw_ws yo cc nL ro) (dC, dI) vwCl [(cI, .int)] cF A) (hP : va_P (dC, dI) vwCl (cW ad cI s0) H) (hD : va_D A (cW ad cI s0)) (hS : va_S A s.heap H locs) (hlk : Cond.fieldLink own index "SpectrumBoard$Processor" "halted" "Z" ∈ sw_tb) (hz : v = 0 ∨ v = 1) (hdg : decode cc pc = .ok (.putfield index, 3)) (kk : ∀ (H1 : Heap) (locs1 : List Loc), va_P (dC, dI) vwCl (cW ad cI (st1 s0 4 v)) H1 → va_D A (cW ad cI (st1 s0 4 v)) → va_S A s.heap H1 locs1 → W p l e R s m args below meth c H1 locs1 cells slots Q (F0 m (pc + 3) ls rest)) : W p l e R s m args below meth c H locs cells slots Q (F0 m pc ls (.int v :: .ref (ad 5) :: rest)) := sw_put X hP hD hS 5 rfl rfl tbX5 tyX5 tyX5_ok nmX5 6 (by decide) hlk rfl (bz_n hz) (bz_f hz) (by simp) rfl hdg kk
theorem cg_5_7 (X : sw_X p s m args meth c cc nL own ret (sw_ws yo cc nL ro) (dC, dI) vwCl [(cI, .int)] cF A) (hP : va_P (dC, dI) vwCl (cW ad cI s0) H) (hlk : Cond.fieldLink own index "SpectrumBoard$Processor" "interruptsOn" "Z" ∈ sw_tb) (hdg : decode cc pc = .ok (.getfield index, 3)) (kk : W p l e R s m args below meth c H locs cells slots Q (F0 m (pc + 3) ls (.int (s0.1 5) :: rest))) : W p l e R s m args below meth c H locs cells slots Q (F0 m pc ls (.ref (ad 5) :: rest)) := sw_get X hP 5 rfl rfl tbX5 7 (by decide) hlk rfl hdg kk
theorem cp_5_7 {v : Int32} (X : sw_X p s m args meth c cc nL own ret (sw_ws yo cc nL ro) (dC, dI) vwCl [(cI, .int)] cF A) (hP : va_P (dC, dI) vwCl (cW ad cI s0) H) (hD : va_D A (cW ad cI s0)) (hS : va_S A s.heap H locs) (hlk : Cond.fieldLink own index "SpectrumBoard$Processor" "interruptsOn" "Z" ∈ sw_tb) (hz : v = 0 ∨ v = 1) (hdg : decode cc pc = .ok (.putfield index, 3)) (kk : ∀ (H1 : Heap) (locs1 : List Loc), va_P (dC, dI) vwCl (cW ad cI (st1 s0 5 v)) H1 → va_D A (cW ad cI (st1 s0 5 v)) → va_S A s.heap H1 locs1 → W p l e R s m args below meth c H1 locs1 cells slots Q (F0 m (pc + 3) ls rest)) : W p l e R s m args below meth c H locs cells slots Q (F0 m pc ls (.int v :: .ref (ad 5) :: rest)) := sw_put X hP hD hS 5 rfl rfl tbX5 tyX5 tyX5_ok nmX5 7 (by decide) hlk rfl (bz_n hz) (bz_f hz) (by simp) rfl hdg kk
theorem cg_5_8 (X : sw_X p s m args meth c cc nL own ret (sw_ws yo cc nL ro) (dC, dI) vwCl [(cI, .int)] cF A) (hP : va_P (dC, dI) vwCl (cW ad cI s0) H) (hlk : Cond.fieldLink own index "SpectrumBoard$Processor" "justTurnedOn" "Z" ∈ sw_tb) (hdg : decode cc pc = .ok (.getfield index, 3)) (kk : W p l e R s m args below meth c H locs cells slots Q (F0 m (pc + 3) ls (.int (s0.1 6) :: rest))) : W p l e R s m args below meth c H locs cells slots Q (F0 m pc ls (.ref (ad 5) :: rest)) := sw_get X hP 5 rfl rfl tbX5 8 (by decide) hlk rfl hdg kk
theorem cp_5_8 {v : Int32} (X : sw_X p s m args meth c cc nL own ret (sw_ws yo cc nL ro) (dC, dI) vwCl [(cI, .int)] cF A) (hP : va_P (dC, dI) vwCl (cW ad cI s0) H) (hD : va_D A (cW ad cI s0)) (hS : va_S A s.heap H locs) (hlk : Cond.fieldLink own index "SpectrumBoard$Processor" "justTurnedOn" "Z" ∈ sw_tb) (hz : v = 0 ∨ v = 1) (hdg : decode cc pc = .ok (.putfield index, 3)) (kk : ∀ (H1 : Heap) (locs1 : List Loc), va_P (dC, dI) vwCl (cW ad cI (st1 s0 6 v)) H1 → va_D A (cW ad cI (st1 s0 6 v)) → va_S A s.heap H1 locs1 → W p l e R s m args below meth c H1 locs1 cells slots Q (F0 m (pc + 3) ls rest)) : W p l e R s m args below meth c H locs cells slots Q (F0 m pc ls (.int v :: .ref (ad 5) :: rest)) := sw_put X hP hD hS 5 rfl rfl tbX5 tyX5 tyX5_ok nmX5 8 (by decide) hlk rfl (bz_n hz) (bz_f hz) (by simp) rfl hdg kk
theorem cg_5_9 (X : sw_X p s m args meth c cc nL own ret (sw_ws yo cc nL ro) (dC, dI) vwCl [(cI, .int)] cF A) (hP : va_P (dC, dI) vwCl (cW ad cI s0) H) (hlk : Cond.fieldLink own index "SpectrumBoard$Processor" "interrupts" "I" ∈ sw_tb) (hdg : decode cc pc = .ok (.getfield index, 3)) (kk : W p l e R s m args below meth c H locs cells slots Q (F0 m (pc + 3) ls (.int (s0.1 7) :: rest))) : W p l e R s m args below meth c H locs cells slots Q (F0 m pc ls (.ref (ad 5) :: rest)) := sw_get X hP 5 rfl rfl tbX5 9 (by decide) hlk rfl hdg kk
theorem cp_5_9 {v : Int32} (X : sw_X p s m args meth c cc nL own ret (sw_ws yo cc nL ro) (dC, dI) vwCl [(cI, .int)] cF A) (hP : va_P (dC, dI) vwCl (cW ad cI s0) H) (hD : va_D A (cW ad cI s0)) (hS : va_S A s.heap H locs) (hlk : Cond.fieldLink own index "SpectrumBoard$Processor" "interrupts" "I" ∈ sw_tb) (hdg : decode cc pc = .ok (.putfield index, 3)) (kk : ∀ (H1 : Heap) (locs1 : List Loc), va_P (dC, dI) vwCl (cW ad cI (st1 s0 7 v)) H1 → va_D A (cW ad cI (st1 s0 7 v)) → va_S A s.heap H1 locs1 → W p l e R s m args below meth c H1 locs1 cells slots Q (F0 m (pc + 3) ls rest)) : W p l e R s m args below meth c H locs cells slots Q (F0 m pc ls (.int v :: .ref (ad 5) :: rest)) := sw_put X hP hD hS 5 rfl rfl tbX5 tyX5 tyX5_ok nmX5 9 (by decide) hlk rfl rfl rfl (by simp) rfl hdg kk
theorem cg_5_10 (X : sw_X p s m args meth c cc nL own ret (sw_ws yo cc nL ro) (dC, dI) vwCl [(cI, .int)] cF A) (hP : va_P (dC, dI) vwCl (cW ad cI s0) H) (hlk : Cond.fieldLink own index "SpectrumBoard$Processor" "instructions" "I" ∈ sw_tb) (hdg : decode cc pc = .ok (.getfield index, 3)) (kk : W p l e R s m args below meth c H locs cells slots Q (F0 m (pc + 3) ls (.int (s0.1 8) :: rest))) : W p l e R s m args below meth c H locs cells slots Q (F0 m pc ls (.ref (ad 5) :: rest)) := sw_get X hP 5 rfl rfl tbX5 10 (by decide) hlk rfl hdg kk
theorem cp_5_10 {v : Int32} (X : sw_X p s m args meth c cc nL own ret (sw_ws yo cc nL ro) (dC, dI) vwCl [(cI, .int)] cF A) (hP : va_P (dC, dI) vwCl (cW ad cI s0) H) (hD : va_D A (cW ad cI s0)) (hS : va_S A s.heap H locs) (hlk : Cond.fieldLink own index "SpectrumBoard$Processor" "instructions" "I" ∈ sw_tb) (hdg : decode cc pc = .ok (.putfield index, 3)) (kk : ∀ (H1 : Heap) (locs1 : List Loc), va_P (dC, dI) vwCl (cW ad cI (st1 s0 8 v)) H1 → va_D A (cW ad cI (st1 s0 8 v)) → va_S A s.heap H1 locs1 → W p l e R s m args below meth c H1 locs1 cells slots Q (F0 m (pc + 3) ls rest)) : W p l e R s m args below meth c H locs cells slots Q (F0 m pc ls (.int v :: .ref (ad 5) :: rest)) := sw_put X hP hD hS 5 rfl rfl tbX5 tyX5 tyX5_ok nmX5 10 (by decide) hlk rfl rfl rfl (by simp) rfl hdg kk
theorem cg_6_0 (X : sw_X p s m args meth c cc nL own ret (sw_ws yo cc nL ro) (dC, dI) vwCl [(cI, .int)] cF A) (hP : va_P (dC, dI) vwCl (cW ad cI s0) H) (hlk : Cond.fieldLink own index "SpectrumBoard$Arithmetic" "registers" "LSpectrumBoard$Registers;" ∈ sw_tb) (hdg : decode cc pc = .ok (.getfield index, 3)) (kk : W p l e R s m args below meth c H locs cells slots Q (F0 m (pc + 3) ls (.ref (ad 4) :: rest))) : W p l e R s m args below meth c H locs cells slots Q (F0 m pc ls (.ref (ad 6) :: rest)) := sw_get X hP 6 rfl rfl tbX0 0 (by decide) hlk rfl hdg kk
theorem cg_7_0 (X : sw_X p s m args meth c cc nL own ret (sw_ws yo cc nL ro) (dC, dI) vwCl [(cI, .int)] cF A) (hP : va_P (dC, dI) vwCl (cW ad cI s0) H) (hlk : Cond.fieldLink own index "SpectrumBoard$Operands" "memory" "LSpectrumBoard$Memory;" ∈ sw_tb) (hdg : decode cc pc = .ok (.getfield index, 3)) (kk : W p l e R s m args below meth c H locs cells slots Q (F0 m (pc + 3) ls (.ref (ad 2) :: rest))) : W p l e R s m args below meth c H locs cells slots Q (F0 m pc ls (.ref (ad 7) :: rest)) := sw_get X hP 7 rfl rfl tbX3 0 (by decide) hlk rfl hdg kk
theorem cg_7_1 (X : sw_X p s m args meth c cc nL own ret (sw_ws yo cc nL ro) (dC, dI) vwCl [(cI, .int)] cF A) (hP : va_P (dC, dI) vwCl (cW ad cI s0) H) (hlk : Cond.fieldLink own index "SpectrumBoard$Operands" "registers" "LSpectrumBoard$Registers;" ∈ sw_tb) (hdg : decode cc pc = .ok (.getfield index, 3)) (kk : W p l e R s m args below meth c H locs cells slots Q (F0 m (pc + 3) ls (.ref (ad 4) :: rest))) : W p l e R s m args below meth c H locs cells slots Q (F0 m pc ls (.ref (ad 7) :: rest)) := sw_get X hP 7 rfl rfl tbX3 1 (by decide) hlk rfl hdg kk
theorem cg_8_0 (X : sw_X p s m args meth c cc nL own ret (sw_ws yo cc nL ro) (dC, dI) vwCl [(cI, .int)] cF A) (hP : va_P (dC, dI) vwCl (cW ad cI s0) H) (hlk : Cond.fieldLink own index "SpectrumBoard$Tape" "times" "[I" ∈ sw_tb) (hdg : decode cc pc = .ok (.getfield index, 3)) (kk : W p l e R s m args below meth c H locs cells slots Q (F0 m (pc + 3) ls (.ref (ad 12) :: rest))) : W p l e R s m args below meth c H locs cells slots Q (F0 m pc ls (.ref (ad 8) :: rest)) := sw_get X hP 8 rfl rfl tbX7 0 (by decide) hlk rfl hdg kk
theorem cg_8_1 (X : sw_X p s m args meth c cc nL own ret (sw_ws yo cc nL ro) (dC, dI) vwCl [(cI, .int)] cF A) (hP : va_P (dC, dI) vwCl (cW ad cI s0) H) (hlk : Cond.fieldLink own index "SpectrumBoard$Tape" "edges" "I" ∈ sw_tb) (hdg : decode cc pc = .ok (.getfield index, 3)) (kk : W p l e R s m args below meth c H locs cells slots Q (F0 m (pc + 3) ls (.int (s0.1 9) :: rest))) : W p l e R s m args below meth c H locs cells slots Q (F0 m pc ls (.ref (ad 8) :: rest)) := sw_get X hP 8 rfl rfl tbX7 1 (by decide) hlk rfl hdg kk
theorem cp_8_1 {v : Int32} (X : sw_X p s m args meth c cc nL own ret (sw_ws yo cc nL ro) (dC, dI) vwCl [(cI, .int)] cF A) (hP : va_P (dC, dI) vwCl (cW ad cI s0) H) (hD : va_D A (cW ad cI s0)) (hS : va_S A s.heap H locs) (hlk : Cond.fieldLink own index "SpectrumBoard$Tape" "edges" "I" ∈ sw_tb) (hdg : decode cc pc = .ok (.putfield index, 3)) (kk : ∀ (H1 : Heap) (locs1 : List Loc), va_P (dC, dI) vwCl (cW ad cI (st1 s0 9 v)) H1 → va_D A (cW ad cI (st1 s0 9 v)) → va_S A s.heap H1 locs1 → W p l e R s m args below meth c H1 locs1 cells slots Q (F0 m (pc + 3) ls rest)) : W p l e R s m args below meth c H locs cells slots Q (F0 m pc ls (.int v :: .ref (ad 8) :: rest)) := sw_put X hP hD hS 8 rfl rfl tbX7 tyX7 tyX7_ok nmX7 1 (by decide) hlk rfl rfl rfl (by simp) rfl hdg kk
theorem cg_8_2 (X : sw_X p s m args meth c cc nL own ret (sw_ws yo cc nL ro) (dC, dI) vwCl [(cI, .int)] cF A) (hP : va_P (dC, dI) vwCl (cW ad cI s0) H) (hlk : Cond.fieldLink own index "SpectrumBoard$Tape" "lastTime" "I" ∈ sw_tb) (hdg : decode cc pc = .ok (.getfield index, 3)) (kk : W p l e R s m args below meth c H locs cells slots Q (F0 m (pc + 3) ls (.int (s0.1 10) :: rest))) : W p l e R s m args below meth c H locs cells slots Q (F0 m pc ls (.ref (ad 8) :: rest)) := sw_get X hP 8 rfl rfl tbX7 2 (by decide) hlk rfl hdg kk
theorem cp_8_2 {v : Int32} (X : sw_X p s m args meth c cc nL own ret (sw_ws yo cc nL ro) (dC, dI) vwCl [(cI, .int)] cF A) (hP : va_P (dC, dI) vwCl (cW ad cI s0) H) (hD : va_D A (cW ad cI s0)) (hS : va_S A s.heap H locs) (hlk : Cond.fieldLink own index "SpectrumBoard$Tape" "lastTime" "I" ∈ sw_tb) (hdg : decode cc pc = .ok (.putfield index, 3)) (kk : ∀ (H1 : Heap) (locs1 : List Loc), va_P (dC, dI) vwCl (cW ad cI (st1 s0 10 v)) H1 → va_D A (cW ad cI (st1 s0 10 v)) → va_S A s.heap H1 locs1 → W p l e R s m args below meth c H1 locs1 cells slots Q (F0 m (pc + 3) ls rest)) : W p l e R s m args below meth c H locs cells slots Q (F0 m pc ls (.int v :: .ref (ad 8) :: rest)) := sw_put X hP hD hS 8 rfl rfl tbX7 tyX7 tyX7_ok nmX7 2 (by decide) hlk rfl rfl rfl (by simp) rfl hdg kk
theorem cl_0 {i : Int32} (X : sw_X p s m args meth c cc nL own ret (sw_ws yo cc nL ro) (dC, dI) vwCl [(cI, .int)] cF A) (hP : va_P (dC, dI) vwCl (cW ad cI s0) H) (hin : vp_in i 4096) (hdg : decode cc pc = .ok (.iaload, 1)) (kk : W p l e R s m args below meth c H locs cells slots Q (F0 m (pc + 1) ls (.int (s0.2 0 i.toNatClampNeg) :: rest))) : W p l e R s m args below meth c H locs cells slots Q (F0 m pc ls (.int i :: .ref (ad 9) :: rest)) := sw_iald X hP 9 rfl rfl hin hdg kk
theorem cb_0 {i v : Int32} (X : sw_X p s m args meth c cc nL own ret (sw_ws yo cc nL ro) (dC, dI) vwCl [(cI, .int)] cF A) (hP : va_P (dC, dI) vwCl (cW ad cI s0) H) (hD : va_D A (cW ad cI s0)) (hS : va_S A s.heap H locs) (hin : vp_in i 4096) (hdg : decode cc pc = .ok (.iastore, 1)) (kk : ∀ (H1 : Heap) (locs1 : List Loc), va_P (dC, dI) vwCl (cW ad cI (st2 s0 0 i.toNatClampNeg v)) H1 → va_D A (cW ad cI (st2 s0 0 i.toNatClampNeg v)) → va_S A s.heap H1 locs1 → W p l e R s m args below meth c H1 locs1 cells slots Q (F0 m (pc + 1) ls rest)) : W p l e R s m args below meth c H locs cells slots Q (F0 m pc ls (.int v :: .int i :: .ref (ad 9) :: rest)) := sw_iast X hP hD hS 9 rfl rfl hin rfl hdg kk
theorem cl_1 {i : Int32} (X : sw_X p s m args meth c cc nL own ret (sw_ws yo cc nL ro) (dC, dI) vwCl [(cI, .int)] cF A) (hP : va_P (dC, dI) vwCl (cW ad cI s0) H) (hin : vp_in i 8) (hdg : decode cc pc = .ok (.iaload, 1)) (kk : W p l e R s m args below meth c H locs cells slots Q (F0 m (pc + 1) ls (.int (s0.2 1 i.toNatClampNeg) :: rest))) : W p l e R s m args below meth c H locs cells slots Q (F0 m pc ls (.int i :: .ref (ad 10) :: rest)) := sw_iald X hP 10 rfl rfl hin hdg kk
theorem cb_1 {i v : Int32} (X : sw_X p s m args meth c cc nL own ret (sw_ws yo cc nL ro) (dC, dI) vwCl [(cI, .int)] cF A) (hP : va_P (dC, dI) vwCl (cW ad cI s0) H) (hD : va_D A (cW ad cI s0)) (hS : va_S A s.heap H locs) (hin : vp_in i 8) (hdg : decode cc pc = .ok (.iastore, 1)) (kk : ∀ (H1 : Heap) (locs1 : List Loc), va_P (dC, dI) vwCl (cW ad cI (st2 s0 1 i.toNatClampNeg v)) H1 → va_D A (cW ad cI (st2 s0 1 i.toNatClampNeg v)) → va_S A s.heap H1 locs1 → W p l e R s m args below meth c H1 locs1 cells slots Q (F0 m (pc + 1) ls rest)) : W p l e R s m args below meth c H locs cells slots Q (F0 m pc ls (.int v :: .int i :: .ref (ad 10) :: rest)) := sw_iast X hP hD hS 10 rfl rfl hin rfl hdg kk
theorem cl_2 {i : Int32} (X : sw_X p s m args meth c cc nL own ret (sw_ws yo cc nL ro) (dC, dI) vwCl [(cI, .int)] cF A) (hP : va_P (dC, dI) vwCl (cW ad cI s0) H) (hin : vp_in i 100) (hdg : decode cc pc = .ok (.iaload, 1)) (kk : W p l e R s m args below meth c H locs cells slots Q (F0 m (pc + 1) ls (.int (s0.2 2 i.toNatClampNeg) :: rest))) : W p l e R s m args below meth c H locs cells slots Q (F0 m pc ls (.int i :: .ref (ad 11) :: rest)) := sw_iald X hP 11 rfl rfl hin hdg kk
theorem cb_2 {i v : Int32} (X : sw_X p s m args meth c cc nL own ret (sw_ws yo cc nL ro) (dC, dI) vwCl [(cI, .int)] cF A) (hP : va_P (dC, dI) vwCl (cW ad cI s0) H) (hD : va_D A (cW ad cI s0)) (hS : va_S A s.heap H locs) (hin : vp_in i 100) (hdg : decode cc pc = .ok (.iastore, 1)) (kk : ∀ (H1 : Heap) (locs1 : List Loc), va_P (dC, dI) vwCl (cW ad cI (st2 s0 2 i.toNatClampNeg v)) H1 → va_D A (cW ad cI (st2 s0 2 i.toNatClampNeg v)) → va_S A s.heap H1 locs1 → W p l e R s m args below meth c H1 locs1 cells slots Q (F0 m (pc + 1) ls rest)) : W p l e R s m args below meth c H locs cells slots Q (F0 m pc ls (.int v :: .int i :: .ref (ad 11) :: rest)) := sw_iast X hP hD hS 11 rfl rfl hin rfl hdg kk
theorem cl_3 {i : Int32} (X : sw_X p s m args meth c cc nL own ret (sw_ws yo cc nL ro) (dC, dI) vwCl [(cI, .int)] cF A) (hP : va_P (dC, dI) vwCl (cW ad cI s0) H) (hin : vp_in i 64) (hdg : decode cc pc = .ok (.iaload, 1)) (kk : W p l e R s m args below meth c H locs cells slots Q (F0 m (pc + 1) ls (.int (s0.2 3 i.toNatClampNeg) :: rest))) : W p l e R s m args below meth c H locs cells slots Q (F0 m pc ls (.int i :: .ref (ad 12) :: rest)) := sw_iald X hP 12 rfl rfl hin hdg kk
theorem cb_3 {i v : Int32} (X : sw_X p s m args meth c cc nL own ret (sw_ws yo cc nL ro) (dC, dI) vwCl [(cI, .int)] cF A) (hP : va_P (dC, dI) vwCl (cW ad cI s0) H) (hD : va_D A (cW ad cI s0)) (hS : va_S A s.heap H locs) (hin : vp_in i 64) (hdg : decode cc pc = .ok (.iastore, 1)) (kk : ∀ (H1 : Heap) (locs1 : List Loc), va_P (dC, dI) vwCl (cW ad cI (st2 s0 3 i.toNatClampNeg v)) H1 → va_D A (cW ad cI (st2 s0 3 i.toNatClampNeg v)) → va_S A s.heap H1 locs1 → W p l e R s m args below meth c H1 locs1 cells slots Q (F0 m (pc + 1) ls rest)) : W p l e R s m args below meth c H locs cells slots Q (F0 m pc ls (.int v :: .int i :: .ref (ad 12) :: rest)) := sw_iast X hP hD hS 12 rfl rfl hin rfl hdg kk
theorem cl_4 {i : Int32} (X : sw_X p s m args meth c cc nL own ret (sw_ws yo cc nL ro) (dC, dI) vwCl [(cI, .int)] cF A) (hP : va_P (dC, dI) vwCl (cW ad cI s0) H) (hin : vp_in i 10) (hdg : decode cc pc = .ok (.iaload, 1)) (kk : W p l e R s m args below meth c H locs cells slots Q (F0 m (pc + 1) ls (.int (s0.2 4 i.toNatClampNeg) :: rest))) : W p l e R s m args below meth c H locs cells slots Q (F0 m pc ls (.int i :: .ref (ad 13) :: rest)) := sw_iald X hP 13 rfl rfl hin hdg kk
theorem cb_4 {i v : Int32} (X : sw_X p s m args meth c cc nL own ret (sw_ws yo cc nL ro) (dC, dI) vwCl [(cI, .int)] cF A) (hP : va_P (dC, dI) vwCl (cW ad cI s0) H) (hD : va_D A (cW ad cI s0)) (hS : va_S A s.heap H locs) (hin : vp_in i 10) (hdg : decode cc pc = .ok (.iastore, 1)) (kk : ∀ (H1 : Heap) (locs1 : List Loc), va_P (dC, dI) vwCl (cW ad cI (st2 s0 4 i.toNatClampNeg v)) H1 → va_D A (cW ad cI (st2 s0 4 i.toNatClampNeg v)) → va_S A s.heap H1 locs1 → W p l e R s m args below meth c H1 locs1 cells slots Q (F0 m (pc + 1) ls rest)) : W p l e R s m args below meth c H locs cells slots Q (F0 m pc ls (.int v :: .int i :: .ref (ad 13) :: rest)) := sw_iast X hP hD hS 13 rfl rfl hin rfl hdg kk
theorem mg_0_0 (X : sw_X p s m args meth c cc nL own ret (sw_ws yo cc nL ro) (dC, dI) vwCl [(cI, .int)] mF A) (hP : va_P (dC, dI) vwCl (mW ad cI s0) H) (hlk : Cond.fieldLink own index "SpectrumBoardModel" "refusal" "I" ∈ sw_tb) (hdg : decode cc pc = .ok (.getfield index, 3)) (kk : W p l e R s m args below meth c H locs cells slots Q (F0 m (pc + 3) ls (.int (s0.1 0) :: rest))) : W p l e R s m args below meth c H locs cells slots Q (F0 m pc ls (.ref (ad 0) :: rest)) := sw_get X hP 0 rfl rfl tbX9 0 (by decide) hlk rfl hdg kk
theorem mp_0_0 {v : Int32} (X : sw_X p s m args meth c cc nL own ret (sw_ws yo cc nL ro) (dC, dI) vwCl [(cI, .int)] mF A) (hP : va_P (dC, dI) vwCl (mW ad cI s0) H) (hD : va_D A (mW ad cI s0)) (hS : va_S A s.heap H locs) (hlk : Cond.fieldLink own index "SpectrumBoardModel" "refusal" "I" ∈ sw_tb) (hdg : decode cc pc = .ok (.putfield index, 3)) (kk : ∀ (H1 : Heap) (locs1 : List Loc), va_P (dC, dI) vwCl (mW ad cI (st1 s0 0 v)) H1 → va_D A (mW ad cI (st1 s0 0 v)) → va_S A s.heap H1 locs1 → W p l e R s m args below meth c H1 locs1 cells slots Q (F0 m (pc + 3) ls rest)) : W p l e R s m args below meth c H locs cells slots Q (F0 m pc ls (.int v :: .ref (ad 0) :: rest)) := sw_put X hP hD hS 0 rfl rfl tbX9 tyX9 tyX9_ok nmX9 0 (by decide) hlk rfl rfl rfl (by simp) rfl hdg kk
theorem mg_0_1 (X : sw_X p s m args meth c cc nL own ret (sw_ws yo cc nL ro) (dC, dI) vwCl [(cI, .int)] mF A) (hP : va_P (dC, dI) vwCl (mW ad cI s0) H) (hlk : Cond.fieldLink own index "SpectrumBoardModel" "memory" "[I" ∈ sw_tb) (hdg : decode cc pc = .ok (.getfield index, 3)) (kk : W p l e R s m args below meth c H locs cells slots Q (F0 m (pc + 3) ls (.ref (ad 1) :: rest))) : W p l e R s m args below meth c H locs cells slots Q (F0 m pc ls (.ref (ad 0) :: rest)) := sw_get X hP 0 rfl rfl tbX9 1 (by decide) hlk rfl hdg kk
theorem mg_0_2 (X : sw_X p s m args meth c cc nL own ret (sw_ws yo cc nL ro) (dC, dI) vwCl [(cI, .int)] mF A) (hP : va_P (dC, dI) vwCl (mW ad cI s0) H) (hlk : Cond.fieldLink own index "SpectrumBoardModel" "reg" "[I" ∈ sw_tb) (hdg : decode cc pc = .ok (.getfield index, 3)) (kk : W p l e R s m args below meth c H locs cells slots Q (F0 m (pc + 3) ls (.ref (ad 2) :: rest))) : W p l e R s m args below meth c H locs cells slots Q (F0 m pc ls (.ref (ad 0) :: rest)) := sw_get X hP 0 rfl rfl tbX9 2 (by decide) hlk rfl hdg kk
theorem mg_0_3 (X : sw_X p s m args meth c cc nL own ret (sw_ws yo cc nL ro) (dC, dI) vwCl [(cI, .int)] mF A) (hP : va_P (dC, dI) vwCl (mW ad cI s0) H) (hlk : Cond.fieldLink own index "SpectrumBoardModel" "other" "[I" ∈ sw_tb) (hdg : decode cc pc = .ok (.getfield index, 3)) (kk : W p l e R s m args below meth c H locs cells slots Q (F0 m (pc + 3) ls (.ref (ad 3) :: rest))) : W p l e R s m args below meth c H locs cells slots Q (F0 m pc ls (.ref (ad 0) :: rest)) := sw_get X hP 0 rfl rfl tbX9 3 (by decide) hlk rfl hdg kk
theorem mg_0_4 (X : sw_X p s m args meth c cc nL own ret (sw_ws yo cc nL ro) (dC, dI) vwCl [(cI, .int)] mF A) (hP : va_P (dC, dI) vwCl (mW ad cI s0) H) (hlk : Cond.fieldLink own index "SpectrumBoardModel" "sp" "I" ∈ sw_tb) (hdg : decode cc pc = .ok (.getfield index, 3)) (kk : W p l e R s m args below meth c H locs cells slots Q (F0 m (pc + 3) ls (.int (s0.1 1) :: rest))) : W p l e R s m args below meth c H locs cells slots Q (F0 m pc ls (.ref (ad 0) :: rest)) := sw_get X hP 0 rfl rfl tbX9 4 (by decide) hlk rfl hdg kk
theorem mp_0_4 {v : Int32} (X : sw_X p s m args meth c cc nL own ret (sw_ws yo cc nL ro) (dC, dI) vwCl [(cI, .int)] mF A) (hP : va_P (dC, dI) vwCl (mW ad cI s0) H) (hD : va_D A (mW ad cI s0)) (hS : va_S A s.heap H locs) (hlk : Cond.fieldLink own index "SpectrumBoardModel" "sp" "I" ∈ sw_tb) (hdg : decode cc pc = .ok (.putfield index, 3)) (kk : ∀ (H1 : Heap) (locs1 : List Loc), va_P (dC, dI) vwCl (mW ad cI (st1 s0 1 v)) H1 → va_D A (mW ad cI (st1 s0 1 v)) → va_S A s.heap H1 locs1 → W p l e R s m args below meth c H1 locs1 cells slots Q (F0 m (pc + 3) ls rest)) : W p l e R s m args below meth c H locs cells slots Q (F0 m pc ls (.int v :: .ref (ad 0) :: rest)) := sw_put X hP hD hS 0 rfl rfl tbX9 tyX9 tyX9_ok nmX9 4 (by decide) hlk rfl rfl rfl (by simp) rfl hdg kk
theorem mg_0_5 (X : sw_X p s m args meth c cc nL own ret (sw_ws yo cc nL ro) (dC, dI) vwCl [(cI, .int)] mF A) (hP : va_P (dC, dI) vwCl (mW ad cI s0) H) (hlk : Cond.fieldLink own index "SpectrumBoardModel" "pc" "I" ∈ sw_tb) (hdg : decode cc pc = .ok (.getfield index, 3)) (kk : W p l e R s m args below meth c H locs cells slots Q (F0 m (pc + 3) ls (.int (s0.1 2) :: rest))) : W p l e R s m args below meth c H locs cells slots Q (F0 m pc ls (.ref (ad 0) :: rest)) := sw_get X hP 0 rfl rfl tbX9 5 (by decide) hlk rfl hdg kk
theorem mp_0_5 {v : Int32} (X : sw_X p s m args meth c cc nL own ret (sw_ws yo cc nL ro) (dC, dI) vwCl [(cI, .int)] mF A) (hP : va_P (dC, dI) vwCl (mW ad cI s0) H) (hD : va_D A (mW ad cI s0)) (hS : va_S A s.heap H locs) (hlk : Cond.fieldLink own index "SpectrumBoardModel" "pc" "I" ∈ sw_tb) (hdg : decode cc pc = .ok (.putfield index, 3)) (kk : ∀ (H1 : Heap) (locs1 : List Loc), va_P (dC, dI) vwCl (mW ad cI (st1 s0 2 v)) H1 → va_D A (mW ad cI (st1 s0 2 v)) → va_S A s.heap H1 locs1 → W p l e R s m args below meth c H1 locs1 cells slots Q (F0 m (pc + 3) ls rest)) : W p l e R s m args below meth c H locs cells slots Q (F0 m pc ls (.int v :: .ref (ad 0) :: rest)) := sw_put X hP hD hS 0 rfl rfl tbX9 tyX9 tyX9_ok nmX9 5 (by decide) hlk rfl rfl rfl (by simp) rfl hdg kk
theorem mg_0_6 (X : sw_X p s m args meth c cc nL own ret (sw_ws yo cc nL ro) (dC, dI) vwCl [(cI, .int)] mF A) (hP : va_P (dC, dI) vwCl (mW ad cI s0) H) (hlk : Cond.fieldLink own index "SpectrumBoardModel" "time" "I" ∈ sw_tb) (hdg : decode cc pc = .ok (.getfield index, 3)) (kk : W p l e R s m args below meth c H locs cells slots Q (F0 m (pc + 3) ls (.int (s0.1 3) :: rest))) : W p l e R s m args below meth c H locs cells slots Q (F0 m pc ls (.ref (ad 0) :: rest)) := sw_get X hP 0 rfl rfl tbX9 6 (by decide) hlk rfl hdg kk
theorem mp_0_6 {v : Int32} (X : sw_X p s m args meth c cc nL own ret (sw_ws yo cc nL ro) (dC, dI) vwCl [(cI, .int)] mF A) (hP : va_P (dC, dI) vwCl (mW ad cI s0) H) (hD : va_D A (mW ad cI s0)) (hS : va_S A s.heap H locs) (hlk : Cond.fieldLink own index "SpectrumBoardModel" "time" "I" ∈ sw_tb) (hdg : decode cc pc = .ok (.putfield index, 3)) (kk : ∀ (H1 : Heap) (locs1 : List Loc), va_P (dC, dI) vwCl (mW ad cI (st1 s0 3 v)) H1 → va_D A (mW ad cI (st1 s0 3 v)) → va_S A s.heap H1 locs1 → W p l e R s m args below meth c H1 locs1 cells slots Q (F0 m (pc + 3) ls rest)) : W p l e R s m args below meth c H locs cells slots Q (F0 m pc ls (.int v :: .ref (ad 0) :: rest)) := sw_put X hP hD hS 0 rfl rfl tbX9 tyX9 tyX9_ok nmX9 6 (by decide) hlk rfl rfl rfl (by simp) rfl hdg kk
theorem mg_0_7 (X : sw_X p s m args meth c cc nL own ret (sw_ws yo cc nL ro) (dC, dI) vwCl [(cI, .int)] mF A) (hP : va_P (dC, dI) vwCl (mW ad cI s0) H) (hlk : Cond.fieldLink own index "SpectrumBoardModel" "isHalted" "Z" ∈ sw_tb) (hdg : decode cc pc = .ok (.getfield index, 3)) (kk : W p l e R s m args below meth c H locs cells slots Q (F0 m (pc + 3) ls (.int (s0.1 4) :: rest))) : W p l e R s m args below meth c H locs cells slots Q (F0 m pc ls (.ref (ad 0) :: rest)) := sw_get X hP 0 rfl rfl tbX9 7 (by decide) hlk rfl hdg kk
theorem mp_0_7 {v : Int32} (X : sw_X p s m args meth c cc nL own ret (sw_ws yo cc nL ro) (dC, dI) vwCl [(cI, .int)] mF A) (hP : va_P (dC, dI) vwCl (mW ad cI s0) H) (hD : va_D A (mW ad cI s0)) (hS : va_S A s.heap H locs) (hlk : Cond.fieldLink own index "SpectrumBoardModel" "isHalted" "Z" ∈ sw_tb) (hz : v = 0 ∨ v = 1) (hdg : decode cc pc = .ok (.putfield index, 3)) (kk : ∀ (H1 : Heap) (locs1 : List Loc), va_P (dC, dI) vwCl (mW ad cI (st1 s0 4 v)) H1 → va_D A (mW ad cI (st1 s0 4 v)) → va_S A s.heap H1 locs1 → W p l e R s m args below meth c H1 locs1 cells slots Q (F0 m (pc + 3) ls rest)) : W p l e R s m args below meth c H locs cells slots Q (F0 m pc ls (.int v :: .ref (ad 0) :: rest)) := sw_put X hP hD hS 0 rfl rfl tbX9 tyX9 tyX9_ok nmX9 7 (by decide) hlk rfl (bz_n hz) (bz_f hz) (by simp) rfl hdg kk
theorem mg_0_8 (X : sw_X p s m args meth c cc nL own ret (sw_ws yo cc nL ro) (dC, dI) vwCl [(cI, .int)] mF A) (hP : va_P (dC, dI) vwCl (mW ad cI s0) H) (hlk : Cond.fieldLink own index "SpectrumBoardModel" "isOn" "Z" ∈ sw_tb) (hdg : decode cc pc = .ok (.getfield index, 3)) (kk : W p l e R s m args below meth c H locs cells slots Q (F0 m (pc + 3) ls (.int (s0.1 5) :: rest))) : W p l e R s m args below meth c H locs cells slots Q (F0 m pc ls (.ref (ad 0) :: rest)) := sw_get X hP 0 rfl rfl tbX9 8 (by decide) hlk rfl hdg kk
theorem mp_0_8 {v : Int32} (X : sw_X p s m args meth c cc nL own ret (sw_ws yo cc nL ro) (dC, dI) vwCl [(cI, .int)] mF A) (hP : va_P (dC, dI) vwCl (mW ad cI s0) H) (hD : va_D A (mW ad cI s0)) (hS : va_S A s.heap H locs) (hlk : Cond.fieldLink own index "SpectrumBoardModel" "isOn" "Z" ∈ sw_tb) (hz : v = 0 ∨ v = 1) (hdg : decode cc pc = .ok (.putfield index, 3)) (kk : ∀ (H1 : Heap) (locs1 : List Loc), va_P (dC, dI) vwCl (mW ad cI (st1 s0 5 v)) H1 → va_D A (mW ad cI (st1 s0 5 v)) → va_S A s.heap H1 locs1 → W p l e R s m args below meth c H1 locs1 cells slots Q (F0 m (pc + 3) ls rest)) : W p l e R s m args below meth c H locs cells slots Q (F0 m pc ls (.int v :: .ref (ad 0) :: rest)) := sw_put X hP hD hS 0 rfl rfl tbX9 tyX9 tyX9_ok nmX9 8 (by decide) hlk rfl (bz_n hz) (bz_f hz) (by simp) rfl hdg kk
theorem mg_0_9 (X : sw_X p s m args meth c cc nL own ret (sw_ws yo cc nL ro) (dC, dI) vwCl [(cI, .int)] mF A) (hP : va_P (dC, dI) vwCl (mW ad cI s0) H) (hlk : Cond.fieldLink own index "SpectrumBoardModel" "isBehindEi" "Z" ∈ sw_tb) (hdg : decode cc pc = .ok (.getfield index, 3)) (kk : W p l e R s m args below meth c H locs cells slots Q (F0 m (pc + 3) ls (.int (s0.1 6) :: rest))) : W p l e R s m args below meth c H locs cells slots Q (F0 m pc ls (.ref (ad 0) :: rest)) := sw_get X hP 0 rfl rfl tbX9 9 (by decide) hlk rfl hdg kk
theorem mp_0_9 {v : Int32} (X : sw_X p s m args meth c cc nL own ret (sw_ws yo cc nL ro) (dC, dI) vwCl [(cI, .int)] mF A) (hP : va_P (dC, dI) vwCl (mW ad cI s0) H) (hD : va_D A (mW ad cI s0)) (hS : va_S A s.heap H locs) (hlk : Cond.fieldLink own index "SpectrumBoardModel" "isBehindEi" "Z" ∈ sw_tb) (hz : v = 0 ∨ v = 1) (hdg : decode cc pc = .ok (.putfield index, 3)) (kk : ∀ (H1 : Heap) (locs1 : List Loc), va_P (dC, dI) vwCl (mW ad cI (st1 s0 6 v)) H1 → va_D A (mW ad cI (st1 s0 6 v)) → va_S A s.heap H1 locs1 → W p l e R s m args below meth c H1 locs1 cells slots Q (F0 m (pc + 3) ls rest)) : W p l e R s m args below meth c H locs cells slots Q (F0 m pc ls (.int v :: .ref (ad 0) :: rest)) := sw_put X hP hD hS 0 rfl rfl tbX9 tyX9 tyX9_ok nmX9 9 (by decide) hlk rfl (bz_n hz) (bz_f hz) (by simp) rfl hdg kk
theorem mg_0_10 (X : sw_X p s m args meth c cc nL own ret (sw_ws yo cc nL ro) (dC, dI) vwCl [(cI, .int)] mF A) (hP : va_P (dC, dI) vwCl (mW ad cI s0) H) (hlk : Cond.fieldLink own index "SpectrumBoardModel" "isTrapped" "Z" ∈ sw_tb) (hdg : decode cc pc = .ok (.getfield index, 3)) (kk : W p l e R s m args below meth c H locs cells slots Q (F0 m (pc + 3) ls (.int (s0.1 7) :: rest))) : W p l e R s m args below meth c H locs cells slots Q (F0 m pc ls (.ref (ad 0) :: rest)) := sw_get X hP 0 rfl rfl tbX9 10 (by decide) hlk rfl hdg kk
theorem mp_0_10 {v : Int32} (X : sw_X p s m args meth c cc nL own ret (sw_ws yo cc nL ro) (dC, dI) vwCl [(cI, .int)] mF A) (hP : va_P (dC, dI) vwCl (mW ad cI s0) H) (hD : va_D A (mW ad cI s0)) (hS : va_S A s.heap H locs) (hlk : Cond.fieldLink own index "SpectrumBoardModel" "isTrapped" "Z" ∈ sw_tb) (hz : v = 0 ∨ v = 1) (hdg : decode cc pc = .ok (.putfield index, 3)) (kk : ∀ (H1 : Heap) (locs1 : List Loc), va_P (dC, dI) vwCl (mW ad cI (st1 s0 7 v)) H1 → va_D A (mW ad cI (st1 s0 7 v)) → va_S A s.heap H1 locs1 → W p l e R s m args below meth c H1 locs1 cells slots Q (F0 m (pc + 3) ls rest)) : W p l e R s m args below meth c H locs cells slots Q (F0 m pc ls (.int v :: .ref (ad 0) :: rest)) := sw_put X hP hD hS 0 rfl rfl tbX9 tyX9 tyX9_ok nmX9 10 (by decide) hlk rfl (bz_n hz) (bz_f hz) (by simp) rfl hdg kk
theorem mg_0_11 (X : sw_X p s m args meth c cc nL own ret (sw_ws yo cc nL ro) (dC, dI) vwCl [(cI, .int)] mF A) (hP : va_P (dC, dI) vwCl (mW ad cI s0) H) (hlk : Cond.fieldLink own index "SpectrumBoardModel" "interrupts" "I" ∈ sw_tb) (hdg : decode cc pc = .ok (.getfield index, 3)) (kk : W p l e R s m args below meth c H locs cells slots Q (F0 m (pc + 3) ls (.int (s0.1 8) :: rest))) : W p l e R s m args below meth c H locs cells slots Q (F0 m pc ls (.ref (ad 0) :: rest)) := sw_get X hP 0 rfl rfl tbX9 11 (by decide) hlk rfl hdg kk
theorem mp_0_11 {v : Int32} (X : sw_X p s m args meth c cc nL own ret (sw_ws yo cc nL ro) (dC, dI) vwCl [(cI, .int)] mF A) (hP : va_P (dC, dI) vwCl (mW ad cI s0) H) (hD : va_D A (mW ad cI s0)) (hS : va_S A s.heap H locs) (hlk : Cond.fieldLink own index "SpectrumBoardModel" "interrupts" "I" ∈ sw_tb) (hdg : decode cc pc = .ok (.putfield index, 3)) (kk : ∀ (H1 : Heap) (locs1 : List Loc), va_P (dC, dI) vwCl (mW ad cI (st1 s0 8 v)) H1 → va_D A (mW ad cI (st1 s0 8 v)) → va_S A s.heap H1 locs1 → W p l e R s m args below meth c H1 locs1 cells slots Q (F0 m (pc + 3) ls rest)) : W p l e R s m args below meth c H locs cells slots Q (F0 m pc ls (.int v :: .ref (ad 0) :: rest)) := sw_put X hP hD hS 0 rfl rfl tbX9 tyX9 tyX9_ok nmX9 11 (by decide) hlk rfl rfl rfl (by simp) rfl hdg kk
theorem mg_0_12 (X : sw_X p s m args meth c cc nL own ret (sw_ws yo cc nL ro) (dC, dI) vwCl [(cI, .int)] mF A) (hP : va_P (dC, dI) vwCl (mW ad cI s0) H) (hlk : Cond.fieldLink own index "SpectrumBoardModel" "instructions" "I" ∈ sw_tb) (hdg : decode cc pc = .ok (.getfield index, 3)) (kk : W p l e R s m args below meth c H locs cells slots Q (F0 m (pc + 3) ls (.int (s0.1 9) :: rest))) : W p l e R s m args below meth c H locs cells slots Q (F0 m pc ls (.ref (ad 0) :: rest)) := sw_get X hP 0 rfl rfl tbX9 12 (by decide) hlk rfl hdg kk
theorem mp_0_12 {v : Int32} (X : sw_X p s m args meth c cc nL own ret (sw_ws yo cc nL ro) (dC, dI) vwCl [(cI, .int)] mF A) (hP : va_P (dC, dI) vwCl (mW ad cI s0) H) (hD : va_D A (mW ad cI s0)) (hS : va_S A s.heap H locs) (hlk : Cond.fieldLink own index "SpectrumBoardModel" "instructions" "I" ∈ sw_tb) (hdg : decode cc pc = .ok (.putfield index, 3)) (kk : ∀ (H1 : Heap) (locs1 : List Loc), va_P (dC, dI) vwCl (mW ad cI (st1 s0 9 v)) H1 → va_D A (mW ad cI (st1 s0 9 v)) → va_S A s.heap H1 locs1 → W p l e R s m args below meth c H1 locs1 cells slots Q (F0 m (pc + 3) ls rest)) : W p l e R s m args below meth c H locs cells slots Q (F0 m pc ls (.int v :: .ref (ad 0) :: rest)) := sw_put X hP hD hS 0 rfl rfl tbX9 tyX9 tyX9_ok nmX9 12 (by decide) hlk rfl rfl rfl (by simp) rfl hdg kk
theorem mg_0_13 (X : sw_X p s m args meth c cc nL own ret (sw_ws yo cc nL ro) (dC, dI) vwCl [(cI, .int)] mF A) (hP : va_P (dC, dI) vwCl (mW ad cI s0) H) (hlk : Cond.fieldLink own index "SpectrumBoardModel" "rows" "[I" ∈ sw_tb) (hdg : decode cc pc = .ok (.getfield index, 3)) (kk : W p l e R s m args below meth c H locs cells slots Q (F0 m (pc + 3) ls (.ref (ad 4) :: rest))) : W p l e R s m args below meth c H locs cells slots Q (F0 m pc ls (.ref (ad 0) :: rest)) := sw_get X hP 0 rfl rfl tbX9 13 (by decide) hlk rfl hdg kk
theorem mg_0_14 (X : sw_X p s m args meth c cc nL own ret (sw_ws yo cc nL ro) (dC, dI) vwCl [(cI, .int)] mF A) (hP : va_P (dC, dI) vwCl (mW ad cI s0) H) (hlk : Cond.fieldLink own index "SpectrumBoardModel" "edges" "I" ∈ sw_tb) (hdg : decode cc pc = .ok (.getfield index, 3)) (kk : W p l e R s m args below meth c H locs cells slots Q (F0 m (pc + 3) ls (.int (s0.1 10) :: rest))) : W p l e R s m args below meth c H locs cells slots Q (F0 m pc ls (.ref (ad 0) :: rest)) := sw_get X hP 0 rfl rfl tbX9 14 (by decide) hlk rfl hdg kk
theorem mp_0_14 {v : Int32} (X : sw_X p s m args meth c cc nL own ret (sw_ws yo cc nL ro) (dC, dI) vwCl [(cI, .int)] mF A) (hP : va_P (dC, dI) vwCl (mW ad cI s0) H) (hD : va_D A (mW ad cI s0)) (hS : va_S A s.heap H locs) (hlk : Cond.fieldLink own index "SpectrumBoardModel" "edges" "I" ∈ sw_tb) (hdg : decode cc pc = .ok (.putfield index, 3)) (kk : ∀ (H1 : Heap) (locs1 : List Loc), va_P (dC, dI) vwCl (mW ad cI (st1 s0 10 v)) H1 → va_D A (mW ad cI (st1 s0 10 v)) → va_S A s.heap H1 locs1 → W p l e R s m args below meth c H1 locs1 cells slots Q (F0 m (pc + 3) ls rest)) : W p l e R s m args below meth c H locs cells slots Q (F0 m pc ls (.int v :: .ref (ad 0) :: rest)) := sw_put X hP hD hS 0 rfl rfl tbX9 tyX9 tyX9_ok nmX9 14 (by decide) hlk rfl rfl rfl (by simp) rfl hdg kk
theorem mg_0_15 (X : sw_X p s m args meth c cc nL own ret (sw_ws yo cc nL ro) (dC, dI) vwCl [(cI, .int)] mF A) (hP : va_P (dC, dI) vwCl (mW ad cI s0) H) (hlk : Cond.fieldLink own index "SpectrumBoardModel" "edgeAt" "[I" ∈ sw_tb) (hdg : decode cc pc = .ok (.getfield index, 3)) (kk : W p l e R s m args below meth c H locs cells slots Q (F0 m (pc + 3) ls (.ref (ad 5) :: rest))) : W p l e R s m args below meth c H locs cells slots Q (F0 m pc ls (.ref (ad 0) :: rest)) := sw_get X hP 0 rfl rfl tbX9 15 (by decide) hlk rfl hdg kk
theorem mg_0_16 (X : sw_X p s m args meth c cc nL own ret (sw_ws yo cc nL ro) (dC, dI) vwCl [(cI, .int)] mF A) (hP : va_P (dC, dI) vwCl (mW ad cI s0) H) (hlk : Cond.fieldLink own index "SpectrumBoardModel" "border" "I" ∈ sw_tb) (hdg : decode cc pc = .ok (.getfield index, 3)) (kk : W p l e R s m args below meth c H locs cells slots Q (F0 m (pc + 3) ls (.int (s0.1 11) :: rest))) : W p l e R s m args below meth c H locs cells slots Q (F0 m pc ls (.ref (ad 0) :: rest)) := sw_get X hP 0 rfl rfl tbX9 16 (by decide) hlk rfl hdg kk
theorem mp_0_16 {v : Int32} (X : sw_X p s m args meth c cc nL own ret (sw_ws yo cc nL ro) (dC, dI) vwCl [(cI, .int)] mF A) (hP : va_P (dC, dI) vwCl (mW ad cI s0) H) (hD : va_D A (mW ad cI s0)) (hS : va_S A s.heap H locs) (hlk : Cond.fieldLink own index "SpectrumBoardModel" "border" "I" ∈ sw_tb) (hdg : decode cc pc = .ok (.putfield index, 3)) (kk : ∀ (H1 : Heap) (locs1 : List Loc), va_P (dC, dI) vwCl (mW ad cI (st1 s0 11 v)) H1 → va_D A (mW ad cI (st1 s0 11 v)) → va_S A s.heap H1 locs1 → W p l e R s m args below meth c H1 locs1 cells slots Q (F0 m (pc + 3) ls rest)) : W p l e R s m args below meth c H locs cells slots Q (F0 m pc ls (.int v :: .ref (ad 0) :: rest)) := sw_put X hP hD hS 0 rfl rfl tbX9 tyX9 tyX9_ok nmX9 16 (by decide) hlk rfl rfl rfl (by simp) rfl hdg kk
theorem mg_0_17 (X : sw_X p s m args meth c cc nL own ret (sw_ws yo cc nL ro) (dC, dI) vwCl [(cI, .int)] mF A) (hP : va_P (dC, dI) vwCl (mW ad cI s0) H) (hlk : Cond.fieldLink own index "SpectrumBoardModel" "speaker" "I" ∈ sw_tb) (hdg : decode cc pc = .ok (.getfield index, 3)) (kk : W p l e R s m args below meth c H locs cells slots Q (F0 m (pc + 3) ls (.int (s0.1 12) :: rest))) : W p l e R s m args below meth c H locs cells slots Q (F0 m pc ls (.ref (ad 0) :: rest)) := sw_get X hP 0 rfl rfl tbX9 17 (by decide) hlk rfl hdg kk
theorem mp_0_17 {v : Int32} (X : sw_X p s m args meth c cc nL own ret (sw_ws yo cc nL ro) (dC, dI) vwCl [(cI, .int)] mF A) (hP : va_P (dC, dI) vwCl (mW ad cI s0) H) (hD : va_D A (mW ad cI s0)) (hS : va_S A s.heap H locs) (hlk : Cond.fieldLink own index "SpectrumBoardModel" "speaker" "I" ∈ sw_tb) (hdg : decode cc pc = .ok (.putfield index, 3)) (kk : ∀ (H1 : Heap) (locs1 : List Loc), va_P (dC, dI) vwCl (mW ad cI (st1 s0 12 v)) H1 → va_D A (mW ad cI (st1 s0 12 v)) → va_S A s.heap H1 locs1 → W p l e R s m args below meth c H1 locs1 cells slots Q (F0 m (pc + 3) ls rest)) : W p l e R s m args below meth c H locs cells slots Q (F0 m pc ls (.int v :: .ref (ad 0) :: rest)) := sw_put X hP hD hS 0 rfl rfl tbX9 tyX9 tyX9_ok nmX9 17 (by decide) hlk rfl rfl rfl (by simp) rfl hdg kk
theorem mg_0_18 (X : sw_X p s m args meth c cc nL own ret (sw_ws yo cc nL ro) (dC, dI) vwCl [(cI, .int)] mF A) (hP : va_P (dC, dI) vwCl (mW ad cI s0) H) (hlk : Cond.fieldLink own index "SpectrumBoardModel" "changes" "I" ∈ sw_tb) (hdg : decode cc pc = .ok (.getfield index, 3)) (kk : W p l e R s m args below meth c H locs cells slots Q (F0 m (pc + 3) ls (.int (s0.1 13) :: rest))) : W p l e R s m args below meth c H locs cells slots Q (F0 m pc ls (.ref (ad 0) :: rest)) := sw_get X hP 0 rfl rfl tbX9 18 (by decide) hlk rfl hdg kk
theorem mp_0_18 {v : Int32} (X : sw_X p s m args meth c cc nL own ret (sw_ws yo cc nL ro) (dC, dI) vwCl [(cI, .int)] mF A) (hP : va_P (dC, dI) vwCl (mW ad cI s0) H) (hD : va_D A (mW ad cI s0)) (hS : va_S A s.heap H locs) (hlk : Cond.fieldLink own index "SpectrumBoardModel" "changes" "I" ∈ sw_tb) (hdg : decode cc pc = .ok (.putfield index, 3)) (kk : ∀ (H1 : Heap) (locs1 : List Loc), va_P (dC, dI) vwCl (mW ad cI (st1 s0 13 v)) H1 → va_D A (mW ad cI (st1 s0 13 v)) → va_S A s.heap H1 locs1 → W p l e R s m args below meth c H1 locs1 cells slots Q (F0 m (pc + 3) ls rest)) : W p l e R s m args below meth c H locs cells slots Q (F0 m pc ls (.int v :: .ref (ad 0) :: rest)) := sw_put X hP hD hS 0 rfl rfl tbX9 tyX9 tyX9_ok nmX9 18 (by decide) hlk rfl rfl rfl (by simp) rfl hdg kk
theorem mg_0_19 (X : sw_X p s m args meth c cc nL own ret (sw_ws yo cc nL ro) (dC, dI) vwCl [(cI, .int)] mF A) (hP : va_P (dC, dI) vwCl (mW ad cI s0) H) (hlk : Cond.fieldLink own index "SpectrumBoardModel" "changeAt" "[I" ∈ sw_tb) (hdg : decode cc pc = .ok (.getfield index, 3)) (kk : W p l e R s m args below meth c H locs cells slots Q (F0 m (pc + 3) ls (.ref (ad 6) :: rest))) : W p l e R s m args below meth c H locs cells slots Q (F0 m pc ls (.ref (ad 0) :: rest)) := sw_get X hP 0 rfl rfl tbX9 19 (by decide) hlk rfl hdg kk
theorem ml_0 {i : Int32} (X : sw_X p s m args meth c cc nL own ret (sw_ws yo cc nL ro) (dC, dI) vwCl [(cI, .int)] mF A) (hP : va_P (dC, dI) vwCl (mW ad cI s0) H) (hin : vp_in i 4096) (hdg : decode cc pc = .ok (.iaload, 1)) (kk : W p l e R s m args below meth c H locs cells slots Q (F0 m (pc + 1) ls (.int (s0.2 0 i.toNatClampNeg) :: rest))) : W p l e R s m args below meth c H locs cells slots Q (F0 m pc ls (.int i :: .ref (ad 1) :: rest)) := sw_iald X hP 1 rfl rfl hin hdg kk
theorem mb_0 {i v : Int32} (X : sw_X p s m args meth c cc nL own ret (sw_ws yo cc nL ro) (dC, dI) vwCl [(cI, .int)] mF A) (hP : va_P (dC, dI) vwCl (mW ad cI s0) H) (hD : va_D A (mW ad cI s0)) (hS : va_S A s.heap H locs) (hin : vp_in i 4096) (hdg : decode cc pc = .ok (.iastore, 1)) (kk : ∀ (H1 : Heap) (locs1 : List Loc), va_P (dC, dI) vwCl (mW ad cI (st2 s0 0 i.toNatClampNeg v)) H1 → va_D A (mW ad cI (st2 s0 0 i.toNatClampNeg v)) → va_S A s.heap H1 locs1 → W p l e R s m args below meth c H1 locs1 cells slots Q (F0 m (pc + 1) ls rest)) : W p l e R s m args below meth c H locs cells slots Q (F0 m pc ls (.int v :: .int i :: .ref (ad 1) :: rest)) := sw_iast X hP hD hS 1 rfl rfl hin rfl hdg kk
theorem ml_1 {i : Int32} (X : sw_X p s m args meth c cc nL own ret (sw_ws yo cc nL ro) (dC, dI) vwCl [(cI, .int)] mF A) (hP : va_P (dC, dI) vwCl (mW ad cI s0) H) (hin : vp_in i 8) (hdg : decode cc pc = .ok (.iaload, 1)) (kk : W p l e R s m args below meth c H locs cells slots Q (F0 m (pc + 1) ls (.int (s0.2 1 i.toNatClampNeg) :: rest))) : W p l e R s m args below meth c H locs cells slots Q (F0 m pc ls (.int i :: .ref (ad 2) :: rest)) := sw_iald X hP 2 rfl rfl hin hdg kk
theorem mb_1 {i v : Int32} (X : sw_X p s m args meth c cc nL own ret (sw_ws yo cc nL ro) (dC, dI) vwCl [(cI, .int)] mF A) (hP : va_P (dC, dI) vwCl (mW ad cI s0) H) (hD : va_D A (mW ad cI s0)) (hS : va_S A s.heap H locs) (hin : vp_in i 8) (hdg : decode cc pc = .ok (.iastore, 1)) (kk : ∀ (H1 : Heap) (locs1 : List Loc), va_P (dC, dI) vwCl (mW ad cI (st2 s0 1 i.toNatClampNeg v)) H1 → va_D A (mW ad cI (st2 s0 1 i.toNatClampNeg v)) → va_S A s.heap H1 locs1 → W p l e R s m args below meth c H1 locs1 cells slots Q (F0 m (pc + 1) ls rest)) : W p l e R s m args below meth c H locs cells slots Q (F0 m pc ls (.int v :: .int i :: .ref (ad 2) :: rest)) := sw_iast X hP hD hS 2 rfl rfl hin rfl hdg kk
theorem ml_2 {i : Int32} (X : sw_X p s m args meth c cc nL own ret (sw_ws yo cc nL ro) (dC, dI) vwCl [(cI, .int)] mF A) (hP : va_P (dC, dI) vwCl (mW ad cI s0) H) (hin : vp_in i 8) (hdg : decode cc pc = .ok (.iaload, 1)) (kk : W p l e R s m args below meth c H locs cells slots Q (F0 m (pc + 1) ls (.int (s0.2 2 i.toNatClampNeg) :: rest))) : W p l e R s m args below meth c H locs cells slots Q (F0 m pc ls (.int i :: .ref (ad 3) :: rest)) := sw_iald X hP 3 rfl rfl hin hdg kk
theorem mb_2 {i v : Int32} (X : sw_X p s m args meth c cc nL own ret (sw_ws yo cc nL ro) (dC, dI) vwCl [(cI, .int)] mF A) (hP : va_P (dC, dI) vwCl (mW ad cI s0) H) (hD : va_D A (mW ad cI s0)) (hS : va_S A s.heap H locs) (hin : vp_in i 8) (hdg : decode cc pc = .ok (.iastore, 1)) (kk : ∀ (H1 : Heap) (locs1 : List Loc), va_P (dC, dI) vwCl (mW ad cI (st2 s0 2 i.toNatClampNeg v)) H1 → va_D A (mW ad cI (st2 s0 2 i.toNatClampNeg v)) → va_S A s.heap H1 locs1 → W p l e R s m args below meth c H1 locs1 cells slots Q (F0 m (pc + 1) ls rest)) : W p l e R s m args below meth c H locs cells slots Q (F0 m pc ls (.int v :: .int i :: .ref (ad 3) :: rest)) := sw_iast X hP hD hS 3 rfl rfl hin rfl hdg kk
theorem ml_3 {i : Int32} (X : sw_X p s m args meth c cc nL own ret (sw_ws yo cc nL ro) (dC, dI) vwCl [(cI, .int)] mF A) (hP : va_P (dC, dI) vwCl (mW ad cI s0) H) (hin : vp_in i 8) (hdg : decode cc pc = .ok (.iaload, 1)) (kk : W p l e R s m args below meth c H locs cells slots Q (F0 m (pc + 1) ls (.int (s0.2 3 i.toNatClampNeg) :: rest))) : W p l e R s m args below meth c H locs cells slots Q (F0 m pc ls (.int i :: .ref (ad 4) :: rest)) := sw_iald X hP 4 rfl rfl hin hdg kk
theorem mb_3 {i v : Int32} (X : sw_X p s m args meth c cc nL own ret (sw_ws yo cc nL ro) (dC, dI) vwCl [(cI, .int)] mF A) (hP : va_P (dC, dI) vwCl (mW ad cI s0) H) (hD : va_D A (mW ad cI s0)) (hS : va_S A s.heap H locs) (hin : vp_in i 8) (hdg : decode cc pc = .ok (.iastore, 1)) (kk : ∀ (H1 : Heap) (locs1 : List Loc), va_P (dC, dI) vwCl (mW ad cI (st2 s0 3 i.toNatClampNeg v)) H1 → va_D A (mW ad cI (st2 s0 3 i.toNatClampNeg v)) → va_S A s.heap H1 locs1 → W p l e R s m args below meth c H1 locs1 cells slots Q (F0 m (pc + 1) ls rest)) : W p l e R s m args below meth c H locs cells slots Q (F0 m pc ls (.int v :: .int i :: .ref (ad 4) :: rest)) := sw_iast X hP hD hS 4 rfl rfl hin rfl hdg kk
theorem ml_4 {i : Int32} (X : sw_X p s m args meth c cc nL own ret (sw_ws yo cc nL ro) (dC, dI) vwCl [(cI, .int)] mF A) (hP : va_P (dC, dI) vwCl (mW ad cI s0) H) (hin : vp_in i 64) (hdg : decode cc pc = .ok (.iaload, 1)) (kk : W p l e R s m args below meth c H locs cells slots Q (F0 m (pc + 1) ls (.int (s0.2 4 i.toNatClampNeg) :: rest))) : W p l e R s m args below meth c H locs cells slots Q (F0 m pc ls (.int i :: .ref (ad 5) :: rest)) := sw_iald X hP 5 rfl rfl hin hdg kk
theorem mb_4 {i v : Int32} (X : sw_X p s m args meth c cc nL own ret (sw_ws yo cc nL ro) (dC, dI) vwCl [(cI, .int)] mF A) (hP : va_P (dC, dI) vwCl (mW ad cI s0) H) (hD : va_D A (mW ad cI s0)) (hS : va_S A s.heap H locs) (hin : vp_in i 64) (hdg : decode cc pc = .ok (.iastore, 1)) (kk : ∀ (H1 : Heap) (locs1 : List Loc), va_P (dC, dI) vwCl (mW ad cI (st2 s0 4 i.toNatClampNeg v)) H1 → va_D A (mW ad cI (st2 s0 4 i.toNatClampNeg v)) → va_S A s.heap H1 locs1 → W p l e R s m args below meth c H1 locs1 cells slots Q (F0 m (pc + 1) ls rest)) : W p l e R s m args below meth c H locs cells slots Q (F0 m pc ls (.int v :: .int i :: .ref (ad 5) :: rest)) := sw_iast X hP hD hS 5 rfl rfl hin rfl hdg kk
theorem ml_5 {i : Int32} (X : sw_X p s m args meth c cc nL own ret (sw_ws yo cc nL ro) (dC, dI) vwCl [(cI, .int)] mF A) (hP : va_P (dC, dI) vwCl (mW ad cI s0) H) (hin : vp_in i 100) (hdg : decode cc pc = .ok (.iaload, 1)) (kk : W p l e R s m args below meth c H locs cells slots Q (F0 m (pc + 1) ls (.int (s0.2 5 i.toNatClampNeg) :: rest))) : W p l e R s m args below meth c H locs cells slots Q (F0 m pc ls (.int i :: .ref (ad 6) :: rest)) := sw_iald X hP 6 rfl rfl hin hdg kk
theorem mb_5 {i v : Int32} (X : sw_X p s m args meth c cc nL own ret (sw_ws yo cc nL ro) (dC, dI) vwCl [(cI, .int)] mF A) (hP : va_P (dC, dI) vwCl (mW ad cI s0) H) (hD : va_D A (mW ad cI s0)) (hS : va_S A s.heap H locs) (hin : vp_in i 100) (hdg : decode cc pc = .ok (.iastore, 1)) (kk : ∀ (H1 : Heap) (locs1 : List Loc), va_P (dC, dI) vwCl (mW ad cI (st2 s0 5 i.toNatClampNeg v)) H1 → va_D A (mW ad cI (st2 s0 5 i.toNatClampNeg v)) → va_S A s.heap H1 locs1 → W p l e R s m args below meth c H1 locs1 cells slots Q (F0 m (pc + 1) ls rest)) : W p l e R s m args below meth c H locs cells slots Q (F0 m pc ls (.int v :: .int i :: .ref (ad 6) :: rest)) := sw_iast X hP hD hS 6 rfl rfl hin rfl hdg kk
end WR
end
section
theorem k_31 : (Cond.fieldLink "SpectrumBoard$Clock" (7 : Nat) "SpectrumBoard$Clock" "now" "I") ∈ sw_tb := sw_in 31 (by decide +kernel) rfl
theorem k_32 : (Cond.fieldLink "SpectrumBoard$Ports" (39 : Nat) "SpectrumBoard$Clock" "now" "I") ∈ sw_tb := sw_in 32 (by decide +kernel) rfl
theorem k_33 : (Cond.fieldLink "SpectrumBoard" (99 : Nat) "SpectrumBoard$Clock" "now" "I") ∈ sw_tb := sw_in 33 (by decide +kernel) rfl
theorem k_43 : (Cond.fieldLink "SpectrumBoard$Memory" (13 : Nat) "SpectrumBoard$Memory" "clock" "LSpectrumBoard$Clock;") ∈ sw_tb := sw_in 43 (by decide +kernel) rfl
theorem k_44 : (Cond.fieldLink "SpectrumBoard$Memory" (9 : Nat) "SpectrumBoard$Memory" "bytes" "[I") ∈ sw_tb := sw_in 44 (by decide +kernel) rfl
theorem k_63 : (Cond.fieldLink "SpectrumBoard$Tape" (9 : Nat) "SpectrumBoard$Tape" "times" "[I") ∈ sw_tb := sw_in 63 (by decide +kernel) rfl
theorem k_64 : (Cond.fieldLink "SpectrumBoard$Tape" (13 : Nat) "SpectrumBoard$Tape" "edges" "I") ∈ sw_tb := sw_in 64 (by decide +kernel) rfl
theorem k_65 : (Cond.fieldLink "SpectrumBoard$Tape" (17 : Nat) "SpectrumBoard$Tape" "lastTime" "I") ∈ sw_tb := sw_in 65 (by decide +kernel) rfl
theorem k_73 : (Cond.fieldLink "SpectrumBoard$Ports" (25 : Nat) "SpectrumBoard$Ports" "clock" "LSpectrumBoard$Clock;") ∈ sw_tb := sw_in 73 (by decide +kernel) rfl
theorem k_74 : (Cond.fieldLink "SpectrumBoard$Ports" (12 : Nat) "SpectrumBoard$Ports" "tape" "LSpectrumBoard$Tape;") ∈ sw_tb := sw_in 74 (by decide +kernel) rfl
theorem k_75 : (Cond.fieldLink "SpectrumBoard" (85 : Nat) "SpectrumBoard$Ports" "tape" "LSpectrumBoard$Tape;") ∈ sw_tb := sw_in 75 (by decide +kernel) rfl
theorem k_76 : (Cond.fieldLink "SpectrumBoard$Ports" (18 : Nat) "SpectrumBoard$Ports" "rows" "[I") ∈ sw_tb := sw_in 76 (by decide +kernel) rfl
theorem k_77 : (Cond.fieldLink "SpectrumBoard" (78 : Nat) "SpectrumBoard$Ports" "rows" "[I") ∈ sw_tb := sw_in 77 (by decide +kernel) rfl
theorem k_78 : (Cond.fieldLink "SpectrumBoard$Ports" (54 : Nat) "SpectrumBoard$Ports" "border" "I") ∈ sw_tb := sw_in 78 (by decide +kernel) rfl
theorem k_79 : (Cond.fieldLink "SpectrumBoard" (106 : Nat) "SpectrumBoard$Ports" "border" "I") ∈ sw_tb := sw_in 79 (by decide +kernel) rfl
theorem k_80 : (Cond.fieldLink "SpectrumBoard$Ports" (63 : Nat) "SpectrumBoard$Ports" "speaker" "I") ∈ sw_tb := sw_in 80 (by decide +kernel) rfl
theorem k_81 : (Cond.fieldLink "SpectrumBoard" (109 : Nat) "SpectrumBoard$Ports" "speaker" "I") ∈ sw_tb := sw_in 81 (by decide +kernel) rfl
theorem k_82 : (Cond.fieldLink "SpectrumBoard$Ports" (60 : Nat) "SpectrumBoard$Ports" "speakerChanges" "I") ∈ sw_tb := sw_in 82 (by decide +kernel) rfl
theorem k_83 : (Cond.fieldLink "SpectrumBoard" (112 : Nat) "SpectrumBoard$Ports" "speakerChanges" "I") ∈ sw_tb := sw_in 83 (by decide +kernel) rfl
theorem k_84 : (Cond.fieldLink "SpectrumBoard$Ports" (22 : Nat) "SpectrumBoard$Ports" "changeTimes" "[I") ∈ sw_tb := sw_in 84 (by decide +kernel) rfl
theorem k_106 : (Cond.fieldLink "SpectrumBoard$Registers" (9 : Nat) "SpectrumBoard$Registers" "pairs" "[I") ∈ sw_tb := sw_in 106 (by decide +kernel) rfl
theorem k_122 : (Cond.fieldLink "SpectrumBoard$Arithmetic" (7 : Nat) "SpectrumBoard$Arithmetic" "registers" "LSpectrumBoard$Registers;") ∈ sw_tb := sw_in 122 (by decide +kernel) rfl
theorem k_132 : (Cond.fieldLink "SpectrumBoard$Operands" (7 : Nat) "SpectrumBoard$Operands" "memory" "LSpectrumBoard$Memory;") ∈ sw_tb := sw_in 132 (by decide +kernel) rfl
theorem k_133 : (Cond.fieldLink "SpectrumBoard$Operands" (13 : Nat) "SpectrumBoard$Operands" "registers" "LSpectrumBoard$Registers;") ∈ sw_tb := sw_in 133 (by decide +kernel) rfl
theorem k_139 : (Cond.fieldLink "SpectrumBoard$Processor" (7 : Nat) "SpectrumBoard$Processor" "clock" "LSpectrumBoard$Clock;") ∈ sw_tb := sw_in 139 (by decide +kernel) rfl
theorem k_140 : (Cond.fieldLink "SpectrumBoard$Processor" (13 : Nat) "SpectrumBoard$Processor" "memory" "LSpectrumBoard$Memory;") ∈ sw_tb := sw_in 140 (by decide +kernel) rfl
theorem k_141 : (Cond.fieldLink "SpectrumBoard$Processor" (17 : Nat) "SpectrumBoard$Processor" "ports" "LSpectrumBoard$Ports;") ∈ sw_tb := sw_in 141 (by decide +kernel) rfl
theorem k_142 : (Cond.fieldLink "SpectrumBoard$Processor" (21 : Nat) "SpectrumBoard$Processor" "registers" "LSpectrumBoard$Registers;") ∈ sw_tb := sw_in 142 (by decide +kernel) rfl
theorem k_143 : (Cond.fieldLink "SpectrumBoard$Processor" (30 : Nat) "SpectrumBoard$Processor" "arithmetic" "LSpectrumBoard$Arithmetic;") ∈ sw_tb := sw_in 143 (by decide +kernel) rfl
theorem k_144 : (Cond.fieldLink "SpectrumBoard$Processor" (39 : Nat) "SpectrumBoard$Processor" "operands" "LSpectrumBoard$Operands;") ∈ sw_tb := sw_in 144 (by decide +kernel) rfl
theorem k_145 : (Cond.fieldLink "SpectrumBoard$Processor" (59 : Nat) "SpectrumBoard$Processor" "halted" "Z") ∈ sw_tb := sw_in 145 (by decide +kernel) rfl
theorem k_146 : (Cond.fieldLink "SpectrumBoard" (71 : Nat) "SpectrumBoard$Processor" "halted" "Z") ∈ sw_tb := sw_in 146 (by decide +kernel) rfl
theorem k_147 : (Cond.fieldLink "SpectrumBoard$Processor" (43 : Nat) "SpectrumBoard$Processor" "interruptsOn" "Z") ∈ sw_tb := sw_in 147 (by decide +kernel) rfl
theorem k_148 : (Cond.fieldLink "SpectrumBoard" (115 : Nat) "SpectrumBoard$Processor" "interruptsOn" "Z") ∈ sw_tb := sw_in 148 (by decide +kernel) rfl
theorem k_149 : (Cond.fieldLink "SpectrumBoard$Processor" (47 : Nat) "SpectrumBoard$Processor" "justTurnedOn" "Z") ∈ sw_tb := sw_in 149 (by decide +kernel) rfl
theorem k_150 : (Cond.fieldLink "SpectrumBoard$Processor" (101 : Nat) "SpectrumBoard$Processor" "interrupts" "I") ∈ sw_tb := sw_in 150 (by decide +kernel) rfl
theorem k_151 : (Cond.fieldLink "SpectrumBoard" (118 : Nat) "SpectrumBoard$Processor" "interrupts" "I") ∈ sw_tb := sw_in 151 (by decide +kernel) rfl
theorem k_152 : (Cond.fieldLink "SpectrumBoard$Processor" (65 : Nat) "SpectrumBoard$Processor" "instructions" "I") ∈ sw_tb := sw_in 152 (by decide +kernel) rfl
theorem k_153 : (Cond.fieldLink "SpectrumBoard" (121 : Nat) "SpectrumBoard$Processor" "instructions" "I") ∈ sw_tb := sw_in 153 (by decide +kernel) rfl
theorem k_177 : (Cond.fieldLink "SpectrumBoard" (10 : Nat) "SpectrumBoard" "clock" "LSpectrumBoard$Clock;") ∈ sw_tb := sw_in 177 (by decide +kernel) rfl
theorem k_178 : (Cond.fieldLink "SpectrumBoard" (21 : Nat) "SpectrumBoard" "memory" "LSpectrumBoard$Memory;") ∈ sw_tb := sw_in 178 (by decide +kernel) rfl
theorem k_179 : (Cond.fieldLink "SpectrumBoard" (28 : Nat) "SpectrumBoard" "ports" "LSpectrumBoard$Ports;") ∈ sw_tb := sw_in 179 (by decide +kernel) rfl
theorem k_180 : (Cond.fieldLink "SpectrumBoard" (35 : Nat) "SpectrumBoard" "registers" "LSpectrumBoard$Registers;") ∈ sw_tb := sw_in 180 (by decide +kernel) rfl
theorem k_181 : (Cond.fieldLink "SpectrumBoard" (44 : Nat) "SpectrumBoard" "processor" "LSpectrumBoard$Processor;") ∈ sw_tb := sw_in 181 (by decide +kernel) rfl
theorem k_197 : (Cond.methodLink "SpectrumBoard" (124 : Nat) ({ cls := "SpectrumBoard$Ports", name := "timeOfChange", desc := "(I)I" } : MethodName)) ∈ sw_tb := sw_in 197 (by decide +kernel) rfl
theorem k_209 : (Cond.methodLink "SpectrumBoard" (48 : Nat) ({ cls := "SpectrumBoard$Memory", name := "has", desc := "(I)Z" } : MethodName)) ∈ sw_tb := sw_in 209 (by decide +kernel) rfl
theorem k_274 : (Cond.methodLink "SpectrumBoard" (55 : Nat) ({ cls := "SpectrumBoard$Memory", name := "put", desc := "(II)V" } : MethodName)) ∈ sw_tb := sw_in 274 (by decide +kernel) rfl
theorem k_278 : (Cond.methodLink "SpectrumBoard" (59 : Nat) ({ cls := "SpectrumBoard$Memory", name := "within", desc := "(I)I" } : MethodName)) ∈ sw_tb := sw_in 278 (by decide +kernel) rfl
theorem k_288 : (Cond.methodLink "SpectrumBoard" (63 : Nat) ({ cls := "SpectrumBoard$Memory", name := "at", desc := "(I)I" } : MethodName)) ∈ sw_tb := sw_in 288 (by decide +kernel) rfl
theorem k_299 : (Cond.methodLink "SpectrumBoard" (66 : Nat) ({ cls := "SpectrumBoard$Registers", name := "has", desc := "(I)Z" } : MethodName)) ∈ sw_tb := sw_in 299 (by decide +kernel) rfl
theorem k_302 : (Cond.constant "SpectrumBoard" (67 : Nat) (65535 : Int32)) ∈ sw_tb := sw_in 302 (by decide +kernel) rfl
theorem k_303 : (Cond.methodLink "SpectrumBoard" (68 : Nat) ({ cls := "SpectrumBoard$Registers", name := "load", desc := "(II)V" } : MethodName)) ∈ sw_tb := sw_in 303 (by decide +kernel) rfl
theorem k_307 : (Cond.constant "SpectrumBoard$Registers" (13 : Nat) (65495 : Int32)) ∈ sw_tb := sw_in 307 (by decide +kernel) rfl
theorem k_308 : (Cond.constant "SpectrumBoard$Registers" (14 : Nat) (65535 : Int32)) ∈ sw_tb := sw_in 308 (by decide +kernel) rfl
theorem k_316 : (Cond.methodLink "SpectrumBoard" (75 : Nat) ({ cls := "SpectrumBoard$Registers", name := "pair", desc := "(I)I" } : MethodName)) ∈ sw_tb := sw_in 316 (by decide +kernel) rfl
theorem k_335 : (Cond.constant "SpectrumBoard" (84 : Nat) (100000 : Int32)) ∈ sw_tb := sw_in 335 (by decide +kernel) rfl
theorem k_336 : (Cond.methodLink "SpectrumBoard" (89 : Nat) ({ cls := "SpectrumBoard$Tape", name := "isFull", desc := "()Z" } : MethodName)) ∈ sw_tb := sw_in 336 (by decide +kernel) rfl
theorem k_355 : (Cond.methodLink "SpectrumBoard" (96 : Nat) ({ cls := "SpectrumBoard$Tape", name := "append", desc := "(I)I" } : MethodName)) ∈ sw_tb := sw_in 355 (by decide +kernel) rfl
theorem k_366 : (Cond.methodLink "SpectrumBoard" (103 : Nat) ({ cls := "SpectrumBoard$Processor", name := "step", desc := "()Z" } : MethodName)) ∈ sw_tb := sw_in 366 (by decide +kernel) rfl
theorem k_370 : (Cond.methodLink "SpectrumBoard$Processor" (50 : Nat) ({ cls := "SpectrumBoard$Clock", name := "asksForInterrupt", desc := "()Z" } : MethodName)) ∈ sw_tb := sw_in 370 (by decide +kernel) rfl
theorem k_374 : (Cond.methodLink "SpectrumBoard$Processor" (56 : Nat) ({ cls := "SpectrumBoard$Processor", name := "interrupt", desc := "()V" } : MethodName)) ∈ sw_tb := sw_in 374 (by decide +kernel) rfl
theorem k_378 : (Cond.methodLink "SpectrumBoard$Processor" (69 : Nat) ({ cls := "SpectrumBoard$Clock", name := "pass", desc := "(I)V" } : MethodName)) ∈ sw_tb := sw_in 378 (by decide +kernel) rfl
theorem k_382 : (Cond.methodLink "SpectrumBoard$Processor" (106 : Nat) ({ cls := "SpectrumBoard$Registers", name := "pair", desc := "(I)I" } : MethodName)) ∈ sw_tb := sw_in 382 (by decide +kernel) rfl
theorem k_383 : (Cond.methodLink "SpectrumBoard$Processor" (109 : Nat) ({ cls := "SpectrumBoard$Operands", name := "push", desc := "(I)V" } : MethodName)) ∈ sw_tb := sw_in 383 (by decide +kernel) rfl
theorem k_387 : (Cond.methodLink "SpectrumBoard$Operands" (27 : Nat) ({ cls := "SpectrumBoard$Registers", name := "pair", desc := "(I)I" } : MethodName)) ∈ sw_tb := sw_in 387 (by decide +kernel) rfl
theorem k_388 : (Cond.methodLink "SpectrumBoard$Operands" (50 : Nat) ({ cls := "SpectrumBoard$Memory", name := "write", desc := "(II)V" } : MethodName)) ∈ sw_tb := sw_in 388 (by decide +kernel) rfl
theorem k_392 : (Cond.methodLink "SpectrumBoard$Memory" (17 : Nat) ({ cls := "SpectrumBoard$Memory", name := "isWaitedFor", desc := "(I)Z" } : MethodName)) ∈ sw_tb := sw_in 392 (by decide +kernel) rfl
theorem k_395 : (Cond.methodLink "SpectrumBoard$Memory" (21 : Nat) ({ cls := "SpectrumBoard$Clock", name := "waitForPictureIf", desc := "(Z)V" } : MethodName)) ∈ sw_tb := sw_in 395 (by decide +kernel) rfl
theorem k_399 : (Cond.fieldLink "SpectrumBoard$Clock" (13 : Nat) "SpectrumBoard$Clock" "WAITS" "[I") ∈ sw_tb := sw_in 399 (by decide +kernel) rfl
theorem k_401 : (Cond.methodLink "SpectrumBoard$Memory" (27 : Nat) ({ cls := "SpectrumBoard$Clock", name := "pass", desc := "(I)V" } : MethodName)) ∈ sw_tb := sw_in 401 (by decide +kernel) rfl
theorem k_402 : (Cond.methodLink "SpectrumBoard$Memory" (35 : Nat) ({ cls := "SpectrumBoard$Memory", name := "within", desc := "(I)I" } : MethodName)) ∈ sw_tb := sw_in 402 (by decide +kernel) rfl
theorem k_403 : (Cond.methodLink "SpectrumBoard$Memory" (38 : Nat) ({ cls := "SpectrumBoard$Memory", name := "put", desc := "(II)V" } : MethodName)) ∈ sw_tb := sw_in 403 (by decide +kernel) rfl
theorem k_404 : (Cond.methodLink "SpectrumBoard$Operands" (36 : Nat) ({ cls := "SpectrumBoard$Registers", name := "move", desc := "(II)V" } : MethodName)) ∈ sw_tb := sw_in 404 (by decide +kernel) rfl
theorem k_408 : (Cond.methodLink "SpectrumBoard$Registers" (15 : Nat) ({ cls := "SpectrumBoard$Registers", name := "load", desc := "(II)V" } : MethodName)) ∈ sw_tb := sw_in 408 (by decide +kernel) rfl
theorem k_409 : (Cond.methodLink "SpectrumBoard$Processor" (112 : Nat) ({ cls := "SpectrumBoard$Registers", name := "load", desc := "(II)V" } : MethodName)) ∈ sw_tb := sw_in 409 (by decide +kernel) rfl
theorem k_410 : (Cond.methodLink "SpectrumBoard$Processor" (62 : Nat) ({ cls := "SpectrumBoard$Processor", name := "isTrapNext", desc := "()Z" } : MethodName)) ∈ sw_tb := sw_in 410 (by decide +kernel) rfl
theorem k_414 : (Cond.methodLink "SpectrumBoard$Processor" (115 : Nat) ({ cls := "SpectrumBoard$Memory", name := "at", desc := "(I)I" } : MethodName)) ∈ sw_tb := sw_in 414 (by decide +kernel) rfl
theorem k_415 : (Cond.methodLink "SpectrumBoard$Processor" (120 : Nat) ({ cls := "SpectrumBoard$Processor", name := "isOfMore", desc := "(I)Z" } : MethodName)) ∈ sw_tb := sw_in 415 (by decide +kernel) rfl
theorem k_418 : (Cond.methodLink "SpectrumBoard$Processor" (73 : Nat) ({ cls := "SpectrumBoard$Operands", name := "fetchNext", desc := "()I" } : MethodName)) ∈ sw_tb := sw_in 418 (by decide +kernel) rfl
theorem k_422 : (Cond.methodLink "SpectrumBoard$Operands" (31 : Nat) ({ cls := "SpectrumBoard$Memory", name := "fetch", desc := "(I)I" } : MethodName)) ∈ sw_tb := sw_in 422 (by decide +kernel) rfl
theorem k_426 : (Cond.methodLink "SpectrumBoard$Memory" (31 : Nat) ({ cls := "SpectrumBoard$Memory", name := "at", desc := "(I)I" } : MethodName)) ∈ sw_tb := sw_in 426 (by decide +kernel) rfl
theorem k_427 : (Cond.methodLink "SpectrumBoard$Processor" (77 : Nat) ({ cls := "SpectrumBoard$Processor", name := "executeFirstQuarter", desc := "(II)V" } : MethodName)) ∈ sw_tb := sw_in 427 (by decide +kernel) rfl
theorem k_431 : (Cond.methodLink "SpectrumBoard$Processor" (130 : Nat) ({ cls := "SpectrumBoard$Processor", name := "jumpNear", desc := "(I)V" } : MethodName)) ∈ sw_tb := sw_in 431 (by decide +kernel) rfl
theorem k_435 : (Cond.methodLink "SpectrumBoard$Processor" (152 : Nat) ({ cls := "SpectrumBoard$Registers", name := "exchange", desc := "(II)V" } : MethodName)) ∈ sw_tb := sw_in 435 (by decide +kernel) rfl
theorem k_439 : (Cond.methodLink "SpectrumBoard$Processor" (146 : Nat) ({ cls := "SpectrumBoard$Operands", name := "next", desc := "()I" } : MethodName)) ∈ sw_tb := sw_in 439 (by decide +kernel) rfl
theorem k_443 : (Cond.methodLink "SpectrumBoard$Operands" (40 : Nat) ({ cls := "SpectrumBoard$Memory", name := "read", desc := "(I)I" } : MethodName)) ∈ sw_tb := sw_in 443 (by decide +kernel) rfl
theorem k_447 : (Cond.methodLink "SpectrumBoard$Processor" (155 : Nat) ({ cls := "SpectrumBoard$Processor", name := "countDown", desc := "()Z" } : MethodName)) ∈ sw_tb := sw_in 447 (by decide +kernel) rfl
theorem k_451 : (Cond.methodLink "SpectrumBoard$Processor" (164 : Nat) ({ cls := "SpectrumBoard$Registers", name := "single", desc := "(I)I" } : MethodName)) ∈ sw_tb := sw_in 451 (by decide +kernel) rfl
theorem k_455 : (Cond.methodLink "SpectrumBoard$Registers" (19 : Nat) ({ cls := "SpectrumBoard$Registers", name := "pairWith", desc := "(I)I" } : MethodName)) ∈ sw_tb := sw_in 455 (by decide +kernel) rfl
theorem k_458 : (Cond.methodLink "SpectrumBoard$Registers" (23 : Nat) ({ cls := "SpectrumBoard$Registers", name := "isHigher", desc := "(I)Z" } : MethodName)) ∈ sw_tb := sw_in 458 (by decide +kernel) rfl
theorem k_461 : (Cond.methodLink "SpectrumBoard$Processor" (167 : Nat) ({ cls := "SpectrumBoard$Registers", name := "loadSingle", desc := "(II)V" } : MethodName)) ∈ sw_tb := sw_in 461 (by decide +kernel) rfl
theorem k_465 : (Cond.constant "SpectrumBoard$Registers" (27 : Nat) (65280 : Int32)) ∈ sw_tb := sw_in 465 (by decide +kernel) rfl
theorem k_466 : (Cond.methodLink "SpectrumBoard$Processor" (158 : Nat) ({ cls := "SpectrumBoard$Processor", name := "jumpBy", desc := "(IZ)V" } : MethodName)) ∈ sw_tb := sw_in 466 (by decide +kernel) rfl
theorem k_470 : (Cond.methodLink "SpectrumBoard$Processor" (170 : Nat) ({ cls := "SpectrumBoard$Registers", name := "move", desc := "(II)V" } : MethodName)) ∈ sw_tb := sw_in 470 (by decide +kernel) rfl
theorem k_471 : (Cond.methodLink "SpectrumBoard$Processor" (161 : Nat) ({ cls := "SpectrumBoard$Operands", name := "holds", desc := "(I)Z" } : MethodName)) ∈ sw_tb := sw_in 471 (by decide +kernel) rfl
theorem k_475 : (Cond.fieldLink "SpectrumBoard$Operands" (19 : Nat) "SpectrumBoard$Operands" "FLAG_OF_CONDITION" "[I") ∈ sw_tb := sw_in 475 (by decide +kernel) rfl
theorem k_477 : (Cond.methodLink "SpectrumBoard$Operands" (23 : Nat) ({ cls := "SpectrumBoard$Registers", name := "flags", desc := "()I" } : MethodName)) ∈ sw_tb := sw_in 477 (by decide +kernel) rfl
theorem k_481 : (Cond.methodLink "SpectrumBoard$Processor" (133 : Nat) ({ cls := "SpectrumBoard$Processor", name := "loadPairOrAdd", desc := "(I)V" } : MethodName)) ∈ sw_tb := sw_in 481 (by decide +kernel) rfl
theorem k_485 : (Cond.methodLink "SpectrumBoard$Processor" (173 : Nat) ({ cls := "SpectrumBoard$Operands", name := "pairOf", desc := "(I)I" } : MethodName)) ∈ sw_tb := sw_in 485 (by decide +kernel) rfl
theorem k_488 : (Cond.methodLink "SpectrumBoard$Processor" (176 : Nat) ({ cls := "SpectrumBoard$Operands", name := "nextPair", desc := "()I" } : MethodName)) ∈ sw_tb := sw_in 488 (by decide +kernel) rfl
theorem k_492 : (Cond.methodLink "SpectrumBoard$Processor" (179 : Nat) ({ cls := "SpectrumBoard$Arithmetic", name := "addToHl", desc := "(I)V" } : MethodName)) ∈ sw_tb := sw_in 492 (by decide +kernel) rfl
theorem k_496 : (Cond.methodLink "SpectrumBoard$Arithmetic" (47 : Nat) ({ cls := "SpectrumBoard$Registers", name := "pair", desc := "(I)I" } : MethodName)) ∈ sw_tb := sw_in 496 (by decide +kernel) rfl
theorem k_497 : (Cond.methodLink "SpectrumBoard$Arithmetic" (50 : Nat) ({ cls := "SpectrumBoard$Registers", name := "load", desc := "(II)V" } : MethodName)) ∈ sw_tb := sw_in 497 (by decide +kernel) rfl
theorem k_498 : (Cond.methodLink "SpectrumBoard$Arithmetic" (19 : Nat) ({ cls := "SpectrumBoard$Registers", name := "flags", desc := "()I" } : MethodName)) ∈ sw_tb := sw_in 498 (by decide +kernel) rfl
theorem k_499 : (Cond.methodLink "SpectrumBoard$Arithmetic" (40 : Nat) ({ cls := "SpectrumBoard$Registers", name := "loadFlags", desc := "(I)V" } : MethodName)) ∈ sw_tb := sw_in 499 (by decide +kernel) rfl
theorem k_503 : (Cond.methodLink "SpectrumBoard$Processor" (136 : Nat) ({ cls := "SpectrumBoard$Processor", name := "loadByAddress", desc := "(I)V" } : MethodName)) ∈ sw_tb := sw_in 503 (by decide +kernel) rfl
theorem k_507 : (Cond.methodLink "SpectrumBoard$Processor" (182 : Nat) ({ cls := "SpectrumBoard$Processor", name := "storeA", desc := "(I)V" } : MethodName)) ∈ sw_tb := sw_in 507 (by decide +kernel) rfl
theorem k_511 : (Cond.methodLink "SpectrumBoard$Processor" (194 : Nat) ({ cls := "SpectrumBoard$Memory", name := "write", desc := "(II)V" } : MethodName)) ∈ sw_tb := sw_in 511 (by decide +kernel) rfl
theorem k_512 : (Cond.methodLink "SpectrumBoard$Processor" (185 : Nat) ({ cls := "SpectrumBoard$Processor", name := "loadA", desc := "(I)V" } : MethodName)) ∈ sw_tb := sw_in 512 (by decide +kernel) rfl
theorem k_516 : (Cond.methodLink "SpectrumBoard$Processor" (197 : Nat) ({ cls := "SpectrumBoard$Memory", name := "read", desc := "(I)I" } : MethodName)) ∈ sw_tb := sw_in 516 (by decide +kernel) rfl
theorem k_517 : (Cond.methodLink "SpectrumBoard$Processor" (188 : Nat) ({ cls := "SpectrumBoard$Operands", name := "writePair", desc := "(II)V" } : MethodName)) ∈ sw_tb := sw_in 517 (by decide +kernel) rfl
theorem k_521 : (Cond.methodLink "SpectrumBoard$Processor" (191 : Nat) ({ cls := "SpectrumBoard$Operands", name := "readPair", desc := "(I)I" } : MethodName)) ∈ sw_tb := sw_in 521 (by decide +kernel) rfl
theorem k_525 : (Cond.methodLink "SpectrumBoard$Processor" (139 : Nat) ({ cls := "SpectrumBoard$Processor", name := "stepPair", desc := "(I)V" } : MethodName)) ∈ sw_tb := sw_in 525 (by decide +kernel) rfl
theorem k_529 : (Cond.methodLink "SpectrumBoard$Processor" (142 : Nat) ({ cls := "SpectrumBoard$Processor", name := "stepOperand", desc := "(IZ)V" } : MethodName)) ∈ sw_tb := sw_in 529 (by decide +kernel) rfl
theorem k_533 : (Cond.methodLink "SpectrumBoard$Processor" (84 : Nat) ({ cls := "SpectrumBoard$Operands", name := "value", desc := "(I)I" } : MethodName)) ∈ sw_tb := sw_in 533 (by decide +kernel) rfl
theorem k_537 : (Cond.methodLink "SpectrumBoard$Operands" (43 : Nat) ({ cls := "SpectrumBoard$Operands", name := "isAtHl", desc := "(I)Z" } : MethodName)) ∈ sw_tb := sw_in 537 (by decide +kernel) rfl
theorem k_540 : (Cond.methodLink "SpectrumBoard$Operands" (47 : Nat) ({ cls := "SpectrumBoard$Registers", name := "single", desc := "(I)I" } : MethodName)) ∈ sw_tb := sw_in 540 (by decide +kernel) rfl
theorem k_541 : (Cond.methodLink "SpectrumBoard$Processor" (200 : Nat) ({ cls := "SpectrumBoard$Arithmetic", name := "oneMore", desc := "(I)I" } : MethodName)) ∈ sw_tb := sw_in 541 (by decide +kernel) rfl
theorem k_545 : (Cond.methodLink "SpectrumBoard$Arithmetic" (37 : Nat) ({ cls := "SpectrumBoard$Arithmetic", name := "signAndZero", desc := "(I)I" } : MethodName)) ∈ sw_tb := sw_in 545 (by decide +kernel) rfl
theorem k_548 : (Cond.methodLink "SpectrumBoard$Processor" (203 : Nat) ({ cls := "SpectrumBoard$Arithmetic", name := "oneLess", desc := "(I)I" } : MethodName)) ∈ sw_tb := sw_in 548 (by decide +kernel) rfl
theorem k_552 : (Cond.methodLink "SpectrumBoard$Processor" (124 : Nat) ({ cls := "SpectrumBoard$Operands", name := "isAtHl", desc := "(I)Z" } : MethodName)) ∈ sw_tb := sw_in 552 (by decide +kernel) rfl
theorem k_553 : (Cond.methodLink "SpectrumBoard$Processor" (127 : Nat) ({ cls := "SpectrumBoard$Operands", name := "store", desc := "(II)V" } : MethodName)) ∈ sw_tb := sw_in 553 (by decide +kernel) rfl
theorem k_557 : (Cond.methodLink "SpectrumBoard$Operands" (53 : Nat) ({ cls := "SpectrumBoard$Registers", name := "loadSingle", desc := "(II)V" } : MethodName)) ∈ sw_tb := sw_in 557 (by decide +kernel) rfl
theorem k_558 : (Cond.methodLink "SpectrumBoard$Processor" (149 : Nat) ({ cls := "SpectrumBoard$Processor", name := "changeA", desc := "(I)V" } : MethodName)) ∈ sw_tb := sw_in 558 (by decide +kernel) rfl
theorem k_562 : (Cond.methodLink "SpectrumBoard$Processor" (206 : Nat) ({ cls := "SpectrumBoard$Arithmetic", name := "adjustDecimal", desc := "()V" } : MethodName)) ∈ sw_tb := sw_in 562 (by decide +kernel) rfl
theorem k_566 : (Cond.methodLink "SpectrumBoard$Arithmetic" (15 : Nat) ({ cls := "SpectrumBoard$Registers", name := "single", desc := "(I)I" } : MethodName)) ∈ sw_tb := sw_in 566 (by decide +kernel) rfl
theorem k_567 : (Cond.methodLink "SpectrumBoard$Arithmetic" (27 : Nat) ({ cls := "SpectrumBoard$Registers", name := "loadSingle", desc := "(II)V" } : MethodName)) ∈ sw_tb := sw_in 567 (by decide +kernel) rfl
theorem k_568 : (Cond.methodLink "SpectrumBoard$Arithmetic" (44 : Nat) ({ cls := "SpectrumBoard$Arithmetic", name := "even", desc := "(I)I" } : MethodName)) ∈ sw_tb := sw_in 568 (by decide +kernel) rfl
theorem k_571 : (Cond.methodLink "SpectrumBoard$Arithmetic" (65 : Nat) ({ cls := "java/lang/Integer", name := "bitCount", desc := "(I)I" } : MethodName)) ∈ sw_tb := sw_in 571 (by decide +kernel) rfl
theorem k_574 : (Cond.constant "java/lang/Integer" (265 : Nat) (1431655765 : Int32)) ∈ sw_tb := sw_in 574 (by decide +kernel) rfl
theorem k_575 : (Cond.constant "java/lang/Integer" (266 : Nat) (858993459 : Int32)) ∈ sw_tb := sw_in 575 (by decide +kernel) rfl
theorem k_576 : (Cond.constant "java/lang/Integer" (267 : Nat) (252645135 : Int32)) ∈ sw_tb := sw_in 576 (by decide +kernel) rfl
theorem k_577 : (Cond.methodLink "SpectrumBoard$Processor" (209 : Nat) ({ cls := "SpectrumBoard$Arithmetic", name := "turnRoundA", desc := "()V" } : MethodName)) ∈ sw_tb := sw_in 577 (by decide +kernel) rfl
theorem k_581 : (Cond.methodLink "SpectrumBoard$Processor" (212 : Nat) ({ cls := "SpectrumBoard$Arithmetic", name := "setCarry", desc := "()V" } : MethodName)) ∈ sw_tb := sw_in 581 (by decide +kernel) rfl
theorem k_585 : (Cond.methodLink "SpectrumBoard$Processor" (215 : Nat) ({ cls := "SpectrumBoard$Arithmetic", name := "turnRoundCarry", desc := "()V" } : MethodName)) ∈ sw_tb := sw_in 585 (by decide +kernel) rfl
theorem k_589 : (Cond.methodLink "SpectrumBoard$Processor" (218 : Nat) ({ cls := "SpectrumBoard$Arithmetic", name := "shiftA", desc := "(I)V" } : MethodName)) ∈ sw_tb := sw_in 589 (by decide +kernel) rfl
theorem k_593 : (Cond.methodLink "SpectrumBoard$Arithmetic" (57 : Nat) ({ cls := "SpectrumBoard$Arithmetic", name := "moved", desc := "(III)I" } : MethodName)) ∈ sw_tb := sw_in 593 (by decide +kernel) rfl
theorem k_596 : (Cond.methodLink "SpectrumBoard$Arithmetic" (60 : Nat) ({ cls := "SpectrumBoard$Arithmetic", name := "bitOut", desc := "(II)I" } : MethodName)) ∈ sw_tb := sw_in 596 (by decide +kernel) rfl
theorem k_599 : (Cond.methodLink "SpectrumBoard$Processor" (81 : Nat) ({ cls := "SpectrumBoard$Processor", name := "loadOrHalt", desc := "(II)V" } : MethodName)) ∈ sw_tb := sw_in 599 (by decide +kernel) rfl
theorem k_603 : (Cond.methodLink "SpectrumBoard$Processor" (88 : Nat) ({ cls := "SpectrumBoard$Arithmetic", name := "withA", desc := "(II)V" } : MethodName)) ∈ sw_tb := sw_in 603 (by decide +kernel) rfl
theorem k_607 : (Cond.methodLink "SpectrumBoard$Arithmetic" (23 : Nat) ({ cls := "SpectrumBoard$Arithmetic", name := "sum", desc := "(III)I" } : MethodName)) ∈ sw_tb := sw_in 607 (by decide +kernel) rfl
theorem k_611 : (Cond.methodLink "SpectrumBoard$Arithmetic" (31 : Nat) ({ cls := "SpectrumBoard$Arithmetic", name := "difference", desc := "(III)I" } : MethodName)) ∈ sw_tb := sw_in 611 (by decide +kernel) rfl
theorem k_615 : (Cond.methodLink "SpectrumBoard$Arithmetic" (34 : Nat) ({ cls := "SpectrumBoard$Arithmetic", name := "logical", desc := "(II)V" } : MethodName)) ∈ sw_tb := sw_in 615 (by decide +kernel) rfl
theorem k_619 : (Cond.methodLink "SpectrumBoard$Processor" (91 : Nat) ({ cls := "SpectrumBoard$Processor", name := "standsAlone", desc := "(II)Z" } : MethodName)) ∈ sw_tb := sw_in 619 (by decide +kernel) rfl
theorem k_622 : (Cond.methodLink "SpectrumBoard$Processor" (95 : Nat) ({ cls := "SpectrumBoard$Processor", name := "executeAlone", desc := "(I)V" } : MethodName)) ∈ sw_tb := sw_in 622 (by decide +kernel) rfl
theorem k_626 : (Cond.methodLink "SpectrumBoard$Processor" (221 : Nat) ({ cls := "SpectrumBoard$Processor", name := "jumpTo", desc := "(IZ)V" } : MethodName)) ∈ sw_tb := sw_in 626 (by decide +kernel) rfl
theorem k_630 : (Cond.methodLink "SpectrumBoard$Processor" (224 : Nat) ({ cls := "SpectrumBoard$Operands", name := "pop", desc := "()I" } : MethodName)) ∈ sw_tb := sw_in 630 (by decide +kernel) rfl
theorem k_634 : (Cond.methodLink "SpectrumBoard$Processor" (227 : Nat) ({ cls := "SpectrumBoard$Processor", name := "executeBits", desc := "(I)V" } : MethodName)) ∈ sw_tb := sw_in 634 (by decide +kernel) rfl
theorem k_638 : (Cond.methodLink "SpectrumBoard$Processor" (270 : Nat) ({ cls := "SpectrumBoard$Arithmetic", name := "shifted", desc := "(II)I" } : MethodName)) ∈ sw_tb := sw_in 638 (by decide +kernel) rfl
theorem k_642 : (Cond.methodLink "SpectrumBoard$Processor" (273 : Nat) ({ cls := "SpectrumBoard$Arithmetic", name := "testBit", desc := "(II)V" } : MethodName)) ∈ sw_tb := sw_in 642 (by decide +kernel) rfl
theorem k_646 : (Cond.methodLink "SpectrumBoard$Processor" (230 : Nat) ({ cls := "SpectrumBoard$Processor", name := "callTo", desc := "(IZ)V" } : MethodName)) ∈ sw_tb := sw_in 646 (by decide +kernel) rfl
theorem k_650 : (Cond.methodLink "SpectrumBoard$Processor" (233 : Nat) ({ cls := "SpectrumBoard$Ports", name := "output", desc := "(II)V" } : MethodName)) ∈ sw_tb := sw_in 650 (by decide +kernel) rfl
theorem k_654 : (Cond.methodLink "SpectrumBoard$Ports" (29 : Nat) ({ cls := "SpectrumBoard$Ports", name := "isWaitedFor", desc := "(I)Z" } : MethodName)) ∈ sw_tb := sw_in 654 (by decide +kernel) rfl
theorem k_657 : (Cond.methodLink "SpectrumBoard$Ports" (33 : Nat) ({ cls := "SpectrumBoard$Clock", name := "waitForPictureIf", desc := "(Z)V" } : MethodName)) ∈ sw_tb := sw_in 657 (by decide +kernel) rfl
theorem k_658 : (Cond.methodLink "SpectrumBoard$Ports" (57 : Nat) ({ cls := "SpectrumBoard$Ports", name := "moveSpeaker", desc := "(I)V" } : MethodName)) ∈ sw_tb := sw_in 658 (by decide +kernel) rfl
theorem k_662 : (Cond.methodLink "SpectrumBoard$Ports" (50 : Nat) ({ cls := "SpectrumBoard$Clock", name := "pass", desc := "(I)V" } : MethodName)) ∈ sw_tb := sw_in 662 (by decide +kernel) rfl
theorem k_663 : (Cond.methodLink "SpectrumBoard$Processor" (238 : Nat) ({ cls := "SpectrumBoard$Processor", name := "exchangeWithOthers", desc := "()V" } : MethodName)) ∈ sw_tb := sw_in 663 (by decide +kernel) rfl
theorem k_667 : (Cond.methodLink "SpectrumBoard$Processor" (241 : Nat) ({ cls := "SpectrumBoard$Processor", name := "inputToA", desc := "()V" } : MethodName)) ∈ sw_tb := sw_in 667 (by decide +kernel) rfl
theorem k_671 : (Cond.methodLink "SpectrumBoard$Processor" (266 : Nat) ({ cls := "SpectrumBoard$Ports", name := "input", desc := "(II)I" } : MethodName)) ∈ sw_tb := sw_in 671 (by decide +kernel) rfl
theorem k_675 : (Cond.methodLink "SpectrumBoard$Ports" (43 : Nat) ({ cls := "SpectrumBoard$Tape", name := "ear", desc := "(I)I" } : MethodName)) ∈ sw_tb := sw_in 675 (by decide +kernel) rfl
theorem k_679 : (Cond.methodLink "SpectrumBoard$Ports" (47 : Nat) ({ cls := "SpectrumBoard$Ports", name := "keysOf", desc := "(I)I" } : MethodName)) ∈ sw_tb := sw_in 679 (by decide +kernel) rfl
theorem k_683 : (Cond.methodLink "SpectrumBoard$Processor" (244 : Nat) ({ cls := "SpectrumBoard$Processor", name := "exchangeHlWithStack", desc := "()V" } : MethodName)) ∈ sw_tb := sw_in 683 (by decide +kernel) rfl
theorem k_687 : (Cond.methodLink "SpectrumBoard$Processor" (247 : Nat) ({ cls := "SpectrumBoard$Processor", name := "executeMore", desc := "(I)V" } : MethodName)) ∈ sw_tb := sw_in 687 (by decide +kernel) rfl
theorem k_691 : (Cond.methodLink "SpectrumBoard$Processor" (276 : Nat) ({ cls := "SpectrumBoard$Arithmetic", name := "negate", desc := "()V" } : MethodName)) ∈ sw_tb := sw_in 691 (by decide +kernel) rfl
theorem k_695 : (Cond.methodLink "SpectrumBoard$Processor" (279 : Nat) ({ cls := "SpectrumBoard$Processor", name := "copyByte", desc := "(Z)V" } : MethodName)) ∈ sw_tb := sw_in 695 (by decide +kernel) rfl
theorem k_699 : (Cond.methodLink "SpectrumBoard$Processor" (291 : Nat) ({ cls := "SpectrumBoard$Registers", name := "flags", desc := "()I" } : MethodName)) ∈ sw_tb := sw_in 699 (by decide +kernel) rfl
theorem k_700 : (Cond.methodLink "SpectrumBoard$Processor" (294 : Nat) ({ cls := "SpectrumBoard$Registers", name := "loadFlags", desc := "(I)V" } : MethodName)) ∈ sw_tb := sw_in 700 (by decide +kernel) rfl
theorem k_701 : (Cond.methodLink "SpectrumBoard$Processor" (282 : Nat) ({ cls := "SpectrumBoard$Processor", name := "calculateWithHl", desc := "(I)V" } : MethodName)) ∈ sw_tb := sw_in 701 (by decide +kernel) rfl
theorem k_705 : (Cond.methodLink "SpectrumBoard$Processor" (285 : Nat) ({ cls := "SpectrumBoard$Arithmetic", name := "takeFromHlWithCarry", desc := "(I)V" } : MethodName)) ∈ sw_tb := sw_in 705 (by decide +kernel) rfl
theorem k_709 : (Cond.constant "SpectrumBoard$Arithmetic" (53 : Nat) (32768 : Int32)) ∈ sw_tb := sw_in 709 (by decide +kernel) rfl
theorem k_710 : (Cond.methodLink "SpectrumBoard$Arithmetic" (54 : Nat) ({ cls := "SpectrumBoard$Arithmetic", name := "signAndZeroOfPair", desc := "(I)I" } : MethodName)) ∈ sw_tb := sw_in 710 (by decide +kernel) rfl
theorem k_713 : (Cond.constant "SpectrumBoard$Arithmetic" (64 : Nat) (65535 : Int32)) ∈ sw_tb := sw_in 713 (by decide +kernel) rfl
theorem k_714 : (Cond.methodLink "SpectrumBoard$Processor" (288 : Nat) ({ cls := "SpectrumBoard$Arithmetic", name := "addToHlWithCarry", desc := "(I)V" } : MethodName)) ∈ sw_tb := sw_in 714 (by decide +kernel) rfl
theorem k_718 : (Cond.methodLink "SpectrumBoard$Processor" (250 : Nat) ({ cls := "SpectrumBoard$Processor", name := "loadStackFromHl", desc := "()V" } : MethodName)) ∈ sw_tb := sw_in 718 (by decide +kernel) rfl
theorem k_722 : (Cond.methodLink "SpectrumBoard$Processor" (253 : Nat) ({ cls := "SpectrumBoard$Processor", name := "turnInterruptsOn", desc := "()V" } : MethodName)) ∈ sw_tb := sw_in 722 (by decide +kernel) rfl
theorem k_726 : (Cond.methodLink "SpectrumBoard$Processor" (98 : Nat) ({ cls := "SpectrumBoard$Processor", name := "executeLastQuarter", desc := "(II)V" } : MethodName)) ∈ sw_tb := sw_in 726 (by decide +kernel) rfl
theorem k_730 : (Cond.methodLink "SpectrumBoard$Processor" (256 : Nat) ({ cls := "SpectrumBoard$Processor", name := "returnIf", desc := "(Z)V" } : MethodName)) ∈ sw_tb := sw_in 730 (by decide +kernel) rfl
theorem k_734 : (Cond.methodLink "SpectrumBoard$Processor" (260 : Nat) ({ cls := "SpectrumBoard$Operands", name := "stackPairOf", desc := "(I)I" } : MethodName)) ∈ sw_tb := sw_in 734 (by decide +kernel) rfl
theorem k_737 : (Cond.methodLink "SpectrumBoard$Processor" (263 : Nat) ({ cls := "SpectrumBoard$Processor", name := "pushPair", desc := "(I)V" } : MethodName)) ∈ sw_tb := sw_in 737 (by decide +kernel) rfl
theorem k_754 : (Cond.fieldLink "SpectrumBoardModel" (28 : Nat) "SpectrumBoardModel" "refusal" "I") ∈ sw_tb := sw_in 754 (by decide +kernel) rfl
theorem k_755 : (Cond.fieldLink "SpectrumBoardModel" (7 : Nat) "SpectrumBoardModel" "memory" "[I") ∈ sw_tb := sw_in 755 (by decide +kernel) rfl
theorem k_756 : (Cond.fieldLink "SpectrumBoardModel" (13 : Nat) "SpectrumBoardModel" "reg" "[I") ∈ sw_tb := sw_in 756 (by decide +kernel) rfl
theorem k_757 : (Cond.fieldLink "SpectrumBoardModel" (16 : Nat) "SpectrumBoardModel" "other" "[I") ∈ sw_tb := sw_in 757 (by decide +kernel) rfl
theorem k_758 : (Cond.fieldLink "SpectrumBoardModel" (58 : Nat) "SpectrumBoardModel" "sp" "I") ∈ sw_tb := sw_in 758 (by decide +kernel) rfl
theorem k_759 : (Cond.fieldLink "SpectrumBoardModel" (46 : Nat) "SpectrumBoardModel" "pc" "I") ∈ sw_tb := sw_in 759 (by decide +kernel) rfl
theorem k_760 : (Cond.fieldLink "SpectrumBoardModel" (32 : Nat) "SpectrumBoardModel" "time" "I") ∈ sw_tb := sw_in 760 (by decide +kernel) rfl
theorem k_761 : (Cond.fieldLink "SpectrumBoardModel" (203 : Nat) "SpectrumBoardModel" "isHalted" "Z") ∈ sw_tb := sw_in 761 (by decide +kernel) rfl
theorem k_762 : (Cond.fieldLink "SpectrumBoardModel" (176 : Nat) "SpectrumBoardModel" "isOn" "Z") ∈ sw_tb := sw_in 762 (by decide +kernel) rfl
theorem k_763 : (Cond.fieldLink "SpectrumBoardModel" (179 : Nat) "SpectrumBoardModel" "isBehindEi" "Z") ∈ sw_tb := sw_in 763 (by decide +kernel) rfl
theorem k_764 : (Cond.fieldLink "SpectrumBoardModel" (97 : Nat) "SpectrumBoardModel" "isTrapped" "Z") ∈ sw_tb := sw_in 764 (by decide +kernel) rfl
theorem k_765 : (Cond.fieldLink "SpectrumBoardModel" (215 : Nat) "SpectrumBoardModel" "interrupts" "I") ∈ sw_tb := sw_in 765 (by decide +kernel) rfl
theorem k_766 : (Cond.fieldLink "SpectrumBoardModel" (206 : Nat) "SpectrumBoardModel" "instructions" "I") ∈ sw_tb := sw_in 766 (by decide +kernel) rfl
theorem k_767 : (Cond.fieldLink "SpectrumBoardModel" (19 : Nat) "SpectrumBoardModel" "rows" "[I") ∈ sw_tb := sw_in 767 (by decide +kernel) rfl
theorem k_768 : (Cond.fieldLink "SpectrumBoardModel" (200 : Nat) "SpectrumBoardModel" "edges" "I") ∈ sw_tb := sw_in 768 (by decide +kernel) rfl
theorem k_769 : (Cond.fieldLink "SpectrumBoardModel" (22 : Nat) "SpectrumBoardModel" "edgeAt" "[I") ∈ sw_tb := sw_in 769 (by decide +kernel) rfl
theorem k_770 : (Cond.fieldLink "SpectrumBoardModel" (191 : Nat) "SpectrumBoardModel" "border" "I") ∈ sw_tb := sw_in 770 (by decide +kernel) rfl
theorem k_771 : (Cond.fieldLink "SpectrumBoardModel" (194 : Nat) "SpectrumBoardModel" "speaker" "I") ∈ sw_tb := sw_in 771 (by decide +kernel) rfl
theorem k_772 : (Cond.fieldLink "SpectrumBoardModel" (197 : Nat) "SpectrumBoardModel" "changes" "I") ∈ sw_tb := sw_in 772 (by decide +kernel) rfl
theorem k_773 : (Cond.fieldLink "SpectrumBoardModel" (25 : Nat) "SpectrumBoardModel" "changeAt" "[I") ∈ sw_tb := sw_in 773 (by decide +kernel) rfl
theorem k_823 : (Cond.methodLink "SpectrumBoardModel" (35 : Nat) ({ cls := "SpectrumBoardModel", name := "isIn", desc := "(III)Z" } : MethodName)) ∈ sw_tb := sw_in 823 (by decide +kernel) rfl
theorem k_826 : (Cond.methodLink "SpectrumBoardModel" (218 : Nat) ({ cls := "SpectrumBoardModel", name := "refused", desc := "(I)Z" } : MethodName)) ∈ sw_tb := sw_in 826 (by decide +kernel) rfl
theorem k_830 : (Cond.methodLink "SpectrumBoardModel" (221 : Nat) ({ cls := "SpectrumBoardModel", name := "interrupt", desc := "()V" } : MethodName)) ∈ sw_tb := sw_in 830 (by decide +kernel) rfl
theorem k_834 : (Cond.methodLink "SpectrumBoardModel" (158 : Nat) ({ cls := "SpectrumBoardModel", name := "push", desc := "(I)V" } : MethodName)) ∈ sw_tb := sw_in 834 (by decide +kernel) rfl
theorem k_838 : (Cond.constant "SpectrumBoardModel" (49 : Nat) (65535 : Int32)) ∈ sw_tb := sw_in 838 (by decide +kernel) rfl
theorem k_839 : (Cond.methodLink "SpectrumBoardModel" (61 : Nat) ({ cls := "SpectrumBoardModel", name := "write", desc := "(II)V" } : MethodName)) ∈ sw_tb := sw_in 839 (by decide +kernel) rfl
theorem k_843 : (Cond.methodLink "SpectrumBoardModel" (42 : Nat) ({ cls := "SpectrumBoardModel", name := "open", desc := "(I)V" } : MethodName)) ∈ sw_tb := sw_in 843 (by decide +kernel) rfl
theorem k_847 : (Cond.methodLink "SpectrumBoardModel" (39 : Nat) ({ cls := "SpectrumBoardModel", name := "delay", desc := "()V" } : MethodName)) ∈ sw_tb := sw_in 847 (by decide +kernel) rfl
theorem k_851 : (Cond.methodLink "SpectrumBoardModel" (224 : Nat) ({ cls := "SpectrumBoardModel", name := "instruction", desc := "()V" } : MethodName)) ∈ sw_tb := sw_in 851 (by decide +kernel) rfl
theorem k_855 : (Cond.methodLink "SpectrumBoardModel" (161 : Nat) ({ cls := "SpectrumBoardModel", name := "fetch", desc := "()I" } : MethodName)) ∈ sw_tb := sw_in 855 (by decide +kernel) rfl
theorem k_859 : (Cond.methodLink "SpectrumBoardModel" (209 : Nat) ({ cls := "SpectrumBoardModel", name := "one", desc := "(I)V" } : MethodName)) ∈ sw_tb := sw_in 859 (by decide +kernel) rfl
theorem k_863 : (Cond.methodLink "SpectrumBoardModel" (107 : Nat) ({ cls := "SpectrumBoardModel", name := "jumpRelative", desc := "(I)V" } : MethodName)) ∈ sw_tb := sw_in 863 (by decide +kernel) rfl
theorem k_867 : (Cond.methodLink "SpectrumBoardModel" (126 : Nat) ({ cls := "SpectrumBoardModel", name := "exchange", desc := "(II)V" } : MethodName)) ∈ sw_tb := sw_in 867 (by decide +kernel) rfl
theorem k_871 : (Cond.methodLink "SpectrumBoardModel" (129 : Nat) ({ cls := "SpectrumBoardModel", name := "holds", desc := "(I)Z" } : MethodName)) ∈ sw_tb := sw_in 871 (by decide +kernel) rfl
theorem k_875 : (Cond.methodLink "SpectrumBoardModel" (54 : Nat) ({ cls := "SpectrumBoardModel", name := "next", desc := "()I" } : MethodName)) ∈ sw_tb := sw_in 875 (by decide +kernel) rfl
theorem k_879 : (Cond.methodLink "SpectrumBoardModel" (50 : Nat) ({ cls := "SpectrumBoardModel", name := "read", desc := "(I)I" } : MethodName)) ∈ sw_tb := sw_in 879 (by decide +kernel) rfl
theorem k_883 : (Cond.methodLink "SpectrumBoardModel" (110 : Nat) ({ cls := "SpectrumBoardModel", name := "nextPair", desc := "()I" } : MethodName)) ∈ sw_tb := sw_in 883 (by decide +kernel) rfl
theorem k_887 : (Cond.methodLink "SpectrumBoardModel" (90 : Nat) ({ cls := "SpectrumBoardModel", name := "setPair", desc := "(II)V" } : MethodName)) ∈ sw_tb := sw_in 887 (by decide +kernel) rfl
theorem k_891 : (Cond.methodLink "SpectrumBoardModel" (113 : Nat) ({ cls := "SpectrumBoardModel", name := "addPair", desc := "(I)V" } : MethodName)) ∈ sw_tb := sw_in 891 (by decide +kernel) rfl
theorem k_895 : (Cond.methodLink "SpectrumBoardModel" (71 : Nat) ({ cls := "SpectrumBoardModel", name := "hl", desc := "()I" } : MethodName)) ∈ sw_tb := sw_in 895 (by decide +kernel) rfl
theorem k_899 : (Cond.methodLink "SpectrumBoardModel" (68 : Nat) ({ cls := "SpectrumBoardModel", name := "pair", desc := "(I)I" } : MethodName)) ∈ sw_tb := sw_in 899 (by decide +kernel) rfl
theorem k_903 : (Cond.methodLink "SpectrumBoardModel" (116 : Nat) ({ cls := "SpectrumBoardModel", name := "loads", desc := "(I)V" } : MethodName)) ∈ sw_tb := sw_in 903 (by decide +kernel) rfl
theorem k_907 : (Cond.methodLink "SpectrumBoardModel" (119 : Nat) ({ cls := "SpectrumBoardModel", name := "step", desc := "(IZ)V" } : MethodName)) ∈ sw_tb := sw_in 907 (by decide +kernel) rfl
theorem k_911 : (Cond.methodLink "SpectrumBoardModel" (77 : Nat) ({ cls := "SpectrumBoardModel", name := "carry", desc := "()I" } : MethodName)) ∈ sw_tb := sw_in 911 (by decide +kernel) rfl
theorem k_915 : (Cond.methodLink "SpectrumBoardModel" (101 : Nat) ({ cls := "SpectrumBoardModel", name := "operand", desc := "(I)I" } : MethodName)) ∈ sw_tb := sw_in 915 (by decide +kernel) rfl
theorem k_919 : (Cond.methodLink "SpectrumBoardModel" (84 : Nat) ({ cls := "SpectrumBoardModel", name := "minus", desc := "(III)I" } : MethodName)) ∈ sw_tb := sw_in 919 (by decide +kernel) rfl
theorem k_923 : (Cond.methodLink "SpectrumBoardModel" (74 : Nat) ({ cls := "SpectrumBoardModel", name := "signs", desc := "(I)I" } : MethodName)) ∈ sw_tb := sw_in 923 (by decide +kernel) rfl
theorem k_926 : (Cond.methodLink "SpectrumBoardModel" (80 : Nat) ({ cls := "SpectrumBoardModel", name := "plus", desc := "(III)I" } : MethodName)) ∈ sw_tb := sw_in 926 (by decide +kernel) rfl
theorem k_930 : (Cond.methodLink "SpectrumBoardModel" (104 : Nat) ({ cls := "SpectrumBoardModel", name := "setOperand", desc := "(II)V" } : MethodName)) ∈ sw_tb := sw_in 930 (by decide +kernel) rfl
theorem k_934 : (Cond.methodLink "SpectrumBoardModel" (123 : Nat) ({ cls := "SpectrumBoardModel", name := "accumulator", desc := "(I)V" } : MethodName)) ∈ sw_tb := sw_in 934 (by decide +kernel) rfl
theorem k_938 : (Cond.methodLink "SpectrumBoardModel" (133 : Nat) ({ cls := "SpectrumBoardModel", name := "turnA", desc := "(I)V" } : MethodName)) ∈ sw_tb := sw_in 938 (by decide +kernel) rfl
theorem k_942 : (Cond.methodLink "SpectrumBoardModel" (93 : Nat) ({ cls := "SpectrumBoardModel", name := "turned", desc := "(II)I" } : MethodName)) ∈ sw_tb := sw_in 942 (by decide +kernel) rfl
theorem k_946 : (Cond.methodLink "SpectrumBoardModel" (136 : Nat) ({ cls := "SpectrumBoardModel", name := "correct", desc := "()V" } : MethodName)) ∈ sw_tb := sw_in 946 (by decide +kernel) rfl
theorem k_950 : (Cond.methodLink "SpectrumBoardModel" (87 : Nat) ({ cls := "SpectrumBoardModel", name := "even", desc := "(I)I" } : MethodName)) ∈ sw_tb := sw_in 950 (by decide +kernel) rfl
theorem k_953 : (Cond.methodLink "SpectrumBoardModel" (155 : Nat) ({ cls := "SpectrumBoardModel", name := "reckon", desc := "(II)V" } : MethodName)) ∈ sw_tb := sw_in 953 (by decide +kernel) rfl
theorem k_957 : (Cond.methodLink "SpectrumBoardModel" (212 : Nat) ({ cls := "SpectrumBoardModel", name := "three", desc := "(I)V" } : MethodName)) ∈ sw_tb := sw_in 957 (by decide +kernel) rfl
theorem k_961 : (Cond.methodLink "SpectrumBoardModel" (139 : Nat) ({ cls := "SpectrumBoardModel", name := "pop", desc := "()I" } : MethodName)) ∈ sw_tb := sw_in 961 (by decide +kernel) rfl
theorem k_965 : (Cond.methodLink "SpectrumBoardModel" (65 : Nat) ({ cls := "SpectrumBoardModel", name := "readPair", desc := "(I)I" } : MethodName)) ∈ sw_tb := sw_in 965 (by decide +kernel) rfl
theorem k_969 : (Cond.methodLink "SpectrumBoardModel" (142 : Nat) ({ cls := "SpectrumBoardModel", name := "back", desc := "(I)V" } : MethodName)) ∈ sw_tb := sw_in 969 (by decide +kernel) rfl
theorem k_973 : (Cond.methodLink "SpectrumBoardModel" (145 : Nat) ({ cls := "SpectrumBoardModel", name := "various", desc := "(I)V" } : MethodName)) ∈ sw_tb := sw_in 973 (by decide +kernel) rfl
theorem k_977 : (Cond.methodLink "SpectrumBoardModel" (167 : Nat) ({ cls := "SpectrumBoardModel", name := "bits", desc := "(I)V" } : MethodName)) ∈ sw_tb := sw_in 977 (by decide +kernel) rfl
theorem k_981 : (Cond.methodLink "SpectrumBoardModel" (170 : Nat) ({ cls := "SpectrumBoardModel", name := "send", desc := "(I)V" } : MethodName)) ∈ sw_tb := sw_in 981 (by decide +kernel) rfl
theorem k_985 : (Cond.methodLink "SpectrumBoardModel" (188 : Nat) ({ cls := "SpectrumBoardModel", name := "openPort", desc := "(I)V" } : MethodName)) ∈ sw_tb := sw_in 985 (by decide +kernel) rfl
theorem k_989 : (Cond.methodLink "SpectrumBoardModel" (173 : Nat) ({ cls := "SpectrumBoardModel", name := "receive", desc := "(I)V" } : MethodName)) ∈ sw_tb := sw_in 989 (by decide +kernel) rfl
theorem k_993 : (Cond.methodLink "SpectrumBoardModel" (148 : Nat) ({ cls := "SpectrumBoardModel", name := "callIf", desc := "(Z)V" } : MethodName)) ∈ sw_tb := sw_in 993 (by decide +kernel) rfl
theorem k_997 : (Cond.methodLink "SpectrumBoardModel" (152 : Nat) ({ cls := "SpectrumBoardModel", name := "ahead", desc := "(I)V" } : MethodName)) ∈ sw_tb := sw_in 997 (by decide +kernel) rfl
theorem k_1001 : (Cond.methodLink "SpectrumBoardModel" (164 : Nat) ({ cls := "SpectrumBoardModel", name := "extended", desc := "(I)V" } : MethodName)) ∈ sw_tb := sw_in 1001 (by decide +kernel) rfl
theorem k_1005 : (Cond.methodLink "SpectrumBoardModel" (182 : Nat) ({ cls := "SpectrumBoardModel", name := "addPairWithCarry", desc := "(IZ)V" } : MethodName)) ∈ sw_tb := sw_in 1005 (by decide +kernel) rfl
theorem k_1009 : (Cond.methodLink "SpectrumBoardModel" (185 : Nat) ({ cls := "SpectrumBoardModel", name := "move", desc := "(Z)V" } : MethodName)) ∈ sw_tb := sw_in 1009 (by decide +kernel) rfl
theorem k_1037 : (Cond.constant "SpectrumBoardModel" (227 : Nat) (100000 : Int32)) ∈ sw_tb := sw_in 1037 (by decide +kernel) rfl
theorem calX0_addToHl : sw_calV yX0_addToHl cX0_addToHl 5 none 1 := ⟨sw_in 495 (by decide +kernel) rfl, sw_in 493 (by decide +kernel) rfl, sw_in 494 (by decide +kernel) rfl, sw_in 8 (by decide +kernel) rfl, by decide, by decide, by decide +kernel⟩
theorem calX0_addToHlWithCarry : sw_calV yX0_addToHlWithCarry cX0_addToHlWithCarry 6 none 1 := ⟨sw_in 717 (by decide +kernel) rfl, sw_in 715 (by decide +kernel) rfl, sw_in 716 (by decide +kernel) rfl, sw_in 8 (by decide +kernel) rfl, by decide, by decide, by decide +kernel⟩
theorem calX0_adjustDecimal : sw_calV yX0_adjustDecimal cX0_adjustDecimal 7 none 0 := ⟨sw_in 565 (by decide +kernel) rfl, sw_in 563 (by decide +kernel) rfl, sw_in 564 (by decide +kernel) rfl, sw_in 8 (by decide +kernel) rfl, by decide, by decide, by decide +kernel⟩
theorem calX0_bitOut : sw_calS yX0_bitOut cX0_bitOut 3 (some .int) 2 := ⟨sw_in 598 (by decide +kernel) rfl, sw_in 597 (by decide +kernel) rfl, sw_in 8 (by decide +kernel) rfl, by decide, by decide, by decide +kernel⟩
theorem calX0_difference : sw_calV yX0_difference cX0_difference 8 (some .int) 3 := ⟨sw_in 614 (by decide +kernel) rfl, sw_in 613 (by decide +kernel) rfl, sw_inp 16 (by decide +kernel) rfl, sw_in 8 (by decide +kernel) rfl, by decide, by decide, by decide +kernel⟩
theorem calX0_even : sw_calS yX0_even cX0_even 1 (some .int) 1 := ⟨sw_in 570 (by decide +kernel) rfl, sw_in 569 (by decide +kernel) rfl, sw_in 8 (by decide +kernel) rfl, by decide, by decide, by decide +kernel⟩
theorem calX0_logical : sw_calV yX0_logical cX0_logical 3 none 2 := ⟨sw_in 618 (by decide +kernel) rfl, sw_in 617 (by decide +kernel) rfl, sw_inp 17 (by decide +kernel) rfl, sw_in 8 (by decide +kernel) rfl, by decide, by decide, by decide +kernel⟩
theorem calX0_moved : sw_calS yX0_moved cX0_moved 3 (some .int) 3 := ⟨sw_in 595 (by decide +kernel) rfl, sw_in 594 (by decide +kernel) rfl, sw_in 8 (by decide +kernel) rfl, by decide, by decide, by decide +kernel⟩
theorem calX0_negate : sw_calV yX0_negate cX0_negate 2 none 0 := ⟨sw_in 694 (by decide +kernel) rfl, sw_in 692 (by decide +kernel) rfl, sw_in 693 (by decide +kernel) rfl, sw_in 8 (by decide +kernel) rfl, by decide, by decide, by decide +kernel⟩
theorem calX0_oneLess : sw_calV yX0_oneLess cX0_oneLess 5 (some .int) 1 := ⟨sw_in 551 (by decide +kernel) rfl, sw_in 549 (by decide +kernel) rfl, sw_in 550 (by decide +kernel) rfl, sw_in 8 (by decide +kernel) rfl, by decide, by decide, by decide +kernel⟩
theorem calX0_oneMore : sw_calV yX0_oneMore cX0_oneMore 5 (some .int) 1 := ⟨sw_in 544 (by decide +kernel) rfl, sw_in 542 (by decide +kernel) rfl, sw_in 543 (by decide +kernel) rfl, sw_in 8 (by decide +kernel) rfl, by decide, by decide, by decide +kernel⟩
theorem calX0_setCarry : sw_calV yX0_setCarry cX0_setCarry 1 none 0 := ⟨sw_in 584 (by decide +kernel) rfl, sw_in 582 (by decide +kernel) rfl, sw_in 583 (by decide +kernel) rfl, sw_in 8 (by decide +kernel) rfl, by decide, by decide, by decide +kernel⟩
theorem calX0_shiftA : sw_calV yX0_shiftA cX0_shiftA 4 none 1 := ⟨sw_in 592 (by decide +kernel) rfl, sw_in 590 (by decide +kernel) rfl, sw_in 591 (by decide +kernel) rfl, sw_in 8 (by decide +kernel) rfl, by decide, by decide, by decide +kernel⟩
theorem calX0_shifted : sw_calV yX0_shifted cX0_shifted 4 (some .int) 2 := ⟨sw_in 641 (by decide +kernel) rfl, sw_in 639 (by decide +kernel) rfl, sw_in 640 (by decide +kernel) rfl, sw_in 8 (by decide +kernel) rfl, by decide, by decide, by decide +kernel⟩
theorem calX0_signAndZero : sw_calS yX0_signAndZero cX0_signAndZero 1 (some .int) 1 := ⟨sw_in 547 (by decide +kernel) rfl, sw_in 546 (by decide +kernel) rfl, sw_in 8 (by decide +kernel) rfl, by decide, by decide, by decide +kernel⟩
theorem calX0_signAndZeroOfPair : sw_calS yX0_signAndZeroOfPair cX0_signAndZeroOfPair 1 (some .int) 1 := ⟨sw_in 712 (by decide +kernel) rfl, sw_in 711 (by decide +kernel) rfl, sw_in 8 (by decide +kernel) rfl, by decide, by decide, by decide +kernel⟩
theorem calX0_sum : sw_calV yX0_sum cX0_sum 8 (some .int) 3 := ⟨sw_in 610 (by decide +kernel) rfl, sw_in 609 (by decide +kernel) rfl, sw_inp 15 (by decide +kernel) rfl, sw_in 8 (by decide +kernel) rfl, by decide, by decide, by decide +kernel⟩
theorem calX0_takeFromHlWithCarry : sw_calV yX0_takeFromHlWithCarry cX0_takeFromHlWithCarry 6 none 1 := ⟨sw_in 708 (by decide +kernel) rfl, sw_in 706 (by decide +kernel) rfl, sw_in 707 (by decide +kernel) rfl, sw_in 8 (by decide +kernel) rfl, by decide, by decide, by decide +kernel⟩
theorem calX0_testBit : sw_calV yX0_testBit cX0_testBit 4 none 2 := ⟨sw_in 645 (by decide +kernel) rfl, sw_in 643 (by decide +kernel) rfl, sw_in 644 (by decide +kernel) rfl, sw_in 8 (by decide +kernel) rfl, by decide, by decide, by decide +kernel⟩
theorem calX0_turnRoundA : sw_calV yX0_turnRoundA cX0_turnRoundA 1 none 0 := ⟨sw_in 580 (by decide +kernel) rfl, sw_in 578 (by decide +kernel) rfl, sw_in 579 (by decide +kernel) rfl, sw_in 8 (by decide +kernel) rfl, by decide, by decide, by decide +kernel⟩
theorem calX0_turnRoundCarry : sw_calV yX0_turnRoundCarry cX0_turnRoundCarry 3 none 0 := ⟨sw_in 588 (by decide +kernel) rfl, sw_in 586 (by decide +kernel) rfl, sw_in 587 (by decide +kernel) rfl, sw_in 8 (by decide +kernel) rfl, by decide, by decide, by decide +kernel⟩
theorem calX0_withA : sw_calV yX0_withA cX0_withA 5 none 2 := ⟨sw_in 606 (by decide +kernel) rfl, sw_in 604 (by decide +kernel) rfl, sw_in 605 (by decide +kernel) rfl, sw_in 8 (by decide +kernel) rfl, by decide, by decide, by decide +kernel⟩
theorem calX1_asksForInterrupt : sw_calV yX1_asksForInterrupt cX1_asksForInterrupt 1 (some .boolean) 0 := ⟨sw_in 373 (by decide +kernel) rfl, sw_in 371 (by decide +kernel) rfl, sw_in 372 (by decide +kernel) rfl, sw_in 2 (by decide +kernel) rfl, by decide, by decide, by decide +kernel⟩
theorem calX1_pass : sw_calV yX1_pass cX1_pass 2 none 1 := ⟨sw_in 381 (by decide +kernel) rfl, sw_in 379 (by decide +kernel) rfl, sw_in 380 (by decide +kernel) rfl, sw_in 2 (by decide +kernel) rfl, by decide, by decide, by decide +kernel⟩
theorem calX1_waitForPictureIf : sw_calV yX1_waitForPictureIf cX1_waitForPictureIf 4 none 1 := ⟨sw_in 398 (by decide +kernel) rfl, sw_in 396 (by decide +kernel) rfl, sw_in 397 (by decide +kernel) rfl, sw_in 2 (by decide +kernel) rfl, by decide, by decide, by decide +kernel⟩
theorem calX2_at : sw_calV yX2_at cX2_at 2 (some .int) 1 := ⟨sw_in 291 (by decide +kernel) rfl, sw_in 289 (by decide +kernel) rfl, sw_in 290 (by decide +kernel) rfl, sw_in 3 (by decide +kernel) rfl, by decide, by decide, by decide +kernel⟩
theorem calX2_fetch : sw_calV yX2_fetch cX2_fetch 2 (some .int) 1 := ⟨sw_in 425 (by decide +kernel) rfl, sw_in 423 (by decide +kernel) rfl, sw_in 424 (by decide +kernel) rfl, sw_in 3 (by decide +kernel) rfl, by decide, by decide, by decide +kernel⟩
theorem calX2_has : sw_calS yX2_has cX2_has 1 (some .boolean) 1 := ⟨sw_in 211 (by decide +kernel) rfl, sw_in 210 (by decide +kernel) rfl, sw_in 3 (by decide +kernel) rfl, by decide, by decide, by decide +kernel⟩
theorem calX2_isWaitedFor : sw_calS yX2_isWaitedFor cX2_isWaitedFor 2 (some .boolean) 1 := ⟨sw_in 394 (by decide +kernel) rfl, sw_in 393 (by decide +kernel) rfl, sw_in 3 (by decide +kernel) rfl, by decide, by decide, by decide +kernel⟩
theorem calX2_put : sw_calV yX2_put cX2_put 3 none 2 := ⟨sw_in 277 (by decide +kernel) rfl, sw_in 275 (by decide +kernel) rfl, sw_in 276 (by decide +kernel) rfl, sw_in 3 (by decide +kernel) rfl, by decide, by decide, by decide +kernel⟩
theorem calX2_read : sw_calV yX2_read cX2_read 2 (some .int) 1 := ⟨sw_in 446 (by decide +kernel) rfl, sw_in 444 (by decide +kernel) rfl, sw_in 445 (by decide +kernel) rfl, sw_in 3 (by decide +kernel) rfl, by decide, by decide, by decide +kernel⟩
theorem calX2_within : sw_calS yX2_within cX2_within 1 (some .int) 1 := ⟨sw_in 280 (by decide +kernel) rfl, sw_in 279 (by decide +kernel) rfl, sw_in 3 (by decide +kernel) rfl, by decide, by decide, by decide +kernel⟩
theorem calX2_write : sw_calV yX2_write cX2_write 3 none 2 := ⟨sw_in 391 (by decide +kernel) rfl, sw_in 389 (by decide +kernel) rfl, sw_in 390 (by decide +kernel) rfl, sw_in 3 (by decide +kernel) rfl, by decide, by decide, by decide +kernel⟩
theorem calX3_fetchNext : sw_calV yX3_fetchNext cX3_fetchNext 2 (some .int) 0 := ⟨sw_in 421 (by decide +kernel) rfl, sw_in 419 (by decide +kernel) rfl, sw_in 420 (by decide +kernel) rfl, sw_in 9 (by decide +kernel) rfl, by decide, by decide, by decide +kernel⟩
theorem calX3_holds : sw_calV yX3_holds cX3_holds 4 (some .boolean) 1 := ⟨sw_in 474 (by decide +kernel) rfl, sw_in 472 (by decide +kernel) rfl, sw_in 473 (by decide +kernel) rfl, sw_in 9 (by decide +kernel) rfl, by decide, by decide, by decide +kernel⟩
theorem calX3_isAtHl : sw_calS yX3_isAtHl cX3_isAtHl 1 (some .boolean) 1 := ⟨sw_in 539 (by decide +kernel) rfl, sw_in 538 (by decide +kernel) rfl, sw_in 9 (by decide +kernel) rfl, by decide, by decide, by decide +kernel⟩
theorem calX3_next : sw_calV yX3_next cX3_next 2 (some .int) 0 := ⟨sw_in 442 (by decide +kernel) rfl, sw_in 440 (by decide +kernel) rfl, sw_in 441 (by decide +kernel) rfl, sw_in 9 (by decide +kernel) rfl, by decide, by decide, by decide +kernel⟩
theorem calX3_nextPair : sw_calV yX3_nextPair cX3_nextPair 3 (some .int) 0 := ⟨sw_in 491 (by decide +kernel) rfl, sw_in 489 (by decide +kernel) rfl, sw_in 490 (by decide +kernel) rfl, sw_in 9 (by decide +kernel) rfl, by decide, by decide, by decide +kernel⟩
theorem calX3_pairOf : sw_calS yX3_pairOf cX3_pairOf 1 (some .int) 1 := ⟨sw_in 487 (by decide +kernel) rfl, sw_in 486 (by decide +kernel) rfl, sw_in 9 (by decide +kernel) rfl, by decide, by decide, by decide +kernel⟩
theorem calX3_pop : sw_calV yX3_pop cX3_pop 3 (some .int) 0 := ⟨sw_in 633 (by decide +kernel) rfl, sw_in 631 (by decide +kernel) rfl, sw_in 632 (by decide +kernel) rfl, sw_in 9 (by decide +kernel) rfl, by decide, by decide, by decide +kernel⟩
theorem calX3_push : sw_calV yX3_push cX3_push 3 none 1 := ⟨sw_in 386 (by decide +kernel) rfl, sw_in 384 (by decide +kernel) rfl, sw_in 385 (by decide +kernel) rfl, sw_in 9 (by decide +kernel) rfl, by decide, by decide, by decide +kernel⟩
theorem calX3_readPair : sw_calV yX3_readPair cX3_readPair 3 (some .int) 1 := ⟨sw_in 524 (by decide +kernel) rfl, sw_in 522 (by decide +kernel) rfl, sw_in 523 (by decide +kernel) rfl, sw_in 9 (by decide +kernel) rfl, by decide, by decide, by decide +kernel⟩
theorem calX3_stackPairOf : sw_calS yX3_stackPairOf cX3_stackPairOf 1 (some .int) 1 := ⟨sw_in 736 (by decide +kernel) rfl, sw_in 735 (by decide +kernel) rfl, sw_in 9 (by decide +kernel) rfl, by decide, by decide, by decide +kernel⟩
theorem calX3_store : sw_calV yX3_store cX3_store 3 none 2 := ⟨sw_in 556 (by decide +kernel) rfl, sw_in 554 (by decide +kernel) rfl, sw_in 555 (by decide +kernel) rfl, sw_in 9 (by decide +kernel) rfl, by decide, by decide, by decide +kernel⟩
theorem calX3_value : sw_calV yX3_value cX3_value 2 (some .int) 1 := ⟨sw_in 536 (by decide +kernel) rfl, sw_in 534 (by decide +kernel) rfl, sw_in 535 (by decide +kernel) rfl, sw_in 9 (by decide +kernel) rfl, by decide, by decide, by decide +kernel⟩
theorem calX3_writePair : sw_calV yX3_writePair cX3_writePair 3 none 2 := ⟨sw_in 520 (by decide +kernel) rfl, sw_in 518 (by decide +kernel) rfl, sw_in 519 (by decide +kernel) rfl, sw_in 9 (by decide +kernel) rfl, by decide, by decide, by decide +kernel⟩
theorem calX4_input : sw_calV yX4_input cX4_input 4 (some .int) 2 := ⟨sw_in 674 (by decide +kernel) rfl, sw_in 672 (by decide +kernel) rfl, sw_in 673 (by decide +kernel) rfl, sw_in 4 (by decide +kernel) rfl, by decide, by decide, by decide +kernel⟩
theorem calX4_isWaitedFor : sw_calS yX4_isWaitedFor cX4_isWaitedFor 1 (some .boolean) 1 := ⟨sw_in 656 (by decide +kernel) rfl, sw_in 655 (by decide +kernel) rfl, sw_in 4 (by decide +kernel) rfl, by decide, by decide, by decide +kernel⟩
theorem calX4_keysOf : sw_calV yX4_keysOf cX4_keysOf 4 (some .int) 1 := ⟨sw_in 682 (by decide +kernel) rfl, sw_in 681 (by decide +kernel) rfl, sw_inp 25 (by decide +kernel) rfl, sw_in 4 (by decide +kernel) rfl, by decide, by decide, by decide +kernel⟩
theorem calX4_moveSpeaker : sw_calV yX4_moveSpeaker cX4_moveSpeaker 2 none 1 := ⟨sw_in 661 (by decide +kernel) rfl, sw_in 660 (by decide +kernel) rfl, sw_inp 22 (by decide +kernel) rfl, sw_in 4 (by decide +kernel) rfl, by decide, by decide, by decide +kernel⟩
theorem calX4_output : sw_calV yX4_output cX4_output 3 none 2 := ⟨sw_in 653 (by decide +kernel) rfl, sw_in 651 (by decide +kernel) rfl, sw_in 652 (by decide +kernel) rfl, sw_in 4 (by decide +kernel) rfl, by decide, by decide, by decide +kernel⟩
theorem calX4_timeOfChange : sw_calV yX4_timeOfChange cX4_timeOfChange 3 (some .int) 1 := ⟨sw_in 200 (by decide +kernel) rfl, sw_in 198 (by decide +kernel) rfl, sw_in 199 (by decide +kernel) rfl, sw_in 4 (by decide +kernel) rfl, by decide, by decide, by decide +kernel⟩
theorem calX5_calculateWithHl : sw_calV yX5_calculateWithHl cX5_calculateWithHl 3 none 1 := ⟨sw_in 704 (by decide +kernel) rfl, sw_in 703 (by decide +kernel) rfl, sw_inp 29 (by decide +kernel) rfl, sw_in 7 (by decide +kernel) rfl, by decide, by decide, by decide +kernel⟩
theorem calX5_callTo : sw_calV yX5_callTo cX5_callTo 3 none 2 := ⟨sw_in 649 (by decide +kernel) rfl, sw_in 648 (by decide +kernel) rfl, sw_inp 21 (by decide +kernel) rfl, sw_in 7 (by decide +kernel) rfl, by decide, by decide, by decide +kernel⟩
theorem calX5_changeA : sw_calV yX5_changeA cX5_changeA 2 none 1 := ⟨sw_in 561 (by decide +kernel) rfl, sw_in 560 (by decide +kernel) rfl, sw_inp 13 (by decide +kernel) rfl, sw_in 7 (by decide +kernel) rfl, by decide, by decide, by decide +kernel⟩
theorem calX5_copyByte : sw_calV yX5_copyByte cX5_copyByte 5 none 1 := ⟨sw_in 698 (by decide +kernel) rfl, sw_in 697 (by decide +kernel) rfl, sw_inp 28 (by decide +kernel) rfl, sw_in 7 (by decide +kernel) rfl, by decide, by decide, by decide +kernel⟩
theorem calX5_countDown : sw_calV yX5_countDown cX5_countDown 2 (some .boolean) 0 := ⟨sw_in 450 (by decide +kernel) rfl, sw_in 449 (by decide +kernel) rfl, sw_inp 5 (by decide +kernel) rfl, sw_in 7 (by decide +kernel) rfl, by decide, by decide, by decide +kernel⟩
theorem calX5_exchangeHlWithStack : sw_calV yX5_exchangeHlWithStack cX5_exchangeHlWithStack 3 none 0 := ⟨sw_in 686 (by decide +kernel) rfl, sw_in 685 (by decide +kernel) rfl, sw_inp 26 (by decide +kernel) rfl, sw_in 7 (by decide +kernel) rfl, by decide, by decide, by decide +kernel⟩
theorem calX5_exchangeWithOthers : sw_calV yX5_exchangeWithOthers cX5_exchangeWithOthers 1 none 0 := ⟨sw_in 666 (by decide +kernel) rfl, sw_in 665 (by decide +kernel) rfl, sw_inp 23 (by decide +kernel) rfl, sw_in 7 (by decide +kernel) rfl, by decide, by decide, by decide +kernel⟩
theorem calX5_executeAlone : sw_calV yX5_executeAlone cX5_executeAlone 2 none 1 := ⟨sw_in 625 (by decide +kernel) rfl, sw_in 624 (by decide +kernel) rfl, sw_inp 18 (by decide +kernel) rfl, sw_in 7 (by decide +kernel) rfl, by decide, by decide, by decide +kernel⟩
theorem calX5_executeBits : sw_calV yX5_executeBits cX5_executeBits 5 none 1 := ⟨sw_in 637 (by decide +kernel) rfl, sw_in 636 (by decide +kernel) rfl, sw_inp 20 (by decide +kernel) rfl, sw_in 7 (by decide +kernel) rfl, by decide, by decide, by decide +kernel⟩
theorem calX5_executeFirstQuarter : sw_calV yX5_executeFirstQuarter cX5_executeFirstQuarter 3 none 2 := ⟨sw_in 430 (by decide +kernel) rfl, sw_in 429 (by decide +kernel) rfl, sw_inp 3 (by decide +kernel) rfl, sw_in 7 (by decide +kernel) rfl, by decide, by decide, by decide +kernel⟩
theorem calX5_executeLastQuarter : sw_calV yX5_executeLastQuarter cX5_executeLastQuarter 3 none 2 := ⟨sw_in 729 (by decide +kernel) rfl, sw_in 728 (by decide +kernel) rfl, sw_inp 32 (by decide +kernel) rfl, sw_in 7 (by decide +kernel) rfl, by decide, by decide, by decide +kernel⟩
theorem calX5_executeMore : sw_calV yX5_executeMore cX5_executeMore 2 none 1 := ⟨sw_in 690 (by decide +kernel) rfl, sw_in 689 (by decide +kernel) rfl, sw_inp 27 (by decide +kernel) rfl, sw_in 7 (by decide +kernel) rfl, by decide, by decide, by decide +kernel⟩
theorem calX5_inputToA : sw_calV yX5_inputToA cX5_inputToA 3 none 0 := ⟨sw_in 670 (by decide +kernel) rfl, sw_in 669 (by decide +kernel) rfl, sw_inp 24 (by decide +kernel) rfl, sw_in 7 (by decide +kernel) rfl, by decide, by decide, by decide +kernel⟩
theorem calX5_interrupt : sw_calV yX5_interrupt cX5_interrupt 1 none 0 := ⟨sw_in 377 (by decide +kernel) rfl, sw_in 376 (by decide +kernel) rfl, sw_inp 1 (by decide +kernel) rfl, sw_in 7 (by decide +kernel) rfl, by decide, by decide, by decide +kernel⟩
theorem calX5_isOfMore : sw_calS yX5_isOfMore cX5_isOfMore 2 (some .boolean) 1 := ⟨sw_in 417 (by decide +kernel) rfl, sw_in 416 (by decide +kernel) rfl, sw_in 7 (by decide +kernel) rfl, by decide, by decide, by decide +kernel⟩
theorem calX5_isTrapNext : sw_calV yX5_isTrapNext cX5_isTrapNext 3 (some .boolean) 0 := ⟨sw_in 413 (by decide +kernel) rfl, sw_in 412 (by decide +kernel) rfl, sw_inp 2 (by decide +kernel) rfl, sw_in 7 (by decide +kernel) rfl, by decide, by decide, by decide +kernel⟩
theorem calX5_jumpBy : sw_calV yX5_jumpBy cX5_jumpBy 3 none 2 := ⟨sw_in 469 (by decide +kernel) rfl, sw_in 468 (by decide +kernel) rfl, sw_inp 6 (by decide +kernel) rfl, sw_in 7 (by decide +kernel) rfl, by decide, by decide, by decide +kernel⟩
theorem calX5_jumpNear : sw_calV yX5_jumpNear cX5_jumpNear 2 none 1 := ⟨sw_in 434 (by decide +kernel) rfl, sw_in 433 (by decide +kernel) rfl, sw_inp 4 (by decide +kernel) rfl, sw_in 7 (by decide +kernel) rfl, by decide, by decide, by decide +kernel⟩
theorem calX5_jumpTo : sw_calV yX5_jumpTo cX5_jumpTo 3 none 2 := ⟨sw_in 629 (by decide +kernel) rfl, sw_in 628 (by decide +kernel) rfl, sw_inp 19 (by decide +kernel) rfl, sw_in 7 (by decide +kernel) rfl, by decide, by decide, by decide +kernel⟩
theorem calX5_loadA : sw_calV yX5_loadA cX5_loadA 2 none 1 := ⟨sw_in 515 (by decide +kernel) rfl, sw_in 514 (by decide +kernel) rfl, sw_inp 10 (by decide +kernel) rfl, sw_in 7 (by decide +kernel) rfl, by decide, by decide, by decide +kernel⟩
theorem calX5_loadByAddress : sw_calV yX5_loadByAddress cX5_loadByAddress 2 none 1 := ⟨sw_in 506 (by decide +kernel) rfl, sw_in 505 (by decide +kernel) rfl, sw_inp 8 (by decide +kernel) rfl, sw_in 7 (by decide +kernel) rfl, by decide, by decide, by decide +kernel⟩
theorem calX5_loadOrHalt : sw_calV yX5_loadOrHalt cX5_loadOrHalt 3 none 2 := ⟨sw_in 602 (by decide +kernel) rfl, sw_in 601 (by decide +kernel) rfl, sw_inp 14 (by decide +kernel) rfl, sw_in 7 (by decide +kernel) rfl, by decide, by decide, by decide +kernel⟩
theorem calX5_loadPairOrAdd : sw_calV yX5_loadPairOrAdd cX5_loadPairOrAdd 3 none 1 := ⟨sw_in 484 (by decide +kernel) rfl, sw_in 483 (by decide +kernel) rfl, sw_inp 7 (by decide +kernel) rfl, sw_in 7 (by decide +kernel) rfl, by decide, by decide, by decide +kernel⟩
theorem calX5_loadStackFromHl : sw_calV yX5_loadStackFromHl cX5_loadStackFromHl 1 none 0 := ⟨sw_in 721 (by decide +kernel) rfl, sw_in 720 (by decide +kernel) rfl, sw_inp 30 (by decide +kernel) rfl, sw_in 7 (by decide +kernel) rfl, by decide, by decide, by decide +kernel⟩
theorem calX5_pushPair : sw_calV yX5_pushPair cX5_pushPair 2 none 1 := ⟨sw_in 740 (by decide +kernel) rfl, sw_in 739 (by decide +kernel) rfl, sw_inp 34 (by decide +kernel) rfl, sw_in 7 (by decide +kernel) rfl, by decide, by decide, by decide +kernel⟩
theorem calX5_returnIf : sw_calV yX5_returnIf cX5_returnIf 2 none 1 := ⟨sw_in 733 (by decide +kernel) rfl, sw_in 732 (by decide +kernel) rfl, sw_inp 33 (by decide +kernel) rfl, sw_in 7 (by decide +kernel) rfl, by decide, by decide, by decide +kernel⟩
theorem calX5_standsAlone : sw_calS yX5_standsAlone cX5_standsAlone 2 (some .boolean) 2 := ⟨sw_in 621 (by decide +kernel) rfl, sw_in 620 (by decide +kernel) rfl, sw_in 7 (by decide +kernel) rfl, by decide, by decide, by decide +kernel⟩
theorem calX5_step : sw_calV yX5_step cX5_step 4 (some .boolean) 0 := ⟨sw_in 369 (by decide +kernel) rfl, sw_in 367 (by decide +kernel) rfl, sw_in 368 (by decide +kernel) rfl, sw_in 7 (by decide +kernel) rfl, by decide, by decide, by decide +kernel⟩
theorem calX5_stepOperand : sw_calV yX5_stepOperand cX5_stepOperand 5 none 2 := ⟨sw_in 532 (by decide +kernel) rfl, sw_in 531 (by decide +kernel) rfl, sw_inp 12 (by decide +kernel) rfl, sw_in 7 (by decide +kernel) rfl, by decide, by decide, by decide +kernel⟩
theorem calX5_stepPair : sw_calV yX5_stepPair cX5_stepPair 2 none 1 := ⟨sw_in 528 (by decide +kernel) rfl, sw_in 527 (by decide +kernel) rfl, sw_inp 11 (by decide +kernel) rfl, sw_in 7 (by decide +kernel) rfl, by decide, by decide, by decide +kernel⟩
theorem calX5_storeA : sw_calV yX5_storeA cX5_storeA 2 none 1 := ⟨sw_in 510 (by decide +kernel) rfl, sw_in 509 (by decide +kernel) rfl, sw_inp 9 (by decide +kernel) rfl, sw_in 7 (by decide +kernel) rfl, by decide, by decide, by decide +kernel⟩
theorem calX5_turnInterruptsOn : sw_calV yX5_turnInterruptsOn cX5_turnInterruptsOn 1 none 0 := ⟨sw_in 725 (by decide +kernel) rfl, sw_in 724 (by decide +kernel) rfl, sw_inp 31 (by decide +kernel) rfl, sw_in 7 (by decide +kernel) rfl, by decide, by decide, by decide +kernel⟩
theorem calX6_exchange : sw_calV yX6_exchange cX6_exchange 4 none 2 := ⟨sw_in 438 (by decide +kernel) rfl, sw_in 436 (by decide +kernel) rfl, sw_in 437 (by decide +kernel) rfl, sw_in 6 (by decide +kernel) rfl, by decide, by decide, by decide +kernel⟩
theorem calX6_flags : sw_calV yX6_flags cX6_flags 1 (some .int) 0 := ⟨sw_in 480 (by decide +kernel) rfl, sw_in 478 (by decide +kernel) rfl, sw_in 479 (by decide +kernel) rfl, sw_in 6 (by decide +kernel) rfl, by decide, by decide, by decide +kernel⟩
theorem calX6_has : sw_calS yX6_has cX6_has 1 (some .boolean) 1 := ⟨sw_in 301 (by decide +kernel) rfl, sw_in 300 (by decide +kernel) rfl, sw_in 6 (by decide +kernel) rfl, by decide, by decide, by decide +kernel⟩
theorem calX6_isHigher : sw_calS yX6_isHigher cX6_isHigher 1 (some .boolean) 1 := ⟨sw_in 460 (by decide +kernel) rfl, sw_in 459 (by decide +kernel) rfl, sw_in 6 (by decide +kernel) rfl, by decide, by decide, by decide +kernel⟩
theorem calX6_load : sw_calV yX6_load cX6_load 4 none 2 := ⟨sw_in 306 (by decide +kernel) rfl, sw_in 304 (by decide +kernel) rfl, sw_in 305 (by decide +kernel) rfl, sw_in 6 (by decide +kernel) rfl, by decide, by decide, by decide +kernel⟩
theorem calX6_loadFlags : sw_calV yX6_loadFlags cX6_loadFlags 2 none 1 := ⟨sw_in 502 (by decide +kernel) rfl, sw_in 500 (by decide +kernel) rfl, sw_in 501 (by decide +kernel) rfl, sw_in 6 (by decide +kernel) rfl, by decide, by decide, by decide +kernel⟩
theorem calX6_loadSingle : sw_calV yX6_loadSingle cX6_loadSingle 5 none 2 := ⟨sw_in 464 (by decide +kernel) rfl, sw_in 462 (by decide +kernel) rfl, sw_in 463 (by decide +kernel) rfl, sw_in 6 (by decide +kernel) rfl, by decide, by decide, by decide +kernel⟩
theorem calX6_move : sw_calV yX6_move cX6_move 3 none 2 := ⟨sw_in 407 (by decide +kernel) rfl, sw_in 405 (by decide +kernel) rfl, sw_in 406 (by decide +kernel) rfl, sw_in 6 (by decide +kernel) rfl, by decide, by decide, by decide +kernel⟩
theorem calX6_pair : sw_calV yX6_pair cX6_pair 2 (some .int) 1 := ⟨sw_in 319 (by decide +kernel) rfl, sw_in 317 (by decide +kernel) rfl, sw_in 318 (by decide +kernel) rfl, sw_in 6 (by decide +kernel) rfl, by decide, by decide, by decide +kernel⟩
theorem calX6_pairWith : sw_calS yX6_pairWith cX6_pairWith 1 (some .int) 1 := ⟨sw_in 457 (by decide +kernel) rfl, sw_in 456 (by decide +kernel) rfl, sw_in 6 (by decide +kernel) rfl, by decide, by decide, by decide +kernel⟩
theorem calX6_single : sw_calV yX6_single cX6_single 3 (some .int) 1 := ⟨sw_in 454 (by decide +kernel) rfl, sw_in 452 (by decide +kernel) rfl, sw_in 453 (by decide +kernel) rfl, sw_in 6 (by decide +kernel) rfl, by decide, by decide, by decide +kernel⟩
theorem calX7_append : sw_calV yX7_append cX7_append 2 (some .int) 1 := ⟨sw_in 358 (by decide +kernel) rfl, sw_in 356 (by decide +kernel) rfl, sw_in 357 (by decide +kernel) rfl, sw_in 5 (by decide +kernel) rfl, by decide, by decide, by decide +kernel⟩
theorem calX7_ear : sw_calV yX7_ear cX7_ear 3 (some .int) 1 := ⟨sw_in 678 (by decide +kernel) rfl, sw_in 676 (by decide +kernel) rfl, sw_in 677 (by decide +kernel) rfl, sw_in 5 (by decide +kernel) rfl, by decide, by decide, by decide +kernel⟩
theorem calX7_isFull : sw_calV yX7_isFull cX7_isFull 1 (some .boolean) 0 := ⟨sw_in 339 (by decide +kernel) rfl, sw_in 337 (by decide +kernel) rfl, sw_in 338 (by decide +kernel) rfl, sw_in 5 (by decide +kernel) rfl, by decide, by decide, by decide +kernel⟩
theorem calX9_accumulator : sw_calV yX9_accumulator cX9_accumulator 3 none 1 := ⟨sw_in 937 (by decide +kernel) rfl, sw_in 936 (by decide +kernel) rfl, sw_inp 61 (by decide +kernel) rfl, sw_in 10 (by decide +kernel) rfl, by decide, by decide, by decide +kernel⟩
theorem calX9_addPair : sw_calV yX9_addPair cX9_addPair 5 none 1 := ⟨sw_in 894 (by decide +kernel) rfl, sw_in 893 (by decide +kernel) rfl, sw_inp 51 (by decide +kernel) rfl, sw_in 10 (by decide +kernel) rfl, by decide, by decide, by decide +kernel⟩
theorem calX9_addPairWithCarry : sw_calV yX9_addPairWithCarry cX9_addPairWithCarry 10 none 2 := ⟨sw_in 1008 (by decide +kernel) rfl, sw_in 1007 (by decide +kernel) rfl, sw_inp 78 (by decide +kernel) rfl, sw_in 10 (by decide +kernel) rfl, by decide, by decide, by decide +kernel⟩
theorem calX9_ahead : sw_calV yX9_ahead cX9_ahead 2 none 1 := ⟨sw_in 1000 (by decide +kernel) rfl, sw_in 999 (by decide +kernel) rfl, sw_inp 76 (by decide +kernel) rfl, sw_in 10 (by decide +kernel) rfl, by decide, by decide, by decide +kernel⟩
theorem calX9_back : sw_calV yX9_back cX9_back 3 none 1 := ⟨sw_in 972 (by decide +kernel) rfl, sw_in 971 (by decide +kernel) rfl, sw_inp 69 (by decide +kernel) rfl, sw_in 10 (by decide +kernel) rfl, by decide, by decide, by decide +kernel⟩
theorem calX9_bits : sw_calV yX9_bits cX9_bits 6 none 1 := ⟨sw_in 980 (by decide +kernel) rfl, sw_in 979 (by decide +kernel) rfl, sw_inp 71 (by decide +kernel) rfl, sw_in 10 (by decide +kernel) rfl, by decide, by decide, by decide +kernel⟩
theorem calX9_callIf : sw_calV yX9_callIf cX9_callIf 3 none 1 := ⟨sw_in 996 (by decide +kernel) rfl, sw_in 995 (by decide +kernel) rfl, sw_inp 75 (by decide +kernel) rfl, sw_in 10 (by decide +kernel) rfl, by decide, by decide, by decide +kernel⟩
theorem calX9_carry : sw_calV yX9_carry cX9_carry 1 (some .int) 0 := ⟨sw_in 914 (by decide +kernel) rfl, sw_in 913 (by decide +kernel) rfl, sw_inp 56 (by decide +kernel) rfl, sw_in 10 (by decide +kernel) rfl, by decide, by decide, by decide +kernel⟩
theorem calX9_correct : sw_calV yX9_correct cX9_correct 6 none 0 := ⟨sw_in 949 (by decide +kernel) rfl, sw_in 948 (by decide +kernel) rfl, sw_inp 64 (by decide +kernel) rfl, sw_in 10 (by decide +kernel) rfl, by decide, by decide, by decide +kernel⟩
theorem calX9_delay : sw_calV yX9_delay cX9_delay 3 none 0 := ⟨sw_in 850 (by decide +kernel) rfl, sw_in 849 (by decide +kernel) rfl, sw_inp 40 (by decide +kernel) rfl, sw_in 10 (by decide +kernel) rfl, by decide, by decide, by decide +kernel⟩
theorem calX9_even : sw_calS yX9_even cX9_even 3 (some .int) 1 := ⟨sw_in 952 (by decide +kernel) rfl, sw_in 951 (by decide +kernel) rfl, sw_in 10 (by decide +kernel) rfl, by decide, by decide, by decide +kernel⟩
theorem calX9_exchange : sw_calV yX9_exchange cX9_exchange 5 none 2 := ⟨sw_in 870 (by decide +kernel) rfl, sw_in 869 (by decide +kernel) rfl, sw_inp 45 (by decide +kernel) rfl, sw_in 10 (by decide +kernel) rfl, by decide, by decide, by decide +kernel⟩
theorem calX9_extended : sw_calV yX9_extended cX9_extended 3 none 1 := ⟨sw_in 1004 (by decide +kernel) rfl, sw_in 1003 (by decide +kernel) rfl, sw_inp 77 (by decide +kernel) rfl, sw_in 10 (by decide +kernel) rfl, by decide, by decide, by decide +kernel⟩
theorem calX9_fetch : sw_calV yX9_fetch cX9_fetch 2 (some .int) 0 := ⟨sw_in 858 (by decide +kernel) rfl, sw_in 857 (by decide +kernel) rfl, sw_inp 42 (by decide +kernel) rfl, sw_in 10 (by decide +kernel) rfl, by decide, by decide, by decide +kernel⟩
theorem calX9_hl : sw_calV yX9_hl cX9_hl 1 (some .int) 0 := ⟨sw_in 898 (by decide +kernel) rfl, sw_in 897 (by decide +kernel) rfl, sw_inp 52 (by decide +kernel) rfl, sw_in 10 (by decide +kernel) rfl, by decide, by decide, by decide +kernel⟩
theorem calX9_holds : sw_calV yX9_holds cX9_holds 4 (some .boolean) 1 := ⟨sw_in 874 (by decide +kernel) rfl, sw_in 873 (by decide +kernel) rfl, sw_inp 46 (by decide +kernel) rfl, sw_in 10 (by decide +kernel) rfl, by decide, by decide, by decide +kernel⟩
theorem calX9_instruction : sw_calV yX9_instruction cX9_instruction 5 none 0 := ⟨sw_in 854 (by decide +kernel) rfl, sw_in 853 (by decide +kernel) rfl, sw_inp 41 (by decide +kernel) rfl, sw_in 10 (by decide +kernel) rfl, by decide, by decide, by decide +kernel⟩
theorem calX9_interrupt : sw_calV yX9_interrupt cX9_interrupt 1 none 0 := ⟨sw_in 833 (by decide +kernel) rfl, sw_in 832 (by decide +kernel) rfl, sw_inp 36 (by decide +kernel) rfl, sw_in 10 (by decide +kernel) rfl, by decide, by decide, by decide +kernel⟩
theorem calX9_isIn : sw_calS yX9_isIn cX9_isIn 3 (some .boolean) 3 := ⟨sw_in 825 (by decide +kernel) rfl, sw_in 824 (by decide +kernel) rfl, sw_in 10 (by decide +kernel) rfl, by decide, by decide, by decide +kernel⟩
theorem calX9_jumpRelative : sw_calV yX9_jumpRelative cX9_jumpRelative 4 none 1 := ⟨sw_in 866 (by decide +kernel) rfl, sw_in 865 (by decide +kernel) rfl, sw_inp 44 (by decide +kernel) rfl, sw_in 10 (by decide +kernel) rfl, by decide, by decide, by decide +kernel⟩
theorem calX9_loads : sw_calV yX9_loads cX9_loads 3 none 1 := ⟨sw_in 906 (by decide +kernel) rfl, sw_in 905 (by decide +kernel) rfl, sw_inp 54 (by decide +kernel) rfl, sw_in 10 (by decide +kernel) rfl, by decide, by decide, by decide +kernel⟩
theorem calX9_minus : sw_calV yX9_minus cX9_minus 7 (some .int) 3 := ⟨sw_in 922 (by decide +kernel) rfl, sw_in 921 (by decide +kernel) rfl, sw_inp 58 (by decide +kernel) rfl, sw_in 10 (by decide +kernel) rfl, by decide, by decide, by decide +kernel⟩
theorem calX9_move : sw_calV yX9_move cX9_move 4 none 1 := ⟨sw_in 1012 (by decide +kernel) rfl, sw_in 1011 (by decide +kernel) rfl, sw_inp 79 (by decide +kernel) rfl, sw_in 10 (by decide +kernel) rfl, by decide, by decide, by decide +kernel⟩
theorem calX9_next : sw_calV yX9_next cX9_next 2 (some .int) 0 := ⟨sw_in 878 (by decide +kernel) rfl, sw_in 877 (by decide +kernel) rfl, sw_inp 47 (by decide +kernel) rfl, sw_in 10 (by decide +kernel) rfl, by decide, by decide, by decide +kernel⟩
theorem calX9_nextPair : sw_calV yX9_nextPair cX9_nextPair 2 (some .int) 0 := ⟨sw_in 886 (by decide +kernel) rfl, sw_in 885 (by decide +kernel) rfl, sw_inp 49 (by decide +kernel) rfl, sw_in 10 (by decide +kernel) rfl, by decide, by decide, by decide +kernel⟩
theorem calX9_one : sw_calV yX9_one cX9_one 4 none 1 := ⟨sw_in 862 (by decide +kernel) rfl, sw_in 861 (by decide +kernel) rfl, sw_inp 43 (by decide +kernel) rfl, sw_in 10 (by decide +kernel) rfl, by decide, by decide, by decide +kernel⟩
theorem calX9_open : sw_calV yX9_open cX9_open 2 none 1 := ⟨sw_in 846 (by decide +kernel) rfl, sw_in 845 (by decide +kernel) rfl, sw_inp 39 (by decide +kernel) rfl, sw_in 10 (by decide +kernel) rfl, by decide, by decide, by decide +kernel⟩
theorem calX9_openPort : sw_calV yX9_openPort cX9_openPort 2 none 1 := ⟨sw_in 988 (by decide +kernel) rfl, sw_in 987 (by decide +kernel) rfl, sw_inp 73 (by decide +kernel) rfl, sw_in 10 (by decide +kernel) rfl, by decide, by decide, by decide +kernel⟩
theorem calX9_operand : sw_calV yX9_operand cX9_operand 2 (some .int) 1 := ⟨sw_in 918 (by decide +kernel) rfl, sw_in 917 (by decide +kernel) rfl, sw_inp 57 (by decide +kernel) rfl, sw_in 10 (by decide +kernel) rfl, by decide, by decide, by decide +kernel⟩
theorem calX9_pair : sw_calV yX9_pair cX9_pair 2 (some .int) 1 := ⟨sw_in 902 (by decide +kernel) rfl, sw_in 901 (by decide +kernel) rfl, sw_inp 53 (by decide +kernel) rfl, sw_in 10 (by decide +kernel) rfl, by decide, by decide, by decide +kernel⟩
theorem calX9_plus : sw_calV yX9_plus cX9_plus 7 (some .int) 3 := ⟨sw_in 929 (by decide +kernel) rfl, sw_in 928 (by decide +kernel) rfl, sw_inp 59 (by decide +kernel) rfl, sw_in 10 (by decide +kernel) rfl, by decide, by decide, by decide +kernel⟩
theorem calX9_pop : sw_calV yX9_pop cX9_pop 2 (some .int) 0 := ⟨sw_in 964 (by decide +kernel) rfl, sw_in 963 (by decide +kernel) rfl, sw_inp 67 (by decide +kernel) rfl, sw_in 10 (by decide +kernel) rfl, by decide, by decide, by decide +kernel⟩
theorem calX9_push : sw_calV yX9_push cX9_push 2 none 1 := ⟨sw_in 837 (by decide +kernel) rfl, sw_in 836 (by decide +kernel) rfl, sw_inp 37 (by decide +kernel) rfl, sw_in 10 (by decide +kernel) rfl, by decide, by decide, by decide +kernel⟩
theorem calX9_read : sw_calV yX9_read cX9_read 2 (some .int) 1 := ⟨sw_in 882 (by decide +kernel) rfl, sw_in 881 (by decide +kernel) rfl, sw_inp 48 (by decide +kernel) rfl, sw_in 10 (by decide +kernel) rfl, by decide, by decide, by decide +kernel⟩
theorem calX9_readPair : sw_calV yX9_readPair cX9_readPair 3 (some .int) 1 := ⟨sw_in 968 (by decide +kernel) rfl, sw_in 967 (by decide +kernel) rfl, sw_inp 68 (by decide +kernel) rfl, sw_in 10 (by decide +kernel) rfl, by decide, by decide, by decide +kernel⟩
theorem calX9_receive : sw_calV yX9_receive cX9_receive 5 none 1 := ⟨sw_in 992 (by decide +kernel) rfl, sw_in 991 (by decide +kernel) rfl, sw_inp 74 (by decide +kernel) rfl, sw_in 10 (by decide +kernel) rfl, by decide, by decide, by decide +kernel⟩
theorem calX9_reckon : sw_calV yX9_reckon cX9_reckon 6 none 2 := ⟨sw_in 956 (by decide +kernel) rfl, sw_in 955 (by decide +kernel) rfl, sw_inp 65 (by decide +kernel) rfl, sw_in 10 (by decide +kernel) rfl, by decide, by decide, by decide +kernel⟩
theorem calX9_refused : sw_calV yX9_refused cX9_refused 2 (some .boolean) 1 := ⟨sw_in 829 (by decide +kernel) rfl, sw_in 828 (by decide +kernel) rfl, sw_inp 35 (by decide +kernel) rfl, sw_in 10 (by decide +kernel) rfl, by decide, by decide, by decide +kernel⟩
theorem calX9_send : sw_calV yX9_send cX9_send 3 none 1 := ⟨sw_in 984 (by decide +kernel) rfl, sw_in 983 (by decide +kernel) rfl, sw_inp 72 (by decide +kernel) rfl, sw_in 10 (by decide +kernel) rfl, by decide, by decide, by decide +kernel⟩
theorem calX9_setOperand : sw_calV yX9_setOperand cX9_setOperand 3 none 2 := ⟨sw_in 933 (by decide +kernel) rfl, sw_in 932 (by decide +kernel) rfl, sw_inp 60 (by decide +kernel) rfl, sw_in 10 (by decide +kernel) rfl, by decide, by decide, by decide +kernel⟩
theorem calX9_setPair : sw_calV yX9_setPair cX9_setPair 3 none 2 := ⟨sw_in 890 (by decide +kernel) rfl, sw_in 889 (by decide +kernel) rfl, sw_inp 50 (by decide +kernel) rfl, sw_in 10 (by decide +kernel) rfl, by decide, by decide, by decide +kernel⟩
theorem calX9_signs : sw_calS yX9_signs cX9_signs 1 (some .int) 1 := ⟨sw_in 925 (by decide +kernel) rfl, sw_in 924 (by decide +kernel) rfl, sw_in 10 (by decide +kernel) rfl, by decide, by decide, by decide +kernel⟩
theorem calX9_step : sw_calV yX9_step cX9_step 6 none 2 := ⟨sw_in 910 (by decide +kernel) rfl, sw_in 909 (by decide +kernel) rfl, sw_inp 55 (by decide +kernel) rfl, sw_in 10 (by decide +kernel) rfl, by decide, by decide, by decide +kernel⟩
theorem calX9_three : sw_calV yX9_three cX9_three 4 none 1 := ⟨sw_in 960 (by decide +kernel) rfl, sw_in 959 (by decide +kernel) rfl, sw_inp 66 (by decide +kernel) rfl, sw_in 10 (by decide +kernel) rfl, by decide, by decide, by decide +kernel⟩
theorem calX9_turnA : sw_calV yX9_turnA cX9_turnA 3 none 1 := ⟨sw_in 941 (by decide +kernel) rfl, sw_in 940 (by decide +kernel) rfl, sw_inp 62 (by decide +kernel) rfl, sw_in 10 (by decide +kernel) rfl, by decide, by decide, by decide +kernel⟩
theorem calX9_turned : sw_calV yX9_turned cX9_turned 3 (some .int) 2 := ⟨sw_in 945 (by decide +kernel) rfl, sw_in 944 (by decide +kernel) rfl, sw_inp 63 (by decide +kernel) rfl, sw_in 10 (by decide +kernel) rfl, by decide, by decide, by decide +kernel⟩
theorem calX9_various : sw_calV yX9_various cX9_various 4 none 1 := ⟨sw_in 976 (by decide +kernel) rfl, sw_in 975 (by decide +kernel) rfl, sw_inp 70 (by decide +kernel) rfl, sw_in 10 (by decide +kernel) rfl, by decide, by decide, by decide +kernel⟩
theorem calX9_write : sw_calV yX9_write cX9_write 3 none 2 := ⟨sw_in 842 (by decide +kernel) rfl, sw_in 841 (by decide +kernel) rfl, sw_inp 38 (by decide +kernel) rfl, sw_in 10 (by decide +kernel) rfl, by decide, by decide, by decide +kernel⟩
theorem calJ6_bitCount_0f7a4 : sw_calS yJ6_bitCount_0f7a4 cJ6_bitCount_0f7a4 1 (some .int) 1 := ⟨sw_in 573 (by decide +kernel) rfl, sw_in 572 (by decide +kernel) rfl, sw_in 16 (by decide +kernel) rfl, by decide, by decide, by decide +kernel⟩
end
section
theorem dX6_pairWith_0 : decode cX6_pairWith 0 = .ok (.iload_n 0, 1) := by decide +kernel
theorem dX6_pairWith_1 : decode cX6_pairWith 1 = .ok (.bipush 7, 2) := by decide +kernel
theorem dX6_pairWith_3 : decode cX6_pairWith 3 = .ok (.if_icmp .ne 7, 3) := by decide +kernel
theorem dX6_pairWith_6 : decode cX6_pairWith 6 = .ok (.iconst 0, 1) := by decide +kernel
theorem dX6_pairWith_7 : decode cX6_pairWith 7 = .ok (.goto 8, 3) := by decide +kernel
theorem dX6_pairWith_10 : decode cX6_pairWith 10 = .ok (.iconst 1, 1) := by decide +kernel
theorem dX6_pairWith_11 : decode cX6_pairWith 11 = .ok (.iload_n 0, 1) := by decide +kernel
theorem dX6_pairWith_12 : decode cX6_pairWith 12 = .ok (.iconst 1, 1) := by decide +kernel
theorem dX6_pairWith_13 : decode cX6_pairWith 13 = .ok (.ishr, 1) := by decide +kernel
theorem dX6_pairWith_14 : decode cX6_pairWith 14 = .ok (.iadd, 1) := by decide +kernel
theorem dX6_pairWith_15 : decode cX6_pairWith 15 = .ok (.ireturn, 1) := by decide +kernel
def fX6_pairWith (p1 : Int32) : Option (Int32) := if p1 = (7 : Int32) then (some (0 : Int32)) else (some ((1 : Int32) + (p1 >>> ((1 : Int32) &&& 31))))
set_option maxHeartbeats 4000000 in
set_option maxRecDepth 100000 in
theorem cX6_pairWith_m {l : Launch} {dC : Nat → ClassId} {dI : Nat → Nat → Nat} {cI : ClassId} {w : va_W} {p1 : Int32} {r9 : Int32} (h : fX6_pairWith p1 = some r9) : sw_Mi l yX6_pairWith (sw_ws yX6_pairWith cX6_pairWith 1 (some .int)) (sw_rm 0 0) (dC, dI) vwCl [(cI, .int)] cF [.int p1] w w r9 := by
  intro sz
  refine sw_of (cc := cX6_pairWith) (maxL := 1) (ret := (some .int)) (by decide) rfl (Nat.le_of_ble_eq_true rfl) ?_
  intro p e s m args below meth c A ls hAe hsz X _ hP hD hS hl
  rw [hAe]
  have hx := X.1.1
  have hb := X.1.2.1
  have hown := X.1.2.2.2.1
  have hts := X.1.2.2.2.2
  replace hl : lv_has ls 1 [(0, .int p1)] := hl
  unfold fX6_pairWith at h
  refine lv_iload_n hx hb dX6_pairWith_0 rfl (lv_at hl 0 rfl) ?_
  refine lv_bipush (v := (7 : Int32)) hx hb dX6_pairWith_1 (by decide) ?_
  refine lv_icmp_ne (tgt := 10) hx hb dX6_pairWith_3 (by decide) (fun c1 => ?_) (fun c1 => ?_)
  · replace h := if_no h c1
    refine lv_iconst (v := (1 : Int32)) hx hb dX6_pairWith_10 (by decide) ?_
    refine lv_iload_n hx hb dX6_pairWith_11 rfl (lv_at hl 0 rfl) ?_
    refine lv_iconst (v := (1 : Int32)) hx hb dX6_pairWith_12 (by decide) ?_
    refine lv_ishr hx hb dX6_pairWith_13 ?_
    refine lv_iadd hx hb dX6_pairWith_14 ?_
    obtain rfl := Option.some.inj h
    exact sw_iret X hP hD hS dX6_pairWith_15
  · replace h := if_yes h c1
    refine lv_iconst (v := (0 : Int32)) hx hb dX6_pairWith_6 (by decide) ?_
    refine lv_goto (tgt := 15) hx hb dX6_pairWith_7 (by decide) ?_
    obtain rfl := Option.some.inj h
    exact sw_iret X hP hD hS dX6_pairWith_15
theorem dX6_isHigher_0 : decode cX6_isHigher 0 = .ok (.iload_n 0, 1) := by decide +kernel
theorem dX6_isHigher_1 : decode cX6_isHigher 1 = .ok (.bipush 7, 2) := by decide +kernel
theorem dX6_isHigher_3 : decode cX6_isHigher 3 = .ok (.if_icmp .eq 9, 3) := by decide +kernel
theorem dX6_isHigher_6 : decode cX6_isHigher 6 = .ok (.iload_n 0, 1) := by decide +kernel
theorem dX6_isHigher_7 : decode cX6_isHigher 7 = .ok (.iconst 1, 1) := by decide +kernel
theorem dX6_isHigher_8 : decode cX6_isHigher 8 = .ok (.iand, 1) := by decide +kernel
theorem dX6_isHigher_9 : decode cX6_isHigher 9 = .ok (.ifCond .ne 7, 3) := by decide +kernel
theorem dX6_isHigher_12 : decode cX6_isHigher 12 = .ok (.iconst 1, 1) := by decide +kernel
theorem dX6_isHigher_13 : decode cX6_isHigher 13 = .ok (.goto 4, 3) := by decide +kernel
theorem dX6_isHigher_16 : decode cX6_isHigher 16 = .ok (.iconst 0, 1) := by decide +kernel
theorem dX6_isHigher_17 : decode cX6_isHigher 17 = .ok (.ireturn, 1) := by decide +kernel
def fX6_isHigher (p1 : Int32) : Option (Int32) := if p1 = (7 : Int32) then (some (1 : Int32)) else (if (p1 &&& (1 : Int32)) = (0 : Int32) then (some (1 : Int32)) else (some (0 : Int32)))
set_option maxHeartbeats 4000000 in
set_option maxRecDepth 100000 in
theorem cX6_isHigher_m {l : Launch} {dC : Nat → ClassId} {dI : Nat → Nat → Nat} {cI : ClassId} {w : va_W} {p1 : Int32} {r9 : Int32} (h : fX6_isHigher p1 = some r9) : sw_Mi l yX6_isHigher (sw_ws yX6_isHigher cX6_isHigher 1 (some .boolean)) (sw_rm 0 0) (dC, dI) vwCl [(cI, .int)] cF [.int p1] w w r9 := by
  intro sz
  refine sw_of (cc := cX6_isHigher) (maxL := 1) (ret := (some .boolean)) (by decide) rfl (Nat.le_of_ble_eq_true rfl) ?_
  intro p e s m args below meth c A ls hAe hsz X _ hP hD hS hl
  rw [hAe]
  have hx := X.1.1
  have hb := X.1.2.1
  have hown := X.1.2.2.2.1
  have hts := X.1.2.2.2.2
  replace hl : lv_has ls 1 [(0, .int p1)] := hl
  unfold fX6_isHigher at h
  refine lv_iload_n hx hb dX6_isHigher_0 rfl (lv_at hl 0 rfl) ?_
  refine lv_bipush (v := (7 : Int32)) hx hb dX6_isHigher_1 (by decide) ?_
  refine lv_icmp_eq (tgt := 12) hx hb dX6_isHigher_3 (by decide) (fun c1 => ?_) (fun c1 => ?_)
  · replace h := if_yes h c1
    refine lv_iconst (v := (1 : Int32)) hx hb dX6_isHigher_12 (by decide) ?_
    refine lv_goto (tgt := 17) hx hb dX6_isHigher_13 (by decide) ?_
    obtain rfl := Option.some.inj h
    exact sw_bret X (bz_n (by decide)) hP hD hS dX6_isHigher_17
  · replace h := if_no h c1
    refine lv_iload_n hx hb dX6_isHigher_6 rfl (lv_at hl 0 rfl) ?_
    refine lv_iconst (v := (1 : Int32)) hx hb dX6_isHigher_7 (by decide) ?_
    refine lv_iand hx hb dX6_isHigher_8 ?_
    refine lv_if_ne (tgt := 16) hx hb dX6_isHigher_9 (by decide) (fun c2 => ?_) (fun c2 => ?_)
    · replace h := if_no h c2
      refine lv_iconst (v := (0 : Int32)) hx hb dX6_isHigher_16 (by decide) ?_
      obtain rfl := Option.some.inj h
      exact sw_bret X (bz_n (by decide)) hP hD hS dX6_isHigher_17
    · replace h := if_yes h c2
      refine lv_iconst (v := (1 : Int32)) hx hb dX6_isHigher_12 (by decide) ?_
      refine lv_goto (tgt := 17) hx hb dX6_isHigher_13 (by decide) ?_
      obtain rfl := Option.some.inj h
      exact sw_bret X (bz_n (by decide)) hP hD hS dX6_isHigher_17
theorem dX6_single_0 : decode cX6_single 0 = .ok (.aload_n 0, 1) := by decide +kernel
theorem dX6_single_1 : decode cX6_single 1 = .ok (.getfield 9, 3) := by decide +kernel
theorem dX6_single_4 : decode cX6_single 4 = .ok (.iload_n 1, 1) := by decide +kernel
theorem dX6_single_5 : decode cX6_single 5 = .ok (.invokestatic 19, 3) := by decide +kernel
theorem dX6_single_8 : decode cX6_single 8 = .ok (.iaload, 1) := by decide +kernel
theorem dX6_single_9 : decode cX6_single 9 = .ok (.istore_n 2, 1) := by decide +kernel
theorem dX6_single_10 : decode cX6_single 10 = .ok (.iload_n 1, 1) := by decide +kernel
theorem dX6_single_11 : decode cX6_single 11 = .ok (.invokestatic 23, 3) := by decide +kernel
theorem dX6_single_14 : decode cX6_single 14 = .ok (.ifCond .eq 10, 3) := by decide +kernel
theorem dX6_single_17 : decode cX6_single 17 = .ok (.iload_n 2, 1) := by decide +kernel
theorem dX6_single_18 : decode cX6_single 18 = .ok (.bipush 8, 2) := by decide +kernel
theorem dX6_single_20 : decode cX6_single 20 = .ok (.ishr, 1) := by decide +kernel
theorem dX6_single_21 : decode cX6_single 21 = .ok (.goto 8, 3) := by decide +kernel
theorem dX6_single_24 : decode cX6_single 24 = .ok (.iload_n 2, 1) := by decide +kernel
theorem dX6_single_25 : decode cX6_single 25 = .ok (.sipush 255, 3) := by decide +kernel
theorem dX6_single_28 : decode cX6_single 28 = .ok (.iand, 1) := by decide +kernel
theorem dX6_single_29 : decode cX6_single 29 = .ok (.ireturn, 1) := by decide +kernel
def fX6_single (p1 : Int32) (s0 : zS) : Option (Int32 × zS) := bd (fX6_pairWith p1) fun r2 => gd (0 ≤ r2 ∧ r2 < 10) <| nm (s0.2 4 (r2.toNatClampNeg)) fun x4 => bd (fX6_isHigher p1) fun r6 => if r6 = (0 : Int32) then (some ((x4 &&& (255 : Int32)), s0)) else (some ((x4 >>> ((8 : Int32) &&& 31)), s0))
set_option maxHeartbeats 4000000 in
set_option maxRecDepth 100000 in
theorem cX6_single_m {l : Launch} {dC : Nat → ClassId} {dI : Nat → Nat → Nat} {ad : Nat → Nat} {cI : ClassId} {p1 : Int32} {s0 : zS} {r9 : Int32} {s9 : zS} (h : fX6_single p1 s0 = some (r9, s9)) : sw_Mi l yX6_single (sw_ws yX6_single cX6_single 3 (some .int)) (sw_rm 1 20) (dC, dI) vwCl [(cI, .int)] cF [.ref (ad 4), .int p1] (cW ad cI s0) (cW ad cI s9) r9 := by
  intro sz
  refine sw_of (cc := cX6_single) (maxL := 3) (ret := (some .int)) (by decide) rfl (Nat.le_of_ble_eq_true rfl) ?_
  intro p e s m args below meth c A ls hAe hsz X _ hP hD hS hl
  rw [hAe]
  have hx := X.1.1
  have hb := X.1.2.1
  have hown := X.1.2.2.2.1
  have hts := X.1.2.2.2.2
  replace hl : lv_has ls 3 [(0, .ref (ad 4)), (1, .int p1)] := hl
  unfold fX6_single at h
  refine lv_aload_n hx hb dX6_single_0 rfl (lv_at hl 0 rfl) ?_
  refine cg_4_0 X hP k_106 dX6_single_1 ?_
  refine lv_iload_n hx hb dX6_single_4 rfl (lv_at hl 1 rfl) ?_
  have hq := bd_some h; clear h; obtain ⟨r2, h1, h⟩ := hq
  refine sw_si (rest := [.ref (ad 13)]) c_good X (cX6_pairWith_m h1) calX6_pairWith k_455 hP hD hS ⟨rfl, rfl⟩ rfl hl.1 rfl (Nat.le_of_ble_eq_true rfl) dX6_single_5 (fun H locs hP hD hS => ?_)
  have hq := gd_some h; clear h; obtain ⟨c3, h⟩ := hq
  refine cl_4 X hP (vin_in c3 (by decide)) dX6_single_8 ?_
  refine lv_topi (fun x4 ex4 => ?_)
  replace h := nm_use ex4 h
  refine lv_istore_n (lv' := [(2, .int x4), (0, .ref (ad 4)), (1, .int p1)]) hx hb dX6_single_9 rfl hl (by decide) rfl (fun ls hl => ?_)
  refine lv_iload_n hx hb dX6_single_10 rfl (lv_at hl 2 rfl) ?_
  have hq := bd_some h; clear h; obtain ⟨r6, h5, h⟩ := hq
  refine sw_si (rest := []) c_good X (cX6_isHigher_m h5) calX6_isHigher k_458 hP hD hS ⟨rfl, rfl⟩ rfl hl.1 rfl (Nat.le_of_ble_eq_true rfl) dX6_single_11 (fun H locs hP hD hS => ?_)
  refine lv_if_eq (tgt := 24) hx hb dX6_single_14 (by decide) (fun c7 => ?_) (fun c7 => ?_)
  · replace h := if_yes h c7
    refine lv_iload_n hx hb dX6_single_24 rfl (lv_at hl 0 rfl) ?_
    refine lv_sipush (v := (255 : Int32)) hx hb dX6_single_25 (by decide) ?_
    refine lv_iand hx hb dX6_single_28 ?_
    obtain ⟨rfl, rfl⟩ := Prod.mk.inj (Option.some.inj h)
    exact sw_iret X hP hD hS dX6_single_29
  · replace h := if_no h c7
    refine lv_iload_n hx hb dX6_single_17 rfl (lv_at hl 0 rfl) ?_
    refine lv_bipush (v := (8 : Int32)) hx hb dX6_single_18 (by decide) ?_
    refine lv_ishr hx hb dX6_single_20 ?_
    refine lv_goto (tgt := 29) hx hb dX6_single_21 (by decide) ?_
    obtain ⟨rfl, rfl⟩ := Prod.mk.inj (Option.some.inj h)
    exact sw_iret X hP hD hS dX6_single_29
theorem dX6_flags_0 : decode cX6_flags 0 = .ok (.aload_n 0, 1) := by decide +kernel
theorem dX6_flags_1 : decode cX6_flags 1 = .ok (.getfield 9, 3) := by decide +kernel
theorem dX6_flags_4 : decode cX6_flags 4 = .ok (.iconst 0, 1) := by decide +kernel
theorem dX6_flags_5 : decode cX6_flags 5 = .ok (.iaload, 1) := by decide +kernel
theorem dX6_flags_6 : decode cX6_flags 6 = .ok (.sipush 255, 3) := by decide +kernel
theorem dX6_flags_9 : decode cX6_flags 9 = .ok (.iand, 1) := by decide +kernel
theorem dX6_flags_10 : decode cX6_flags 10 = .ok (.ireturn, 1) := by decide +kernel
def fX6_flags (s0 : zS) : Option (Int32 × zS) := some (((s0.2 4 ((0 : Int32).toNatClampNeg)) &&& (255 : Int32)), s0)
set_option maxHeartbeats 4000000 in
set_option maxRecDepth 100000 in
theorem cX6_flags_m {l : Launch} {dC : Nat → ClassId} {dI : Nat → Nat → Nat} {ad : Nat → Nat} {cI : ClassId} {s0 : zS} {r9 : Int32} {s9 : zS} (h : fX6_flags  s0 = some (r9, s9)) : sw_Mi l yX6_flags (sw_ws yX6_flags cX6_flags 1 (some .int)) (sw_rm 0 0) (dC, dI) vwCl [(cI, .int)] cF [.ref (ad 4)] (cW ad cI s0) (cW ad cI s9) r9 := by
  intro sz
  refine sw_of (cc := cX6_flags) (maxL := 1) (ret := (some .int)) (by decide) rfl (Nat.le_of_ble_eq_true rfl) ?_
  intro p e s m args below meth c A ls hAe hsz X _ hP hD hS hl
  rw [hAe]
  have hx := X.1.1
  have hb := X.1.2.1
  have hown := X.1.2.2.2.1
  have hts := X.1.2.2.2.2
  replace hl : lv_has ls 1 [(0, .ref (ad 4))] := hl
  unfold fX6_flags at h
  refine lv_aload_n hx hb dX6_flags_0 rfl (lv_at hl 0 rfl) ?_
  refine cg_4_0 X hP k_106 dX6_flags_1 ?_
  refine lv_iconst (v := (0 : Int32)) hx hb dX6_flags_4 (by decide) ?_
  refine cl_4 X hP (vin_in (i := (0 : Int32)) (n := 10) (by decide) (by decide)) dX6_flags_5 ?_
  refine lv_sipush (v := (255 : Int32)) hx hb dX6_flags_6 (by decide) ?_
  refine lv_iand hx hb dX6_flags_9 ?_
  obtain ⟨rfl, rfl⟩ := Prod.mk.inj (Option.some.inj h)
  exact sw_iret X hP hD hS dX6_flags_10
theorem dX0_signAndZero_0 : decode cX0_signAndZero 0 = .ok (.iload_n 0, 1) := by decide +kernel
theorem dX0_signAndZero_1 : decode cX0_signAndZero 1 = .ok (.sipush 128, 3) := by decide +kernel
theorem dX0_signAndZero_4 : decode cX0_signAndZero 4 = .ok (.iand, 1) := by decide +kernel
theorem dX0_signAndZero_5 : decode cX0_signAndZero 5 = .ok (.iload_n 0, 1) := by decide +kernel
theorem dX0_signAndZero_6 : decode cX0_signAndZero 6 = .ok (.ifCond .ne 8, 3) := by decide +kernel
theorem dX0_signAndZero_9 : decode cX0_signAndZero 9 = .ok (.bipush 64, 2) := by decide +kernel
theorem dX0_signAndZero_11 : decode cX0_signAndZero 11 = .ok (.goto 4, 3) := by decide +kernel
theorem dX0_signAndZero_14 : decode cX0_signAndZero 14 = .ok (.iconst 0, 1) := by decide +kernel
theorem dX0_signAndZero_15 : decode cX0_signAndZero 15 = .ok (.ior, 1) := by decide +kernel
theorem dX0_signAndZero_16 : decode cX0_signAndZero 16 = .ok (.ireturn, 1) := by decide +kernel
def fX0_signAndZero (p1 : Int32) : Option (Int32) := bd (if p1 = (0 : Int32) then (some (64 : Int32)) else (some (0 : Int32))) fun x3 => some ((p1 &&& (128 : Int32)) ||| x3)
set_option maxHeartbeats 4000000 in
set_option maxRecDepth 100000 in
theorem cX0_signAndZero_m {l : Launch} {dC : Nat → ClassId} {dI : Nat → Nat → Nat} {cI : ClassId} {w : va_W} {p1 : Int32} {r9 : Int32} (h : fX0_signAndZero p1 = some r9) : sw_Mi l yX0_signAndZero (sw_ws yX0_signAndZero cX0_signAndZero 1 (some .int)) (sw_rm 0 0) (dC, dI) vwCl [(cI, .int)] cF [.int p1] w w r9 := by
  intro sz
  refine sw_of (cc := cX0_signAndZero) (maxL := 1) (ret := (some .int)) (by decide) rfl (Nat.le_of_ble_eq_true rfl) ?_
  intro p e s m args below meth c A ls hAe hsz X _ hP hD hS hl
  rw [hAe]
  have hx := X.1.1
  have hb := X.1.2.1
  have hown := X.1.2.2.2.1
  have hts := X.1.2.2.2.2
  replace hl : lv_has ls 1 [(0, .int p1)] := hl
  unfold fX0_signAndZero at h
  refine lv_iload_n hx hb dX0_signAndZero_0 rfl (lv_at hl 0 rfl) ?_
  refine lv_sipush (v := (128 : Int32)) hx hb dX0_signAndZero_1 (by decide) ?_
  refine lv_iand hx hb dX0_signAndZero_4 ?_
  refine lv_iload_n hx hb dX0_signAndZero_5 rfl (lv_at hl 0 rfl) ?_
  have hq := bd_some h; clear h; obtain ⟨x3, h4, h⟩ := hq
  have K1 : W p l e (sw_rm 0 0) s m args below meth c s.heap [] 0 0 (MQ below (sw_Qi (dC, dI) vwCl [(cI, .int)] A w r9) args s 0 0 A) (F0 m 15 ls [.int x3, .int (p1 &&& (128 : Int32))]) := by
    refine lv_ior hx hb dX0_signAndZero_15 ?_
    obtain rfl := Option.some.inj h
    exact sw_iret X hP hD hS dX0_signAndZero_16
  replace h := h4
  clear h4
  refine lv_if_ne (tgt := 14) hx hb dX0_signAndZero_6 (by decide) (fun c2 => ?_) (fun c2 => ?_)
  · replace h := if_no h c2
    refine lv_iconst (v := (0 : Int32)) hx hb dX0_signAndZero_14 (by decide) ?_
    obtain rfl := Option.some.inj h
    exact K1
  · replace h := if_yes h c2
    refine lv_bipush (v := (64 : Int32)) hx hb dX0_signAndZero_9 (by decide) ?_
    refine lv_goto (tgt := 15) hx hb dX0_signAndZero_11 (by decide) ?_
    obtain rfl := Option.some.inj h
    exact K1
theorem dX6_loadFlags_0 : decode cX6_loadFlags 0 = .ok (.aload_n 0, 1) := by decide +kernel
theorem dX6_loadFlags_1 : decode cX6_loadFlags 1 = .ok (.getfield 9, 3) := by decide +kernel
theorem dX6_loadFlags_4 : decode cX6_loadFlags 4 = .ok (.iconst 0, 1) := by decide +kernel
theorem dX6_loadFlags_5 : decode cX6_loadFlags 5 = .ok (.aload_n 0, 1) := by decide +kernel
theorem dX6_loadFlags_6 : decode cX6_loadFlags 6 = .ok (.getfield 9, 3) := by decide +kernel
theorem dX6_loadFlags_9 : decode cX6_loadFlags 9 = .ok (.iconst 0, 1) := by decide +kernel
theorem dX6_loadFlags_10 : decode cX6_loadFlags 10 = .ok (.iaload, 1) := by decide +kernel
theorem dX6_loadFlags_11 : decode cX6_loadFlags 11 = .ok (.ldc 27, 2) := by decide +kernel
theorem dX6_loadFlags_13 : decode cX6_loadFlags 13 = .ok (.iand, 1) := by decide +kernel
theorem dX6_loadFlags_14 : decode cX6_loadFlags 14 = .ok (.iload_n 1, 1) := by decide +kernel
theorem dX6_loadFlags_15 : decode cX6_loadFlags 15 = .ok (.ior, 1) := by decide +kernel
theorem dX6_loadFlags_16 : decode cX6_loadFlags 16 = .ok (.iastore, 1) := by decide +kernel
theorem dX6_loadFlags_17 : decode cX6_loadFlags 17 = .ok (.return_, 1) := by decide +kernel
def fX6_loadFlags (p1 : Int32) (s0 : zS) : Option (zS) := some (st2 s0 4 ((0 : Int32).toNatClampNeg) (((s0.2 4 ((0 : Int32).toNatClampNeg)) &&& (65280 : Int32)) ||| p1))
set_option maxHeartbeats 4000000 in
set_option maxRecDepth 100000 in
theorem cX6_loadFlags_m {l : Launch} {dC : Nat → ClassId} {dI : Nat → Nat → Nat} {ad : Nat → Nat} {cI : ClassId} {p1 : Int32} {s0 : zS} {s9 : zS} (h : fX6_loadFlags p1 s0 = some s9) : sw_Mv l yX6_loadFlags (sw_ws yX6_loadFlags cX6_loadFlags 2 none) (sw_rm 0 0) (dC, dI) vwCl [(cI, .int)] cF [.ref (ad 4), .int p1] (cW ad cI s0) (cW ad cI s9) := by
  intro sz
  refine sw_of (cc := cX6_loadFlags) (maxL := 2) (ret := none) (by decide) rfl (Nat.le_of_ble_eq_true rfl) ?_
  intro p e s m args below meth c A ls hAe hsz X _ hP hD hS hl
  rw [hAe]
  have hx := X.1.1
  have hb := X.1.2.1
  have hown := X.1.2.2.2.1
  have hts := X.1.2.2.2.2
  replace hl : lv_has ls 2 [(0, .ref (ad 4)), (1, .int p1)] := hl
  unfold fX6_loadFlags at h
  refine lv_aload_n hx hb dX6_loadFlags_0 rfl (lv_at hl 0 rfl) ?_
  refine cg_4_0 X hP k_106 dX6_loadFlags_1 ?_
  refine lv_iconst (v := (0 : Int32)) hx hb dX6_loadFlags_4 (by decide) ?_
  refine lv_aload_n hx hb dX6_loadFlags_5 rfl (lv_at hl 0 rfl) ?_
  refine cg_4_0 X hP k_106 dX6_loadFlags_6 ?_
  refine lv_iconst (v := (0 : Int32)) hx hb dX6_loadFlags_9 (by decide) ?_
  refine cl_4 X hP (vin_in (i := (0 : Int32)) (n := 10) (by decide) (by decide)) dX6_loadFlags_10 ?_
  refine lv_ldc (v := 65280) hx hb hown (hts _ (List.mem_cons_of_mem _ k_465)) dX6_loadFlags_11 ?_
  refine lv_iand hx hb dX6_loadFlags_13 ?_
  refine lv_iload_n hx hb dX6_loadFlags_14 rfl (lv_at hl 1 rfl) ?_
  refine lv_ior hx hb dX6_loadFlags_15 ?_
  refine cb_4 X hP hD hS (vin_in (i := (0 : Int32)) (n := 10) (by decide) (by decide)) dX6_loadFlags_16 (fun H locs hP hD hS => ?_)
  obtain rfl := Option.some.inj h
  exact sw_vret X hP hD hS dX6_loadFlags_17
theorem dX0_sum_0 : decode cX0_sum 0 = .ok (.iload_n 1, 1) := by decide +kernel
theorem dX0_sum_1 : decode cX0_sum 1 = .ok (.iload_n 2, 1) := by decide +kernel
theorem dX0_sum_2 : decode cX0_sum 2 = .ok (.iadd, 1) := by decide +kernel
theorem dX0_sum_3 : decode cX0_sum 3 = .ok (.iload_n 3, 1) := by decide +kernel
theorem dX0_sum_4 : decode cX0_sum 4 = .ok (.iadd, 1) := by decide +kernel
theorem dX0_sum_5 : decode cX0_sum 5 = .ok (.istore 4, 2) := by decide +kernel
theorem dX0_sum_7 : decode cX0_sum 7 = .ok (.iload 4, 2) := by decide +kernel
theorem dX0_sum_9 : decode cX0_sum 9 = .ok (.sipush 255, 3) := by decide +kernel
theorem dX0_sum_12 : decode cX0_sum 12 = .ok (.iand, 1) := by decide +kernel
theorem dX0_sum_13 : decode cX0_sum 13 = .ok (.istore 5, 2) := by decide +kernel
theorem dX0_sum_15 : decode cX0_sum 15 = .ok (.iload_n 1, 1) := by decide +kernel
theorem dX0_sum_16 : decode cX0_sum 16 = .ok (.iload 4, 2) := by decide +kernel
theorem dX0_sum_18 : decode cX0_sum 18 = .ok (.ixor, 1) := by decide +kernel
theorem dX0_sum_19 : decode cX0_sum 19 = .ok (.iload_n 2, 1) := by decide +kernel
theorem dX0_sum_20 : decode cX0_sum 20 = .ok (.iload 4, 2) := by decide +kernel
theorem dX0_sum_22 : decode cX0_sum 22 = .ok (.ixor, 1) := by decide +kernel
theorem dX0_sum_23 : decode cX0_sum 23 = .ok (.iand, 1) := by decide +kernel
theorem dX0_sum_24 : decode cX0_sum 24 = .ok (.sipush 128, 3) := by decide +kernel
theorem dX0_sum_27 : decode cX0_sum 27 = .ok (.iand, 1) := by decide +kernel
theorem dX0_sum_28 : decode cX0_sum 28 = .ok (.istore 6, 2) := by decide +kernel
theorem dX0_sum_30 : decode cX0_sum 30 = .ok (.iload_n 1, 1) := by decide +kernel
theorem dX0_sum_31 : decode cX0_sum 31 = .ok (.iload_n 2, 1) := by decide +kernel
theorem dX0_sum_32 : decode cX0_sum 32 = .ok (.ixor, 1) := by decide +kernel
theorem dX0_sum_33 : decode cX0_sum 33 = .ok (.iload 4, 2) := by decide +kernel
theorem dX0_sum_35 : decode cX0_sum 35 = .ok (.ixor, 1) := by decide +kernel
theorem dX0_sum_36 : decode cX0_sum 36 = .ok (.bipush 16, 2) := by decide +kernel
theorem dX0_sum_38 : decode cX0_sum 38 = .ok (.iand, 1) := by decide +kernel
theorem dX0_sum_39 : decode cX0_sum 39 = .ok (.istore 7, 2) := by decide +kernel
theorem dX0_sum_41 : decode cX0_sum 41 = .ok (.aload_n 0, 1) := by decide +kernel
theorem dX0_sum_42 : decode cX0_sum 42 = .ok (.getfield 7, 3) := by decide +kernel
theorem dX0_sum_45 : decode cX0_sum 45 = .ok (.iload 5, 2) := by decide +kernel
theorem dX0_sum_47 : decode cX0_sum 47 = .ok (.invokestatic 37, 3) := by decide +kernel
theorem dX0_sum_50 : decode cX0_sum 50 = .ok (.iload 7, 2) := by decide +kernel
theorem dX0_sum_52 : decode cX0_sum 52 = .ok (.ior, 1) := by decide +kernel
theorem dX0_sum_53 : decode cX0_sum 53 = .ok (.iload 6, 2) := by decide +kernel
theorem dX0_sum_55 : decode cX0_sum 55 = .ok (.iconst 5, 1) := by decide +kernel
theorem dX0_sum_56 : decode cX0_sum 56 = .ok (.ishr, 1) := by decide +kernel
theorem dX0_sum_57 : decode cX0_sum 57 = .ok (.ior, 1) := by decide +kernel
theorem dX0_sum_58 : decode cX0_sum 58 = .ok (.iload 4, 2) := by decide +kernel
theorem dX0_sum_60 : decode cX0_sum 60 = .ok (.bipush 8, 2) := by decide +kernel
theorem dX0_sum_62 : decode cX0_sum 62 = .ok (.ishr, 1) := by decide +kernel
theorem dX0_sum_63 : decode cX0_sum 63 = .ok (.ior, 1) := by decide +kernel
theorem dX0_sum_64 : decode cX0_sum 64 = .ok (.invokevirtual 40, 3) := by decide +kernel
theorem dX0_sum_67 : decode cX0_sum 67 = .ok (.iload 5, 2) := by decide +kernel
theorem dX0_sum_69 : decode cX0_sum 69 = .ok (.ireturn, 1) := by decide +kernel
def fX0_sum (p1 p2 p3 : Int32) (s0 : zS) : Option (Int32 × zS) := nm ((p1 + p2) + p3) fun x1 => nm (x1 &&& (255 : Int32)) fun x2 => nm (((p1 ^^^ x1) &&& (p2 ^^^ x1)) &&& (128 : Int32)) fun x3 => nm (((p1 ^^^ p2) ^^^ x1) &&& (16 : Int32)) fun x4 => bd (fX0_signAndZero x2) fun r6 => bd (fX6_loadFlags (((r6 ||| x4) ||| (x3 >>> ((5 : Int32) &&& 31))) ||| (x1 >>> ((8 : Int32) &&& 31))) s0) fun s8 => some (x2, s8)
set_option maxHeartbeats 4000000 in
set_option maxRecDepth 100000 in
theorem cX0_sum_m {l : Launch} {dC : Nat → ClassId} {dI : Nat → Nat → Nat} {ad : Nat → Nat} {cI : ClassId} {p1 p2 p3 : Int32} {s0 : zS} {r9 : Int32} {s9 : zS} (h : fX0_sum p1 p2 p3 s0 = some (r9, s9)) : sw_Mi l yX0_sum (sw_ws yX0_sum cX0_sum 8 (some .int)) (sw_rm 1 21) (dC, dI) vwCl [(cI, .int)] cF [.ref (ad 6), .int p1, .int p2, .int p3] (cW ad cI s0) (cW ad cI s9) r9 := by
  intro sz
  refine sw_of (cc := cX0_sum) (maxL := 8) (ret := (some .int)) (by decide) rfl (Nat.le_of_ble_eq_true rfl) ?_
  intro p e s m args below meth c A ls hAe hsz X _ hP hD hS hl
  rw [hAe]
  have hx := X.1.1
  have hb := X.1.2.1
  have hown := X.1.2.2.2.1
  have hts := X.1.2.2.2.2
  replace hl : lv_has ls 8 [(0, .ref (ad 6)), (1, .int p1), (2, .int p2), (3, .int p3)] := hl
  unfold fX0_sum at h
  refine lv_iload_n hx hb dX0_sum_0 rfl (lv_at hl 1 rfl) ?_
  refine lv_iload_n hx hb dX0_sum_1 rfl (lv_at hl 2 rfl) ?_
  refine lv_iadd hx hb dX0_sum_2 ?_
  refine lv_iload_n hx hb dX0_sum_3 rfl (lv_at hl 3 rfl) ?_
  refine lv_iadd hx hb dX0_sum_4 ?_
  refine lv_topi (fun x1 ex1 => ?_)
  replace h := nm_use ex1 h
  refine lv_istore (lv' := [(4, .int x1), (0, .ref (ad 6)), (1, .int p1), (2, .int p2), (3, .int p3)]) hx hb dX0_sum_5 hl (by decide) rfl (fun ls hl => ?_)
  refine lv_iload hx hb dX0_sum_7 (lv_at hl 0 rfl) ?_
  refine lv_sipush (v := (255 : Int32)) hx hb dX0_sum_9 (by decide) ?_
  refine lv_iand hx hb dX0_sum_12 ?_
  refine lv_topi (fun x2 ex2 => ?_)
  replace h := nm_use ex2 h
  refine lv_istore (lv' := [(5, .int x2), (4, .int x1), (0, .ref (ad 6)), (1, .int p1), (2, .int p2), (3, .int p3)]) hx hb dX0_sum_13 hl (by decide) rfl (fun ls hl => ?_)
  refine lv_iload_n hx hb dX0_sum_15 rfl (lv_at hl 3 rfl) ?_
  refine lv_iload hx hb dX0_sum_16 (lv_at hl 1 rfl) ?_
  refine lv_ixor hx hb dX0_sum_18 ?_
  refine lv_iload_n hx hb dX0_sum_19 rfl (lv_at hl 4 rfl) ?_
  refine lv_iload hx hb dX0_sum_20 (lv_at hl 1 rfl) ?_
  refine lv_ixor hx hb dX0_sum_22 ?_
  refine lv_iand hx hb dX0_sum_23 ?_
  refine lv_sipush (v := (128 : Int32)) hx hb dX0_sum_24 (by decide) ?_
  refine lv_iand hx hb dX0_sum_27 ?_
  refine lv_topi (fun x3 ex3 => ?_)
  replace h := nm_use ex3 h
  refine lv_istore (lv' := [(6, .int x3), (5, .int x2), (4, .int x1), (0, .ref (ad 6)), (1, .int p1), (2, .int p2), (3, .int p3)]) hx hb dX0_sum_28 hl (by decide) rfl (fun ls hl => ?_)
  refine lv_iload_n hx hb dX0_sum_30 rfl (lv_at hl 4 rfl) ?_
  refine lv_iload_n hx hb dX0_sum_31 rfl (lv_at hl 5 rfl) ?_
  refine lv_ixor hx hb dX0_sum_32 ?_
  refine lv_iload hx hb dX0_sum_33 (lv_at hl 2 rfl) ?_
  refine lv_ixor hx hb dX0_sum_35 ?_
  refine lv_bipush (v := (16 : Int32)) hx hb dX0_sum_36 (by decide) ?_
  refine lv_iand hx hb dX0_sum_38 ?_
  refine lv_topi (fun x4 ex4 => ?_)
  replace h := nm_use ex4 h
  refine lv_istore (lv' := [(7, .int x4), (6, .int x3), (5, .int x2), (4, .int x1), (0, .ref (ad 6)), (1, .int p1), (2, .int p2), (3, .int p3)]) hx hb dX0_sum_39 hl (by decide) rfl (fun ls hl => ?_)
  refine lv_aload_n hx hb dX0_sum_41 rfl (lv_at hl 4 rfl) ?_
  refine cg_6_0 X hP k_122 dX0_sum_42 ?_
  refine lv_iload hx hb dX0_sum_45 (lv_at hl 2 rfl) ?_
  have hq := bd_some h; clear h; obtain ⟨r6, h5, h⟩ := hq
  refine sw_si (rest := [.ref (ad 4)]) c_good X (cX0_signAndZero_m h5) calX0_signAndZero k_545 hP hD hS ⟨rfl, rfl⟩ rfl hl.1 rfl (Nat.le_of_ble_eq_true rfl) dX0_sum_47 (fun H locs hP hD hS => ?_)
  refine lv_iload hx hb dX0_sum_50 (lv_at hl 0 rfl) ?_
  refine lv_ior hx hb dX0_sum_52 ?_
  refine lv_iload hx hb dX0_sum_53 (lv_at hl 1 rfl) ?_
  refine lv_iconst (v := (5 : Int32)) hx hb dX0_sum_55 (by decide) ?_
  refine lv_ishr hx hb dX0_sum_56 ?_
  refine lv_ior hx hb dX0_sum_57 ?_
  refine lv_iload hx hb dX0_sum_58 (lv_at hl 3 rfl) ?_
  refine lv_bipush (v := (8 : Int32)) hx hb dX0_sum_60 (by decide) ?_
  refine lv_ishr hx hb dX0_sum_62 ?_
  refine lv_ior hx hb dX0_sum_63 ?_
  have hq := bd_some h; clear h; obtain ⟨s8, h7, h⟩ := hq
  refine sw_vv (rest := []) c_good X (cX6_loadFlags_m h7) calX6_loadFlags k_499 hP hD hS 4 6 rfl rfl rfl ⟨rfl, rfl⟩ rfl hl.1 rfl (Nat.le_of_ble_eq_true rfl) dX0_sum_64 (fun H locs hP hD hS => ?_)
  refine lv_iload hx hb dX0_sum_67 (lv_at hl 2 rfl) ?_
  obtain ⟨rfl, rfl⟩ := Prod.mk.inj (Option.some.inj h)
  exact sw_iret X hP hD hS dX0_sum_69
theorem dX6_loadSingle_0 : decode cX6_loadSingle 0 = .ok (.iload_n 1, 1) := by decide +kernel
theorem dX6_loadSingle_1 : decode cX6_loadSingle 1 = .ok (.invokestatic 19, 3) := by decide +kernel
theorem dX6_loadSingle_4 : decode cX6_loadSingle 4 = .ok (.istore_n 3, 1) := by decide +kernel
theorem dX6_loadSingle_5 : decode cX6_loadSingle 5 = .ok (.aload_n 0, 1) := by decide +kernel
theorem dX6_loadSingle_6 : decode cX6_loadSingle 6 = .ok (.getfield 9, 3) := by decide +kernel
theorem dX6_loadSingle_9 : decode cX6_loadSingle 9 = .ok (.iload_n 3, 1) := by decide +kernel
theorem dX6_loadSingle_10 : decode cX6_loadSingle 10 = .ok (.iaload, 1) := by decide +kernel
theorem dX6_loadSingle_11 : decode cX6_loadSingle 11 = .ok (.istore 4, 2) := by decide +kernel
theorem dX6_loadSingle_13 : decode cX6_loadSingle 13 = .ok (.aload_n 0, 1) := by decide +kernel
theorem dX6_loadSingle_14 : decode cX6_loadSingle 14 = .ok (.getfield 9, 3) := by decide +kernel
theorem dX6_loadSingle_17 : decode cX6_loadSingle 17 = .ok (.iload_n 3, 1) := by decide +kernel
theorem dX6_loadSingle_18 : decode cX6_loadSingle 18 = .ok (.iload_n 1, 1) := by decide +kernel
theorem dX6_loadSingle_19 : decode cX6_loadSingle 19 = .ok (.invokestatic 23, 3) := by decide +kernel
theorem dX6_loadSingle_22 : decode cX6_loadSingle 22 = .ok (.ifCond .eq 17, 3) := by decide +kernel
theorem dX6_loadSingle_25 : decode cX6_loadSingle 25 = .ok (.iload_n 2, 1) := by decide +kernel
theorem dX6_loadSingle_26 : decode cX6_loadSingle 26 = .ok (.bipush 8, 2) := by decide +kernel
theorem dX6_loadSingle_28 : decode cX6_loadSingle 28 = .ok (.ishl, 1) := by decide +kernel
theorem dX6_loadSingle_29 : decode cX6_loadSingle 29 = .ok (.iload 4, 2) := by decide +kernel
theorem dX6_loadSingle_31 : decode cX6_loadSingle 31 = .ok (.sipush 255, 3) := by decide +kernel
theorem dX6_loadSingle_34 : decode cX6_loadSingle 34 = .ok (.iand, 1) := by decide +kernel
theorem dX6_loadSingle_35 : decode cX6_loadSingle 35 = .ok (.ior, 1) := by decide +kernel
theorem dX6_loadSingle_36 : decode cX6_loadSingle 36 = .ok (.goto 10, 3) := by decide +kernel
theorem dX6_loadSingle_39 : decode cX6_loadSingle 39 = .ok (.iload 4, 2) := by decide +kernel
theorem dX6_loadSingle_41 : decode cX6_loadSingle 41 = .ok (.ldc 27, 2) := by decide +kernel
theorem dX6_loadSingle_43 : decode cX6_loadSingle 43 = .ok (.iand, 1) := by decide +kernel
theorem dX6_loadSingle_44 : decode cX6_loadSingle 44 = .ok (.iload_n 2, 1) := by decide +kernel
theorem dX6_loadSingle_45 : decode cX6_loadSingle 45 = .ok (.ior, 1) := by decide +kernel
theorem dX6_loadSingle_46 : decode cX6_loadSingle 46 = .ok (.iastore, 1) := by decide +kernel
theorem dX6_loadSingle_47 : decode cX6_loadSingle 47 = .ok (.return_, 1) := by decide +kernel
def fX6_loadSingle (p1 p2 : Int32) (s0 : zS) : Option (zS) := bd (fX6_pairWith p1) fun r2 => gd (0 ≤ r2 ∧ r2 < 10) <| nm (s0.2 4 (r2.toNatClampNeg)) fun x4 => bd (fX6_isHigher p1) fun r6 => bd (if r6 = (0 : Int32) then (some ((x4 &&& (65280 : Int32)) ||| p2)) else (some ((p2 <<< ((8 : Int32) &&& 31)) ||| (x4 &&& (255 : Int32))))) fun x9 => gd (0 ≤ r2 ∧ r2 < 10) <| some (st2 s0 4 (r2.toNatClampNeg) x9)
set_option maxHeartbeats 4000000 in
set_option maxRecDepth 100000 in
theorem cX6_loadSingle_m {l : Launch} {dC : Nat → ClassId} {dI : Nat → Nat → Nat} {ad : Nat → Nat} {cI : ClassId} {p1 p2 : Int32} {s0 : zS} {s9 : zS} (h : fX6_loadSingle p1 p2 s0 = some s9) : sw_Mv l yX6_loadSingle (sw_ws yX6_loadSingle cX6_loadSingle 5 none) (sw_rm 1 20) (dC, dI) vwCl [(cI, .int)] cF [.ref (ad 4), .int p1, .int p2] (cW ad cI s0) (cW ad cI s9) := by
  intro sz
  refine sw_of (cc := cX6_loadSingle) (maxL := 5) (ret := none) (by decide) rfl (Nat.le_of_ble_eq_true rfl) ?_
  intro p e s m args below meth c A ls hAe hsz X _ hP hD hS hl
  rw [hAe]
  have hx := X.1.1
  have hb := X.1.2.1
  have hown := X.1.2.2.2.1
  have hts := X.1.2.2.2.2
  replace hl : lv_has ls 5 [(0, .ref (ad 4)), (1, .int p1), (2, .int p2)] := hl
  unfold fX6_loadSingle at h
  refine lv_iload_n hx hb dX6_loadSingle_0 rfl (lv_at hl 1 rfl) ?_
  have hq := bd_some h; clear h; obtain ⟨r2, h1, h⟩ := hq
  refine sw_si (rest := []) c_good X (cX6_pairWith_m h1) calX6_pairWith k_455 hP hD hS ⟨rfl, rfl⟩ rfl hl.1 rfl (Nat.le_of_ble_eq_true rfl) dX6_loadSingle_1 (fun H locs hP hD hS => ?_)
  refine lv_istore_n (lv' := [(3, .int r2), (0, .ref (ad 4)), (1, .int p1), (2, .int p2)]) hx hb dX6_loadSingle_4 rfl hl (by decide) rfl (fun ls hl => ?_)
  refine lv_aload_n hx hb dX6_loadSingle_5 rfl (lv_at hl 1 rfl) ?_
  refine cg_4_0 X hP k_106 dX6_loadSingle_6 ?_
  refine lv_iload_n hx hb dX6_loadSingle_9 rfl (lv_at hl 0 rfl) ?_
  have hq := gd_some h; clear h; obtain ⟨c3, h⟩ := hq
  refine cl_4 X hP (vin_in c3 (by decide)) dX6_loadSingle_10 ?_
  refine lv_topi (fun x4 ex4 => ?_)
  replace h := nm_use ex4 h
  refine lv_istore (lv' := [(4, .int x4), (3, .int r2), (0, .ref (ad 4)), (1, .int p1), (2, .int p2)]) hx hb dX6_loadSingle_11 hl (by decide) rfl (fun ls hl => ?_)
  refine lv_aload_n hx hb dX6_loadSingle_13 rfl (lv_at hl 2 rfl) ?_
  refine cg_4_0 X hP k_106 dX6_loadSingle_14 ?_
  refine lv_iload_n hx hb dX6_loadSingle_17 rfl (lv_at hl 1 rfl) ?_
  refine lv_iload_n hx hb dX6_loadSingle_18 rfl (lv_at hl 3 rfl) ?_
  have hq := bd_some h; clear h; obtain ⟨r6, h5, h⟩ := hq
  refine sw_si (rest := [.int r2, .ref (ad 13)]) c_good X (cX6_isHigher_m h5) calX6_isHigher k_458 hP hD hS ⟨rfl, rfl⟩ rfl hl.1 rfl (Nat.le_of_ble_eq_true rfl) dX6_loadSingle_19 (fun H locs hP hD hS => ?_)
  have hq := bd_some h; clear h; obtain ⟨x9, h10, h⟩ := hq
  have K7 : W p l e (sw_rm 1 20) s m args below meth c H locs 0 0 (MQ below (sw_Qv (dC, dI) vwCl [(cI, .int)] A (cW ad cI s9)) args s 0 0 A) (F0 m 46 ls [.int x9, .int r2, .ref (ad 13)]) := by
    have hq := gd_some h; clear h; obtain ⟨c11, h⟩ := hq
    refine cb_4 X hP hD hS (vin_in c11 (by decide)) dX6_loadSingle_46 (fun H locs hP hD hS => ?_)
    obtain rfl := Option.some.inj h
    exact sw_vret X hP hD hS dX6_loadSingle_47
  replace h := h10
  clear h10
  refine lv_if_eq (tgt := 39) hx hb dX6_loadSingle_22 (by decide) (fun c8 => ?_) (fun c8 => ?_)
  · replace h := if_yes h c8
    refine lv_iload hx hb dX6_loadSingle_39 (lv_at hl 0 rfl) ?_
    refine lv_ldc (v := 65280) hx hb hown (hts _ (List.mem_cons_of_mem _ k_465)) dX6_loadSingle_41 ?_
    refine lv_iand hx hb dX6_loadSingle_43 ?_
    refine lv_iload_n hx hb dX6_loadSingle_44 rfl (lv_at hl 4 rfl) ?_
    refine lv_ior hx hb dX6_loadSingle_45 ?_
    obtain rfl := Option.some.inj h
    exact K7
  · replace h := if_no h c8
    refine lv_iload_n hx hb dX6_loadSingle_25 rfl (lv_at hl 4 rfl) ?_
    refine lv_bipush (v := (8 : Int32)) hx hb dX6_loadSingle_26 (by decide) ?_
    refine lv_ishl hx hb dX6_loadSingle_28 ?_
    refine lv_iload hx hb dX6_loadSingle_29 (lv_at hl 0 rfl) ?_
    refine lv_sipush (v := (255 : Int32)) hx hb dX6_loadSingle_31 (by decide) ?_
    refine lv_iand hx hb dX6_loadSingle_34 ?_
    refine lv_ior hx hb dX6_loadSingle_35 ?_
    refine lv_goto (tgt := 46) hx hb dX6_loadSingle_36 (by decide) ?_
    obtain rfl := Option.some.inj h
    exact K7
theorem dX0_difference_0 : decode cX0_difference 0 = .ok (.iload_n 1, 1) := by decide +kernel
theorem dX0_difference_1 : decode cX0_difference 1 = .ok (.iload_n 2, 1) := by decide +kernel
theorem dX0_difference_2 : decode cX0_difference 2 = .ok (.isub, 1) := by decide +kernel
theorem dX0_difference_3 : decode cX0_difference 3 = .ok (.iload_n 3, 1) := by decide +kernel
theorem dX0_difference_4 : decode cX0_difference 4 = .ok (.isub, 1) := by decide +kernel
theorem dX0_difference_5 : decode cX0_difference 5 = .ok (.istore 4, 2) := by decide +kernel
theorem dX0_difference_7 : decode cX0_difference 7 = .ok (.iload 4, 2) := by decide +kernel
theorem dX0_difference_9 : decode cX0_difference 9 = .ok (.sipush 255, 3) := by decide +kernel
theorem dX0_difference_12 : decode cX0_difference 12 = .ok (.iand, 1) := by decide +kernel
theorem dX0_difference_13 : decode cX0_difference 13 = .ok (.istore 5, 2) := by decide +kernel
theorem dX0_difference_15 : decode cX0_difference 15 = .ok (.iload_n 1, 1) := by decide +kernel
theorem dX0_difference_16 : decode cX0_difference 16 = .ok (.iload_n 2, 1) := by decide +kernel
theorem dX0_difference_17 : decode cX0_difference 17 = .ok (.ixor, 1) := by decide +kernel
theorem dX0_difference_18 : decode cX0_difference 18 = .ok (.iload_n 1, 1) := by decide +kernel
theorem dX0_difference_19 : decode cX0_difference 19 = .ok (.iload 4, 2) := by decide +kernel
theorem dX0_difference_21 : decode cX0_difference 21 = .ok (.ixor, 1) := by decide +kernel
theorem dX0_difference_22 : decode cX0_difference 22 = .ok (.iand, 1) := by decide +kernel
theorem dX0_difference_23 : decode cX0_difference 23 = .ok (.sipush 128, 3) := by decide +kernel
theorem dX0_difference_26 : decode cX0_difference 26 = .ok (.iand, 1) := by decide +kernel
theorem dX0_difference_27 : decode cX0_difference 27 = .ok (.istore 6, 2) := by decide +kernel
theorem dX0_difference_29 : decode cX0_difference 29 = .ok (.iload_n 1, 1) := by decide +kernel
theorem dX0_difference_30 : decode cX0_difference 30 = .ok (.iload_n 2, 1) := by decide +kernel
theorem dX0_difference_31 : decode cX0_difference 31 = .ok (.ixor, 1) := by decide +kernel
theorem dX0_difference_32 : decode cX0_difference 32 = .ok (.iload 4, 2) := by decide +kernel
theorem dX0_difference_34 : decode cX0_difference 34 = .ok (.ixor, 1) := by decide +kernel
theorem dX0_difference_35 : decode cX0_difference 35 = .ok (.bipush 16, 2) := by decide +kernel
theorem dX0_difference_37 : decode cX0_difference 37 = .ok (.iand, 1) := by decide +kernel
theorem dX0_difference_38 : decode cX0_difference 38 = .ok (.istore 7, 2) := by decide +kernel
theorem dX0_difference_40 : decode cX0_difference 40 = .ok (.aload_n 0, 1) := by decide +kernel
theorem dX0_difference_41 : decode cX0_difference 41 = .ok (.getfield 7, 3) := by decide +kernel
theorem dX0_difference_44 : decode cX0_difference 44 = .ok (.iload 5, 2) := by decide +kernel
theorem dX0_difference_46 : decode cX0_difference 46 = .ok (.invokestatic 37, 3) := by decide +kernel
theorem dX0_difference_49 : decode cX0_difference 49 = .ok (.iload 7, 2) := by decide +kernel
theorem dX0_difference_51 : decode cX0_difference 51 = .ok (.ior, 1) := by decide +kernel
theorem dX0_difference_52 : decode cX0_difference 52 = .ok (.iload 6, 2) := by decide +kernel
theorem dX0_difference_54 : decode cX0_difference 54 = .ok (.iconst 5, 1) := by decide +kernel
theorem dX0_difference_55 : decode cX0_difference 55 = .ok (.ishr, 1) := by decide +kernel
theorem dX0_difference_56 : decode cX0_difference 56 = .ok (.ior, 1) := by decide +kernel
theorem dX0_difference_57 : decode cX0_difference 57 = .ok (.iconst 2, 1) := by decide +kernel
theorem dX0_difference_58 : decode cX0_difference 58 = .ok (.ior, 1) := by decide +kernel
theorem dX0_difference_59 : decode cX0_difference 59 = .ok (.iload 4, 2) := by decide +kernel
theorem dX0_difference_61 : decode cX0_difference 61 = .ok (.bipush 8, 2) := by decide +kernel
theorem dX0_difference_63 : decode cX0_difference 63 = .ok (.ishr, 1) := by decide +kernel
theorem dX0_difference_64 : decode cX0_difference 64 = .ok (.iconst 1, 1) := by decide +kernel
theorem dX0_difference_65 : decode cX0_difference 65 = .ok (.iand, 1) := by decide +kernel
theorem dX0_difference_66 : decode cX0_difference 66 = .ok (.ior, 1) := by decide +kernel
theorem dX0_difference_67 : decode cX0_difference 67 = .ok (.invokevirtual 40, 3) := by decide +kernel
theorem dX0_difference_70 : decode cX0_difference 70 = .ok (.iload 5, 2) := by decide +kernel
theorem dX0_difference_72 : decode cX0_difference 72 = .ok (.ireturn, 1) := by decide +kernel
def fX0_difference (p1 p2 p3 : Int32) (s0 : zS) : Option (Int32 × zS) := nm ((p1 - p2) - p3) fun x1 => nm (x1 &&& (255 : Int32)) fun x2 => nm (((p1 ^^^ p2) &&& (p1 ^^^ x1)) &&& (128 : Int32)) fun x3 => nm (((p1 ^^^ p2) ^^^ x1) &&& (16 : Int32)) fun x4 => bd (fX0_signAndZero x2) fun r6 => bd (fX6_loadFlags ((((r6 ||| x4) ||| (x3 >>> ((5 : Int32) &&& 31))) ||| (2 : Int32)) ||| ((x1 >>> ((8 : Int32) &&& 31)) &&& (1 : Int32))) s0) fun s8 => some (x2, s8)
set_option maxHeartbeats 4000000 in
set_option maxRecDepth 100000 in
theorem cX0_difference_m {l : Launch} {dC : Nat → ClassId} {dI : Nat → Nat → Nat} {ad : Nat → Nat} {cI : ClassId} {p1 p2 p3 : Int32} {s0 : zS} {r9 : Int32} {s9 : zS} (h : fX0_difference p1 p2 p3 s0 = some (r9, s9)) : sw_Mi l yX0_difference (sw_ws yX0_difference cX0_difference 8 (some .int)) (sw_rm 1 21) (dC, dI) vwCl [(cI, .int)] cF [.ref (ad 6), .int p1, .int p2, .int p3] (cW ad cI s0) (cW ad cI s9) r9 := by
  intro sz
  refine sw_of (cc := cX0_difference) (maxL := 8) (ret := (some .int)) (by decide) rfl (Nat.le_of_ble_eq_true rfl) ?_
  intro p e s m args below meth c A ls hAe hsz X _ hP hD hS hl
  rw [hAe]
  have hx := X.1.1
  have hb := X.1.2.1
  have hown := X.1.2.2.2.1
  have hts := X.1.2.2.2.2
  replace hl : lv_has ls 8 [(0, .ref (ad 6)), (1, .int p1), (2, .int p2), (3, .int p3)] := hl
  unfold fX0_difference at h
  refine lv_iload_n hx hb dX0_difference_0 rfl (lv_at hl 1 rfl) ?_
  refine lv_iload_n hx hb dX0_difference_1 rfl (lv_at hl 2 rfl) ?_
  refine lv_isub hx hb dX0_difference_2 ?_
  refine lv_iload_n hx hb dX0_difference_3 rfl (lv_at hl 3 rfl) ?_
  refine lv_isub hx hb dX0_difference_4 ?_
  refine lv_topi (fun x1 ex1 => ?_)
  replace h := nm_use ex1 h
  refine lv_istore (lv' := [(4, .int x1), (0, .ref (ad 6)), (1, .int p1), (2, .int p2), (3, .int p3)]) hx hb dX0_difference_5 hl (by decide) rfl (fun ls hl => ?_)
  refine lv_iload hx hb dX0_difference_7 (lv_at hl 0 rfl) ?_
  refine lv_sipush (v := (255 : Int32)) hx hb dX0_difference_9 (by decide) ?_
  refine lv_iand hx hb dX0_difference_12 ?_
  refine lv_topi (fun x2 ex2 => ?_)
  replace h := nm_use ex2 h
  refine lv_istore (lv' := [(5, .int x2), (4, .int x1), (0, .ref (ad 6)), (1, .int p1), (2, .int p2), (3, .int p3)]) hx hb dX0_difference_13 hl (by decide) rfl (fun ls hl => ?_)
  refine lv_iload_n hx hb dX0_difference_15 rfl (lv_at hl 3 rfl) ?_
  refine lv_iload_n hx hb dX0_difference_16 rfl (lv_at hl 4 rfl) ?_
  refine lv_ixor hx hb dX0_difference_17 ?_
  refine lv_iload_n hx hb dX0_difference_18 rfl (lv_at hl 3 rfl) ?_
  refine lv_iload hx hb dX0_difference_19 (lv_at hl 1 rfl) ?_
  refine lv_ixor hx hb dX0_difference_21 ?_
  refine lv_iand hx hb dX0_difference_22 ?_
  refine lv_sipush (v := (128 : Int32)) hx hb dX0_difference_23 (by decide) ?_
  refine lv_iand hx hb dX0_difference_26 ?_
  refine lv_topi (fun x3 ex3 => ?_)
  replace h := nm_use ex3 h
  refine lv_istore (lv' := [(6, .int x3), (5, .int x2), (4, .int x1), (0, .ref (ad 6)), (1, .int p1), (2, .int p2), (3, .int p3)]) hx hb dX0_difference_27 hl (by decide) rfl (fun ls hl => ?_)
  refine lv_iload_n hx hb dX0_difference_29 rfl (lv_at hl 4 rfl) ?_
  refine lv_iload_n hx hb dX0_difference_30 rfl (lv_at hl 5 rfl) ?_
  refine lv_ixor hx hb dX0_difference_31 ?_
  refine lv_iload hx hb dX0_difference_32 (lv_at hl 2 rfl) ?_
  refine lv_ixor hx hb dX0_difference_34 ?_
  refine lv_bipush (v := (16 : Int32)) hx hb dX0_difference_35 (by decide) ?_
  refine lv_iand hx hb dX0_difference_37 ?_
  refine lv_topi (fun x4 ex4 => ?_)
  replace h := nm_use ex4 h
  refine lv_istore (lv' := [(7, .int x4), (6, .int x3), (5, .int x2), (4, .int x1), (0, .ref (ad 6)), (1, .int p1), (2, .int p2), (3, .int p3)]) hx hb dX0_difference_38 hl (by decide) rfl (fun ls hl => ?_)
  refine lv_aload_n hx hb dX0_difference_40 rfl (lv_at hl 4 rfl) ?_
  refine cg_6_0 X hP k_122 dX0_difference_41 ?_
  refine lv_iload hx hb dX0_difference_44 (lv_at hl 2 rfl) ?_
  have hq := bd_some h; clear h; obtain ⟨r6, h5, h⟩ := hq
  refine sw_si (rest := [.ref (ad 4)]) c_good X (cX0_signAndZero_m h5) calX0_signAndZero k_545 hP hD hS ⟨rfl, rfl⟩ rfl hl.1 rfl (Nat.le_of_ble_eq_true rfl) dX0_difference_46 (fun H locs hP hD hS => ?_)
  refine lv_iload hx hb dX0_difference_49 (lv_at hl 0 rfl) ?_
  refine lv_ior hx hb dX0_difference_51 ?_
  refine lv_iload hx hb dX0_difference_52 (lv_at hl 1 rfl) ?_
  refine lv_iconst (v := (5 : Int32)) hx hb dX0_difference_54 (by decide) ?_
  refine lv_ishr hx hb dX0_difference_55 ?_
  refine lv_ior hx hb dX0_difference_56 ?_
  refine lv_iconst (v := (2 : Int32)) hx hb dX0_difference_57 (by decide) ?_
  refine lv_ior hx hb dX0_difference_58 ?_
  refine lv_iload hx hb dX0_difference_59 (lv_at hl 3 rfl) ?_
  refine lv_bipush (v := (8 : Int32)) hx hb dX0_difference_61 (by decide) ?_
  refine lv_ishr hx hb dX0_difference_63 ?_
  refine lv_iconst (v := (1 : Int32)) hx hb dX0_difference_64 (by decide) ?_
  refine lv_iand hx hb dX0_difference_65 ?_
  refine lv_ior hx hb dX0_difference_66 ?_
  have hq := bd_some h; clear h; obtain ⟨s8, h7, h⟩ := hq
  refine sw_vv (rest := []) c_good X (cX6_loadFlags_m h7) calX6_loadFlags k_499 hP hD hS 4 6 rfl rfl rfl ⟨rfl, rfl⟩ rfl hl.1 rfl (Nat.le_of_ble_eq_true rfl) dX0_difference_67 (fun H locs hP hD hS => ?_)
  refine lv_iload hx hb dX0_difference_70 (lv_at hl 2 rfl) ?_
  obtain ⟨rfl, rfl⟩ := Prod.mk.inj (Option.some.inj h)
  exact sw_iret X hP hD hS dX0_difference_72
theorem dJ6_bitCount_0f7a4_0 : decode cJ6_bitCount_0f7a4 0 = .ok (.iload_n 0, 1) := by decide +kernel
theorem dJ6_bitCount_0f7a4_1 : decode cJ6_bitCount_0f7a4 1 = .ok (.iload_n 0, 1) := by decide +kernel
theorem dJ6_bitCount_0f7a4_2 : decode cJ6_bitCount_0f7a4 2 = .ok (.iconst 1, 1) := by decide +kernel
theorem dJ6_bitCount_0f7a4_3 : decode cJ6_bitCount_0f7a4 3 = .ok (.iushr, 1) := by decide +kernel
theorem dJ6_bitCount_0f7a4_4 : decode cJ6_bitCount_0f7a4 4 = .ok (.ldc_w 265, 3) := by decide +kernel
theorem dJ6_bitCount_0f7a4_7 : decode cJ6_bitCount_0f7a4 7 = .ok (.iand, 1) := by decide +kernel
theorem dJ6_bitCount_0f7a4_8 : decode cJ6_bitCount_0f7a4 8 = .ok (.isub, 1) := by decide +kernel
theorem dJ6_bitCount_0f7a4_9 : decode cJ6_bitCount_0f7a4 9 = .ok (.istore_n 0, 1) := by decide +kernel
theorem dJ6_bitCount_0f7a4_10 : decode cJ6_bitCount_0f7a4 10 = .ok (.iload_n 0, 1) := by decide +kernel
theorem dJ6_bitCount_0f7a4_11 : decode cJ6_bitCount_0f7a4 11 = .ok (.ldc_w 266, 3) := by decide +kernel
theorem dJ6_bitCount_0f7a4_14 : decode cJ6_bitCount_0f7a4 14 = .ok (.iand, 1) := by decide +kernel
theorem dJ6_bitCount_0f7a4_15 : decode cJ6_bitCount_0f7a4 15 = .ok (.iload_n 0, 1) := by decide +kernel
theorem dJ6_bitCount_0f7a4_16 : decode cJ6_bitCount_0f7a4 16 = .ok (.iconst 2, 1) := by decide +kernel
theorem dJ6_bitCount_0f7a4_17 : decode cJ6_bitCount_0f7a4 17 = .ok (.iushr, 1) := by decide +kernel
theorem dJ6_bitCount_0f7a4_18 : decode cJ6_bitCount_0f7a4 18 = .ok (.ldc_w 266, 3) := by decide +kernel
theorem dJ6_bitCount_0f7a4_21 : decode cJ6_bitCount_0f7a4 21 = .ok (.iand, 1) := by decide +kernel
theorem dJ6_bitCount_0f7a4_22 : decode cJ6_bitCount_0f7a4 22 = .ok (.iadd, 1) := by decide +kernel
theorem dJ6_bitCount_0f7a4_23 : decode cJ6_bitCount_0f7a4 23 = .ok (.istore_n 0, 1) := by decide +kernel
theorem dJ6_bitCount_0f7a4_24 : decode cJ6_bitCount_0f7a4 24 = .ok (.iload_n 0, 1) := by decide +kernel
theorem dJ6_bitCount_0f7a4_25 : decode cJ6_bitCount_0f7a4 25 = .ok (.iload_n 0, 1) := by decide +kernel
theorem dJ6_bitCount_0f7a4_26 : decode cJ6_bitCount_0f7a4 26 = .ok (.iconst 4, 1) := by decide +kernel
theorem dJ6_bitCount_0f7a4_27 : decode cJ6_bitCount_0f7a4 27 = .ok (.iushr, 1) := by decide +kernel
theorem dJ6_bitCount_0f7a4_28 : decode cJ6_bitCount_0f7a4 28 = .ok (.iadd, 1) := by decide +kernel
theorem dJ6_bitCount_0f7a4_29 : decode cJ6_bitCount_0f7a4 29 = .ok (.ldc_w 267, 3) := by decide +kernel
theorem dJ6_bitCount_0f7a4_32 : decode cJ6_bitCount_0f7a4 32 = .ok (.iand, 1) := by decide +kernel
theorem dJ6_bitCount_0f7a4_33 : decode cJ6_bitCount_0f7a4 33 = .ok (.istore_n 0, 1) := by decide +kernel
theorem dJ6_bitCount_0f7a4_34 : decode cJ6_bitCount_0f7a4 34 = .ok (.iload_n 0, 1) := by decide +kernel
theorem dJ6_bitCount_0f7a4_35 : decode cJ6_bitCount_0f7a4 35 = .ok (.iload_n 0, 1) := by decide +kernel
theorem dJ6_bitCount_0f7a4_36 : decode cJ6_bitCount_0f7a4 36 = .ok (.bipush 8, 2) := by decide +kernel
theorem dJ6_bitCount_0f7a4_38 : decode cJ6_bitCount_0f7a4 38 = .ok (.iushr, 1) := by decide +kernel
theorem dJ6_bitCount_0f7a4_39 : decode cJ6_bitCount_0f7a4 39 = .ok (.iadd, 1) := by decide +kernel
theorem dJ6_bitCount_0f7a4_40 : decode cJ6_bitCount_0f7a4 40 = .ok (.istore_n 0, 1) := by decide +kernel
theorem dJ6_bitCount_0f7a4_41 : decode cJ6_bitCount_0f7a4 41 = .ok (.iload_n 0, 1) := by decide +kernel
theorem dJ6_bitCount_0f7a4_42 : decode cJ6_bitCount_0f7a4 42 = .ok (.iload_n 0, 1) := by decide +kernel
theorem dJ6_bitCount_0f7a4_43 : decode cJ6_bitCount_0f7a4 43 = .ok (.bipush 16, 2) := by decide +kernel
theorem dJ6_bitCount_0f7a4_45 : decode cJ6_bitCount_0f7a4 45 = .ok (.iushr, 1) := by decide +kernel
theorem dJ6_bitCount_0f7a4_46 : decode cJ6_bitCount_0f7a4 46 = .ok (.iadd, 1) := by decide +kernel
theorem dJ6_bitCount_0f7a4_47 : decode cJ6_bitCount_0f7a4 47 = .ok (.istore_n 0, 1) := by decide +kernel
theorem dJ6_bitCount_0f7a4_48 : decode cJ6_bitCount_0f7a4 48 = .ok (.iload_n 0, 1) := by decide +kernel
theorem dJ6_bitCount_0f7a4_49 : decode cJ6_bitCount_0f7a4 49 = .ok (.bipush 63, 2) := by decide +kernel
theorem dJ6_bitCount_0f7a4_51 : decode cJ6_bitCount_0f7a4 51 = .ok (.iand, 1) := by decide +kernel
theorem dJ6_bitCount_0f7a4_52 : decode cJ6_bitCount_0f7a4 52 = .ok (.ireturn, 1) := by decide +kernel
def fJ6_bitCount_0f7a4 (p1 : Int32) : Option (Int32) := nm (p1 - ((p1.toUInt32 >>> (Int32.toUInt32 (1 : Int32) &&& Int32.toUInt32 31)).toInt32 &&& (1431655765 : Int32))) fun x1 => nm ((x1 &&& (858993459 : Int32)) + ((x1.toUInt32 >>> (Int32.toUInt32 (2 : Int32) &&& Int32.toUInt32 31)).toInt32 &&& (858993459 : Int32))) fun x2 => nm ((x2 + (x2.toUInt32 >>> (Int32.toUInt32 (4 : Int32) &&& Int32.toUInt32 31)).toInt32) &&& (252645135 : Int32)) fun x3 => nm (x3 + (x3.toUInt32 >>> (Int32.toUInt32 (8 : Int32) &&& Int32.toUInt32 31)).toInt32) fun x4 => nm (x4 + (x4.toUInt32 >>> (Int32.toUInt32 (16 : Int32) &&& Int32.toUInt32 31)).toInt32) fun x5 => some (x5 &&& (63 : Int32))
set_option maxHeartbeats 4000000 in
set_option maxRecDepth 100000 in
theorem cJ6_bitCount_0f7a4_m {l : Launch} {dC : Nat → ClassId} {dI : Nat → Nat → Nat} {cI : ClassId} {w : va_W} {p1 : Int32} {r9 : Int32} (h : fJ6_bitCount_0f7a4 p1 = some r9) : sw_Mi l yJ6_bitCount_0f7a4 (sw_ws yJ6_bitCount_0f7a4 cJ6_bitCount_0f7a4 1 (some .int)) (sw_rm 0 0) (dC, dI) vwCl [(cI, .int)] cF [.int p1] w w r9 := by
  intro sz
  refine sw_of (cc := cJ6_bitCount_0f7a4) (maxL := 1) (ret := (some .int)) (by decide) rfl (Nat.le_of_ble_eq_true rfl) ?_
  intro p e s m args below meth c A ls hAe hsz X _ hP hD hS hl
  rw [hAe]
  have hx := X.1.1
  have hb := X.1.2.1
  have hown := X.1.2.2.2.1
  have hts := X.1.2.2.2.2
  replace hl : lv_has ls 1 [(0, .int p1)] := hl
  unfold fJ6_bitCount_0f7a4 at h
  refine lv_iload_n hx hb dJ6_bitCount_0f7a4_0 rfl (lv_at hl 0 rfl) ?_
  refine lv_iload_n hx hb dJ6_bitCount_0f7a4_1 rfl (lv_at hl 0 rfl) ?_
  refine lv_iconst (v := (1 : Int32)) hx hb dJ6_bitCount_0f7a4_2 (by decide) ?_
  refine lv_iushr (v := (p1.toUInt32 >>> (Int32.toUInt32 (1 : Int32) &&& Int32.toUInt32 31)).toInt32) hx hb dJ6_bitCount_0f7a4_3 rfl ?_
  refine lv_ldcw (v := 1431655765) hx hb hown (hts _ (List.mem_cons_of_mem _ k_574)) dJ6_bitCount_0f7a4_4 ?_
  refine lv_iand hx hb dJ6_bitCount_0f7a4_7 ?_
  refine lv_isub hx hb dJ6_bitCount_0f7a4_8 ?_
  refine lv_topi (fun x1 ex1 => ?_)
  replace h := nm_use ex1 h
  refine lv_istore_n (lv' := [(0, .int x1)]) hx hb dJ6_bitCount_0f7a4_9 rfl hl (by decide) rfl (fun ls hl => ?_)
  refine lv_iload_n hx hb dJ6_bitCount_0f7a4_10 rfl (lv_at hl 0 rfl) ?_
  refine lv_ldcw (v := 858993459) hx hb hown (hts _ (List.mem_cons_of_mem _ k_575)) dJ6_bitCount_0f7a4_11 ?_
  refine lv_iand hx hb dJ6_bitCount_0f7a4_14 ?_
  refine lv_iload_n hx hb dJ6_bitCount_0f7a4_15 rfl (lv_at hl 0 rfl) ?_
  refine lv_iconst (v := (2 : Int32)) hx hb dJ6_bitCount_0f7a4_16 (by decide) ?_
  refine lv_iushr (v := (x1.toUInt32 >>> (Int32.toUInt32 (2 : Int32) &&& Int32.toUInt32 31)).toInt32) hx hb dJ6_bitCount_0f7a4_17 rfl ?_
  refine lv_ldcw (v := 858993459) hx hb hown (hts _ (List.mem_cons_of_mem _ k_575)) dJ6_bitCount_0f7a4_18 ?_
  refine lv_iand hx hb dJ6_bitCount_0f7a4_21 ?_
  refine lv_iadd hx hb dJ6_bitCount_0f7a4_22 ?_
  refine lv_topi (fun x2 ex2 => ?_)
  replace h := nm_use ex2 h
  refine lv_istore_n (lv' := [(0, .int x2)]) hx hb dJ6_bitCount_0f7a4_23 rfl hl (by decide) rfl (fun ls hl => ?_)
  refine lv_iload_n hx hb dJ6_bitCount_0f7a4_24 rfl (lv_at hl 0 rfl) ?_
  refine lv_iload_n hx hb dJ6_bitCount_0f7a4_25 rfl (lv_at hl 0 rfl) ?_
  refine lv_iconst (v := (4 : Int32)) hx hb dJ6_bitCount_0f7a4_26 (by decide) ?_
  refine lv_iushr (v := (x2.toUInt32 >>> (Int32.toUInt32 (4 : Int32) &&& Int32.toUInt32 31)).toInt32) hx hb dJ6_bitCount_0f7a4_27 rfl ?_
  refine lv_iadd hx hb dJ6_bitCount_0f7a4_28 ?_
  refine lv_ldcw (v := 252645135) hx hb hown (hts _ (List.mem_cons_of_mem _ k_576)) dJ6_bitCount_0f7a4_29 ?_
  refine lv_iand hx hb dJ6_bitCount_0f7a4_32 ?_
  refine lv_topi (fun x3 ex3 => ?_)
  replace h := nm_use ex3 h
  refine lv_istore_n (lv' := [(0, .int x3)]) hx hb dJ6_bitCount_0f7a4_33 rfl hl (by decide) rfl (fun ls hl => ?_)
  refine lv_iload_n hx hb dJ6_bitCount_0f7a4_34 rfl (lv_at hl 0 rfl) ?_
  refine lv_iload_n hx hb dJ6_bitCount_0f7a4_35 rfl (lv_at hl 0 rfl) ?_
  refine lv_bipush (v := (8 : Int32)) hx hb dJ6_bitCount_0f7a4_36 (by decide) ?_
  refine lv_iushr (v := (x3.toUInt32 >>> (Int32.toUInt32 (8 : Int32) &&& Int32.toUInt32 31)).toInt32) hx hb dJ6_bitCount_0f7a4_38 rfl ?_
  refine lv_iadd hx hb dJ6_bitCount_0f7a4_39 ?_
  refine lv_topi (fun x4 ex4 => ?_)
  replace h := nm_use ex4 h
  refine lv_istore_n (lv' := [(0, .int x4)]) hx hb dJ6_bitCount_0f7a4_40 rfl hl (by decide) rfl (fun ls hl => ?_)
  refine lv_iload_n hx hb dJ6_bitCount_0f7a4_41 rfl (lv_at hl 0 rfl) ?_
  refine lv_iload_n hx hb dJ6_bitCount_0f7a4_42 rfl (lv_at hl 0 rfl) ?_
  refine lv_bipush (v := (16 : Int32)) hx hb dJ6_bitCount_0f7a4_43 (by decide) ?_
  refine lv_iushr (v := (x4.toUInt32 >>> (Int32.toUInt32 (16 : Int32) &&& Int32.toUInt32 31)).toInt32) hx hb dJ6_bitCount_0f7a4_45 rfl ?_
  refine lv_iadd hx hb dJ6_bitCount_0f7a4_46 ?_
  refine lv_topi (fun x5 ex5 => ?_)
  replace h := nm_use ex5 h
  refine lv_istore_n (lv' := [(0, .int x5)]) hx hb dJ6_bitCount_0f7a4_47 rfl hl (by decide) rfl (fun ls hl => ?_)
  refine lv_iload_n hx hb dJ6_bitCount_0f7a4_48 rfl (lv_at hl 0 rfl) ?_
  refine lv_bipush (v := (63 : Int32)) hx hb dJ6_bitCount_0f7a4_49 (by decide) ?_
  refine lv_iand hx hb dJ6_bitCount_0f7a4_51 ?_
  obtain rfl := Option.some.inj h
  exact sw_iret X hP hD hS dJ6_bitCount_0f7a4_52
theorem dX0_even_0 : decode cX0_even 0 = .ok (.iload_n 0, 1) := by decide +kernel
theorem dX0_even_1 : decode cX0_even 1 = .ok (.invokestatic 65, 3) := by decide +kernel
theorem dX0_even_4 : decode cX0_even 4 = .ok (.iconst 1, 1) := by decide +kernel
theorem dX0_even_5 : decode cX0_even 5 = .ok (.iand, 1) := by decide +kernel
theorem dX0_even_6 : decode cX0_even 6 = .ok (.ifCond .ne 7, 3) := by decide +kernel
theorem dX0_even_9 : decode cX0_even 9 = .ok (.iconst 4, 1) := by decide +kernel
theorem dX0_even_10 : decode cX0_even 10 = .ok (.goto 4, 3) := by decide +kernel
theorem dX0_even_13 : decode cX0_even 13 = .ok (.iconst 0, 1) := by decide +kernel
theorem dX0_even_14 : decode cX0_even 14 = .ok (.ireturn, 1) := by decide +kernel
def fX0_even (p1 : Int32) : Option (Int32) := bd (fJ6_bitCount_0f7a4 p1) fun r2 => if (r2 &&& (1 : Int32)) = (0 : Int32) then (some (4 : Int32)) else (some (0 : Int32))
set_option maxHeartbeats 4000000 in
set_option maxRecDepth 100000 in
theorem cX0_even_m {l : Launch} {dC : Nat → ClassId} {dI : Nat → Nat → Nat} {cI : ClassId} {w : va_W} {p1 : Int32} {r9 : Int32} (h : fX0_even p1 = some r9) : sw_Mi l yX0_even (sw_ws yX0_even cX0_even 1 (some .int)) (sw_rm 1 20) (dC, dI) vwCl [(cI, .int)] cF [.int p1] w w r9 := by
  intro sz
  refine sw_of (cc := cX0_even) (maxL := 1) (ret := (some .int)) (by decide) rfl (Nat.le_of_ble_eq_true rfl) ?_
  intro p e s m args below meth c A ls hAe hsz X _ hP hD hS hl
  rw [hAe]
  have hx := X.1.1
  have hb := X.1.2.1
  have hown := X.1.2.2.2.1
  have hts := X.1.2.2.2.2
  replace hl : lv_has ls 1 [(0, .int p1)] := hl
  unfold fX0_even at h
  refine lv_iload_n hx hb dX0_even_0 rfl (lv_at hl 0 rfl) ?_
  have hq := bd_some h; clear h; obtain ⟨r2, h1, h⟩ := hq
  refine sw_si (rest := []) c_good X (cJ6_bitCount_0f7a4_m h1) calJ6_bitCount_0f7a4 k_571 hP hD hS ⟨rfl, rfl⟩ rfl hl.1 rfl (Nat.le_of_ble_eq_true rfl) dX0_even_1 (fun H locs hP hD hS => ?_)
  refine lv_iconst (v := (1 : Int32)) hx hb dX0_even_4 (by decide) ?_
  refine lv_iand hx hb dX0_even_5 ?_
  refine lv_if_ne (tgt := 13) hx hb dX0_even_6 (by decide) (fun c3 => ?_) (fun c3 => ?_)
  · replace h := if_no h c3
    refine lv_iconst (v := (0 : Int32)) hx hb dX0_even_13 (by decide) ?_
    obtain rfl := Option.some.inj h
    exact sw_iret X hP hD hS dX0_even_14
  · replace h := if_yes h c3
    refine lv_iconst (v := (4 : Int32)) hx hb dX0_even_9 (by decide) ?_
    refine lv_goto (tgt := 14) hx hb dX0_even_10 (by decide) ?_
    obtain rfl := Option.some.inj h
    exact sw_iret X hP hD hS dX0_even_14
theorem dX0_logical_0 : decode cX0_logical 0 = .ok (.aload_n 0, 1) := by decide +kernel
theorem dX0_logical_1 : decode cX0_logical 1 = .ok (.getfield 7, 3) := by decide +kernel
theorem dX0_logical_4 : decode cX0_logical 4 = .ok (.bipush 7, 2) := by decide +kernel
theorem dX0_logical_6 : decode cX0_logical 6 = .ok (.iload_n 1, 1) := by decide +kernel
theorem dX0_logical_7 : decode cX0_logical 7 = .ok (.invokevirtual 27, 3) := by decide +kernel
theorem dX0_logical_10 : decode cX0_logical 10 = .ok (.aload_n 0, 1) := by decide +kernel
theorem dX0_logical_11 : decode cX0_logical 11 = .ok (.getfield 7, 3) := by decide +kernel
theorem dX0_logical_14 : decode cX0_logical 14 = .ok (.iload_n 1, 1) := by decide +kernel
theorem dX0_logical_15 : decode cX0_logical 15 = .ok (.invokestatic 37, 3) := by decide +kernel
theorem dX0_logical_18 : decode cX0_logical 18 = .ok (.iload_n 1, 1) := by decide +kernel
theorem dX0_logical_19 : decode cX0_logical 19 = .ok (.invokestatic 44, 3) := by decide +kernel
theorem dX0_logical_22 : decode cX0_logical 22 = .ok (.ior, 1) := by decide +kernel
theorem dX0_logical_23 : decode cX0_logical 23 = .ok (.iload_n 2, 1) := by decide +kernel
theorem dX0_logical_24 : decode cX0_logical 24 = .ok (.ior, 1) := by decide +kernel
theorem dX0_logical_25 : decode cX0_logical 25 = .ok (.invokevirtual 40, 3) := by decide +kernel
theorem dX0_logical_28 : decode cX0_logical 28 = .ok (.return_, 1) := by decide +kernel
def fX0_logical (p1 p2 : Int32) (s0 : zS) : Option (zS) := bd (fX6_loadSingle (7 : Int32) p1 s0) fun s2 => bd (fX0_signAndZero p1) fun r4 => bd (fX0_even p1) fun r6 => bd (fX6_loadFlags ((r4 ||| r6) ||| p2) s2) fun s8 => some s8
set_option maxHeartbeats 4000000 in
set_option maxRecDepth 100000 in
theorem cX0_logical_m {l : Launch} {dC : Nat → ClassId} {dI : Nat → Nat → Nat} {ad : Nat → Nat} {cI : ClassId} {p1 p2 : Int32} {s0 : zS} {s9 : zS} (h : fX0_logical p1 p2 s0 = some s9) : sw_Mv l yX0_logical (sw_ws yX0_logical cX0_logical 3 none) (sw_rm 2 44) (dC, dI) vwCl [(cI, .int)] cF [.ref (ad 6), .int p1, .int p2] (cW ad cI s0) (cW ad cI s9) := by
  intro sz
  refine sw_of (cc := cX0_logical) (maxL := 3) (ret := none) (by decide) rfl (Nat.le_of_ble_eq_true rfl) ?_
  intro p e s m args below meth c A ls hAe hsz X _ hP hD hS hl
  rw [hAe]
  have hx := X.1.1
  have hb := X.1.2.1
  have hown := X.1.2.2.2.1
  have hts := X.1.2.2.2.2
  replace hl : lv_has ls 3 [(0, .ref (ad 6)), (1, .int p1), (2, .int p2)] := hl
  unfold fX0_logical at h
  refine lv_aload_n hx hb dX0_logical_0 rfl (lv_at hl 0 rfl) ?_
  refine cg_6_0 X hP k_122 dX0_logical_1 ?_
  refine lv_bipush (v := (7 : Int32)) hx hb dX0_logical_4 (by decide) ?_
  refine lv_iload_n hx hb dX0_logical_6 rfl (lv_at hl 1 rfl) ?_
  have hq := bd_some h; clear h; obtain ⟨s2, h1, h⟩ := hq
  refine sw_vv (rest := []) c_good X (cX6_loadSingle_m h1) calX6_loadSingle k_567 hP hD hS 4 6 rfl rfl rfl ⟨rfl, rfl⟩ rfl hl.1 rfl (Nat.le_of_ble_eq_true rfl) dX0_logical_7 (fun H locs hP hD hS => ?_)
  refine lv_aload_n hx hb dX0_logical_10 rfl (lv_at hl 0 rfl) ?_
  refine cg_6_0 X hP k_122 dX0_logical_11 ?_
  refine lv_iload_n hx hb dX0_logical_14 rfl (lv_at hl 1 rfl) ?_
  have hq := bd_some h; clear h; obtain ⟨r4, h3, h⟩ := hq
  refine sw_si (rest := [.ref (ad 4)]) c_good X (cX0_signAndZero_m h3) calX0_signAndZero k_545 hP hD hS ⟨rfl, rfl⟩ rfl hl.1 rfl (Nat.le_of_ble_eq_true rfl) dX0_logical_15 (fun H locs hP hD hS => ?_)
  refine lv_iload_n hx hb dX0_logical_18 rfl (lv_at hl 1 rfl) ?_
  have hq := bd_some h; clear h; obtain ⟨r6, h5, h⟩ := hq
  refine sw_si (rest := [.int r4, .ref (ad 4)]) c_good X (cX0_even_m h5) calX0_even k_568 hP hD hS ⟨rfl, rfl⟩ rfl hl.1 rfl (Nat.le_of_ble_eq_true rfl) dX0_logical_19 (fun H locs hP hD hS => ?_)
  refine lv_ior hx hb dX0_logical_22 ?_
  refine lv_iload_n hx hb dX0_logical_23 rfl (lv_at hl 2 rfl) ?_
  refine lv_ior hx hb dX0_logical_24 ?_
  have hq := bd_some h; clear h; obtain ⟨s8, h7, h⟩ := hq
  refine sw_vv (rest := []) c_good X (cX6_loadFlags_m h7) calX6_loadFlags k_499 hP hD hS 4 6 rfl rfl rfl ⟨rfl, rfl⟩ rfl hl.1 rfl (Nat.le_of_ble_eq_true rfl) dX0_logical_25 (fun H locs hP hD hS => ?_)
  obtain rfl := Option.some.inj h
  exact sw_vret X hP hD hS dX0_logical_28
theorem dX0_withA_0 : decode cX0_withA 0 = .ok (.aload_n 0, 1) := by decide +kernel
theorem dX0_withA_1 : decode cX0_withA 1 = .ok (.getfield 7, 3) := by decide +kernel
theorem dX0_withA_4 : decode cX0_withA 4 = .ok (.bipush 7, 2) := by decide +kernel
theorem dX0_withA_6 : decode cX0_withA 6 = .ok (.invokevirtual 15, 3) := by decide +kernel
theorem dX0_withA_9 : decode cX0_withA 9 = .ok (.istore_n 3, 1) := by decide +kernel
theorem dX0_withA_10 : decode cX0_withA 10 = .ok (.aload_n 0, 1) := by decide +kernel
theorem dX0_withA_11 : decode cX0_withA 11 = .ok (.getfield 7, 3) := by decide +kernel
theorem dX0_withA_14 : decode cX0_withA 14 = .ok (.invokevirtual 19, 3) := by decide +kernel
theorem dX0_withA_17 : decode cX0_withA 17 = .ok (.iconst 1, 1) := by decide +kernel
theorem dX0_withA_18 : decode cX0_withA 18 = .ok (.iand, 1) := by decide +kernel
theorem dX0_withA_19 : decode cX0_withA 19 = .ok (.istore 4, 2) := by decide +kernel
theorem dX0_withA_21 : decode cX0_withA 21 = .ok (.iload_n 1, 1) := by decide +kernel
theorem dX0_withA_22 : decode cX0_withA 22 = .ok (.tableswitch 154 0 6 #[42, 61, 81, 100, 120, 132, 143], 42) := by decide +kernel
theorem dX0_withA_64 : decode cX0_withA 64 = .ok (.aload_n 0, 1) := by decide +kernel
theorem dX0_withA_65 : decode cX0_withA 65 = .ok (.getfield 7, 3) := by decide +kernel
theorem dX0_withA_68 : decode cX0_withA 68 = .ok (.bipush 7, 2) := by decide +kernel
theorem dX0_withA_70 : decode cX0_withA 70 = .ok (.aload_n 0, 1) := by decide +kernel
theorem dX0_withA_71 : decode cX0_withA 71 = .ok (.iload_n 3, 1) := by decide +kernel
theorem dX0_withA_72 : decode cX0_withA 72 = .ok (.iload_n 2, 1) := by decide +kernel
theorem dX0_withA_73 : decode cX0_withA 73 = .ok (.iconst 0, 1) := by decide +kernel
theorem dX0_withA_74 : decode cX0_withA 74 = .ok (.invokevirtual 23, 3) := by decide +kernel
theorem dX0_withA_77 : decode cX0_withA 77 = .ok (.invokevirtual 27, 3) := by decide +kernel
theorem dX0_withA_80 : decode cX0_withA 80 = .ok (.goto 104, 3) := by decide +kernel
theorem dX0_withA_83 : decode cX0_withA 83 = .ok (.aload_n 0, 1) := by decide +kernel
theorem dX0_withA_84 : decode cX0_withA 84 = .ok (.getfield 7, 3) := by decide +kernel
theorem dX0_withA_87 : decode cX0_withA 87 = .ok (.bipush 7, 2) := by decide +kernel
theorem dX0_withA_89 : decode cX0_withA 89 = .ok (.aload_n 0, 1) := by decide +kernel
theorem dX0_withA_90 : decode cX0_withA 90 = .ok (.iload_n 3, 1) := by decide +kernel
theorem dX0_withA_91 : decode cX0_withA 91 = .ok (.iload_n 2, 1) := by decide +kernel
theorem dX0_withA_92 : decode cX0_withA 92 = .ok (.iload 4, 2) := by decide +kernel
theorem dX0_withA_94 : decode cX0_withA 94 = .ok (.invokevirtual 23, 3) := by decide +kernel
theorem dX0_withA_97 : decode cX0_withA 97 = .ok (.invokevirtual 27, 3) := by decide +kernel
theorem dX0_withA_100 : decode cX0_withA 100 = .ok (.goto 84, 3) := by decide +kernel
theorem dX0_withA_103 : decode cX0_withA 103 = .ok (.aload_n 0, 1) := by decide +kernel
theorem dX0_withA_104 : decode cX0_withA 104 = .ok (.getfield 7, 3) := by decide +kernel
theorem dX0_withA_107 : decode cX0_withA 107 = .ok (.bipush 7, 2) := by decide +kernel
theorem dX0_withA_109 : decode cX0_withA 109 = .ok (.aload_n 0, 1) := by decide +kernel
theorem dX0_withA_110 : decode cX0_withA 110 = .ok (.iload_n 3, 1) := by decide +kernel
theorem dX0_withA_111 : decode cX0_withA 111 = .ok (.iload_n 2, 1) := by decide +kernel
theorem dX0_withA_112 : decode cX0_withA 112 = .ok (.iconst 0, 1) := by decide +kernel
theorem dX0_withA_113 : decode cX0_withA 113 = .ok (.invokevirtual 31, 3) := by decide +kernel
theorem dX0_withA_116 : decode cX0_withA 116 = .ok (.invokevirtual 27, 3) := by decide +kernel
theorem dX0_withA_119 : decode cX0_withA 119 = .ok (.goto 65, 3) := by decide +kernel
theorem dX0_withA_122 : decode cX0_withA 122 = .ok (.aload_n 0, 1) := by decide +kernel
theorem dX0_withA_123 : decode cX0_withA 123 = .ok (.getfield 7, 3) := by decide +kernel
theorem dX0_withA_126 : decode cX0_withA 126 = .ok (.bipush 7, 2) := by decide +kernel
theorem dX0_withA_128 : decode cX0_withA 128 = .ok (.aload_n 0, 1) := by decide +kernel
theorem dX0_withA_129 : decode cX0_withA 129 = .ok (.iload_n 3, 1) := by decide +kernel
theorem dX0_withA_130 : decode cX0_withA 130 = .ok (.iload_n 2, 1) := by decide +kernel
theorem dX0_withA_131 : decode cX0_withA 131 = .ok (.iload 4, 2) := by decide +kernel
theorem dX0_withA_133 : decode cX0_withA 133 = .ok (.invokevirtual 31, 3) := by decide +kernel
theorem dX0_withA_136 : decode cX0_withA 136 = .ok (.invokevirtual 27, 3) := by decide +kernel
theorem dX0_withA_139 : decode cX0_withA 139 = .ok (.goto 45, 3) := by decide +kernel
theorem dX0_withA_142 : decode cX0_withA 142 = .ok (.aload_n 0, 1) := by decide +kernel
theorem dX0_withA_143 : decode cX0_withA 143 = .ok (.iload_n 3, 1) := by decide +kernel
theorem dX0_withA_144 : decode cX0_withA 144 = .ok (.iload_n 2, 1) := by decide +kernel
theorem dX0_withA_145 : decode cX0_withA 145 = .ok (.iand, 1) := by decide +kernel
theorem dX0_withA_146 : decode cX0_withA 146 = .ok (.bipush 16, 2) := by decide +kernel
theorem dX0_withA_148 : decode cX0_withA 148 = .ok (.invokevirtual 34, 3) := by decide +kernel
theorem dX0_withA_151 : decode cX0_withA 151 = .ok (.goto 33, 3) := by decide +kernel
theorem dX0_withA_154 : decode cX0_withA 154 = .ok (.aload_n 0, 1) := by decide +kernel
theorem dX0_withA_155 : decode cX0_withA 155 = .ok (.iload_n 3, 1) := by decide +kernel
theorem dX0_withA_156 : decode cX0_withA 156 = .ok (.iload_n 2, 1) := by decide +kernel
theorem dX0_withA_157 : decode cX0_withA 157 = .ok (.ixor, 1) := by decide +kernel
theorem dX0_withA_158 : decode cX0_withA 158 = .ok (.iconst 0, 1) := by decide +kernel
theorem dX0_withA_159 : decode cX0_withA 159 = .ok (.invokevirtual 34, 3) := by decide +kernel
theorem dX0_withA_162 : decode cX0_withA 162 = .ok (.goto 22, 3) := by decide +kernel
theorem dX0_withA_165 : decode cX0_withA 165 = .ok (.aload_n 0, 1) := by decide +kernel
theorem dX0_withA_166 : decode cX0_withA 166 = .ok (.iload_n 3, 1) := by decide +kernel
theorem dX0_withA_167 : decode cX0_withA 167 = .ok (.iload_n 2, 1) := by decide +kernel
theorem dX0_withA_168 : decode cX0_withA 168 = .ok (.ior, 1) := by decide +kernel
theorem dX0_withA_169 : decode cX0_withA 169 = .ok (.iconst 0, 1) := by decide +kernel
theorem dX0_withA_170 : decode cX0_withA 170 = .ok (.invokevirtual 34, 3) := by decide +kernel
theorem dX0_withA_173 : decode cX0_withA 173 = .ok (.goto 11, 3) := by decide +kernel
theorem dX0_withA_176 : decode cX0_withA 176 = .ok (.aload_n 0, 1) := by decide +kernel
theorem dX0_withA_177 : decode cX0_withA 177 = .ok (.iload_n 3, 1) := by decide +kernel
theorem dX0_withA_178 : decode cX0_withA 178 = .ok (.iload_n 2, 1) := by decide +kernel
theorem dX0_withA_179 : decode cX0_withA 179 = .ok (.iconst 0, 1) := by decide +kernel
theorem dX0_withA_180 : decode cX0_withA 180 = .ok (.invokevirtual 31, 3) := by decide +kernel
theorem dX0_withA_183 : decode cX0_withA 183 = .ok (.pop, 1) := by decide +kernel
theorem dX0_withA_184 : decode cX0_withA 184 = .ok (.return_, 1) := by decide +kernel
def fX0_withA (p1 p2 : Int32) (s0 : zS) : Option (zS) := bd2 (fX6_single (7 : Int32) s0) fun r2 s3 => bd2 (fX6_flags  s3) fun r5 s6 => nm (r5 &&& (1 : Int32)) fun x7 => if p1 ∈ ([(0 : Int32)] : List Int32) then (bd2 (fX0_sum r2 p2 (0 : Int32) s6) fun r10 s11 => bd (fX6_loadSingle (7 : Int32) r10 s11) fun s13 => some s13) else if p1 ∈ ([(1 : Int32)] : List Int32) then (bd2 (fX0_sum r2 p2 x7 s6) fun r16 s17 => bd (fX6_loadSingle (7 : Int32) r16 s17) fun s19 => some s19) else if p1 ∈ ([(2 : Int32)] : List Int32) then (bd2 (fX0_difference r2 p2 (0 : Int32) s6) fun r22 s23 => bd (fX6_loadSingle (7 : Int32) r22 s23) fun s25 => some s25) else if p1 ∈ ([(3 : Int32)] : List Int32) then (bd2 (fX0_difference r2 p2 x7 s6) fun r28 s29 => bd (fX6_loadSingle (7 : Int32) r28 s29) fun s31 => some s31) else if p1 ∈ ([(4 : Int32)] : List Int32) then (bd (fX0_logical (r2 &&& p2) (16 : Int32) s6) fun s34 => some s34) else if p1 ∈ ([(5 : Int32)] : List Int32) then (bd (fX0_logical (r2 ^^^ p2) (0 : Int32) s6) fun s37 => some s37) else if p1 ∈ ([(6 : Int32)] : List Int32) then (bd (fX0_logical (r2 ||| p2) (0 : Int32) s6) fun s40 => some s40) else (bd2 (fX0_difference r2 p2 (0 : Int32) s6) fun r42 s43 => some s43)
set_option maxHeartbeats 4000000 in
set_option maxRecDepth 100000 in
theorem cX0_withA_m {l : Launch} {dC : Nat → ClassId} {dI : Nat → Nat → Nat} {ad : Nat → Nat} {cI : ClassId} {p1 p2 : Int32} {s0 : zS} {s9 : zS} (h : fX0_withA p1 p2 s0 = some s9) : sw_Mv l yX0_withA (sw_ws yX0_withA cX0_withA 5 none) (sw_rm 3 66) (dC, dI) vwCl [(cI, .int)] cF [.ref (ad 6), .int p1, .int p2] (cW ad cI s0) (cW ad cI s9) := by
  intro sz
  refine sw_of (cc := cX0_withA) (maxL := 5) (ret := none) (by decide) rfl (Nat.le_of_ble_eq_true rfl) ?_
  intro p e s m args below meth c A ls hAe hsz X _ hP hD hS hl
  rw [hAe]
  have hx := X.1.1
  have hb := X.1.2.1
  have hown := X.1.2.2.2.1
  have hts := X.1.2.2.2.2
  replace hl : lv_has ls 5 [(0, .ref (ad 6)), (1, .int p1), (2, .int p2)] := hl
  unfold fX0_withA at h
  refine lv_aload_n hx hb dX0_withA_0 rfl (lv_at hl 0 rfl) ?_
  refine cg_6_0 X hP k_122 dX0_withA_1 ?_
  refine lv_bipush (v := (7 : Int32)) hx hb dX0_withA_4 (by decide) ?_
  have hq := bd2_some h; clear h; obtain ⟨r2, s3, h1, h⟩ := hq
  refine sw_vi (rest := []) c_good X (cX6_single_m h1) calX6_single k_566 hP hD hS 4 6 rfl rfl rfl ⟨rfl, rfl⟩ rfl hl.1 rfl (Nat.le_of_ble_eq_true rfl) dX0_withA_6 (fun H locs hP hD hS => ?_)
  refine lv_istore_n (lv' := [(3, .int r2), (0, .ref (ad 6)), (1, .int p1), (2, .int p2)]) hx hb dX0_withA_9 rfl hl (by decide) rfl (fun ls hl => ?_)
  refine lv_aload_n hx hb dX0_withA_10 rfl (lv_at hl 1 rfl) ?_
  refine cg_6_0 X hP k_122 dX0_withA_11 ?_
  have hq := bd2_some h; clear h; obtain ⟨r5, s6, h4, h⟩ := hq
  refine sw_vi (rest := []) c_good X (cX6_flags_m h4) calX6_flags k_498 hP hD hS 4 6 rfl rfl rfl ⟨rfl, rfl⟩ rfl hl.1 rfl (Nat.le_of_ble_eq_true rfl) dX0_withA_14 (fun H locs hP hD hS => ?_)
  refine lv_iconst (v := (1 : Int32)) hx hb dX0_withA_17 (by decide) ?_
  refine lv_iand hx hb dX0_withA_18 ?_
  refine lv_topi (fun x7 ex7 => ?_)
  replace h := nm_use ex7 h
  refine lv_istore (lv' := [(4, .int x7), (3, .int r2), (0, .ref (ad 6)), (1, .int p1), (2, .int p2)]) hx hb dX0_withA_19 hl (by decide) rfl (fun ls hl => ?_)
  refine lv_iload_n hx hb dX0_withA_21 rfl (lv_at hl 3 rfl) ?_
  by_cases c8 : p1 ∈ ([(0 : Int32)] : List Int32)
  · replace h := if_yes h c8
    refine sw_tabK (tgt := 64) (off := 42) hx hb dX0_withA_22 _ c8 (by decide +kernel) (by decide) ?_
    refine lv_aload_n hx hb dX0_withA_64 rfl (lv_at hl 2 rfl) ?_
    refine cg_6_0 X hP k_122 dX0_withA_65 ?_
    refine lv_bipush (v := (7 : Int32)) hx hb dX0_withA_68 (by decide) ?_
    refine lv_aload_n hx hb dX0_withA_70 rfl (lv_at hl 2 rfl) ?_
    refine lv_iload_n hx hb dX0_withA_71 rfl (lv_at hl 1 rfl) ?_
    refine lv_iload_n hx hb dX0_withA_72 rfl (lv_at hl 4 rfl) ?_
    refine lv_iconst (v := (0 : Int32)) hx hb dX0_withA_73 (by decide) ?_
    have hq := bd2_some h; clear h; obtain ⟨r10, s11, h9, h⟩ := hq
    refine sw_vi (rest := [.int (7 : Int32), .ref (ad 4)]) c_good X (cX0_sum_m h9) calX0_sum k_607 hP hD hS 6 0 rfl rfl rfl ⟨rfl, rfl⟩ rfl hl.1 rfl (Nat.le_of_ble_eq_true rfl) dX0_withA_74 (fun H locs hP hD hS => ?_)
    have hq := bd_some h; clear h; obtain ⟨s13, h12, h⟩ := hq
    refine sw_vv (rest := []) c_good X (cX6_loadSingle_m h12) calX6_loadSingle k_567 hP hD hS 4 6 rfl rfl rfl ⟨rfl, rfl⟩ rfl hl.1 rfl (Nat.le_of_ble_eq_true rfl) dX0_withA_77 (fun H locs hP hD hS => ?_)
    refine lv_goto (tgt := 184) hx hb dX0_withA_80 (by decide) ?_
    obtain rfl := Option.some.inj h
    exact sw_vret X hP hD hS dX0_withA_184
  · replace h := if_no h c8
    by_cases c14 : p1 ∈ ([(1 : Int32)] : List Int32)
    · replace h := if_yes h c14
      refine sw_tabK (tgt := 83) (off := 61) hx hb dX0_withA_22 _ c14 (by decide +kernel) (by decide) ?_
      refine lv_aload_n hx hb dX0_withA_83 rfl (lv_at hl 2 rfl) ?_
      refine cg_6_0 X hP k_122 dX0_withA_84 ?_
      refine lv_bipush (v := (7 : Int32)) hx hb dX0_withA_87 (by decide) ?_
      refine lv_aload_n hx hb dX0_withA_89 rfl (lv_at hl 2 rfl) ?_
      refine lv_iload_n hx hb dX0_withA_90 rfl (lv_at hl 1 rfl) ?_
      refine lv_iload_n hx hb dX0_withA_91 rfl (lv_at hl 4 rfl) ?_
      refine lv_iload hx hb dX0_withA_92 (lv_at hl 0 rfl) ?_
      have hq := bd2_some h; clear h; obtain ⟨r16, s17, h15, h⟩ := hq
      refine sw_vi (rest := [.int (7 : Int32), .ref (ad 4)]) c_good X (cX0_sum_m h15) calX0_sum k_607 hP hD hS 6 0 rfl rfl rfl ⟨rfl, rfl⟩ rfl hl.1 rfl (Nat.le_of_ble_eq_true rfl) dX0_withA_94 (fun H locs hP hD hS => ?_)
      have hq := bd_some h; clear h; obtain ⟨s19, h18, h⟩ := hq
      refine sw_vv (rest := []) c_good X (cX6_loadSingle_m h18) calX6_loadSingle k_567 hP hD hS 4 6 rfl rfl rfl ⟨rfl, rfl⟩ rfl hl.1 rfl (Nat.le_of_ble_eq_true rfl) dX0_withA_97 (fun H locs hP hD hS => ?_)
      refine lv_goto (tgt := 184) hx hb dX0_withA_100 (by decide) ?_
      obtain rfl := Option.some.inj h
      exact sw_vret X hP hD hS dX0_withA_184
    · replace h := if_no h c14
      by_cases c20 : p1 ∈ ([(2 : Int32)] : List Int32)
      · replace h := if_yes h c20
        refine sw_tabK (tgt := 103) (off := 81) hx hb dX0_withA_22 _ c20 (by decide +kernel) (by decide) ?_
        refine lv_aload_n hx hb dX0_withA_103 rfl (lv_at hl 2 rfl) ?_
        refine cg_6_0 X hP k_122 dX0_withA_104 ?_
        refine lv_bipush (v := (7 : Int32)) hx hb dX0_withA_107 (by decide) ?_
        refine lv_aload_n hx hb dX0_withA_109 rfl (lv_at hl 2 rfl) ?_
        refine lv_iload_n hx hb dX0_withA_110 rfl (lv_at hl 1 rfl) ?_
        refine lv_iload_n hx hb dX0_withA_111 rfl (lv_at hl 4 rfl) ?_
        refine lv_iconst (v := (0 : Int32)) hx hb dX0_withA_112 (by decide) ?_
        have hq := bd2_some h; clear h; obtain ⟨r22, s23, h21, h⟩ := hq
        refine sw_vi (rest := [.int (7 : Int32), .ref (ad 4)]) c_good X (cX0_difference_m h21) calX0_difference k_611 hP hD hS 6 0 rfl rfl rfl ⟨rfl, rfl⟩ rfl hl.1 rfl (Nat.le_of_ble_eq_true rfl) dX0_withA_113 (fun H locs hP hD hS => ?_)
        have hq := bd_some h; clear h; obtain ⟨s25, h24, h⟩ := hq
        refine sw_vv (rest := []) c_good X (cX6_loadSingle_m h24) calX6_loadSingle k_567 hP hD hS 4 6 rfl rfl rfl ⟨rfl, rfl⟩ rfl hl.1 rfl (Nat.le_of_ble_eq_true rfl) dX0_withA_116 (fun H locs hP hD hS => ?_)
        refine lv_goto (tgt := 184) hx hb dX0_withA_119 (by decide) ?_
        obtain rfl := Option.some.inj h
        exact sw_vret X hP hD hS dX0_withA_184
      · replace h := if_no h c20
        by_cases c26 : p1 ∈ ([(3 : Int32)] : List Int32)
        · replace h := if_yes h c26
          refine sw_tabK (tgt := 122) (off := 100) hx hb dX0_withA_22 _ c26 (by decide +kernel) (by decide) ?_
          refine lv_aload_n hx hb dX0_withA_122 rfl (lv_at hl 2 rfl) ?_
          refine cg_6_0 X hP k_122 dX0_withA_123 ?_
          refine lv_bipush (v := (7 : Int32)) hx hb dX0_withA_126 (by decide) ?_
          refine lv_aload_n hx hb dX0_withA_128 rfl (lv_at hl 2 rfl) ?_
          refine lv_iload_n hx hb dX0_withA_129 rfl (lv_at hl 1 rfl) ?_
          refine lv_iload_n hx hb dX0_withA_130 rfl (lv_at hl 4 rfl) ?_
          refine lv_iload hx hb dX0_withA_131 (lv_at hl 0 rfl) ?_
          have hq := bd2_some h; clear h; obtain ⟨r28, s29, h27, h⟩ := hq
          refine sw_vi (rest := [.int (7 : Int32), .ref (ad 4)]) c_good X (cX0_difference_m h27) calX0_difference k_611 hP hD hS 6 0 rfl rfl rfl ⟨rfl, rfl⟩ rfl hl.1 rfl (Nat.le_of_ble_eq_true rfl) dX0_withA_133 (fun H locs hP hD hS => ?_)
          have hq := bd_some h; clear h; obtain ⟨s31, h30, h⟩ := hq
          refine sw_vv (rest := []) c_good X (cX6_loadSingle_m h30) calX6_loadSingle k_567 hP hD hS 4 6 rfl rfl rfl ⟨rfl, rfl⟩ rfl hl.1 rfl (Nat.le_of_ble_eq_true rfl) dX0_withA_136 (fun H locs hP hD hS => ?_)
          refine lv_goto (tgt := 184) hx hb dX0_withA_139 (by decide) ?_
          obtain rfl := Option.some.inj h
          exact sw_vret X hP hD hS dX0_withA_184
        · replace h := if_no h c26
          by_cases c32 : p1 ∈ ([(4 : Int32)] : List Int32)
          · replace h := if_yes h c32
            refine sw_tabK (tgt := 142) (off := 120) hx hb dX0_withA_22 _ c32 (by decide +kernel) (by decide) ?_
            refine lv_aload_n hx hb dX0_withA_142 rfl (lv_at hl 2 rfl) ?_
            refine lv_iload_n hx hb dX0_withA_143 rfl (lv_at hl 1 rfl) ?_
            refine lv_iload_n hx hb dX0_withA_144 rfl (lv_at hl 4 rfl) ?_
            refine lv_iand hx hb dX0_withA_145 ?_
            refine lv_bipush (v := (16 : Int32)) hx hb dX0_withA_146 (by decide) ?_
            have hq := bd_some h; clear h; obtain ⟨s34, h33, h⟩ := hq
            refine sw_vv (rest := []) c_good X (cX0_logical_m h33) calX0_logical k_615 hP hD hS 6 0 rfl rfl rfl ⟨rfl, rfl⟩ rfl hl.1 rfl (Nat.le_of_ble_eq_true rfl) dX0_withA_148 (fun H locs hP hD hS => ?_)
            refine lv_goto (tgt := 184) hx hb dX0_withA_151 (by decide) ?_
            obtain rfl := Option.some.inj h
            exact sw_vret X hP hD hS dX0_withA_184
          · replace h := if_no h c32
            by_cases c35 : p1 ∈ ([(5 : Int32)] : List Int32)
            · replace h := if_yes h c35
              refine sw_tabK (tgt := 154) (off := 132) hx hb dX0_withA_22 _ c35 (by decide +kernel) (by decide) ?_
              refine lv_aload_n hx hb dX0_withA_154 rfl (lv_at hl 2 rfl) ?_
              refine lv_iload_n hx hb dX0_withA_155 rfl (lv_at hl 1 rfl) ?_
              refine lv_iload_n hx hb dX0_withA_156 rfl (lv_at hl 4 rfl) ?_
              refine lv_ixor hx hb dX0_withA_157 ?_
              refine lv_iconst (v := (0 : Int32)) hx hb dX0_withA_158 (by decide) ?_
              have hq := bd_some h; clear h; obtain ⟨s37, h36, h⟩ := hq
              refine sw_vv (rest := []) c_good X (cX0_logical_m h36) calX0_logical k_615 hP hD hS 6 0 rfl rfl rfl ⟨rfl, rfl⟩ rfl hl.1 rfl (Nat.le_of_ble_eq_true rfl) dX0_withA_159 (fun H locs hP hD hS => ?_)
              refine lv_goto (tgt := 184) hx hb dX0_withA_162 (by decide) ?_
              obtain rfl := Option.some.inj h
              exact sw_vret X hP hD hS dX0_withA_184
            · replace h := if_no h c35
              by_cases c38 : p1 ∈ ([(6 : Int32)] : List Int32)
              · replace h := if_yes h c38
                refine sw_tabK (tgt := 165) (off := 143) hx hb dX0_withA_22 _ c38 (by decide +kernel) (by decide) ?_
                refine lv_aload_n hx hb dX0_withA_165 rfl (lv_at hl 2 rfl) ?_
                refine lv_iload_n hx hb dX0_withA_166 rfl (lv_at hl 1 rfl) ?_
                refine lv_iload_n hx hb dX0_withA_167 rfl (lv_at hl 4 rfl) ?_
                refine lv_ior hx hb dX0_withA_168 ?_
                refine lv_iconst (v := (0 : Int32)) hx hb dX0_withA_169 (by decide) ?_
                have hq := bd_some h; clear h; obtain ⟨s40, h39, h⟩ := hq
                refine sw_vv (rest := []) c_good X (cX0_logical_m h39) calX0_logical k_615 hP hD hS 6 0 rfl rfl rfl ⟨rfl, rfl⟩ rfl hl.1 rfl (Nat.le_of_ble_eq_true rfl) dX0_withA_170 (fun H locs hP hD hS => ?_)
                refine lv_goto (tgt := 184) hx hb dX0_withA_173 (by decide) ?_
                obtain rfl := Option.some.inj h
                exact sw_vret X hP hD hS dX0_withA_184
              · replace h := if_no h c38
                refine sw_tabD (tgt := 176) hx hb dX0_withA_22 (([(0 : Int32)] : List Int32) ++ (([(1 : Int32)] : List Int32) ++ (([(2 : Int32)] : List Int32) ++ (([(3 : Int32)] : List Int32) ++ (([(4 : Int32)] : List Int32) ++ (([(5 : Int32)] : List Int32) ++ ([(6 : Int32)] : List Int32))))))) (fun hm => (List.mem_append.mp hm).elim c8 (fun hm => (List.mem_append.mp hm).elim c14 (fun hm => (List.mem_append.mp hm).elim c20 (fun hm => (List.mem_append.mp hm).elim c26 (fun hm => (List.mem_append.mp hm).elim c32 (fun hm => (List.mem_append.mp hm).elim c35 c38)))))) (by decide +kernel) (by decide) ?_
                refine lv_aload_n hx hb dX0_withA_176 rfl (lv_at hl 2 rfl) ?_
                refine lv_iload_n hx hb dX0_withA_177 rfl (lv_at hl 1 rfl) ?_
                refine lv_iload_n hx hb dX0_withA_178 rfl (lv_at hl 4 rfl) ?_
                refine lv_iconst (v := (0 : Int32)) hx hb dX0_withA_179 (by decide) ?_
                have hq := bd2_some h; clear h; obtain ⟨r42, s43, h41, h⟩ := hq
                refine sw_vi (rest := []) c_good X (cX0_difference_m h41) calX0_difference k_611 hP hD hS 6 0 rfl rfl rfl ⟨rfl, rfl⟩ rfl hl.1 rfl (Nat.le_of_ble_eq_true rfl) dX0_withA_180 (fun H locs hP hD hS => ?_)
                refine lv_pop hx hb dX0_withA_183 rfl ?_
                obtain rfl := Option.some.inj h
                exact sw_vret X hP hD hS dX0_withA_184
theorem dX0_negate_0 : decode cX0_negate 0 = .ok (.aload_n 0, 1) := by decide +kernel
theorem dX0_negate_1 : decode cX0_negate 1 = .ok (.getfield 7, 3) := by decide +kernel
theorem dX0_negate_4 : decode cX0_negate 4 = .ok (.bipush 7, 2) := by decide +kernel
theorem dX0_negate_6 : decode cX0_negate 6 = .ok (.invokevirtual 15, 3) := by decide +kernel
theorem dX0_negate_9 : decode cX0_negate 9 = .ok (.istore_n 1, 1) := by decide +kernel
theorem dX0_negate_10 : decode cX0_negate 10 = .ok (.aload_n 0, 1) := by decide +kernel
theorem dX0_negate_11 : decode cX0_negate 11 = .ok (.getfield 7, 3) := by decide +kernel
theorem dX0_negate_14 : decode cX0_negate 14 = .ok (.bipush 7, 2) := by decide +kernel
theorem dX0_negate_16 : decode cX0_negate 16 = .ok (.aload_n 0, 1) := by decide +kernel
theorem dX0_negate_17 : decode cX0_negate 17 = .ok (.iconst 0, 1) := by decide +kernel
theorem dX0_negate_18 : decode cX0_negate 18 = .ok (.iload_n 1, 1) := by decide +kernel
theorem dX0_negate_19 : decode cX0_negate 19 = .ok (.iconst 0, 1) := by decide +kernel
theorem dX0_negate_20 : decode cX0_negate 20 = .ok (.invokevirtual 31, 3) := by decide +kernel
theorem dX0_negate_23 : decode cX0_negate 23 = .ok (.invokevirtual 27, 3) := by decide +kernel
theorem dX0_negate_26 : decode cX0_negate 26 = .ok (.return_, 1) := by decide +kernel
def fX0_negate (s0 : zS) : Option (zS) := bd2 (fX6_single (7 : Int32) s0) fun r2 s3 => bd2 (fX0_difference (0 : Int32) r2 (0 : Int32) s3) fun r5 s6 => bd (fX6_loadSingle (7 : Int32) r5 s6) fun s8 => some s8
set_option maxHeartbeats 4000000 in
set_option maxRecDepth 100000 in
theorem cX0_negate_m {l : Launch} {dC : Nat → ClassId} {dI : Nat → Nat → Nat} {ad : Nat → Nat} {cI : ClassId} {s0 : zS} {s9 : zS} (h : fX0_negate  s0 = some s9) : sw_Mv l yX0_negate (sw_ws yX0_negate cX0_negate 2 none) (sw_rm 2 48) (dC, dI) vwCl [(cI, .int)] cF [.ref (ad 6)] (cW ad cI s0) (cW ad cI s9) := by
  intro sz
  refine sw_of (cc := cX0_negate) (maxL := 2) (ret := none) (by decide) rfl (Nat.le_of_ble_eq_true rfl) ?_
  intro p e s m args below meth c A ls hAe hsz X _ hP hD hS hl
  rw [hAe]
  have hx := X.1.1
  have hb := X.1.2.1
  have hown := X.1.2.2.2.1
  have hts := X.1.2.2.2.2
  replace hl : lv_has ls 2 [(0, .ref (ad 6))] := hl
  unfold fX0_negate at h
  refine lv_aload_n hx hb dX0_negate_0 rfl (lv_at hl 0 rfl) ?_
  refine cg_6_0 X hP k_122 dX0_negate_1 ?_
  refine lv_bipush (v := (7 : Int32)) hx hb dX0_negate_4 (by decide) ?_
  have hq := bd2_some h; clear h; obtain ⟨r2, s3, h1, h⟩ := hq
  refine sw_vi (rest := []) c_good X (cX6_single_m h1) calX6_single k_566 hP hD hS 4 6 rfl rfl rfl ⟨rfl, rfl⟩ rfl hl.1 rfl (Nat.le_of_ble_eq_true rfl) dX0_negate_6 (fun H locs hP hD hS => ?_)
  refine lv_istore_n (lv' := [(1, .int r2), (0, .ref (ad 6))]) hx hb dX0_negate_9 rfl hl (by decide) rfl (fun ls hl => ?_)
  refine lv_aload_n hx hb dX0_negate_10 rfl (lv_at hl 1 rfl) ?_
  refine cg_6_0 X hP k_122 dX0_negate_11 ?_
  refine lv_bipush (v := (7 : Int32)) hx hb dX0_negate_14 (by decide) ?_
  refine lv_aload_n hx hb dX0_negate_16 rfl (lv_at hl 1 rfl) ?_
  refine lv_iconst (v := (0 : Int32)) hx hb dX0_negate_17 (by decide) ?_
  refine lv_iload_n hx hb dX0_negate_18 rfl (lv_at hl 0 rfl) ?_
  refine lv_iconst (v := (0 : Int32)) hx hb dX0_negate_19 (by decide) ?_
  have hq := bd2_some h; clear h; obtain ⟨r5, s6, h4, h⟩ := hq
  refine sw_vi (rest := [.int (7 : Int32), .ref (ad 4)]) c_good X (cX0_difference_m h4) calX0_difference k_611 hP hD hS 6 0 rfl rfl rfl ⟨rfl, rfl⟩ rfl hl.1 rfl (Nat.le_of_ble_eq_true rfl) dX0_negate_20 (fun H locs hP hD hS => ?_)
  have hq := bd_some h; clear h; obtain ⟨s8, h7, h⟩ := hq
  refine sw_vv (rest := []) c_good X (cX6_loadSingle_m h7) calX6_loadSingle k_567 hP hD hS 4 6 rfl rfl rfl ⟨rfl, rfl⟩ rfl hl.1 rfl (Nat.le_of_ble_eq_true rfl) dX0_negate_23 (fun H locs hP hD hS => ?_)
  obtain rfl := Option.some.inj h
  exact sw_vret X hP hD hS dX0_negate_26
end
