section
-- ===== PART A: goes FIRST, ahead of the names: the tables' words, and 'selects' of the private methods out of them =====
/-- a private method of a class that the tables say can be made, by its rows of tables_1 -/
def lw_okq (q : MethodName × Nat) : Prop := (q.1.cls ≠ "java/lang/invoke/MethodHandle" ∧ q.1.cls ≠ "java/lang/invoke/VarHandle") ∧ Cond.instantiable q.1.cls q.2 ∈ tables_1 ∧ Cond.privateMethod q.1 ∈ tables_1 ∧ Cond.instanceMethod q.1 ∈ tables_1
theorem lw_p0 : lw_okq (⟨"java/lang/Throwable", "fillInStackTrace", "(I)Ljava/lang/Throwable;"⟩, 6) := ⟨⟨by decide +kernel, by decide +kernel⟩, List.mem_of_getElem? (i := 250) (by decide +kernel), List.mem_of_getElem? (i := 248) (by decide +kernel), List.mem_of_getElem? (i := 249) (by decide +kernel)⟩
theorem lw_p1 : lw_okq (⟨"SpectrumBoard$Processor", "interrupt", "()V"⟩, 11) := ⟨⟨by decide +kernel, by decide +kernel⟩, List.mem_of_getElem? (i := 111) (by decide +kernel), List.mem_of_getElem? (i := 375) (by decide +kernel), List.mem_of_getElem? (i := 376) (by decide +kernel)⟩
theorem lw_p2 : lw_okq (⟨"SpectrumBoard$Processor", "isTrapNext", "()Z"⟩, 11) := ⟨⟨by decide +kernel, by decide +kernel⟩, List.mem_of_getElem? (i := 111) (by decide +kernel), List.mem_of_getElem? (i := 411) (by decide +kernel), List.mem_of_getElem? (i := 412) (by decide +kernel)⟩
theorem lw_p3 : lw_okq (⟨"SpectrumBoard$Processor", "executeFirstQuarter", "(II)V"⟩, 11) := ⟨⟨by decide +kernel, by decide +kernel⟩, List.mem_of_getElem? (i := 111) (by decide +kernel), List.mem_of_getElem? (i := 428) (by decide +kernel), List.mem_of_getElem? (i := 429) (by decide +kernel)⟩
theorem lw_p4 : lw_okq (⟨"SpectrumBoard$Processor", "jumpNear", "(I)V"⟩, 11) := ⟨⟨by decide +kernel, by decide +kernel⟩, List.mem_of_getElem? (i := 111) (by decide +kernel), List.mem_of_getElem? (i := 432) (by decide +kernel), List.mem_of_getElem? (i := 433) (by decide +kernel)⟩
theorem lw_p5 : lw_okq (⟨"SpectrumBoard$Processor", "countDown", "()Z"⟩, 11) := ⟨⟨by decide +kernel, by decide +kernel⟩, List.mem_of_getElem? (i := 111) (by decide +kernel), List.mem_of_getElem? (i := 448) (by decide +kernel), List.mem_of_getElem? (i := 449) (by decide +kernel)⟩
theorem lw_p6 : lw_okq (⟨"SpectrumBoard$Processor", "jumpBy", "(IZ)V"⟩, 11) := ⟨⟨by decide +kernel, by decide +kernel⟩, List.mem_of_getElem? (i := 111) (by decide +kernel), List.mem_of_getElem? (i := 467) (by decide +kernel), List.mem_of_getElem? (i := 468) (by decide +kernel)⟩
theorem lw_p7 : lw_okq (⟨"SpectrumBoard$Processor", "loadPairOrAdd", "(I)V"⟩, 11) := ⟨⟨by decide +kernel, by decide +kernel⟩, List.mem_of_getElem? (i := 111) (by decide +kernel), List.mem_of_getElem? (i := 482) (by decide +kernel), List.mem_of_getElem? (i := 483) (by decide +kernel)⟩
theorem lw_p8 : lw_okq (⟨"SpectrumBoard$Processor", "loadByAddress", "(I)V"⟩, 11) := ⟨⟨by decide +kernel, by decide +kernel⟩, List.mem_of_getElem? (i := 111) (by decide +kernel), List.mem_of_getElem? (i := 504) (by decide +kernel), List.mem_of_getElem? (i := 505) (by decide +kernel)⟩
theorem lw_p9 : lw_okq (⟨"SpectrumBoard$Processor", "storeA", "(I)V"⟩, 11) := ⟨⟨by decide +kernel, by decide +kernel⟩, List.mem_of_getElem? (i := 111) (by decide +kernel), List.mem_of_getElem? (i := 508) (by decide +kernel), List.mem_of_getElem? (i := 509) (by decide +kernel)⟩
theorem lw_p10 : lw_okq (⟨"SpectrumBoard$Processor", "loadA", "(I)V"⟩, 11) := ⟨⟨by decide +kernel, by decide +kernel⟩, List.mem_of_getElem? (i := 111) (by decide +kernel), List.mem_of_getElem? (i := 513) (by decide +kernel), List.mem_of_getElem? (i := 514) (by decide +kernel)⟩
theorem lw_p11 : lw_okq (⟨"SpectrumBoard$Processor", "stepPair", "(I)V"⟩, 11) := ⟨⟨by decide +kernel, by decide +kernel⟩, List.mem_of_getElem? (i := 111) (by decide +kernel), List.mem_of_getElem? (i := 526) (by decide +kernel), List.mem_of_getElem? (i := 527) (by decide +kernel)⟩
theorem lw_p12 : lw_okq (⟨"SpectrumBoard$Processor", "stepOperand", "(IZ)V"⟩, 11) := ⟨⟨by decide +kernel, by decide +kernel⟩, List.mem_of_getElem? (i := 111) (by decide +kernel), List.mem_of_getElem? (i := 530) (by decide +kernel), List.mem_of_getElem? (i := 531) (by decide +kernel)⟩
theorem lw_p13 : lw_okq (⟨"SpectrumBoard$Processor", "changeA", "(I)V"⟩, 11) := ⟨⟨by decide +kernel, by decide +kernel⟩, List.mem_of_getElem? (i := 111) (by decide +kernel), List.mem_of_getElem? (i := 559) (by decide +kernel), List.mem_of_getElem? (i := 560) (by decide +kernel)⟩
theorem lw_p14 : lw_okq (⟨"SpectrumBoard$Processor", "loadOrHalt", "(II)V"⟩, 11) := ⟨⟨by decide +kernel, by decide +kernel⟩, List.mem_of_getElem? (i := 111) (by decide +kernel), List.mem_of_getElem? (i := 600) (by decide +kernel), List.mem_of_getElem? (i := 601) (by decide +kernel)⟩
theorem lw_p15 : lw_okq (⟨"SpectrumBoard$Arithmetic", "sum", "(III)I"⟩, 1) := ⟨⟨by decide +kernel, by decide +kernel⟩, List.mem_of_getElem? (i := 117) (by decide +kernel), List.mem_of_getElem? (i := 608) (by decide +kernel), List.mem_of_getElem? (i := 609) (by decide +kernel)⟩
def lw_privs_1 : List (MethodName × Nat) := [(⟨"java/lang/Throwable", "fillInStackTrace", "(I)Ljava/lang/Throwable;"⟩, 6), (⟨"SpectrumBoard$Processor", "interrupt", "()V"⟩, 11), (⟨"SpectrumBoard$Processor", "isTrapNext", "()Z"⟩, 11), (⟨"SpectrumBoard$Processor", "executeFirstQuarter", "(II)V"⟩, 11), (⟨"SpectrumBoard$Processor", "jumpNear", "(I)V"⟩, 11), (⟨"SpectrumBoard$Processor", "countDown", "()Z"⟩, 11), (⟨"SpectrumBoard$Processor", "jumpBy", "(IZ)V"⟩, 11), (⟨"SpectrumBoard$Processor", "loadPairOrAdd", "(I)V"⟩, 11), (⟨"SpectrumBoard$Processor", "loadByAddress", "(I)V"⟩, 11), (⟨"SpectrumBoard$Processor", "storeA", "(I)V"⟩, 11), (⟨"SpectrumBoard$Processor", "loadA", "(I)V"⟩, 11), (⟨"SpectrumBoard$Processor", "stepPair", "(I)V"⟩, 11), (⟨"SpectrumBoard$Processor", "stepOperand", "(IZ)V"⟩, 11), (⟨"SpectrumBoard$Processor", "changeA", "(I)V"⟩, 11), (⟨"SpectrumBoard$Processor", "loadOrHalt", "(II)V"⟩, 11), (⟨"SpectrumBoard$Arithmetic", "sum", "(III)I"⟩, 1)]
theorem lw_r1 : ∀ q ∈ lw_privs_1, lw_okq q := List.forall_mem_cons.mpr ⟨lw_p0, List.forall_mem_cons.mpr ⟨lw_p1, List.forall_mem_cons.mpr ⟨lw_p2, List.forall_mem_cons.mpr ⟨lw_p3, List.forall_mem_cons.mpr ⟨lw_p4, List.forall_mem_cons.mpr ⟨lw_p5, List.forall_mem_cons.mpr ⟨lw_p6, List.forall_mem_cons.mpr ⟨lw_p7, List.forall_mem_cons.mpr ⟨lw_p8, List.forall_mem_cons.mpr ⟨lw_p9, List.forall_mem_cons.mpr ⟨lw_p10, List.forall_mem_cons.mpr ⟨lw_p11, List.forall_mem_cons.mpr ⟨lw_p12, List.forall_mem_cons.mpr ⟨lw_p13, List.forall_mem_cons.mpr ⟨lw_p14, List.forall_mem_cons.mpr ⟨lw_p15, fun _ h => absurd h List.not_mem_nil⟩⟩⟩⟩⟩⟩⟩⟩⟩⟩⟩⟩⟩⟩⟩⟩
theorem lw_p16 : lw_okq (⟨"SpectrumBoard$Arithmetic", "difference", "(III)I"⟩, 1) := ⟨⟨by decide +kernel, by decide +kernel⟩, List.mem_of_getElem? (i := 117) (by decide +kernel), List.mem_of_getElem? (i := 612) (by decide +kernel), List.mem_of_getElem? (i := 613) (by decide +kernel)⟩
theorem lw_p17 : lw_okq (⟨"SpectrumBoard$Arithmetic", "logical", "(II)V"⟩, 1) := ⟨⟨by decide +kernel, by decide +kernel⟩, List.mem_of_getElem? (i := 117) (by decide +kernel), List.mem_of_getElem? (i := 616) (by decide +kernel), List.mem_of_getElem? (i := 617) (by decide +kernel)⟩
theorem lw_p18 : lw_okq (⟨"SpectrumBoard$Processor", "executeAlone", "(I)V"⟩, 11) := ⟨⟨by decide +kernel, by decide +kernel⟩, List.mem_of_getElem? (i := 111) (by decide +kernel), List.mem_of_getElem? (i := 623) (by decide +kernel), List.mem_of_getElem? (i := 624) (by decide +kernel)⟩
theorem lw_p19 : lw_okq (⟨"SpectrumBoard$Processor", "jumpTo", "(IZ)V"⟩, 11) := ⟨⟨by decide +kernel, by decide +kernel⟩, List.mem_of_getElem? (i := 111) (by decide +kernel), List.mem_of_getElem? (i := 627) (by decide +kernel), List.mem_of_getElem? (i := 628) (by decide +kernel)⟩
theorem lw_p20 : lw_okq (⟨"SpectrumBoard$Processor", "executeBits", "(I)V"⟩, 11) := ⟨⟨by decide +kernel, by decide +kernel⟩, List.mem_of_getElem? (i := 111) (by decide +kernel), List.mem_of_getElem? (i := 635) (by decide +kernel), List.mem_of_getElem? (i := 636) (by decide +kernel)⟩
theorem lw_p21 : lw_okq (⟨"SpectrumBoard$Processor", "callTo", "(IZ)V"⟩, 11) := ⟨⟨by decide +kernel, by decide +kernel⟩, List.mem_of_getElem? (i := 111) (by decide +kernel), List.mem_of_getElem? (i := 647) (by decide +kernel), List.mem_of_getElem? (i := 648) (by decide +kernel)⟩
theorem lw_p22 : lw_okq (⟨"SpectrumBoard$Ports", "moveSpeaker", "(I)V"⟩, 7) := ⟨⟨by decide +kernel, by decide +kernel⟩, List.mem_of_getElem? (i := 52) (by decide +kernel), List.mem_of_getElem? (i := 659) (by decide +kernel), List.mem_of_getElem? (i := 660) (by decide +kernel)⟩
theorem lw_p23 : lw_okq (⟨"SpectrumBoard$Processor", "exchangeWithOthers", "()V"⟩, 11) := ⟨⟨by decide +kernel, by decide +kernel⟩, List.mem_of_getElem? (i := 111) (by decide +kernel), List.mem_of_getElem? (i := 664) (by decide +kernel), List.mem_of_getElem? (i := 665) (by decide +kernel)⟩
theorem lw_p24 : lw_okq (⟨"SpectrumBoard$Processor", "inputToA", "()V"⟩, 11) := ⟨⟨by decide +kernel, by decide +kernel⟩, List.mem_of_getElem? (i := 111) (by decide +kernel), List.mem_of_getElem? (i := 668) (by decide +kernel), List.mem_of_getElem? (i := 669) (by decide +kernel)⟩
theorem lw_p25 : lw_okq (⟨"SpectrumBoard$Ports", "keysOf", "(I)I"⟩, 7) := ⟨⟨by decide +kernel, by decide +kernel⟩, List.mem_of_getElem? (i := 52) (by decide +kernel), List.mem_of_getElem? (i := 680) (by decide +kernel), List.mem_of_getElem? (i := 681) (by decide +kernel)⟩
theorem lw_p26 : lw_okq (⟨"SpectrumBoard$Processor", "exchangeHlWithStack", "()V"⟩, 11) := ⟨⟨by decide +kernel, by decide +kernel⟩, List.mem_of_getElem? (i := 111) (by decide +kernel), List.mem_of_getElem? (i := 684) (by decide +kernel), List.mem_of_getElem? (i := 685) (by decide +kernel)⟩
theorem lw_p27 : lw_okq (⟨"SpectrumBoard$Processor", "executeMore", "(I)V"⟩, 11) := ⟨⟨by decide +kernel, by decide +kernel⟩, List.mem_of_getElem? (i := 111) (by decide +kernel), List.mem_of_getElem? (i := 688) (by decide +kernel), List.mem_of_getElem? (i := 689) (by decide +kernel)⟩
theorem lw_p28 : lw_okq (⟨"SpectrumBoard$Processor", "copyByte", "(Z)V"⟩, 11) := ⟨⟨by decide +kernel, by decide +kernel⟩, List.mem_of_getElem? (i := 111) (by decide +kernel), List.mem_of_getElem? (i := 696) (by decide +kernel), List.mem_of_getElem? (i := 697) (by decide +kernel)⟩
theorem lw_p29 : lw_okq (⟨"SpectrumBoard$Processor", "calculateWithHl", "(I)V"⟩, 11) := ⟨⟨by decide +kernel, by decide +kernel⟩, List.mem_of_getElem? (i := 111) (by decide +kernel), List.mem_of_getElem? (i := 702) (by decide +kernel), List.mem_of_getElem? (i := 703) (by decide +kernel)⟩
theorem lw_p30 : lw_okq (⟨"SpectrumBoard$Processor", "loadStackFromHl", "()V"⟩, 11) := ⟨⟨by decide +kernel, by decide +kernel⟩, List.mem_of_getElem? (i := 111) (by decide +kernel), List.mem_of_getElem? (i := 719) (by decide +kernel), List.mem_of_getElem? (i := 720) (by decide +kernel)⟩
theorem lw_p31 : lw_okq (⟨"SpectrumBoard$Processor", "turnInterruptsOn", "()V"⟩, 11) := ⟨⟨by decide +kernel, by decide +kernel⟩, List.mem_of_getElem? (i := 111) (by decide +kernel), List.mem_of_getElem? (i := 723) (by decide +kernel), List.mem_of_getElem? (i := 724) (by decide +kernel)⟩
def lw_privs_2 : List (MethodName × Nat) := [(⟨"SpectrumBoard$Arithmetic", "difference", "(III)I"⟩, 1), (⟨"SpectrumBoard$Arithmetic", "logical", "(II)V"⟩, 1), (⟨"SpectrumBoard$Processor", "executeAlone", "(I)V"⟩, 11), (⟨"SpectrumBoard$Processor", "jumpTo", "(IZ)V"⟩, 11), (⟨"SpectrumBoard$Processor", "executeBits", "(I)V"⟩, 11), (⟨"SpectrumBoard$Processor", "callTo", "(IZ)V"⟩, 11), (⟨"SpectrumBoard$Ports", "moveSpeaker", "(I)V"⟩, 7), (⟨"SpectrumBoard$Processor", "exchangeWithOthers", "()V"⟩, 11), (⟨"SpectrumBoard$Processor", "inputToA", "()V"⟩, 11), (⟨"SpectrumBoard$Ports", "keysOf", "(I)I"⟩, 7), (⟨"SpectrumBoard$Processor", "exchangeHlWithStack", "()V"⟩, 11), (⟨"SpectrumBoard$Processor", "executeMore", "(I)V"⟩, 11), (⟨"SpectrumBoard$Processor", "copyByte", "(Z)V"⟩, 11), (⟨"SpectrumBoard$Processor", "calculateWithHl", "(I)V"⟩, 11), (⟨"SpectrumBoard$Processor", "loadStackFromHl", "()V"⟩, 11), (⟨"SpectrumBoard$Processor", "turnInterruptsOn", "()V"⟩, 11)]
theorem lw_r2 : ∀ q ∈ lw_privs_2, lw_okq q := List.forall_mem_cons.mpr ⟨lw_p16, List.forall_mem_cons.mpr ⟨lw_p17, List.forall_mem_cons.mpr ⟨lw_p18, List.forall_mem_cons.mpr ⟨lw_p19, List.forall_mem_cons.mpr ⟨lw_p20, List.forall_mem_cons.mpr ⟨lw_p21, List.forall_mem_cons.mpr ⟨lw_p22, List.forall_mem_cons.mpr ⟨lw_p23, List.forall_mem_cons.mpr ⟨lw_p24, List.forall_mem_cons.mpr ⟨lw_p25, List.forall_mem_cons.mpr ⟨lw_p26, List.forall_mem_cons.mpr ⟨lw_p27, List.forall_mem_cons.mpr ⟨lw_p28, List.forall_mem_cons.mpr ⟨lw_p29, List.forall_mem_cons.mpr ⟨lw_p30, List.forall_mem_cons.mpr ⟨lw_p31, fun _ h => absurd h List.not_mem_nil⟩⟩⟩⟩⟩⟩⟩⟩⟩⟩⟩⟩⟩⟩⟩⟩
theorem lw_p32 : lw_okq (⟨"SpectrumBoard$Processor", "executeLastQuarter", "(II)V"⟩, 11) := ⟨⟨by decide +kernel, by decide +kernel⟩, List.mem_of_getElem? (i := 111) (by decide +kernel), List.mem_of_getElem? (i := 727) (by decide +kernel), List.mem_of_getElem? (i := 728) (by decide +kernel)⟩
theorem lw_p33 : lw_okq (⟨"SpectrumBoard$Processor", "returnIf", "(Z)V"⟩, 11) := ⟨⟨by decide +kernel, by decide +kernel⟩, List.mem_of_getElem? (i := 111) (by decide +kernel), List.mem_of_getElem? (i := 731) (by decide +kernel), List.mem_of_getElem? (i := 732) (by decide +kernel)⟩
theorem lw_p34 : lw_okq (⟨"SpectrumBoard$Processor", "pushPair", "(I)V"⟩, 11) := ⟨⟨by decide +kernel, by decide +kernel⟩, List.mem_of_getElem? (i := 111) (by decide +kernel), List.mem_of_getElem? (i := 738) (by decide +kernel), List.mem_of_getElem? (i := 739) (by decide +kernel)⟩
theorem lw_p35 : lw_okq (⟨"SpectrumBoardModel", "refused", "(I)Z"⟩, 20) := ⟨⟨by decide +kernel, by decide +kernel⟩, List.mem_of_getElem? (i := 749) (by decide +kernel), List.mem_of_getElem? (i := 827) (by decide +kernel), List.mem_of_getElem? (i := 828) (by decide +kernel)⟩
theorem lw_p36 : lw_okq (⟨"SpectrumBoardModel", "interrupt", "()V"⟩, 20) := ⟨⟨by decide +kernel, by decide +kernel⟩, List.mem_of_getElem? (i := 749) (by decide +kernel), List.mem_of_getElem? (i := 831) (by decide +kernel), List.mem_of_getElem? (i := 832) (by decide +kernel)⟩
theorem lw_p37 : lw_okq (⟨"SpectrumBoardModel", "push", "(I)V"⟩, 20) := ⟨⟨by decide +kernel, by decide +kernel⟩, List.mem_of_getElem? (i := 749) (by decide +kernel), List.mem_of_getElem? (i := 835) (by decide +kernel), List.mem_of_getElem? (i := 836) (by decide +kernel)⟩
theorem lw_p38 : lw_okq (⟨"SpectrumBoardModel", "write", "(II)V"⟩, 20) := ⟨⟨by decide +kernel, by decide +kernel⟩, List.mem_of_getElem? (i := 749) (by decide +kernel), List.mem_of_getElem? (i := 840) (by decide +kernel), List.mem_of_getElem? (i := 841) (by decide +kernel)⟩
theorem lw_p39 : lw_okq (⟨"SpectrumBoardModel", "open", "(I)V"⟩, 20) := ⟨⟨by decide +kernel, by decide +kernel⟩, List.mem_of_getElem? (i := 749) (by decide +kernel), List.mem_of_getElem? (i := 844) (by decide +kernel), List.mem_of_getElem? (i := 845) (by decide +kernel)⟩
theorem lw_p40 : lw_okq (⟨"SpectrumBoardModel", "delay", "()V"⟩, 20) := ⟨⟨by decide +kernel, by decide +kernel⟩, List.mem_of_getElem? (i := 749) (by decide +kernel), List.mem_of_getElem? (i := 848) (by decide +kernel), List.mem_of_getElem? (i := 849) (by decide +kernel)⟩
theorem lw_p41 : lw_okq (⟨"SpectrumBoardModel", "instruction", "()V"⟩, 20) := ⟨⟨by decide +kernel, by decide +kernel⟩, List.mem_of_getElem? (i := 749) (by decide +kernel), List.mem_of_getElem? (i := 852) (by decide +kernel), List.mem_of_getElem? (i := 853) (by decide +kernel)⟩
theorem lw_p42 : lw_okq (⟨"SpectrumBoardModel", "fetch", "()I"⟩, 20) := ⟨⟨by decide +kernel, by decide +kernel⟩, List.mem_of_getElem? (i := 749) (by decide +kernel), List.mem_of_getElem? (i := 856) (by decide +kernel), List.mem_of_getElem? (i := 857) (by decide +kernel)⟩
theorem lw_p43 : lw_okq (⟨"SpectrumBoardModel", "one", "(I)V"⟩, 20) := ⟨⟨by decide +kernel, by decide +kernel⟩, List.mem_of_getElem? (i := 749) (by decide +kernel), List.mem_of_getElem? (i := 860) (by decide +kernel), List.mem_of_getElem? (i := 861) (by decide +kernel)⟩
theorem lw_p44 : lw_okq (⟨"SpectrumBoardModel", "jumpRelative", "(I)V"⟩, 20) := ⟨⟨by decide +kernel, by decide +kernel⟩, List.mem_of_getElem? (i := 749) (by decide +kernel), List.mem_of_getElem? (i := 864) (by decide +kernel), List.mem_of_getElem? (i := 865) (by decide +kernel)⟩
theorem lw_p45 : lw_okq (⟨"SpectrumBoardModel", "exchange", "(II)V"⟩, 20) := ⟨⟨by decide +kernel, by decide +kernel⟩, List.mem_of_getElem? (i := 749) (by decide +kernel), List.mem_of_getElem? (i := 868) (by decide +kernel), List.mem_of_getElem? (i := 869) (by decide +kernel)⟩
theorem lw_p46 : lw_okq (⟨"SpectrumBoardModel", "holds", "(I)Z"⟩, 20) := ⟨⟨by decide +kernel, by decide +kernel⟩, List.mem_of_getElem? (i := 749) (by decide +kernel), List.mem_of_getElem? (i := 872) (by decide +kernel), List.mem_of_getElem? (i := 873) (by decide +kernel)⟩
theorem lw_p47 : lw_okq (⟨"SpectrumBoardModel", "next", "()I"⟩, 20) := ⟨⟨by decide +kernel, by decide +kernel⟩, List.mem_of_getElem? (i := 749) (by decide +kernel), List.mem_of_getElem? (i := 876) (by decide +kernel), List.mem_of_getElem? (i := 877) (by decide +kernel)⟩
def lw_privs_3 : List (MethodName × Nat) := [(⟨"SpectrumBoard$Processor", "executeLastQuarter", "(II)V"⟩, 11), (⟨"SpectrumBoard$Processor", "returnIf", "(Z)V"⟩, 11), (⟨"SpectrumBoard$Processor", "pushPair", "(I)V"⟩, 11), (⟨"SpectrumBoardModel", "refused", "(I)Z"⟩, 20), (⟨"SpectrumBoardModel", "interrupt", "()V"⟩, 20), (⟨"SpectrumBoardModel", "push", "(I)V"⟩, 20), (⟨"SpectrumBoardModel", "write", "(II)V"⟩, 20), (⟨"SpectrumBoardModel", "open", "(I)V"⟩, 20), (⟨"SpectrumBoardModel", "delay", "()V"⟩, 20), (⟨"SpectrumBoardModel", "instruction", "()V"⟩, 20), (⟨"SpectrumBoardModel", "fetch", "()I"⟩, 20), (⟨"SpectrumBoardModel", "one", "(I)V"⟩, 20), (⟨"SpectrumBoardModel", "jumpRelative", "(I)V"⟩, 20), (⟨"SpectrumBoardModel", "exchange", "(II)V"⟩, 20), (⟨"SpectrumBoardModel", "holds", "(I)Z"⟩, 20), (⟨"SpectrumBoardModel", "next", "()I"⟩, 20)]
theorem lw_r3 : ∀ q ∈ lw_privs_3, lw_okq q := List.forall_mem_cons.mpr ⟨lw_p32, List.forall_mem_cons.mpr ⟨lw_p33, List.forall_mem_cons.mpr ⟨lw_p34, List.forall_mem_cons.mpr ⟨lw_p35, List.forall_mem_cons.mpr ⟨lw_p36, List.forall_mem_cons.mpr ⟨lw_p37, List.forall_mem_cons.mpr ⟨lw_p38, List.forall_mem_cons.mpr ⟨lw_p39, List.forall_mem_cons.mpr ⟨lw_p40, List.forall_mem_cons.mpr ⟨lw_p41, List.forall_mem_cons.mpr ⟨lw_p42, List.forall_mem_cons.mpr ⟨lw_p43, List.forall_mem_cons.mpr ⟨lw_p44, List.forall_mem_cons.mpr ⟨lw_p45, List.forall_mem_cons.mpr ⟨lw_p46, List.forall_mem_cons.mpr ⟨lw_p47, fun _ h => absurd h List.not_mem_nil⟩⟩⟩⟩⟩⟩⟩⟩⟩⟩⟩⟩⟩⟩⟩⟩
theorem lw_p48 : lw_okq (⟨"SpectrumBoardModel", "read", "(I)I"⟩, 20) := ⟨⟨by decide +kernel, by decide +kernel⟩, List.mem_of_getElem? (i := 749) (by decide +kernel), List.mem_of_getElem? (i := 880) (by decide +kernel), List.mem_of_getElem? (i := 881) (by decide +kernel)⟩
theorem lw_p49 : lw_okq (⟨"SpectrumBoardModel", "nextPair", "()I"⟩, 20) := ⟨⟨by decide +kernel, by decide +kernel⟩, List.mem_of_getElem? (i := 749) (by decide +kernel), List.mem_of_getElem? (i := 884) (by decide +kernel), List.mem_of_getElem? (i := 885) (by decide +kernel)⟩
theorem lw_p50 : lw_okq (⟨"SpectrumBoardModel", "setPair", "(II)V"⟩, 20) := ⟨⟨by decide +kernel, by decide +kernel⟩, List.mem_of_getElem? (i := 749) (by decide +kernel), List.mem_of_getElem? (i := 888) (by decide +kernel), List.mem_of_getElem? (i := 889) (by decide +kernel)⟩
theorem lw_p51 : lw_okq (⟨"SpectrumBoardModel", "addPair", "(I)V"⟩, 20) := ⟨⟨by decide +kernel, by decide +kernel⟩, List.mem_of_getElem? (i := 749) (by decide +kernel), List.mem_of_getElem? (i := 892) (by decide +kernel), List.mem_of_getElem? (i := 893) (by decide +kernel)⟩
theorem lw_p52 : lw_okq (⟨"SpectrumBoardModel", "hl", "()I"⟩, 20) := ⟨⟨by decide +kernel, by decide +kernel⟩, List.mem_of_getElem? (i := 749) (by decide +kernel), List.mem_of_getElem? (i := 896) (by decide +kernel), List.mem_of_getElem? (i := 897) (by decide +kernel)⟩
theorem lw_p53 : lw_okq (⟨"SpectrumBoardModel", "pair", "(I)I"⟩, 20) := ⟨⟨by decide +kernel, by decide +kernel⟩, List.mem_of_getElem? (i := 749) (by decide +kernel), List.mem_of_getElem? (i := 900) (by decide +kernel), List.mem_of_getElem? (i := 901) (by decide +kernel)⟩
theorem lw_p54 : lw_okq (⟨"SpectrumBoardModel", "loads", "(I)V"⟩, 20) := ⟨⟨by decide +kernel, by decide +kernel⟩, List.mem_of_getElem? (i := 749) (by decide +kernel), List.mem_of_getElem? (i := 904) (by decide +kernel), List.mem_of_getElem? (i := 905) (by decide +kernel)⟩
theorem lw_p55 : lw_okq (⟨"SpectrumBoardModel", "step", "(IZ)V"⟩, 20) := ⟨⟨by decide +kernel, by decide +kernel⟩, List.mem_of_getElem? (i := 749) (by decide +kernel), List.mem_of_getElem? (i := 908) (by decide +kernel), List.mem_of_getElem? (i := 909) (by decide +kernel)⟩
theorem lw_p56 : lw_okq (⟨"SpectrumBoardModel", "carry", "()I"⟩, 20) := ⟨⟨by decide +kernel, by decide +kernel⟩, List.mem_of_getElem? (i := 749) (by decide +kernel), List.mem_of_getElem? (i := 912) (by decide +kernel), List.mem_of_getElem? (i := 913) (by decide +kernel)⟩
theorem lw_p57 : lw_okq (⟨"SpectrumBoardModel", "operand", "(I)I"⟩, 20) := ⟨⟨by decide +kernel, by decide +kernel⟩, List.mem_of_getElem? (i := 749) (by decide +kernel), List.mem_of_getElem? (i := 916) (by decide +kernel), List.mem_of_getElem? (i := 917) (by decide +kernel)⟩
theorem lw_p58 : lw_okq (⟨"SpectrumBoardModel", "minus", "(III)I"⟩, 20) := ⟨⟨by decide +kernel, by decide +kernel⟩, List.mem_of_getElem? (i := 749) (by decide +kernel), List.mem_of_getElem? (i := 920) (by decide +kernel), List.mem_of_getElem? (i := 921) (by decide +kernel)⟩
theorem lw_p59 : lw_okq (⟨"SpectrumBoardModel", "plus", "(III)I"⟩, 20) := ⟨⟨by decide +kernel, by decide +kernel⟩, List.mem_of_getElem? (i := 749) (by decide +kernel), List.mem_of_getElem? (i := 927) (by decide +kernel), List.mem_of_getElem? (i := 928) (by decide +kernel)⟩
theorem lw_p60 : lw_okq (⟨"SpectrumBoardModel", "setOperand", "(II)V"⟩, 20) := ⟨⟨by decide +kernel, by decide +kernel⟩, List.mem_of_getElem? (i := 749) (by decide +kernel), List.mem_of_getElem? (i := 931) (by decide +kernel), List.mem_of_getElem? (i := 932) (by decide +kernel)⟩
theorem lw_p61 : lw_okq (⟨"SpectrumBoardModel", "accumulator", "(I)V"⟩, 20) := ⟨⟨by decide +kernel, by decide +kernel⟩, List.mem_of_getElem? (i := 749) (by decide +kernel), List.mem_of_getElem? (i := 935) (by decide +kernel), List.mem_of_getElem? (i := 936) (by decide +kernel)⟩
theorem lw_p62 : lw_okq (⟨"SpectrumBoardModel", "turnA", "(I)V"⟩, 20) := ⟨⟨by decide +kernel, by decide +kernel⟩, List.mem_of_getElem? (i := 749) (by decide +kernel), List.mem_of_getElem? (i := 939) (by decide +kernel), List.mem_of_getElem? (i := 940) (by decide +kernel)⟩
theorem lw_p63 : lw_okq (⟨"SpectrumBoardModel", "turned", "(II)I"⟩, 20) := ⟨⟨by decide +kernel, by decide +kernel⟩, List.mem_of_getElem? (i := 749) (by decide +kernel), List.mem_of_getElem? (i := 943) (by decide +kernel), List.mem_of_getElem? (i := 944) (by decide +kernel)⟩
def lw_privs_4 : List (MethodName × Nat) := [(⟨"SpectrumBoardModel", "read", "(I)I"⟩, 20), (⟨"SpectrumBoardModel", "nextPair", "()I"⟩, 20), (⟨"SpectrumBoardModel", "setPair", "(II)V"⟩, 20), (⟨"SpectrumBoardModel", "addPair", "(I)V"⟩, 20), (⟨"SpectrumBoardModel", "hl", "()I"⟩, 20), (⟨"SpectrumBoardModel", "pair", "(I)I"⟩, 20), (⟨"SpectrumBoardModel", "loads", "(I)V"⟩, 20), (⟨"SpectrumBoardModel", "step", "(IZ)V"⟩, 20), (⟨"SpectrumBoardModel", "carry", "()I"⟩, 20), (⟨"SpectrumBoardModel", "operand", "(I)I"⟩, 20), (⟨"SpectrumBoardModel", "minus", "(III)I"⟩, 20), (⟨"SpectrumBoardModel", "plus", "(III)I"⟩, 20), (⟨"SpectrumBoardModel", "setOperand", "(II)V"⟩, 20), (⟨"SpectrumBoardModel", "accumulator", "(I)V"⟩, 20), (⟨"SpectrumBoardModel", "turnA", "(I)V"⟩, 20), (⟨"SpectrumBoardModel", "turned", "(II)I"⟩, 20)]
theorem lw_r4 : ∀ q ∈ lw_privs_4, lw_okq q := List.forall_mem_cons.mpr ⟨lw_p48, List.forall_mem_cons.mpr ⟨lw_p49, List.forall_mem_cons.mpr ⟨lw_p50, List.forall_mem_cons.mpr ⟨lw_p51, List.forall_mem_cons.mpr ⟨lw_p52, List.forall_mem_cons.mpr ⟨lw_p53, List.forall_mem_cons.mpr ⟨lw_p54, List.forall_mem_cons.mpr ⟨lw_p55, List.forall_mem_cons.mpr ⟨lw_p56, List.forall_mem_cons.mpr ⟨lw_p57, List.forall_mem_cons.mpr ⟨lw_p58, List.forall_mem_cons.mpr ⟨lw_p59, List.forall_mem_cons.mpr ⟨lw_p60, List.forall_mem_cons.mpr ⟨lw_p61, List.forall_mem_cons.mpr ⟨lw_p62, List.forall_mem_cons.mpr ⟨lw_p63, fun _ h => absurd h List.not_mem_nil⟩⟩⟩⟩⟩⟩⟩⟩⟩⟩⟩⟩⟩⟩⟩⟩
theorem lw_p64 : lw_okq (⟨"SpectrumBoardModel", "correct", "()V"⟩, 20) := ⟨⟨by decide +kernel, by decide +kernel⟩, List.mem_of_getElem? (i := 749) (by decide +kernel), List.mem_of_getElem? (i := 947) (by decide +kernel), List.mem_of_getElem? (i := 948) (by decide +kernel)⟩
theorem lw_p65 : lw_okq (⟨"SpectrumBoardModel", "reckon", "(II)V"⟩, 20) := ⟨⟨by decide +kernel, by decide +kernel⟩, List.mem_of_getElem? (i := 749) (by decide +kernel), List.mem_of_getElem? (i := 954) (by decide +kernel), List.mem_of_getElem? (i := 955) (by decide +kernel)⟩
theorem lw_p66 : lw_okq (⟨"SpectrumBoardModel", "three", "(I)V"⟩, 20) := ⟨⟨by decide +kernel, by decide +kernel⟩, List.mem_of_getElem? (i := 749) (by decide +kernel), List.mem_of_getElem? (i := 958) (by decide +kernel), List.mem_of_getElem? (i := 959) (by decide +kernel)⟩
theorem lw_p67 : lw_okq (⟨"SpectrumBoardModel", "pop", "()I"⟩, 20) := ⟨⟨by decide +kernel, by decide +kernel⟩, List.mem_of_getElem? (i := 749) (by decide +kernel), List.mem_of_getElem? (i := 962) (by decide +kernel), List.mem_of_getElem? (i := 963) (by decide +kernel)⟩
theorem lw_p68 : lw_okq (⟨"SpectrumBoardModel", "readPair", "(I)I"⟩, 20) := ⟨⟨by decide +kernel, by decide +kernel⟩, List.mem_of_getElem? (i := 749) (by decide +kernel), List.mem_of_getElem? (i := 966) (by decide +kernel), List.mem_of_getElem? (i := 967) (by decide +kernel)⟩
theorem lw_p69 : lw_okq (⟨"SpectrumBoardModel", "back", "(I)V"⟩, 20) := ⟨⟨by decide +kernel, by decide +kernel⟩, List.mem_of_getElem? (i := 749) (by decide +kernel), List.mem_of_getElem? (i := 970) (by decide +kernel), List.mem_of_getElem? (i := 971) (by decide +kernel)⟩
theorem lw_p70 : lw_okq (⟨"SpectrumBoardModel", "various", "(I)V"⟩, 20) := ⟨⟨by decide +kernel, by decide +kernel⟩, List.mem_of_getElem? (i := 749) (by decide +kernel), List.mem_of_getElem? (i := 974) (by decide +kernel), List.mem_of_getElem? (i := 975) (by decide +kernel)⟩
theorem lw_p71 : lw_okq (⟨"SpectrumBoardModel", "bits", "(I)V"⟩, 20) := ⟨⟨by decide +kernel, by decide +kernel⟩, List.mem_of_getElem? (i := 749) (by decide +kernel), List.mem_of_getElem? (i := 978) (by decide +kernel), List.mem_of_getElem? (i := 979) (by decide +kernel)⟩
theorem lw_p72 : lw_okq (⟨"SpectrumBoardModel", "send", "(I)V"⟩, 20) := ⟨⟨by decide +kernel, by decide +kernel⟩, List.mem_of_getElem? (i := 749) (by decide +kernel), List.mem_of_getElem? (i := 982) (by decide +kernel), List.mem_of_getElem? (i := 983) (by decide +kernel)⟩
theorem lw_p73 : lw_okq (⟨"SpectrumBoardModel", "openPort", "(I)V"⟩, 20) := ⟨⟨by decide +kernel, by decide +kernel⟩, List.mem_of_getElem? (i := 749) (by decide +kernel), List.mem_of_getElem? (i := 986) (by decide +kernel), List.mem_of_getElem? (i := 987) (by decide +kernel)⟩
theorem lw_p74 : lw_okq (⟨"SpectrumBoardModel", "receive", "(I)V"⟩, 20) := ⟨⟨by decide +kernel, by decide +kernel⟩, List.mem_of_getElem? (i := 749) (by decide +kernel), List.mem_of_getElem? (i := 990) (by decide +kernel), List.mem_of_getElem? (i := 991) (by decide +kernel)⟩
theorem lw_p75 : lw_okq (⟨"SpectrumBoardModel", "callIf", "(Z)V"⟩, 20) := ⟨⟨by decide +kernel, by decide +kernel⟩, List.mem_of_getElem? (i := 749) (by decide +kernel), List.mem_of_getElem? (i := 994) (by decide +kernel), List.mem_of_getElem? (i := 995) (by decide +kernel)⟩
theorem lw_p76 : lw_okq (⟨"SpectrumBoardModel", "ahead", "(I)V"⟩, 20) := ⟨⟨by decide +kernel, by decide +kernel⟩, List.mem_of_getElem? (i := 749) (by decide +kernel), List.mem_of_getElem? (i := 998) (by decide +kernel), List.mem_of_getElem? (i := 999) (by decide +kernel)⟩
theorem lw_p77 : lw_okq (⟨"SpectrumBoardModel", "extended", "(I)V"⟩, 20) := ⟨⟨by decide +kernel, by decide +kernel⟩, List.mem_of_getElem? (i := 749) (by decide +kernel), List.mem_of_getElem? (i := 1002) (by decide +kernel), List.mem_of_getElem? (i := 1003) (by decide +kernel)⟩
theorem lw_p78 : lw_okq (⟨"SpectrumBoardModel", "addPairWithCarry", "(IZ)V"⟩, 20) := ⟨⟨by decide +kernel, by decide +kernel⟩, List.mem_of_getElem? (i := 749) (by decide +kernel), List.mem_of_getElem? (i := 1006) (by decide +kernel), List.mem_of_getElem? (i := 1007) (by decide +kernel)⟩
theorem lw_p79 : lw_okq (⟨"SpectrumBoardModel", "move", "(Z)V"⟩, 20) := ⟨⟨by decide +kernel, by decide +kernel⟩, List.mem_of_getElem? (i := 749) (by decide +kernel), List.mem_of_getElem? (i := 1010) (by decide +kernel), List.mem_of_getElem? (i := 1011) (by decide +kernel)⟩
def lw_privs_5 : List (MethodName × Nat) := [(⟨"SpectrumBoardModel", "correct", "()V"⟩, 20), (⟨"SpectrumBoardModel", "reckon", "(II)V"⟩, 20), (⟨"SpectrumBoardModel", "three", "(I)V"⟩, 20), (⟨"SpectrumBoardModel", "pop", "()I"⟩, 20), (⟨"SpectrumBoardModel", "readPair", "(I)I"⟩, 20), (⟨"SpectrumBoardModel", "back", "(I)V"⟩, 20), (⟨"SpectrumBoardModel", "various", "(I)V"⟩, 20), (⟨"SpectrumBoardModel", "bits", "(I)V"⟩, 20), (⟨"SpectrumBoardModel", "send", "(I)V"⟩, 20), (⟨"SpectrumBoardModel", "openPort", "(I)V"⟩, 20), (⟨"SpectrumBoardModel", "receive", "(I)V"⟩, 20), (⟨"SpectrumBoardModel", "callIf", "(Z)V"⟩, 20), (⟨"SpectrumBoardModel", "ahead", "(I)V"⟩, 20), (⟨"SpectrumBoardModel", "extended", "(I)V"⟩, 20), (⟨"SpectrumBoardModel", "addPairWithCarry", "(IZ)V"⟩, 20), (⟨"SpectrumBoardModel", "move", "(Z)V"⟩, 20)]
theorem lw_r5 : ∀ q ∈ lw_privs_5, lw_okq q := List.forall_mem_cons.mpr ⟨lw_p64, List.forall_mem_cons.mpr ⟨lw_p65, List.forall_mem_cons.mpr ⟨lw_p66, List.forall_mem_cons.mpr ⟨lw_p67, List.forall_mem_cons.mpr ⟨lw_p68, List.forall_mem_cons.mpr ⟨lw_p69, List.forall_mem_cons.mpr ⟨lw_p70, List.forall_mem_cons.mpr ⟨lw_p71, List.forall_mem_cons.mpr ⟨lw_p72, List.forall_mem_cons.mpr ⟨lw_p73, List.forall_mem_cons.mpr ⟨lw_p74, List.forall_mem_cons.mpr ⟨lw_p75, List.forall_mem_cons.mpr ⟨lw_p76, List.forall_mem_cons.mpr ⟨lw_p77, List.forall_mem_cons.mpr ⟨lw_p78, List.forall_mem_cons.mpr ⟨lw_p79, fun _ h => absurd h List.not_mem_nil⟩⟩⟩⟩⟩⟩⟩⟩⟩⟩⟩⟩⟩⟩⟩⟩
def lw_privs : List (MethodName × Nat) := lw_privs_1 ++ (lw_privs_2 ++ (lw_privs_3 ++ (lw_privs_4 ++ (lw_privs_5))))
def lw_tbl : List Cond := k2_sels lw_privs ++ tables_1
theorem lw_privs_ok : ∀ q ∈ lw_privs, lw_okq q := by
  show ∀ q ∈ lw_privs_1 ++ (lw_privs_2 ++ (lw_privs_3 ++ (lw_privs_4 ++ (lw_privs_5)))), lw_okq q
  exact List.forall_mem_append.mpr ⟨lw_r1, List.forall_mem_append.mpr ⟨lw_r2, List.forall_mem_append.mpr ⟨lw_r3, List.forall_mem_append.mpr ⟨lw_r4, lw_r5⟩⟩⟩⟩
end
section
/-! ONE WORLD, KEPT WHOLE THROUGH ALL METHODS OF A SYSTEM: contracts, entry, ends, calls -/
def sw_good (F : (Nat → Prop) → State → Heap → Prop) : Prop := (∀ (A : Nat → Prop) (u U : State) (H : Heap), u.vm.Alike U.vm → F A u H → F A U H) ∧ (∀ (A : Nat → Prop) (U : State) (H H1 : Heap), F A U H → (∀ a : Nat, a < H.size → ¬ A a → H1[a]? = H[a]?) → F A U H1) ∧ (∀ (A B : Nat → Prop) (U : State) (H : Heap), F A U H → (∀ q : Nat, B q → A q) → F B U H)
def sw_Pc (D : va_G) (cl : List vw_C) (tys : List (ClassId × FieldType)) (F : (Nat → Prop) → State → Heap → Prop) (as : List Value) (w : va_W) (sz : Nat) : Array Value → State → Prop := va_Pc as (fun U => U.heap.size = sz ∧ va_P D cl w U.heap ∧ va_K D cl tys U ∧ va_D (fun _ => True) w ∧ F (va_A w sz) U U.heap)
def sw_Qi (D : va_G) (cl : List vw_C) (tys : List (ClassId × FieldType)) (A : Nat → Prop) (w' : va_W) (r : Int32) : Array Value → State → Outcome → State → Prop := va_Qi (fun (r' : Int32) (_ : Unit) => r' = r) (fun _ t => va_P D cl w' t.heap ∧ va_K D cl tys t ∧ va_D A w') A
def sw_Qv (D : va_G) (cl : List vw_C) (tys : List (ClassId × FieldType)) (A : Nat → Prop) (w' : va_W) : Array Value → State → Outcome → State → Prop := va_Qv (fun (_ : Unit) => True) (fun _ t => va_P D cl w' t.heap ∧ va_K D cl tys t ∧ va_D A w') A
def sw_Mi (l : Launch) (y : MethodName) (ws : List Cond) (rm : Room) (D : va_G) (cl : List vw_C) (tys : List (ClassId × FieldType)) (F : (Nat → Prop) → State → Heap → Prop) (as : List Value) (w w' : va_W) (r : Int32) : Prop := ∀ sz : Nat, Met l y ws rm (sw_Pc D cl tys F as w sz) (sw_Qi D cl tys (va_A w sz) w' r) 0 0 (va_A w sz)
def sw_Mv (l : Launch) (y : MethodName) (ws : List Cond) (rm : Room) (D : va_G) (cl : List vw_C) (tys : List (ClassId × FieldType)) (F : (Nat → Prop) → State → Heap → Prop) (as : List Value) (w w' : va_W) : Prop := ∀ sz : Nat, Met l y ws rm (sw_Pc D cl tys F as w sz) (sw_Qv D cl tys (va_A w sz) w') 0 0 (va_A w sz)
/-- what a walk carries along -/
def sw_X (p : Program) (s : State) (m : MethodId) (args : Array Value) (meth : Method) (c : Code) (cc : ByteArray) (nL : Nat) (own : String) (ret : Option FieldType) (ws : List Cond) (D : va_G) (cl : List vw_C) (tys : List (ClassId × FieldType)) (F : (Nat → Prop) → State → Heap → Prop) (A : Nat → Prop) : Prop :=
  CallFix p m c cc nL s args ws own ∧ meth.sig.returnType = ret ∧ meth.locks = false ∧ va_K D cl tys s ∧ (∀ q : Nat, s.heap.size ≤ q → A q) ∧ F A s s.heap
theorem sw_blind {D : va_G} {cl : List vw_C} {tys : List (ClassId × FieldType)} {F : (Nat → Prop) → State → Heap → Prop} (hg : sw_good F) {as : List Value} {w : va_W} {sz : Nat} : FrameBlind (sw_Pc D cl tys F as w sz) := by
  intro a U g mk q
  obtain ⟨q0, q1, qP, qK, qD, qF⟩ := q
  exact ⟨q0, q1, qP, va_K.moved (u := U) (U := U.calling g mk a) (Vm.Alike.refl U.vm) qK, qD, hg.1 _ U (U.calling g mk a) _ (Vm.Alike.refl U.vm) qF⟩
theorem sw_of {l : Launch} {y : MethodName} {ws ws' : List Cond} {rm : Room} {D : va_G} {cl : List vw_C} {tys : List (ClassId × FieldType)} {F : (Nat → Prop) → State → Heap → Prop} {as : List Value} {w : va_W} {sz : Nat} {Qc : Array Value → State → Outcome → State → Prop} {cc : ByteArray} {maxL : Nat} {ret : Option FieldType} {mc ms : Nat}
    (hy : plainName y.cls = true) (hw : ws = Cond.code y cc maxL ret :: ws') (hl : (lg_sl as).length ≤ maxL)
    (body : ∀ (p : Program) (e : Env) (s : State) (m : MethodId) (args : Array Value) (below : List Frame) (meth : Method) (c : Code) (A : Nat → Prop) (ls : Array Slot), va_A w sz = A → s.heap.size = sz → sw_X p s m args meth c cc maxL y.cls ret ws D cl tys F A → (y.name = "<init>" → meth.name = "<init>") → va_P D cl w s.heap → va_D A w → va_S A s.heap s.heap [] → lv_has ls maxL (lv_args 0 as) →
      W p l e rm s m args below meth c s.heap [] 0 0 (MQ below Qc args s mc ms A) (F0 m 0 ls [])) : Met l y ws rm (sw_Pc D cl tys F as w sz) Qc mc ms (va_A w sz) := by
  refine Met.ofW (cc := cc) (maxL := maxL) (ret := ret) hy hw ?_
  intro p e s m args below meth c s₁ B hml hv
  obtain ⟨rfl, hsz, hP, hK, hD0, hF⟩ := hv
  have hts := atoms_spec (ws := ws) B.pre
  have hown : s.vm.findClass y.cls = some m.cls := findClass_of_methodNamed B.named
  have hin : y.name = "<init>" → meth.name = "<init>" := fun h => ((name_of_methodNamed B.named B.method).1).trans h
  have hl2 := lv_entry as (n := maxL) hl
  rw [lg_entry_eq]
  generalize (lg_sl as ++ List.replicate (maxL - (lg_sl as).length) Slot.unset).toArray = ls at hl2 ⊢
  exact body p e s m _ below meth c _ ls rfl hsz ⟨⟨B.exec, B.bytes, hml, hown, hts⟩, B.returns, B.notSynchronized, hK, fun q h => Or.inr (by rw [← hsz]; exact h), hF⟩ hin hP (hD0.self (sz := sz)) va_S.rf hl2
section SW
variable {p : Program} {l : Launch} {e : Env} {R : Room} {s : State} {m : MethodId} {args : Array Value} {below : List Frame} {meth : Method} {c : Code} {H : Heap} {locs : List Loc} {cells slots : Nat} {Q : State → Prop}
variable {cc : ByteArray} {nL : Nat} {own : String} {ret : Option FieldType} {Ts : List Cond} {D : va_G} {cl : List vw_C} {tys : List (ClassId × FieldType)} {F : (Nat → Prop) → State → Heap → Prop} {A : Nat → Prop} {w w2 : va_W} {pc : Nat} {ls : Array Slot} {rest : List Value}
theorem sw_iret {r : Int32} (X : sw_X p s m args meth c cc nL own (some .int) Ts D cl tys F A) (hP : va_P D cl w H) (hD : va_D A w) (hS : va_S A s.heap H locs) (hdg : decode cc pc = .ok (.ireturn, 1)) :
    W p l e R s m args below meth c H locs cells slots (MQ below (sw_Qi D cl tys A w r) args s cells slots A) (F0 m pc ls [.int r]) := by
  obtain ⟨⟨hx, hb, hml, hown, hts⟩, hr, hlocks, hK, hA, hF⟩ := X
  exact W.iret (v := r) hx hb hr (fun t ht hW => ⟨⟨r, (), rfl, rfl, by rw [ht]; exact hP, va_K.moved hW.alike hK, hD⟩, hS.F ht⟩) hS.2.2 hdg
theorem sw_vret (X : sw_X p s m args meth c cc nL own none Ts D cl tys F A) (hP : va_P D cl w H) (hD : va_D A w) (hS : va_S A s.heap H locs) (hdg : decode cc pc = .ok (.return_, 1)) :
    W p l e R s m args below meth c H locs cells slots (MQ below (sw_Qv D cl tys A w) args s cells slots A) (F0 m pc ls []) := by
  obtain ⟨⟨hx, hb, hml, hown, hts⟩, hr, hlocks, hK, hA, hF⟩ := X
  exact W.vret hx hb hr (fun t ht hW => ⟨⟨(), rfl, trivial, by rw [ht]; exact hP, va_K.moved hW.alike hK, hD⟩, hS.F ht⟩) hS.2.2 hdg
end SW
end
section
/-! THE WORDS, ONE LIST FOR ALL METHODS; rows of a walk that keeps one world -/
def sw_tb : List Cond := lw_tbl.filter goodWord
abbrev sw_ws (y : MethodName) (cc : ByteArray) (nL : Nat) (ret : Option FieldType) : List Cond := Cond.code y cc nL ret :: sw_tb
theorem sw_in {w : Cond} (i : Nat) (h : tables_1[i]? = some w) (hg : goodWord w = true) : w ∈ sw_tb := List.mem_filter.mpr ⟨List.mem_append_right _ (List.mem_of_getElem? h), hg⟩
theorem sw_inp {w : Cond} (i : Nat) (h : (k2_sels lw_privs)[i]? = some w) (hg : goodWord w = true) : w ∈ sw_tb := List.mem_filter.mpr ⟨List.mem_append_left _ (List.mem_of_getElem? h), hg⟩
theorem sw_gin {y yo : MethodName} {cc co : ByteArray} {nL no : Nat} {ret ro : Option FieldType} (h : Cond.code y cc nL ret ∈ sw_tb) : GoodIn (sw_ws yo co no ro) (sw_ws y cc nL ret) := by
  intro w hw
  have hm : w ∈ sw_tb := by
    rcases List.mem_cons.mp hw with h1 | h1
    · rw [h1]; exact h
    · exact h1
  exact ⟨List.mem_cons_of_mem _ hm, good_of_word (List.mem_filter.mp hm).2⟩
def sw_calV (y : MethodName) (cc : ByteArray) (nL : Nat) (ret : Option FieldType) (n : Nat) : Prop := Cond.code y cc nL ret ∈ sw_tb ∧ Cond.instanceMethod y ∈ sw_tb ∧ Cond.selects y.cls y y ∈ sw_tb ∧ Cond.initialized y.cls ∈ sw_tb ∧ (y.cls ≠ "java/lang/invoke/MethodHandle" ∧ y.cls ≠ "java/lang/invoke/VarHandle" ∧ (parseMethodDescriptor y.desc).map (fun d => d.parameters.length) = some n)
def sw_calS (y : MethodName) (cc : ByteArray) (nL : Nat) (ret : Option FieldType) (n : Nat) : Prop := Cond.code y cc nL ret ∈ sw_tb ∧ Cond.static y ∈ sw_tb ∧ Cond.initialized y.cls ∈ sw_tb ∧ (y.cls ≠ "java/lang/invoke/MethodHandle" ∧ y.cls ≠ "java/lang/invoke/VarHandle" ∧ (parseMethodDescriptor y.desc).map (fun d => d.parameters.length) = some n)
abbrev sw_rm (f n : Nat) : Room := { frames := f, cells := 0, slots := 0, locals := n }
section SWR
variable {p : Program} {l : Launch} {e : Env} {R : Room} {s : State} {m : MethodId} {args : Array Value} {below : List Frame} {meth : Method} {c : Code} {H : Heap} {locs : List Loc} {cells slots : Nat} {Q : State → Prop}
variable {cc : ByteArray} {nL : Nat} {own : String} {ret ro : Option FieldType} {yo : MethodName} {D : va_G} {cl : List vw_C} {tys : List (ClassId × FieldType)} {F : (Nat → Prop) → State → Heap → Prop} {A : Nat → Prop} {w w2 : va_W} {pc : Nat} {ls : Array Slot} {rest st : List Value}
theorem sw_sub (hA : ∀ q : Nat, s.heap.size ≤ q → A q) (hD : va_D A w) (hS : va_S A s.heap H locs) : ∀ q, va_A w H.size q → A q := by
  intro q h
  rcases h with ⟨k, e, h⟩ | h
  · exact hD.2 k (q, e) h
  · exact hA q (Nat.le_trans hS.1 h)
theorem sw_pre {as : List Value} (hg : sw_good F) (X : sw_X p s m args meth c cc nL own ret (sw_ws yo cc nL ro) D cl tys F A) (hP : va_P D cl w H) (hD : va_D A w) (hS : va_S A s.heap H locs) : ∀ U : State, U.heap = H → s.WarmedH U.vm → sw_Pc D cl tys F as w H.size as.toArray U := by
  obtain ⟨-, -, -, hK, hA, hF⟩ := X
  intro U hU hW
  refine ⟨rfl, by rw [hU], by rw [hU]; exact hP, va_K.moved hW.alike hK, hD.weaken (fun _ _ _ _ => trivial), ?_⟩
  rw [hU]
  exact hg.2.2 _ _ _ _ (hg.1 _ _ _ _ hW.alike (hg.2.1 _ _ _ _ hF hS.2.1)) (sw_sub hA hD hS)
/-- a call of an instance method that answers an int -/
theorem sw_vi {y : MethodName} {bytes : ByteArray} {maxL n index : Nat} {rt : Option FieldType} {f1 n1 f0 n0 : Nat} {b : Nat} {As : List Value} {r : Int32} (hg : sw_good F) (X : sw_X p s m args meth c cc nL own ret (sw_ws yo cc nL ro) D cl tys F A) (hM : sw_Mi l y (sw_ws y bytes maxL rt) (sw_rm f1 n1) D cl tys F (.ref b :: As) w w2 r) (hc : sw_calV y bytes maxL rt n) (hlk : Cond.methodLink own index y ∈ sw_tb)
    (hP : va_P D cl w H) (hD : va_D A w) (hS : va_S A s.heap H locs) (q0 ci : Nat) {fs : List Value} (he : w[q0]? = some (b, .inr (ci, fs))) {q : vw_C} (hci : cl[ci]? = some q) (hq : q.1 = y.cls) (hR : Nat.ble (f1 + 1) f0 = true ∧ Nat.ble (8 + (maxL + 11) + n1) n0 = true) (hn : As.length = n) (hl : ls.size = nL) (hst : st = As.reverse ++ .ref b :: rest) (hw : (rest.map fun v => v.category).sum ≤ 8) (hdg : decode cc pc = .ok (.invokevirtual index, 3))
    (kk : ∀ (H1 : Heap) (locs1 : List Loc), va_P D cl w2 H1 → va_D A w2 → va_S A s.heap H1 locs1 → W p l e (sw_rm f0 n0) s m args below meth c H1 locs1 0 0 Q (F0 m (pc + 3) ls (.int r :: rest))) : W p l e (sw_rm f0 n0) s m args below meth c H locs 0 0 Q (F0 m pc ls st) := by
  have hsb := sw_sub X.2.2.2.2.1 hD hS
  have hts := X.1.2.2.2.2
  obtain ⟨k1, k2, k3, k4, k5⟩ := hc
  have cw : CallW (sw_rm f0 n0) s args own y.cls index y bytes maxL rt (sw_ws y bytes maxL rt) (sw_rm f1 n1) 0 0 n := ⟨callB_of n hts (sw_gin k1) rfl rfl rfl (hts _ (List.mem_cons_of_mem _ k4)) (hts _ (List.mem_cons_of_mem _ hlk)) k5 ⟨Nat.le_of_ble_eq_true hR.1, Nat.le_of_ble_eq_true hR.2⟩, hts _ (List.mem_cons_of_mem _ k2), hts _ (List.mem_cons_of_mem _ k3)⟩
  refine va_calli (va_runV (C := y.cls) (As := As) (rest := rest) X.1 (hM H.size) cw ⟨sw_blind hg, by rw [← hq]; exact va_recv X.2.2.2.1 hP hci he, sw_pre (as := .ref b :: As) hg X hP hD hS⟩ rfl hn hl hst (lv_room hw) hdg ⟨Nat.zero_le _, Nat.zero_le _⟩) hS (fun q _ h => hsb q h) hsb (fun r9 u t H1 locs1 ht hvm hw9 hB hz1 hk1 hS1 => ?_)
  obtain ⟨hP1, hK1, hD1⟩ := hB
  rw [ht] at hP1
  subst hw9
  exact kk H1 locs1 hP1 (hD1.weaken (fun k q _ h => hsb q.1 h)) hS1
/-- a call of an instance method that answers nothing -/
theorem sw_vv {y : MethodName} {bytes : ByteArray} {maxL n index : Nat} {rt : Option FieldType} {f1 n1 f0 n0 : Nat} {b : Nat} {As : List Value} (hg : sw_good F) (X : sw_X p s m args meth c cc nL own ret (sw_ws yo cc nL ro) D cl tys F A) (hM : sw_Mv l y (sw_ws y bytes maxL rt) (sw_rm f1 n1) D cl tys F (.ref b :: As) w w2) (hc : sw_calV y bytes maxL rt n) (hlk : Cond.methodLink own index y ∈ sw_tb)
    (hP : va_P D cl w H) (hD : va_D A w) (hS : va_S A s.heap H locs) (q0 ci : Nat) {fs : List Value} (he : w[q0]? = some (b, .inr (ci, fs))) {q : vw_C} (hci : cl[ci]? = some q) (hq : q.1 = y.cls) (hR : Nat.ble (f1 + 1) f0 = true ∧ Nat.ble (8 + (maxL + 11) + n1) n0 = true) (hn : As.length = n) (hl : ls.size = nL) (hst : st = As.reverse ++ .ref b :: rest) (hw : (rest.map fun v => v.category).sum ≤ 8) (hdg : decode cc pc = .ok (.invokevirtual index, 3))
    (kk : ∀ (H1 : Heap) (locs1 : List Loc), va_P D cl w2 H1 → va_D A w2 → va_S A s.heap H1 locs1 → W p l e (sw_rm f0 n0) s m args below meth c H1 locs1 0 0 Q (F0 m (pc + 3) ls rest)) : W p l e (sw_rm f0 n0) s m args below meth c H locs 0 0 Q (F0 m pc ls st) := by
  have hsb := sw_sub X.2.2.2.2.1 hD hS
  have hts := X.1.2.2.2.2
  obtain ⟨k1, k2, k3, k4, k5⟩ := hc
  have cw : CallW (sw_rm f0 n0) s args own y.cls index y bytes maxL rt (sw_ws y bytes maxL rt) (sw_rm f1 n1) 0 0 n := ⟨callB_of n hts (sw_gin k1) rfl rfl rfl (hts _ (List.mem_cons_of_mem _ k4)) (hts _ (List.mem_cons_of_mem _ hlk)) k5 ⟨Nat.le_of_ble_eq_true hR.1, Nat.le_of_ble_eq_true hR.2⟩, hts _ (List.mem_cons_of_mem _ k2), hts _ (List.mem_cons_of_mem _ k3)⟩
  refine va_callv (va_runV (C := y.cls) (As := As) (rest := rest) X.1 (hM H.size) cw ⟨sw_blind hg, by rw [← hq]; exact va_recv X.2.2.2.1 hP hci he, sw_pre (as := .ref b :: As) hg X hP hD hS⟩ rfl hn hl hst (lv_room hw) hdg ⟨Nat.zero_le _, Nat.zero_le _⟩) hS (fun q _ h => hsb q h) hsb (fun u t H1 locs1 ht hvm hw9 hB hz1 hk1 hS1 => ?_)
  obtain ⟨hP1, hK1, hD1⟩ := hB
  rw [ht] at hP1
  exact kk H1 locs1 hP1 (hD1.weaken (fun k q _ h => hsb q.1 h)) hS1
/-- a call of a static method that answers an int -/
theorem sw_si {y : MethodName} {bytes : ByteArray} {maxL n index : Nat} {rt : Option FieldType} {f1 n1 f0 n0 : Nat} {As : List Value} {r : Int32} (hg : sw_good F) (X : sw_X p s m args meth c cc nL own ret (sw_ws yo cc nL ro) D cl tys F A) (hM : sw_Mi l y (sw_ws y bytes maxL rt) (sw_rm f1 n1) D cl tys F As w w2 r) (hc : sw_calS y bytes maxL rt n) (hlk : Cond.methodLink own index y ∈ sw_tb)
    (hP : va_P D cl w H) (hD : va_D A w) (hS : va_S A s.heap H locs) (hR : Nat.ble (f1 + 1) f0 = true ∧ Nat.ble (8 + (maxL + 11) + n1) n0 = true) (hn : As.length = n) (hl : ls.size = nL) (hst : st = As.reverse ++ rest) (hw : (rest.map fun v => v.category).sum ≤ 8) (hdg : decode cc pc = .ok (.invokestatic index, 3))
    (kk : ∀ (H1 : Heap) (locs1 : List Loc), va_P D cl w2 H1 → va_D A w2 → va_S A s.heap H1 locs1 → W p l e (sw_rm f0 n0) s m args below meth c H1 locs1 0 0 Q (F0 m (pc + 3) ls (.int r :: rest))) : W p l e (sw_rm f0 n0) s m args below meth c H locs 0 0 Q (F0 m pc ls st) := by
  have hsb := sw_sub X.2.2.2.2.1 hD hS
  have hts := X.1.2.2.2.2
  obtain ⟨k1, k2, k4, k5⟩ := hc
  have cw : CallB (sw_rm f0 n0) s args own index y bytes maxL rt (sw_ws y bytes maxL rt) (sw_rm f1 n1) 0 0 n ∧ (Cond.static y).before args s = true := ⟨callB_of n hts (sw_gin k1) rfl rfl rfl (hts _ (List.mem_cons_of_mem _ k4)) (hts _ (List.mem_cons_of_mem _ hlk)) k5 ⟨Nat.le_of_ble_eq_true hR.1, Nat.le_of_ble_eq_true hR.2⟩, hts _ (List.mem_cons_of_mem _ k2)⟩
  refine va_calli (va_runS (As := As) (rest := rest) X.1 (hM H.size) cw ⟨sw_blind hg, sw_pre (as := As) hg X hP hD hS⟩ rfl hn hl hst (lv_room hw) hdg ⟨Nat.zero_le _, Nat.zero_le _⟩) hS (fun q _ h => hsb q h) hsb (fun r9 u t H1 locs1 ht hvm hw9 hB hz1 hk1 hS1 => ?_)
  obtain ⟨hP1, hK1, hD1⟩ := hB
  rw [ht] at hP1
  subst hw9
  exact kk H1 locs1 hP1 (hD1.weaken (fun k q _ h => hsb q.1 h)) hS1
theorem sw_get (X : sw_X p s m args meth c cc nL own ret (sw_ws yo cc nL ro) D cl tys F A) (hP : va_P D cl w H) (q0 : Nat) {ci a index : Nat} {fs : List Value} (he : w[q0]? = some (a, .inr (ci, fs))) {C : String} {T : u_T} {N : Nat} (hc : cl[ci]? = some (C, T, N)) (hin : ∀ w ∈ u_ws C T N, w ∈ sw_tb) (k : Nat) (hk : k < N) (hlk : Cond.fieldLink own index (T k).1 (T k).2.1 (T k).2.2.1 ∈ sw_tb) {v : Value} (hv : fs[k]? = some v) (hdg : decode cc pc = .ok (.getfield index, 3))
    (kk : W p l e R s m args below meth c H locs cells slots Q (F0 m (pc + 3) ls (v :: rest))) : W p l e R s m args below meth c H locs cells slots Q (F0 m pc ls (.ref a :: rest)) := by
  obtain ⟨⟨hx, hb, hml, hown, hts⟩, hr, hlocks, hK, hA, hF⟩ := X
  exact va_get (D := D) (ci := ci) (v := v) (C := C) (T := T) (N := N) hx hb hts (fun w h => List.mem_cons_of_mem _ (hin w h)) hown hK hP q0 he hc k hk (hts _ (List.mem_cons_of_mem _ hlk)) (fun _ h9 => h9) hv hdg kk
theorem sw_put (X : sw_X p s m args meth c cc nL own ret (sw_ws yo cc nL ro) D cl tys F A) (hP : va_P D cl w H) (hD : va_D A w) (hS : va_S A s.heap H locs) (q0 : Nat) {ci a index : Nat} {fs : List Value} (he : w[q0]? = some (a, .inr (ci, fs))) {C : String} {T : u_T} {N : Nat} (hc : cl[ci]? = some (C, T, N)) (hin : ∀ w ∈ u_ws C T N, w ∈ sw_tb) (ty0 : Nat → FieldType) (hty : ∀ k, k < N → parseFieldDescriptor (T k).2.2.1 = some (ty0 k)) (hnm : ∀ a, a < N → ∀ b, b < N → a ≠ b → (T a).2.1 ≠ (T b).2.1) (k : Nat) (hk : k < N) (hlk : Cond.fieldLink own index (T k).1 (T k).2.1 (T k).2.2.1 ∈ sw_tb) (hfin : (T k).2.2.2 = false) {v : Value} (hn : narrow (ty0 k) v = v) (hfit : fits (ty0 k) v = true) (hl : k < fs.length) (hw2 : w.set q0 (a, .inr (ci, fs.set k v)) = w2) (hdg : decode cc pc = .ok (.putfield index, 3))
    (kk : ∀ (H1 : Heap) (locs1 : List Loc), va_P D cl w2 H1 → va_D A w2 → va_S A s.heap H1 locs1 → W p l e R s m args below meth c H1 locs1 cells slots Q (F0 m (pc + 3) ls rest)) : W p l e R s m args below meth c H locs cells slots Q (F0 m pc ls (v :: .ref a :: rest)) := by
  obtain ⟨⟨hx, hb, hml, hown, hts⟩, hr, hlocks, hK, hA, hF⟩ := X
  subst hw2
  exact va_put (D := D) (ci := ci) (v := v) (ty := ty0 k) (C := C) (T := T) (N := N) hx hb hts (fun w h => List.mem_cons_of_mem _ (hin w h)) ty0 hty hnm hown hK hP hD hS q0 he hc k hk (hts _ (List.mem_cons_of_mem _ hlk)) (fun _ h9 => h9) hfin (hty k hk) hn hfit hl hdg kk
theorem sw_iald (X : sw_X p s m args meth c cc nL own ret (sw_ws yo cc nL ro) D cl tys F A) (hP : va_P D cl w H) (q0 : Nat) {a n : Nat} {cA : ClassId} {f : Nat → Int32} (he : w[q0]? = some (a, .inl (cA, n, .inl f))) (ht : tys[0]? = some (cA, .int)) {i : Int32} (hin : vp_in i n) (hdg : decode cc pc = .ok (.iaload, 1))
    (kk : W p l e R s m args below meth c H locs cells slots Q (F0 m (pc + 1) ls (.int (f i.toNatClampNeg) :: rest))) : W p l e R s m args below meth c H locs cells slots Q (F0 m pc ls (.int i :: .ref a :: rest)) :=
  va_iald X.1.1 X.1.2.1 X.2.2.2.1 hP q0 0 he ht hin hdg kk
theorem sw_iast (X : sw_X p s m args meth c cc nL own ret (sw_ws yo cc nL ro) D cl tys F A) (hP : va_P D cl w H) (hD : va_D A w) (hS : va_S A s.heap H locs) (q0 : Nat) {a n : Nat} {cA : ClassId} {f : Nat → Int32} (he : w[q0]? = some (a, .inl (cA, n, .inl f))) (ht : tys[0]? = some (cA, .int)) {i x : Int32} (hin : vp_in i n) (hw2 : w.set q0 (a, .inl (cA, n, .inl (upd f i.toNatClampNeg x))) = w2) (hdg : decode cc pc = .ok (.iastore, 1))
    (kk : ∀ (H1 : Heap) (locs1 : List Loc), va_P D cl w2 H1 → va_D A w2 → va_S A s.heap H1 locs1 → W p l e R s m args below meth c H1 locs1 cells slots Q (F0 m (pc + 1) ls rest)) : W p l e R s m args below meth c H locs cells slots Q (F0 m pc ls (.int x :: .int i :: .ref a :: rest)) := by
  subst hw2
  exact va_iast X.1.1 X.1.2.1 X.2.2.2.1 hP hD hS q0 0 he ht hin hdg kk
theorem sw_bret {r : Int32} (X : sw_X p s m args meth c cc nL own (some .boolean) (sw_ws yo cc nL ro) D cl tys F A) (hn : narrow .boolean (.int r) = .int r) (hP : va_P D cl w H) (hD : va_D A w) (hS : va_S A s.heap H locs) (hdg : decode cc pc = .ok (.ireturn, 1)) :
    W p l e R s m args below meth c H locs cells slots (MQ below (sw_Qi D cl tys A w r) args s cells slots A) (F0 m pc ls [.int r]) := by
  obtain ⟨⟨hx, hb, hml, hown, hts⟩, hr, hlocks, hK, hA, hF⟩ := X
  exact W.zret (v := r) (ty := .boolean) hx hb hr hn (fun t ht hW => ⟨⟨r, (), rfl, rfl, by rw [ht]; exact hP, va_K.moved hW.alike hK, hD⟩, hS.F ht⟩) hS.2.2 hdg
theorem sw_tabK (hx : p.tables.exec = Jvm.exec) (hb : c.code = cc) {dflt lo hi off : Int} {offs : Array Int} {len tgt : Nat} {x : Int32} (hdg : decode cc pc = .ok (.tableswitch dflt lo hi offs, len)) (ks : List Int32) (h : x ∈ ks) (hk : ks.all (fun k => decide (lo ≤ k.toInt) && (decide (k.toInt ≤ hi) && decide (offs[(k.toInt - lo).toNat]? = some off))) = true) (ht : (pc : Int) + off = (tgt : Int))
    (kk : W p l e R s m args below meth c H locs cells slots Q (F0 m tgt ls rest)) : W p l e R s m args below meth c H locs cells slots Q (F0 m pc ls (.int x :: rest)) := by
  have h1 := List.all_eq_true.mp hk x h
  simp only [Bool.and_eq_true, decide_eq_true_eq] at h1
  exact lv_tableIn hx hb hdg (by omega) (by omega) h1.2.2 ht kk
theorem sw_tabD (hx : p.tables.exec = Jvm.exec) (hb : c.code = cc) {dflt lo hi : Int} {offs : Array Int} {len tgt : Nat} {x : Int32} (hdg : decode cc pc = .ok (.tableswitch dflt lo hi offs, len)) (ks : List Int32) (h : ¬ x ∈ ks) (hk : (List.range (hi - lo + 1).toNat).all (fun i => decide (offs[i]? = some dflt) || decide (Int32.ofInt (lo + (i : Int)) ∈ ks)) = true) (ht : (pc : Int) + dflt = (tgt : Int))
    (kk : W p l e R s m args below meth c H locs cells slots Q (F0 m tgt ls rest)) : W p l e R s m args below meth c H locs cells slots Q (F0 m pc ls (.int x :: rest)) := by
  by_cases ho : x.toInt < lo ∨ hi < x.toInt
  · exact lv_tableOut hx hb hdg ho ht kk
  · have h1 := List.all_eq_true.mp hk (x.toInt - lo).toNat (List.mem_range.mpr (by omega))
    simp only [Bool.or_eq_true, decide_eq_true_eq] at h1
    rcases h1 with h1 | h1
    · exact lv_tableIn hx hb hdg (by omega) (by omega) h1 ht kk
    · refine absurd ?_ h
      have e : lo + ((x.toInt - lo).toNat : Int) = x.toInt := by omega
      rw [e, Int32.ofInt_toInt] at h1
      exact h1
theorem sw_lkK (hx : p.tables.exec = Jvm.exec) (hb : c.code = cc) {dflt off : Int} {ps : Array (Int × Int)} {len tgt : Nat} {x : Int32} (hdg : decode cc pc = .ok (.lookupswitch dflt ps, len)) (hp : (ps.toList.zip (ps.toList.drop 1)).all (fun (a, next) => a.1 < next.1) = true) (ks : List Int32) (h : x ∈ ks) (hk : ks.all (fun k => decide (Op.lookupswitch.offset ps.toList dflt k.toInt = off)) = true) (ht : (pc : Int) + off = (tgt : Int))
    (kk : W p l e R s m args below meth c H locs cells slots Q (F0 m tgt ls rest)) : W p l e R s m args below meth c H locs cells slots Q (F0 m pc ls (.int x :: rest)) := by
  have h1 := List.all_eq_true.mp hk x h
  simp only [decide_eq_true_eq] at h1
  exact lv_lookup hx hb hdg hp h1 ht kk
theorem sw_lkD (hx : p.tables.exec = Jvm.exec) (hb : c.code = cc) {dflt : Int} {ps : Array (Int × Int)} {len tgt : Nat} {x : Int32} (hdg : decode cc pc = .ok (.lookupswitch dflt ps, len)) (hp : (ps.toList.zip (ps.toList.drop 1)).all (fun (a, next) => a.1 < next.1) = true) (ks : List Int32) (h : ¬ x ∈ ks) (hk : ps.toList.all (fun q => decide (q.2 = dflt) || decide (Int32.ofInt q.1 ∈ ks)) = true) (ht : (pc : Int) + dflt = (tgt : Int))
    (kk : W p l e R s m args below meth c H locs cells slots Q (F0 m tgt ls rest)) : W p l e R s m args below meth c H locs cells slots Q (F0 m pc ls (.int x :: rest)) := by
  refine lv_lookup hx hb hdg hp ?_ ht kk
  have key : ∀ l : List (Int × Int), l.all (fun q => decide (q.2 = dflt) || decide (Int32.ofInt q.1 ∈ ks)) = true → Op.lookupswitch.offset l dflt x.toInt = dflt := by
    intro l
    induction l with
    | nil => intro _; simp [Op.lookupswitch.offset]
    | cons q l ih =>
      intro hl
      simp only [List.all_cons, Bool.and_eq_true, Bool.or_eq_true, decide_eq_true_eq] at hl
      have ih := ih hl.2
      by_cases e : q.1 = x.toInt
      · rcases hl.1 with h1 | h1
        · simp [Op.lookupswitch.offset, e, h1]
        · rw [e, Int32.ofInt_toInt] at h1
          exact absurd h1 h
      · simp only [Op.lookupswitch.offset] at ih ⊢
        simpa [e] using ih
  exact key _ hk
end SWR
/-! naming, binding -/
def nm {α β : Type} (x : α) (f : α → Option β) : Option β := f x
theorem nm_use {α β : Type} {x y : α} {f : α → Option β} {z : Option β} (e : y = x) (h : nm x f = z) : f y = z := by subst e; exact h
def bd {α β : Type} (x : Option α) (f : α → Option β) : Option β := x.bind f
theorem bd_some {α β : Type} {x : Option α} {f : α → Option β} {z : β} (h : bd x f = some z) : ∃ a, x = some a ∧ f a = some z := Option.bind_eq_some_iff.mp h
def bd2 {α σ β : Type} (x : Option (α × σ)) (f : α → σ → Option β) : Option β := x.bind (fun p => f p.1 p.2)
theorem bd2_some {α σ β : Type} {x : Option (α × σ)} {f : α → σ → Option β} {z : β} (h : bd2 x f = some z) : ∃ a s, x = some (a, s) ∧ f a s = some z := by
  obtain ⟨⟨a, s⟩, h1, h2⟩ := Option.bind_eq_some_iff.mp h
  exact ⟨a, s, h1, h2⟩
theorem if_yes {α : Type} {c : Prop} [Decidable c] {x y : Option α} {z : α} (h : (if c then x else y) = some z) (hc : c) : x = some z := by rw [if_pos hc] at h; exact h
theorem if_no {α : Type} {c : Prop} [Decidable c] {x y : Option α} {z : α} (h : (if c then x else y) = some z) (hc : ¬ c) : y = some z := by rw [if_neg hc] at h; exact h
/-- an index, or a boolean, that is looked at -/
def gd {α : Type} (c : Prop) [Decidable c] (x : Option α) : Option α := if c then x else none
theorem gd_some {α : Type} {c : Prop} [Decidable c] {x : Option α} {z : α} (h : gd c x = some z) : c ∧ x = some z := by
  unfold gd at h
  split at h
  · exact ⟨by assumption, h⟩
  · cases h
def vin (i : Int32) (n : Int32) : Prop := 0 ≤ i ∧ i < n
theorem vin_in {i : Int32} {n : Int32} {k : Nat} (h : 0 ≤ i ∧ i < n) (hn : n.toInt = (k : Int)) : vp_in i k := by
  rw [vp_in_iff]
  have h1 := Int32.le_iff_toInt_le.mp h.1
  have h2 := Int32.lt_iff_toInt_lt.mp h.2
  rw [Int32.toInt_zero] at h1
  omega
theorem bz_n {x : Int32} (h : x = 0 ∨ x = 1) : narrow .boolean (.int x) = .int x := by
  rcases h with rfl | rfl <;> decide
theorem bz_f {x : Int32} (h : x = 0 ∨ x = 1) : fits .boolean (.int x) = true := by
  rcases h with rfl | rfl <;> decide
end
