section
-- ===== PART A: goes FIRST, ahead of the names: the tables' words, and 'selects' of the private methods out of them =====
/-- a private method of a class that the tables say can be made, by its rows of tables_1 -/
def lw_okq (q : MethodName × Nat) : Prop := (q.1.cls ≠ "java/lang/invoke/MethodHandle" ∧ q.1.cls ≠ "java/lang/invoke/VarHandle") ∧ Cond.instantiable q.1.cls q.2 ∈ tables_1 ∧ Cond.privateMethod q.1 ∈ tables_1 ∧ Cond.instanceMethod q.1 ∈ tables_1
theorem lw_p0 : lw_okq (⟨"PassiveBuses", "terminalAt", "(II)LPassiveBuses$Terminal;"⟩, 5) := ⟨⟨by decide +kernel, by decide +kernel⟩, List.mem_of_getElem? (i := 11) (by decide +kernel), List.mem_of_getElem? (i := 325) (by decide +kernel), List.mem_of_getElem? (i := 326) (by decide +kernel)⟩
theorem lw_p1 : lw_okq (⟨"PassiveBuses", "stepUp", "(I)I"⟩, 5) := ⟨⟨by decide +kernel, by decide +kernel⟩, List.mem_of_getElem? (i := 11) (by decide +kernel), List.mem_of_getElem? (i := 370) (by decide +kernel), List.mem_of_getElem? (i := 371) (by decide +kernel)⟩
theorem lw_p2 : lw_okq (⟨"PassiveBuses", "receiveUp", "(ILPassiveBuses$Frame;I)V"⟩, 5) := ⟨⟨by decide +kernel, by decide +kernel⟩, List.mem_of_getElem? (i := 11) (by decide +kernel), List.mem_of_getElem? (i := 416) (by decide +kernel), List.mem_of_getElem? (i := 417) (by decide +kernel)⟩
theorem lw_p3 : lw_okq (⟨"PassiveBuses", "onSetup", "(ILPassiveBuses$Frame;)V"⟩, 5) := ⟨⟨by decide +kernel, by decide +kernel⟩, List.mem_of_getElem? (i := 11) (by decide +kernel), List.mem_of_getElem? (i := 425) (by decide +kernel), List.mem_of_getElem? (i := 426) (by decide +kernel)⟩
theorem lw_p4 : lw_okq (⟨"PassiveBuses", "freeChannel", "(II)I"⟩, 5) := ⟨⟨by decide +kernel, by decide +kernel⟩, List.mem_of_getElem? (i := 11) (by decide +kernel), List.mem_of_getElem? (i := 429) (by decide +kernel), List.mem_of_getElem? (i := 430) (by decide +kernel)⟩
theorem lw_p5 : lw_okq (⟨"PassiveBuses", "numberHolding", "(II)I"⟩, 5) := ⟨⟨by decide +kernel, by decide +kernel⟩, List.mem_of_getElem? (i := 11) (by decide +kernel), List.mem_of_getElem? (i := 433) (by decide +kernel), List.mem_of_getElem? (i := 434) (by decide +kernel)⟩
theorem lw_p6 : lw_okq (⟨"PassiveBuses", "refuse", "(ILPassiveBuses$Frame;I)V"⟩, 5) := ⟨⟨by decide +kernel, by decide +kernel⟩, List.mem_of_getElem? (i := 11) (by decide +kernel), List.mem_of_getElem? (i := 449) (by decide +kernel), List.mem_of_getElem? (i := 450) (by decide +kernel)⟩
theorem lw_p7 : lw_okq (⟨"PassiveBuses", "onAlert", "(ILPassiveBuses$Frame;)V"⟩, 5) := ⟨⟨by decide +kernel, by decide +kernel⟩, List.mem_of_getElem? (i := 11) (by decide +kernel), List.mem_of_getElem? (i := 465) (by decide +kernel), List.mem_of_getElem? (i := 466) (by decide +kernel)⟩
theorem lw_p8 : lw_okq (⟨"PassiveBuses", "answerableCall", "(II)LPassiveBuses$Call;"⟩, 5) := ⟨⟨by decide +kernel, by decide +kernel⟩, List.mem_of_getElem? (i := 11) (by decide +kernel), List.mem_of_getElem? (i := 469) (by decide +kernel), List.mem_of_getElem? (i := 470) (by decide +kernel)⟩
theorem lw_p9 : lw_okq (⟨"PassiveBuses", "onConnect", "(ILPassiveBuses$Frame;)V"⟩, 5) := ⟨⟨by decide +kernel, by decide +kernel⟩, List.mem_of_getElem? (i := 11) (by decide +kernel), List.mem_of_getElem? (i := 479) (by decide +kernel), List.mem_of_getElem? (i := 480) (by decide +kernel)⟩
theorem lw_p10 : lw_okq (⟨"PassiveBuses", "hasLeg", "(ILPassiveBuses$Frame;)Z"⟩, 5) := ⟨⟨by decide +kernel, by decide +kernel⟩, List.mem_of_getElem? (i := 11) (by decide +kernel), List.mem_of_getElem? (i := 483) (by decide +kernel), List.mem_of_getElem? (i := 484) (by decide +kernel)⟩
theorem lw_p11 : lw_okq (⟨"PassiveBuses", "leaveLeg", "(ILPassiveBuses$Frame;)V"⟩, 5) := ⟨⟨by decide +kernel, by decide +kernel⟩, List.mem_of_getElem? (i := 11) (by decide +kernel), List.mem_of_getElem? (i := 496) (by decide +kernel), List.mem_of_getElem? (i := 497) (by decide +kernel)⟩
theorem lw_p12 : lw_okq (⟨"PassiveBuses", "callerGone", "(LPassiveBuses$Call;)V"⟩, 5) := ⟨⟨by decide +kernel, by decide +kernel⟩, List.mem_of_getElem? (i := 11) (by decide +kernel), List.mem_of_getElem? (i := 500) (by decide +kernel), List.mem_of_getElem? (i := 501) (by decide +kernel)⟩
theorem lw_p13 : lw_okq (⟨"PassiveBuses", "endCall", "(LPassiveBuses$Call;I)V"⟩, 5) := ⟨⟨by decide +kernel, by decide +kernel⟩, List.mem_of_getElem? (i := 11) (by decide +kernel), List.mem_of_getElem? (i := 504) (by decide +kernel), List.mem_of_getElem? (i := 505) (by decide +kernel)⟩
theorem lw_p14 : lw_okq (⟨"PassiveBuses", "calledGone", "(LPassiveBuses$Call;I)V"⟩, 5) := ⟨⟨by decide +kernel, by decide +kernel⟩, List.mem_of_getElem? (i := 11) (by decide +kernel), List.mem_of_getElem? (i := 508) (by decide +kernel), List.mem_of_getElem? (i := 509) (by decide +kernel)⟩
theorem lw_p15 : lw_okq (⟨"PassiveBuses", "forgetFinishedCalls", "()V"⟩, 5) := ⟨⟨by decide +kernel, by decide +kernel⟩, List.mem_of_getElem? (i := 11) (by decide +kernel), List.mem_of_getElem? (i := 516) (by decide +kernel), List.mem_of_getElem? (i := 517) (by decide +kernel)⟩
def lw_privs_1 : List (MethodName × Nat) := [(⟨"PassiveBuses", "terminalAt", "(II)LPassiveBuses$Terminal;"⟩, 5), (⟨"PassiveBuses", "stepUp", "(I)I"⟩, 5), (⟨"PassiveBuses", "receiveUp", "(ILPassiveBuses$Frame;I)V"⟩, 5), (⟨"PassiveBuses", "onSetup", "(ILPassiveBuses$Frame;)V"⟩, 5), (⟨"PassiveBuses", "freeChannel", "(II)I"⟩, 5), (⟨"PassiveBuses", "numberHolding", "(II)I"⟩, 5), (⟨"PassiveBuses", "refuse", "(ILPassiveBuses$Frame;I)V"⟩, 5), (⟨"PassiveBuses", "onAlert", "(ILPassiveBuses$Frame;)V"⟩, 5), (⟨"PassiveBuses", "answerableCall", "(II)LPassiveBuses$Call;"⟩, 5), (⟨"PassiveBuses", "onConnect", "(ILPassiveBuses$Frame;)V"⟩, 5), (⟨"PassiveBuses", "hasLeg", "(ILPassiveBuses$Frame;)Z"⟩, 5), (⟨"PassiveBuses", "leaveLeg", "(ILPassiveBuses$Frame;)V"⟩, 5), (⟨"PassiveBuses", "callerGone", "(LPassiveBuses$Call;)V"⟩, 5), (⟨"PassiveBuses", "endCall", "(LPassiveBuses$Call;I)V"⟩, 5), (⟨"PassiveBuses", "calledGone", "(LPassiveBuses$Call;I)V"⟩, 5), (⟨"PassiveBuses", "forgetFinishedCalls", "()V"⟩, 5)]
theorem lw_r1 : ∀ q ∈ lw_privs_1, lw_okq q := List.forall_mem_cons.mpr ⟨lw_p0, List.forall_mem_cons.mpr ⟨lw_p1, List.forall_mem_cons.mpr ⟨lw_p2, List.forall_mem_cons.mpr ⟨lw_p3, List.forall_mem_cons.mpr ⟨lw_p4, List.forall_mem_cons.mpr ⟨lw_p5, List.forall_mem_cons.mpr ⟨lw_p6, List.forall_mem_cons.mpr ⟨lw_p7, List.forall_mem_cons.mpr ⟨lw_p8, List.forall_mem_cons.mpr ⟨lw_p9, List.forall_mem_cons.mpr ⟨lw_p10, List.forall_mem_cons.mpr ⟨lw_p11, List.forall_mem_cons.mpr ⟨lw_p12, List.forall_mem_cons.mpr ⟨lw_p13, List.forall_mem_cons.mpr ⟨lw_p14, List.forall_mem_cons.mpr ⟨lw_p15, fun _ h => absurd h List.not_mem_nil⟩⟩⟩⟩⟩⟩⟩⟩⟩⟩⟩⟩⟩⟩⟩⟩
theorem lw_p16 : lw_okq (⟨"PassiveBuses", "stepDown", "(I)I"⟩, 5) := ⟨⟨by decide +kernel, by decide +kernel⟩, List.mem_of_getElem? (i := 11) (by decide +kernel), List.mem_of_getElem? (i := 544) (by decide +kernel), List.mem_of_getElem? (i := 545) (by decide +kernel)⟩
theorem lw_p17 : lw_okq (⟨"PassiveBuses", "dropAddress", "(II)V"⟩, 5) := ⟨⟨by decide +kernel, by decide +kernel⟩, List.mem_of_getElem? (i := 11) (by decide +kernel), List.mem_of_getElem? (i := 571) (by decide +kernel), List.mem_of_getElem? (i := 572) (by decide +kernel)⟩
theorem lw_p18 : lw_okq (⟨"PassiveBuses", "runClocks", "()V"⟩, 5) := ⟨⟨by decide +kernel, by decide +kernel⟩, List.mem_of_getElem? (i := 11) (by decide +kernel), List.mem_of_getElem? (i := 580) (by decide +kernel), List.mem_of_getElem? (i := 581) (by decide +kernel)⟩
theorem lw_p19 : lw_okq (⟨"PassiveBuses", "runAuditClock", "(II)V"⟩, 5) := ⟨⟨by decide +kernel, by decide +kernel⟩, List.mem_of_getElem? (i := 11) (by decide +kernel), List.mem_of_getElem? (i := 588) (by decide +kernel), List.mem_of_getElem? (i := 589) (by decide +kernel)⟩
theorem lw_p20 : lw_okq (⟨"PassiveBuses", "runCallClock", "(LPassiveBuses$Call;)V"⟩, 5) := ⟨⟨by decide +kernel, by decide +kernel⟩, List.mem_of_getElem? (i := 11) (by decide +kernel), List.mem_of_getElem? (i := 592) (by decide +kernel), List.mem_of_getElem? (i := 593) (by decide +kernel)⟩
theorem lw_p21 : lw_okq (⟨"PassiveBuses", "carrySpeech", "()V"⟩, 5) := ⟨⟨by decide +kernel, by decide +kernel⟩, List.mem_of_getElem? (i := 11) (by decide +kernel), List.mem_of_getElem? (i := 596) (by decide +kernel), List.mem_of_getElem? (i := 597) (by decide +kernel)⟩
theorem lw_p22 : lw_okq (⟨"PassiveBuses", "goesDown", "(II)I"⟩, 5) := ⟨⟨by decide +kernel, by decide +kernel⟩, List.mem_of_getElem? (i := 11) (by decide +kernel), List.mem_of_getElem? (i := 600) (by decide +kernel), List.mem_of_getElem? (i := 601) (by decide +kernel)⟩
theorem lw_p23 : lw_okq (⟨"PassiveBusesModel", "nothing", "(I)V"⟩, 50) := ⟨⟨by decide +kernel, by decide +kernel⟩, List.mem_of_getElem? (i := 656) (by decide +kernel), List.mem_of_getElem? (i := 821) (by decide +kernel), List.mem_of_getElem? (i := 822) (by decide +kernel)⟩
theorem lw_p24 : lw_okq (⟨"PassiveBusesModel", "up", "(IIII)V"⟩, 50) := ⟨⟨by decide +kernel, by decide +kernel⟩, List.mem_of_getElem? (i := 656) (by decide +kernel), List.mem_of_getElem? (i := 825) (by decide +kernel), List.mem_of_getElem? (i := 826) (by decide +kernel)⟩
theorem lw_p25 : lw_okq (⟨"PassiveBusesModel", "at", "(II)I"⟩, 50) := ⟨⟨by decide +kernel, by decide +kernel⟩, List.mem_of_getElem? (i := 656) (by decide +kernel), List.mem_of_getElem? (i := 833) (by decide +kernel), List.mem_of_getElem? (i := 834) (by decide +kernel)⟩
theorem lw_p26 : lw_okq (⟨"PassiveBusesModel", "down", "(IIIII)V"⟩, 50) := ⟨⟨by decide +kernel, by decide +kernel⟩, List.mem_of_getElem? (i := 656) (by decide +kernel), List.mem_of_getElem? (i := 861) (by decide +kernel), List.mem_of_getElem? (i := 862) (by decide +kernel)⟩
theorem lw_p27 : lw_okq (⟨"PassiveBusesModel", "open", "(I)Z"⟩, 50) := ⟨⟨by decide +kernel, by decide +kernel⟩, List.mem_of_getElem? (i := 656) (by decide +kernel), List.mem_of_getElem? (i := 869) (by decide +kernel), List.mem_of_getElem? (i := 870) (by decide +kernel)⟩
theorem lw_p28 : lw_okq (⟨"PassiveBusesModel", "upStep", "(I)V"⟩, 50) := ⟨⟨by decide +kernel, by decide +kernel⟩, List.mem_of_getElem? (i := 656) (by decide +kernel), List.mem_of_getElem? (i := 877) (by decide +kernel), List.mem_of_getElem? (i := 878) (by decide +kernel)⟩
theorem lw_p29 : lw_okq (⟨"PassiveBusesModel", "contention", "(I)I"⟩, 50) := ⟨⟨by decide +kernel, by decide +kernel⟩, List.mem_of_getElem? (i := 656) (by decide +kernel), List.mem_of_getElem? (i := 881) (by decide +kernel), List.mem_of_getElem? (i := 882) (by decide +kernel)⟩
theorem lw_p30 : lw_okq (⟨"PassiveBusesModel", "compared", "(II)I"⟩, 50) := ⟨⟨by decide +kernel, by decide +kernel⟩, List.mem_of_getElem? (i := 656) (by decide +kernel), List.mem_of_getElem? (i := 885) (by decide +kernel), List.mem_of_getElem? (i := 886) (by decide +kernel)⟩
theorem lw_p31 : lw_okq (⟨"PassiveBusesModel", "requested", "(II)V"⟩, 50) := ⟨⟨by decide +kernel, by decide +kernel⟩, List.mem_of_getElem? (i := 656) (by decide +kernel), List.mem_of_getElem? (i := 892) (by decide +kernel), List.mem_of_getElem? (i := 893) (by decide +kernel)⟩
def lw_privs_2 : List (MethodName × Nat) := [(⟨"PassiveBuses", "stepDown", "(I)I"⟩, 5), (⟨"PassiveBuses", "dropAddress", "(II)V"⟩, 5), (⟨"PassiveBuses", "runClocks", "()V"⟩, 5), (⟨"PassiveBuses", "runAuditClock", "(II)V"⟩, 5), (⟨"PassiveBuses", "runCallClock", "(LPassiveBuses$Call;)V"⟩, 5), (⟨"PassiveBuses", "carrySpeech", "()V"⟩, 5), (⟨"PassiveBuses", "goesDown", "(II)I"⟩, 5), (⟨"PassiveBusesModel", "nothing", "(I)V"⟩, 50), (⟨"PassiveBusesModel", "up", "(IIII)V"⟩, 50), (⟨"PassiveBusesModel", "at", "(II)I"⟩, 50), (⟨"PassiveBusesModel", "down", "(IIIII)V"⟩, 50), (⟨"PassiveBusesModel", "open", "(I)Z"⟩, 50), (⟨"PassiveBusesModel", "upStep", "(I)V"⟩, 50), (⟨"PassiveBusesModel", "contention", "(I)I"⟩, 50), (⟨"PassiveBusesModel", "compared", "(II)I"⟩, 50), (⟨"PassiveBusesModel", "requested", "(II)V"⟩, 50)]
theorem lw_r2 : ∀ q ∈ lw_privs_2, lw_okq q := List.forall_mem_cons.mpr ⟨lw_p16, List.forall_mem_cons.mpr ⟨lw_p17, List.forall_mem_cons.mpr ⟨lw_p18, List.forall_mem_cons.mpr ⟨lw_p19, List.forall_mem_cons.mpr ⟨lw_p20, List.forall_mem_cons.mpr ⟨lw_p21, List.forall_mem_cons.mpr ⟨lw_p22, List.forall_mem_cons.mpr ⟨lw_p23, List.forall_mem_cons.mpr ⟨lw_p24, List.forall_mem_cons.mpr ⟨lw_p25, List.forall_mem_cons.mpr ⟨lw_p26, List.forall_mem_cons.mpr ⟨lw_p27, List.forall_mem_cons.mpr ⟨lw_p28, List.forall_mem_cons.mpr ⟨lw_p29, List.forall_mem_cons.mpr ⟨lw_p30, List.forall_mem_cons.mpr ⟨lw_p31, fun _ h => absurd h List.not_mem_nil⟩⟩⟩⟩⟩⟩⟩⟩⟩⟩⟩⟩⟩⟩⟩⟩
theorem lw_p32 : lw_okq (⟨"PassiveBusesModel", "does", "(IIIII)V"⟩, 50) := ⟨⟨by decide +kernel, by decide +kernel⟩, List.mem_of_getElem? (i := 656) (by decide +kernel), List.mem_of_getElem? (i := 896) (by decide +kernel), List.mem_of_getElem? (i := 897) (by decide +kernel)⟩
theorem lw_p33 : lw_okq (⟨"PassiveBusesModel", "setup", "(IIII)V"⟩, 50) := ⟨⟨by decide +kernel, by decide +kernel⟩, List.mem_of_getElem? (i := 656) (by decide +kernel), List.mem_of_getElem? (i := 900) (by decide +kernel), List.mem_of_getElem? (i := 901) (by decide +kernel)⟩
theorem lw_p34 : lw_okq (⟨"PassiveBusesModel", "freeChannel", "(III)I"⟩, 50) := ⟨⟨by decide +kernel, by decide +kernel⟩, List.mem_of_getElem? (i := 656) (by decide +kernel), List.mem_of_getElem? (i := 904) (by decide +kernel), List.mem_of_getElem? (i := 905) (by decide +kernel)⟩
theorem lw_p35 : lw_okq (⟨"PassiveBusesModel", "ended", "(IIII)V"⟩, 50) := ⟨⟨by decide +kernel, by decide +kernel⟩, List.mem_of_getElem? (i := 656) (by decide +kernel), List.mem_of_getElem? (i := 909) (by decide +kernel), List.mem_of_getElem? (i := 910) (by decide +kernel)⟩
theorem lw_p36 : lw_okq (⟨"PassiveBusesModel", "after", "(I)I"⟩, 50) := ⟨⟨by decide +kernel, by decide +kernel⟩, List.mem_of_getElem? (i := 656) (by decide +kernel), List.mem_of_getElem? (i := 913) (by decide +kernel), List.mem_of_getElem? (i := 914) (by decide +kernel)⟩
theorem lw_p37 : lw_okq (⟨"PassiveBusesModel", "isCaller", "(III)Z"⟩, 50) := ⟨⟨by decide +kernel, by decide +kernel⟩, List.mem_of_getElem? (i := 656) (by decide +kernel), List.mem_of_getElem? (i := 917) (by decide +kernel), List.mem_of_getElem? (i := 918) (by decide +kernel)⟩
theorem lw_p38 : lw_okq (⟨"PassiveBusesModel", "isCalled", "(III)Z"⟩, 50) := ⟨⟨by decide +kernel, by decide +kernel⟩, List.mem_of_getElem? (i := 656) (by decide +kernel), List.mem_of_getElem? (i := 921) (by decide +kernel), List.mem_of_getElem? (i := 922) (by decide +kernel)⟩
theorem lw_p39 : lw_okq (⟨"PassiveBusesModel", "gone", "(II)V"⟩, 50) := ⟨⟨by decide +kernel, by decide +kernel⟩, List.mem_of_getElem? (i := 656) (by decide +kernel), List.mem_of_getElem? (i := 925) (by decide +kernel), List.mem_of_getElem? (i := 926) (by decide +kernel)⟩
theorem lw_p40 : lw_okq (⟨"PassiveBusesModel", "ends", "(II)V"⟩, 50) := ⟨⟨by decide +kernel, by decide +kernel⟩, List.mem_of_getElem? (i := 656) (by decide +kernel), List.mem_of_getElem? (i := 929) (by decide +kernel), List.mem_of_getElem? (i := 930) (by decide +kernel)⟩
theorem lw_p41 : lw_okq (⟨"PassiveBusesModel", "leave", "(III)V"⟩, 50) := ⟨⟨by decide +kernel, by decide +kernel⟩, List.mem_of_getElem? (i := 656) (by decide +kernel), List.mem_of_getElem? (i := 933) (by decide +kernel), List.mem_of_getElem? (i := 934) (by decide +kernel)⟩
theorem lw_p42 : lw_okq (⟨"PassiveBusesModel", "ringing", "(I)I"⟩, 50) := ⟨⟨by decide +kernel, by decide +kernel⟩, List.mem_of_getElem? (i := 656) (by decide +kernel), List.mem_of_getElem? (i := 937) (by decide +kernel), List.mem_of_getElem? (i := 938) (by decide +kernel)⟩
theorem lw_p43 : lw_okq (⟨"PassiveBusesModel", "callOf", "(I)I"⟩, 50) := ⟨⟨by decide +kernel, by decide +kernel⟩, List.mem_of_getElem? (i := 656) (by decide +kernel), List.mem_of_getElem? (i := 941) (by decide +kernel), List.mem_of_getElem? (i := 942) (by decide +kernel)⟩
theorem lw_p44 : lw_okq (⟨"PassiveBusesModel", "alerts", "(II)V"⟩, 50) := ⟨⟨by decide +kernel, by decide +kernel⟩, List.mem_of_getElem? (i := 656) (by decide +kernel), List.mem_of_getElem? (i := 945) (by decide +kernel), List.mem_of_getElem? (i := 946) (by decide +kernel)⟩
theorem lw_p45 : lw_okq (⟨"PassiveBusesModel", "connects", "(III)V"⟩, 50) := ⟨⟨by decide +kernel, by decide +kernel⟩, List.mem_of_getElem? (i := 656) (by decide +kernel), List.mem_of_getElem? (i := 949) (by decide +kernel), List.mem_of_getElem? (i := 950) (by decide +kernel)⟩
theorem lw_p46 : lw_okq (⟨"PassiveBusesModel", "callsWith", "(III)Z"⟩, 50) := ⟨⟨by decide +kernel, by decide +kernel⟩, List.mem_of_getElem? (i := 656) (by decide +kernel), List.mem_of_getElem? (i := 953) (by decide +kernel), List.mem_of_getElem? (i := 954) (by decide +kernel)⟩
theorem lw_p47 : lw_okq (⟨"PassiveBusesModel", "left", "(IIZ)V"⟩, 50) := ⟨⟨by decide +kernel, by decide +kernel⟩, List.mem_of_getElem? (i := 656) (by decide +kernel), List.mem_of_getElem? (i := 957) (by decide +kernel), List.mem_of_getElem? (i := 958) (by decide +kernel)⟩
def lw_privs_3 : List (MethodName × Nat) := [(⟨"PassiveBusesModel", "does", "(IIIII)V"⟩, 50), (⟨"PassiveBusesModel", "setup", "(IIII)V"⟩, 50), (⟨"PassiveBusesModel", "freeChannel", "(III)I"⟩, 50), (⟨"PassiveBusesModel", "ended", "(IIII)V"⟩, 50), (⟨"PassiveBusesModel", "after", "(I)I"⟩, 50), (⟨"PassiveBusesModel", "isCaller", "(III)Z"⟩, 50), (⟨"PassiveBusesModel", "isCalled", "(III)Z"⟩, 50), (⟨"PassiveBusesModel", "gone", "(II)V"⟩, 50), (⟨"PassiveBusesModel", "ends", "(II)V"⟩, 50), (⟨"PassiveBusesModel", "leave", "(III)V"⟩, 50), (⟨"PassiveBusesModel", "ringing", "(I)I"⟩, 50), (⟨"PassiveBusesModel", "callOf", "(I)I"⟩, 50), (⟨"PassiveBusesModel", "alerts", "(II)V"⟩, 50), (⟨"PassiveBusesModel", "connects", "(III)V"⟩, 50), (⟨"PassiveBusesModel", "callsWith", "(III)Z"⟩, 50), (⟨"PassiveBusesModel", "left", "(IIZ)V"⟩, 50)]
theorem lw_r3 : ∀ q ∈ lw_privs_3, lw_okq q := List.forall_mem_cons.mpr ⟨lw_p32, List.forall_mem_cons.mpr ⟨lw_p33, List.forall_mem_cons.mpr ⟨lw_p34, List.forall_mem_cons.mpr ⟨lw_p35, List.forall_mem_cons.mpr ⟨lw_p36, List.forall_mem_cons.mpr ⟨lw_p37, List.forall_mem_cons.mpr ⟨lw_p38, List.forall_mem_cons.mpr ⟨lw_p39, List.forall_mem_cons.mpr ⟨lw_p40, List.forall_mem_cons.mpr ⟨lw_p41, List.forall_mem_cons.mpr ⟨lw_p42, List.forall_mem_cons.mpr ⟨lw_p43, List.forall_mem_cons.mpr ⟨lw_p44, List.forall_mem_cons.mpr ⟨lw_p45, List.forall_mem_cons.mpr ⟨lw_p46, List.forall_mem_cons.mpr ⟨lw_p47, fun _ h => absurd h List.not_mem_nil⟩⟩⟩⟩⟩⟩⟩⟩⟩⟩⟩⟩⟩⟩⟩⟩
theorem lw_p48 : lw_okq (⟨"PassiveBusesModel", "upGone", "(II)V"⟩, 50) := ⟨⟨by decide +kernel, by decide +kernel⟩, List.mem_of_getElem? (i := 656) (by decide +kernel), List.mem_of_getElem? (i := 961) (by decide +kernel), List.mem_of_getElem? (i := 962) (by decide +kernel)⟩
theorem lw_p49 : lw_okq (⟨"PassiveBusesModel", "lose", "(I)V"⟩, 50) := ⟨⟨by decide +kernel, by decide +kernel⟩, List.mem_of_getElem? (i := 656) (by decide +kernel), List.mem_of_getElem? (i := 965) (by decide +kernel), List.mem_of_getElem? (i := 966) (by decide +kernel)⟩
theorem lw_p50 : lw_okq (⟨"PassiveBusesModel", "downStep", "(I)V"⟩, 50) := ⟨⟨by decide +kernel, by decide +kernel⟩, List.mem_of_getElem? (i := 656) (by decide +kernel), List.mem_of_getElem? (i := 969) (by decide +kernel), List.mem_of_getElem? (i := 970) (by decide +kernel)⟩
theorem lw_p51 : lw_okq (⟨"PassiveBusesModel", "downGone", "(II)V"⟩, 50) := ⟨⟨by decide +kernel, by decide +kernel⟩, List.mem_of_getElem? (i := 656) (by decide +kernel), List.mem_of_getElem? (i := 973) (by decide +kernel), List.mem_of_getElem? (i := 974) (by decide +kernel)⟩
theorem lw_p52 : lw_okq (⟨"PassiveBusesModel", "hears", "(IIIII)V"⟩, 50) := ⟨⟨by decide +kernel, by decide +kernel⟩, List.mem_of_getElem? (i := 656) (by decide +kernel), List.mem_of_getElem? (i := 977) (by decide +kernel), List.mem_of_getElem? (i := 978) (by decide +kernel)⟩
theorem lw_p53 : lw_okq (⟨"PassiveBusesModel", "told", "(IIII)V"⟩, 50) := ⟨⟨by decide +kernel, by decide +kernel⟩, List.mem_of_getElem? (i := 656) (by decide +kernel), List.mem_of_getElem? (i := 981) (by decide +kernel), List.mem_of_getElem? (i := 982) (by decide +kernel)⟩
theorem lw_p54 : lw_okq (⟨"PassiveBusesModel", "drop", "(II)V"⟩, 50) := ⟨⟨by decide +kernel, by decide +kernel⟩, List.mem_of_getElem? (i := 656) (by decide +kernel), List.mem_of_getElem? (i := 985) (by decide +kernel), List.mem_of_getElem? (i := 986) (by decide +kernel)⟩
theorem lw_p55 : lw_okq (⟨"PassiveBusesModel", "clocks", "()V"⟩, 50) := ⟨⟨by decide +kernel, by decide +kernel⟩, List.mem_of_getElem? (i := 656) (by decide +kernel), List.mem_of_getElem? (i := 989) (by decide +kernel), List.mem_of_getElem? (i := 990) (by decide +kernel)⟩
theorem lw_p56 : lw_okq (⟨"PassiveBusesModel", "retry", "(I)V"⟩, 50) := ⟨⟨by decide +kernel, by decide +kernel⟩, List.mem_of_getElem? (i := 656) (by decide +kernel), List.mem_of_getElem? (i := 993) (by decide +kernel), List.mem_of_getElem? (i := 994) (by decide +kernel)⟩
theorem lw_p57 : lw_okq (⟨"PassiveBusesModel", "audited", "(III)V"⟩, 50) := ⟨⟨by decide +kernel, by decide +kernel⟩, List.mem_of_getElem? (i := 656) (by decide +kernel), List.mem_of_getElem? (i := 997) (by decide +kernel), List.mem_of_getElem? (i := 998) (by decide +kernel)⟩
theorem lw_p58 : lw_okq (⟨"PassiveBusesModel", "late", "(I)V"⟩, 50) := ⟨⟨by decide +kernel, by decide +kernel⟩, List.mem_of_getElem? (i := 656) (by decide +kernel), List.mem_of_getElem? (i := 1001) (by decide +kernel), List.mem_of_getElem? (i := 1002) (by decide +kernel)⟩
theorem lw_p59 : lw_okq (⟨"PassiveBusesModel", "speak", "()V"⟩, 50) := ⟨⟨by decide +kernel, by decide +kernel⟩, List.mem_of_getElem? (i := 656) (by decide +kernel), List.mem_of_getElem? (i := 1005) (by decide +kernel), List.mem_of_getElem? (i := 1006) (by decide +kernel)⟩
theorem lw_p60 : lw_okq (⟨"PassiveBusesModel", "comes", "(II)I"⟩, 50) := ⟨⟨by decide +kernel, by decide +kernel⟩, List.mem_of_getElem? (i := 656) (by decide +kernel), List.mem_of_getElem? (i := 1009) (by decide +kernel), List.mem_of_getElem? (i := 1010) (by decide +kernel)⟩
def lw_privs_4 : List (MethodName × Nat) := [(⟨"PassiveBusesModel", "upGone", "(II)V"⟩, 50), (⟨"PassiveBusesModel", "lose", "(I)V"⟩, 50), (⟨"PassiveBusesModel", "downStep", "(I)V"⟩, 50), (⟨"PassiveBusesModel", "downGone", "(II)V"⟩, 50), (⟨"PassiveBusesModel", "hears", "(IIIII)V"⟩, 50), (⟨"PassiveBusesModel", "told", "(IIII)V"⟩, 50), (⟨"PassiveBusesModel", "drop", "(II)V"⟩, 50), (⟨"PassiveBusesModel", "clocks", "()V"⟩, 50), (⟨"PassiveBusesModel", "retry", "(I)V"⟩, 50), (⟨"PassiveBusesModel", "audited", "(III)V"⟩, 50), (⟨"PassiveBusesModel", "late", "(I)V"⟩, 50), (⟨"PassiveBusesModel", "speak", "()V"⟩, 50), (⟨"PassiveBusesModel", "comes", "(II)I"⟩, 50)]
theorem lw_r4 : ∀ q ∈ lw_privs_4, lw_okq q := List.forall_mem_cons.mpr ⟨lw_p48, List.forall_mem_cons.mpr ⟨lw_p49, List.forall_mem_cons.mpr ⟨lw_p50, List.forall_mem_cons.mpr ⟨lw_p51, List.forall_mem_cons.mpr ⟨lw_p52, List.forall_mem_cons.mpr ⟨lw_p53, List.forall_mem_cons.mpr ⟨lw_p54, List.forall_mem_cons.mpr ⟨lw_p55, List.forall_mem_cons.mpr ⟨lw_p56, List.forall_mem_cons.mpr ⟨lw_p57, List.forall_mem_cons.mpr ⟨lw_p58, List.forall_mem_cons.mpr ⟨lw_p59, List.forall_mem_cons.mpr ⟨lw_p60, fun _ h => absurd h List.not_mem_nil⟩⟩⟩⟩⟩⟩⟩⟩⟩⟩⟩⟩⟩
def lw_privs : List (MethodName × Nat) := lw_privs_1 ++ (lw_privs_2 ++ (lw_privs_3 ++ (lw_privs_4)))
def lw_tbl : List Cond := k2_sels lw_privs ++ tables_1
theorem lw_privs_ok : ∀ q ∈ lw_privs, lw_okq q := by
  show ∀ q ∈ lw_privs_1 ++ (lw_privs_2 ++ (lw_privs_3 ++ (lw_privs_4))), lw_okq q
  exact List.forall_mem_append.mpr ⟨lw_r1, List.forall_mem_append.mpr ⟨lw_r2, List.forall_mem_append.mpr ⟨lw_r3, lw_r4⟩⟩⟩
end
section
/-! tables: printed by gen2.py -/
def pb_T0 : u_T := fun k => match k with
  | 0 => ("PassiveBuses", "buses", "[LPassiveBuses$Bus;", true)
  | 1 => ("PassiveBuses", "calls", "[LPassiveBuses$Call;", true)
  | 2 => ("PassiveBuses", "callCount", "I", false)
  | 3 => ("PassiveBuses", "latestNumber", "I", false)
  | _ => ("PassiveBuses", "ticks", "I", false)
def pb_t0 : Nat → FieldType := fun k => match k with
  | 0 => .array (.object "PassiveBuses$Bus")
  | 1 => .array (.object "PassiveBuses$Call")
  | 2 => .int
  | 3 => .int
  | _ => .int
def pb_T1 : u_T := fun k => match k with
  | 0 => ("PassiveBuses$Bus", "terminals", "[LPassiveBuses$Terminal;", true)
  | 1 => ("PassiveBuses$Bus", "lines", "[LPassiveBuses$Line;", true)
  | 2 => ("PassiveBuses$Bus", "row", "LPassiveBuses$Row;", true)
  | 3 => ("PassiveBuses$Bus", "spoilUp", "I", false)
  | _ => ("PassiveBuses$Bus", "spoilDown", "I", false)
def pb_t1 : Nat → FieldType := fun k => match k with
  | 0 => .array (.object "PassiveBuses$Terminal")
  | 1 => .array (.object "PassiveBuses$Line")
  | 2 => .object "PassiveBuses$Row"
  | 3 => .int
  | _ => .int
def pb_T2 : u_T := fun k => match k with
  | 0 => ("PassiveBuses$Row", "frames", "[LPassiveBuses$Frame;", true)
  | _ => ("PassiveBuses$Row", "size", "I", false)
def pb_t2 : Nat → FieldType := fun k => match k with
  | 0 => .array (.object "PassiveBuses$Frame")
  | _ => .int
def pb_T3 : u_T := fun k => match k with
  | 0 => ("PassiveBuses$Frame", "kind", "I", false)
  | 1 => ("PassiveBuses$Frame", "address", "I", false)
  | 2 => ("PassiveBuses$Frame", "reference", "I", false)
  | 3 => ("PassiveBuses$Frame", "value", "I", false)
  | _ => ("PassiveBuses$Frame", "failures", "I", false)
def pb_t3 : Nat → FieldType := fun k => match k with
  | 0 => .int
  | 1 => .int
  | 2 => .int
  | 3 => .int
  | _ => .int
def pb_T4 : u_T := fun k => match k with
  | 0 => ("PassiveBuses$Terminal", "row", "LPassiveBuses$Row;", true)
  | 1 => ("PassiveBuses$Terminal", "plugged", "Z", false)
  | 2 => ("PassiveBuses$Terminal", "mild", "Z", false)
  | 3 => ("PassiveBuses$Terminal", "sending", "Z", false)
  | 4 => ("PassiveBuses$Terminal", "address", "I", false)
  | 5 => ("PassiveBuses$Terminal", "draw", "I", false)
  | 6 => ("PassiveBuses$Terminal", "clock", "I", false)
  | 7 => ("PassiveBuses$Terminal", "state", "I", false)
  | 8 => ("PassiveBuses$Terminal", "reference", "I", false)
  | 9 => ("PassiveBuses$Terminal", "channel", "I", false)
  | 10 => ("PassiveBuses$Terminal", "cause", "I", false)
  | 11 => ("PassiveBuses$Terminal", "mouth", "I", false)
  | 12 => ("PassiveBuses$Terminal", "ear", "I", false)
  | 13 => ("PassiveBuses$Terminal", "dials", "I", false)
  | 14 => ("PassiveBuses$Terminal", "sendBit", "I", false)
  | _ => ("PassiveBuses$Terminal", "receiveBit", "I", false)
def pb_t4 : Nat → FieldType := fun k => match k with
  | 0 => .object "PassiveBuses$Row"
  | 1 => .boolean
  | 2 => .boolean
  | 3 => .boolean
  | 4 => .int
  | 5 => .int
  | 6 => .int
  | 7 => .int
  | 8 => .int
  | 9 => .int
  | 10 => .int
  | 11 => .int
  | 12 => .int
  | 13 => .int
  | 14 => .int
  | _ => .int
def pb_T5 : u_T := fun k => match k with
  | 0 => ("PassiveBuses$Line", "given", "Z", false)
  | 1 => ("PassiveBuses$Line", "sendBit", "I", false)
  | 2 => ("PassiveBuses$Line", "receiveBit", "I", false)
  | 3 => ("PassiveBuses$Line", "audited", "Z", false)
  | 4 => ("PassiveBuses$Line", "auditClock", "I", false)
  | _ => ("PassiveBuses$Line", "replies", "I", false)
def pb_t5 : Nat → FieldType := fun k => match k with
  | 0 => .boolean
  | 1 => .int
  | 2 => .int
  | 3 => .boolean
  | 4 => .int
  | _ => .int
def pb_T6 : u_T := fun k => match k with
  | 0 => ("PassiveBuses$Call", "legs", "[I", true)
  | 1 => ("PassiveBuses$Call", "number", "I", false)
  | 2 => ("PassiveBuses$Call", "phase", "I", false)
  | 3 => ("PassiveBuses$Call", "clock", "I", false)
  | 4 => ("PassiveBuses$Call", "offeredTwice", "Z", false)
  | 5 => ("PassiveBuses$Call", "callerBus", "I", false)
  | 6 => ("PassiveBuses$Call", "callerAddress", "I", false)
  | 7 => ("PassiveBuses$Call", "callerReference", "I", false)
  | 8 => ("PassiveBuses$Call", "callerChannel", "I", false)
  | 9 => ("PassiveBuses$Call", "callerLeg", "I", false)
  | 10 => ("PassiveBuses$Call", "calledBus", "I", false)
  | 11 => ("PassiveBuses$Call", "calledChannel", "I", false)
  | _ => ("PassiveBuses$Call", "winner", "I", false)
def pb_t6 : Nat → FieldType := fun k => match k with
  | 0 => .array (.int)
  | 1 => .int
  | 2 => .int
  | 3 => .int
  | 4 => .boolean
  | 5 => .int
  | 6 => .int
  | 7 => .int
  | 8 => .int
  | 9 => .int
  | 10 => .int
  | 11 => .int
  | _ => .int
def pb_T7 : u_T := fun k => match k with
  | 0 => ("PassiveBusesModel", "there", "[Z", true)
  | 1 => ("PassiveBusesModel", "address", "[I", true)
  | 2 => ("PassiveBusesModel", "draw", "[I", true)
  | 3 => ("PassiveBusesModel", "mild", "[Z", true)
  | 4 => ("PassiveBusesModel", "state", "[I", true)
  | 5 => ("PassiveBusesModel", "own", "[I", true)
  | 6 => ("PassiveBusesModel", "channel", "[I", true)
  | 7 => ("PassiveBusesModel", "mouth", "[I", true)
  | 8 => ("PassiveBusesModel", "ear", "[I", true)
  | 9 => ("PassiveBusesModel", "kept", "[I", true)
  | 10 => ("PassiveBusesModel", "dials", "[I", true)
  | 11 => ("PassiveBusesModel", "patience", "[I", true)
  | 12 => ("PassiveBusesModel", "sends", "[I", true)
  | 13 => ("PassiveBusesModel", "takes", "[I", true)
  | 14 => ("PassiveBusesModel", "contends", "[Z", true)
  | 15 => ("PassiveBusesModel", "length", "[I", true)
  | 16 => ("PassiveBusesModel", "kind", "[I", true)
  | 17 => ("PassiveBusesModel", "reference", "[I", true)
  | 18 => ("PassiveBusesModel", "value", "[I", true)
  | 19 => ("PassiveBusesModel", "failed", "[I", true)
  | 20 => ("PassiveBusesModel", "rows", "[I", true)
  | 21 => ("PassiveBusesModel", "downKind", "[I", true)
  | 22 => ("PassiveBusesModel", "downTo", "[I", true)
  | 23 => ("PassiveBusesModel", "downReference", "[I", true)
  | 24 => ("PassiveBusesModel", "downValue", "[I", true)
  | 25 => ("PassiveBusesModel", "downFailed", "[I", true)
  | 26 => ("PassiveBusesModel", "given", "[Z", true)
  | 27 => ("PassiveBusesModel", "exchangeSends", "[I", true)
  | 28 => ("PassiveBusesModel", "exchangeTakes", "[I", true)
  | 29 => ("PassiveBusesModel", "auditClock", "[I", true)
  | 30 => ("PassiveBusesModel", "auditCount", "[I", true)
  | 31 => ("PassiveBusesModel", "spoilUp", "[I", true)
  | 32 => ("PassiveBusesModel", "spoilDown", "[I", true)
  | 33 => ("PassiveBusesModel", "number", "[I", true)
  | 34 => ("PassiveBusesModel", "caller", "[I", true)
  | 35 => ("PassiveBusesModel", "callerBus", "[I", true)
  | 36 => ("PassiveBusesModel", "callerAddress", "[I", true)
  | 37 => ("PassiveBusesModel", "callerReference", "[I", true)
  | 38 => ("PassiveBusesModel", "callerChannel", "[I", true)
  | 39 => ("PassiveBusesModel", "calledBus", "[I", true)
  | 40 => ("PassiveBusesModel", "calledChannel", "[I", true)
  | 41 => ("PassiveBusesModel", "phase", "[I", true)
  | 42 => ("PassiveBusesModel", "clock", "[I", true)
  | 43 => ("PassiveBusesModel", "again", "[Z", true)
  | 44 => ("PassiveBusesModel", "winner", "[I", true)
  | 45 => ("PassiveBusesModel", "leg", "[I", true)
  | 46 => ("PassiveBusesModel", "numbers", "I", false)
  | 47 => ("PassiveBusesModel", "speech", "[I", true)
  | 48 => ("PassiveBusesModel", "ticks", "I", false)
  | _ => ("PassiveBusesModel", "sent", "I", false)
def pb_t7 : Nat → FieldType := fun k => match k with
  | 0 => .array (.boolean)
  | 1 => .array (.int)
  | 2 => .array (.int)
  | 3 => .array (.boolean)
  | 4 => .array (.int)
  | 5 => .array (.int)
  | 6 => .array (.int)
  | 7 => .array (.int)
  | 8 => .array (.int)
  | 9 => .array (.int)
  | 10 => .array (.int)
  | 11 => .array (.int)
  | 12 => .array (.int)
  | 13 => .array (.int)
  | 14 => .array (.boolean)
  | 15 => .array (.int)
  | 16 => .array (.int)
  | 17 => .array (.int)
  | 18 => .array (.int)
  | 19 => .array (.int)
  | 20 => .array (.int)
  | 21 => .array (.int)
  | 22 => .array (.int)
  | 23 => .array (.int)
  | 24 => .array (.int)
  | 25 => .array (.int)
  | 26 => .array (.boolean)
  | 27 => .array (.int)
  | 28 => .array (.int)
  | 29 => .array (.int)
  | 30 => .array (.int)
  | 31 => .array (.int)
  | 32 => .array (.int)
  | 33 => .array (.int)
  | 34 => .array (.int)
  | 35 => .array (.int)
  | 36 => .array (.int)
  | 37 => .array (.int)
  | 38 => .array (.int)
  | 39 => .array (.int)
  | 40 => .array (.int)
  | 41 => .array (.int)
  | 42 => .array (.int)
  | 43 => .array (.boolean)
  | 44 => .array (.int)
  | 45 => .array (.int)
  | 46 => .int
  | 47 => .array (.int)
  | 48 => .int
  | _ => .int
def pb_cl : List vw_C := [("PassiveBuses", pb_T0, 5), ("PassiveBuses$Bus", pb_T1, 5), ("PassiveBuses$Row", pb_T2, 2), ("PassiveBuses$Frame", pb_T3, 5), ("PassiveBuses$Terminal", pb_T4, 16), ("PassiveBuses$Line", pb_T5, 6), ("PassiveBuses$Call", pb_T6, 13), ("PassiveBusesModel", pb_T7, 50)]
def pb_N (ci : Nat) : Nat := [5, 5, 2, 5, 16, 6, 13, 50].getD ci 0
def pb_ftl : List (List Nat) := [[2, 2, 0, 0, 0], [2, 2, 2, 0, 0], [2, 0], [0, 0, 0, 0, 0], [2, 1, 1, 1, 0, 0, 0, 0, 0, 0, 0, 0, 0, 0, 0, 0], [1, 0, 0, 1, 0, 0], [2, 0, 0, 0, 1, 0, 0, 0, 0, 0, 0, 0, 0], [2, 2, 2, 2, 2, 2, 2, 2, 2, 2, 2, 2, 2, 2, 2, 2, 2, 2, 2, 2, 2, 2, 2, 2, 2, 2, 2, 2, 2, 2, 2, 2, 2, 2, 2, 2, 2, 2, 2, 2, 2, 2, 2, 2, 2, 2, 0, 2, 0, 0]]
def pb_ft (ci k : Nat) : Nat := (pb_ftl.getD ci []).getD k 0
def pb_df (f : Nat) : Int := if pb_ft ((f - 1) / 100) ((f - 1) % 100) = 2 then -1 else 0
def pb_tys (dA : Nat → ClassId) : List (ClassId × FieldType) := [(dA 0, .int), (dA 1, .boolean), (dA 2, .object "PassiveBuses$Bus"), (dA 3, .object "PassiveBuses$Call"), (dA 4, .object "PassiveBuses$Terminal"), (dA 5, .object "PassiveBuses$Line"), (dA 6, .object "PassiveBuses$Frame")]
def pb_lay : List (Nat × Nat) := [(0, 0), (102, 2), (103, 4), (1, 0), (104, 4), (105, 4), (2, 0), (106, 24), (3, 0), (3, 0), (3, 0), (3, 0), (3, 0), (3, 0), (3, 0), (3, 0), (3, 0), (3, 0), (3, 0), (3, 0), (3, 0), (3, 0), (3, 0), (3, 0), (3, 0), (3, 0), (3, 0), (3, 0), (3, 0), (3, 0), (3, 0), (3, 0), (4, 0), (2, 0), (106, 8), (3, 0), (3, 0), (3, 0), (3, 0), (3, 0), (3, 0), (3, 0), (3, 0), (4, 0), (2, 0), (106, 8), (3, 0), (3, 0), (3, 0), (3, 0), (3, 0), (3, 0), (3, 0), (3, 0), (4, 0), (2, 0), (106, 8), (3, 0), (3, 0), (3, 0), (3, 0), (3, 0), (3, 0), (3, 0), (3, 0), (4, 0), (2, 0), (106, 8), (3, 0), (3, 0), (3, 0), (3, 0), (3, 0), (3, 0), (3, 0), (3, 0), (5, 0), (5, 0), (5, 0), (5, 0), (1, 0), (104, 4), (105, 4), (2, 0), (106, 24), (3, 0), (3, 0), (3, 0), (3, 0), (3, 0), (3, 0), (3, 0), (3, 0), (3, 0), (3, 0), (3, 0), (3, 0), (3, 0), (3, 0), (3, 0), (3, 0), (3, 0), (3, 0), (3, 0), (3, 0), (3, 0), (3, 0), (3, 0), (3, 0), (4, 0), (2, 0), (106, 8), (3, 0), (3, 0), (3, 0), (3, 0), (3, 0), (3, 0), (3, 0), (3, 0), (4, 0), (2, 0), (106, 8), (3, 0), (3, 0), (3, 0), (3, 0), (3, 0), (3, 0), (3, 0), (3, 0), (4, 0), (2, 0), (106, 8), (3, 0), (3, 0), (3, 0), (3, 0), (3, 0), (3, 0), (3, 0), (3, 0), (4, 0), (2, 0), (106, 8), (3, 0), (3, 0), (3, 0), (3, 0), (3, 0), (3, 0), (3, 0), (3, 0), (5, 0), (5, 0), (5, 0), (5, 0), (6, 0), (100, 4), (6, 0), (100, 4), (6, 0), (100, 4), (6, 0), (100, 4), (7, 0), (101, 8), (100, 8), (100, 8), (101, 8), (100, 8), (100, 8), (100, 8), (100, 8), (100, 8), (100, 8), (100, 8), (100, 8), (100, 8), (100, 8), (101, 8), (100, 8), (100, 64), (100, 64), (100, 64), (100, 64), (100, 2), (100, 48), (100, 48), (100, 48), (100, 48), (100, 48), (101, 8), (100, 8), (100, 8), (100, 8), (100, 8), (100, 2), (100, 2), (100, 4), (100, 4), (100, 4), (100, 4), (100, 4), (100, 4), (100, 4), (100, 4), (100, 4), (100, 4), (101, 4), (100, 4), (100, 16), (100, 4)]
def pb_kd (p : Int) : Nat := (pb_lay.getD p.toNat (999, 0)).1
def pb_ln (p : Int) : Int := (pb_lay.getD p.toNat (999, 0)).2
def pb_nest : List (String × Nat × MethodName × String) := [("PassiveBuses$Row", 19, ⟨"PassiveBuses$Frame", "<init>", "()V"⟩, "PassiveBuses"), ("PassiveBuses$Bus", 39, ⟨"PassiveBuses$Terminal", "<init>", "()V"⟩, "PassiveBuses"), ("PassiveBuses$Bus", 40, ⟨"PassiveBuses$Line", "<init>", "()V"⟩, "PassiveBuses"), ("PassiveBuses", 32, ⟨"PassiveBuses$Call", "<init>", "()V"⟩, "PassiveBuses")]
def pb_aos : List String := ["PassiveBuses$Bus", "PassiveBuses$Call", "PassiveBuses$Terminal", "PassiveBuses$Line", "PassiveBuses$Frame"]
def pb_ALL : List Cond := lw_tbl.filter goodWord
def pb_M : List (MethodName × ByteArray × Nat × Option FieldType × Nat × Nat × Nat) := [
  (⟨"java/lang/Integer", "compare", "(II)I"⟩, prog_10_method_40_code, 2, some .int, 0, 0, 0),
  (⟨"PassiveBuses", "<init>", "()V"⟩, prog_1_method_1_code, 2, none, 4, 164, 103),
  (⟨"PassiveBuses", "plug", "(III)Z"⟩, prog_1_method_2_code, 5, some .boolean, 3, 0, 67),
  (⟨"PassiveBuses", "unplug", "(II)Z"⟩, prog_1_method_3_code, 4, some .boolean, 3, 0, 64),
  (⟨"PassiveBuses", "dial", "(III)Z"⟩, prog_1_method_4_code, 5, some .boolean, 3, 0, 64),
  (⟨"PassiveBuses", "answer", "(II)Z"⟩, prog_1_method_5_code, 4, some .boolean, 3, 0, 64),
  (⟨"PassiveBuses", "hang", "(II)Z"⟩, prog_1_method_6_code, 4, some .boolean, 3, 0, 64),
  (⟨"PassiveBuses", "say", "(III)Z"⟩, prog_1_method_7_code, 5, some .boolean, 3, 0, 64),
  (⟨"PassiveBuses", "spoil", "(IZI)Z"⟩, prog_1_method_8_code, 4, some .boolean, 1, 0, 20),
  (⟨"PassiveBuses", "audit", "(II)Z"⟩, prog_1_method_9_code, 4, some .boolean, 1, 0, 25),
  (⟨"PassiveBuses", "run", "(I)I"⟩, prog_1_method_10_code, 5, some .int, 7, 0, 166),
  (⟨"PassiveBuses", "time", "()I"⟩, prog_1_method_11_code, 1, some .int, 0, 0, 0),
  (⟨"PassiveBuses", "state", "(II)I"⟩, prog_1_method_12_code, 4, some .int, 3, 0, 64),
  (⟨"PassiveBuses", "address", "(II)I"⟩, prog_1_method_13_code, 4, some .int, 3, 0, 64),
  (⟨"PassiveBuses", "reference", "(II)I"⟩, prog_1_method_14_code, 4, some .int, 3, 0, 64),
  (⟨"PassiveBuses", "channel", "(II)I"⟩, prog_1_method_15_code, 4, some .int, 3, 0, 64),
  (⟨"PassiveBuses", "cause", "(II)I"⟩, prog_1_method_16_code, 4, some .int, 3, 0, 64),
  (⟨"PassiveBuses", "ear", "(II)I"⟩, prog_1_method_17_code, 4, some .int, 3, 0, 64),
  (⟨"PassiveBuses", "waiting", "(IZ)I"⟩, prog_1_method_18_code, 3, some .int, 1, 0, 25),
  (⟨"PassiveBuses", "given", "(I)I"⟩, prog_1_method_19_code, 4, some .int, 1, 0, 20),
  (⟨"PassiveBuses", "holder", "(II)I"⟩, prog_1_method_20_code, 3, some .int, 3, 0, 67),
  (⟨"PassiveBuses", "phase", "(I)I"⟩, prog_1_method_21_code, 3, some .int, 0, 0, 0),
  (⟨"PassiveBuses", "isBus", "(I)Z"⟩, prog_1_method_22_code, 1, some .boolean, 0, 0, 0),
  (⟨"PassiveBuses", "isSocket", "(II)Z"⟩, prog_1_method_23_code, 2, some .boolean, 1, 0, 20),
  (⟨"PassiveBuses", "terminalAt", "(II)LPassiveBuses$Terminal;"⟩, prog_1_method_24_code, 4, some (.object "PassiveBuses$Terminal"), 2, 0, 41),
  (⟨"PassiveBuses", "stepUp", "(I)I"⟩, prog_1_method_25_code, 7, some .int, 6, 0, 140),
  (⟨"PassiveBuses", "stepDown", "(I)I"⟩, prog_1_method_26_code, 7, some .int, 5, 0, 112),
  (⟨"PassiveBuses", "receiveUp", "(ILPassiveBuses$Frame;I)V"⟩, prog_1_method_27_code, 5, none, 5, 0, 116),
  (⟨"PassiveBuses", "onSetup", "(ILPassiveBuses$Frame;)V"⟩, prog_1_method_28_code, 7, none, 4, 0, 90),
  (⟨"PassiveBuses", "onAlert", "(ILPassiveBuses$Frame;)V"⟩, prog_1_method_29_code, 4, none, 2, 0, 48),
  (⟨"PassiveBuses", "onConnect", "(ILPassiveBuses$Frame;)V"⟩, prog_1_method_30_code, 5, none, 3, 0, 67),
  (⟨"PassiveBuses", "refuse", "(ILPassiveBuses$Frame;I)V"⟩, prog_1_method_31_code, 4, none, 1, 0, 25),
  (⟨"PassiveBuses", "answerableCall", "(II)LPassiveBuses$Call;"⟩, prog_1_method_32_code, 5, some (.object "PassiveBuses$Call"), 1, 0, 20),
  (⟨"PassiveBuses", "hasLeg", "(ILPassiveBuses$Frame;)Z"⟩, prog_1_method_33_code, 4, some .boolean, 2, 0, 44),
  (⟨"PassiveBuses", "leaveLeg", "(ILPassiveBuses$Frame;)V"⟩, prog_1_method_34_code, 6, none, 3, 0, 72),
  (⟨"PassiveBuses", "callerGone", "(LPassiveBuses$Call;)V"⟩, prog_1_method_35_code, 2, none, 2, 0, 49),
  (⟨"PassiveBuses", "calledGone", "(LPassiveBuses$Call;I)V"⟩, prog_1_method_36_code, 4, none, 2, 0, 49),
  (⟨"PassiveBuses", "endCall", "(LPassiveBuses$Call;I)V"⟩, prog_1_method_37_code, 5, none, 1, 0, 25),
  (⟨"PassiveBuses", "forgetFinishedCalls", "()V"⟩, prog_1_method_38_code, 4, none, 1, 0, 24),
  (⟨"PassiveBuses", "dropAddress", "(II)V"⟩, prog_1_method_39_code, 6, none, 3, 0, 72),
  (⟨"PassiveBuses", "freeChannel", "(II)I"⟩, prog_1_method_40_code, 4, some .int, 3, 0, 67),
  (⟨"PassiveBuses", "numberHolding", "(II)I"⟩, prog_1_method_41_code, 4, some .int, 2, 0, 44),
  (⟨"PassiveBuses", "runClocks", "()V"⟩, prog_1_method_42_code, 6, none, 5, 0, 120),
  (⟨"PassiveBuses", "runAuditClock", "(II)V"⟩, prog_1_method_43_code, 4, none, 4, 0, 97),
  (⟨"PassiveBuses", "runCallClock", "(LPassiveBuses$Call;)V"⟩, prog_1_method_44_code, 2, none, 2, 0, 49),
  (⟨"PassiveBuses", "carrySpeech", "()V"⟩, prog_1_method_45_code, 6, none, 2, 0, 50),
  (⟨"PassiveBuses", "goesDown", "(II)I"⟩, prog_1_method_46_code, 5, some .int, 1, 0, 26),
  (⟨"PassiveBuses$Bus", "<init>", "()V"⟩, prog_2_method_1_code, 2, none, 3, 76, 82),
  (⟨"PassiveBuses$Bus", "lineOf", "(I)LPassiveBuses$Line;"⟩, prog_2_method_2_code, 3, some (.object "PassiveBuses$Line"), 0, 0, 0),
  (⟨"PassiveBuses$Bus", "countTerminalFrames", "()I"⟩, prog_2_method_3_code, 6, some .int, 0, 0, 0),
  (⟨"PassiveBuses$Bus", "hasEagerContender", "()Z"⟩, prog_2_method_4_code, 5, some .boolean, 1, 0, 21),
  (⟨"PassiveBuses$Bus", "contend", "()LPassiveBuses$Terminal;"⟩, prog_2_method_5_code, 7, some (.object "PassiveBuses$Terminal"), 3, 0, 67),
  (⟨"PassiveBuses$Bus", "settleSenders", "(Z)V"⟩, prog_2_method_6_code, 6, none, 4, 0, 87),
  (⟨"PassiveBuses$Bus", "exchangeListens", "(LPassiveBuses$Frame;)Z"⟩, prog_2_method_7_code, 3, some .boolean, 1, 0, 22),
  (⟨"PassiveBuses$Bus", "sendToAll", "(LPassiveBuses$Frame;)V"⟩, prog_2_method_8_code, 6, none, 4, 0, 87),
  (⟨"PassiveBuses$Bus", "sendToAddress", "(LPassiveBuses$Frame;I)Z"⟩, prog_2_method_9_code, 8, some .boolean, 3, 0, 64),
  (⟨"PassiveBuses$Bus", "giveAddress", "(I)V"⟩, prog_2_method_10_code, 4, none, 1, 0, 25),
  (⟨"PassiveBuses$Bus", "comesUp", "(I)I"⟩, prog_2_method_11_code, 7, some .int, 0, 0, 0),
  (⟨"PassiveBuses$Row", "<init>", "(I)V"⟩, prog_6_method_1_code, 3, none, 1, 9, 40),
  (⟨"PassiveBuses$Row", "<init>", "(I)V"⟩, prog_6_method_1_code, 3, none, 1, 25, 40),
  (⟨"PassiveBuses$Row", "put", "(IIII)V"⟩, prog_6_method_2_code, 6, none, 0, 0, 0),
  (⟨"PassiveBuses$Row", "first", "()LPassiveBuses$Frame;"⟩, prog_6_method_3_code, 1, some (.object "PassiveBuses$Frame"), 0, 0, 0),
  (⟨"PassiveBuses$Row", "removeFirst", "()V"⟩, prog_6_method_4_code, 3, none, 0, 0, 0),
  (⟨"PassiveBuses$Row", "removeNumbered", "(I)V"⟩, prog_6_method_5_code, 5, none, 1, 0, 20),
  (⟨"PassiveBuses$Row", "removeAll", "()V"⟩, prog_6_method_6_code, 1, none, 0, 0, 0),
  (⟨"PassiveBuses$Frame", "<init>", "()V"⟩, prog_4_method_1_code, 1, none, 0, 0, 20),
  (⟨"PassiveBuses$Frame", "isNumbered", "()Z"⟩, prog_4_method_2_code, 1, some .boolean, 0, 0, 0),
  (⟨"PassiveBuses$Frame", "failsForGood", "()Z"⟩, prog_4_method_3_code, 1, some .boolean, 0, 0, 0),
  (⟨"PassiveBuses$Frame", "compareNumbered", "(ILPassiveBuses$Frame;I)I"⟩, prog_4_method_4_code, 4, some .int, 1, 0, 21),
  (⟨"PassiveBuses$Frame", "compareLoose", "(LPassiveBuses$Frame;)I"⟩, prog_4_method_5_code, 2, some .int, 1, 0, 21),
  (⟨"PassiveBuses$Terminal", "<init>", "()V"⟩, prog_7_method_1_code, 1, none, 2, 10, 62),
  (⟨"PassiveBuses$Terminal", "plugIn", "(I)V"⟩, prog_7_method_2_code, 2, none, 2, 0, 46),
  (⟨"PassiveBuses$Terminal", "pullOut", "()V"⟩, prog_7_method_3_code, 1, none, 1, 0, 20),
  (⟨"PassiveBuses$Terminal", "startOver", "(I)V"⟩, prog_7_method_4_code, 2, none, 1, 0, 25),
  (⟨"PassiveBuses$Terminal", "startOverWithNextDraw", "()V"⟩, prog_7_method_5_code, 1, none, 2, 0, 46),
  (⟨"PassiveBuses$Terminal", "becomeNull", "()V"⟩, prog_7_method_6_code, 1, none, 0, 0, 0),
  (⟨"PassiveBuses$Terminal", "startCall", "(I)V"⟩, prog_7_method_7_code, 2, none, 1, 0, 25),
  (⟨"PassiveBuses$Terminal", "runClock", "()V"⟩, prog_7_method_8_code, 1, none, 3, 0, 66),
  (⟨"PassiveBuses$Terminal", "contends", "(Z)Z"⟩, prog_7_method_9_code, 2, some .boolean, 0, 0, 0),
  (⟨"PassiveBuses$Terminal", "compareFirst", "(LPassiveBuses$Terminal;)I"⟩, prog_7_method_10_code, 4, some .int, 2, 0, 44),
  (⟨"PassiveBuses$Terminal", "settle", "(Z)V"⟩, prog_7_method_11_code, 2, none, 3, 0, 66),
  (⟨"PassiveBuses$Terminal", "hear", "(LPassiveBuses$Frame;)V"⟩, prog_7_method_12_code, 2, none, 3, 0, 66),
  (⟨"PassiveBuses$Terminal", "receive", "(LPassiveBuses$Frame;I)V"⟩, prog_7_method_13_code, 4, none, 2, 0, 41),
  (⟨"PassiveBuses$Terminal", "follow", "(LPassiveBuses$Frame;)V"⟩, prog_7_method_14_code, 2, none, 1, 0, 20),
  (⟨"PassiveBuses$Line", "<init>", "()V"⟩, prog_5_method_1_code, 1, none, 0, 0, 20),
  (⟨"PassiveBuses$Call", "<init>", "()V"⟩, prog_3_method_1_code, 1, none, 0, 1, 20),
  (⟨"PassiveBuses$Call", "begin", "(III)V"⟩, prog_3_method_2_code, 5, none, 0, 0, 0),
  (⟨"PassiveBuses$Call", "setCaller", "(IIII)V"⟩, prog_3_method_3_code, 5, none, 0, 0, 0),
  (⟨"PassiveBuses$Call", "calledReference", "()I"⟩, prog_3_method_4_code, 1, some .int, 0, 0, 0),
  (⟨"PassiveBuses$Call", "isUnanswered", "()Z"⟩, prog_3_method_5_code, 1, some .boolean, 0, 0, 0),
  (⟨"PassiveBuses$Call", "legOf", "(I)I"⟩, prog_3_method_6_code, 3, some .int, 0, 0, 0),
  (⟨"PassiveBuses$Call", "setLeg", "(II)V"⟩, prog_3_method_7_code, 4, none, 0, 0, 0),
  (⟨"PassiveBuses$Call", "isRinging", "()Z"⟩, prog_3_method_8_code, 5, some .boolean, 0, 0, 0),
  (⟨"PassiveBuses$Call", "hasAnyLeg", "()Z"⟩, prog_3_method_9_code, 5, some .boolean, 0, 0, 0),
  (⟨"PassiveBuses$Call", "isCaller", "(ILPassiveBuses$Frame;)Z"⟩, prog_3_method_10_code, 3, some .boolean, 0, 0, 0),
  (⟨"PassiveBuses$Call", "isCalled", "(ILPassiveBuses$Frame;)Z"⟩, prog_3_method_11_code, 3, some .boolean, 1, 0, 22),
  (⟨"PassiveBuses$Call", "holds", "(II)Z"⟩, prog_3_method_12_code, 3, some .boolean, 1, 0, 22),
  (⟨"PassiveBusesModel", "<init>", "()V"⟩, prog_9_method_1_code, 1, none, 0, 47, 20),
  (⟨"PassiveBusesModel", "isBus", "(I)Z"⟩, prog_9_method_2_code, 1, some .boolean, 0, 0, 0),
  (⟨"PassiveBusesModel", "at", "(II)I"⟩, prog_9_method_3_code, 3, some .int, 1, 0, 20),
  (⟨"PassiveBusesModel", "up", "(IIII)V"⟩, prog_9_method_4_code, 6, none, 0, 0, 0),
  (⟨"PassiveBusesModel", "upGone", "(II)V"⟩, prog_9_method_5_code, 4, none, 0, 0, 0),
  (⟨"PassiveBusesModel", "down", "(IIIII)V"⟩, prog_9_method_6_code, 7, none, 0, 0, 0),
  (⟨"PassiveBusesModel", "downGone", "(II)V"⟩, prog_9_method_7_code, 4, none, 0, 0, 0),
  (⟨"PassiveBusesModel", "plug", "(III)Z"⟩, prog_9_method_8_code, 5, some .boolean, 2, 0, 46),
  (⟨"PassiveBusesModel", "nothing", "(I)V"⟩, prog_9_method_9_code, 2, none, 1, 0, 25),
  (⟨"PassiveBusesModel", "lose", "(I)V"⟩, prog_9_method_10_code, 2, none, 2, 0, 46),
  (⟨"PassiveBusesModel", "unplug", "(II)Z"⟩, prog_9_method_11_code, 4, some .boolean, 2, 0, 42),
  (⟨"PassiveBusesModel", "dial", "(III)Z"⟩, prog_9_method_12_code, 5, some .boolean, 2, 0, 42),
  (⟨"PassiveBusesModel", "answer", "(II)Z"⟩, prog_9_method_13_code, 4, some .boolean, 2, 0, 42),
  (⟨"PassiveBusesModel", "hang", "(II)Z"⟩, prog_9_method_14_code, 4, some .boolean, 2, 0, 42),
  (⟨"PassiveBusesModel", "say", "(III)Z"⟩, prog_9_method_15_code, 5, some .boolean, 2, 0, 42),
  (⟨"PassiveBusesModel", "spoil", "(IZI)Z"⟩, prog_9_method_16_code, 4, some .boolean, 1, 0, 20),
  (⟨"PassiveBusesModel", "audit", "(II)Z"⟩, prog_9_method_17_code, 3, some .boolean, 1, 0, 26),
  (⟨"PassiveBusesModel", "order", "(II)I"⟩, prog_9_method_18_code, 2, some .int, 0, 0, 0),
  (⟨"PassiveBusesModel", "compared", "(II)I"⟩, prog_9_method_19_code, 11, some .int, 1, 0, 21),
  (⟨"PassiveBusesModel", "contention", "(I)I"⟩, prog_9_method_20_code, 5, some .int, 2, 0, 51),
  (⟨"PassiveBusesModel", "upStep", "(I)V"⟩, prog_9_method_21_code, 10, none, 6, 0, 153),
  (⟨"PassiveBusesModel", "left", "(IIZ)V"⟩, prog_9_method_22_code, 4, none, 3, 0, 67),
  (⟨"PassiveBusesModel", "requested", "(II)V"⟩, prog_9_method_23_code, 5, none, 1, 0, 26),
  (⟨"PassiveBusesModel", "downStep", "(I)V"⟩, prog_9_method_24_code, 10, none, 5, 0, 121),
  (⟨"PassiveBusesModel", "hears", "(IIIII)V"⟩, prog_9_method_25_code, 6, none, 3, 0, 67),
  (⟨"PassiveBusesModel", "told", "(IIII)V"⟩, prog_9_method_26_code, 7, none, 1, 0, 25),
  (⟨"PassiveBusesModel", "after", "(I)I"⟩, prog_9_method_27_code, 4, some .int, 0, 0, 0),
  (⟨"PassiveBusesModel", "callOf", "(I)I"⟩, prog_9_method_28_code, 3, some .int, 0, 0, 0),
  (⟨"PassiveBusesModel", "open", "(I)Z"⟩, prog_9_method_29_code, 2, some .boolean, 0, 0, 0),
  (⟨"PassiveBusesModel", "holder", "(II)I"⟩, prog_9_method_30_code, 6, some .int, 1, 0, 21),
  (⟨"PassiveBusesModel", "freeChannel", "(III)I"⟩, prog_9_method_31_code, 5, some .int, 2, 0, 46),
  (⟨"PassiveBusesModel", "ends", "(II)V"⟩, prog_9_method_32_code, 4, none, 2, 0, 49),
  (⟨"PassiveBusesModel", "leave", "(III)V"⟩, prog_9_method_33_code, 4, none, 1, 0, 26),
  (⟨"PassiveBusesModel", "ringing", "(I)I"⟩, prog_9_method_34_code, 4, some .int, 0, 0, 0),
  (⟨"PassiveBusesModel", "gone", "(II)V"⟩, prog_9_method_35_code, 6, none, 3, 0, 72),
  (⟨"PassiveBusesModel", "isCaller", "(III)Z"⟩, prog_9_method_36_code, 4, some .boolean, 0, 0, 0),
  (⟨"PassiveBusesModel", "isCalled", "(III)Z"⟩, prog_9_method_37_code, 4, some .boolean, 0, 0, 0),
  (⟨"PassiveBusesModel", "drop", "(II)V"⟩, prog_9_method_38_code, 5, none, 4, 0, 97),
  (⟨"PassiveBusesModel", "does", "(IIIII)V"⟩, prog_9_method_39_code, 8, none, 5, 0, 126),
  (⟨"PassiveBusesModel", "callsWith", "(III)Z"⟩, prog_9_method_40_code, 6, some .boolean, 1, 0, 23),
  (⟨"PassiveBusesModel", "ended", "(IIII)V"⟩, prog_9_method_41_code, 10, none, 4, 0, 97),
  (⟨"PassiveBusesModel", "setup", "(IIII)V"⟩, prog_9_method_42_code, 10, none, 3, 0, 70),
  (⟨"PassiveBusesModel", "alerts", "(II)V"⟩, prog_9_method_43_code, 3, none, 1, 0, 26),
  (⟨"PassiveBusesModel", "connects", "(III)V"⟩, prog_9_method_44_code, 5, none, 2, 0, 49),
  (⟨"PassiveBusesModel", "clocks", "()V"⟩, prog_9_method_45_code, 3, none, 6, 0, 144),
  (⟨"PassiveBusesModel", "retry", "(I)V"⟩, prog_9_method_46_code, 3, none, 1, 0, 25),
  (⟨"PassiveBusesModel", "audited", "(III)V"⟩, prog_9_method_47_code, 4, none, 5, 0, 121),
  (⟨"PassiveBusesModel", "late", "(I)V"⟩, prog_9_method_48_code, 2, none, 3, 0, 72),
  (⟨"PassiveBusesModel", "comes", "(II)I"⟩, prog_9_method_49_code, 5, some .int, 0, 0, 0),
  (⟨"PassiveBusesModel", "speak", "()V"⟩, prog_9_method_50_code, 3, none, 1, 0, 24),
  (⟨"PassiveBusesModel", "run", "(I)I"⟩, prog_9_method_51_code, 4, some .int, 7, 0, 182),
  (⟨"PassiveBusesModel", "time", "()I"⟩, prog_9_method_52_code, 1, some .int, 0, 0, 0),
  (⟨"PassiveBusesModel", "state", "(II)I"⟩, prog_9_method_53_code, 4, some .int, 2, 0, 42),
  (⟨"PassiveBusesModel", "address", "(II)I"⟩, prog_9_method_54_code, 4, some .int, 2, 0, 42),
  (⟨"PassiveBusesModel", "reference", "(II)I"⟩, prog_9_method_55_code, 4, some .int, 2, 0, 42),
  (⟨"PassiveBusesModel", "channel", "(II)I"⟩, prog_9_method_56_code, 4, some .int, 2, 0, 42),
  (⟨"PassiveBusesModel", "cause", "(II)I"⟩, prog_9_method_57_code, 4, some .int, 2, 0, 42),
  (⟨"PassiveBusesModel", "ear", "(II)I"⟩, prog_9_method_58_code, 4, some .int, 2, 0, 42),
  (⟨"PassiveBusesModel", "waiting", "(IZ)I"⟩, prog_9_method_59_code, 5, some .int, 1, 0, 20),
  (⟨"PassiveBusesModel", "given", "(I)I"⟩, prog_9_method_60_code, 4, some .int, 1, 0, 20),
  (⟨"PassiveBusesModel", "phase", "(I)I"⟩, prog_9_method_61_code, 3, some .int, 1, 0, 22),
  (⟨"PassiveBusesLaw", "law", "([I)Z"⟩, code, 4, some .boolean, 8, 213, 205)]
def pb_M0 : MethodName × ByteArray × Nat × Option FieldType × Nat × Nat × Nat := (⟨"", "", ""⟩, ⟨#[]⟩, 0, none, 0, 0, 0)
abbrev i_J_compare : Nat := 0
abbrev i_P_init : Nat := 1
abbrev i_P_plug : Nat := 2
abbrev i_P_unplug : Nat := 3
abbrev i_P_dial : Nat := 4
abbrev i_P_answer : Nat := 5
abbrev i_P_hang : Nat := 6
abbrev i_P_say : Nat := 7
abbrev i_P_spoil : Nat := 8
abbrev i_P_audit : Nat := 9
abbrev i_P_run : Nat := 10
abbrev i_P_time : Nat := 11
abbrev i_P_state : Nat := 12
abbrev i_P_address : Nat := 13
abbrev i_P_reference : Nat := 14
abbrev i_P_channel : Nat := 15
abbrev i_P_cause : Nat := 16
abbrev i_P_ear : Nat := 17
abbrev i_P_waiting : Nat := 18
abbrev i_P_given : Nat := 19
abbrev i_P_holder : Nat := 20
abbrev i_P_phase : Nat := 21
abbrev i_P_isBus : Nat := 22
abbrev i_P_isSocket : Nat := 23
abbrev i_P_terminalAt : Nat := 24
abbrev i_P_stepUp : Nat := 25
abbrev i_P_stepDown : Nat := 26
abbrev i_P_receiveUp : Nat := 27
abbrev i_P_onSetup : Nat := 28
abbrev i_P_onAlert : Nat := 29
abbrev i_P_onConnect : Nat := 30
abbrev i_P_refuse : Nat := 31
abbrev i_P_answerableCall : Nat := 32
abbrev i_P_hasLeg : Nat := 33
abbrev i_P_leaveLeg : Nat := 34
abbrev i_P_callerGone : Nat := 35
abbrev i_P_calledGone : Nat := 36
abbrev i_P_endCall : Nat := 37
abbrev i_P_forgetFinishedCalls : Nat := 38
abbrev i_P_dropAddress : Nat := 39
abbrev i_P_freeChannel : Nat := 40
abbrev i_P_numberHolding : Nat := 41
abbrev i_P_runClocks : Nat := 42
abbrev i_P_runAuditClock : Nat := 43
abbrev i_P_runCallClock : Nat := 44
abbrev i_P_carrySpeech : Nat := 45
abbrev i_P_goesDown : Nat := 46
abbrev i_B_init : Nat := 47
abbrev i_B_lineOf : Nat := 48
abbrev i_B_countTerminalFrames : Nat := 49
abbrev i_B_hasEagerContender : Nat := 50
abbrev i_B_contend : Nat := 51
abbrev i_B_settleSenders : Nat := 52
abbrev i_B_exchangeListens : Nat := 53
abbrev i_B_sendToAll : Nat := 54
abbrev i_B_sendToAddress : Nat := 55
abbrev i_B_giveAddress : Nat := 56
abbrev i_B_comesUp : Nat := 57
abbrev i_R_init8 : Nat := 58
abbrev i_R_init24 : Nat := 59
abbrev i_R_put : Nat := 60
abbrev i_R_first : Nat := 61
abbrev i_R_removeFirst : Nat := 62
abbrev i_R_removeNumbered : Nat := 63
abbrev i_R_removeAll : Nat := 64
abbrev i_F_init : Nat := 65
abbrev i_F_isNumbered : Nat := 66
abbrev i_F_failsForGood : Nat := 67
abbrev i_F_compareNumbered : Nat := 68
abbrev i_F_compareLoose : Nat := 69
abbrev i_T_init : Nat := 70
abbrev i_T_plugIn : Nat := 71
abbrev i_T_pullOut : Nat := 72
abbrev i_T_startOver : Nat := 73
abbrev i_T_startOverWithNextDraw : Nat := 74
abbrev i_T_becomeNull : Nat := 75
abbrev i_T_startCall : Nat := 76
abbrev i_T_runClock : Nat := 77
abbrev i_T_contends : Nat := 78
abbrev i_T_compareFirst : Nat := 79
abbrev i_T_settle : Nat := 80
abbrev i_T_hear : Nat := 81
abbrev i_T_receive : Nat := 82
abbrev i_T_follow : Nat := 83
abbrev i_L_init : Nat := 84
abbrev i_C_init : Nat := 85
abbrev i_C_begin : Nat := 86
abbrev i_C_setCaller : Nat := 87
abbrev i_C_calledReference : Nat := 88
abbrev i_C_isUnanswered : Nat := 89
abbrev i_C_legOf : Nat := 90
abbrev i_C_setLeg : Nat := 91
abbrev i_C_isRinging : Nat := 92
abbrev i_C_hasAnyLeg : Nat := 93
abbrev i_C_isCaller : Nat := 94
abbrev i_C_isCalled : Nat := 95
abbrev i_C_holds : Nat := 96
abbrev i_M_init : Nat := 97
abbrev i_M_isBus : Nat := 98
abbrev i_M_at : Nat := 99
abbrev i_M_up : Nat := 100
abbrev i_M_upGone : Nat := 101
abbrev i_M_down : Nat := 102
abbrev i_M_downGone : Nat := 103
abbrev i_M_plug : Nat := 104
abbrev i_M_nothing : Nat := 105
abbrev i_M_lose : Nat := 106
abbrev i_M_unplug : Nat := 107
abbrev i_M_dial : Nat := 108
abbrev i_M_answer : Nat := 109
abbrev i_M_hang : Nat := 110
abbrev i_M_say : Nat := 111
abbrev i_M_spoil : Nat := 112
abbrev i_M_audit : Nat := 113
abbrev i_M_order : Nat := 114
abbrev i_M_compared : Nat := 115
abbrev i_M_contention : Nat := 116
abbrev i_M_upStep : Nat := 117
abbrev i_M_left : Nat := 118
abbrev i_M_requested : Nat := 119
abbrev i_M_downStep : Nat := 120
abbrev i_M_hears : Nat := 121
abbrev i_M_told : Nat := 122
abbrev i_M_after : Nat := 123
abbrev i_M_callOf : Nat := 124
abbrev i_M_open : Nat := 125
abbrev i_M_holder : Nat := 126
abbrev i_M_freeChannel : Nat := 127
abbrev i_M_ends : Nat := 128
abbrev i_M_leave : Nat := 129
abbrev i_M_ringing : Nat := 130
abbrev i_M_gone : Nat := 131
abbrev i_M_isCaller : Nat := 132
abbrev i_M_isCalled : Nat := 133
abbrev i_M_drop : Nat := 134
abbrev i_M_does : Nat := 135
abbrev i_M_callsWith : Nat := 136
abbrev i_M_ended : Nat := 137
abbrev i_M_setup : Nat := 138
abbrev i_M_alerts : Nat := 139
abbrev i_M_connects : Nat := 140
abbrev i_M_clocks : Nat := 141
abbrev i_M_retry : Nat := 142
abbrev i_M_audited : Nat := 143
abbrev i_M_late : Nat := 144
abbrev i_M_comes : Nat := 145
abbrev i_M_speak : Nat := 146
abbrev i_M_run : Nat := 147
abbrev i_M_time : Nat := 148
abbrev i_M_state : Nat := 149
abbrev i_M_address : Nat := 150
abbrev i_M_reference : Nat := 151
abbrev i_M_channel : Nat := 152
abbrev i_M_cause : Nat := 153
abbrev i_M_ear : Nat := 154
abbrev i_M_waiting : Nat := 155
abbrev i_M_given : Nat := 156
abbrev i_M_phase : Nat := 157
abbrev i_W_law : Nat := 158
end
section
/-! Values, heap, frames seen from above (numbers), and what each instruction asks. -/
abbrev pb_V : Type := Int ⊕ Int
abbrev pb_H : Type := Nat → Int → Int → Int
abbrev pb_L : Type := List (Option pb_V)
abbrev pb_K : Type := pb_L → List pb_V → Nat → pb_H → Prop
abbrev pb_P : Type := pb_V → pb_H → Prop
/-- launch, tables, array kinds, first cell; the script: its cell, length, numbers -/
abbrev pb_E : Type := Launch × va_G × (Nat → ClassId) × Nat × Nat × Nat × (Nat → Int32)
def pb_R (z : Int) : Prop := -2147483648 ≤ z ∧ z < 2147483648
def pb_w (z : Int) : Int := (Int32.ofInt z).toInt
def pb_vR : pb_V → Prop
  | .inl z => pb_R z
  | .inr z => pb_R z
/-- the cell of a number; 1000000 is the script -/
def pb_ad (x : pb_E) (z : Int) : Nat := if z = 1000000 then x.2.2.2.2.1 else x.2.2.2.1 + z.toNat
def pb_e (x : pb_E) : pb_V → Value
  | .inl z => .int (Int32.ofInt z)
  | .inr z => if z < 0 then .null else .ref (pb_ad x z)
def pb_o (x : pb_E) (z : Int) : Option Nat := if z < 0 then none else some (pb_ad x z)
/-- a field's content: 0 an int, 1 a boolean, 2 a reference -/
def pb_c (x : pb_E) (t : Nat) (z : Int) : Value := if t = 2 then pb_e x (.inr z) else .int (Int32.ofInt z)
def pb_nth : pb_L → Nat → Option pb_V
  | [], _ => none
  | a :: _, 0 => a
  | _ :: l, i + 1 => pb_nth l i
def pb_set : pb_L → Nat → pb_V → pb_L
  | [], _, _ => []
  | _ :: l, 0, v => some v :: l
  | a :: l, i + 1, v => a :: pb_set l i v
def pb_ll (x : pb_E) : Nat → pb_L → List (Nat × Value)
  | _, [] => []
  | i, none :: l => pb_ll x (i + 1) l
  | i, some v :: l => (i, pb_e x v) :: pb_ll x (i + 1) l
def pb_up (σ : pb_H) (f : Nat) (p i v : Int) : pb_H := fun f' p' i' => if f' = f ∧ p' = p ∧ i' = i then v else σ f' p' i'
/-- a new cell holds zeros, or nulls -/
def pb_clr (σ : pb_H) (n : Int) (d : Nat → Int) : pb_H := fun f p i => if p = n then d f else σ f p i
/-- an object of a kind stands there -/
def pb_is (ci n : Nat) (p : Int) : Prop := 0 ≤ p ∧ p < n ∧ pb_kd p = ci
def pb_tk : Nat → List pb_V → List pb_V → Option (List pb_V × List pb_V)
  | 0, a, S => some (a, S)
  | j + 1, a, v :: S => pb_tk j (v :: a) S
  | _ + 1, _, [] => none
def pb_add (x y : Int) : Int := pb_w (x + y)
def pb_sub (x y : Int) : Int := pb_w (x - y)
def pb_mul (x y : Int) : Int := pb_w (x * y)
def pb_and (x y : Int) : Int := (Int32.ofInt x &&& Int32.ofInt y).toInt
def pb_or (x y : Int) : Int := (Int32.ofInt x ||| Int32.ofInt y).toInt
def pb_xor (x y : Int) : Int := (Int32.ofInt x ^^^ Int32.ofInt y).toInt
def pb_shl (x y : Int) : Int := (Int32.ofInt x <<< (Int32.ofInt y &&& 31)).toInt
def pb_div (x y : Int) : Int := (Int32.ofInt x / Int32.ofInt y).toInt
def pb_rem (x y : Int) : Int := (Int32.ofInt x - Int32.ofInt x / Int32.ofInt y * Int32.ofInt y).toInt
/-! instructions, each with what comes behind it -/
def pb_iconst (z : Int) (k : pb_K) : pb_K := fun L S n σ => k L (.inl z :: S) n σ
def pb_null (k : pb_K) : pb_K := fun L S n σ => k L (.inr (-1) :: S) n σ
def pb_iload (i : Nat) (k : pb_K) : pb_K := fun L S n σ => match pb_nth L i with
  | some (.inl x) => k L (.inl x :: S) n σ
  | _ => False
def pb_aload (i : Nat) (k : pb_K) : pb_K := fun L S n σ => match pb_nth L i with
  | some (.inr x) => k L (.inr x :: S) n σ
  | _ => False
def pb_istore (i : Nat) (k : pb_K) : pb_K := fun L S n σ => match S with
  | .inl x :: S => k (pb_set L i (.inl x)) S n σ
  | _ => False
def pb_astore (i : Nat) (k : pb_K) : pb_K := fun L S n σ => match S with
  | .inr x :: S => k (pb_set L i (.inr x)) S n σ
  | _ => False
def pb_iinc (i : Nat) (c : Int) (k : pb_K) : pb_K := fun L S n σ => match pb_nth L i with
  | some (.inl x) => k (pb_set L i (.inl (pb_w (x + c)))) S n σ
  | _ => False
def pb_bin (o : Int → Int → Int) (k : pb_K) : pb_K := fun L S n σ => match S with
  | .inl y :: .inl x :: S => k L (.inl (o x y) :: S) n σ
  | _ => False
def pb_bin0 (o : Int → Int → Int) (k : pb_K) : pb_K := fun L S n σ => match S with
  | .inl y :: .inl x :: S => ¬ y = 0 ∧ k L (.inl (o x y) :: S) n σ
  | _ => False
def pb_dup (k : pb_K) : pb_K := fun L S n σ => match S with
  | v :: S => k L (v :: v :: S) n σ
  | _ => False
def pb_pop (k : pb_K) : pb_K := fun L S n σ => match S with
  | _ :: S => k L S n σ
  | _ => False
def pb_dup_x1 (k : pb_K) : pb_K := fun L S n σ => match S with
  | v :: w :: S => k L (v :: w :: v :: S) n σ
  | _ => False
def pb_dup_x2 (k : pb_K) : pb_K := fun L S n σ => match S with
  | v :: w :: u :: S => k L (v :: w :: u :: v :: S) n σ
  | _ => False
def pb_dup2 (k : pb_K) : pb_K := fun L S n σ => match S with
  | v :: w :: S => k L (v :: w :: v :: w :: S) n σ
  | _ => False
def pb_if (c : Int → Prop) (kt kf : pb_K) : pb_K := fun L S n σ => match S with
  | .inl x :: S => (c x → kt L S n σ) ∧ (¬ c x → kf L S n σ)
  | _ => False
def pb_icmp (c : Int → Int → Prop) (kt kf : pb_K) : pb_K := fun L S n σ => match S with
  | .inl y :: .inl x :: S => (c x y → kt L S n σ) ∧ (¬ c x y → kf L S n σ)
  | _ => False
def pb_ifnull (kt kf : pb_K) : pb_K := fun L S n σ => match S with
  | .inr z :: S => (z < 0 → kt L S n σ) ∧ (¬ z < 0 → kf L S n σ)
  | _ => False
/-- a switch: the pairs of number and way, the way of all others -/
def pb_sw : List (Int × pb_K) → pb_K → pb_L → List pb_V → Nat → pb_H → Int → Prop
  | [], d, L, S, n, σ, _ => d L S n σ
  | (a, k) :: r, d, L, S, n, σ, x => (x = a → k L S n σ) ∧ (¬ x = a → pb_sw r d L S n σ x)
def pb_switch (r : List (Int × pb_K)) (d : pb_K) : pb_K := fun L S n σ => match S with
  | .inl x :: S => pb_sw r d L S n σ x
  | _ => False
def pb_getI (ci f : Nat) (k : pb_K) : pb_K := fun L S n σ => match S with
  | .inr p :: S => pb_is ci n p ∧ k L (.inl (σ f p 0) :: S) n σ
  | _ => False
def pb_getR (ci f : Nat) (k : pb_K) : pb_K := fun L S n σ => match S with
  | .inr p :: S => pb_is ci n p ∧ k L (.inr (σ f p 0) :: S) n σ
  | _ => False
def pb_putI (ci f : Nat) (k : pb_K) : pb_K := fun L S n σ => match S with
  | .inl v :: .inr p :: S => pb_is ci n p ∧ k L S n (pb_up σ f p 0 v)
  | _ => False
def pb_putZ (ci f : Nat) (k : pb_K) : pb_K := fun L S n σ => match S with
  | .inl v :: .inr p :: S => pb_is ci n p ∧ (v = 0 ∨ v = 1) ∧ k L S n (pb_up σ f p 0 v)
  | _ => False
def pb_putR (ci f : Nat) (k : pb_K) : pb_K := fun L S n σ => match S with
  | .inr v :: .inr p :: S => pb_is ci n p ∧ k L S n (pb_up σ f p 0 v)
  | _ => False
def pb_alen (a : Nat) (k : pb_K) : pb_K := fun L S n σ => match S with
  | .inr p :: S => pb_is a n p ∧ k L (.inl (pb_ln p) :: S) n σ
  | _ => False
def pb_ald (a : Nat) (k : pb_K) : pb_K := fun L S n σ => match S with
  | .inl i :: .inr p :: S => pb_is a n p ∧ (0 ≤ i ∧ i < pb_ln p) ∧ k L (.inl (σ 0 p i) :: S) n σ
  | _ => False
def pb_aldR (a : Nat) (k : pb_K) : pb_K := fun L S n σ => match S with
  | .inl i :: .inr p :: S => pb_is a n p ∧ (0 ≤ i ∧ i < pb_ln p) ∧ k L (.inr (σ 0 p i) :: S) n σ
  | _ => False
def pb_ast (a : Nat) (k : pb_K) : pb_K := fun L S n σ => match S with
  | .inl v :: .inl i :: .inr p :: S => pb_is a n p ∧ (0 ≤ i ∧ i < pb_ln p) ∧ k L S n (pb_up σ 0 p i v)
  | _ => False
def pb_astZ (a : Nat) (k : pb_K) : pb_K := fun L S n σ => match S with
  | .inl v :: .inl i :: .inr p :: S => pb_is a n p ∧ (0 ≤ i ∧ i < pb_ln p) ∧ (v = 0 ∨ v = 1) ∧ k L S n (pb_up σ 0 p i v)
  | _ => False
def pb_astR (a ci : Nat) (k : pb_K) : pb_K := fun L S n σ => match S with
  | .inr v :: .inl i :: .inr p :: S => pb_is a n p ∧ (0 ≤ i ∧ i < pb_ln p) ∧ pb_is ci n v ∧ k L S n (pb_up σ 0 p i v)
  | _ => False
def pb_new (lim ci : Nat) (k : pb_K) : pb_K := fun L S n σ => pb_kd n = ci ∧ n < lim ∧ n < 900000 ∧ k L (.inr n :: S) (n + 1) (pb_clr σ n pb_df)
def pb_newa (lim a : Nat) (d : Int) (k : pb_K) : pb_K := fun L S n σ => match S with
  | .inl z :: S => pb_kd n = a ∧ pb_ln n = z ∧ (0 ≤ z ∧ z ≤ 64) ∧ n < lim ∧ n < 900000 ∧ k L (.inr n :: S) (n + 1) (pb_clr σ n (fun _ => d))
  | _ => False
/-- the script -/
def pb_sld (x : pb_E) (k : pb_K) : pb_K := fun L S n σ => match S with
  | .inl i :: .inr p :: S => p = 1000000 ∧ (0 ≤ i ∧ i < x.2.2.2.2.2.1) ∧ k L (.inl (x.2.2.2.2.2.2 i.toNat).toInt :: S) n σ
  | _ => False
def pb_slen (x : pb_E) (k : pb_K) : pb_K := fun L S n σ => match S with
  | .inr p :: S => p = 1000000 ∧ x.2.2.2.2.2.1 < 2147483648 ∧ k L (.inl x.2.2.2.2.2.1 :: S) n σ
  | _ => False
/-- Object's constructor -/
def pb_obj (k : pb_K) : pb_K := fun L S n σ => match S with
  | .inr p :: S => ¬ p < 0 ∧ S.length ≤ 8 ∧ k L S n σ
  | _ => False
def pb_vret (Q : pb_P) : pb_K := fun _ S n σ => match S with
  | [] => Q (.inl 0) σ
  | _ => False
def pb_vretN (lim : Nat) (Q : pb_P) : pb_K := fun _ S n σ => match S with
  | [] => n = lim ∧ Q (.inl 0) σ
  | _ => False
def pb_zretN (lim : Nat) (Q : pb_P) : pb_K := fun _ S n σ => match S with
  | [.inl v] => n = lim ∧ (v = 0 ∨ v = 1) ∧ Q (.inl v) σ
  | _ => False
def pb_iret (Q : pb_P) : pb_K := fun _ S n σ => match S with
  | [.inl v] => Q (.inl v) σ
  | _ => False
def pb_zret (Q : pb_P) : pb_K := fun _ S n σ => match S with
  | [.inl v] => (v = 0 ∨ v = 1) ∧ Q (.inl v) σ
  | _ => False
def pb_aret (Q : pb_P) : pb_K := fun _ S n σ => match S with
  | [.inr v] => Q (.inr v) σ
  | _ => False
/-! The machine seen from above: numbers for values, a function for the heap, one rule an instruction. -/
theorem pb_w_id {z : Int} (h : pb_R z) : pb_w z = z := Int32.toInt_ofInt_of_le (by have := h.1; omega) (by have := h.2; omega)
theorem pb_w_R (z : Int) : pb_R (pb_w z) := by
  have h1 := Int32.le_toInt (Int32.ofInt z)
  have h2 := Int32.toInt_lt (Int32.ofInt z)
  unfold pb_w pb_R
  omega
theorem pb_w_of (z : Int) : Int32.ofInt (pb_w z) = Int32.ofInt z := Int32.ofInt_toInt _
theorem pb_tR (y : Int32) : pb_R y.toInt := by
  have h1 := Int32.le_toInt y
  have h2 := Int32.toInt_lt y
  unfold pb_R
  omega
theorem pb_eqI {a c : Int} (ha : pb_R a) (hc : pb_R c) : Int32.ofInt a = Int32.ofInt c ↔ a = c := by
  constructor
  · intro h
    have h2 := congrArg Int32.toInt h
    rw [show (Int32.ofInt a).toInt = a from pb_w_id ha, show (Int32.ofInt c).toInt = c from pb_w_id hc] at h2
    exact h2
  · intro h
    rw [h]
theorem pb_ltI {a c : Int} (ha : pb_R a) (hc : pb_R c) : Int32.ofInt a < Int32.ofInt c ↔ a < c := by
  rw [Int32.lt_iff_toInt_lt, show (Int32.ofInt a).toInt = a from pb_w_id ha, show (Int32.ofInt c).toInt = c from pb_w_id hc]
theorem pb_leI {a c : Int} (ha : pb_R a) (hc : pb_R c) : Int32.ofInt a ≤ Int32.ofInt c ↔ a ≤ c := by
  rw [Int32.le_iff_toInt_le, show (Int32.ofInt a).toInt = a from pb_w_id ha, show (Int32.ofInt c).toInt = c from pb_w_id hc]
theorem pb_R0 : pb_R 0 := by unfold pb_R; omega
theorem pb_eq0 {a : Int} (ha : pb_R a) : Int32.ofInt a = 0 ↔ a = 0 := pb_eqI ha pb_R0
theorem pb_lt0 {a : Int} (ha : pb_R a) : Int32.ofInt a < 0 ↔ a < 0 := pb_ltI ha pb_R0
theorem pb_ge0 {a : Int} (ha : pb_R a) : 0 ≤ Int32.ofInt a ↔ 0 ≤ a := pb_leI pb_R0 ha
theorem pb_gt0 {a : Int} (ha : pb_R a) : 0 < Int32.ofInt a ↔ 0 < a := pb_ltI pb_R0 ha
theorem pb_le0 {a : Int} (ha : pb_R a) : Int32.ofInt a ≤ 0 ↔ a ≤ 0 := pb_leI ha pb_R0
theorem pb_clN {a : Int} (ha : pb_R a) : (Int32.ofInt a).toNatClampNeg = a.toNat := Int32.toNatClampNeg_ofInt_of_le (by have := ha.1; omega) (by have := ha.2; omega)
theorem pb_inI {a : Int} {N : Nat} (ha : pb_R a) (h0 : 0 ≤ a) (hN : a.toNat < N) : vp_in (Int32.ofInt a) N := by
  unfold vp_in
  rw [pb_clN ha, pb_lt0 ha]
  omega
theorem pb_e_cat (x : pb_E) (v : pb_V) : (pb_e x v).category = 1 := by
  cases v with
  | inl z => rfl
  | inr z =>
    unfold pb_e
    dsimp only
    split <;> rfl
theorem pb_e_ref {x : pb_E} {z : Int} (h : ¬ z < 0) : pb_e x (.inr z) = .ref (pb_ad x z) := by
  unfold pb_e
  simp [h]
theorem pb_e_pos {x : pb_E} {j : Nat} (h : j < 1000000) : pb_e x (.inr (j : Int)) = .ref (x.2.2.2.1 + j) := by
  rw [pb_e_ref (by omega)]
  unfold pb_ad
  rw [if_neg (by omega), Int.toNat_natCast]
theorem pb_e_neg {x : pb_E} {z : Int} (h : z < 0) : pb_e x (.inr z) = .null := by
  unfold pb_e
  simp [h]
theorem pb_e_rf (x : pb_E) (z : Int) : pb_e x (.inr z) = va_rf (pb_o x z) := by
  unfold pb_e pb_o
  dsimp only
  split <;> rfl
theorem pb_e_isref (x : pb_E) (z : Int) : pb_e x (.inr z) = .null ∨ ∃ a, pb_e x (.inr z) = .ref a := by
  by_cases h : z < 0
  · exact Or.inl (pb_e_neg h)
  · exact Or.inr ⟨_, pb_e_ref h⟩
/-! the words of a frame -/
theorem pb_ll_mem {x : pb_E} : ∀ (L : pb_L) (i : Nat) (q : Nat × Value), q ∈ pb_ll x i L ↔ ∃ (j : Nat) (v : pb_V), pb_nth L j = some v ∧ q = (i + j, pb_e x v)
  | [], i, q => by simp [pb_ll, pb_nth]
  | none :: L, i, q => by
    rw [pb_ll, pb_ll_mem L (i + 1) q]
    constructor
    · rintro ⟨j, v, h1, h2⟩
      exact ⟨j + 1, v, h1, by rw [h2, show i + 1 + j = i + (j + 1) by omega]⟩
    · rintro ⟨j, v, h1, h2⟩
      cases j with
      | zero => cases h1
      | succ j => exact ⟨j, v, h1, by rw [h2, show i + 1 + j = i + (j + 1) by omega]⟩
  | some w :: L, i, q => by
    rw [pb_ll, List.mem_cons, pb_ll_mem L (i + 1) q]
    constructor
    · rintro (h | ⟨j, v, h1, h2⟩)
      · exact ⟨0, w, rfl, h⟩
      · exact ⟨j + 1, v, h1, by rw [h2, show i + 1 + j = i + (j + 1) by omega]⟩
    · rintro ⟨j, v, h1, h2⟩
      cases j with
      | zero => cases h1; exact Or.inl h2
      | succ j => exact Or.inr ⟨j, v, h1, by rw [h2, show i + 1 + j = i + (j + 1) by omega]⟩
theorem pb_lget {x : pb_E} {nL i : Nat} {ls : Array Slot} {L : pb_L} {v : pb_V} (h : lv_has ls nL (pb_ll x 0 L)) (hv : pb_nth L i = some v) : ls[i]? = some (.val (pb_e x v)) := by
  have h1 := h.2.2 (i, pb_e x v) ((pb_ll_mem L 0 _).mpr ⟨i, v, hv, by rw [Nat.zero_add]⟩)
  exact h1
theorem pb_nth_set : ∀ (L : pb_L) (i j : Nat) (v w : pb_V), pb_nth (pb_set L i v) j = some w → (j = i ∧ w = v) ∨ (j ≠ i ∧ pb_nth L j = some w)
  | [], i, j, v, w, h => by simp [pb_set, pb_nth] at h
  | a :: L, 0, 0, v, w, h => by
    simp only [pb_set, pb_nth, Option.some.injEq] at h
    exact Or.inl ⟨rfl, h.symm⟩
  | a :: L, 0, j + 1, v, w, h => Or.inr ⟨by omega, h⟩
  | a :: L, i + 1, 0, v, w, h => Or.inr ⟨by omega, h⟩
  | a :: L, i + 1, j + 1, v, w, h => by
    rcases pb_nth_set L i j v w h with ⟨h1, h2⟩ | ⟨h1, h2⟩
    · exact Or.inl ⟨by omega, h2⟩
    · exact Or.inr ⟨by omega, h2⟩
theorem pb_lset {x : pb_E} {nL i : Nat} {ls : Array Slot} {L : pb_L} {v : pb_V} {u : Value} (hx : u = pb_e x v) (h : lv_has ls nL ((i, u) :: (pb_ll x 0 L).filter (fun q => !(q.1 == i) && !(q.1 + 1 == i && q.2.category == 2)))) : lv_has ls nL (pb_ll x 0 (pb_set L i v)) := by
  refine ⟨h.1, h.2.1, fun q hq => h.2.2 q ?_⟩
  obtain ⟨j, w, h1, rfl⟩ := (pb_ll_mem _ 0 q).mp hq
  rw [Nat.zero_add]
  rcases pb_nth_set L i j v w h1 with ⟨rfl, rfl⟩ | ⟨h2, h3⟩
  · rw [hx]
    exact List.mem_cons_self
  · refine List.mem_cons_of_mem _ (List.mem_filter.mpr ⟨(pb_ll_mem L 0 _).mpr ⟨j, w, h3, by rw [Nat.zero_add]⟩, ?_⟩)
    simp [h2, pb_e_cat]
theorem pb_setR {L : pb_L} {i : Nat} {v : pb_V} (h : ∀ j w, pb_nth L j = some w → pb_vR w) (hv : pb_vR v) : ∀ j w, pb_nth (pb_set L i v) j = some w → pb_vR w := by
  intro j w hw
  rcases pb_nth_set L i j v w hw with ⟨-, rfl⟩ | ⟨-, h3⟩
  · exact hv
  · exact h j w h3
end
section
/-! the heap: a cell for each number below n -/
def pb_cell (x : pb_E) (σ : pb_H) (i : Nat) : va_E :=
  if pb_kd i < 100 then .inr (pb_kd i, (List.range (pb_N (pb_kd i))).map (fun k => pb_c x (pb_ft (pb_kd i) k) (σ (1 + 100 * pb_kd i + k) i 0)))
  else if pb_kd i < 102 then .inl (x.2.2.1 (pb_kd i - 100), (pb_ln i).toNat, .inl (fun j => Int32.ofInt (σ 0 i j)))
  else .inl (x.2.2.1 (pb_kd i - 100), (pb_ln i).toNat, .inr (.inr (.inr (.inr (fun j => pb_o x (σ 0 i j))))))
def pb_ws (x : pb_E) (n : Nat) (σ : pb_H) : va_W := (List.range n).map (fun i => (x.2.2.2.1 + i, pb_cell x σ i))
theorem pb_ws_at {x : pb_E} {n : Nat} {σ : pb_H} {i : Nat} (h : i < n) : (pb_ws x n σ)[i]? = some (x.2.2.2.1 + i, pb_cell x σ i) := by
  unfold pb_ws
  rw [List.getElem?_map, List.getElem?_range h]
  rfl
theorem pb_ws_in {x : pb_E} {n : Nat} {σ : pb_H} {i : Nat} {q : Nat × va_E} (h : (pb_ws x n σ)[i]? = some q) : i < n ∧ q = (x.2.2.2.1 + i, pb_cell x σ i) := by
  have hl : i < n := by
    have h1 := (List.getElem?_eq_some_iff.mp h).1
    unfold pb_ws at h1
    simpa using h1
  rw [pb_ws_at hl] at h
  exact ⟨hl, (Option.some.inj h).symm⟩
theorem pb_D {x : pb_E} {n : Nat} {σ : pb_H} : va_D (fun q => x.2.2.2.1 ≤ q) (pb_ws x n σ) := by
  refine ⟨fun i j p q hi hj h => ?_, fun k q hk => ?_⟩
  · obtain ⟨-, rfl⟩ := pb_ws_in hi
    obtain ⟨-, rfl⟩ := pb_ws_in hj
    dsimp only at h
    omega
  · obtain ⟨-, rfl⟩ := pb_ws_in hk
    dsimp only
    omega
theorem pb_ws_set {x : pb_E} {n : Nat} {σ σ' : pb_H} {i : Nat} (hi : i < n) (hs : ∀ j, j ≠ i → pb_cell x σ' j = pb_cell x σ j) {a : Nat} {c : va_E} (ha : a = x.2.2.2.1 + i) (hc : c = pb_cell x σ' i) : (pb_ws x n σ).set i (a, c) = pb_ws x n σ' := by
  subst ha hc
  apply List.ext_getElem?
  intro j
  by_cases hj : j = i
  · subst hj
    rw [pb_ws_at hi, List.getElem?_set_self (by unfold pb_ws; simpa using hi)]
  · rw [List.getElem?_set_ne (Ne.symm hj)]
    unfold pb_ws
    rw [List.getElem?_map, List.getElem?_map]
    cases h : (List.range n)[j]? with
    | none => rfl
    | some k =>
      have hk : k = j := by
        have h1 := List.getElem?_eq_some_iff.mp h
        obtain ⟨h2, h3⟩ := h1
        rw [List.getElem_range] at h3
        exact h3.symm
      subst hk
      simp only [Option.map_some, hs k hj]
theorem pb_cell_other {x : pb_E} {σ : pb_H} {f : Nat} {p i v : Int} {j : Nat} (h : (j : Int) ≠ p) : pb_cell x (pb_up σ f p i v) j = pb_cell x σ j := by
  have e : ∀ f' i', pb_up σ f p i v f' j i' = σ f' j i' := by
    intro f' i'
    unfold pb_up
    rw [if_neg]
    rintro ⟨-, h2, -⟩
    exact h h2
  unfold pb_cell
  simp only [e]
theorem pb_cell_obj {x : pb_E} {σ : pb_H} {i ci : Nat} (h : pb_kd i = ci) (hc : ci < 100) : pb_cell x σ i = .inr (ci, (List.range (pb_N ci)).map (fun k => pb_c x (pb_ft ci k) (σ (1 + 100 * ci + k) i 0))) := by
  unfold pb_cell
  rw [h, if_pos hc]
theorem pb_cell_int {x : pb_E} {σ : pb_H} {i a : Nat} (h : pb_kd i = a) (h1 : 100 ≤ a) (h2 : a < 102) : pb_cell x σ i = .inl (x.2.2.1 (a - 100), (pb_ln i).toNat, .inl (fun j => Int32.ofInt (σ 0 i j))) := by
  unfold pb_cell
  rw [h, if_neg (by omega), if_pos h2]
theorem pb_cell_ref {x : pb_E} {σ : pb_H} {i a : Nat} (h : pb_kd i = a) (h1 : 102 ≤ a) : pb_cell x σ i = .inl (x.2.2.1 (a - 100), (pb_ln i).toNat, .inr (.inr (.inr (.inr (fun j => pb_o x (σ 0 i j)))))) := by
  unfold pb_cell
  rw [h, if_neg (by omega), if_neg (by omega)]
theorem pb_cell_putF {x : pb_E} {σ : pb_H} {ci k : Nat} {p : Nat} {v : Int} (h : pb_kd p = ci) (hc : ci < 100) (hk : k < pb_N ci) (hN : pb_N ci ≤ 100) : pb_cell x (pb_up σ (1 + 100 * ci + k) p 0 v) p = .inr (ci, ((List.range (pb_N ci)).map (fun k => pb_c x (pb_ft ci k) (σ (1 + 100 * ci + k) p 0))).set k (pb_c x (pb_ft ci k) v)) := by
  rw [pb_cell_obj h hc]
  congr 2
  apply List.ext_getElem?
  intro j
  by_cases hj : j = k
  · subst hj
    rw [List.getElem?_set_self (by simpa using hk), List.getElem?_map, List.getElem?_range hk]
    simp [pb_up]
  · rw [List.getElem?_set_ne (Ne.symm hj)]
    by_cases hl : j < pb_N ci
    · rw [List.getElem?_map, List.getElem?_map, List.getElem?_range hl]
      simp only [Option.map_some, pb_up]
      rw [if_neg]
      rintro ⟨h1, -⟩
      omega
    · rw [List.getElem?_eq_none (by simpa using hl), List.getElem?_eq_none (by simpa using hl)]
theorem pb_cell_putA {x : pb_E} {σ : pb_H} {a p : Nat} {i v : Int} (h : pb_kd p = a) (h1 : 100 ≤ a) (h2 : a < 102) (hi : 0 ≤ i) : pb_cell x (pb_up σ 0 p i v) p = .inl (x.2.2.1 (a - 100), (pb_ln p).toNat, .inl (upd (fun j => Int32.ofInt (σ 0 p j)) i.toNat (Int32.ofInt v))) := by
  rw [pb_cell_int h h1 h2]
  congr 4
  funext j
  unfold pb_up upd
  by_cases hj : j = i.toNat
  · rw [if_pos hj, if_pos ⟨rfl, rfl, by omega⟩]
  · rw [if_neg hj, if_neg]
    rintro ⟨-, -, h3⟩
    omega
theorem pb_cell_putQ {x : pb_E} {σ : pb_H} {a p : Nat} {i v : Int} (h : pb_kd p = a) (h1 : 102 ≤ a) (hi : 0 ≤ i) (hv : ¬ v < 0) (hv2 : v < 1000000) : pb_cell x (pb_up σ 0 p i v) p = .inl (x.2.2.1 (a - 100), (pb_ln p).toNat, .inr (.inr (.inr (.inr (va_up (fun j => pb_o x (σ 0 p j)) i.toNat (some (x.2.2.2.1 + v.toNat))))))) := by
  rw [pb_cell_ref h h1]
  congr 7
  funext j
  unfold pb_up va_up
  by_cases hj : j = i.toNat
  · rw [if_pos hj, if_pos ⟨rfl, rfl, by omega⟩]
    unfold pb_o pb_ad
    rw [if_neg hv, if_neg (by omega)]
  · rw [if_neg hj, if_neg]
    rintro ⟨-, -, h3⟩
    omega
theorem pb_cell_clr {x : pb_E} {σ : pb_H} {n : Nat} {d : Nat → Int} {j : Nat} (h : j ≠ n) : pb_cell x (pb_clr σ n d) j = pb_cell x σ j := by
  have e : ∀ f' i', pb_clr σ n d f' j i' = σ f' j i' := by
    intro f' i'
    unfold pb_clr
    rw [if_neg]
    omega
  unfold pb_cell
  simp only [e]
/-! the judgements -/
theorem pb_good : ∀ w ∈ pb_ALL, (w.onTables && w.keeps) = true ∨ ∃ ty, w = .arrayClass ty := fun w hw => good_of_word (List.mem_filter.mp hw).2
def pb_y (m : Nat) : MethodName := (pb_M.getD m pb_M0).1
def pb_code (m : Nat) : ByteArray := (pb_M.getD m pb_M0).2.1
def pb_mx (m : Nat) : Nat := (pb_M.getD m pb_M0).2.2.1
def pb_rt (m : Nat) : Option FieldType := (pb_M.getD m pb_M0).2.2.2.1
def pb_rk (m : Nat) : Nat := (pb_M.getD m pb_M0).2.2.2.2.1
def pb_mc (m : Nat) : Nat := (pb_M.getD m pb_M0).2.2.2.2.2.1
def pb_lo (m : Nat) : Nat := (pb_M.getD m pb_M0).2.2.2.2.2.2
def pb_ms (m : Nat) : Nat := 64 * pb_mc m
def pb_vd (m : Nat) : Bool := (pb_rt m).isNone
def pb_rm (m : Nat) : Room := { frames := pb_rk m + 1, cells := pb_mc m, slots := pb_ms m, locals := pb_lo m }
def pb_wd (m : Nat) : List Cond := .code (pb_y m) (pb_code m) (pb_mx m) (pb_rt m) :: pb_ALL
/-- the script lies below -/
def pb_Nx (s : State) : Prop := (∀ q ∈ pb_nest, va_Nw (.methodLinkNest q.1 q.2.1 q.2.2.1 q.2.2.2) s) ∧ ∀ C ∈ pb_aos, va_AO C s
theorem pb_Nx.same {u U : State} (h : u.vm = U.vm) (hN : pb_Nx u) : pb_Nx U := ⟨fun q hq => va_Nw.same rfl h (hN.1 q hq), fun C hC => va_AO.moved (by rw [h]; exact Vm.Alike.refl _) (hN.2 C hC)⟩
theorem pb_Nx.warm {s U : State} (hW : s.WarmedH U.vm) (hN : pb_Nx s) : pb_Nx U := ⟨fun q hq => va_Nw.warmM hW (hN.1 q hq), fun C hC => va_AO.moved hW.alike (hN.2 C hC)⟩
def pb_X (x : pb_E) (s : State) : Prop := va_X x.2.2.2.2.1 x.2.2.2.2.2.1 x.2.2.2.2.2.2 s s.heap ∧ x.2.2.2.2.1 < x.2.2.2.1 ∧ pb_Nx s
def pb_In (x : pb_E) (s : State) (H : Heap) (n : Nat) (σ : pb_H) (locs : List Loc) : Prop :=
  va_K x.2.1 pb_cl (pb_tys x.2.2.1) s ∧ va_P x.2.1 pb_cl (pb_ws x n σ) H ∧ va_S (fun q => x.2.2.2.1 ≤ q) s.heap H locs ∧ (x.2.2.2.1 ≤ s.heap.size ∧ n < 1000000 ∧ pb_X x s) ∧ ∀ f p i, pb_R (σ f p i)
def pb_Cx (p : Program) (s : State) (mm : MethodId) (args : Array Value) (meth : Method) (c : Code) (m : Nat) : Prop :=
  p.tables.exec = Jvm.exec ∧ c.code = pb_code m ∧ c.maxLocals = pb_mx m ∧ s.vm.findClass (pb_y m).cls = some mm.cls ∧ (∀ w ∈ pb_ALL, w.before args s = true) ∧ meth.sig.returnType = pb_rt m ∧ meth.locks = false ∧ meth.name = (pb_y m).name
def pb_Q (x : pb_E) (m n : Nat) (Q : pb_P) : Array Value → State → Outcome → State → Prop := fun _ st oc t =>
  ∃ (v : pb_V) (σ' : pb_H), oc = .returned (if pb_vd m = true then none else some (pb_e x v)) ∧ Q v σ' ∧ pb_vR v ∧
    (va_K x.2.1 pb_cl (pb_tys x.2.2.1) t ∧ va_P x.2.1 pb_cl (pb_ws x (n + pb_mc m) σ') t.heap ∧ ∀ f p i, pb_R (σ' f p i)) ∧ va_F (fun q => x.2.2.2.1 ≤ q) st t
def pb_Pc (x : pb_E) (As : List pb_V) (n : Nat) (σ : pb_H) : Array Value → State → Prop :=
  va_Pc (As.map (pb_e x)) (fun U => (∀ v ∈ As, pb_vR v) ∧ va_K x.2.1 pb_cl (pb_tys x.2.2.1) U ∧ va_P x.2.1 pb_cl (pb_ws x n σ) U.heap ∧ (U.heap.size = x.2.2.2.1 + n ∧ n < 1000000 ∧ pb_X x U) ∧ ∀ f p i, pb_R (σ f p i))
def pb_MJ (x : pb_E) (m : Nat) (As : List pb_V) (n : Nat) (σ : pb_H) (Q : pb_P) : Prop :=
  ∃ Q0 : pb_P, (∀ v σ', Q0 v σ' → Q v σ') ∧ Met x.1 (pb_y m) (pb_wd m) (pb_rm m) (pb_Pc x As n σ) (pb_Q x m n Q0) (pb_mc m) (pb_ms m) (fun q => x.2.2.2.1 ≤ q)
def pb_Rm (m : Nat) (R : Room) : Prop := pb_rk m + 1 ≤ R.frames ∧ pb_mc m ≤ R.cells ∧ 64 * pb_mc m ≤ R.slots ∧ pb_lo m ≤ R.locals
def pb_isret (m : Nat) (op : Instr) (v : pb_V) : Prop :=
  (pb_rt m = none ∧ op = .return_) ∨ (pb_rt m = some .int ∧ op = .ireturn ∧ ∃ z, v = .inl z) ∨ (pb_rt m = some .boolean ∧ op = .ireturn ∧ (v = .inl 0 ∨ v = .inl 1)) ∨ (∃ C z, pb_rt m = some (.object C) ∧ op = .areturn ∧ v = .inr z)
/-- what is asked of the end: each answer with Q is good there -/
def pb_Zd (x : pb_E) (m n0 : Nat) (Q : pb_P) (R : Room) (Z : State → Prop) (p : Program) (e : Env) (s : State) (mm : MethodId) (args : Array Value) (below : List Frame) (meth : Method) (c : Code) : Prop :=
  ∀ (pc : Nat) (ls : Array Slot) (v : pb_V) (σ : pb_H) (H : Heap) (locs : List Loc) (op : Instr), decode (pb_code m) pc = .ok (op, 1) → pb_isret m op v → Q v σ → pb_vR v → pb_In x s H (n0 + pb_mc m) σ locs →
    W p x.1 e R s mm args below meth c H locs (pb_mc m) (64 * pb_mc m) Z (F0 mm pc ls (if pb_vd m = true then [] else [pb_e x v]))
def pb_WJ (x : pb_E) (m : Nat) (n0 : Nat) (Q : pb_P) (pc : Nat) : pb_K := fun L S n σ =>
  ∀ (p : Program) (e : Env) (R : Room) (Z : State → Prop) (s : State) (mm : MethodId) (args : Array Value) (below : List Frame) (meth : Method) (c : Code) (H : Heap) (locs : List Loc) (cells slots : Nat) (ls : Array Slot),
    pb_Rm m R → pb_Zd x m n0 Q R Z p e s mm args below meth c → pb_Cx p s mm args meth c m → pb_In x s H n σ locs → lv_has ls (pb_mx m) (pb_ll x 0 L) → (∀ v ∈ S, pb_vR v) → (∀ j v, pb_nth L j = some v → pb_vR v) → (n = n0 + cells ∧ s.heap.size = x.2.2.2.1 + n0 ∧ cells ≤ pb_mc m) → slots = 64 * cells →
    W p x.1 e R s mm args below meth c H locs cells slots Z (F0 mm pc ls (S.map (pb_e x)))
def pb_le (k k' : pb_K) : Prop := ∀ L S n σ, k L S n σ → k' L S n σ
theorem pb_MJ.mono {x : pb_E} {m : Nat} {As : List pb_V} {n : Nat} {σ : pb_H} {Q Q' : pb_P} (h : pb_MJ x m As n σ Q) (hq : ∀ v σ', Q v σ' → Q' v σ') : pb_MJ x m As n σ Q' :=
  h.elim fun Q0 h0 => ⟨Q0, fun v σ' h1 => hq v σ' (h0.1 v σ' h1), h0.2⟩
theorem pb_nth_none : ∀ (r j : Nat), pb_nth (List.replicate r none) j = none
  | 0, _ => rfl
  | r + 1, 0 => by rw [List.replicate_succ]; rfl
  | r + 1, j + 1 => by rw [List.replicate_succ]; exact pb_nth_none r j
theorem pb_entry {x : pb_E} : ∀ (As : List pb_V) (i : Nat) (r : Nat) (q : Nat × Value), q ∈ pb_ll x i (As.map some ++ List.replicate r none) → q ∈ lv_args i (As.map (pb_e x))
  | [], i, r, q, h => by
    obtain ⟨j, v, h1, -⟩ := (pb_ll_mem _ i q).mp h
    rw [List.map_nil, List.nil_append, pb_nth_none] at h1
    cases h1
  | a :: As, i, r, q, h => by
    simp only [List.map_cons, List.cons_append, pb_ll, List.mem_cons] at h
    simp only [List.map_cons, lv_args, pb_e_cat, List.mem_cons]
    rcases h with h | h
    · exact Or.inl h
    · exact Or.inr (by simpa using pb_entry As (i + 1) r q h)
theorem pb_sl {x : pb_E} (As : List pb_V) : (lg_sl (As.map (pb_e x))).length = As.length := by
  induction As with
  | nil => rfl
  | cons a As ih =>
    unfold lg_sl at ih ⊢
    simp only [List.map_cons, List.flatMap_cons, List.length_append, pb_e_cat, ih]
    simp
    omega
theorem pb_nthR {As : List pb_V} {r : Nat} (h : ∀ v ∈ As, pb_vR v) : ∀ j v, pb_nth (As.map some ++ List.replicate r none) j = some v → pb_vR v := by
  induction As with
  | nil =>
    intro j v hv
    rw [List.map_nil, List.nil_append, pb_nth_none] at hv
    cases hv
  | cons a As ih =>
    intro j v hv
    cases j with
    | zero =>
      simp only [List.map_cons, List.cons_append, pb_nth, Option.some.injEq] at hv
      exact hv ▸ h a List.mem_cons_self
    | succ j => exact ih (fun w hw => h w (List.mem_cons_of_mem _ hw)) j v hv
theorem pb_ans {x : pb_E} {m n0 : Nat} {Q : pb_P} {s t : State} {H : Heap} {σ : pb_H} {locs : List Loc} {args : Array Value} {v : pb_V} {oc : Outcome} (hI : pb_In x s H (n0 + pb_mc m) σ locs) (hoc : oc = .returned (if pb_vd m = true then none else some (pb_e x v))) (hQ : Q v σ) (hv : pb_vR v) (ht : t.heap = H) (hW : s.WarmedH t.vm) : pb_Q x m n0 Q args s oc t :=
  ⟨v, σ, hoc, hQ, hv, ⟨va_K.moved hW.alike hI.1, by rw [ht]; exact hI.2.1, hI.2.2.2.2⟩, hI.2.2.1.F ht⟩
theorem pb_Zd_met {x : pb_E} {m n0 : Nat} {Q : pb_P} {p : Program} {e : Env} {s : State} {mm : MethodId} {args : Array Value} {below : List Frame} {meth : Method} {c : Code} (hC : pb_Cx p s mm args meth c m) : pb_Zd x m n0 Q (pb_rm m) (MQ below (pb_Q x m n0 Q) args s (pb_mc m) (pb_ms m) (fun q => x.2.2.2.1 ≤ q)) p e s mm args below meth c := by
  intro pc ls v σ H locs op hd hop hQ hv hI
  have hrt := hC.2.2.2.2.2.1
  have hlk := hC.2.2.2.2.2.2.1
  rcases hop with ⟨h1, rfl⟩ | ⟨h1, rfl, z, rfl⟩ | ⟨h1, rfl, h3⟩ | ⟨C, z, h1, rfl, rfl⟩
  · have hvd : pb_vd m = true := by unfold pb_vd; rw [h1]; rfl
    rw [hvd, if_pos rfl]
    exact W.vret hC.1 hC.2.1 (hrt.trans h1) (fun t ht hW => pb_ans hI (by rw [hvd, if_pos rfl]) hQ hv ht hW) hI.2.2.1.2.2 hd hlk
  · have hvd : pb_vd m = false := by unfold pb_vd; rw [h1]; rfl
    rw [hvd, if_neg (by decide)]
    exact W.iret hC.1 hC.2.1 (hrt.trans h1) (fun t ht hW => pb_ans hI (by rw [hvd, if_neg (by decide)]; rfl) hQ hv ht hW) hI.2.2.1.2.2 hd hlk
  · have hvd : pb_vd m = false := by unfold pb_vd; rw [h1]; rfl
    rw [hvd, if_neg (by decide)]
    rcases h3 with rfl | rfl
    · exact W.zret hC.1 hC.2.1 (hrt.trans h1) rfl (fun t ht hW => pb_ans hI (by rw [hvd, if_neg (by decide)]; rfl) hQ hv ht hW) hI.2.2.1.2.2 hd hlk
    · exact W.zret hC.1 hC.2.1 (hrt.trans h1) rfl (fun t ht hW => pb_ans hI (by rw [hvd, if_neg (by decide)]; rfl) hQ hv ht hW) hI.2.2.1.2.2 hd hlk
  · have hvd : pb_vd m = false := by unfold pb_vd; rw [h1]; rfl
    rw [hvd, if_neg (by decide)]
    exact W.aret hC.1 hC.2.1 (hrt.trans h1) (Or.inl ⟨_, rfl⟩) (pb_e_isref _ _) (fun t ht hW => pb_ans hI (by rw [hvd, if_neg (by decide)]) hQ hv ht hW) hI.2.2.1.2.2 hd hlk
theorem pb_enter {x : pb_E} {m : Nat} {As : List pb_V} {n : Nat} {σ : pb_H} {Q : pb_P} (hy : plainName (pb_y m).cls = true) (hlen : As.length ≤ pb_mx m) (h : pb_WJ x m n Q 0 (As.map some ++ List.replicate (pb_mx m - As.length) none) [] n σ) : pb_MJ x m As n σ Q := by
  refine ⟨Q, fun _ _ h => h, Met.ofW (cc := pb_code m) (maxL := pb_mx m) (ret := pb_rt m) hy rfl ?_⟩
  intro p e s mm args below meth c s₁ B hml hv
  obtain ⟨rfl, hAs, hK, hP, ⟨hz, hn, hX⟩, hR⟩ := hv
  have hts := atoms_spec (ws := pb_wd m) B.pre
  have hl := lv_entry (As.map (pb_e x)) (n := pb_mx m) (by rw [pb_sl]; exact hlen)
  have hC : pb_Cx p s mm (As.map (pb_e x)).toArray meth c m := ⟨B.exec, B.bytes, hml, findClass_of_methodNamed B.named, fun w hw => hts w (List.mem_cons_of_mem _ hw), B.returns, B.notSynchronized, (name_of_methodNamed B.named B.method).1⟩
  rw [lg_entry_eq]
  exact h p e (pb_rm m) _ s mm _ below meth c s.heap [] 0 0 _ ⟨Nat.le_refl _, Nat.le_refl _, Nat.le_refl _, Nat.le_refl _⟩ (pb_Zd_met hC) hC ⟨hK, hP, va_S.rf, ⟨by omega, hn, hX⟩, hR⟩ ⟨hl.1, hl.2.1, fun q hq => hl.2.2 q (pb_entry As 0 _ q hq)⟩ (fun v hv => by cases hv) (pb_nthR hAs) ⟨rfl, hz, Nat.zero_le _⟩ rfl
/-- the heap's size: what has been made so far -/
theorem pb_sz {p : Program} {e : Env} {R : Room} {s : State} {mm : MethodId} {args : Array Value} {below : List Frame} {meth : Method} {c : Code} {H : Heap} {locs : List Loc} {cells slots : Nat} {Qs : State → Prop} {g : JFrame} {x : pb_E} {n n0 : Nat} {σ : pb_H} (hI : pb_In x s H n σ locs) (hn : n = n0 + cells) (hs : s.heap.size = x.2.2.2.1 + n0)
    (kk : H.size = x.2.2.2.1 + n → W p x.1 e R s mm args below meth c H locs cells slots Qs g) : W p x.1 e R s mm args below meth c H locs cells slots Qs g := by
  intro T hT X
  have h1 := X.heapSize
  rw [hT] at h1
  refine kk ?_ T hT X
  have h2 : s.heap.size ≤ H.size := hI.2.2.1.1
  by_cases h0 : n = 0
  · omega
  · have h3 := (hI.2.1 (n - 1) _ (pb_ws_at (by omega))).lt
    dsimp only at h3
    omega
end
section
/-! a rule an instruction: plain ones -/
theorem pb_s_iconst {x : pb_E} {m n0 : Nat} {Q : pb_P} {pc : Nat} {z : Int} {k : pb_K} (hd : decode (pb_code m) pc = .ok (.iconst z, 1)) (hz : pb_R z) (hk : pb_le k (pb_WJ x m n0 Q (pc + 1))) : pb_le (pb_iconst z k) (pb_WJ x m n0 Q pc) := by
  intro L S n σ h p e R Z s mm args below meth c H locs cells slots ls hR hZ hC hI hl hS hL h1 h2
  exact lv_iconst hC.1 hC.2.1 hd rfl (hk L _ n σ h p e R Z s mm args below meth c H locs cells slots ls hR hZ hC hI hl (List.forall_mem_cons.mpr ⟨hz, hS⟩) hL h1 h2)
theorem pb_s_bipush {x : pb_E} {m n0 : Nat} {Q : pb_P} {pc : Nat} {z : Int} {k : pb_K} (hd : decode (pb_code m) pc = .ok (.bipush z, 2)) (hz : pb_R z) (hv : (Int8.ofInt z).toInt32 = Int32.ofInt z) (hk : pb_le k (pb_WJ x m n0 Q (pc + 2))) : pb_le (pb_iconst z k) (pb_WJ x m n0 Q pc) := by
  intro L S n σ h p e R Z s mm args below meth c H locs cells slots ls hR hZ hC hI hl hS hL h1 h2
  exact lv_bipush hC.1 hC.2.1 hd hv (hk L _ n σ h p e R Z s mm args below meth c H locs cells slots ls hR hZ hC hI hl (List.forall_mem_cons.mpr ⟨hz, hS⟩) hL h1 h2)
theorem pb_s_sipush {x : pb_E} {m n0 : Nat} {Q : pb_P} {pc : Nat} {z : Int} {k : pb_K} (hd : decode (pb_code m) pc = .ok (.sipush z, 3)) (hz : pb_R z) (hv : (Int16.ofInt z).toInt32 = Int32.ofInt z) (hk : pb_le k (pb_WJ x m n0 Q (pc + 3))) : pb_le (pb_iconst z k) (pb_WJ x m n0 Q pc) := by
  intro L S n σ h p e R Z s mm args below meth c H locs cells slots ls hR hZ hC hI hl hS hL h1 h2
  exact lv_sipush hC.1 hC.2.1 hd hv (hk L _ n σ h p e R Z s mm args below meth c H locs cells slots ls hR hZ hC hI hl (List.forall_mem_cons.mpr ⟨hz, hS⟩) hL h1 h2)
theorem pb_s_null {x : pb_E} {m n0 : Nat} {Q : pb_P} {pc : Nat} {k : pb_K} (hd : decode (pb_code m) pc = .ok (.aconst_null, 1)) (hk : pb_le k (pb_WJ x m n0 Q (pc + 1))) : pb_le (pb_null k) (pb_WJ x m n0 Q pc) := by
  intro L S n σ h p e R Z s mm args below meth c H locs cells slots ls hR hZ hC hI hl hS hL h1 h2
  exact lv_null hC.1 hC.2.1 hd (hk L _ n σ h p e R Z s mm args below meth c H locs cells slots ls hR hZ hC hI hl (List.forall_mem_cons.mpr ⟨(by unfold pb_vR pb_R; omega), hS⟩) hL h1 h2)
theorem pb_s_iload_n {x : pb_E} {m n0 : Nat} {Q : pb_P} {pc : Nat} {j : Fin 4} {i : Nat} {k : pb_K} (hd : decode (pb_code m) pc = .ok (.iload_n j, 1)) (hi : (j : Nat) = i) (hk : pb_le k (pb_WJ x m n0 Q (pc + 1))) : pb_le (pb_iload i k) (pb_WJ x m n0 Q pc) := by
  intro L S n σ h p e R Z s mm args below meth c H locs cells slots ls hR hZ hC hI hl hS hL h1 h2
  unfold pb_iload at h
  split at h
  · rename_i y hy
    exact lv_iload_n hC.1 hC.2.1 hd hi (pb_lget hl hy) (hk L _ n σ h p e R Z s mm args below meth c H locs cells slots ls hR hZ hC hI hl (List.forall_mem_cons.mpr ⟨hL _ _ hy, hS⟩) hL h1 h2)
  · exact h.elim
theorem pb_s_iload {x : pb_E} {m n0 : Nat} {Q : pb_P} {pc : Nat} {i : Nat} {k : pb_K} (hd : decode (pb_code m) pc = .ok (.iload i, 2)) (hk : pb_le k (pb_WJ x m n0 Q (pc + 2))) : pb_le (pb_iload i k) (pb_WJ x m n0 Q pc) := by
  intro L S n σ h p e R Z s mm args below meth c H locs cells slots ls hR hZ hC hI hl hS hL h1 h2
  unfold pb_iload at h
  split at h
  · rename_i y hy
    exact lv_iload hC.1 hC.2.1 hd (pb_lget hl hy) (hk L _ n σ h p e R Z s mm args below meth c H locs cells slots ls hR hZ hC hI hl (List.forall_mem_cons.mpr ⟨hL _ _ hy, hS⟩) hL h1 h2)
  · exact h.elim
theorem pb_s_aload_n {x : pb_E} {m n0 : Nat} {Q : pb_P} {pc : Nat} {j : Fin 4} {i : Nat} {k : pb_K} (hd : decode (pb_code m) pc = .ok (.aload_n j, 1)) (hi : (j : Nat) = i) (hk : pb_le k (pb_WJ x m n0 Q (pc + 1))) : pb_le (pb_aload i k) (pb_WJ x m n0 Q pc) := by
  intro L S n σ h p e R Z s mm args below meth c H locs cells slots ls hR hZ hC hI hl hS hL h1 h2
  unfold pb_aload at h
  split at h
  · rename_i y hy
    have hw := hk L _ n σ h p e R Z s mm args below meth c H locs cells slots ls hR hZ hC hI hl (List.forall_mem_cons.mpr ⟨hL _ _ hy, hS⟩) hL h1 h2
    have hg := pb_lget hl hy
    rw [List.map_cons] at hw
    by_cases hn : y < 0
    · rw [pb_e_neg hn] at hw hg
      exact lv_aload_nN hC.1 hC.2.1 hd hi hg hw
    · rw [pb_e_ref hn] at hw hg
      exact lv_aload_n hC.1 hC.2.1 hd hi hg hw
  · exact h.elim
theorem pb_s_aload {x : pb_E} {m n0 : Nat} {Q : pb_P} {pc : Nat} {i : Nat} {k : pb_K} (hd : decode (pb_code m) pc = .ok (.aload i, 2)) (hk : pb_le k (pb_WJ x m n0 Q (pc + 2))) : pb_le (pb_aload i k) (pb_WJ x m n0 Q pc) := by
  intro L S n σ h p e R Z s mm args below meth c H locs cells slots ls hR hZ hC hI hl hS hL h1 h2
  unfold pb_aload at h
  split at h
  · rename_i y hy
    have hw := hk L _ n σ h p e R Z s mm args below meth c H locs cells slots ls hR hZ hC hI hl (List.forall_mem_cons.mpr ⟨hL _ _ hy, hS⟩) hL h1 h2
    have hg := pb_lget hl hy
    rw [List.map_cons] at hw
    by_cases hn : y < 0
    · rw [pb_e_neg hn] at hw hg
      exact lv_aloadN hC.1 hC.2.1 hd hg hw
    · rw [pb_e_ref hn] at hw hg
      exact lv_aload hC.1 hC.2.1 hd hg hw
  · exact h.elim
theorem pb_s_istore_n {x : pb_E} {m n0 : Nat} {Q : pb_P} {pc : Nat} {j : Fin 4} {i : Nat} {k : pb_K} (hd : decode (pb_code m) pc = .ok (.istore_n j, 1)) (hi : (j : Nat) = i) (hn : i < pb_mx m) (hk : pb_le k (pb_WJ x m n0 Q (pc + 1))) : pb_le (pb_istore i k) (pb_WJ x m n0 Q pc) := by
  intro L S n σ h p e R Z s mm args below meth c H locs cells slots ls hR hZ hC hI hl hS hL h1 h2
  unfold pb_istore at h
  split at h
  · rename_i y S'
    obtain ⟨hy, hS'⟩ := List.forall_mem_cons.mp hS
    exact lv_istore_n hC.1 hC.2.1 hd hi hl hn rfl (fun ls' hl' => hk _ _ n σ h p e R Z s mm args below meth c H locs cells slots ls' hR hZ hC hI (pb_lset (v := .inl y) rfl hl') hS' (pb_setR hL hy) h1 h2)
  · exact h.elim
theorem pb_s_istore {x : pb_E} {m n0 : Nat} {Q : pb_P} {pc : Nat} {i : Nat} {k : pb_K} (hd : decode (pb_code m) pc = .ok (.istore i, 2)) (hn : i < pb_mx m) (hk : pb_le k (pb_WJ x m n0 Q (pc + 2))) : pb_le (pb_istore i k) (pb_WJ x m n0 Q pc) := by
  intro L S n σ h p e R Z s mm args below meth c H locs cells slots ls hR hZ hC hI hl hS hL h1 h2
  unfold pb_istore at h
  split at h
  · rename_i y S'
    obtain ⟨hy, hS'⟩ := List.forall_mem_cons.mp hS
    exact lv_istore hC.1 hC.2.1 hd hl hn rfl (fun ls' hl' => hk _ _ n σ h p e R Z s mm args below meth c H locs cells slots ls' hR hZ hC hI (pb_lset (v := .inl y) rfl hl') hS' (pb_setR hL hy) h1 h2)
  · exact h.elim
theorem pb_s_astore_n {x : pb_E} {m n0 : Nat} {Q : pb_P} {pc : Nat} {j : Fin 4} {i : Nat} {k : pb_K} (hd : decode (pb_code m) pc = .ok (.astore_n j, 1)) (hi : (j : Nat) = i) (hn : i < pb_mx m) (hk : pb_le k (pb_WJ x m n0 Q (pc + 1))) : pb_le (pb_astore i k) (pb_WJ x m n0 Q pc) := by
  intro L S n σ h p e R Z s mm args below meth c H locs cells slots ls hR hZ hC hI hl hS hL h1 h2
  unfold pb_astore at h
  split at h
  · rename_i y S'
    obtain ⟨hy, hS'⟩ := List.forall_mem_cons.mp hS
    rw [List.map_cons]
    by_cases hz : y < 0
    · rw [pb_e_neg hz]
      exact lv_astore_nN hC.1 hC.2.1 hd hi hl hn rfl (fun ls' hl' => hk _ _ n σ h p e R Z s mm args below meth c H locs cells slots ls' hR hZ hC hI (pb_lset (v := .inr y) (pb_e_neg hz).symm hl') hS' (pb_setR hL hy) h1 h2)
    · rw [pb_e_ref hz]
      exact lv_astore_n hC.1 hC.2.1 hd hi hl hn rfl (fun ls' hl' => hk _ _ n σ h p e R Z s mm args below meth c H locs cells slots ls' hR hZ hC hI (pb_lset (v := .inr y) (pb_e_ref hz).symm hl') hS' (pb_setR hL hy) h1 h2)
  · exact h.elim
theorem pb_s_astore {x : pb_E} {m n0 : Nat} {Q : pb_P} {pc : Nat} {i : Nat} {k : pb_K} (hd : decode (pb_code m) pc = .ok (.astore i, 2)) (hn : i < pb_mx m) (hk : pb_le k (pb_WJ x m n0 Q (pc + 2))) : pb_le (pb_astore i k) (pb_WJ x m n0 Q pc) := by
  intro L S n σ h p e R Z s mm args below meth c H locs cells slots ls hR hZ hC hI hl hS hL h1 h2
  unfold pb_astore at h
  split at h
  · rename_i y S'
    obtain ⟨hy, hS'⟩ := List.forall_mem_cons.mp hS
    rw [List.map_cons]
    by_cases hz : y < 0
    · rw [pb_e_neg hz]
      exact lv_astoreN hC.1 hC.2.1 hd hl hn rfl (fun ls' hl' => hk _ _ n σ h p e R Z s mm args below meth c H locs cells slots ls' hR hZ hC hI (pb_lset (v := .inr y) (pb_e_neg hz).symm hl') hS' (pb_setR hL hy) h1 h2)
    · rw [pb_e_ref hz]
      exact lv_astore hC.1 hC.2.1 hd hl hn rfl (fun ls' hl' => hk _ _ n σ h p e R Z s mm args below meth c H locs cells slots ls' hR hZ hC hI (pb_lset (v := .inr y) (pb_e_ref hz).symm hl') hS' (pb_setR hL hy) h1 h2)
  · exact h.elim
theorem pb_s_iinc {x : pb_E} {m n0 : Nat} {Q : pb_P} {pc : Nat} {i : Nat} {z : Int} {k : pb_K} (hd : decode (pb_code m) pc = .ok (.iinc i z, 3)) (hn : i < pb_mx m) (hk : pb_le k (pb_WJ x m n0 Q (pc + 3))) : pb_le (pb_iinc i z k) (pb_WJ x m n0 Q pc) := by
  intro L S n σ h p e R Z s mm args below meth c H locs cells slots ls hR hZ hC hI hl hS hL h1 h2
  unfold pb_iinc at h
  split at h
  · rename_i y hy
    obtain ⟨q, hq⟩ := List.getElem?_of_mem ((pb_ll_mem (x := x) L 0 (i, .int (Int32.ofInt y))).mpr ⟨i, .inl y, hy, by rw [Nat.zero_add]; rfl⟩)
    exact lv_iinc hC.1 hC.2.1 hd hl hq rfl hn rfl (fun ls' hl' => hk _ _ n σ h p e R Z s mm args below meth c H locs cells slots ls' hR hZ hC hI (pb_lset (v := .inl (pb_w (y + z))) (by show Value.int _ = Value.int _; rw [pb_w_of, Int32.ofInt_add]) hl') hS (pb_setR hL (pb_w_R _)) h1 h2)
  · exact h.elim
theorem pb_s_iadd {x : pb_E} {m n0 : Nat} {Q : pb_P} {pc : Nat} {k : pb_K} (hd : decode (pb_code m) pc = .ok (.iadd, 1)) (hk : pb_le k (pb_WJ x m n0 Q (pc + 1))) : pb_le (pb_bin pb_add k) (pb_WJ x m n0 Q pc) := by
  intro L S n σ h p e R Z s mm args below meth c H locs cells slots ls hR hZ hC hI hl hS hL h1 h2
  unfold pb_bin at h
  split at h
  · rename_i c' a' S'
    obtain ⟨-, hS'⟩ := List.forall_mem_cons.mp hS
    obtain ⟨-, hS'⟩ := List.forall_mem_cons.mp hS'
    have hw := hk L _ n σ h p e R Z s mm args below meth c H locs cells slots ls hR hZ hC hI hl (List.forall_mem_cons.mpr ⟨(pb_w_R _), hS'⟩) hL h1 h2
    have e : ∀ a c : Int, Int32.ofInt (pb_add a c) = Int32.ofInt a + Int32.ofInt c := fun a c => by unfold pb_add; rw [pb_w_of, Int32.ofInt_add]
    rw [List.map_cons, pb_e, e] at hw
    exact lv_iadd hC.1 hC.2.1 hd hw
  · exact h.elim
theorem pb_s_isub {x : pb_E} {m n0 : Nat} {Q : pb_P} {pc : Nat} {k : pb_K} (hd : decode (pb_code m) pc = .ok (.isub, 1)) (hk : pb_le k (pb_WJ x m n0 Q (pc + 1))) : pb_le (pb_bin pb_sub k) (pb_WJ x m n0 Q pc) := by
  intro L S n σ h p e R Z s mm args below meth c H locs cells slots ls hR hZ hC hI hl hS hL h1 h2
  unfold pb_bin at h
  split at h
  · rename_i c' a' S'
    obtain ⟨-, hS'⟩ := List.forall_mem_cons.mp hS
    obtain ⟨-, hS'⟩ := List.forall_mem_cons.mp hS'
    have hw := hk L _ n σ h p e R Z s mm args below meth c H locs cells slots ls hR hZ hC hI hl (List.forall_mem_cons.mpr ⟨(pb_w_R _), hS'⟩) hL h1 h2
    have e : ∀ a c : Int, Int32.ofInt (pb_sub a c) = Int32.ofInt a - Int32.ofInt c := fun a c => by unfold pb_sub; rw [pb_w_of, Int32.ofInt_sub]
    rw [List.map_cons, pb_e, e] at hw
    exact lv_isub hC.1 hC.2.1 hd hw
  · exact h.elim
theorem pb_s_imul {x : pb_E} {m n0 : Nat} {Q : pb_P} {pc : Nat} {k : pb_K} (hd : decode (pb_code m) pc = .ok (.imul, 1)) (hk : pb_le k (pb_WJ x m n0 Q (pc + 1))) : pb_le (pb_bin pb_mul k) (pb_WJ x m n0 Q pc) := by
  intro L S n σ h p e R Z s mm args below meth c H locs cells slots ls hR hZ hC hI hl hS hL h1 h2
  unfold pb_bin at h
  split at h
  · rename_i c' a' S'
    obtain ⟨-, hS'⟩ := List.forall_mem_cons.mp hS
    obtain ⟨-, hS'⟩ := List.forall_mem_cons.mp hS'
    have hw := hk L _ n σ h p e R Z s mm args below meth c H locs cells slots ls hR hZ hC hI hl (List.forall_mem_cons.mpr ⟨(pb_w_R _), hS'⟩) hL h1 h2
    have e : ∀ a c : Int, Int32.ofInt (pb_mul a c) = Int32.ofInt a * Int32.ofInt c := fun a c => by unfold pb_mul; rw [pb_w_of, Int32.ofInt_mul]
    rw [List.map_cons, pb_e, e] at hw
    exact lv_imul hC.1 hC.2.1 hd hw
  · exact h.elim
theorem pb_s_iand {x : pb_E} {m n0 : Nat} {Q : pb_P} {pc : Nat} {k : pb_K} (hd : decode (pb_code m) pc = .ok (.iand, 1)) (hk : pb_le k (pb_WJ x m n0 Q (pc + 1))) : pb_le (pb_bin pb_and k) (pb_WJ x m n0 Q pc) := by
  intro L S n σ h p e R Z s mm args below meth c H locs cells slots ls hR hZ hC hI hl hS hL h1 h2
  unfold pb_bin at h
  split at h
  · rename_i c' a' S'
    obtain ⟨-, hS'⟩ := List.forall_mem_cons.mp hS
    obtain ⟨-, hS'⟩ := List.forall_mem_cons.mp hS'
    have hw := hk L _ n σ h p e R Z s mm args below meth c H locs cells slots ls hR hZ hC hI hl (List.forall_mem_cons.mpr ⟨(pb_tR _), hS'⟩) hL h1 h2
    have e : ∀ a c : Int, Int32.ofInt (pb_and a c) = Int32.ofInt a &&& Int32.ofInt c := fun a c => Int32.ofInt_toInt _
    rw [List.map_cons, pb_e, e] at hw
    exact lv_iand hC.1 hC.2.1 hd hw
  · exact h.elim
theorem pb_s_ior {x : pb_E} {m n0 : Nat} {Q : pb_P} {pc : Nat} {k : pb_K} (hd : decode (pb_code m) pc = .ok (.ior, 1)) (hk : pb_le k (pb_WJ x m n0 Q (pc + 1))) : pb_le (pb_bin pb_or k) (pb_WJ x m n0 Q pc) := by
  intro L S n σ h p e R Z s mm args below meth c H locs cells slots ls hR hZ hC hI hl hS hL h1 h2
  unfold pb_bin at h
  split at h
  · rename_i c' a' S'
    obtain ⟨-, hS'⟩ := List.forall_mem_cons.mp hS
    obtain ⟨-, hS'⟩ := List.forall_mem_cons.mp hS'
    have hw := hk L _ n σ h p e R Z s mm args below meth c H locs cells slots ls hR hZ hC hI hl (List.forall_mem_cons.mpr ⟨(pb_tR _), hS'⟩) hL h1 h2
    have e : ∀ a c : Int, Int32.ofInt (pb_or a c) = Int32.ofInt a ||| Int32.ofInt c := fun a c => Int32.ofInt_toInt _
    rw [List.map_cons, pb_e, e] at hw
    exact lv_ior hC.1 hC.2.1 hd hw
  · exact h.elim
theorem pb_s_ixor {x : pb_E} {m n0 : Nat} {Q : pb_P} {pc : Nat} {k : pb_K} (hd : decode (pb_code m) pc = .ok (.ixor, 1)) (hk : pb_le k (pb_WJ x m n0 Q (pc + 1))) : pb_le (pb_bin pb_xor k) (pb_WJ x m n0 Q pc) := by
  intro L S n σ h p e R Z s mm args below meth c H locs cells slots ls hR hZ hC hI hl hS hL h1 h2
  unfold pb_bin at h
  split at h
  · rename_i c' a' S'
    obtain ⟨-, hS'⟩ := List.forall_mem_cons.mp hS
    obtain ⟨-, hS'⟩ := List.forall_mem_cons.mp hS'
    have hw := hk L _ n σ h p e R Z s mm args below meth c H locs cells slots ls hR hZ hC hI hl (List.forall_mem_cons.mpr ⟨(pb_tR _), hS'⟩) hL h1 h2
    have e : ∀ a c : Int, Int32.ofInt (pb_xor a c) = Int32.ofInt a ^^^ Int32.ofInt c := fun a c => Int32.ofInt_toInt _
    rw [List.map_cons, pb_e, e] at hw
    exact lv_ixor hC.1 hC.2.1 hd hw
  · exact h.elim
theorem pb_s_ishl {x : pb_E} {m n0 : Nat} {Q : pb_P} {pc : Nat} {k : pb_K} (hd : decode (pb_code m) pc = .ok (.ishl, 1)) (hk : pb_le k (pb_WJ x m n0 Q (pc + 1))) : pb_le (pb_bin pb_shl k) (pb_WJ x m n0 Q pc) := by
  intro L S n σ h p e R Z s mm args below meth c H locs cells slots ls hR hZ hC hI hl hS hL h1 h2
  unfold pb_bin at h
  split at h
  · rename_i c' a' S'
    obtain ⟨-, hS'⟩ := List.forall_mem_cons.mp hS
    obtain ⟨-, hS'⟩ := List.forall_mem_cons.mp hS'
    have hw := hk L _ n σ h p e R Z s mm args below meth c H locs cells slots ls hR hZ hC hI hl (List.forall_mem_cons.mpr ⟨(pb_tR _), hS'⟩) hL h1 h2
    have e : ∀ a c : Int, Int32.ofInt (pb_shl a c) = Int32.ofInt a <<< (Int32.ofInt c &&& 31) := fun a c => Int32.ofInt_toInt _
    rw [List.map_cons, pb_e, e] at hw
    exact lv_ishl hC.1 hC.2.1 hd hw
  · exact h.elim
theorem pb_s_idiv {x : pb_E} {m n0 : Nat} {Q : pb_P} {pc : Nat} {k : pb_K} (hd : decode (pb_code m) pc = .ok (.idiv, 1)) (hk : pb_le k (pb_WJ x m n0 Q (pc + 1))) : pb_le (pb_bin0 pb_div k) (pb_WJ x m n0 Q pc) := by
  intro L S n σ h p e R Z s mm args below meth c H locs cells slots ls hR hZ hC hI hl hS hL h1 h2
  unfold pb_bin0 at h
  split at h
  · rename_i c' a' S'
    obtain ⟨hc', hS'⟩ := List.forall_mem_cons.mp hS
    obtain ⟨-, hS'⟩ := List.forall_mem_cons.mp hS'
    have hw := hk L _ n σ h.2 p e R Z s mm args below meth c H locs cells slots ls hR hZ hC hI hl (List.forall_mem_cons.mpr ⟨pb_tR _, hS'⟩) hL h1 h2
    have e : ∀ a c : Int, Int32.ofInt (pb_div a c) = Int32.ofInt a / Int32.ofInt c := fun a c => Int32.ofInt_toInt _
    rw [List.map_cons, pb_e, e] at hw
    exact lv_idiv hC.1 hC.2.1 hd (fun q => h.1 ((pb_eq0 hc').mp q)) hw
  · exact h.elim
theorem pb_s_irem {x : pb_E} {m n0 : Nat} {Q : pb_P} {pc : Nat} {k : pb_K} (hd : decode (pb_code m) pc = .ok (.irem, 1)) (hk : pb_le k (pb_WJ x m n0 Q (pc + 1))) : pb_le (pb_bin0 pb_rem k) (pb_WJ x m n0 Q pc) := by
  intro L S n σ h p e R Z s mm args below meth c H locs cells slots ls hR hZ hC hI hl hS hL h1 h2
  unfold pb_bin0 at h
  split at h
  · rename_i c' a' S'
    obtain ⟨hc', hS'⟩ := List.forall_mem_cons.mp hS
    obtain ⟨-, hS'⟩ := List.forall_mem_cons.mp hS'
    have hw := hk L _ n σ h.2 p e R Z s mm args below meth c H locs cells slots ls hR hZ hC hI hl (List.forall_mem_cons.mpr ⟨pb_tR _, hS'⟩) hL h1 h2
    have e : ∀ a c : Int, Int32.ofInt (pb_rem a c) = Int32.ofInt a - Int32.ofInt a / Int32.ofInt c * Int32.ofInt c := fun a c => Int32.ofInt_toInt _
    rw [List.map_cons, pb_e, e] at hw
    exact lv_irem hC.1 hC.2.1 hd (fun q => h.1 ((pb_eq0 hc').mp q)) hw
  · exact h.elim
theorem pb_s_dup {x : pb_E} {m n0 : Nat} {Q : pb_P} {pc : Nat} {k : pb_K} (hd : decode (pb_code m) pc = .ok (.dup, 1)) (hk : pb_le k (pb_WJ x m n0 Q (pc + 1))) : pb_le (pb_dup k) (pb_WJ x m n0 Q pc) := by
  intro L S n σ h p e R Z s mm args below meth c H locs cells slots ls hR hZ hC hI hl hS hL h1 h2
  unfold pb_dup at h
  split at h
  · exact lv_dup hC.1 hC.2.1 hd (pb_e_cat _ _) (hk L _ n σ h p e R Z s mm args below meth c H locs cells slots ls hR hZ hC hI hl (List.forall_mem_cons.mpr ⟨(List.forall_mem_cons.mp hS).1, hS⟩) hL h1 h2)
  · exact h.elim
theorem pb_s_pop {x : pb_E} {m n0 : Nat} {Q : pb_P} {pc : Nat} {k : pb_K} (hd : decode (pb_code m) pc = .ok (.pop, 1)) (hk : pb_le k (pb_WJ x m n0 Q (pc + 1))) : pb_le (pb_pop k) (pb_WJ x m n0 Q pc) := by
  intro L S n σ h p e R Z s mm args below meth c H locs cells slots ls hR hZ hC hI hl hS hL h1 h2
  unfold pb_pop at h
  split at h
  · exact lv_pop hC.1 hC.2.1 hd (pb_e_cat _ _) (hk L _ n σ h p e R Z s mm args below meth c H locs cells slots ls hR hZ hC hI hl (List.forall_mem_cons.mp hS).2 hL h1 h2)
  · exact h.elim
theorem pb_s_dup_x1 {x : pb_E} {m n0 : Nat} {Q : pb_P} {pc : Nat} {k : pb_K} (hd : decode (pb_code m) pc = .ok (.dup_x1, 1)) (hk : pb_le k (pb_WJ x m n0 Q (pc + 1))) : pb_le (pb_dup_x1 k) (pb_WJ x m n0 Q pc) := by
  intro L S n σ h p e R Z s mm args below meth c H locs cells slots ls hR hZ hC hI hl hS hL h1 h2
  unfold pb_dup_x1 at h
  split at h
  · obtain ⟨g1, g2⟩ := List.forall_mem_cons.mp hS
    obtain ⟨g2, g3⟩ := List.forall_mem_cons.mp g2
    exact lv_dup_x1 hC.1 hC.2.1 hd (pb_e_cat _ _) (pb_e_cat _ _) (hk L _ n σ h p e R Z s mm args below meth c H locs cells slots ls hR hZ hC hI hl (List.forall_mem_cons.mpr ⟨g1, List.forall_mem_cons.mpr ⟨g2, List.forall_mem_cons.mpr ⟨g1, g3⟩⟩⟩) hL h1 h2)
  · exact h.elim
theorem pb_s_dup_x2 {x : pb_E} {m n0 : Nat} {Q : pb_P} {pc : Nat} {k : pb_K} (hd : decode (pb_code m) pc = .ok (.dup_x2, 1)) (hk : pb_le k (pb_WJ x m n0 Q (pc + 1))) : pb_le (pb_dup_x2 k) (pb_WJ x m n0 Q pc) := by
  intro L S n σ h p e R Z s mm args below meth c H locs cells slots ls hR hZ hC hI hl hS hL h1 h2
  unfold pb_dup_x2 at h
  split at h
  · obtain ⟨g1, g2⟩ := List.forall_mem_cons.mp hS
    obtain ⟨g2, g3⟩ := List.forall_mem_cons.mp g2
    obtain ⟨g3, g4⟩ := List.forall_mem_cons.mp g3
    exact lv_dup_x2 hC.1 hC.2.1 hd (pb_e_cat _ _) (pb_e_cat _ _) (pb_e_cat _ _) (hk L _ n σ h p e R Z s mm args below meth c H locs cells slots ls hR hZ hC hI hl (List.forall_mem_cons.mpr ⟨g1, List.forall_mem_cons.mpr ⟨g2, List.forall_mem_cons.mpr ⟨g3, List.forall_mem_cons.mpr ⟨g1, g4⟩⟩⟩⟩) hL h1 h2)
  · exact h.elim
theorem pb_s_dup2 {x : pb_E} {m n0 : Nat} {Q : pb_P} {pc : Nat} {k : pb_K} (hd : decode (pb_code m) pc = .ok (.dup2, 1)) (hk : pb_le k (pb_WJ x m n0 Q (pc + 1))) : pb_le (pb_dup2 k) (pb_WJ x m n0 Q pc) := by
  intro L S n σ h p e R Z s mm args below meth c H locs cells slots ls hR hZ hC hI hl hS hL h1 h2
  unfold pb_dup2 at h
  split at h
  · obtain ⟨g1, g2⟩ := List.forall_mem_cons.mp hS
    obtain ⟨g2, g3⟩ := List.forall_mem_cons.mp g2
    exact lv_dup2_11 hC.1 hC.2.1 hd (pb_e_cat _ _) (pb_e_cat _ _) (hk L _ n σ h p e R Z s mm args below meth c H locs cells slots ls hR hZ hC hI hl (List.forall_mem_cons.mpr ⟨g1, List.forall_mem_cons.mpr ⟨g2, List.forall_mem_cons.mpr ⟨g1, List.forall_mem_cons.mpr ⟨g2, g3⟩⟩⟩⟩) hL h1 h2)
  · exact h.elim
theorem pb_s_if_eq {x : pb_E} {m n0 : Nat} {Q : pb_P} {pc : Nat} {off : Int} {tgt : Nat} {kt kf : pb_K} (hd : decode (pb_code m) pc = .ok (.ifCond .eq off, 3)) (ht : (pc : Int) + off = (tgt : Int)) (hkt : pb_le kt (pb_WJ x m n0 Q tgt)) (hkf : pb_le kf (pb_WJ x m n0 Q (pc + 3))) : pb_le (pb_if (fun y => y = 0) kt kf) (pb_WJ x m n0 Q pc) := by
  intro L S n σ h p e R Z s mm args below meth c H locs cells slots ls hR hZ hC hI hl hS hL h1 h2
  unfold pb_if at h
  split at h
  · obtain ⟨hy, hS'⟩ := List.forall_mem_cons.mp hS
    exact lv_if_eq hC.1 hC.2.1 hd ht (fun q => hkt L _ n σ (h.1 ((pb_eq0 hy).mp q)) p e R Z s mm args below meth c H locs cells slots ls hR hZ hC hI hl hS' hL h1 h2) (fun q => hkf L _ n σ (h.2 (fun r => q ((pb_eq0 hy).mpr r))) p e R Z s mm args below meth c H locs cells slots ls hR hZ hC hI hl hS' hL h1 h2)
  · exact h.elim
theorem pb_s_icmp_eq {x : pb_E} {m n0 : Nat} {Q : pb_P} {pc : Nat} {off : Int} {tgt : Nat} {kt kf : pb_K} (hd : decode (pb_code m) pc = .ok (.if_icmp .eq off, 3)) (ht : (pc : Int) + off = (tgt : Int)) (hkt : pb_le kt (pb_WJ x m n0 Q tgt)) (hkf : pb_le kf (pb_WJ x m n0 Q (pc + 3))) : pb_le (pb_icmp (fun y z => y = z) kt kf) (pb_WJ x m n0 Q pc) := by
  intro L S n σ h p e R Z s mm args below meth c H locs cells slots ls hR hZ hC hI hl hS hL h1 h2
  unfold pb_icmp at h
  split at h
  · obtain ⟨hz, hS'⟩ := List.forall_mem_cons.mp hS
    obtain ⟨hy, hS'⟩ := List.forall_mem_cons.mp hS'
    exact lv_icmp_eq hC.1 hC.2.1 hd ht (fun q => hkt L _ n σ (h.1 ((pb_eqI hy hz).mp q)) p e R Z s mm args below meth c H locs cells slots ls hR hZ hC hI hl hS' hL h1 h2) (fun q => hkf L _ n σ (h.2 (fun r => q ((pb_eqI hy hz).mpr r))) p e R Z s mm args below meth c H locs cells slots ls hR hZ hC hI hl hS' hL h1 h2)
  · exact h.elim
theorem pb_s_if_ne {x : pb_E} {m n0 : Nat} {Q : pb_P} {pc : Nat} {off : Int} {tgt : Nat} {kt kf : pb_K} (hd : decode (pb_code m) pc = .ok (.ifCond .ne off, 3)) (ht : (pc : Int) + off = (tgt : Int)) (hkt : pb_le kt (pb_WJ x m n0 Q tgt)) (hkf : pb_le kf (pb_WJ x m n0 Q (pc + 3))) : pb_le (pb_if (fun y => ¬ y = 0) kt kf) (pb_WJ x m n0 Q pc) := by
  intro L S n σ h p e R Z s mm args below meth c H locs cells slots ls hR hZ hC hI hl hS hL h1 h2
  unfold pb_if at h
  split at h
  · obtain ⟨hy, hS'⟩ := List.forall_mem_cons.mp hS
    exact lv_if_ne hC.1 hC.2.1 hd ht (fun q => hkt L _ n σ (h.1 ((not_congr (pb_eq0 hy)).mp q)) p e R Z s mm args below meth c H locs cells slots ls hR hZ hC hI hl hS' hL h1 h2) (fun q => hkf L _ n σ (h.2 (fun r => r ((pb_eq0 hy).mp q))) p e R Z s mm args below meth c H locs cells slots ls hR hZ hC hI hl hS' hL h1 h2)
  · exact h.elim
theorem pb_s_icmp_ne {x : pb_E} {m n0 : Nat} {Q : pb_P} {pc : Nat} {off : Int} {tgt : Nat} {kt kf : pb_K} (hd : decode (pb_code m) pc = .ok (.if_icmp .ne off, 3)) (ht : (pc : Int) + off = (tgt : Int)) (hkt : pb_le kt (pb_WJ x m n0 Q tgt)) (hkf : pb_le kf (pb_WJ x m n0 Q (pc + 3))) : pb_le (pb_icmp (fun y z => ¬ y = z) kt kf) (pb_WJ x m n0 Q pc) := by
  intro L S n σ h p e R Z s mm args below meth c H locs cells slots ls hR hZ hC hI hl hS hL h1 h2
  unfold pb_icmp at h
  split at h
  · obtain ⟨hz, hS'⟩ := List.forall_mem_cons.mp hS
    obtain ⟨hy, hS'⟩ := List.forall_mem_cons.mp hS'
    exact lv_icmp_ne hC.1 hC.2.1 hd ht (fun q => hkt L _ n σ (h.1 ((not_congr (pb_eqI hy hz)).mp q)) p e R Z s mm args below meth c H locs cells slots ls hR hZ hC hI hl hS' hL h1 h2) (fun q => hkf L _ n σ (h.2 (fun r => r ((pb_eqI hy hz).mp q))) p e R Z s mm args below meth c H locs cells slots ls hR hZ hC hI hl hS' hL h1 h2)
  · exact h.elim
theorem pb_s_if_lt {x : pb_E} {m n0 : Nat} {Q : pb_P} {pc : Nat} {off : Int} {tgt : Nat} {kt kf : pb_K} (hd : decode (pb_code m) pc = .ok (.ifCond .lt off, 3)) (ht : (pc : Int) + off = (tgt : Int)) (hkt : pb_le kt (pb_WJ x m n0 Q tgt)) (hkf : pb_le kf (pb_WJ x m n0 Q (pc + 3))) : pb_le (pb_if (fun y => y < 0) kt kf) (pb_WJ x m n0 Q pc) := by
  intro L S n σ h p e R Z s mm args below meth c H locs cells slots ls hR hZ hC hI hl hS hL h1 h2
  unfold pb_if at h
  split at h
  · obtain ⟨hy, hS'⟩ := List.forall_mem_cons.mp hS
    exact lv_if_lt hC.1 hC.2.1 hd ht (fun q => hkt L _ n σ (h.1 ((pb_lt0 hy).mp q)) p e R Z s mm args below meth c H locs cells slots ls hR hZ hC hI hl hS' hL h1 h2) (fun q => hkf L _ n σ (h.2 (fun r => q ((pb_lt0 hy).mpr r))) p e R Z s mm args below meth c H locs cells slots ls hR hZ hC hI hl hS' hL h1 h2)
  · exact h.elim
theorem pb_s_icmp_lt {x : pb_E} {m n0 : Nat} {Q : pb_P} {pc : Nat} {off : Int} {tgt : Nat} {kt kf : pb_K} (hd : decode (pb_code m) pc = .ok (.if_icmp .lt off, 3)) (ht : (pc : Int) + off = (tgt : Int)) (hkt : pb_le kt (pb_WJ x m n0 Q tgt)) (hkf : pb_le kf (pb_WJ x m n0 Q (pc + 3))) : pb_le (pb_icmp (fun y z => y < z) kt kf) (pb_WJ x m n0 Q pc) := by
  intro L S n σ h p e R Z s mm args below meth c H locs cells slots ls hR hZ hC hI hl hS hL h1 h2
  unfold pb_icmp at h
  split at h
  · obtain ⟨hz, hS'⟩ := List.forall_mem_cons.mp hS
    obtain ⟨hy, hS'⟩ := List.forall_mem_cons.mp hS'
    exact lv_icmp_lt hC.1 hC.2.1 hd ht (fun q => hkt L _ n σ (h.1 ((pb_ltI hy hz).mp q)) p e R Z s mm args below meth c H locs cells slots ls hR hZ hC hI hl hS' hL h1 h2) (fun q => hkf L _ n σ (h.2 (fun r => q ((pb_ltI hy hz).mpr r))) p e R Z s mm args below meth c H locs cells slots ls hR hZ hC hI hl hS' hL h1 h2)
  · exact h.elim
theorem pb_s_if_ge {x : pb_E} {m n0 : Nat} {Q : pb_P} {pc : Nat} {off : Int} {tgt : Nat} {kt kf : pb_K} (hd : decode (pb_code m) pc = .ok (.ifCond .ge off, 3)) (ht : (pc : Int) + off = (tgt : Int)) (hkt : pb_le kt (pb_WJ x m n0 Q tgt)) (hkf : pb_le kf (pb_WJ x m n0 Q (pc + 3))) : pb_le (pb_if (fun y => 0 ≤ y) kt kf) (pb_WJ x m n0 Q pc) := by
  intro L S n σ h p e R Z s mm args below meth c H locs cells slots ls hR hZ hC hI hl hS hL h1 h2
  unfold pb_if at h
  split at h
  · obtain ⟨hy, hS'⟩ := List.forall_mem_cons.mp hS
    exact lv_if_ge hC.1 hC.2.1 hd ht (fun q => hkt L _ n σ (h.1 ((pb_ge0 hy).mp q)) p e R Z s mm args below meth c H locs cells slots ls hR hZ hC hI hl hS' hL h1 h2) (fun q => hkf L _ n σ (h.2 (fun r => q ((pb_ge0 hy).mpr r))) p e R Z s mm args below meth c H locs cells slots ls hR hZ hC hI hl hS' hL h1 h2)
  · exact h.elim
theorem pb_s_icmp_ge {x : pb_E} {m n0 : Nat} {Q : pb_P} {pc : Nat} {off : Int} {tgt : Nat} {kt kf : pb_K} (hd : decode (pb_code m) pc = .ok (.if_icmp .ge off, 3)) (ht : (pc : Int) + off = (tgt : Int)) (hkt : pb_le kt (pb_WJ x m n0 Q tgt)) (hkf : pb_le kf (pb_WJ x m n0 Q (pc + 3))) : pb_le (pb_icmp (fun y z => z ≤ y) kt kf) (pb_WJ x m n0 Q pc) := by
  intro L S n σ h p e R Z s mm args below meth c H locs cells slots ls hR hZ hC hI hl hS hL h1 h2
  unfold pb_icmp at h
  split at h
  · obtain ⟨hz, hS'⟩ := List.forall_mem_cons.mp hS
    obtain ⟨hy, hS'⟩ := List.forall_mem_cons.mp hS'
    exact lv_icmp_ge hC.1 hC.2.1 hd ht (fun q => hkt L _ n σ (h.1 ((pb_leI hz hy).mp q)) p e R Z s mm args below meth c H locs cells slots ls hR hZ hC hI hl hS' hL h1 h2) (fun q => hkf L _ n σ (h.2 (fun r => q ((pb_leI hz hy).mpr r))) p e R Z s mm args below meth c H locs cells slots ls hR hZ hC hI hl hS' hL h1 h2)
  · exact h.elim
theorem pb_s_if_gt {x : pb_E} {m n0 : Nat} {Q : pb_P} {pc : Nat} {off : Int} {tgt : Nat} {kt kf : pb_K} (hd : decode (pb_code m) pc = .ok (.ifCond .gt off, 3)) (ht : (pc : Int) + off = (tgt : Int)) (hkt : pb_le kt (pb_WJ x m n0 Q tgt)) (hkf : pb_le kf (pb_WJ x m n0 Q (pc + 3))) : pb_le (pb_if (fun y => 0 < y) kt kf) (pb_WJ x m n0 Q pc) := by
  intro L S n σ h p e R Z s mm args below meth c H locs cells slots ls hR hZ hC hI hl hS hL h1 h2
  unfold pb_if at h
  split at h
  · obtain ⟨hy, hS'⟩ := List.forall_mem_cons.mp hS
    exact lv_if_gt hC.1 hC.2.1 hd ht (fun q => hkt L _ n σ (h.1 ((pb_gt0 hy).mp q)) p e R Z s mm args below meth c H locs cells slots ls hR hZ hC hI hl hS' hL h1 h2) (fun q => hkf L _ n σ (h.2 (fun r => q ((pb_gt0 hy).mpr r))) p e R Z s mm args below meth c H locs cells slots ls hR hZ hC hI hl hS' hL h1 h2)
  · exact h.elim
theorem pb_s_icmp_gt {x : pb_E} {m n0 : Nat} {Q : pb_P} {pc : Nat} {off : Int} {tgt : Nat} {kt kf : pb_K} (hd : decode (pb_code m) pc = .ok (.if_icmp .gt off, 3)) (ht : (pc : Int) + off = (tgt : Int)) (hkt : pb_le kt (pb_WJ x m n0 Q tgt)) (hkf : pb_le kf (pb_WJ x m n0 Q (pc + 3))) : pb_le (pb_icmp (fun y z => z < y) kt kf) (pb_WJ x m n0 Q pc) := by
  intro L S n σ h p e R Z s mm args below meth c H locs cells slots ls hR hZ hC hI hl hS hL h1 h2
  unfold pb_icmp at h
  split at h
  · obtain ⟨hz, hS'⟩ := List.forall_mem_cons.mp hS
    obtain ⟨hy, hS'⟩ := List.forall_mem_cons.mp hS'
    exact lv_icmp_gt hC.1 hC.2.1 hd ht (fun q => hkt L _ n σ (h.1 ((pb_ltI hz hy).mp q)) p e R Z s mm args below meth c H locs cells slots ls hR hZ hC hI hl hS' hL h1 h2) (fun q => hkf L _ n σ (h.2 (fun r => q ((pb_ltI hz hy).mpr r))) p e R Z s mm args below meth c H locs cells slots ls hR hZ hC hI hl hS' hL h1 h2)
  · exact h.elim
theorem pb_s_if_le {x : pb_E} {m n0 : Nat} {Q : pb_P} {pc : Nat} {off : Int} {tgt : Nat} {kt kf : pb_K} (hd : decode (pb_code m) pc = .ok (.ifCond .le off, 3)) (ht : (pc : Int) + off = (tgt : Int)) (hkt : pb_le kt (pb_WJ x m n0 Q tgt)) (hkf : pb_le kf (pb_WJ x m n0 Q (pc + 3))) : pb_le (pb_if (fun y => y ≤ 0) kt kf) (pb_WJ x m n0 Q pc) := by
  intro L S n σ h p e R Z s mm args below meth c H locs cells slots ls hR hZ hC hI hl hS hL h1 h2
  unfold pb_if at h
  split at h
  · obtain ⟨hy, hS'⟩ := List.forall_mem_cons.mp hS
    exact lv_if_le hC.1 hC.2.1 hd ht (fun q => hkt L _ n σ (h.1 ((pb_le0 hy).mp q)) p e R Z s mm args below meth c H locs cells slots ls hR hZ hC hI hl hS' hL h1 h2) (fun q => hkf L _ n σ (h.2 (fun r => q ((pb_le0 hy).mpr r))) p e R Z s mm args below meth c H locs cells slots ls hR hZ hC hI hl hS' hL h1 h2)
  · exact h.elim
theorem pb_s_icmp_le {x : pb_E} {m n0 : Nat} {Q : pb_P} {pc : Nat} {off : Int} {tgt : Nat} {kt kf : pb_K} (hd : decode (pb_code m) pc = .ok (.if_icmp .le off, 3)) (ht : (pc : Int) + off = (tgt : Int)) (hkt : pb_le kt (pb_WJ x m n0 Q tgt)) (hkf : pb_le kf (pb_WJ x m n0 Q (pc + 3))) : pb_le (pb_icmp (fun y z => y ≤ z) kt kf) (pb_WJ x m n0 Q pc) := by
  intro L S n σ h p e R Z s mm args below meth c H locs cells slots ls hR hZ hC hI hl hS hL h1 h2
  unfold pb_icmp at h
  split at h
  · obtain ⟨hz, hS'⟩ := List.forall_mem_cons.mp hS
    obtain ⟨hy, hS'⟩ := List.forall_mem_cons.mp hS'
    exact lv_icmp_le hC.1 hC.2.1 hd ht (fun q => hkt L _ n σ (h.1 ((pb_leI hy hz).mp q)) p e R Z s mm args below meth c H locs cells slots ls hR hZ hC hI hl hS' hL h1 h2) (fun q => hkf L _ n σ (h.2 (fun r => q ((pb_leI hy hz).mpr r))) p e R Z s mm args below meth c H locs cells slots ls hR hZ hC hI hl hS' hL h1 h2)
  · exact h.elim
theorem pb_s_goto {x : pb_E} {m n0 : Nat} {Q : pb_P} {pc : Nat} {off : Int} {tgt : Nat} {k : pb_K} (hd : decode (pb_code m) pc = .ok (.goto off, 3)) (ht : (pc : Int) + off = (tgt : Int)) (hk : pb_le k (pb_WJ x m n0 Q tgt)) : pb_le (k) (pb_WJ x m n0 Q pc) := by
  intro L S n σ h p e R Z s mm args below meth c H locs cells slots ls hR hZ hC hI hl hS hL h1 h2
  exact lv_goto hC.1 hC.2.1 hd ht (hk L _ n σ h p e R Z s mm args below meth c H locs cells slots ls hR hZ hC hI hl hS hL h1 h2)
theorem pb_s_ifnull {x : pb_E} {m n0 : Nat} {Q : pb_P} {pc : Nat} {off : Int} {tgt : Nat} {kt kf : pb_K} (hd : decode (pb_code m) pc = .ok (.ifnull off, 3)) (ht : (pc : Int) + off = (tgt : Int)) (hkt : pb_le kt (pb_WJ x m n0 Q tgt)) (hkf : pb_le kf (pb_WJ x m n0 Q (pc + 3))) : pb_le (pb_ifnull kt kf) (pb_WJ x m n0 Q pc) := by
  intro L S n σ h p e R Z s mm args below meth c H locs cells slots ls hR hZ hC hI hl hS hL h1 h2
  unfold pb_ifnull at h
  split at h
  · rename_i y S'
    obtain ⟨hy, hS'⟩ := List.forall_mem_cons.mp hS
    rw [List.map_cons]
    by_cases hn : y < 0
    · rw [pb_e_neg hn]
      exact lv_ifnullN hC.1 hC.2.1 hd ht (hkt L _ n σ (h.1 hn) p e R Z s mm args below meth c H locs cells slots ls hR hZ hC hI hl hS' hL h1 h2)
    · rw [pb_e_ref hn]
      exact lv_ifnull hC.1 hC.2.1 hd (hkf L _ n σ (h.2 hn) p e R Z s mm args below meth c H locs cells slots ls hR hZ hC hI hl hS' hL h1 h2)
  · exact h.elim
theorem pb_s_ifnonnull {x : pb_E} {m n0 : Nat} {Q : pb_P} {pc : Nat} {off : Int} {tgt : Nat} {kt kf : pb_K} (hd : decode (pb_code m) pc = .ok (.ifnonnull off, 3)) (ht : (pc : Int) + off = (tgt : Int)) (hkt : pb_le kt (pb_WJ x m n0 Q tgt)) (hkf : pb_le kf (pb_WJ x m n0 Q (pc + 3))) : pb_le (pb_ifnull kf kt) (pb_WJ x m n0 Q pc) := by
  intro L S n σ h p e R Z s mm args below meth c H locs cells slots ls hR hZ hC hI hl hS hL h1 h2
  unfold pb_ifnull at h
  split at h
  · rename_i y S'
    obtain ⟨hy, hS'⟩ := List.forall_mem_cons.mp hS
    rw [List.map_cons]
    by_cases hn : y < 0
    · rw [pb_e_neg hn]
      exact lv_ifnonnullN hC.1 hC.2.1 hd (hkf L _ n σ (h.1 hn) p e R Z s mm args below meth c H locs cells slots ls hR hZ hC hI hl hS' hL h1 h2)
    · rw [pb_e_ref hn]
      exact lv_ifnonnull hC.1 hC.2.1 hd ht (hkt L _ n σ (h.2 hn) p e R Z s mm args below meth c H locs cells slots ls hR hZ hC hI hl hS' hL h1 h2)
  · exact h.elim
end
section
/-! fields -/
def pb_fd (ci k f t : Nat) (cn fn ds : String) (fin : Bool) (ty : FieldType) : Prop :=
  ∃ (C : String) (T : u_T) (ty0 : Nat → FieldType), pb_cl[ci]? = some (C, T, pb_N ci) ∧ (∀ w ∈ u_ws C T (pb_N ci), w ∈ pb_ALL) ∧ (∀ k, k < pb_N ci → parseFieldDescriptor (T k).2.2.1 = some (ty0 k)) ∧ (∀ a, a < pb_N ci → ∀ b, b < pb_N ci → a ≠ b → (T a).2.1 ≠ (T b).2.1) ∧ T k = (cn, fn, ds, fin) ∧ k < pb_N ci ∧ ci < 100 ∧ pb_N ci ≤ 100 ∧ f = 1 + 100 * ci + k ∧ pb_ft ci k = t ∧ parseFieldDescriptor ds = some ty
section PBF
variable {x : pb_E} {m n0 : Nat} {Q : pb_P} {pc : Nat}
variable {p : Program} {e : Env} {R : Room} {s : State} {mm : MethodId} {args : Array Value} {below : List Frame} {meth : Method} {c : Code} {H : Heap} {locs : List Loc} {cells slots : Nat} {ls : Array Slot} {Qs : State → Prop}
variable {ci k0 f t idx n : Nat} {cn fn ds : String} {fin : Bool} {ty : FieldType} {σ : pb_H} {q z : Int} {rest : List Value}
theorem pb_getW (hC : pb_Cx p s mm args meth c m) (hI : pb_In x s H n σ locs) (hd : decode (pb_code m) pc = .ok (.getfield idx, 3)) (hF : pb_fd ci k0 f t cn fn ds fin ty) (hlink : Cond.fieldLink (pb_y m).cls idx cn fn ds ∈ pb_ALL) (hq : pb_is ci n q)
    (kk : W p x.1 e R s mm args below meth c H locs cells slots Qs (F0 mm (pc + 3) ls (pb_c x t (σ f q 0) :: rest))) : W p x.1 e R s mm args below meth c H locs cells slots Qs (F0 mm pc ls (pb_e x (.inr q) :: rest)) := by
  obtain ⟨g0, g1, g2⟩ := hq
  obtain ⟨j, rfl⟩ := Int.eq_ofNat_of_zero_le g0
  obtain ⟨C, T, ty0, a1, a2, a3, a4, a5, a6, a7, a8, rfl, rfl, a11⟩ := hF
  have hj : j < n := by omega
  have hn9 := hI.2.2.2.1.2.1
  rw [pb_e_pos (by omega)]
  have hts := hC.2.2.2.2.1
  refine va_get (ref := cn) hC.1 hC.2.1 hts a2 hC.2.2.2.1 hI.1 hI.2.1 j ((pb_ws_at hj).trans (by rw [pb_cell_obj g2 a7])) a1 k0 a6 (by rw [a5]; exact hts _ hlink) (fun _ h9 => by rw [a5] at h9 ⊢; exact h9) ?_ hd kk
  rw [List.getElem?_map, List.getElem?_range a6]
  rfl
theorem pb_upR (hR : ∀ f p i, pb_R (σ f p i)) (hz : pb_R z) (f : Nat) (q i : Int) : ∀ f' p' i', pb_R (pb_up σ f q i z f' p' i') := by
  intro f' p' i'
  unfold pb_up
  split
  · exact hz
  · exact hR _ _ _
theorem pb_putW (hC : pb_Cx p s mm args meth c m) (hI : pb_In x s H n σ locs) (hd : decode (pb_code m) pc = .ok (.putfield idx, 3)) (hF : pb_fd ci k0 f t cn fn ds fin ty) (hlink : Cond.fieldLink (pb_y m).cls idx cn fn ds ∈ pb_ALL) (hq : pb_is ci n q) (hz : pb_R z)
    (hfin : fin = false ∨ (fin = true ∧ (pb_y m).name = "<init>" ∧ cn = (pb_y m).cls)) (hn : narrow ty (pb_c x t z) = pb_c x t z) (hfit : fits ty (pb_c x t z) = true)
    (kk : ∀ (H1 : Heap) (locs1 : List Loc), pb_In x s H1 n (pb_up σ f q 0 z) locs1 → W p x.1 e R s mm args below meth c H1 locs1 cells slots Qs (F0 mm (pc + 3) ls rest)) : W p x.1 e R s mm args below meth c H locs cells slots Qs (F0 mm pc ls (pb_c x t z :: pb_e x (.inr q) :: rest)) := by
  obtain ⟨g0, g1, g2⟩ := hq
  obtain ⟨j, rfl⟩ := Int.eq_ofNat_of_zero_le g0
  obtain ⟨C, T, ty0, a1, a2, a3, a4, a5, a6, a7, a8, rfl, rfl, a11⟩ := hF
  have hj : j < n := by omega
  have hn9 := hI.2.2.2.1.2.1
  rw [pb_e_pos (by omega)]
  have hts := hC.2.2.2.2.1
  have hset : (pb_ws x n σ).set j (x.2.2.2.1 + j, .inr (ci, ((List.range (pb_N ci)).map (fun k => pb_c x (pb_ft ci k) (σ (1 + 100 * ci + k) j 0))).set k0 (pb_c x (pb_ft ci k0) z))) = pb_ws x n (pb_up σ (1 + 100 * ci + k0) j 0 z) :=
    pb_ws_set hj (fun i hi => pb_cell_other (by omega)) rfl (pb_cell_putF g2 a7 a6 a8).symm
  have go : ∀ (H1 : Heap) (locs1 : List Loc), va_P x.2.1 pb_cl ((pb_ws x n σ).set j (x.2.2.2.1 + j, .inr (ci, ((List.range (pb_N ci)).map (fun k => pb_c x (pb_ft ci k) (σ (1 + 100 * ci + k) j 0))).set k0 (pb_c x (pb_ft ci k0) z)))) H1 → va_S (fun q => x.2.2.2.1 ≤ q) s.heap H1 locs1 → W p x.1 e R s mm args below meth c H1 locs1 cells slots Qs (F0 mm (pc + 3) ls rest) := by
    intro H1 locs1 hP1 hS1
    rw [hset] at hP1
    exact kk H1 locs1 ⟨hI.1, hP1, hS1, hI.2.2.2.1, pb_upR hI.2.2.2.2 hz _ _ _⟩
  have hat : (pb_ws x n σ)[j]? = some (x.2.2.2.1 + j, .inr (ci, (List.range (pb_N ci)).map (fun k => pb_c x (pb_ft ci k) (σ (1 + 100 * ci + k) j 0)))) := (pb_ws_at hj).trans (by rw [pb_cell_obj g2 a7])
  rcases hfin with rfl | ⟨rfl, h3, h4⟩
  · exact va_put (ref := cn) hC.1 hC.2.1 hts a2 ty0 a3 a4 hC.2.2.2.1 hI.1 hI.2.1 pb_D hI.2.2.1 j hat a1 k0 a6 (by rw [a5]; exact hts _ hlink) (fun _ h9 => by rw [a5] at h9 ⊢; exact h9) (by rw [a5]) (by rw [a5]; exact a11) hn hfit (by simpa using a6) hd (fun H1 locs1 hP1 _ hS1 => go H1 locs1 hP1 hS1)
  · exact va_putF (ref := cn) hC.1 hC.2.1 hts a2 ty0 a3 a4 hC.2.2.2.1 hI.1 hI.2.1 pb_D hI.2.2.1 j hat a1 k0 a6 (by rw [a5]; exact hts _ hlink) (fun _ h9 => by rw [a5] at h9 ⊢; exact h9) (by rw [a5]) (hC.2.2.2.2.2.2.2.trans h3) (by rw [a5]; exact h4) (by rw [a5]; exact a11) hn hfit (by simpa using a6) hd (fun H1 locs1 hP1 _ hS1 => go H1 locs1 hP1 hS1)
end PBF
section PBG
variable {x : pb_E} {m n0 : Nat} {Q : pb_P} {pc : Nat} {ci k0 f t idx : Nat} {cn fn ds : String} {fin : Bool} {ty : FieldType} {k : pb_K}
theorem pb_s_getI (hd : decode (pb_code m) pc = .ok (.getfield idx, 3)) (hF : pb_fd ci k0 f t cn fn ds fin ty) (ht : t ≠ 2) (hlink : Cond.fieldLink (pb_y m).cls idx cn fn ds ∈ pb_ALL) (hk : pb_le k (pb_WJ x m n0 Q (pc + 3))) : pb_le (pb_getI ci f k) (pb_WJ x m n0 Q pc) := by
  intro L S n σ h p e R Z s mm args below meth c H locs cells slots ls hR hZ hC hI hl hS hL h1 h2
  unfold pb_getI at h
  split at h
  · obtain ⟨-, hS'⟩ := List.forall_mem_cons.mp hS
    have hw := hk L _ n σ h.2 p e R Z s mm args below meth c H locs cells slots ls hR hZ hC hI hl (List.forall_mem_cons.mpr ⟨hI.2.2.2.2 _ _ _, hS'⟩) hL h1 h2
    refine pb_getW hC hI hd hF hlink h.1 ?_
    have e9 : ∀ z, pb_c x t z = pb_e x (.inl z) := fun z => by simp [pb_c, ht, pb_e]
    rw [e9]
    exact hw
  · exact h.elim
theorem pb_s_getR (hd : decode (pb_code m) pc = .ok (.getfield idx, 3)) (hF : pb_fd ci k0 f 2 cn fn ds fin ty) (hlink : Cond.fieldLink (pb_y m).cls idx cn fn ds ∈ pb_ALL) (hk : pb_le k (pb_WJ x m n0 Q (pc + 3))) : pb_le (pb_getR ci f k) (pb_WJ x m n0 Q pc) := by
  intro L S n σ h p e R Z s mm args below meth c H locs cells slots ls hR hZ hC hI hl hS hL h1 h2
  unfold pb_getR at h
  split at h
  · obtain ⟨-, hS'⟩ := List.forall_mem_cons.mp hS
    have hw := hk L _ n σ h.2 p e R Z s mm args below meth c H locs cells slots ls hR hZ hC hI hl (List.forall_mem_cons.mpr ⟨hI.2.2.2.2 _ _ _, hS'⟩) hL h1 h2
    exact pb_getW hC hI hd hF hlink h.1 hw
  · exact h.elim
theorem pb_s_putI (hd : decode (pb_code m) pc = .ok (.putfield idx, 3)) (hF : pb_fd ci k0 f 0 cn fn ds fin .int) (hfin : fin = false ∨ (fin = true ∧ (pb_y m).name = "<init>" ∧ cn = (pb_y m).cls)) (hlink : Cond.fieldLink (pb_y m).cls idx cn fn ds ∈ pb_ALL) (hk : pb_le k (pb_WJ x m n0 Q (pc + 3))) : pb_le (pb_putI ci f k) (pb_WJ x m n0 Q pc) := by
  intro L S n σ h p e R Z s mm args below meth c H locs cells slots ls hR hZ hC hI hl hS hL h1 h2
  unfold pb_putI at h
  split at h
  · obtain ⟨hz, hS'⟩ := List.forall_mem_cons.mp hS
    obtain ⟨-, hS'⟩ := List.forall_mem_cons.mp hS'
    exact pb_putW hC hI hd hF hlink h.1 hz hfin rfl rfl (fun H1 locs1 hI1 => hk L _ n _ h.2 p e R Z s mm args below meth c H1 locs1 cells slots ls hR hZ hC hI1 hl hS' hL h1 h2)
  · exact h.elim
theorem pb_s_putZ (hd : decode (pb_code m) pc = .ok (.putfield idx, 3)) (hF : pb_fd ci k0 f 1 cn fn ds fin .boolean) (hfin : fin = false ∨ (fin = true ∧ (pb_y m).name = "<init>" ∧ cn = (pb_y m).cls)) (hlink : Cond.fieldLink (pb_y m).cls idx cn fn ds ∈ pb_ALL) (hk : pb_le k (pb_WJ x m n0 Q (pc + 3))) : pb_le (pb_putZ ci f k) (pb_WJ x m n0 Q pc) := by
  intro L S n σ h p e R Z s mm args below meth c H locs cells slots ls hR hZ hC hI hl hS hL h1 h2
  unfold pb_putZ at h
  split at h
  · obtain ⟨hz, hS'⟩ := List.forall_mem_cons.mp hS
    obtain ⟨-, hS'⟩ := List.forall_mem_cons.mp hS'
    refine pb_putW hC hI hd hF hlink h.1 hz hfin ?_ ?_ (fun H1 locs1 hI1 => hk L _ n _ h.2.2 p e R Z s mm args below meth c H1 locs1 cells slots ls hR hZ hC hI1 hl hS' hL h1 h2)
    · rcases h.2.1 with rfl | rfl <;> rfl
    · rcases h.2.1 with rfl | rfl <;> rfl
  · exact h.elim
theorem pb_s_putR (hd : decode (pb_code m) pc = .ok (.putfield idx, 3)) (hF : pb_fd ci k0 f 2 cn fn ds fin ty) (hty : (∃ C, ty = .object C) ∨ ∃ t, ty = .array t) (hfin : fin = false ∨ (fin = true ∧ (pb_y m).name = "<init>" ∧ cn = (pb_y m).cls)) (hlink : Cond.fieldLink (pb_y m).cls idx cn fn ds ∈ pb_ALL) (hk : pb_le k (pb_WJ x m n0 Q (pc + 3))) : pb_le (pb_putR ci f k) (pb_WJ x m n0 Q pc) := by
  intro L S n σ h p e R Z s mm args below meth c H locs cells slots ls hR hZ hC hI hl hS hL h1 h2
  unfold pb_putR at h
  split at h
  · rename_i v q S'
    obtain ⟨hz, hS'⟩ := List.forall_mem_cons.mp hS
    obtain ⟨-, hS'⟩ := List.forall_mem_cons.mp hS'
    refine pb_putW (t := 2) hC hI hd hF hlink h.1 hz hfin ?_ ?_ (fun H1 locs1 hI1 => hk L _ n _ h.2 p e R Z s mm args below meth c H1 locs1 cells slots ls hR hZ hC hI1 hl hS' hL h1 h2)
    · show narrow ty (pb_e _ (.inr v)) = pb_e _ (.inr v)
      rcases hty with ⟨C, rfl⟩ | ⟨t, rfl⟩ <;> rcases pb_e_isref x v with h9 | ⟨a, h9⟩ <;> rw [h9] <;> rfl
    · show fits ty (pb_e _ (.inr v)) = true
      rcases hty with ⟨C, rfl⟩ | ⟨t, rfl⟩ <;> rcases pb_e_isref x v with h9 | ⟨a, h9⟩ <;> rw [h9] <;> rfl
  · exact h.elim
end PBG
end
section
/-! arrays -/
section PBA
variable {x : pb_E} {m n0 : Nat} {Q : pb_P} {pc : Nat} {k : pb_K}
theorem pb_s_alen {a : Nat} {ty : FieldType} (hd : decode (pb_code m) pc = .ok (.arraylength, 1)) (ha : 100 ≤ a) (ht : ∀ dA : Nat → ClassId, (pb_tys dA)[a - 100]? = some (dA (a - 100), ty)) (hln : ∀ q : Int, pb_R (pb_ln q) ∧ 0 ≤ pb_ln q) (hk : pb_le k (pb_WJ x m n0 Q (pc + 1))) : pb_le (pb_alen a k) (pb_WJ x m n0 Q pc) := by
  intro L S n σ h p e R Z s mm args below meth c H locs cells slots ls hR hZ hC hI hl hS hL h1 h2
  unfold pb_alen at h
  split at h
  · rename_i q S'
    obtain ⟨⟨g0, g1, g2⟩, h⟩ := h
    obtain ⟨j, rfl⟩ := Int.eq_ofNat_of_zero_le g0
    have hn9 := hI.2.2.2.1.2.1
    have hj : j < n := by omega
    obtain ⟨-, hS'⟩ := List.forall_mem_cons.mp hS
    have hw := hk L _ n σ h p e R Z s mm args below meth c H locs cells slots ls hR hZ hC hI hl (List.forall_mem_cons.mpr ⟨(hln _).1, hS'⟩) hL h1 h2
    rw [List.map_cons, pb_e_pos (by omega)]
    rw [List.map_cons] at hw
    have hv : Int32.ofNat (pb_ln j).toNat = Int32.ofInt (pb_ln j) := by
      rw [← Int32.ofInt_eq_ofNat, Int.toNat_of_nonneg (hln _).2]
    by_cases h3 : a < 102
    · exact va_alen hC.1 hC.2.1 hI.1 hI.2.1 j (a - 100) ((pb_ws_at hj).trans (by rw [pb_cell_int g2 ha h3])) (ht _) hv hd hw
    · exact va_alen hC.1 hC.2.1 hI.1 hI.2.1 j (a - 100) ((pb_ws_at hj).trans (by rw [pb_cell_ref g2 (by omega)])) (ht _) hv hd hw
  · exact h.elim
theorem pb_ix {i : Int} {q : Nat} (hi : pb_R i) (h : 0 ≤ i ∧ i < pb_ln q) : vp_in (Int32.ofInt i) (pb_ln q).toNat := pb_inI hi h.1 (by omega)
theorem pb_s_iald (hd : decode (pb_code m) pc = .ok (.iaload, 1)) (hk : pb_le k (pb_WJ x m n0 Q (pc + 1))) : pb_le (pb_ald 100 k) (pb_WJ x m n0 Q pc) := by
  intro L S n σ h p e R Z s mm args below meth c H locs cells slots ls hR hZ hC hI hl hS hL h1 h2
  unfold pb_ald at h
  split at h
  · rename_i i q S'
    obtain ⟨⟨g0, g1, g2⟩, hb, h⟩ := h
    obtain ⟨j, rfl⟩ := Int.eq_ofNat_of_zero_le g0
    have hn9 := hI.2.2.2.1.2.1
    have hj : j < n := by omega
    obtain ⟨hi, hS'⟩ := List.forall_mem_cons.mp hS
    obtain ⟨-, hS'⟩ := List.forall_mem_cons.mp hS'
    have hw := hk L _ n σ h p e R Z s mm args below meth c H locs cells slots ls hR hZ hC hI hl (List.forall_mem_cons.mpr ⟨hI.2.2.2.2 _ _ _, hS'⟩) hL h1 h2
    rw [List.map_cons, List.map_cons, pb_e_pos (by omega)]
    refine va_iald hC.1 hC.2.1 hI.1 hI.2.1 j 0 ((pb_ws_at hj).trans (by rw [pb_cell_int g2 (by omega) (by omega)])) rfl (pb_ix hi hb) hd ?_
    rw [pb_clN hi, Int.toNat_of_nonneg hb.1]
    exact hw
  · exact h.elim
theorem pb_s_zald (hd : decode (pb_code m) pc = .ok (.baload, 1)) (hk : pb_le k (pb_WJ x m n0 Q (pc + 1))) : pb_le (pb_ald 101 k) (pb_WJ x m n0 Q pc) := by
  intro L S n σ h p e R Z s mm args below meth c H locs cells slots ls hR hZ hC hI hl hS hL h1 h2
  unfold pb_ald at h
  split at h
  · rename_i i q S'
    obtain ⟨⟨g0, g1, g2⟩, hb, h⟩ := h
    obtain ⟨j, rfl⟩ := Int.eq_ofNat_of_zero_le g0
    have hn9 := hI.2.2.2.1.2.1
    have hj : j < n := by omega
    obtain ⟨hi, hS'⟩ := List.forall_mem_cons.mp hS
    obtain ⟨-, hS'⟩ := List.forall_mem_cons.mp hS'
    have hw := hk L _ n σ h p e R Z s mm args below meth c H locs cells slots ls hR hZ hC hI hl (List.forall_mem_cons.mpr ⟨hI.2.2.2.2 _ _ _, hS'⟩) hL h1 h2
    rw [List.map_cons, List.map_cons, pb_e_pos (by omega)]
    refine va_zald hC.1 hC.2.1 hI.1 hI.2.1 j 1 ((pb_ws_at hj).trans (by rw [pb_cell_int g2 (by omega) (by omega)])) rfl (pb_ix hi hb) hd ?_
    rw [pb_clN hi, Int.toNat_of_nonneg hb.1]
    exact hw
  · exact h.elim
theorem pb_s_aald {a : Nat} {C : String} (hd : decode (pb_code m) pc = .ok (.aaload, 1)) (ha : 102 ≤ a) (ht : ∀ dA : Nat → ClassId, (pb_tys dA)[a - 100]? = some (dA (a - 100), .object C)) (hk : pb_le k (pb_WJ x m n0 Q (pc + 1))) : pb_le (pb_aldR a k) (pb_WJ x m n0 Q pc) := by
  intro L S n σ h p e R Z s mm args below meth c H locs cells slots ls hR hZ hC hI hl hS hL h1 h2
  unfold pb_aldR at h
  split at h
  · rename_i i q S'
    obtain ⟨⟨g0, g1, g2⟩, hb, h⟩ := h
    obtain ⟨j, rfl⟩ := Int.eq_ofNat_of_zero_le g0
    have hn9 := hI.2.2.2.1.2.1
    have hj : j < n := by omega
    obtain ⟨hi, hS'⟩ := List.forall_mem_cons.mp hS
    obtain ⟨-, hS'⟩ := List.forall_mem_cons.mp hS'
    have hw := hk L _ n σ h p e R Z s mm args below meth c H locs cells slots ls hR hZ hC hI hl (List.forall_mem_cons.mpr ⟨hI.2.2.2.2 _ _ _, hS'⟩) hL h1 h2
    rw [List.map_cons, List.map_cons, pb_e_pos (by omega)]
    refine va_aldq hC.1 hC.2.1 hI.1 hI.2.1 j (a - 100) ((pb_ws_at hj).trans (by rw [pb_cell_ref g2 ha])) (ht _) (pb_ix hi hb) hd ?_
    rw [pb_clN hi, Int.toNat_of_nonneg hb.1, ← pb_e_rf]
    exact hw
  · exact h.elim
theorem pb_s_iast (hd : decode (pb_code m) pc = .ok (.iastore, 1)) (hk : pb_le k (pb_WJ x m n0 Q (pc + 1))) : pb_le (pb_ast 100 k) (pb_WJ x m n0 Q pc) := by
  intro L S n σ h p e R Z s mm args below meth c H locs cells slots ls hR hZ hC hI hl hS hL h1 h2
  unfold pb_ast at h
  split at h
  · rename_i v i q S'
    obtain ⟨⟨g0, g1, g2⟩, hb, h⟩ := h
    obtain ⟨j, rfl⟩ := Int.eq_ofNat_of_zero_le g0
    have hn9 := hI.2.2.2.1.2.1
    have hj : j < n := by omega
    obtain ⟨hv, hS'⟩ := List.forall_mem_cons.mp hS
    obtain ⟨hi, hS'⟩ := List.forall_mem_cons.mp hS'
    obtain ⟨-, hS'⟩ := List.forall_mem_cons.mp hS'
    rw [List.map_cons, List.map_cons, List.map_cons, pb_e_pos (by omega)]
    refine va_iast hC.1 hC.2.1 hI.1 hI.2.1 pb_D hI.2.2.1 j 0 ((pb_ws_at hj).trans (by rw [pb_cell_int g2 (by omega) (by omega)])) rfl (pb_ix hi hb) hd (fun H1 locs1 hP1 _ hS1 => ?_)
    rw [pb_clN hi, pb_ws_set hj (fun i2 hi2 => pb_cell_other (by omega)) rfl (pb_cell_putA g2 (by omega) (by omega) hb.1).symm] at hP1
    exact hk L _ n _ h p e R Z s mm args below meth c H1 locs1 cells slots ls hR hZ hC ⟨hI.1, hP1, hS1, hI.2.2.2.1, pb_upR hI.2.2.2.2 hv _ _ _⟩ hl hS' hL h1 h2
  · exact h.elim
theorem pb_s_zast (hd : decode (pb_code m) pc = .ok (.bastore, 1)) (hk : pb_le k (pb_WJ x m n0 Q (pc + 1))) : pb_le (pb_astZ 101 k) (pb_WJ x m n0 Q pc) := by
  intro L S n σ h p e R Z s mm args below meth c H locs cells slots ls hR hZ hC hI hl hS hL h1 h2
  unfold pb_astZ at h
  split at h
  · rename_i v i q S'
    obtain ⟨⟨g0, g1, g2⟩, hb, h01, h⟩ := h
    obtain ⟨j, rfl⟩ := Int.eq_ofNat_of_zero_le g0
    have hn9 := hI.2.2.2.1.2.1
    have hj : j < n := by omega
    obtain ⟨hv, hS'⟩ := List.forall_mem_cons.mp hS
    obtain ⟨hi, hS'⟩ := List.forall_mem_cons.mp hS'
    obtain ⟨-, hS'⟩ := List.forall_mem_cons.mp hS'
    rw [List.map_cons, List.map_cons, List.map_cons, pb_e_pos (by omega)]
    have hnar : vp_nar .boolean (Int32.ofInt v) = Int32.ofInt v := by rcases h01 with rfl | rfl <;> rfl
    refine va_zast hC.1 hC.2.1 hI.1 hI.2.1 pb_D hI.2.2.1 j 1 ((pb_ws_at hj).trans (by rw [pb_cell_int g2 (by omega) (by omega)])) rfl (pb_ix hi hb) hd (fun H1 locs1 hP1 _ hS1 => ?_)
    rw [hnar, pb_clN hi, pb_ws_set hj (fun i2 hi2 => pb_cell_other (by omega)) rfl (pb_cell_putA g2 (by omega) (by omega) hb.1).symm] at hP1
    exact hk L _ n _ h p e R Z s mm args below meth c H1 locs1 cells slots ls hR hZ hC ⟨hI.1, hP1, hS1, hI.2.2.2.1, pb_upR hI.2.2.2.2 hv _ _ _⟩ hl hS' hL h1 h2
  · exact h.elim
theorem pb_s_aast {a ci : Nat} {r : vw_C} (hd : decode (pb_code m) pc = .ok (.aastore, 1)) (ha : 102 ≤ a) (ht : ∀ dA : Nat → ClassId, (pb_tys dA)[a - 100]? = some (dA (a - 100), .object r.1)) (hc : pb_cl[ci]? = some r) (hci : ci < 100) (hk : pb_le k (pb_WJ x m n0 Q (pc + 1))) : pb_le (pb_astR a ci k) (pb_WJ x m n0 Q pc) := by
  intro L S n σ h p e R Z s mm args below meth c H locs cells slots ls hR hZ hC hI hl hS hL h1 h2
  unfold pb_astR at h
  split at h
  · rename_i v i q S'
    obtain ⟨⟨g0, g1, g2⟩, hb, ⟨e0, e1, e2⟩, h⟩ := h
    obtain ⟨j, rfl⟩ := Int.eq_ofNat_of_zero_le g0
    obtain ⟨w, rfl⟩ := Int.eq_ofNat_of_zero_le e0
    have hn9 := hI.2.2.2.1.2.1
    have hj : j < n := by omega
    have hw : w < n := by omega
    obtain ⟨hv, hS'⟩ := List.forall_mem_cons.mp hS
    obtain ⟨hi, hS'⟩ := List.forall_mem_cons.mp hS'
    obtain ⟨-, hS'⟩ := List.forall_mem_cons.mp hS'
    rw [List.map_cons, List.map_cons, List.map_cons, pb_e_pos (j := j) (by omega), pb_e_pos (j := w) (by omega)]
    refine va_astq hC.1 hC.2.1 hI.1 hI.2.1 pb_D hI.2.2.1 j (a - 100) w ci ((pb_ws_at hj).trans (by rw [pb_cell_ref g2 ha])) (ht _) ((pb_ws_at hw).trans (by rw [pb_cell_obj e2 hci])) hc (pb_ix hi hb) hd (fun H1 locs1 hP1 _ hS1 => ?_)
    rw [pb_clN hi, pb_ws_set (σ' := pb_up σ 0 j i w) hj (fun i2 hi2 => pb_cell_other (by omega)) rfl (by rw [pb_cell_putQ g2 ha hb.1 (by omega) (by omega), Int.toNat_natCast])] at hP1
    exact hk L _ n _ h p e R Z s mm args below meth c H1 locs1 cells slots ls hR hZ hC ⟨hI.1, hP1, hS1, hI.2.2.2.1, pb_upR hI.2.2.2.2 hv _ _ _⟩ hl hS' hL h1 h2
  · exact h.elim
end PBA
/-! answers -/
section PBR
variable {x : pb_E} {m n0 : Nat} {Q : pb_P} {pc : Nat}
theorem pb_s_vretN {lim : Nat} (hd : decode (pb_code m) pc = .ok (.return_, 1)) (hr : pb_rt m = none) (hlim : lim = n0 + pb_mc m) : pb_le (pb_vretN lim Q) (pb_WJ x m n0 Q pc) := by
  intro L S n σ h p e R Z s mm args below meth c H locs cells slots ls hR hZ hC hI hl hS hL h1 h2
  unfold pb_vretN at h
  split at h
  · have hc : cells = pb_mc m := by omega
    subst hc
    subst h2
    obtain rfl : n = n0 + pb_mc m := h1.1
    have hw := hZ pc ls (.inl 0) σ H locs _ hd (Or.inl ⟨hr, rfl⟩) h.2 (by unfold pb_vR pb_R; omega) hI
    rw [show pb_vd m = true by unfold pb_vd; rw [hr]; rfl] at hw
    exact hw
  · exact h.elim
theorem pb_s_vret (hd : decode (pb_code m) pc = .ok (.return_, 1)) (hr : pb_rt m = none) (hmc : pb_mc m = 0) : pb_le (pb_vret Q) (pb_WJ x m n0 Q pc) := by
  intro L S n σ h p e R Z s mm args below meth c H locs cells slots ls hR hZ hC hI hl hS hL h1 h2
  unfold pb_vret at h
  split at h
  · have hc : cells = pb_mc m := by omega
    subst hc
    subst h2
    obtain rfl : n = n0 + pb_mc m := h1.1
    have hw := hZ pc ls (.inl 0) σ H locs _ hd (Or.inl ⟨hr, rfl⟩) h (by unfold pb_vR pb_R; omega) hI
    rw [show pb_vd m = true by unfold pb_vd; rw [hr]; rfl] at hw
    exact hw
  · exact h.elim
theorem pb_s_iret (hd : decode (pb_code m) pc = .ok (.ireturn, 1)) (hr : pb_rt m = some .int) (hmc : pb_mc m = 0) : pb_le (pb_iret Q) (pb_WJ x m n0 Q pc) := by
  intro L S n σ h p e R Z s mm args below meth c H locs cells slots ls hR hZ hC hI hl hS hL h1 h2
  unfold pb_iret at h
  split at h
  · have hc : cells = pb_mc m := by omega
    subst hc
    subst h2
    obtain rfl : n = n0 + pb_mc m := h1.1
    obtain ⟨hv, -⟩ := List.forall_mem_cons.mp hS
    have hw := hZ pc ls _ σ H locs _ hd (Or.inr (Or.inl ⟨hr, rfl, _, rfl⟩)) h hv hI
    rw [show pb_vd m = false by unfold pb_vd; rw [hr]; rfl] at hw
    exact hw
  · exact h.elim
theorem pb_s_zret (hd : decode (pb_code m) pc = .ok (.ireturn, 1)) (hr : pb_rt m = some .boolean) (hmc : pb_mc m = 0) : pb_le (pb_zret Q) (pb_WJ x m n0 Q pc) := by
  intro L S n σ h p e R Z s mm args below meth c H locs cells slots ls hR hZ hC hI hl hS hL h1 h2
  unfold pb_zret at h
  split at h
  · have hc : cells = pb_mc m := by omega
    subst hc
    subst h2
    obtain rfl : n = n0 + pb_mc m := h1.1
    obtain ⟨hv, -⟩ := List.forall_mem_cons.mp hS
    have hw := hZ pc ls _ σ H locs _ hd (Or.inr (Or.inr (Or.inl ⟨hr, rfl, h.1.imp (congrArg _) (congrArg _)⟩))) h.2 hv hI
    rw [show pb_vd m = false by unfold pb_vd; rw [hr]; rfl] at hw
    exact hw
  · exact h.elim
theorem pb_s_zretN {lim : Nat} (hd : decode (pb_code m) pc = .ok (.ireturn, 1)) (hr : pb_rt m = some .boolean) (hlim : lim = n0 + pb_mc m) : pb_le (pb_zretN lim Q) (pb_WJ x m n0 Q pc) := by
  intro L S n σ h p e R Z s mm args below meth c H locs cells slots ls hR hZ hC hI hl hS hL h1 h2
  unfold pb_zretN at h
  split at h
  · have hc : cells = pb_mc m := by omega
    subst hc
    subst h2
    obtain rfl : n = n0 + pb_mc m := h1.1
    obtain ⟨hv, -⟩ := List.forall_mem_cons.mp hS
    have hw := hZ pc ls _ σ H locs _ hd (Or.inr (Or.inr (Or.inl ⟨hr, rfl, h.2.1.imp (congrArg _) (congrArg _)⟩))) h.2.2 hv hI
    rw [show pb_vd m = false by unfold pb_vd; rw [hr]; rfl] at hw
    exact hw
  · exact h.elim
theorem pb_s_aret {C : String} (hd : decode (pb_code m) pc = .ok (.areturn, 1)) (hr : pb_rt m = some (.object C)) (hmc : pb_mc m = 0) : pb_le (pb_aret Q) (pb_WJ x m n0 Q pc) := by
  intro L S n σ h p e R Z s mm args below meth c H locs cells slots ls hR hZ hC hI hl hS hL h1 h2
  unfold pb_aret at h
  split at h
  · have hc : cells = pb_mc m := by omega
    subst hc
    subst h2
    obtain rfl : n = n0 + pb_mc m := h1.1
    obtain ⟨hv, -⟩ := List.forall_mem_cons.mp hS
    have hw := hZ pc ls _ σ H locs _ hd (Or.inr (Or.inr (Or.inr ⟨_, _, hr, rfl, rfl⟩))) h hv hI
    rw [show pb_vd m = false by unfold pb_vd; rw [hr]; rfl] at hw
    exact hw
  · exact h.elim
end PBR
/-! switches -/
section PBS
variable {x : pb_E} {m n0 : Nat} {Q : pb_P} {pc : Nat}
theorem pb_sw_spec : ∀ (r : List (Int × pb_K)) {d : pb_K} {L : pb_L} {S : List pb_V} {n : Nat} {σ : pb_H} {y : Int}, pb_sw r d L S n σ y → (∃ (i : Nat) (a : Int) (k : pb_K), r[i]? = some (a, k) ∧ y = a ∧ k L S n σ) ∨ ((∀ (i : Nat) (a : Int) (k : pb_K), r[i]? = some (a, k) → ¬ y = a) ∧ d L S n σ)
  | [], d, L, S, n, σ, y, h => Or.inr ⟨fun i a k h => by simp at h, h⟩
  | (a, k) :: r, d, L, S, n, σ, y, h => by
    obtain ⟨g1, g2⟩ := h
    by_cases hy : y = a
    · exact Or.inl ⟨0, a, k, rfl, hy, g1 hy⟩
    · rcases pb_sw_spec r (g2 hy) with ⟨i, a', k', h1, h2, h3⟩ | ⟨h1, h2⟩
      · exact Or.inl ⟨i + 1, a', k', h1, h2, h3⟩
      · refine Or.inr ⟨fun i a' k' h => ?_, h2⟩
        cases i with
        | zero => cases h; exact hy
        | succ i => exact h1 i a' k' h
theorem pb_s_table {r : List (Int × pb_K)} {d : pb_K} {dflt lo hi : Int} {offs : Array Int} {len td : Nat} (hd : decode (pb_code m) pc = .ok (.tableswitch dflt lo hi offs, len)) (htd : (pc : Int) + dflt = (td : Int)) (hkd : pb_le d (pb_WJ x m n0 Q td))
    (hr : ∀ (i : Nat) (a : Int) (k : pb_K), r[i]? = some (a, k) → lo ≤ a ∧ a ≤ hi ∧ ∃ (off : Int) (tgt : Nat), offs[(a - lo).toNat]? = some off ∧ (pc : Int) + off = (tgt : Int) ∧ pb_le k (pb_WJ x m n0 Q tgt)) (hall : ∀ y : Int, lo ≤ y → y ≤ hi → ∃ (i : Nat) (k : pb_K), r[i]? = some (y, k)) : pb_le (pb_switch r d) (pb_WJ x m n0 Q pc) := by
  intro L S n σ h p e R Z s mm args below meth c H locs cells slots ls hR hZ hC hI hl hS hL h1 h2
  unfold pb_switch at h
  split at h
  · rename_i y S'
    obtain ⟨hy, hS'⟩ := List.forall_mem_cons.mp hS
    have hyi : (Int32.ofInt y).toInt = y := pb_w_id hy
    rcases pb_sw_spec r h with ⟨i, a, k, g1, rfl, g3⟩ | ⟨g1, g2⟩
    · obtain ⟨b1, b2, off, tgt, b3, b4, b5⟩ := hr i y k g1
      exact lv_tableIn hC.1 hC.2.1 hd (by rw [hyi]; omega) (by rw [hyi]; omega) (by rw [hyi]; exact b3) b4 (b5 L _ n σ g3 p e R Z s mm args below meth c H locs cells slots ls hR hZ hC hI hl hS' hL h1 h2)
    · refine lv_tableOut hC.1 hC.2.1 hd ?_ htd (hkd L _ n σ g2 p e R Z s mm args below meth c H locs cells slots ls hR hZ hC hI hl hS' hL h1 h2)
      rw [hyi]
      by_cases q1 : y < lo
      · exact Or.inl q1
      · by_cases q2 : hi < y
        · exact Or.inr q2
        · obtain ⟨i, k, hik⟩ := hall y (by omega) (by omega)
          exact absurd rfl (g1 i y k hik)
  · exact h.elim
end PBS
end
section
/-! the script, new cells -/
section PBN
variable {x : pb_E} {m n0 : Nat} {Q : pb_P} {pc : Nat} {k : pb_K}
theorem pb_e_scr (x : pb_E) : pb_e x (.inr 1000000) = .ref x.2.2.2.2.1 := by
  rw [pb_e_ref (by omega)]
  unfold pb_ad
  rw [if_pos rfl]
theorem pb_s_sld (hd : decode (pb_code m) pc = .ok (.iaload, 1)) (hk : pb_le k (pb_WJ x m n0 Q (pc + 1))) : pb_le (pb_sld x k) (pb_WJ x m n0 Q pc) := by
  intro L S n σ h p e R Z s mm args below meth c H locs cells slots ls hR hZ hC hI hl hS hL h1 h2
  unfold pb_sld at h
  split at h
  · rename_i i q S'
    obtain ⟨rfl, hb, h⟩ := h
    obtain ⟨hi, hS'⟩ := List.forall_mem_cons.mp hS
    obtain ⟨-, hS'⟩ := List.forall_mem_cons.mp hS'
    have hw := hk L _ n σ h p e R Z s mm args below meth c H locs cells slots ls hR hZ hC hI hl (List.forall_mem_cons.mpr ⟨pb_tR _, hS'⟩) hL h1 h2
    have hX := hI.2.2.2.1
    rw [List.map_cons, List.map_cons, pb_e_scr]
    refine va_sld hC.1 hC.2.1 hX.2.2.1 (Nat.lt_of_lt_of_le hX.2.2.2.1 hX.1) (fun h9 => absurd hX.2.2.2.1 (Nat.not_lt.mpr h9)) hI.2.2.1 (pb_inI hi hb.1 (by omega)) hd ?_
    rw [pb_clN hi]
    rw [List.map_cons, pb_e, Int32.ofInt_toInt] at hw
    exact hw
  · exact h.elim
theorem pb_s_slen (hd : decode (pb_code m) pc = .ok (.arraylength, 1)) (hk : pb_le k (pb_WJ x m n0 Q (pc + 1))) : pb_le (pb_slen x k) (pb_WJ x m n0 Q pc) := by
  intro L S n σ h p e R Z s mm args below meth c H locs cells slots ls hR hZ hC hI hl hS hL h1 h2
  unfold pb_slen at h
  split at h
  · rename_i q S'
    obtain ⟨rfl, hb, h⟩ := h
    obtain ⟨-, hS'⟩ := List.forall_mem_cons.mp hS
    have hw := hk L _ n σ h p e R Z s mm args below meth c H locs cells slots ls hR hZ hC hI hl (List.forall_mem_cons.mpr ⟨(by unfold pb_vR pb_R; omega), hS'⟩) hL h1 h2
    have hX := hI.2.2.2.1
    rw [List.map_cons, pb_e_scr]
    refine va_slen hC.1 hC.2.1 hX.2.2.1 (Nat.lt_of_lt_of_le hX.2.2.2.1 hX.1) (fun h9 => absurd hX.2.2.2.1 (Nat.not_lt.mpr h9)) hI.2.2.1 hd ?_
    rw [List.map_cons, pb_e, Int32.ofInt_eq_ofNat] at hw
    exact hw
  · exact h.elim
theorem pb_fr {p : Program} {e : Env} {R : Room} {s : State} {mm : MethodId} {args : Array Value} {below : List Frame} {meth : Method} {c : Code} {H1 : Heap} {locs : List Loc} {cells slots : Nat} {Qs : State → Prop} {g : JFrame} {n q : Nat} {σ : pb_H} {E : va_E} (hP1 : va_P x.2.1 pb_cl (pb_ws x n σ ++ [(q, E)]) H1) (hD1 : va_D (fun q => x.2.2.2.1 ≤ q) (pb_ws x n σ ++ [(q, E)])) (hn : n = n0 + cells) (hs : s.heap.size = x.2.2.2.1 + n0)
    (kk : q = x.2.2.2.1 + n → W p x.1 e R s mm args below meth c H1 locs (cells + 1) slots Qs g) : W p x.1 e R s mm args below meth c H1 locs (cells + 1) slots Qs g := by
  intro T hT X
  have h1 := X.heapSize
  rw [hT] at h1
  have hlen : (pb_ws x n σ).length = n := by simp [pb_ws]
  have hget : (pb_ws x n σ ++ [(q, E)])[n]? = some (q, E) := by
    rw [List.getElem?_append_right (by omega), hlen, Nat.sub_self]
    rfl
  have h2 := (hP1 n _ hget).lt
  have h3 := hD1.2 n _ hget
  dsimp only at h2 h3
  refine kk ?_ T hT X
  by_cases h4 : q < x.2.2.2.1 + n
  · exfalso
    have hi : q - x.2.2.2.1 < n := by omega
    have hg2 : (pb_ws x n σ ++ [(q, E)])[q - x.2.2.2.1]? = some (x.2.2.2.1 + (q - x.2.2.2.1), pb_cell x σ (q - x.2.2.2.1)) := by
      rw [List.getElem?_append_left (by omega)]
      exact pb_ws_at hi
    have := hD1.1 (q - x.2.2.2.1) n _ _ hg2 hget (by dsimp only; omega)
    omega
  · omega
theorem pb_grow {n : Nat} {σ : pb_H} {d : Nat → Int} {E : va_E} {H1 : Heap} (hP1 : va_P x.2.1 pb_cl (pb_ws x n σ ++ [(x.2.2.2.1 + n, E)]) H1) (hE : E = pb_cell x (pb_clr σ n d) n) : va_P x.2.1 pb_cl (pb_ws x (n + 1) (pb_clr σ n d)) H1 := by
  have hlen : (pb_ws x n σ).length = n := by simp [pb_ws]
  intro k q hk
  obtain ⟨hl, rfl⟩ := pb_ws_in hk
  by_cases h : k = n
  · subst h
    rw [← hE]
    refine hP1 k _ ?_
    rw [List.getElem?_append_right (by omega), hlen, Nat.sub_self]
    rfl
  · rw [pb_cell_clr h]
    refine hP1 k _ ?_
    rw [List.getElem?_append_left (by omega)]
    exact pb_ws_at (by omega)
theorem pb_clrR {n : Nat} {σ : pb_H} {d : Nat → Int} (hR : ∀ f p i, pb_R (σ f p i)) (hd : ∀ f, pb_R (d f)) : ∀ f p i, pb_R (pb_clr σ n d f p i) := by
  intro f p i
  unfold pb_clr
  split
  · exact hd f
  · exact hR f p i
theorem pb_s_new {lim ci idx : Nat} {C : String} {T : u_T} {ty0 : Nat → FieldType} (hd : decode (pb_code m) pc = .ok (.new idx, 3)) (hc : pb_cl[ci]? = some (C, T, pb_N ci)) (hin : ∀ w ∈ u_ws C T (pb_N ci), w ∈ pb_ALL) (hty : ∀ k, k < pb_N ci → parseFieldDescriptor (T k).2.2.1 = some (ty0 k)) (hci : ci < 100) (hN : pb_N ci ≤ 64) (hdR : ∀ f, pb_R (pb_df f))
    (hdf : ∀ k, k < pb_N ci → (pb_ft ci k = 2 ∧ defaultValue (ty0 k) = .null ∧ pb_df (1 + 100 * ci + k) = -1) ∨ (¬ pb_ft ci k = 2 ∧ defaultValue (ty0 k) = .int 0 ∧ pb_df (1 + 100 * ci + k) = 0)) (h1c : Cond.classLink (pb_y m).cls idx C ∈ pb_ALL) (h2c : Cond.instantiable C (pb_N ci) ∈ pb_ALL) (h3c : Cond.initialized C ∈ pb_ALL) (hlim : lim = n0 + pb_mc m) (hk : pb_le k (pb_WJ x m n0 Q (pc + 3))) : pb_le (pb_new lim ci k) (pb_WJ x m n0 Q pc) := by
  intro L S n σ h p e R Z s mm args below meth c H locs cells slots ls hR hZ hC hI hl hS hL h1 h2
  obtain ⟨e1, e2, e3, h⟩ := h
  have hts := hC.2.2.2.2.1
  refine va_new (ci := ci) (fs := (List.range (pb_N ci)).map (fun k => pb_c x (pb_ft ci k) (pb_clr σ n pb_df (1 + 100 * ci + k) n 0))) hC.1 hC.2.1 hts hin ty0 hty hC.2.2.2.1 (hts _ h1c) (hts _ h2c) (hts _ h3c) hI.1 hI.2.1 pb_D hI.2.2.1 (fun q hq => Nat.le_trans hI.2.2.2.1.1 hq) hc ?_ ?_ ?_ hd (fun q H1 hP1 hD1 hS1 => ?_)
  · intro j hj
    unfold vp_V
    rw [List.getD_eq_getElem?_getD, List.getElem?_map, List.getElem?_range hj]
    simp only [Option.map_some, Option.getD_some, pb_clr, if_true]
    unfold pb_c
    rcases hdf j hj with ⟨g1, g2, g3⟩ | ⟨g1, g2, g3⟩
    · rw [if_pos g1, g2, g3, pb_e_neg (by omega)]
    · rw [if_neg g1, g2, g3]
      rfl
  · have := hR.2.1
    omega
  · have := hR.2.2.1
    omega
  · refine pb_fr hP1 hD1 h1.1 h1.2.1 (fun hq => ?_)
    subst hq
    refine W.widen (k := cells + 1) (n := 64 * (cells + 1)) (Nat.le_refl _) (by omega) ?_
    have hw := hk L _ (n + 1) _ h p e R Z s mm args below meth c H1 locs (cells + 1) (64 * (cells + 1)) ls hR hZ hC ⟨hI.1, pb_grow hP1 (by rw [pb_cell_obj e1 hci]), hS1, ⟨hI.2.2.2.1.1, by omega, hI.2.2.2.1.2.2⟩, pb_clrR hI.2.2.2.2 hdR⟩ hl (List.forall_mem_cons.mpr ⟨(by unfold pb_vR pb_R; omega), hS⟩) hL ⟨by omega, h1.2.1, by omega⟩ rfl
    rw [List.map_cons, pb_e_pos (by omega)] at hw
    exact hw
theorem pb_s_newI {lim : Nat} (hd : decode (pb_code m) pc = .ok (.newarray .int, 2)) (harr : Cond.arrayClass .int ∈ pb_ALL) (hlim : lim = n0 + pb_mc m) (hk : pb_le k (pb_WJ x m n0 Q (pc + 2))) : pb_le (pb_newa lim 100 0 k) (pb_WJ x m n0 Q pc) := by
  intro L S n σ h p e R Z s mm args below meth c H locs cells slots ls hR hZ hC hI hl hS hL h1 h2
  unfold pb_newa at h
  split at h
  · rename_i z S'
    obtain ⟨e1, e2, ⟨e3, e4⟩, e5, e6, h⟩ := h
    have hts := hC.2.2.2.2.1
    obtain ⟨hz, hS'⟩ := List.forall_mem_cons.mp hS
    rw [List.map_cons]
    refine va_newa (a0 := (z.toNat, .inl (fun _ => 0))) hC.1 hC.2.1 (atype := .int) (hts _ harr) (ty := .int) rfl hI.1 hI.2.1 pb_D hI.2.2.1 (fun q hq => Nat.le_trans hI.2.2.2.1.1 hq) (fun _ => rfl) (n := Int32.ofInt z) (by rw [pb_lt0 hz]; omega) (pb_clN hz) ?_ ?_ ?_ hd (fun q cA H1 hK1 hP1 hD1 hS1 => ?_)
    · show z.toNat * 4 ≤ 536870912
      omega
    · have := hR.2.1
      omega
    · have := hR.2.2.1
      omega
    · have hcA : cA = x.2.2.1 0 := by
        have g1 : s.vm.findClass _ = some cA := (hK1.2 (pb_tys x.2.2.1).length (cA, .int) (by rw [List.getElem?_append_right (Nat.le_refl _), Nat.sub_self]; rfl)).2
        have g2 : s.vm.findClass _ = some (x.2.2.1 0) := (hI.1.2 0 (x.2.2.1 0, .int) rfl).2
        exact Option.some.inj (g1.symm.trans g2)
      subst hcA
      refine pb_fr hP1 hD1 h1.1 h1.2.1 (fun hq => ?_)
      subst hq
      refine W.widen (k := cells + 1) (n := 64 * (cells + 1)) (Nat.le_refl _) (by omega) ?_
      have hw := hk L _ (n + 1) _ h p e R Z s mm args below meth c H1 locs (cells + 1) (64 * (cells + 1)) ls hR hZ hC ⟨hI.1, pb_grow (d := fun _ => 0) hP1 (by rw [pb_cell_int e1 (by omega) (by omega), e2]; congr 4; funext j; simp only [pb_clr, if_true]; rfl), hS1, ⟨hI.2.2.2.1.1, by omega, hI.2.2.2.1.2.2⟩, pb_clrR hI.2.2.2.2 (fun _ => pb_R0)⟩ hl (List.forall_mem_cons.mpr ⟨(by unfold pb_vR pb_R; omega), hS'⟩) hL ⟨by omega, h1.2.1, by omega⟩ rfl
      rw [List.map_cons, pb_e_pos (by omega)] at hw
      exact hw
  · exact h.elim
theorem pb_s_newZ {lim : Nat} (hd : decode (pb_code m) pc = .ok (.newarray .boolean, 2)) (harr : Cond.arrayClass .boolean ∈ pb_ALL) (hlim : lim = n0 + pb_mc m) (hk : pb_le k (pb_WJ x m n0 Q (pc + 2))) : pb_le (pb_newa lim 101 0 k) (pb_WJ x m n0 Q pc) := by
  intro L S n σ h p e R Z s mm args below meth c H locs cells slots ls hR hZ hC hI hl hS hL h1 h2
  unfold pb_newa at h
  split at h
  · rename_i z S'
    obtain ⟨e1, e2, ⟨e3, e4⟩, e5, e6, h⟩ := h
    have hts := hC.2.2.2.2.1
    obtain ⟨hz, hS'⟩ := List.forall_mem_cons.mp hS
    rw [List.map_cons]
    refine va_newa (a0 := (z.toNat, .inl (fun _ => 0))) hC.1 hC.2.1 (atype := .boolean) (hts _ harr) (ty := .boolean) rfl hI.1 hI.2.1 pb_D hI.2.2.1 (fun q hq => Nat.le_trans hI.2.2.2.1.1 hq) (fun _ => rfl) (n := Int32.ofInt z) (by rw [pb_lt0 hz]; omega) (pb_clN hz) ?_ ?_ ?_ hd (fun q cA H1 hK1 hP1 hD1 hS1 => ?_)
    · show z.toNat * 1 ≤ 536870912
      omega
    · have := hR.2.1
      omega
    · have := hR.2.2.1
      omega
    · have hcA : cA = x.2.2.1 1 := by
        have g1 : s.vm.findClass _ = some cA := (hK1.2 (pb_tys x.2.2.1).length (cA, .boolean) (by rw [List.getElem?_append_right (Nat.le_refl _), Nat.sub_self]; rfl)).2
        have g2 : s.vm.findClass _ = some (x.2.2.1 1) := (hI.1.2 1 (x.2.2.1 1, .boolean) rfl).2
        exact Option.some.inj (g1.symm.trans g2)
      subst hcA
      refine pb_fr hP1 hD1 h1.1 h1.2.1 (fun hq => ?_)
      subst hq
      refine W.widen (k := cells + 1) (n := 64 * (cells + 1)) (Nat.le_refl _) (by omega) ?_
      have hw := hk L _ (n + 1) _ h p e R Z s mm args below meth c H1 locs (cells + 1) (64 * (cells + 1)) ls hR hZ hC ⟨hI.1, pb_grow (d := fun _ => 0) hP1 (by rw [pb_cell_int e1 (by omega) (by omega), e2]; congr 4; funext j; simp only [pb_clr, if_true]; rfl), hS1, ⟨hI.2.2.2.1.1, by omega, hI.2.2.2.1.2.2⟩, pb_clrR hI.2.2.2.2 (fun _ => pb_R0)⟩ hl (List.forall_mem_cons.mpr ⟨(by unfold pb_vR pb_R; omega), hS'⟩) hL ⟨by omega, h1.2.1, by omega⟩ rfl
      rw [List.map_cons, pb_e_pos (by omega)] at hw
      exact hw
  · exact h.elim
theorem pb_s_newR {lim a idx : Nat} {C : String} (hd : decode (pb_code m) pc = .ok (.anewarray idx, 3)) (ha : 102 ≤ a) (ht : ∀ dA : Nat → ClassId, (pb_tys dA)[a - 100]? = some (dA (a - 100), .object C)) (h1c : Cond.classLink (pb_y m).cls idx C ∈ pb_ALL) (h2c : C ∈ pb_aos) (hlim : lim = n0 + pb_mc m) (hk : pb_le k (pb_WJ x m n0 Q (pc + 3))) : pb_le (pb_newa lim a (-1) k) (pb_WJ x m n0 Q pc) := by
  intro L S n σ h p e R Z s mm args below meth c H locs cells slots ls hR hZ hC hI hl hS hL h1 h2
  unfold pb_newa at h
  split at h
  · rename_i z S'
    obtain ⟨e1, e2, ⟨e3, e4⟩, e5, e6, h⟩ := h
    have hts := hC.2.2.2.2.1
    obtain ⟨hz, hS'⟩ := List.forall_mem_cons.mp hS
    rw [List.map_cons]
    refine va_newq hC.1 hC.2.1 hC.2.2.2.1 (hts _ h1c) (hI.2.2.2.1.2.2.2.2.2 C h2c) hI.1 hI.2.1 pb_D hI.2.2.1 (fun q hq => Nat.le_trans hI.2.2.2.1.1 hq) (n := Int32.ofInt z) (N' := z.toNat) (by rw [pb_lt0 hz]; omega) (pb_clN hz) ?_ ?_ ?_ hd (fun q cA H1 hK1 hP1 hD1 hS1 => ?_)
    · omega
    · have := hR.2.1
      omega
    · have := hR.2.2.1
      omega
    · have hcA : cA = x.2.2.1 (a - 100) := by
        obtain ⟨_, _, _, _, _, g1⟩ := (hK1.2 (pb_tys x.2.2.1).length (cA, .object C) (by rw [List.getElem?_append_right (Nat.le_refl _), Nat.sub_self]; rfl)).2
        obtain ⟨_, _, _, _, _, g2⟩ := (hI.1.2 (a - 100) (x.2.2.1 (a - 100), .object C) (ht _)).2
        exact Option.some.inj (g1.symm.trans g2)
      subst hcA
      refine pb_fr hP1 hD1 h1.1 h1.2.1 (fun hq => ?_)
      subst hq
      refine W.widen (k := cells + 1) (n := 64 * (cells + 1)) (Nat.le_refl _) (by omega) ?_
      have hw := hk L _ (n + 1) _ h p e R Z s mm args below meth c H1 locs (cells + 1) (64 * (cells + 1)) ls hR hZ hC ⟨hI.1, pb_grow (d := fun _ => -1) hP1 (by rw [pb_cell_ref e1 (by omega), e2]; congr 7; funext j; simp only [pb_clr, if_true]; rfl), hS1, ⟨hI.2.2.2.1.1, by omega, hI.2.2.2.1.2.2⟩, pb_clrR hI.2.2.2.2 (fun _ => (by unfold pb_R; omega))⟩ hl (List.forall_mem_cons.mpr ⟨(by unfold pb_vR pb_R; omega), hS'⟩) hL ⟨by omega, h1.2.1, by omega⟩ rfl
      rw [List.map_cons, pb_e_pos (by omega)] at hw
      exact hw
  · exact h.elim
theorem pb_cats (S : List pb_V) : ((S.map (pb_e x)).map fun v => v.category).sum = S.length := by
  induction S with
  | nil => rfl
  | cons a S ih => simp only [List.map_cons, List.sum_cons, pb_e_cat, List.length_cons, ih]; omega
theorem pb_s_obj {idx : Nat} (hd : decode (pb_code m) pc = .ok (.invokespecial idx, 3)) (w1 : Cond.methodLink (pb_y m).cls idx objectInit ∈ pb_ALL) (w2 : Cond.instanceMethod objectInit ∈ pb_ALL) (w3 : Cond.code objectInit ⟨#[0xb1]⟩ 1 none ∈ pb_ALL) (hlo : 20 ≤ pb_lo m) (hk : pb_le k (pb_WJ x m n0 Q (pc + 3))) : pb_le (pb_obj k) (pb_WJ x m n0 Q pc) := by
  intro L S n σ h p e R Z s mm args below meth c H locs cells slots ls hR hZ hC hI hl hS hL h1 h2
  unfold pb_obj at h
  split at h
  · rename_i q S'
    obtain ⟨e1, e2, h⟩ := h
    have hts := hC.2.2.2.2.1
    obtain ⟨-, hS'⟩ := List.forall_mem_cons.mp hS
    rw [List.map_cons, pb_e_ref e1]
    refine W.objInit hC.1 hC.2.1 hC.2.2.2.1 (hts _ w1) (hts _ w2) (hts _ w3) rfl (by rw [hC.2.2.1]; exact hl.1) rfl hd ?_ ?_ ?_
    · have := hR.1
      omega
    · show 2 * 0 + _ + 12 ≤ R.locals
      rw [pb_cats]
      have := hR.2.2.2
      omega
    · exact hk L _ n σ h p e R Z s mm args below meth c H locs cells slots ls hR hZ hC hI hl hS' hL h1 h2
  · exact h.elim
end PBN
end
section
/-! calls -/
theorem pb_tk_spec : ∀ (j : Nat) (a S r S' : List pb_V), pb_tk j a S = some (r, S') → ∃ pre, S = pre ++ S' ∧ r = pre.reverse ++ a ∧ pre.length = j
  | 0, a, S, r, S', h => by
    simp only [pb_tk, Option.some.injEq, Prod.mk.injEq] at h
    exact ⟨[], by rw [h.2]; rfl, by rw [h.1]; rfl, rfl⟩
  | j + 1, a, v :: S, r, S', h => by
    obtain ⟨pre, h1, h2, h3⟩ := pb_tk_spec j (v :: a) S r S' h
    exact ⟨v :: pre, by rw [h1]; rfl, by rw [h2]; simp, by rw [List.length_cons, h3]⟩
  | j + 1, a, [], r, S', h => by simp [pb_tk] at h
def pb_mok (m na : Nat) : Prop := Cond.code (pb_y m) (pb_code m) (pb_mx m) (pb_rt m) ∈ pb_ALL ∧ ((pb_y m).cls ≠ "java/lang/invoke/MethodHandle" ∧ (pb_y m).cls ≠ "java/lang/invoke/VarHandle" ∧ (parseMethodDescriptor (pb_y m).desc).map (fun d => d.parameters.length) = some na) ∧ True ∧ Cond.initialized (pb_y m).cls ∈ pb_ALL
def pb_cv (x : pb_E) (m na ci : Nat) (k : pb_K) : pb_K := fun L S n σ => match pb_tk (na + 1) [] S with
  | some (.inr p :: As, S') => pb_is ci n p ∧ S'.length ≤ 8 ∧ pb_MJ x m (.inr p :: As) n σ (fun _ σ' => k L S' n σ')
  | _ => False
def pb_cr (x : pb_E) (m na ci : Nat) (k : pb_K) : pb_K := fun L S n σ => match pb_tk (na + 1) [] S with
  | some (.inr p :: As, S') => pb_is ci n p ∧ S'.length ≤ 8 ∧ pb_MJ x m (.inr p :: As) n σ (fun v σ' => k L (v :: S') n σ')
  | _ => False
def pb_sv (x : pb_E) (m na : Nat) (k : pb_K) : pb_K := fun L S n σ => match pb_tk na [] S with
  | some (As, S') => S'.length ≤ 8 ∧ pb_MJ x m As n σ (fun _ σ' => k L S' n σ')
  | _ => False
def pb_sr (x : pb_E) (m na : Nat) (k : pb_K) : pb_K := fun L S n σ => match pb_tk na [] S with
  | some (As, S') => S'.length ≤ 8 ∧ pb_MJ x m As n σ (fun v σ' => k L (v :: S') n σ')
  | _ => False
/-- a constructor that makes a number of cells -/
def pb_ci (x : pb_E) (lim m na mc : Nat) (k : pb_K) : pb_K := fun L S n σ => match pb_tk (na + 1) [] S with
  | some (.inr p :: As, S') => (0 ≤ p ∧ p < n) ∧ n + mc ≤ lim ∧ n < 900000 ∧ S'.length ≤ 8 ∧ pb_MJ x m (.inr p :: As) n σ (fun _ σ' => k L S' (n + mc) σ')
  | _ => False
section PBC
variable {x : pb_E} {m n0 : Nat} {Q : pb_P} {pc : Nat} {k : pb_K}
theorem pb_goodIn {m' na : Nat} (hm : pb_mok m' na) : GoodIn pb_ALL (pb_wd m') := by
  intro w hw
  rcases List.mem_cons.mp hw with rfl | hw
  · exact ⟨hm.1, pb_good _ hm.1⟩
  · exact ⟨hw, pb_good _ hw⟩
theorem pb_blind (As : List pb_V) (n : Nat) (σ : pb_H) : FrameBlind (pb_Pc x As n σ) := by
  intro a U g mk hq
  obtain ⟨q0, q1, q2, q3, ⟨q4, q5, q6, q7, q9⟩, q8⟩ := hq
  exact ⟨q0, q1, va_K.moved (u := U) (U := U.calling g mk a) (Vm.Alike.refl U.vm) q2, q3, ⟨q4, q5, va_X.moved (u := U) (U := U.calling g mk a) (Vm.Alike.refl U.vm) q6, q7, pb_Nx.same (u := U) (U := U.calling g mk a) rfl q9⟩, q8⟩
theorem pb_at {s U : State} {H : Heap} {n : Nat} {σ : pb_H} {locs : List Loc} {As : List pb_V} {av : Array Value} (hI : pb_In x s H n σ locs) (hsz : H.size = x.2.2.2.1 + n) (hAs : ∀ v ∈ As, pb_vR v) (hav : av = (As.map (pb_e x)).toArray) (hU : U.heap = H) (hW : s.WarmedH U.vm) : pb_Pc x As n σ av U := by
  obtain ⟨i1, i2, i3, ⟨i4, i5, i6, i7, i9⟩, i8⟩ := hI
  refine ⟨hav, hAs, va_K.moved hW.alike i1, by rw [hU]; exact i2, ⟨by rw [hU]; exact hsz, i5, ?_, i7, i9.warm hW⟩, i8⟩
  refine va_X.moved hW.alike (va_X.kept i6 ?_)
  rw [hU]
  exact i3.2.1 _ (Nat.lt_of_lt_of_le i7 i4) (Nat.not_le.mpr i7)
theorem pb_goon {p : Program} {e : Env} {R : Room} {s : State} {mm : MethodId} {args a : Array Value} {below : List Frame} {meth : Method} {c : Code} {H : Heap} {locs : List Loc} {cells slots : Nat} {Qs : State → Prop} {ls : Array Slot} {st0 rest : List Value} {m' n : Nat} {σ : pb_H} {Q' : pb_P}
    (hr : va_Run p x.1 e R s mm args below meth c H locs cells slots (pb_mc m') (pb_ms m') (F0 mm pc ls st0) rest (pb_Q x m' n Q' a) (fun q => x.2.2.2.1 ≤ q)) (hI : pb_In x s H n σ locs) (hn : n + pb_mc m' < 1000000)
    (kk : ∀ (v : pb_V) (σ' : pb_H) (H1 : Heap) (locs1 : List Loc), Q' v σ' → pb_vR v → pb_In x s H1 (n + pb_mc m') σ' locs1 → W p x.1 e R s mm args below meth c H1 locs1 (cells + pb_mc m') (slots + pb_ms m') Qs (F0 mm (pc + 3) ls ((if pb_vd m' = true then none else some (pb_e x v)).toList ++ rest))) : W p x.1 e R s mm args below meth c H locs cells slots Qs (F0 mm pc ls st0) := by
  intro T hT X
  obtain ⟨v, st₀, t, T', L, h0, X', hL, e1, e2, ⟨r, σ', hv, hQ, hvR, ⟨q1, q2, q3⟩, q4⟩, st⟩ := hr T hT X
  obtain rfl : v = if pb_vd m' = true then none else some (pb_e x r) := Outcome.returned.inj hv
  obtain ⟨i1, i2, i3, ⟨i4, i5, i6⟩, i8⟩ := hI
  rw [va_F, h0] at q4
  obtain ⟨t2, a1, b1⟩ := kk r σ' T'.heap (locs ++ L) hQ hvR ⟨i1, by rw [e1]; exact q2, ⟨Nat.le_trans i3.1 (by rw [e1]; exact q4.1), fun q g1 g2 => by rw [e1, q4.2 q (Nat.lt_of_lt_of_le g1 i3.1) g2]; exact i3.2.1 q g1 g2, fun q hq => by
      rcases List.mem_append.mp hq with h | h
      · exact i3.2.2 q h
      · exact hL q h⟩, ⟨i4, hn, i6⟩, q3⟩ T' rfl X'
  exact ⟨t2, st t2 a1, b1⟩
theorem pb_stk {As S S' : List pb_V} {p : Int} {j : Nat} (h : pb_tk (j + 1) [] S = some (.inr p :: As, S')) : S = As.reverse ++ .inr p :: S' ∧ As.length = j := by
  obtain ⟨pre, h1, h2, h3⟩ := pb_tk_spec _ _ _ _ _ h
  rw [List.append_nil] at h2
  have h4 : pre = (.inr p :: As).reverse := by rw [h2, List.reverse_reverse]
  refine ⟨by rw [h1, h4]; simp, ?_⟩
  have h5 := congrArg List.length h4
  rw [h3] at h5
  simpa using h5.symm
theorem pb_room {R : Room} {m' : Nat} (hrk : pb_rk m' < pb_rk m ∧ 19 + pb_mx m' + pb_lo m' ≤ pb_lo m) (hR : pb_Rm m R) : (pb_rm m').frames + 1 ≤ R.frames ∧ 8 + (pb_mx m' + 11) + (pb_rm m').locals ≤ R.locals := by
  have h1 := hR.1
  have h2 := hR.2.2.2
  refine ⟨?_, ?_⟩
  · show pb_rk m' + 1 + 1 ≤ R.frames
    omega
  · show 8 + (pb_mx m' + 11) + pb_lo m' ≤ R.locals
    omega
theorem pb_s_Vv {m' na ci idx : Nat} {C : String} {T : u_T} {N : Nat} (hd : decode (pb_code m) pc = .ok (.invokevirtual idx, 3)) (hm : pb_mok m' na) (hrk : pb_rk m' < pb_rk m ∧ 19 + pb_mx m' + pb_lo m' ≤ pb_lo m) (hmc : pb_mc m' = 0) (hvd : pb_vd m' = true) (hcl : pb_cl[ci]? = some (C, T, N)) (hci : ci < 100) (w1 : Cond.methodLink (pb_y m).cls idx (pb_y m') ∈ pb_ALL) (w2 : Cond.instanceMethod (pb_y m') ∈ pb_ALL) (w3 : Cond.selects C (pb_y m') (pb_y m') ∈ pb_ALL) (hk : pb_le k (pb_WJ x m n0 Q (pc + 3))) : pb_le (pb_cv x m' na ci k) (pb_WJ x m n0 Q pc) := by
  intro L S n σ h p e R Z s mm args below meth c H locs cells slots ls hR hZ hC hI hl hS hL h1 h2
  unfold pb_cv at h
  split at h
  · rename_i q As S' htk
    obtain ⟨hq, hlen, Q0, hQ0, hM⟩ := h
    obtain ⟨hSe, hAl⟩ := pb_stk htk
    subst hSe
    obtain ⟨g0, g1, g2⟩ := hq
    obtain ⟨j, rfl⟩ := Int.eq_ofNat_of_zero_le g0
    have hn9 := hI.2.2.2.1.2.1
    have hj : j < n := by omega
    have hts := hC.2.2.2.2.1
    have hAs : ∀ v ∈ (.inr (j : Int) :: As : List pb_V), pb_vR v := fun v hv => hS v (by simp only [List.mem_append, List.mem_reverse, List.mem_cons] at hv ⊢; rcases hv with hv | hv; exact Or.inr (Or.inl hv); exact Or.inl hv)
    have hS' : ∀ v ∈ S', pb_vR v := fun v hv => hS v (by simp only [List.mem_append, List.mem_cons]; exact Or.inr (Or.inr hv))
    refine pb_sz hI h1.1 h1.2.1 (fun hsz => ?_)
    refine pb_goon (Q' := Q0) (va_runV (As := As.map (pb_e x)) (b := x.2.2.2.1 + j) (rest := S'.map (pb_e x)) (C := C) ⟨hC.1, hC.2.1, hC.2.2.1, hC.2.2.2.1, hts⟩ hM ⟨callB_of na hts (pb_goodIn hm) rfl rfl rfl (hts _ hm.2.2.2) (hts _ w1) hm.2.1 (pb_room hrk hR), hts _ w2, hts _ w3⟩ ⟨pb_blind _ _ _, va_recv hI.1 hI.2.1 hcl ((pb_ws_at hj).trans (by rw [pb_cell_obj g2 hci])), fun U hU hW => pb_at hI hsz hAs (by rw [List.map_cons, pb_e_pos (by omega)]) hU hW⟩ rfl (by simpa using hAl) hl.1 (by show List.map _ _ = _; rw [List.map_append, List.map_cons, List.map_reverse, pb_e_pos (by omega)]) (lv_room (by rw [pb_cats]; exact hlen)) hd ⟨by have := hR.2.1; omega, by have := hR.2.2.1; show slots + 64 * pb_mc m' ≤ R.slots; omega⟩) hI (by omega) (fun v σ' H1 locs1 hQ hvR hI1 => ?_)
    have e1 : cells + pb_mc m' = cells := by omega
    have e2 : slots + pb_ms m' = slots := by show slots + 64 * pb_mc m' = slots; omega
    have e3 : n + pb_mc m' = n := by omega
    rw [e3] at hI1
    rw [e1, e2]
    rw [hvd, if_pos rfl]
    exact hk L S' n σ' (hQ0 v σ' hQ) p e R Z s mm args below meth c H1 locs1 cells slots ls hR hZ hC hI1 hl hS' hL h1 h2
  · exact h.elim
theorem pb_s_Vr {m' na ci idx : Nat} {C : String} {T : u_T} {N : Nat} (hd : decode (pb_code m) pc = .ok (.invokevirtual idx, 3)) (hm : pb_mok m' na) (hrk : pb_rk m' < pb_rk m ∧ 19 + pb_mx m' + pb_lo m' ≤ pb_lo m) (hmc : pb_mc m' = 0) (hvd : pb_vd m' = false) (hcl : pb_cl[ci]? = some (C, T, N)) (hci : ci < 100) (w1 : Cond.methodLink (pb_y m).cls idx (pb_y m') ∈ pb_ALL) (w2 : Cond.instanceMethod (pb_y m') ∈ pb_ALL) (w3 : Cond.selects C (pb_y m') (pb_y m') ∈ pb_ALL) (hk : pb_le k (pb_WJ x m n0 Q (pc + 3))) : pb_le (pb_cr x m' na ci k) (pb_WJ x m n0 Q pc) := by
  intro L S n σ h p e R Z s mm args below meth c H locs cells slots ls hR hZ hC hI hl hS hL h1 h2
  unfold pb_cr at h
  split at h
  · rename_i q As S' htk
    obtain ⟨hq, hlen, Q0, hQ0, hM⟩ := h
    obtain ⟨hSe, hAl⟩ := pb_stk htk
    subst hSe
    obtain ⟨g0, g1, g2⟩ := hq
    obtain ⟨j, rfl⟩ := Int.eq_ofNat_of_zero_le g0
    have hn9 := hI.2.2.2.1.2.1
    have hj : j < n := by omega
    have hts := hC.2.2.2.2.1
    have hAs : ∀ v ∈ (.inr (j : Int) :: As : List pb_V), pb_vR v := fun v hv => hS v (by simp only [List.mem_append, List.mem_reverse, List.mem_cons] at hv ⊢; rcases hv with hv | hv; exact Or.inr (Or.inl hv); exact Or.inl hv)
    have hS' : ∀ v ∈ S', pb_vR v := fun v hv => hS v (by simp only [List.mem_append, List.mem_cons]; exact Or.inr (Or.inr hv))
    refine pb_sz hI h1.1 h1.2.1 (fun hsz => ?_)
    refine pb_goon (Q' := Q0) (va_runV (As := As.map (pb_e x)) (b := x.2.2.2.1 + j) (rest := S'.map (pb_e x)) (C := C) ⟨hC.1, hC.2.1, hC.2.2.1, hC.2.2.2.1, hts⟩ hM ⟨callB_of na hts (pb_goodIn hm) rfl rfl rfl (hts _ hm.2.2.2) (hts _ w1) hm.2.1 (pb_room hrk hR), hts _ w2, hts _ w3⟩ ⟨pb_blind _ _ _, va_recv hI.1 hI.2.1 hcl ((pb_ws_at hj).trans (by rw [pb_cell_obj g2 hci])), fun U hU hW => pb_at hI hsz hAs (by rw [List.map_cons, pb_e_pos (by omega)]) hU hW⟩ rfl (by simpa using hAl) hl.1 (by show List.map _ _ = _; rw [List.map_append, List.map_cons, List.map_reverse, pb_e_pos (by omega)]) (lv_room (by rw [pb_cats]; exact hlen)) hd ⟨by have := hR.2.1; omega, by have := hR.2.2.1; show slots + 64 * pb_mc m' ≤ R.slots; omega⟩) hI (by omega) (fun v σ' H1 locs1 hQ hvR hI1 => ?_)
    have e1 : cells + pb_mc m' = cells := by omega
    have e2 : slots + pb_ms m' = slots := by show slots + 64 * pb_mc m' = slots; omega
    have e3 : n + pb_mc m' = n := by omega
    rw [e3] at hI1
    rw [e1, e2]
    rw [hvd, if_neg (by decide)]
    exact hk L (v :: S') n σ' (hQ0 v σ' hQ) p e R Z s mm args below meth c H1 locs1 cells slots ls hR hZ hC hI1 hl (List.forall_mem_cons.mpr ⟨hvR, hS'⟩) hL h1 h2
  · exact h.elim
theorem pb_s_Sr {m' na idx : Nat} (hd : decode (pb_code m) pc = .ok (.invokestatic idx, 3)) (hm : pb_mok m' na) (hrk : pb_rk m' < pb_rk m ∧ 19 + pb_mx m' + pb_lo m' ≤ pb_lo m) (hmc : pb_mc m' = 0) (hvd : pb_vd m' = false) (w1 : Cond.methodLink (pb_y m).cls idx (pb_y m') ∈ pb_ALL) (w2 : Cond.static (pb_y m') ∈ pb_ALL) (hk : pb_le k (pb_WJ x m n0 Q (pc + 3))) : pb_le (pb_sr x m' na k) (pb_WJ x m n0 Q pc) := by
  intro L S n σ h p e R Z s mm args below meth c H locs cells slots ls hR hZ hC hI hl hS hL h1 h2
  unfold pb_sr at h
  split at h
  · rename_i As S' htk
    obtain ⟨hlen, Q0, hQ0, hM⟩ := h
    obtain ⟨pre, hSe, hAe, hAl⟩ := pb_tk_spec _ _ _ _ _ htk
    rw [List.append_nil] at hAe
    obtain rfl : pre = As.reverse := by rw [hAe, List.reverse_reverse]
    subst hSe
    have hn9 := hI.2.2.2.1.2.1
    have hts := hC.2.2.2.2.1
    have hAs : ∀ v ∈ As, pb_vR v := fun v hv => hS v (by simp only [List.mem_append, List.mem_reverse]; exact Or.inl hv)
    have hS' : ∀ v ∈ S', pb_vR v := fun v hv => hS v (by simp only [List.mem_append]; exact Or.inr hv)
    refine pb_sz hI h1.1 h1.2.1 (fun hsz => ?_)
    refine pb_goon (Q' := Q0) (va_runS (As := As.map (pb_e x)) (rest := S'.map (pb_e x)) ⟨hC.1, hC.2.1, hC.2.2.1, hC.2.2.2.1, hts⟩ hM ⟨callB_of na hts (pb_goodIn hm) rfl rfl rfl (hts _ hm.2.2.2) (hts _ w1) hm.2.1 (pb_room hrk hR), hts _ w2⟩ ⟨pb_blind _ _ _, fun U hU hW => pb_at hI hsz hAs rfl hU hW⟩ rfl (by simpa using hAl) hl.1 (by show List.map _ _ = _; rw [List.map_append, List.map_reverse]) (lv_room (by rw [pb_cats]; exact hlen)) hd ⟨by have := hR.2.1; omega, by have := hR.2.2.1; show slots + 64 * pb_mc m' ≤ R.slots; omega⟩) hI (by omega) (fun v σ' H1 locs1 hQ hvR hI1 => ?_)
    have e1 : cells + pb_mc m' = cells := by omega
    have e2 : slots + pb_ms m' = slots := by show slots + 64 * pb_mc m' = slots; omega
    have e3 : n + pb_mc m' = n := by omega
    rw [e3] at hI1
    rw [e1, e2]
    rw [hvd, if_neg (by decide)]
    exact hk L (v :: S') n σ' (hQ0 v σ' hQ) p e R Z s mm args below meth c H1 locs1 cells slots ls hR hZ hC hI1 hl (List.forall_mem_cons.mpr ⟨hvR, hS'⟩) hL h1 h2
  · exact h.elim
theorem pb_s_I {lim m' na mc idx : Nat} (hd : decode (pb_code m) pc = .ok (.invokespecial idx, 3)) (hm : pb_mok m' na) (hrk : pb_rk m' < pb_rk m ∧ 19 + pb_mx m' + pb_lo m' ≤ pb_lo m) (hmc : pb_mc m' = mc) (hmc9 : mc ≤ 1000) (hrt : pb_rt m' = none) (hy1 : (pb_y m').name = "<init>") (hlim : lim = n0 + pb_mc m) (w1 : Cond.methodLink (pb_y m).cls idx (pb_y m') ∈ pb_ALL) (w2 : Cond.instanceMethod (pb_y m') ∈ pb_ALL) (hk : pb_le k (pb_WJ x m n0 Q (pc + 3))) : pb_le (pb_ci x lim m' na mc k) (pb_WJ x m n0 Q pc) := by
  intro L S n σ h p e R Z s mm args below meth c H locs cells slots ls hR hZ hC hI hl hS hL h1 h2
  unfold pb_ci at h
  split at h
  · rename_i q As S' htk
    obtain ⟨hq, hln, hn8, hlen, Q0, hQ0, hM⟩ := h
    obtain ⟨hSe, hAl⟩ := pb_stk htk
    subst hSe
    obtain ⟨g0, g1⟩ := hq
    obtain ⟨j, rfl⟩ := Int.eq_ofNat_of_zero_le g0
    have hn9 := hI.2.2.2.1.2.1
    have hj : j < n := by omega
    have hts := hC.2.2.2.2.1
    have hAs : ∀ v ∈ (.inr (j : Int) :: As : List pb_V), pb_vR v := fun v hv => hS v (by simp only [List.mem_append, List.mem_reverse, List.mem_cons] at hv ⊢; rcases hv with hv | hv; exact Or.inr (Or.inl hv); exact Or.inl hv)
    have hS' : ∀ v ∈ S', pb_vR v := fun v hv => hS v (by simp only [List.mem_append, List.mem_cons]; exact Or.inr (Or.inr hv))
    have hwd : pb_wd m' = Cond.code (pb_y m') (pb_code m') (pb_mx m') none :: pb_ALL := by rw [← hrt]; rfl
    refine pb_sz hI h1.1 h1.2.1 (fun hsz => ?_)
    refine pb_goon (Q' := Q0) (va_runI (As := As.map (pb_e x)) (b := x.2.2.2.1 + j) (rest := S'.map (pb_e x)) ⟨hC.1, hC.2.1, hC.2.2.1, hC.2.2.2.1, hts⟩ hM ⟨callB_of na hts (pb_goodIn hm) hwd rfl rfl (hts _ hm.2.2.2) (hts _ w1) hm.2.1 (pb_room hrk hR), hy1, hts _ w2⟩ ⟨pb_blind _ _ _, fun U hU hW => pb_at hI hsz hAs (by rw [List.map_cons, pb_e_pos (by omega)]) hU hW⟩ rfl (by simpa using hAl) hl.1 (by show List.map _ _ = _; rw [List.map_append, List.map_cons, List.map_reverse, pb_e_pos (by omega)]) (lv_room (by rw [pb_cats]; exact hlen)) hd ⟨by have := hR.2.1; omega, by have := hR.2.2.1; show slots + 64 * pb_mc m' ≤ R.slots; omega⟩) hI (by omega) (fun v σ' H1 locs1 hQ hvR hI1 => ?_)
    have hvd : pb_vd m' = true := by unfold pb_vd; rw [hrt]; rfl
    rw [hvd, if_pos rfl]
    have e2 : slots + pb_ms m' = 64 * (cells + pb_mc m') := by show slots + 64 * pb_mc m' = _; omega
    rw [e2]
    rw [hmc] at hI1 ⊢
    exact hk L S' (n + mc) σ' (hQ0 v σ' hQ) p e R Z s mm args below meth c H1 locs1 (cells + mc) _ ls hR hZ hC hI1 hl hS' hL ⟨by omega, h1.2.1, by omega⟩ rfl
  · exact h.elim
theorem pb_s_IN {lim m' na mc idx : Nat} {host : String} (hd : decode (pb_code m) pc = .ok (.invokespecial idx, 3)) (hm : pb_mok m' na) (hrk : pb_rk m' < pb_rk m ∧ 19 + pb_mx m' + pb_lo m' ≤ pb_lo m) (hmc : pb_mc m' = mc) (hmc9 : mc ≤ 1000) (hrt : pb_rt m' = none) (hy1 : (pb_y m').name = "<init>") (hlim : lim = n0 + pb_mc m) (w1 : ((pb_y m).cls, idx, pb_y m', host) ∈ pb_nest) (w2 : Cond.instanceMethod (pb_y m') ∈ pb_ALL) (hk : pb_le k (pb_WJ x m n0 Q (pc + 3))) : pb_le (pb_ci x lim m' na mc k) (pb_WJ x m n0 Q pc) := by
  intro L S n σ h p e R Z s mm args below meth c H locs cells slots ls hR hZ hC hI hl hS hL h1 h2
  unfold pb_ci at h
  split at h
  · rename_i q As S' htk
    obtain ⟨hq, hln, hn8, hlen, Q0, hQ0, hM⟩ := h
    obtain ⟨hSe, hAl⟩ := pb_stk htk
    subst hSe
    obtain ⟨g0, g1⟩ := hq
    obtain ⟨j, rfl⟩ := Int.eq_ofNat_of_zero_le g0
    have hn9 := hI.2.2.2.1.2.1
    have hj : j < n := by omega
    have hts := hC.2.2.2.2.1
    have hAs : ∀ v ∈ (.inr (j : Int) :: As : List pb_V), pb_vR v := fun v hv => hS v (by simp only [List.mem_append, List.mem_reverse, List.mem_cons] at hv ⊢; rcases hv with hv | hv; exact Or.inr (Or.inl hv); exact Or.inl hv)
    have hS' : ∀ v ∈ S', pb_vR v := fun v hv => hS v (by simp only [List.mem_append, List.mem_cons]; exact Or.inr (Or.inr hv))
    have hwd : pb_wd m' = Cond.code (pb_y m') (pb_code m') (pb_mx m') none :: pb_ALL := by rw [← hrt]; rfl
    refine pb_sz hI h1.1 h1.2.1 (fun hsz => ?_)
    refine pb_goon (Q' := Q0) (va_runIN (As := As.map (pb_e x)) (b := x.2.2.2.1 + j) (rest := S'.map (pb_e x)) ⟨hC.1, hC.2.1, hC.2.2.1, hC.2.2.2.1, hts⟩ hM ⟨va_cnB na hts (pb_goodIn hm) hwd rfl rfl (hI.2.2.2.1.2.2.2.2.1 _ w1) (hts _ hm.2.2.2) hm.2.1 (pb_room hrk hR), hy1, hts _ w2⟩ ⟨pb_blind _ _ _, fun U hU hW => pb_at hI hsz hAs (by rw [List.map_cons, pb_e_pos (by omega)]) hU hW⟩ rfl (by simpa using hAl) hl.1 (by show List.map _ _ = _; rw [List.map_append, List.map_cons, List.map_reverse, pb_e_pos (by omega)]) (lv_room (by rw [pb_cats]; exact hlen)) hd ⟨by have := hR.2.1; omega, by have := hR.2.2.1; show slots + 64 * pb_mc m' ≤ R.slots; omega⟩) hI (by omega) (fun v σ' H1 locs1 hQ hvR hI1 => ?_)
    have hvd : pb_vd m' = true := by unfold pb_vd; rw [hrt]; rfl
    rw [hvd, if_pos rfl]
    have e2 : slots + pb_ms m' = 64 * (cells + pb_mc m') := by show slots + 64 * pb_mc m' = _; omega
    rw [e2]
    rw [hmc] at hI1 ⊢
    exact hk L S' (n + mc) σ' (hQ0 v σ' hQ) p e R Z s mm args below meth c H1 locs1 (cells + mc) _ ls hR hZ hC hI1 hl hS' hL ⟨by omega, h1.2.1, by omega⟩ rfl
  · exact h.elim
end PBC
end
section
/-! words: printed by gen3.py -/
theorem pb_tw (i : Nat) {w : Cond} (h : tables_1[i]? = some w) (hg : goodWord w = true) : w ∈ pb_ALL := List.mem_filter.mpr ⟨List.mem_append_right _ (List.mem_of_getElem? h), hg⟩
theorem pb_pw (i : Nat) {w : Cond} (h : (k2_sels lw_privs)[i]? = some w) (hg : goodWord w = true) : w ∈ pb_ALL := List.mem_filter.mpr ⟨List.mem_append_left _ (List.mem_of_getElem? h), hg⟩
theorem wd_0 : Cond.initialized "PassiveBusesLaw" ∈ pb_ALL := pb_tw 0 (by decide +kernel) rfl
theorem wd_1 : Cond.initialized "PassiveBuses" ∈ pb_ALL := pb_tw 1 (by decide +kernel) rfl
theorem wd_2 : Cond.initialized "PassiveBuses$Bus" ∈ pb_ALL := pb_tw 2 (by decide +kernel) rfl
theorem wd_3 : Cond.initialized "PassiveBuses$Row" ∈ pb_ALL := pb_tw 3 (by decide +kernel) rfl
theorem wd_4 : Cond.initialized "PassiveBuses$Frame" ∈ pb_ALL := pb_tw 4 (by decide +kernel) rfl
theorem wd_5 : Cond.initialized "PassiveBuses$Terminal" ∈ pb_ALL := pb_tw 5 (by decide +kernel) rfl
theorem wd_6 : Cond.initialized "PassiveBuses$Line" ∈ pb_ALL := pb_tw 6 (by decide +kernel) rfl
theorem wd_7 : Cond.initialized "PassiveBuses$Call" ∈ pb_ALL := pb_tw 7 (by decide +kernel) rfl
theorem wd_8 : Cond.initialized "PassiveBusesModel" ∈ pb_ALL := pb_tw 8 (by decide +kernel) rfl
theorem wd_9 : Cond.initialized "java/lang/Integer" ∈ pb_ALL := pb_tw 9 (by decide +kernel) rfl
theorem wd_10 : Cond.classLink "PassiveBusesLaw" 7 "PassiveBuses" ∈ pb_ALL := pb_tw 10 (by decide +kernel) rfl
theorem wd_11 : Cond.instantiable "PassiveBuses" 5 ∈ pb_ALL := pb_tw 11 (by decide +kernel) rfl
theorem wd_12 : Cond.methodLink "PassiveBusesLaw" 9 ⟨"PassiveBuses", "<init>", "()V"⟩ ∈ pb_ALL := pb_tw 12 (by decide +kernel) rfl
theorem wd_13 : Cond.instanceMethod ⟨"PassiveBuses", "<init>", "()V"⟩ ∈ pb_ALL := pb_tw 13 (by decide +kernel) rfl
set_option maxRecDepth 40000 in
theorem wd_14 : Cond.code ⟨"PassiveBuses", "<init>", "()V"⟩ prog_1_method_1_code 2 none ∈ pb_ALL := pb_tw 14 (rfl) rfl
theorem wd_15 : Cond.methodLink "PassiveBuses" 1 ⟨"java/lang/Object", "<init>", "()V"⟩ ∈ pb_ALL := pb_tw 15 (by decide +kernel) rfl
theorem wd_16 : Cond.instanceMethod ⟨"java/lang/Object", "<init>", "()V"⟩ ∈ pb_ALL := pb_tw 16 (by decide +kernel) rfl
set_option maxRecDepth 40000 in
theorem wd_17 : Cond.code ⟨"java/lang/Object", "<init>", "()V"⟩ object_method_1_code 1 none ∈ pb_ALL := pb_tw 17 (rfl) rfl
theorem wd_18 : Cond.classLink "PassiveBuses" 9 "PassiveBuses$Bus" ∈ pb_ALL := pb_tw 18 (by decide +kernel) rfl
theorem wd_20 : Cond.classLink "PassiveBuses" 15 "PassiveBuses$Call" ∈ pb_ALL := pb_tw 20 (by decide +kernel) rfl
theorem wd_22 : Cond.instantiable "PassiveBuses$Bus" 5 ∈ pb_ALL := pb_tw 22 (by decide +kernel) rfl
theorem wd_23 : Cond.methodLink "PassiveBuses" 31 ⟨"PassiveBuses$Bus", "<init>", "()V"⟩ ∈ pb_ALL := pb_tw 23 (by decide +kernel) rfl
theorem wd_24 : Cond.instanceMethod ⟨"PassiveBuses$Bus", "<init>", "()V"⟩ ∈ pb_ALL := pb_tw 24 (by decide +kernel) rfl
set_option maxRecDepth 40000 in
theorem wd_25 : Cond.code ⟨"PassiveBuses$Bus", "<init>", "()V"⟩ prog_2_method_1_code 2 none ∈ pb_ALL := pb_tw 25 (rfl) rfl
theorem wd_26 : Cond.methodLink "PassiveBuses$Bus" 3 ⟨"java/lang/Object", "<init>", "()V"⟩ ∈ pb_ALL := pb_tw 26 (by decide +kernel) rfl
theorem wd_27 : Cond.classLink "PassiveBuses$Bus" 9 "PassiveBuses$Terminal" ∈ pb_ALL := pb_tw 27 (by decide +kernel) rfl
theorem wd_29 : Cond.classLink "PassiveBuses$Bus" 17 "PassiveBuses$Line" ∈ pb_ALL := pb_tw 29 (by decide +kernel) rfl
theorem wd_31 : Cond.classLink "PassiveBuses$Bus" 23 "PassiveBuses$Row" ∈ pb_ALL := pb_tw 31 (by decide +kernel) rfl
theorem wd_32 : Cond.instantiable "PassiveBuses$Row" 2 ∈ pb_ALL := pb_tw 32 (by decide +kernel) rfl
theorem wd_33 : Cond.methodLink "PassiveBuses$Bus" 25 ⟨"PassiveBuses$Row", "<init>", "(I)V"⟩ ∈ pb_ALL := pb_tw 33 (by decide +kernel) rfl
theorem wd_34 : Cond.instanceMethod ⟨"PassiveBuses$Row", "<init>", "(I)V"⟩ ∈ pb_ALL := pb_tw 34 (by decide +kernel) rfl
set_option maxRecDepth 40000 in
theorem wd_35 : Cond.code ⟨"PassiveBuses$Row", "<init>", "(I)V"⟩ prog_6_method_1_code 3 none ∈ pb_ALL := pb_tw 35 (rfl) rfl
theorem wd_36 : Cond.methodLink "PassiveBuses$Row" 1 ⟨"java/lang/Object", "<init>", "()V"⟩ ∈ pb_ALL := pb_tw 36 (by decide +kernel) rfl
theorem wd_37 : Cond.classLink "PassiveBuses$Row" 13 "PassiveBuses$Frame" ∈ pb_ALL := pb_tw 37 (by decide +kernel) rfl
theorem wd_39 : Cond.instantiable "PassiveBuses$Frame" 5 ∈ pb_ALL := pb_tw 39 (by decide +kernel) rfl
theorem wd_41 : Cond.instanceMethod ⟨"PassiveBuses$Frame", "<init>", "()V"⟩ ∈ pb_ALL := pb_tw 41 (by decide +kernel) rfl
set_option maxRecDepth 40000 in
theorem wd_42 : Cond.code ⟨"PassiveBuses$Frame", "<init>", "()V"⟩ prog_4_method_1_code 1 none ∈ pb_ALL := pb_tw 42 (rfl) rfl
theorem wd_43 : Cond.methodLink "PassiveBuses$Frame" 3 ⟨"java/lang/Object", "<init>", "()V"⟩ ∈ pb_ALL := pb_tw 43 (by decide +kernel) rfl
theorem wd_44 : Cond.fieldLink "PassiveBuses$Frame" 9 "PassiveBuses$Frame" "kind" "I" ∈ pb_ALL := pb_tw 44 (by decide +kernel) rfl
theorem wd_45 : Cond.fieldLink "PassiveBuses$Row" 20 "PassiveBuses$Frame" "kind" "I" ∈ pb_ALL := pb_tw 45 (by decide +kernel) rfl
theorem wd_46 : Cond.fieldLink "PassiveBuses$Terminal" 110 "PassiveBuses$Frame" "kind" "I" ∈ pb_ALL := pb_tw 46 (by decide +kernel) rfl
theorem wd_47 : Cond.fieldLink "PassiveBuses" 210 "PassiveBuses$Frame" "kind" "I" ∈ pb_ALL := pb_tw 47 (by decide +kernel) rfl
theorem wd_48 : Cond.fieldLink "PassiveBuses$Row" 23 "PassiveBuses$Frame" "address" "I" ∈ pb_ALL := pb_tw 48 (by decide +kernel) rfl
theorem wd_49 : Cond.fieldLink "PassiveBuses$Frame" 18 "PassiveBuses$Frame" "address" "I" ∈ pb_ALL := pb_tw 49 (by decide +kernel) rfl
theorem wd_50 : Cond.fieldLink "PassiveBuses$Bus" 73 "PassiveBuses$Frame" "address" "I" ∈ pb_ALL := pb_tw 50 (by decide +kernel) rfl
theorem wd_51 : Cond.fieldLink "PassiveBuses$Call" 53 "PassiveBuses$Frame" "address" "I" ∈ pb_ALL := pb_tw 51 (by decide +kernel) rfl
theorem wd_52 : Cond.fieldLink "PassiveBuses$Terminal" 116 "PassiveBuses$Frame" "address" "I" ∈ pb_ALL := pb_tw 52 (by decide +kernel) rfl
theorem wd_53 : Cond.fieldLink "PassiveBuses" 197 "PassiveBuses$Frame" "address" "I" ∈ pb_ALL := pb_tw 53 (by decide +kernel) rfl
theorem wd_54 : Cond.fieldLink "PassiveBuses$Row" 26 "PassiveBuses$Frame" "reference" "I" ∈ pb_ALL := pb_tw 54 (by decide +kernel) rfl
theorem wd_55 : Cond.fieldLink "PassiveBuses$Frame" 27 "PassiveBuses$Frame" "reference" "I" ∈ pb_ALL := pb_tw 55 (by decide +kernel) rfl
theorem wd_56 : Cond.fieldLink "PassiveBuses$Call" 58 "PassiveBuses$Frame" "reference" "I" ∈ pb_ALL := pb_tw 56 (by decide +kernel) rfl
theorem wd_57 : Cond.fieldLink "PassiveBuses$Terminal" 117 "PassiveBuses$Frame" "reference" "I" ∈ pb_ALL := pb_tw 57 (by decide +kernel) rfl
theorem wd_58 : Cond.fieldLink "PassiveBuses" 232 "PassiveBuses$Frame" "reference" "I" ∈ pb_ALL := pb_tw 58 (by decide +kernel) rfl
theorem wd_59 : Cond.fieldLink "PassiveBuses$Row" 29 "PassiveBuses$Frame" "value" "I" ∈ pb_ALL := pb_tw 59 (by decide +kernel) rfl
theorem wd_60 : Cond.fieldLink "PassiveBuses$Frame" 30 "PassiveBuses$Frame" "value" "I" ∈ pb_ALL := pb_tw 60 (by decide +kernel) rfl
theorem wd_61 : Cond.fieldLink "PassiveBuses$Terminal" 113 "PassiveBuses$Frame" "value" "I" ∈ pb_ALL := pb_tw 61 (by decide +kernel) rfl
theorem wd_62 : Cond.fieldLink "PassiveBuses" 213 "PassiveBuses$Frame" "value" "I" ∈ pb_ALL := pb_tw 62 (by decide +kernel) rfl
theorem wd_63 : Cond.fieldLink "PassiveBuses$Row" 32 "PassiveBuses$Frame" "failures" "I" ∈ pb_ALL := pb_tw 63 (by decide +kernel) rfl
theorem wd_64 : Cond.fieldLink "PassiveBuses$Frame" 15 "PassiveBuses$Frame" "failures" "I" ∈ pb_ALL := pb_tw 64 (by decide +kernel) rfl
theorem wd_65 : Cond.lays "PassiveBuses$Frame" "PassiveBuses$Frame" "kind" "I" ∈ pb_ALL := pb_tw 65 (by decide +kernel) rfl
theorem wd_67 : Cond.lays "PassiveBuses$Frame" "PassiveBuses$Frame" "address" "I" ∈ pb_ALL := pb_tw 67 (by decide +kernel) rfl
theorem wd_69 : Cond.lays "PassiveBuses$Frame" "PassiveBuses$Frame" "reference" "I" ∈ pb_ALL := pb_tw 69 (by decide +kernel) rfl
theorem wd_71 : Cond.lays "PassiveBuses$Frame" "PassiveBuses$Frame" "value" "I" ∈ pb_ALL := pb_tw 71 (by decide +kernel) rfl
theorem wd_73 : Cond.lays "PassiveBuses$Frame" "PassiveBuses$Frame" "failures" "I" ∈ pb_ALL := pb_tw 73 (by decide +kernel) rfl
theorem wd_76 : Cond.fieldLink "PassiveBuses$Row" 15 "PassiveBuses$Row" "frames" "[LPassiveBuses$Frame;" ∈ pb_ALL := pb_tw 76 (by decide +kernel) rfl
theorem wd_77 : Cond.fieldLink "PassiveBuses$Row" 7 "PassiveBuses$Row" "size" "I" ∈ pb_ALL := pb_tw 77 (by decide +kernel) rfl
theorem wd_78 : Cond.fieldLink "PassiveBuses$Bus" 42 "PassiveBuses$Row" "size" "I" ∈ pb_ALL := pb_tw 78 (by decide +kernel) rfl
theorem wd_79 : Cond.fieldLink "PassiveBuses$Terminal" 83 "PassiveBuses$Row" "size" "I" ∈ pb_ALL := pb_tw 79 (by decide +kernel) rfl
theorem wd_80 : Cond.fieldLink "PassiveBuses" 144 "PassiveBuses$Row" "size" "I" ∈ pb_ALL := pb_tw 80 (by decide +kernel) rfl
theorem wd_81 : Cond.laysFinal "PassiveBuses$Row" "PassiveBuses$Row" "frames" "[LPassiveBuses$Frame;" ∈ pb_ALL := pb_tw 81 (by decide +kernel) rfl
theorem wd_83 : Cond.lays "PassiveBuses$Row" "PassiveBuses$Row" "size" "I" ∈ pb_ALL := pb_tw 83 (by decide +kernel) rfl
theorem wd_86 : Cond.instantiable "PassiveBuses$Terminal" 16 ∈ pb_ALL := pb_tw 86 (by decide +kernel) rfl
theorem wd_88 : Cond.instanceMethod ⟨"PassiveBuses$Terminal", "<init>", "()V"⟩ ∈ pb_ALL := pb_tw 88 (by decide +kernel) rfl
set_option maxRecDepth 40000 in
theorem wd_89 : Cond.code ⟨"PassiveBuses$Terminal", "<init>", "()V"⟩ prog_7_method_1_code 1 none ∈ pb_ALL := pb_tw 89 (rfl) rfl
theorem wd_90 : Cond.methodLink "PassiveBuses$Terminal" 3 ⟨"java/lang/Object", "<init>", "()V"⟩ ∈ pb_ALL := pb_tw 90 (by decide +kernel) rfl
theorem wd_91 : Cond.classLink "PassiveBuses$Terminal" 9 "PassiveBuses$Row" ∈ pb_ALL := pb_tw 91 (by decide +kernel) rfl
theorem wd_92 : Cond.methodLink "PassiveBuses$Terminal" 11 ⟨"PassiveBuses$Row", "<init>", "(I)V"⟩ ∈ pb_ALL := pb_tw 92 (by decide +kernel) rfl
theorem wd_93 : Cond.fieldLink "PassiveBuses$Terminal" 14 "PassiveBuses$Terminal" "row" "LPassiveBuses$Row;" ∈ pb_ALL := pb_tw 93 (by decide +kernel) rfl
theorem wd_94 : Cond.fieldLink "PassiveBuses$Bus" 41 "PassiveBuses$Terminal" "row" "LPassiveBuses$Row;" ∈ pb_ALL := pb_tw 94 (by decide +kernel) rfl
theorem wd_95 : Cond.fieldLink "PassiveBuses" 67 "PassiveBuses$Terminal" "row" "LPassiveBuses$Row;" ∈ pb_ALL := pb_tw 95 (by decide +kernel) rfl
theorem wd_96 : Cond.fieldLink "PassiveBuses$Terminal" 20 "PassiveBuses$Terminal" "plugged" "Z" ∈ pb_ALL := pb_tw 96 (by decide +kernel) rfl
theorem wd_97 : Cond.fieldLink "PassiveBuses" 41 "PassiveBuses$Terminal" "plugged" "Z" ∈ pb_ALL := pb_tw 97 (by decide +kernel) rfl
theorem wd_98 : Cond.fieldLink "PassiveBuses$Bus" 83 "PassiveBuses$Terminal" "plugged" "Z" ∈ pb_ALL := pb_tw 98 (by decide +kernel) rfl
theorem wd_99 : Cond.fieldLink "PassiveBuses$Terminal" 24 "PassiveBuses$Terminal" "mild" "Z" ∈ pb_ALL := pb_tw 99 (by decide +kernel) rfl
theorem wd_100 : Cond.fieldLink "PassiveBuses$Bus" 61 "PassiveBuses$Terminal" "mild" "Z" ∈ pb_ALL := pb_tw 100 (by decide +kernel) rfl
theorem wd_101 : Cond.fieldLink "PassiveBuses" 128 "PassiveBuses$Terminal" "mild" "Z" ∈ pb_ALL := pb_tw 101 (by decide +kernel) rfl
theorem wd_102 : Cond.fieldLink "PassiveBuses$Terminal" 27 "PassiveBuses$Terminal" "sending" "Z" ∈ pb_ALL := pb_tw 102 (by decide +kernel) rfl
theorem wd_103 : Cond.fieldLink "PassiveBuses$Bus" 57 "PassiveBuses$Terminal" "sending" "Z" ∈ pb_ALL := pb_tw 103 (by decide +kernel) rfl
theorem wd_104 : Cond.fieldLink "PassiveBuses$Terminal" 30 "PassiveBuses$Terminal" "address" "I" ∈ pb_ALL := pb_tw 104 (by decide +kernel) rfl
theorem wd_105 : Cond.fieldLink "PassiveBuses" 58 "PassiveBuses$Terminal" "address" "I" ∈ pb_ALL := pb_tw 105 (by decide +kernel) rfl
theorem wd_106 : Cond.fieldLink "PassiveBuses$Bus" 90 "PassiveBuses$Terminal" "address" "I" ∈ pb_ALL := pb_tw 106 (by decide +kernel) rfl
theorem wd_107 : Cond.fieldLink "PassiveBuses$Terminal" 34 "PassiveBuses$Terminal" "draw" "I" ∈ pb_ALL := pb_tw 107 (by decide +kernel) rfl
theorem wd_108 : Cond.fieldLink "PassiveBuses" 125 "PassiveBuses$Terminal" "draw" "I" ∈ pb_ALL := pb_tw 108 (by decide +kernel) rfl
theorem wd_109 : Cond.fieldLink "PassiveBuses$Terminal" 37 "PassiveBuses$Terminal" "clock" "I" ∈ pb_ALL := pb_tw 109 (by decide +kernel) rfl
theorem wd_110 : Cond.fieldLink "PassiveBuses$Terminal" 40 "PassiveBuses$Terminal" "state" "I" ∈ pb_ALL := pb_tw 110 (by decide +kernel) rfl
theorem wd_111 : Cond.fieldLink "PassiveBuses" 61 "PassiveBuses$Terminal" "state" "I" ∈ pb_ALL := pb_tw 111 (by decide +kernel) rfl
theorem wd_112 : Cond.fieldLink "PassiveBuses$Bus" 105 "PassiveBuses$Terminal" "state" "I" ∈ pb_ALL := pb_tw 112 (by decide +kernel) rfl
theorem wd_113 : Cond.fieldLink "PassiveBuses$Terminal" 43 "PassiveBuses$Terminal" "reference" "I" ∈ pb_ALL := pb_tw 113 (by decide +kernel) rfl
theorem wd_114 : Cond.fieldLink "PassiveBuses" 71 "PassiveBuses$Terminal" "reference" "I" ∈ pb_ALL := pb_tw 114 (by decide +kernel) rfl
theorem wd_115 : Cond.fieldLink "PassiveBuses$Terminal" 46 "PassiveBuses$Terminal" "channel" "I" ∈ pb_ALL := pb_tw 115 (by decide +kernel) rfl
theorem wd_116 : Cond.fieldLink "PassiveBuses$Bus" 108 "PassiveBuses$Terminal" "channel" "I" ∈ pb_ALL := pb_tw 116 (by decide +kernel) rfl
theorem wd_117 : Cond.fieldLink "PassiveBuses" 131 "PassiveBuses$Terminal" "channel" "I" ∈ pb_ALL := pb_tw 117 (by decide +kernel) rfl
theorem wd_118 : Cond.fieldLink "PassiveBuses$Terminal" 49 "PassiveBuses$Terminal" "cause" "I" ∈ pb_ALL := pb_tw 118 (by decide +kernel) rfl
theorem wd_119 : Cond.fieldLink "PassiveBuses" 134 "PassiveBuses$Terminal" "cause" "I" ∈ pb_ALL := pb_tw 119 (by decide +kernel) rfl
theorem wd_120 : Cond.fieldLink "PassiveBuses$Terminal" 52 "PassiveBuses$Terminal" "mouth" "I" ∈ pb_ALL := pb_tw 120 (by decide +kernel) rfl
theorem wd_121 : Cond.fieldLink "PassiveBuses" 80 "PassiveBuses$Terminal" "mouth" "I" ∈ pb_ALL := pb_tw 121 (by decide +kernel) rfl
theorem wd_122 : Cond.fieldLink "PassiveBuses$Bus" 111 "PassiveBuses$Terminal" "mouth" "I" ∈ pb_ALL := pb_tw 122 (by decide +kernel) rfl
theorem wd_123 : Cond.fieldLink "PassiveBuses$Terminal" 55 "PassiveBuses$Terminal" "ear" "I" ∈ pb_ALL := pb_tw 123 (by decide +kernel) rfl
theorem wd_124 : Cond.fieldLink "PassiveBuses" 137 "PassiveBuses$Terminal" "ear" "I" ∈ pb_ALL := pb_tw 124 (by decide +kernel) rfl
theorem wd_125 : Cond.fieldLink "PassiveBuses$Terminal" 58 "PassiveBuses$Terminal" "dials" "I" ∈ pb_ALL := pb_tw 125 (by decide +kernel) rfl
theorem wd_126 : Cond.fieldLink "PassiveBuses$Terminal" 61 "PassiveBuses$Terminal" "sendBit" "I" ∈ pb_ALL := pb_tw 126 (by decide +kernel) rfl
theorem wd_127 : Cond.fieldLink "PassiveBuses" 173 "PassiveBuses$Terminal" "sendBit" "I" ∈ pb_ALL := pb_tw 127 (by decide +kernel) rfl
theorem wd_128 : Cond.fieldLink "PassiveBuses$Terminal" 64 "PassiveBuses$Terminal" "receiveBit" "I" ∈ pb_ALL := pb_tw 128 (by decide +kernel) rfl
theorem wd_129 : Cond.laysFinal "PassiveBuses$Terminal" "PassiveBuses$Terminal" "row" "LPassiveBuses$Row;" ∈ pb_ALL := pb_tw 129 (by decide +kernel) rfl
theorem wd_131 : Cond.lays "PassiveBuses$Terminal" "PassiveBuses$Terminal" "plugged" "Z" ∈ pb_ALL := pb_tw 131 (by decide +kernel) rfl
theorem wd_133 : Cond.lays "PassiveBuses$Terminal" "PassiveBuses$Terminal" "mild" "Z" ∈ pb_ALL := pb_tw 133 (by decide +kernel) rfl
theorem wd_135 : Cond.lays "PassiveBuses$Terminal" "PassiveBuses$Terminal" "sending" "Z" ∈ pb_ALL := pb_tw 135 (by decide +kernel) rfl
theorem wd_137 : Cond.lays "PassiveBuses$Terminal" "PassiveBuses$Terminal" "address" "I" ∈ pb_ALL := pb_tw 137 (by decide +kernel) rfl
theorem wd_139 : Cond.lays "PassiveBuses$Terminal" "PassiveBuses$Terminal" "draw" "I" ∈ pb_ALL := pb_tw 139 (by decide +kernel) rfl
theorem wd_141 : Cond.lays "PassiveBuses$Terminal" "PassiveBuses$Terminal" "clock" "I" ∈ pb_ALL := pb_tw 141 (by decide +kernel) rfl
theorem wd_143 : Cond.lays "PassiveBuses$Terminal" "PassiveBuses$Terminal" "state" "I" ∈ pb_ALL := pb_tw 143 (by decide +kernel) rfl
theorem wd_145 : Cond.lays "PassiveBuses$Terminal" "PassiveBuses$Terminal" "reference" "I" ∈ pb_ALL := pb_tw 145 (by decide +kernel) rfl
theorem wd_147 : Cond.lays "PassiveBuses$Terminal" "PassiveBuses$Terminal" "channel" "I" ∈ pb_ALL := pb_tw 147 (by decide +kernel) rfl
theorem wd_149 : Cond.lays "PassiveBuses$Terminal" "PassiveBuses$Terminal" "cause" "I" ∈ pb_ALL := pb_tw 149 (by decide +kernel) rfl
theorem wd_151 : Cond.lays "PassiveBuses$Terminal" "PassiveBuses$Terminal" "mouth" "I" ∈ pb_ALL := pb_tw 151 (by decide +kernel) rfl
theorem wd_153 : Cond.lays "PassiveBuses$Terminal" "PassiveBuses$Terminal" "ear" "I" ∈ pb_ALL := pb_tw 153 (by decide +kernel) rfl
theorem wd_155 : Cond.lays "PassiveBuses$Terminal" "PassiveBuses$Terminal" "dials" "I" ∈ pb_ALL := pb_tw 155 (by decide +kernel) rfl
theorem wd_157 : Cond.lays "PassiveBuses$Terminal" "PassiveBuses$Terminal" "sendBit" "I" ∈ pb_ALL := pb_tw 157 (by decide +kernel) rfl
theorem wd_159 : Cond.lays "PassiveBuses$Terminal" "PassiveBuses$Terminal" "receiveBit" "I" ∈ pb_ALL := pb_tw 159 (by decide +kernel) rfl
theorem wd_162 : Cond.instantiable "PassiveBuses$Line" 6 ∈ pb_ALL := pb_tw 162 (by decide +kernel) rfl
theorem wd_164 : Cond.instanceMethod ⟨"PassiveBuses$Line", "<init>", "()V"⟩ ∈ pb_ALL := pb_tw 164 (by decide +kernel) rfl
set_option maxRecDepth 40000 in
theorem wd_165 : Cond.code ⟨"PassiveBuses$Line", "<init>", "()V"⟩ prog_5_method_1_code 1 none ∈ pb_ALL := pb_tw 165 (rfl) rfl
theorem wd_166 : Cond.methodLink "PassiveBuses$Line" 1 ⟨"java/lang/Object", "<init>", "()V"⟩ ∈ pb_ALL := pb_tw 166 (by decide +kernel) rfl
theorem wd_167 : Cond.fieldLink "PassiveBuses$Line" 7 "PassiveBuses$Line" "given" "Z" ∈ pb_ALL := pb_tw 167 (by decide +kernel) rfl
theorem wd_168 : Cond.fieldLink "PassiveBuses$Bus" 80 "PassiveBuses$Line" "given" "Z" ∈ pb_ALL := pb_tw 168 (by decide +kernel) rfl
theorem wd_169 : Cond.fieldLink "PassiveBuses" 97 "PassiveBuses$Line" "given" "Z" ∈ pb_ALL := pb_tw 169 (by decide +kernel) rfl
theorem wd_170 : Cond.fieldLink "PassiveBuses$Line" 13 "PassiveBuses$Line" "sendBit" "I" ∈ pb_ALL := pb_tw 170 (by decide +kernel) rfl
theorem wd_171 : Cond.fieldLink "PassiveBuses$Bus" 95 "PassiveBuses$Line" "sendBit" "I" ∈ pb_ALL := pb_tw 171 (by decide +kernel) rfl
theorem wd_172 : Cond.fieldLink "PassiveBuses" 198 "PassiveBuses$Line" "sendBit" "I" ∈ pb_ALL := pb_tw 172 (by decide +kernel) rfl
theorem wd_173 : Cond.fieldLink "PassiveBuses$Line" 17 "PassiveBuses$Line" "receiveBit" "I" ∈ pb_ALL := pb_tw 173 (by decide +kernel) rfl
theorem wd_174 : Cond.fieldLink "PassiveBuses$Bus" 98 "PassiveBuses$Line" "receiveBit" "I" ∈ pb_ALL := pb_tw 174 (by decide +kernel) rfl
theorem wd_175 : Cond.fieldLink "PassiveBuses" 219 "PassiveBuses$Line" "receiveBit" "I" ∈ pb_ALL := pb_tw 175 (by decide +kernel) rfl
theorem wd_176 : Cond.fieldLink "PassiveBuses$Line" 20 "PassiveBuses$Line" "audited" "Z" ∈ pb_ALL := pb_tw 176 (by decide +kernel) rfl
theorem wd_177 : Cond.fieldLink "PassiveBuses" 102 "PassiveBuses$Line" "audited" "Z" ∈ pb_ALL := pb_tw 177 (by decide +kernel) rfl
theorem wd_178 : Cond.fieldLink "PassiveBuses$Line" 23 "PassiveBuses$Line" "auditClock" "I" ∈ pb_ALL := pb_tw 178 (by decide +kernel) rfl
theorem wd_179 : Cond.fieldLink "PassiveBuses" 105 "PassiveBuses$Line" "auditClock" "I" ∈ pb_ALL := pb_tw 179 (by decide +kernel) rfl
theorem wd_180 : Cond.fieldLink "PassiveBuses$Line" 26 "PassiveBuses$Line" "replies" "I" ∈ pb_ALL := pb_tw 180 (by decide +kernel) rfl
theorem wd_181 : Cond.fieldLink "PassiveBuses" 108 "PassiveBuses$Line" "replies" "I" ∈ pb_ALL := pb_tw 181 (by decide +kernel) rfl
theorem wd_182 : Cond.lays "PassiveBuses$Line" "PassiveBuses$Line" "given" "Z" ∈ pb_ALL := pb_tw 182 (by decide +kernel) rfl
theorem wd_184 : Cond.lays "PassiveBuses$Line" "PassiveBuses$Line" "sendBit" "I" ∈ pb_ALL := pb_tw 184 (by decide +kernel) rfl
theorem wd_186 : Cond.lays "PassiveBuses$Line" "PassiveBuses$Line" "receiveBit" "I" ∈ pb_ALL := pb_tw 186 (by decide +kernel) rfl
theorem wd_188 : Cond.lays "PassiveBuses$Line" "PassiveBuses$Line" "audited" "Z" ∈ pb_ALL := pb_tw 188 (by decide +kernel) rfl
theorem wd_190 : Cond.lays "PassiveBuses$Line" "PassiveBuses$Line" "auditClock" "I" ∈ pb_ALL := pb_tw 190 (by decide +kernel) rfl
theorem wd_192 : Cond.lays "PassiveBuses$Line" "PassiveBuses$Line" "replies" "I" ∈ pb_ALL := pb_tw 192 (by decide +kernel) rfl
theorem wd_195 : Cond.fieldLink "PassiveBuses$Bus" 11 "PassiveBuses$Bus" "terminals" "[LPassiveBuses$Terminal;" ∈ pb_ALL := pb_tw 195 (by decide +kernel) rfl
theorem wd_196 : Cond.fieldLink "PassiveBuses" 37 "PassiveBuses$Bus" "terminals" "[LPassiveBuses$Terminal;" ∈ pb_ALL := pb_tw 196 (by decide +kernel) rfl
theorem wd_197 : Cond.fieldLink "PassiveBuses$Bus" 19 "PassiveBuses$Bus" "lines" "[LPassiveBuses$Line;" ∈ pb_ALL := pb_tw 197 (by decide +kernel) rfl
theorem wd_198 : Cond.fieldLink "PassiveBuses" 147 "PassiveBuses$Bus" "lines" "[LPassiveBuses$Line;" ∈ pb_ALL := pb_tw 198 (by decide +kernel) rfl
theorem wd_199 : Cond.fieldLink "PassiveBuses$Bus" 28 "PassiveBuses$Bus" "row" "LPassiveBuses$Row;" ∈ pb_ALL := pb_tw 199 (by decide +kernel) rfl
theorem wd_200 : Cond.fieldLink "PassiveBuses" 111 "PassiveBuses$Bus" "row" "LPassiveBuses$Row;" ∈ pb_ALL := pb_tw 200 (by decide +kernel) rfl
theorem wd_201 : Cond.fieldLink "PassiveBuses$Bus" 32 "PassiveBuses$Bus" "spoilUp" "I" ∈ pb_ALL := pb_tw 201 (by decide +kernel) rfl
theorem wd_202 : Cond.fieldLink "PassiveBuses" 87 "PassiveBuses$Bus" "spoilUp" "I" ∈ pb_ALL := pb_tw 202 (by decide +kernel) rfl
theorem wd_203 : Cond.fieldLink "PassiveBuses$Bus" 36 "PassiveBuses$Bus" "spoilDown" "I" ∈ pb_ALL := pb_tw 203 (by decide +kernel) rfl
theorem wd_204 : Cond.fieldLink "PassiveBuses" 90 "PassiveBuses$Bus" "spoilDown" "I" ∈ pb_ALL := pb_tw 204 (by decide +kernel) rfl
theorem wd_205 : Cond.laysFinal "PassiveBuses$Bus" "PassiveBuses$Bus" "terminals" "[LPassiveBuses$Terminal;" ∈ pb_ALL := pb_tw 205 (by decide +kernel) rfl
theorem wd_207 : Cond.laysFinal "PassiveBuses$Bus" "PassiveBuses$Bus" "lines" "[LPassiveBuses$Line;" ∈ pb_ALL := pb_tw 207 (by decide +kernel) rfl
theorem wd_209 : Cond.laysFinal "PassiveBuses$Bus" "PassiveBuses$Bus" "row" "LPassiveBuses$Row;" ∈ pb_ALL := pb_tw 209 (by decide +kernel) rfl
theorem wd_211 : Cond.lays "PassiveBuses$Bus" "PassiveBuses$Bus" "spoilUp" "I" ∈ pb_ALL := pb_tw 211 (by decide +kernel) rfl
theorem wd_213 : Cond.lays "PassiveBuses$Bus" "PassiveBuses$Bus" "spoilDown" "I" ∈ pb_ALL := pb_tw 213 (by decide +kernel) rfl
theorem wd_216 : Cond.instantiable "PassiveBuses$Call" 13 ∈ pb_ALL := pb_tw 216 (by decide +kernel) rfl
theorem wd_218 : Cond.instanceMethod ⟨"PassiveBuses$Call", "<init>", "()V"⟩ ∈ pb_ALL := pb_tw 218 (by decide +kernel) rfl
set_option maxRecDepth 40000 in
theorem wd_219 : Cond.code ⟨"PassiveBuses$Call", "<init>", "()V"⟩ prog_3_method_1_code 1 none ∈ pb_ALL := pb_tw 219 (rfl) rfl
theorem wd_220 : Cond.methodLink "PassiveBuses$Call" 3 ⟨"java/lang/Object", "<init>", "()V"⟩ ∈ pb_ALL := pb_tw 220 (by decide +kernel) rfl
theorem wd_221 : Cond.fieldLink "PassiveBuses$Call" 9 "PassiveBuses$Call" "legs" "[I" ∈ pb_ALL := pb_tw 221 (by decide +kernel) rfl
theorem wd_222 : Cond.fieldLink "PassiveBuses$Call" 15 "PassiveBuses$Call" "number" "I" ∈ pb_ALL := pb_tw 222 (by decide +kernel) rfl
theorem wd_223 : Cond.fieldLink "PassiveBuses" 155 "PassiveBuses$Call" "number" "I" ∈ pb_ALL := pb_tw 223 (by decide +kernel) rfl
theorem wd_224 : Cond.fieldLink "PassiveBuses$Call" 19 "PassiveBuses$Call" "phase" "I" ∈ pb_ALL := pb_tw 224 (by decide +kernel) rfl
theorem wd_225 : Cond.fieldLink "PassiveBuses" 158 "PassiveBuses$Call" "phase" "I" ∈ pb_ALL := pb_tw 225 (by decide +kernel) rfl
theorem wd_226 : Cond.fieldLink "PassiveBuses$Call" 22 "PassiveBuses$Call" "clock" "I" ∈ pb_ALL := pb_tw 226 (by decide +kernel) rfl
theorem wd_227 : Cond.fieldLink "PassiveBuses" 262 "PassiveBuses$Call" "clock" "I" ∈ pb_ALL := pb_tw 227 (by decide +kernel) rfl
theorem wd_228 : Cond.fieldLink "PassiveBuses$Call" 25 "PassiveBuses$Call" "offeredTwice" "Z" ∈ pb_ALL := pb_tw 228 (by decide +kernel) rfl
theorem wd_229 : Cond.fieldLink "PassiveBuses" 334 "PassiveBuses$Call" "offeredTwice" "Z" ∈ pb_ALL := pb_tw 229 (by decide +kernel) rfl
theorem wd_230 : Cond.fieldLink "PassiveBuses$Call" 29 "PassiveBuses$Call" "callerBus" "I" ∈ pb_ALL := pb_tw 230 (by decide +kernel) rfl
theorem wd_231 : Cond.fieldLink "PassiveBuses" 265 "PassiveBuses$Call" "callerBus" "I" ∈ pb_ALL := pb_tw 231 (by decide +kernel) rfl
theorem wd_232 : Cond.fieldLink "PassiveBuses$Call" 32 "PassiveBuses$Call" "callerAddress" "I" ∈ pb_ALL := pb_tw 232 (by decide +kernel) rfl
theorem wd_233 : Cond.fieldLink "PassiveBuses" 268 "PassiveBuses$Call" "callerAddress" "I" ∈ pb_ALL := pb_tw 233 (by decide +kernel) rfl
theorem wd_234 : Cond.fieldLink "PassiveBuses$Call" 35 "PassiveBuses$Call" "callerReference" "I" ∈ pb_ALL := pb_tw 234 (by decide +kernel) rfl
theorem wd_235 : Cond.fieldLink "PassiveBuses" 271 "PassiveBuses$Call" "callerReference" "I" ∈ pb_ALL := pb_tw 235 (by decide +kernel) rfl
theorem wd_236 : Cond.fieldLink "PassiveBuses$Call" 38 "PassiveBuses$Call" "callerChannel" "I" ∈ pb_ALL := pb_tw 236 (by decide +kernel) rfl
theorem wd_237 : Cond.fieldLink "PassiveBuses" 340 "PassiveBuses$Call" "callerChannel" "I" ∈ pb_ALL := pb_tw 237 (by decide +kernel) rfl
theorem wd_238 : Cond.fieldLink "PassiveBuses$Call" 41 "PassiveBuses$Call" "callerLeg" "I" ∈ pb_ALL := pb_tw 238 (by decide +kernel) rfl
theorem wd_239 : Cond.fieldLink "PassiveBuses" 296 "PassiveBuses$Call" "callerLeg" "I" ∈ pb_ALL := pb_tw 239 (by decide +kernel) rfl
theorem wd_240 : Cond.fieldLink "PassiveBuses$Call" 44 "PassiveBuses$Call" "calledBus" "I" ∈ pb_ALL := pb_tw 240 (by decide +kernel) rfl
theorem wd_241 : Cond.fieldLink "PassiveBuses" 284 "PassiveBuses$Call" "calledBus" "I" ∈ pb_ALL := pb_tw 241 (by decide +kernel) rfl
theorem wd_242 : Cond.fieldLink "PassiveBuses$Call" 47 "PassiveBuses$Call" "calledChannel" "I" ∈ pb_ALL := pb_tw 242 (by decide +kernel) rfl
theorem wd_243 : Cond.fieldLink "PassiveBuses" 281 "PassiveBuses$Call" "calledChannel" "I" ∈ pb_ALL := pb_tw 243 (by decide +kernel) rfl
theorem wd_244 : Cond.fieldLink "PassiveBuses$Call" 50 "PassiveBuses$Call" "winner" "I" ∈ pb_ALL := pb_tw 244 (by decide +kernel) rfl
theorem wd_245 : Cond.fieldLink "PassiveBuses" 278 "PassiveBuses$Call" "winner" "I" ∈ pb_ALL := pb_tw 245 (by decide +kernel) rfl
theorem wd_246 : Cond.laysFinal "PassiveBuses$Call" "PassiveBuses$Call" "legs" "[I" ∈ pb_ALL := pb_tw 246 (by decide +kernel) rfl
theorem wd_248 : Cond.lays "PassiveBuses$Call" "PassiveBuses$Call" "number" "I" ∈ pb_ALL := pb_tw 248 (by decide +kernel) rfl
theorem wd_250 : Cond.lays "PassiveBuses$Call" "PassiveBuses$Call" "phase" "I" ∈ pb_ALL := pb_tw 250 (by decide +kernel) rfl
theorem wd_252 : Cond.lays "PassiveBuses$Call" "PassiveBuses$Call" "clock" "I" ∈ pb_ALL := pb_tw 252 (by decide +kernel) rfl
theorem wd_254 : Cond.lays "PassiveBuses$Call" "PassiveBuses$Call" "offeredTwice" "Z" ∈ pb_ALL := pb_tw 254 (by decide +kernel) rfl
theorem wd_256 : Cond.lays "PassiveBuses$Call" "PassiveBuses$Call" "callerBus" "I" ∈ pb_ALL := pb_tw 256 (by decide +kernel) rfl
theorem wd_258 : Cond.lays "PassiveBuses$Call" "PassiveBuses$Call" "callerAddress" "I" ∈ pb_ALL := pb_tw 258 (by decide +kernel) rfl
theorem wd_260 : Cond.lays "PassiveBuses$Call" "PassiveBuses$Call" "callerReference" "I" ∈ pb_ALL := pb_tw 260 (by decide +kernel) rfl
theorem wd_262 : Cond.lays "PassiveBuses$Call" "PassiveBuses$Call" "callerChannel" "I" ∈ pb_ALL := pb_tw 262 (by decide +kernel) rfl
theorem wd_264 : Cond.lays "PassiveBuses$Call" "PassiveBuses$Call" "callerLeg" "I" ∈ pb_ALL := pb_tw 264 (by decide +kernel) rfl
theorem wd_266 : Cond.lays "PassiveBuses$Call" "PassiveBuses$Call" "calledBus" "I" ∈ pb_ALL := pb_tw 266 (by decide +kernel) rfl
theorem wd_268 : Cond.lays "PassiveBuses$Call" "PassiveBuses$Call" "calledChannel" "I" ∈ pb_ALL := pb_tw 268 (by decide +kernel) rfl
theorem wd_270 : Cond.lays "PassiveBuses$Call" "PassiveBuses$Call" "winner" "I" ∈ pb_ALL := pb_tw 270 (by decide +kernel) rfl
theorem wd_273 : Cond.arrayClass .int ∈ pb_ALL := pb_tw 273 (by decide +kernel) rfl
theorem wd_274 : Cond.fieldLink "PassiveBuses" 11 "PassiveBuses" "buses" "[LPassiveBuses$Bus;" ∈ pb_ALL := pb_tw 274 (by decide +kernel) rfl
theorem wd_275 : Cond.fieldLink "PassiveBuses" 17 "PassiveBuses" "calls" "[LPassiveBuses$Call;" ∈ pb_ALL := pb_tw 275 (by decide +kernel) rfl
theorem wd_276 : Cond.fieldLink "PassiveBuses" 21 "PassiveBuses" "callCount" "I" ∈ pb_ALL := pb_tw 276 (by decide +kernel) rfl
theorem wd_277 : Cond.fieldLink "PassiveBuses" 25 "PassiveBuses" "latestNumber" "I" ∈ pb_ALL := pb_tw 277 (by decide +kernel) rfl
theorem wd_278 : Cond.fieldLink "PassiveBuses" 28 "PassiveBuses" "ticks" "I" ∈ pb_ALL := pb_tw 278 (by decide +kernel) rfl
theorem wd_279 : Cond.laysFinal "PassiveBuses" "PassiveBuses" "buses" "[LPassiveBuses$Bus;" ∈ pb_ALL := pb_tw 279 (by decide +kernel) rfl
theorem wd_281 : Cond.laysFinal "PassiveBuses" "PassiveBuses" "calls" "[LPassiveBuses$Call;" ∈ pb_ALL := pb_tw 281 (by decide +kernel) rfl
theorem wd_283 : Cond.lays "PassiveBuses" "PassiveBuses" "callCount" "I" ∈ pb_ALL := pb_tw 283 (by decide +kernel) rfl
theorem wd_285 : Cond.lays "PassiveBuses" "PassiveBuses" "latestNumber" "I" ∈ pb_ALL := pb_tw 285 (by decide +kernel) rfl
theorem wd_287 : Cond.lays "PassiveBuses" "PassiveBuses" "ticks" "I" ∈ pb_ALL := pb_tw 287 (by decide +kernel) rfl
theorem wd_290 : Cond.methodLink "PassiveBusesLaw" 13 ⟨"PassiveBuses", "plug", "(III)Z"⟩ ∈ pb_ALL := pb_tw 290 (by decide +kernel) rfl
theorem wd_291 : Cond.instanceMethod ⟨"PassiveBuses", "plug", "(III)Z"⟩ ∈ pb_ALL := pb_tw 291 (by decide +kernel) rfl
theorem wd_292 : Cond.selects "PassiveBuses" ⟨"PassiveBuses", "plug", "(III)Z"⟩ ⟨"PassiveBuses", "plug", "(III)Z"⟩ ∈ pb_ALL := pb_tw 292 (by decide +kernel) rfl
set_option maxRecDepth 40000 in
theorem wd_293 : Cond.code ⟨"PassiveBuses", "plug", "(III)Z"⟩ prog_1_method_2_code 5 (some .boolean) ∈ pb_ALL := pb_tw 293 (rfl) rfl
theorem wd_294 : Cond.methodLink "PassiveBuses" 33 ⟨"PassiveBuses", "isSocket", "(II)Z"⟩ ∈ pb_ALL := pb_tw 294 (by decide +kernel) rfl
theorem wd_295 : Cond.static ⟨"PassiveBuses", "isSocket", "(II)Z"⟩ ∈ pb_ALL := pb_tw 295 (by decide +kernel) rfl
set_option maxRecDepth 40000 in
theorem wd_296 : Cond.code ⟨"PassiveBuses", "isSocket", "(II)Z"⟩ prog_1_method_23_code 2 (some .boolean) ∈ pb_ALL := pb_tw 296 (rfl) rfl
theorem wd_297 : Cond.methodLink "PassiveBuses" 83 ⟨"PassiveBuses", "isBus", "(I)Z"⟩ ∈ pb_ALL := pb_tw 297 (by decide +kernel) rfl
theorem wd_298 : Cond.static ⟨"PassiveBuses", "isBus", "(I)Z"⟩ ∈ pb_ALL := pb_tw 298 (by decide +kernel) rfl
set_option maxRecDepth 40000 in
theorem wd_299 : Cond.code ⟨"PassiveBuses", "isBus", "(I)Z"⟩ prog_1_method_22_code 1 (some .boolean) ∈ pb_ALL := pb_tw 299 (rfl) rfl
theorem wd_300 : Cond.methodLink "PassiveBuses" 47 ⟨"PassiveBuses$Terminal", "plugIn", "(I)V"⟩ ∈ pb_ALL := pb_tw 300 (by decide +kernel) rfl
theorem wd_301 : Cond.instanceMethod ⟨"PassiveBuses$Terminal", "plugIn", "(I)V"⟩ ∈ pb_ALL := pb_tw 301 (by decide +kernel) rfl
theorem wd_302 : Cond.selects "PassiveBuses$Terminal" ⟨"PassiveBuses$Terminal", "plugIn", "(I)V"⟩ ⟨"PassiveBuses$Terminal", "plugIn", "(I)V"⟩ ∈ pb_ALL := pb_tw 302 (by decide +kernel) rfl
set_option maxRecDepth 40000 in
theorem wd_303 : Cond.code ⟨"PassiveBuses$Terminal", "plugIn", "(I)V"⟩ prog_7_method_2_code 2 none ∈ pb_ALL := pb_tw 303 (rfl) rfl
theorem wd_304 : Cond.methodLink "PassiveBuses$Terminal" 67 ⟨"PassiveBuses$Terminal", "startOver", "(I)V"⟩ ∈ pb_ALL := pb_tw 304 (by decide +kernel) rfl
theorem wd_305 : Cond.instanceMethod ⟨"PassiveBuses$Terminal", "startOver", "(I)V"⟩ ∈ pb_ALL := pb_tw 305 (by decide +kernel) rfl
theorem wd_306 : Cond.selects "PassiveBuses$Terminal" ⟨"PassiveBuses$Terminal", "startOver", "(I)V"⟩ ⟨"PassiveBuses$Terminal", "startOver", "(I)V"⟩ ∈ pb_ALL := pb_tw 306 (by decide +kernel) rfl
set_option maxRecDepth 40000 in
theorem wd_307 : Cond.code ⟨"PassiveBuses$Terminal", "startOver", "(I)V"⟩ prog_7_method_4_code 2 none ∈ pb_ALL := pb_tw 307 (rfl) rfl
theorem wd_308 : Cond.methodLink "PassiveBuses$Terminal" 70 ⟨"PassiveBuses$Row", "removeAll", "()V"⟩ ∈ pb_ALL := pb_tw 308 (by decide +kernel) rfl
theorem wd_309 : Cond.instanceMethod ⟨"PassiveBuses$Row", "removeAll", "()V"⟩ ∈ pb_ALL := pb_tw 309 (by decide +kernel) rfl
theorem wd_310 : Cond.selects "PassiveBuses$Row" ⟨"PassiveBuses$Row", "removeAll", "()V"⟩ ⟨"PassiveBuses$Row", "removeAll", "()V"⟩ ∈ pb_ALL := pb_tw 310 (by decide +kernel) rfl
set_option maxRecDepth 40000 in
theorem wd_311 : Cond.code ⟨"PassiveBuses$Row", "removeAll", "()V"⟩ prog_6_method_6_code 1 none ∈ pb_ALL := pb_tw 311 (rfl) rfl
theorem wd_312 : Cond.methodLink "PassiveBuses$Terminal" 73 ⟨"PassiveBuses$Terminal", "becomeNull", "()V"⟩ ∈ pb_ALL := pb_tw 312 (by decide +kernel) rfl
theorem wd_313 : Cond.instanceMethod ⟨"PassiveBuses$Terminal", "becomeNull", "()V"⟩ ∈ pb_ALL := pb_tw 313 (by decide +kernel) rfl
theorem wd_314 : Cond.selects "PassiveBuses$Terminal" ⟨"PassiveBuses$Terminal", "becomeNull", "()V"⟩ ⟨"PassiveBuses$Terminal", "becomeNull", "()V"⟩ ∈ pb_ALL := pb_tw 314 (by decide +kernel) rfl
set_option maxRecDepth 40000 in
theorem wd_315 : Cond.code ⟨"PassiveBuses$Terminal", "becomeNull", "()V"⟩ prog_7_method_6_code 1 none ∈ pb_ALL := pb_tw 315 (rfl) rfl
theorem wd_316 : Cond.methodLink "PassiveBuses$Terminal" 76 ⟨"PassiveBuses$Row", "put", "(IIII)V"⟩ ∈ pb_ALL := pb_tw 316 (by decide +kernel) rfl
theorem wd_317 : Cond.instanceMethod ⟨"PassiveBuses$Row", "put", "(IIII)V"⟩ ∈ pb_ALL := pb_tw 317 (by decide +kernel) rfl
theorem wd_318 : Cond.selects "PassiveBuses$Row" ⟨"PassiveBuses$Row", "put", "(IIII)V"⟩ ⟨"PassiveBuses$Row", "put", "(IIII)V"⟩ ∈ pb_ALL := pb_tw 318 (by decide +kernel) rfl
set_option maxRecDepth 40000 in
theorem wd_319 : Cond.code ⟨"PassiveBuses$Row", "put", "(IIII)V"⟩ prog_6_method_2_code 6 none ∈ pb_ALL := pb_tw 319 (rfl) rfl
theorem wd_320 : Cond.methodLink "PassiveBusesLaw" 18 ⟨"PassiveBuses", "unplug", "(II)Z"⟩ ∈ pb_ALL := pb_tw 320 (by decide +kernel) rfl
theorem wd_321 : Cond.instanceMethod ⟨"PassiveBuses", "unplug", "(II)Z"⟩ ∈ pb_ALL := pb_tw 321 (by decide +kernel) rfl
theorem wd_322 : Cond.selects "PassiveBuses" ⟨"PassiveBuses", "unplug", "(II)Z"⟩ ⟨"PassiveBuses", "unplug", "(II)Z"⟩ ∈ pb_ALL := pb_tw 322 (by decide +kernel) rfl
set_option maxRecDepth 40000 in
theorem wd_323 : Cond.code ⟨"PassiveBuses", "unplug", "(II)Z"⟩ prog_1_method_3_code 4 (some .boolean) ∈ pb_ALL := pb_tw 323 (rfl) rfl
theorem wd_324 : Cond.methodLink "PassiveBuses" 51 ⟨"PassiveBuses", "terminalAt", "(II)LPassiveBuses$Terminal;"⟩ ∈ pb_ALL := pb_tw 324 (by decide +kernel) rfl
theorem wd_326 : Cond.instanceMethod ⟨"PassiveBuses", "terminalAt", "(II)LPassiveBuses$Terminal;"⟩ ∈ pb_ALL := pb_tw 326 (by decide +kernel) rfl
set_option maxRecDepth 40000 in
theorem wd_327 : Cond.code ⟨"PassiveBuses", "terminalAt", "(II)LPassiveBuses$Terminal;"⟩ prog_1_method_24_code 4 (some (.object "PassiveBuses$Terminal")) ∈ pb_ALL := pb_tw 327 (rfl) rfl
theorem wd_328 : Cond.methodLink "PassiveBuses" 55 ⟨"PassiveBuses$Terminal", "pullOut", "()V"⟩ ∈ pb_ALL := pb_tw 328 (by decide +kernel) rfl
theorem wd_329 : Cond.instanceMethod ⟨"PassiveBuses$Terminal", "pullOut", "()V"⟩ ∈ pb_ALL := pb_tw 329 (by decide +kernel) rfl
theorem wd_330 : Cond.selects "PassiveBuses$Terminal" ⟨"PassiveBuses$Terminal", "pullOut", "()V"⟩ ⟨"PassiveBuses$Terminal", "pullOut", "()V"⟩ ∈ pb_ALL := pb_tw 330 (by decide +kernel) rfl
set_option maxRecDepth 40000 in
theorem wd_331 : Cond.code ⟨"PassiveBuses$Terminal", "pullOut", "()V"⟩ prog_7_method_3_code 1 none ∈ pb_ALL := pb_tw 331 (rfl) rfl
theorem wd_332 : Cond.methodLink "PassiveBusesLaw" 23 ⟨"PassiveBuses", "dial", "(III)Z"⟩ ∈ pb_ALL := pb_tw 332 (by decide +kernel) rfl
theorem wd_333 : Cond.instanceMethod ⟨"PassiveBuses", "dial", "(III)Z"⟩ ∈ pb_ALL := pb_tw 333 (by decide +kernel) rfl
theorem wd_334 : Cond.selects "PassiveBuses" ⟨"PassiveBuses", "dial", "(III)Z"⟩ ⟨"PassiveBuses", "dial", "(III)Z"⟩ ∈ pb_ALL := pb_tw 334 (by decide +kernel) rfl
set_option maxRecDepth 40000 in
theorem wd_335 : Cond.code ⟨"PassiveBuses", "dial", "(III)Z"⟩ prog_1_method_4_code 5 (some .boolean) ∈ pb_ALL := pb_tw 335 (rfl) rfl
theorem wd_336 : Cond.methodLink "PassiveBuses" 64 ⟨"PassiveBuses$Terminal", "startCall", "(I)V"⟩ ∈ pb_ALL := pb_tw 336 (by decide +kernel) rfl
theorem wd_337 : Cond.instanceMethod ⟨"PassiveBuses$Terminal", "startCall", "(I)V"⟩ ∈ pb_ALL := pb_tw 337 (by decide +kernel) rfl
theorem wd_338 : Cond.selects "PassiveBuses$Terminal" ⟨"PassiveBuses$Terminal", "startCall", "(I)V"⟩ ⟨"PassiveBuses$Terminal", "startCall", "(I)V"⟩ ∈ pb_ALL := pb_tw 338 (by decide +kernel) rfl
set_option maxRecDepth 40000 in
theorem wd_339 : Cond.code ⟨"PassiveBuses$Terminal", "startCall", "(I)V"⟩ prog_7_method_7_code 2 none ∈ pb_ALL := pb_tw 339 (rfl) rfl
theorem wd_340 : Cond.methodLink "PassiveBusesLaw" 27 ⟨"PassiveBuses", "answer", "(II)Z"⟩ ∈ pb_ALL := pb_tw 340 (by decide +kernel) rfl
theorem wd_341 : Cond.instanceMethod ⟨"PassiveBuses", "answer", "(II)Z"⟩ ∈ pb_ALL := pb_tw 341 (by decide +kernel) rfl
theorem wd_342 : Cond.selects "PassiveBuses" ⟨"PassiveBuses", "answer", "(II)Z"⟩ ⟨"PassiveBuses", "answer", "(II)Z"⟩ ∈ pb_ALL := pb_tw 342 (by decide +kernel) rfl
set_option maxRecDepth 40000 in
theorem wd_343 : Cond.code ⟨"PassiveBuses", "answer", "(II)Z"⟩ prog_1_method_5_code 4 (some .boolean) ∈ pb_ALL := pb_tw 343 (rfl) rfl
theorem wd_344 : Cond.methodLink "PassiveBuses" 74 ⟨"PassiveBuses$Row", "put", "(IIII)V"⟩ ∈ pb_ALL := pb_tw 344 (by decide +kernel) rfl
theorem wd_345 : Cond.methodLink "PassiveBusesLaw" 31 ⟨"PassiveBuses", "hang", "(II)Z"⟩ ∈ pb_ALL := pb_tw 345 (by decide +kernel) rfl
theorem wd_346 : Cond.instanceMethod ⟨"PassiveBuses", "hang", "(II)Z"⟩ ∈ pb_ALL := pb_tw 346 (by decide +kernel) rfl
theorem wd_347 : Cond.selects "PassiveBuses" ⟨"PassiveBuses", "hang", "(II)Z"⟩ ⟨"PassiveBuses", "hang", "(II)Z"⟩ ∈ pb_ALL := pb_tw 347 (by decide +kernel) rfl
set_option maxRecDepth 40000 in
theorem wd_348 : Cond.code ⟨"PassiveBuses", "hang", "(II)Z"⟩ prog_1_method_6_code 4 (some .boolean) ∈ pb_ALL := pb_tw 348 (rfl) rfl
theorem wd_349 : Cond.methodLink "PassiveBusesLaw" 35 ⟨"PassiveBuses", "say", "(III)Z"⟩ ∈ pb_ALL := pb_tw 349 (by decide +kernel) rfl
theorem wd_350 : Cond.instanceMethod ⟨"PassiveBuses", "say", "(III)Z"⟩ ∈ pb_ALL := pb_tw 350 (by decide +kernel) rfl
theorem wd_351 : Cond.selects "PassiveBuses" ⟨"PassiveBuses", "say", "(III)Z"⟩ ⟨"PassiveBuses", "say", "(III)Z"⟩ ∈ pb_ALL := pb_tw 351 (by decide +kernel) rfl
set_option maxRecDepth 40000 in
theorem wd_352 : Cond.code ⟨"PassiveBuses", "say", "(III)Z"⟩ prog_1_method_7_code 5 (some .boolean) ∈ pb_ALL := pb_tw 352 (rfl) rfl
theorem wd_353 : Cond.methodLink "PassiveBusesLaw" 39 ⟨"PassiveBuses", "spoil", "(IZI)Z"⟩ ∈ pb_ALL := pb_tw 353 (by decide +kernel) rfl
theorem wd_354 : Cond.instanceMethod ⟨"PassiveBuses", "spoil", "(IZI)Z"⟩ ∈ pb_ALL := pb_tw 354 (by decide +kernel) rfl
theorem wd_355 : Cond.selects "PassiveBuses" ⟨"PassiveBuses", "spoil", "(IZI)Z"⟩ ⟨"PassiveBuses", "spoil", "(IZI)Z"⟩ ∈ pb_ALL := pb_tw 355 (by decide +kernel) rfl
set_option maxRecDepth 40000 in
theorem wd_356 : Cond.code ⟨"PassiveBuses", "spoil", "(IZI)Z"⟩ prog_1_method_8_code 4 (some .boolean) ∈ pb_ALL := pb_tw 356 (rfl) rfl
theorem wd_357 : Cond.methodLink "PassiveBusesLaw" 44 ⟨"PassiveBuses", "audit", "(II)Z"⟩ ∈ pb_ALL := pb_tw 357 (by decide +kernel) rfl
theorem wd_358 : Cond.instanceMethod ⟨"PassiveBuses", "audit", "(II)Z"⟩ ∈ pb_ALL := pb_tw 358 (by decide +kernel) rfl
theorem wd_359 : Cond.selects "PassiveBuses" ⟨"PassiveBuses", "audit", "(II)Z"⟩ ⟨"PassiveBuses", "audit", "(II)Z"⟩ ∈ pb_ALL := pb_tw 359 (by decide +kernel) rfl
set_option maxRecDepth 40000 in
theorem wd_360 : Cond.code ⟨"PassiveBuses", "audit", "(II)Z"⟩ prog_1_method_9_code 4 (some .boolean) ∈ pb_ALL := pb_tw 360 (rfl) rfl
theorem wd_361 : Cond.methodLink "PassiveBuses" 93 ⟨"PassiveBuses$Bus", "lineOf", "(I)LPassiveBuses$Line;"⟩ ∈ pb_ALL := pb_tw 361 (by decide +kernel) rfl
theorem wd_362 : Cond.instanceMethod ⟨"PassiveBuses$Bus", "lineOf", "(I)LPassiveBuses$Line;"⟩ ∈ pb_ALL := pb_tw 362 (by decide +kernel) rfl
theorem wd_363 : Cond.selects "PassiveBuses$Bus" ⟨"PassiveBuses$Bus", "lineOf", "(I)LPassiveBuses$Line;"⟩ ⟨"PassiveBuses$Bus", "lineOf", "(I)LPassiveBuses$Line;"⟩ ∈ pb_ALL := pb_tw 363 (by decide +kernel) rfl
set_option maxRecDepth 40000 in
theorem wd_364 : Cond.code ⟨"PassiveBuses$Bus", "lineOf", "(I)LPassiveBuses$Line;"⟩ prog_2_method_2_code 3 (some (.object "PassiveBuses$Line")) ∈ pb_ALL := pb_tw 364 (rfl) rfl
theorem wd_365 : Cond.methodLink "PassiveBusesLaw" 48 ⟨"PassiveBuses", "run", "(I)I"⟩ ∈ pb_ALL := pb_tw 365 (by decide +kernel) rfl
theorem wd_366 : Cond.instanceMethod ⟨"PassiveBuses", "run", "(I)I"⟩ ∈ pb_ALL := pb_tw 366 (by decide +kernel) rfl
theorem wd_367 : Cond.selects "PassiveBuses" ⟨"PassiveBuses", "run", "(I)I"⟩ ⟨"PassiveBuses", "run", "(I)I"⟩ ∈ pb_ALL := pb_tw 367 (by decide +kernel) rfl
set_option maxRecDepth 40000 in
theorem wd_368 : Cond.code ⟨"PassiveBuses", "run", "(I)I"⟩ prog_1_method_10_code 5 (some .int) ∈ pb_ALL := pb_tw 368 (rfl) rfl
theorem wd_369 : Cond.methodLink "PassiveBuses" 112 ⟨"PassiveBuses", "stepUp", "(I)I"⟩ ∈ pb_ALL := pb_tw 369 (by decide +kernel) rfl
theorem wd_371 : Cond.instanceMethod ⟨"PassiveBuses", "stepUp", "(I)I"⟩ ∈ pb_ALL := pb_tw 371 (by decide +kernel) rfl
set_option maxRecDepth 40000 in
theorem wd_372 : Cond.code ⟨"PassiveBuses", "stepUp", "(I)I"⟩ prog_1_method_25_code 7 (some .int) ∈ pb_ALL := pb_tw 372 (rfl) rfl
theorem wd_373 : Cond.methodLink "PassiveBuses" 161 ⟨"PassiveBuses$Bus", "contend", "()LPassiveBuses$Terminal;"⟩ ∈ pb_ALL := pb_tw 373 (by decide +kernel) rfl
theorem wd_374 : Cond.instanceMethod ⟨"PassiveBuses$Bus", "contend", "()LPassiveBuses$Terminal;"⟩ ∈ pb_ALL := pb_tw 374 (by decide +kernel) rfl
theorem wd_375 : Cond.selects "PassiveBuses$Bus" ⟨"PassiveBuses$Bus", "contend", "()LPassiveBuses$Terminal;"⟩ ⟨"PassiveBuses$Bus", "contend", "()LPassiveBuses$Terminal;"⟩ ∈ pb_ALL := pb_tw 375 (by decide +kernel) rfl
set_option maxRecDepth 40000 in
theorem wd_376 : Cond.code ⟨"PassiveBuses$Bus", "contend", "()LPassiveBuses$Terminal;"⟩ prog_2_method_5_code 7 (some (.object "PassiveBuses$Terminal")) ∈ pb_ALL := pb_tw 376 (rfl) rfl
theorem wd_377 : Cond.methodLink "PassiveBuses$Bus" 49 ⟨"PassiveBuses$Bus", "hasEagerContender", "()Z"⟩ ∈ pb_ALL := pb_tw 377 (by decide +kernel) rfl
theorem wd_378 : Cond.instanceMethod ⟨"PassiveBuses$Bus", "hasEagerContender", "()Z"⟩ ∈ pb_ALL := pb_tw 378 (by decide +kernel) rfl
theorem wd_379 : Cond.selects "PassiveBuses$Bus" ⟨"PassiveBuses$Bus", "hasEagerContender", "()Z"⟩ ⟨"PassiveBuses$Bus", "hasEagerContender", "()Z"⟩ ∈ pb_ALL := pb_tw 379 (by decide +kernel) rfl
set_option maxRecDepth 40000 in
theorem wd_380 : Cond.code ⟨"PassiveBuses$Bus", "hasEagerContender", "()Z"⟩ prog_2_method_4_code 5 (some .boolean) ∈ pb_ALL := pb_tw 380 (rfl) rfl
theorem wd_381 : Cond.methodLink "PassiveBuses$Bus" 45 ⟨"PassiveBuses$Terminal", "contends", "(Z)Z"⟩ ∈ pb_ALL := pb_tw 381 (by decide +kernel) rfl
theorem wd_382 : Cond.instanceMethod ⟨"PassiveBuses$Terminal", "contends", "(Z)Z"⟩ ∈ pb_ALL := pb_tw 382 (by decide +kernel) rfl
theorem wd_383 : Cond.selects "PassiveBuses$Terminal" ⟨"PassiveBuses$Terminal", "contends", "(Z)Z"⟩ ⟨"PassiveBuses$Terminal", "contends", "(Z)Z"⟩ ∈ pb_ALL := pb_tw 383 (by decide +kernel) rfl
set_option maxRecDepth 40000 in
theorem wd_384 : Cond.code ⟨"PassiveBuses$Terminal", "contends", "(Z)Z"⟩ prog_7_method_9_code 2 (some .boolean) ∈ pb_ALL := pb_tw 384 (rfl) rfl
theorem wd_385 : Cond.methodLink "PassiveBuses$Bus" 53 ⟨"PassiveBuses$Terminal", "compareFirst", "(LPassiveBuses$Terminal;)I"⟩ ∈ pb_ALL := pb_tw 385 (by decide +kernel) rfl
theorem wd_386 : Cond.instanceMethod ⟨"PassiveBuses$Terminal", "compareFirst", "(LPassiveBuses$Terminal;)I"⟩ ∈ pb_ALL := pb_tw 386 (by decide +kernel) rfl
theorem wd_387 : Cond.selects "PassiveBuses$Terminal" ⟨"PassiveBuses$Terminal", "compareFirst", "(LPassiveBuses$Terminal;)I"⟩ ⟨"PassiveBuses$Terminal", "compareFirst", "(LPassiveBuses$Terminal;)I"⟩ ∈ pb_ALL := pb_tw 387 (by decide +kernel) rfl
set_option maxRecDepth 40000 in
theorem wd_388 : Cond.code ⟨"PassiveBuses$Terminal", "compareFirst", "(LPassiveBuses$Terminal;)I"⟩ prog_7_method_10_code 4 (some .int) ∈ pb_ALL := pb_tw 388 (rfl) rfl
theorem wd_389 : Cond.methodLink "PassiveBuses$Terminal" 86 ⟨"PassiveBuses$Row", "first", "()LPassiveBuses$Frame;"⟩ ∈ pb_ALL := pb_tw 389 (by decide +kernel) rfl
theorem wd_390 : Cond.instanceMethod ⟨"PassiveBuses$Row", "first", "()LPassiveBuses$Frame;"⟩ ∈ pb_ALL := pb_tw 390 (by decide +kernel) rfl
theorem wd_391 : Cond.selects "PassiveBuses$Row" ⟨"PassiveBuses$Row", "first", "()LPassiveBuses$Frame;"⟩ ⟨"PassiveBuses$Row", "first", "()LPassiveBuses$Frame;"⟩ ∈ pb_ALL := pb_tw 391 (by decide +kernel) rfl
set_option maxRecDepth 40000 in
theorem wd_392 : Cond.code ⟨"PassiveBuses$Row", "first", "()LPassiveBuses$Frame;"⟩ prog_6_method_3_code 1 (some (.object "PassiveBuses$Frame")) ∈ pb_ALL := pb_tw 392 (rfl) rfl
theorem wd_393 : Cond.methodLink "PassiveBuses$Terminal" 90 ⟨"PassiveBuses$Frame", "isNumbered", "()Z"⟩ ∈ pb_ALL := pb_tw 393 (by decide +kernel) rfl
theorem wd_394 : Cond.instanceMethod ⟨"PassiveBuses$Frame", "isNumbered", "()Z"⟩ ∈ pb_ALL := pb_tw 394 (by decide +kernel) rfl
theorem wd_395 : Cond.selects "PassiveBuses$Frame" ⟨"PassiveBuses$Frame", "isNumbered", "()Z"⟩ ⟨"PassiveBuses$Frame", "isNumbered", "()Z"⟩ ∈ pb_ALL := pb_tw 395 (by decide +kernel) rfl
set_option maxRecDepth 40000 in
theorem wd_396 : Cond.code ⟨"PassiveBuses$Frame", "isNumbered", "()Z"⟩ prog_4_method_2_code 1 (some .boolean) ∈ pb_ALL := pb_tw 396 (rfl) rfl
theorem wd_397 : Cond.methodLink "PassiveBuses$Terminal" 96 ⟨"PassiveBuses$Frame", "compareNumbered", "(ILPassiveBuses$Frame;I)I"⟩ ∈ pb_ALL := pb_tw 397 (by decide +kernel) rfl
theorem wd_398 : Cond.instanceMethod ⟨"PassiveBuses$Frame", "compareNumbered", "(ILPassiveBuses$Frame;I)I"⟩ ∈ pb_ALL := pb_tw 398 (by decide +kernel) rfl
theorem wd_399 : Cond.selects "PassiveBuses$Frame" ⟨"PassiveBuses$Frame", "compareNumbered", "(ILPassiveBuses$Frame;I)I"⟩ ⟨"PassiveBuses$Frame", "compareNumbered", "(ILPassiveBuses$Frame;I)I"⟩ ∈ pb_ALL := pb_tw 399 (by decide +kernel) rfl
set_option maxRecDepth 40000 in
theorem wd_400 : Cond.code ⟨"PassiveBuses$Frame", "compareNumbered", "(ILPassiveBuses$Frame;I)I"⟩ prog_4_method_4_code 4 (some .int) ∈ pb_ALL := pb_tw 400 (rfl) rfl
theorem wd_401 : Cond.methodLink "PassiveBuses$Frame" 21 ⟨"java/lang/Integer", "compare", "(II)I"⟩ ∈ pb_ALL := pb_tw 401 (by decide +kernel) rfl
theorem wd_402 : Cond.static ⟨"java/lang/Integer", "compare", "(II)I"⟩ ∈ pb_ALL := pb_tw 402 (by decide +kernel) rfl
set_option maxRecDepth 40000 in
theorem wd_403 : Cond.code ⟨"java/lang/Integer", "compare", "(II)I"⟩ prog_10_method_40_code 2 (some .int) ∈ pb_ALL := pb_tw 403 (rfl) rfl
theorem wd_404 : Cond.methodLink "PassiveBuses$Terminal" 100 ⟨"PassiveBuses$Frame", "compareLoose", "(LPassiveBuses$Frame;)I"⟩ ∈ pb_ALL := pb_tw 404 (by decide +kernel) rfl
theorem wd_405 : Cond.instanceMethod ⟨"PassiveBuses$Frame", "compareLoose", "(LPassiveBuses$Frame;)I"⟩ ∈ pb_ALL := pb_tw 405 (by decide +kernel) rfl
theorem wd_406 : Cond.selects "PassiveBuses$Frame" ⟨"PassiveBuses$Frame", "compareLoose", "(LPassiveBuses$Frame;)I"⟩ ⟨"PassiveBuses$Frame", "compareLoose", "(LPassiveBuses$Frame;)I"⟩ ∈ pb_ALL := pb_tw 406 (by decide +kernel) rfl
set_option maxRecDepth 40000 in
theorem wd_407 : Cond.code ⟨"PassiveBuses$Frame", "compareLoose", "(LPassiveBuses$Frame;)I"⟩ prog_4_method_5_code 2 (some .int) ∈ pb_ALL := pb_tw 407 (rfl) rfl
theorem wd_408 : Cond.methodLink "PassiveBuses" 165 ⟨"PassiveBuses$Row", "first", "()LPassiveBuses$Frame;"⟩ ∈ pb_ALL := pb_tw 408 (by decide +kernel) rfl
theorem wd_409 : Cond.methodLink "PassiveBuses" 169 ⟨"PassiveBuses$Bus", "exchangeListens", "(LPassiveBuses$Frame;)Z"⟩ ∈ pb_ALL := pb_tw 409 (by decide +kernel) rfl
theorem wd_410 : Cond.instanceMethod ⟨"PassiveBuses$Bus", "exchangeListens", "(LPassiveBuses$Frame;)Z"⟩ ∈ pb_ALL := pb_tw 410 (by decide +kernel) rfl
theorem wd_411 : Cond.selects "PassiveBuses$Bus" ⟨"PassiveBuses$Bus", "exchangeListens", "(LPassiveBuses$Frame;)Z"⟩ ⟨"PassiveBuses$Bus", "exchangeListens", "(LPassiveBuses$Frame;)Z"⟩ ∈ pb_ALL := pb_tw 411 (by decide +kernel) rfl
set_option maxRecDepth 40000 in
theorem wd_412 : Cond.code ⟨"PassiveBuses$Bus", "exchangeListens", "(LPassiveBuses$Frame;)Z"⟩ prog_2_method_7_code 3 (some .boolean) ∈ pb_ALL := pb_tw 412 (rfl) rfl
theorem wd_413 : Cond.methodLink "PassiveBuses$Bus" 68 ⟨"PassiveBuses$Frame", "isNumbered", "()Z"⟩ ∈ pb_ALL := pb_tw 413 (by decide +kernel) rfl
theorem wd_414 : Cond.methodLink "PassiveBuses$Bus" 76 ⟨"PassiveBuses$Bus", "lineOf", "(I)LPassiveBuses$Line;"⟩ ∈ pb_ALL := pb_tw 414 (by decide +kernel) rfl
theorem wd_415 : Cond.methodLink "PassiveBuses" 176 ⟨"PassiveBuses", "receiveUp", "(ILPassiveBuses$Frame;I)V"⟩ ∈ pb_ALL := pb_tw 415 (by decide +kernel) rfl
theorem wd_417 : Cond.instanceMethod ⟨"PassiveBuses", "receiveUp", "(ILPassiveBuses$Frame;I)V"⟩ ∈ pb_ALL := pb_tw 417 (by decide +kernel) rfl
set_option maxRecDepth 40000 in
theorem wd_418 : Cond.code ⟨"PassiveBuses", "receiveUp", "(ILPassiveBuses$Frame;I)V"⟩ prog_1_method_27_code 5 none ∈ pb_ALL := pb_tw 418 (rfl) rfl
theorem wd_419 : Cond.methodLink "PassiveBuses" 216 ⟨"PassiveBuses$Bus", "giveAddress", "(I)V"⟩ ∈ pb_ALL := pb_tw 419 (by decide +kernel) rfl
theorem wd_420 : Cond.instanceMethod ⟨"PassiveBuses$Bus", "giveAddress", "(I)V"⟩ ∈ pb_ALL := pb_tw 420 (by decide +kernel) rfl
theorem wd_421 : Cond.selects "PassiveBuses$Bus" ⟨"PassiveBuses$Bus", "giveAddress", "(I)V"⟩ ⟨"PassiveBuses$Bus", "giveAddress", "(I)V"⟩ ∈ pb_ALL := pb_tw 421 (by decide +kernel) rfl
set_option maxRecDepth 40000 in
theorem wd_422 : Cond.code ⟨"PassiveBuses$Bus", "giveAddress", "(I)V"⟩ prog_2_method_10_code 4 none ∈ pb_ALL := pb_tw 422 (rfl) rfl
theorem wd_423 : Cond.methodLink "PassiveBuses$Bus" 101 ⟨"PassiveBuses$Row", "put", "(IIII)V"⟩ ∈ pb_ALL := pb_tw 423 (by decide +kernel) rfl
theorem wd_424 : Cond.methodLink "PassiveBuses" 222 ⟨"PassiveBuses", "onSetup", "(ILPassiveBuses$Frame;)V"⟩ ∈ pb_ALL := pb_tw 424 (by decide +kernel) rfl
theorem wd_426 : Cond.instanceMethod ⟨"PassiveBuses", "onSetup", "(ILPassiveBuses$Frame;)V"⟩ ∈ pb_ALL := pb_tw 426 (by decide +kernel) rfl
set_option maxRecDepth 40000 in
theorem wd_427 : Cond.code ⟨"PassiveBuses", "onSetup", "(ILPassiveBuses$Frame;)V"⟩ prog_1_method_28_code 7 none ∈ pb_ALL := pb_tw 427 (rfl) rfl
theorem wd_428 : Cond.methodLink "PassiveBuses" 236 ⟨"PassiveBuses", "freeChannel", "(II)I"⟩ ∈ pb_ALL := pb_tw 428 (by decide +kernel) rfl
theorem wd_430 : Cond.instanceMethod ⟨"PassiveBuses", "freeChannel", "(II)I"⟩ ∈ pb_ALL := pb_tw 430 (by decide +kernel) rfl
set_option maxRecDepth 40000 in
theorem wd_431 : Cond.code ⟨"PassiveBuses", "freeChannel", "(II)I"⟩ prog_1_method_40_code 4 (some .int) ∈ pb_ALL := pb_tw 431 (rfl) rfl
theorem wd_432 : Cond.methodLink "PassiveBuses" 151 ⟨"PassiveBuses", "numberHolding", "(II)I"⟩ ∈ pb_ALL := pb_tw 432 (by decide +kernel) rfl
theorem wd_434 : Cond.instanceMethod ⟨"PassiveBuses", "numberHolding", "(II)I"⟩ ∈ pb_ALL := pb_tw 434 (by decide +kernel) rfl
set_option maxRecDepth 40000 in
theorem wd_435 : Cond.code ⟨"PassiveBuses", "numberHolding", "(II)I"⟩ prog_1_method_41_code 4 (some .int) ∈ pb_ALL := pb_tw 435 (rfl) rfl
theorem wd_436 : Cond.methodLink "PassiveBuses" 322 ⟨"PassiveBuses$Call", "holds", "(II)Z"⟩ ∈ pb_ALL := pb_tw 436 (by decide +kernel) rfl
theorem wd_437 : Cond.instanceMethod ⟨"PassiveBuses$Call", "holds", "(II)Z"⟩ ∈ pb_ALL := pb_tw 437 (by decide +kernel) rfl
theorem wd_438 : Cond.selects "PassiveBuses$Call" ⟨"PassiveBuses$Call", "holds", "(II)Z"⟩ ⟨"PassiveBuses$Call", "holds", "(II)Z"⟩ ∈ pb_ALL := pb_tw 438 (by decide +kernel) rfl
set_option maxRecDepth 40000 in
theorem wd_439 : Cond.code ⟨"PassiveBuses$Call", "holds", "(II)Z"⟩ prog_3_method_12_code 3 (some .boolean) ∈ pb_ALL := pb_tw 439 (rfl) rfl
theorem wd_440 : Cond.methodLink "PassiveBuses$Call" 69 ⟨"PassiveBuses$Call", "isUnanswered", "()Z"⟩ ∈ pb_ALL := pb_tw 440 (by decide +kernel) rfl
theorem wd_441 : Cond.instanceMethod ⟨"PassiveBuses$Call", "isUnanswered", "()Z"⟩ ∈ pb_ALL := pb_tw 441 (by decide +kernel) rfl
theorem wd_442 : Cond.selects "PassiveBuses$Call" ⟨"PassiveBuses$Call", "isUnanswered", "()Z"⟩ ⟨"PassiveBuses$Call", "isUnanswered", "()Z"⟩ ∈ pb_ALL := pb_tw 442 (by decide +kernel) rfl
set_option maxRecDepth 40000 in
theorem wd_443 : Cond.code ⟨"PassiveBuses$Call", "isUnanswered", "()Z"⟩ prog_3_method_5_code 1 (some .boolean) ∈ pb_ALL := pb_tw 443 (rfl) rfl
theorem wd_444 : Cond.methodLink "PassiveBuses$Call" 65 ⟨"PassiveBuses$Call", "legOf", "(I)I"⟩ ∈ pb_ALL := pb_tw 444 (by decide +kernel) rfl
theorem wd_445 : Cond.instanceMethod ⟨"PassiveBuses$Call", "legOf", "(I)I"⟩ ∈ pb_ALL := pb_tw 445 (by decide +kernel) rfl
theorem wd_446 : Cond.selects "PassiveBuses$Call" ⟨"PassiveBuses$Call", "legOf", "(I)I"⟩ ⟨"PassiveBuses$Call", "legOf", "(I)I"⟩ ∈ pb_ALL := pb_tw 446 (by decide +kernel) rfl
set_option maxRecDepth 40000 in
theorem wd_447 : Cond.code ⟨"PassiveBuses$Call", "legOf", "(I)I"⟩ prog_3_method_6_code 3 (some .int) ∈ pb_ALL := pb_tw 447 (rfl) rfl
theorem wd_448 : Cond.methodLink "PassiveBuses" 239 ⟨"PassiveBuses", "refuse", "(ILPassiveBuses$Frame;I)V"⟩ ∈ pb_ALL := pb_tw 448 (by decide +kernel) rfl
theorem wd_450 : Cond.instanceMethod ⟨"PassiveBuses", "refuse", "(ILPassiveBuses$Frame;I)V"⟩ ∈ pb_ALL := pb_tw 450 (by decide +kernel) rfl
set_option maxRecDepth 40000 in
theorem wd_451 : Cond.code ⟨"PassiveBuses", "refuse", "(ILPassiveBuses$Frame;I)V"⟩ prog_1_method_31_code 4 none ∈ pb_ALL := pb_tw 451 (rfl) rfl
theorem wd_452 : Cond.methodLink "PassiveBuses" 242 ⟨"PassiveBuses$Call", "begin", "(III)V"⟩ ∈ pb_ALL := pb_tw 452 (by decide +kernel) rfl
theorem wd_453 : Cond.instanceMethod ⟨"PassiveBuses$Call", "begin", "(III)V"⟩ ∈ pb_ALL := pb_tw 453 (by decide +kernel) rfl
theorem wd_454 : Cond.selects "PassiveBuses$Call" ⟨"PassiveBuses$Call", "begin", "(III)V"⟩ ⟨"PassiveBuses$Call", "begin", "(III)V"⟩ ∈ pb_ALL := pb_tw 454 (by decide +kernel) rfl
set_option maxRecDepth 40000 in
theorem wd_455 : Cond.code ⟨"PassiveBuses$Call", "begin", "(III)V"⟩ prog_3_method_2_code 5 none ∈ pb_ALL := pb_tw 455 (rfl) rfl
theorem wd_456 : Cond.methodLink "PassiveBuses" 246 ⟨"PassiveBuses$Call", "setCaller", "(IIII)V"⟩ ∈ pb_ALL := pb_tw 456 (by decide +kernel) rfl
theorem wd_457 : Cond.instanceMethod ⟨"PassiveBuses$Call", "setCaller", "(IIII)V"⟩ ∈ pb_ALL := pb_tw 457 (by decide +kernel) rfl
theorem wd_458 : Cond.selects "PassiveBuses$Call" ⟨"PassiveBuses$Call", "setCaller", "(IIII)V"⟩ ⟨"PassiveBuses$Call", "setCaller", "(IIII)V"⟩ ∈ pb_ALL := pb_tw 458 (by decide +kernel) rfl
set_option maxRecDepth 40000 in
theorem wd_459 : Cond.code ⟨"PassiveBuses$Call", "setCaller", "(IIII)V"⟩ prog_3_method_3_code 5 none ∈ pb_ALL := pb_tw 459 (rfl) rfl
theorem wd_460 : Cond.methodLink "PassiveBuses" 249 ⟨"PassiveBuses$Call", "calledReference", "()I"⟩ ∈ pb_ALL := pb_tw 460 (by decide +kernel) rfl
theorem wd_461 : Cond.instanceMethod ⟨"PassiveBuses$Call", "calledReference", "()I"⟩ ∈ pb_ALL := pb_tw 461 (by decide +kernel) rfl
theorem wd_462 : Cond.selects "PassiveBuses$Call" ⟨"PassiveBuses$Call", "calledReference", "()I"⟩ ⟨"PassiveBuses$Call", "calledReference", "()I"⟩ ∈ pb_ALL := pb_tw 462 (by decide +kernel) rfl
set_option maxRecDepth 40000 in
theorem wd_463 : Cond.code ⟨"PassiveBuses$Call", "calledReference", "()I"⟩ prog_3_method_4_code 1 (some .int) ∈ pb_ALL := pb_tw 463 (rfl) rfl
theorem wd_464 : Cond.methodLink "PassiveBuses" 226 ⟨"PassiveBuses", "onAlert", "(ILPassiveBuses$Frame;)V"⟩ ∈ pb_ALL := pb_tw 464 (by decide +kernel) rfl
theorem wd_466 : Cond.instanceMethod ⟨"PassiveBuses", "onAlert", "(ILPassiveBuses$Frame;)V"⟩ ∈ pb_ALL := pb_tw 466 (by decide +kernel) rfl
set_option maxRecDepth 40000 in
theorem wd_467 : Cond.code ⟨"PassiveBuses", "onAlert", "(ILPassiveBuses$Frame;)V"⟩ prog_1_method_29_code 4 none ∈ pb_ALL := pb_tw 467 (rfl) rfl
theorem wd_468 : Cond.methodLink "PassiveBuses" 252 ⟨"PassiveBuses", "answerableCall", "(II)LPassiveBuses$Call;"⟩ ∈ pb_ALL := pb_tw 468 (by decide +kernel) rfl
theorem wd_470 : Cond.instanceMethod ⟨"PassiveBuses", "answerableCall", "(II)LPassiveBuses$Call;"⟩ ∈ pb_ALL := pb_tw 470 (by decide +kernel) rfl
set_option maxRecDepth 40000 in
theorem wd_471 : Cond.code ⟨"PassiveBuses", "answerableCall", "(II)LPassiveBuses$Call;"⟩ prog_1_method_32_code 5 (some (.object "PassiveBuses$Call")) ∈ pb_ALL := pb_tw 471 (rfl) rfl
theorem wd_472 : Cond.methodLink "PassiveBuses" 287 ⟨"PassiveBuses$Call", "isUnanswered", "()Z"⟩ ∈ pb_ALL := pb_tw 472 (by decide +kernel) rfl
theorem wd_473 : Cond.methodLink "PassiveBuses" 256 ⟨"PassiveBuses$Call", "legOf", "(I)I"⟩ ∈ pb_ALL := pb_tw 473 (by decide +kernel) rfl
theorem wd_474 : Cond.methodLink "PassiveBuses" 259 ⟨"PassiveBuses$Call", "setLeg", "(II)V"⟩ ∈ pb_ALL := pb_tw 474 (by decide +kernel) rfl
theorem wd_475 : Cond.instanceMethod ⟨"PassiveBuses$Call", "setLeg", "(II)V"⟩ ∈ pb_ALL := pb_tw 475 (by decide +kernel) rfl
theorem wd_476 : Cond.selects "PassiveBuses$Call" ⟨"PassiveBuses$Call", "setLeg", "(II)V"⟩ ⟨"PassiveBuses$Call", "setLeg", "(II)V"⟩ ∈ pb_ALL := pb_tw 476 (by decide +kernel) rfl
set_option maxRecDepth 40000 in
theorem wd_477 : Cond.code ⟨"PassiveBuses$Call", "setLeg", "(II)V"⟩ prog_3_method_7_code 4 none ∈ pb_ALL := pb_tw 477 (rfl) rfl
theorem wd_478 : Cond.methodLink "PassiveBuses" 229 ⟨"PassiveBuses", "onConnect", "(ILPassiveBuses$Frame;)V"⟩ ∈ pb_ALL := pb_tw 478 (by decide +kernel) rfl
theorem wd_480 : Cond.instanceMethod ⟨"PassiveBuses", "onConnect", "(ILPassiveBuses$Frame;)V"⟩ ∈ pb_ALL := pb_tw 480 (by decide +kernel) rfl
set_option maxRecDepth 40000 in
theorem wd_481 : Cond.code ⟨"PassiveBuses", "onConnect", "(ILPassiveBuses$Frame;)V"⟩ prog_1_method_30_code 5 none ∈ pb_ALL := pb_tw 481 (rfl) rfl
theorem wd_482 : Cond.methodLink "PassiveBuses" 274 ⟨"PassiveBuses", "hasLeg", "(ILPassiveBuses$Frame;)Z"⟩ ∈ pb_ALL := pb_tw 482 (by decide +kernel) rfl
theorem wd_484 : Cond.instanceMethod ⟨"PassiveBuses", "hasLeg", "(ILPassiveBuses$Frame;)Z"⟩ ∈ pb_ALL := pb_tw 484 (by decide +kernel) rfl
set_option maxRecDepth 40000 in
theorem wd_485 : Cond.code ⟨"PassiveBuses", "hasLeg", "(ILPassiveBuses$Frame;)Z"⟩ prog_1_method_33_code 4 (some .boolean) ∈ pb_ALL := pb_tw 485 (rfl) rfl
theorem wd_486 : Cond.methodLink "PassiveBuses" 290 ⟨"PassiveBuses$Call", "isCaller", "(ILPassiveBuses$Frame;)Z"⟩ ∈ pb_ALL := pb_tw 486 (by decide +kernel) rfl
theorem wd_487 : Cond.instanceMethod ⟨"PassiveBuses$Call", "isCaller", "(ILPassiveBuses$Frame;)Z"⟩ ∈ pb_ALL := pb_tw 487 (by decide +kernel) rfl
theorem wd_488 : Cond.selects "PassiveBuses$Call" ⟨"PassiveBuses$Call", "isCaller", "(ILPassiveBuses$Frame;)Z"⟩ ⟨"PassiveBuses$Call", "isCaller", "(ILPassiveBuses$Frame;)Z"⟩ ∈ pb_ALL := pb_tw 488 (by decide +kernel) rfl
set_option maxRecDepth 40000 in
theorem wd_489 : Cond.code ⟨"PassiveBuses$Call", "isCaller", "(ILPassiveBuses$Frame;)Z"⟩ prog_3_method_10_code 3 (some .boolean) ∈ pb_ALL := pb_tw 489 (rfl) rfl
theorem wd_490 : Cond.methodLink "PassiveBuses" 293 ⟨"PassiveBuses$Call", "isCalled", "(ILPassiveBuses$Frame;)Z"⟩ ∈ pb_ALL := pb_tw 490 (by decide +kernel) rfl
theorem wd_491 : Cond.instanceMethod ⟨"PassiveBuses$Call", "isCalled", "(ILPassiveBuses$Frame;)Z"⟩ ∈ pb_ALL := pb_tw 491 (by decide +kernel) rfl
theorem wd_492 : Cond.selects "PassiveBuses$Call" ⟨"PassiveBuses$Call", "isCalled", "(ILPassiveBuses$Frame;)Z"⟩ ⟨"PassiveBuses$Call", "isCalled", "(ILPassiveBuses$Frame;)Z"⟩ ∈ pb_ALL := pb_tw 492 (by decide +kernel) rfl
set_option maxRecDepth 40000 in
theorem wd_493 : Cond.code ⟨"PassiveBuses$Call", "isCalled", "(ILPassiveBuses$Frame;)Z"⟩ prog_3_method_11_code 3 (some .boolean) ∈ pb_ALL := pb_tw 493 (rfl) rfl
theorem wd_494 : Cond.methodLink "PassiveBuses$Call" 61 ⟨"PassiveBuses$Call", "calledReference", "()I"⟩ ∈ pb_ALL := pb_tw 494 (by decide +kernel) rfl
theorem wd_495 : Cond.methodLink "PassiveBuses" 233 ⟨"PassiveBuses", "leaveLeg", "(ILPassiveBuses$Frame;)V"⟩ ∈ pb_ALL := pb_tw 495 (by decide +kernel) rfl
theorem wd_497 : Cond.instanceMethod ⟨"PassiveBuses", "leaveLeg", "(ILPassiveBuses$Frame;)V"⟩ ∈ pb_ALL := pb_tw 497 (by decide +kernel) rfl
set_option maxRecDepth 40000 in
theorem wd_498 : Cond.code ⟨"PassiveBuses", "leaveLeg", "(ILPassiveBuses$Frame;)V"⟩ prog_1_method_34_code 6 none ∈ pb_ALL := pb_tw 498 (rfl) rfl
theorem wd_499 : Cond.methodLink "PassiveBuses" 299 ⟨"PassiveBuses", "callerGone", "(LPassiveBuses$Call;)V"⟩ ∈ pb_ALL := pb_tw 499 (by decide +kernel) rfl
theorem wd_501 : Cond.instanceMethod ⟨"PassiveBuses", "callerGone", "(LPassiveBuses$Call;)V"⟩ ∈ pb_ALL := pb_tw 501 (by decide +kernel) rfl
set_option maxRecDepth 40000 in
theorem wd_502 : Cond.code ⟨"PassiveBuses", "callerGone", "(LPassiveBuses$Call;)V"⟩ prog_1_method_35_code 2 none ∈ pb_ALL := pb_tw 502 (rfl) rfl
theorem wd_503 : Cond.methodLink "PassiveBuses" 310 ⟨"PassiveBuses", "endCall", "(LPassiveBuses$Call;I)V"⟩ ∈ pb_ALL := pb_tw 503 (by decide +kernel) rfl
theorem wd_505 : Cond.instanceMethod ⟨"PassiveBuses", "endCall", "(LPassiveBuses$Call;I)V"⟩ ∈ pb_ALL := pb_tw 505 (by decide +kernel) rfl
set_option maxRecDepth 40000 in
theorem wd_506 : Cond.code ⟨"PassiveBuses", "endCall", "(LPassiveBuses$Call;I)V"⟩ prog_1_method_37_code 5 none ∈ pb_ALL := pb_tw 506 (rfl) rfl
theorem wd_507 : Cond.methodLink "PassiveBuses" 303 ⟨"PassiveBuses", "calledGone", "(LPassiveBuses$Call;I)V"⟩ ∈ pb_ALL := pb_tw 507 (by decide +kernel) rfl
theorem wd_509 : Cond.instanceMethod ⟨"PassiveBuses", "calledGone", "(LPassiveBuses$Call;I)V"⟩ ∈ pb_ALL := pb_tw 509 (by decide +kernel) rfl
set_option maxRecDepth 40000 in
theorem wd_510 : Cond.code ⟨"PassiveBuses", "calledGone", "(LPassiveBuses$Call;I)V"⟩ prog_1_method_36_code 4 none ∈ pb_ALL := pb_tw 510 (rfl) rfl
theorem wd_511 : Cond.methodLink "PassiveBuses" 313 ⟨"PassiveBuses$Call", "isRinging", "()Z"⟩ ∈ pb_ALL := pb_tw 511 (by decide +kernel) rfl
theorem wd_512 : Cond.instanceMethod ⟨"PassiveBuses$Call", "isRinging", "()Z"⟩ ∈ pb_ALL := pb_tw 512 (by decide +kernel) rfl
theorem wd_513 : Cond.selects "PassiveBuses$Call" ⟨"PassiveBuses$Call", "isRinging", "()Z"⟩ ⟨"PassiveBuses$Call", "isRinging", "()Z"⟩ ∈ pb_ALL := pb_tw 513 (by decide +kernel) rfl
set_option maxRecDepth 40000 in
theorem wd_514 : Cond.code ⟨"PassiveBuses$Call", "isRinging", "()Z"⟩ prog_3_method_8_code 5 (some .boolean) ∈ pb_ALL := pb_tw 514 (rfl) rfl
theorem wd_515 : Cond.methodLink "PassiveBuses" 307 ⟨"PassiveBuses", "forgetFinishedCalls", "()V"⟩ ∈ pb_ALL := pb_tw 515 (by decide +kernel) rfl
theorem wd_517 : Cond.instanceMethod ⟨"PassiveBuses", "forgetFinishedCalls", "()V"⟩ ∈ pb_ALL := pb_tw 517 (by decide +kernel) rfl
set_option maxRecDepth 40000 in
theorem wd_518 : Cond.code ⟨"PassiveBuses", "forgetFinishedCalls", "()V"⟩ prog_1_method_38_code 4 none ∈ pb_ALL := pb_tw 518 (rfl) rfl
theorem wd_519 : Cond.methodLink "PassiveBuses" 316 ⟨"PassiveBuses$Call", "hasAnyLeg", "()Z"⟩ ∈ pb_ALL := pb_tw 519 (by decide +kernel) rfl
theorem wd_520 : Cond.instanceMethod ⟨"PassiveBuses$Call", "hasAnyLeg", "()Z"⟩ ∈ pb_ALL := pb_tw 520 (by decide +kernel) rfl
theorem wd_521 : Cond.selects "PassiveBuses$Call" ⟨"PassiveBuses$Call", "hasAnyLeg", "()Z"⟩ ⟨"PassiveBuses$Call", "hasAnyLeg", "()Z"⟩ ∈ pb_ALL := pb_tw 521 (by decide +kernel) rfl
set_option maxRecDepth 40000 in
theorem wd_522 : Cond.code ⟨"PassiveBuses$Call", "hasAnyLeg", "()Z"⟩ prog_3_method_9_code 5 (some .boolean) ∈ pb_ALL := pb_tw 522 (rfl) rfl
theorem wd_523 : Cond.methodLink "PassiveBuses" 180 ⟨"PassiveBuses$Bus", "settleSenders", "(Z)V"⟩ ∈ pb_ALL := pb_tw 523 (by decide +kernel) rfl
theorem wd_524 : Cond.instanceMethod ⟨"PassiveBuses$Bus", "settleSenders", "(Z)V"⟩ ∈ pb_ALL := pb_tw 524 (by decide +kernel) rfl
theorem wd_525 : Cond.selects "PassiveBuses$Bus" ⟨"PassiveBuses$Bus", "settleSenders", "(Z)V"⟩ ⟨"PassiveBuses$Bus", "settleSenders", "(Z)V"⟩ ∈ pb_ALL := pb_tw 525 (by decide +kernel) rfl
set_option maxRecDepth 40000 in
theorem wd_526 : Cond.code ⟨"PassiveBuses$Bus", "settleSenders", "(Z)V"⟩ prog_2_method_6_code 6 none ∈ pb_ALL := pb_tw 526 (rfl) rfl
theorem wd_527 : Cond.methodLink "PassiveBuses$Bus" 64 ⟨"PassiveBuses$Terminal", "settle", "(Z)V"⟩ ∈ pb_ALL := pb_tw 527 (by decide +kernel) rfl
theorem wd_528 : Cond.instanceMethod ⟨"PassiveBuses$Terminal", "settle", "(Z)V"⟩ ∈ pb_ALL := pb_tw 528 (by decide +kernel) rfl
theorem wd_529 : Cond.selects "PassiveBuses$Terminal" ⟨"PassiveBuses$Terminal", "settle", "(Z)V"⟩ ⟨"PassiveBuses$Terminal", "settle", "(Z)V"⟩ ∈ pb_ALL := pb_tw 529 (by decide +kernel) rfl
set_option maxRecDepth 40000 in
theorem wd_530 : Cond.code ⟨"PassiveBuses$Terminal", "settle", "(Z)V"⟩ prog_7_method_11_code 2 none ∈ pb_ALL := pb_tw 530 (rfl) rfl
theorem wd_531 : Cond.methodLink "PassiveBuses$Terminal" 104 ⟨"PassiveBuses$Row", "removeFirst", "()V"⟩ ∈ pb_ALL := pb_tw 531 (by decide +kernel) rfl
theorem wd_532 : Cond.instanceMethod ⟨"PassiveBuses$Row", "removeFirst", "()V"⟩ ∈ pb_ALL := pb_tw 532 (by decide +kernel) rfl
theorem wd_533 : Cond.selects "PassiveBuses$Row" ⟨"PassiveBuses$Row", "removeFirst", "()V"⟩ ⟨"PassiveBuses$Row", "removeFirst", "()V"⟩ ∈ pb_ALL := pb_tw 533 (by decide +kernel) rfl
set_option maxRecDepth 40000 in
theorem wd_534 : Cond.code ⟨"PassiveBuses$Row", "removeFirst", "()V"⟩ prog_6_method_4_code 3 none ∈ pb_ALL := pb_tw 534 (rfl) rfl
theorem wd_535 : Cond.methodLink "PassiveBuses$Terminal" 107 ⟨"PassiveBuses$Frame", "failsForGood", "()Z"⟩ ∈ pb_ALL := pb_tw 535 (by decide +kernel) rfl
theorem wd_536 : Cond.instanceMethod ⟨"PassiveBuses$Frame", "failsForGood", "()Z"⟩ ∈ pb_ALL := pb_tw 536 (by decide +kernel) rfl
theorem wd_537 : Cond.selects "PassiveBuses$Frame" ⟨"PassiveBuses$Frame", "failsForGood", "()Z"⟩ ⟨"PassiveBuses$Frame", "failsForGood", "()Z"⟩ ∈ pb_ALL := pb_tw 537 (by decide +kernel) rfl
set_option maxRecDepth 40000 in
theorem wd_538 : Cond.code ⟨"PassiveBuses$Frame", "failsForGood", "()Z"⟩ prog_4_method_3_code 1 (some .boolean) ∈ pb_ALL := pb_tw 538 (rfl) rfl
theorem wd_539 : Cond.methodLink "PassiveBuses$Terminal" 80 ⟨"PassiveBuses$Terminal", "startOverWithNextDraw", "()V"⟩ ∈ pb_ALL := pb_tw 539 (by decide +kernel) rfl
theorem wd_540 : Cond.instanceMethod ⟨"PassiveBuses$Terminal", "startOverWithNextDraw", "()V"⟩ ∈ pb_ALL := pb_tw 540 (by decide +kernel) rfl
theorem wd_541 : Cond.selects "PassiveBuses$Terminal" ⟨"PassiveBuses$Terminal", "startOverWithNextDraw", "()V"⟩ ⟨"PassiveBuses$Terminal", "startOverWithNextDraw", "()V"⟩ ∈ pb_ALL := pb_tw 541 (by decide +kernel) rfl
set_option maxRecDepth 40000 in
theorem wd_542 : Cond.code ⟨"PassiveBuses$Terminal", "startOverWithNextDraw", "()V"⟩ prog_7_method_5_code 1 none ∈ pb_ALL := pb_tw 542 (rfl) rfl
theorem wd_543 : Cond.methodLink "PassiveBuses" 116 ⟨"PassiveBuses", "stepDown", "(I)I"⟩ ∈ pb_ALL := pb_tw 543 (by decide +kernel) rfl
theorem wd_545 : Cond.instanceMethod ⟨"PassiveBuses", "stepDown", "(I)I"⟩ ∈ pb_ALL := pb_tw 545 (by decide +kernel) rfl
set_option maxRecDepth 40000 in
theorem wd_546 : Cond.code ⟨"PassiveBuses", "stepDown", "(I)I"⟩ prog_1_method_26_code 7 (some .int) ∈ pb_ALL := pb_tw 546 (rfl) rfl
theorem wd_547 : Cond.methodLink "PassiveBuses" 184 ⟨"PassiveBuses$Frame", "isNumbered", "()Z"⟩ ∈ pb_ALL := pb_tw 547 (by decide +kernel) rfl
theorem wd_548 : Cond.methodLink "PassiveBuses" 190 ⟨"PassiveBuses$Bus", "sendToAll", "(LPassiveBuses$Frame;)V"⟩ ∈ pb_ALL := pb_tw 548 (by decide +kernel) rfl
theorem wd_549 : Cond.instanceMethod ⟨"PassiveBuses$Bus", "sendToAll", "(LPassiveBuses$Frame;)V"⟩ ∈ pb_ALL := pb_tw 549 (by decide +kernel) rfl
theorem wd_550 : Cond.selects "PassiveBuses$Bus" ⟨"PassiveBuses$Bus", "sendToAll", "(LPassiveBuses$Frame;)V"⟩ ⟨"PassiveBuses$Bus", "sendToAll", "(LPassiveBuses$Frame;)V"⟩ ∈ pb_ALL := pb_tw 550 (by decide +kernel) rfl
set_option maxRecDepth 40000 in
theorem wd_551 : Cond.code ⟨"PassiveBuses$Bus", "sendToAll", "(LPassiveBuses$Frame;)V"⟩ prog_2_method_8_code 6 none ∈ pb_ALL := pb_tw 551 (rfl) rfl
theorem wd_552 : Cond.methodLink "PassiveBuses$Bus" 86 ⟨"PassiveBuses$Terminal", "hear", "(LPassiveBuses$Frame;)V"⟩ ∈ pb_ALL := pb_tw 552 (by decide +kernel) rfl
theorem wd_553 : Cond.instanceMethod ⟨"PassiveBuses$Terminal", "hear", "(LPassiveBuses$Frame;)V"⟩ ∈ pb_ALL := pb_tw 553 (by decide +kernel) rfl
theorem wd_554 : Cond.selects "PassiveBuses$Terminal" ⟨"PassiveBuses$Terminal", "hear", "(LPassiveBuses$Frame;)V"⟩ ⟨"PassiveBuses$Terminal", "hear", "(LPassiveBuses$Frame;)V"⟩ ∈ pb_ALL := pb_tw 554 (by decide +kernel) rfl
set_option maxRecDepth 40000 in
theorem wd_555 : Cond.code ⟨"PassiveBuses$Terminal", "hear", "(LPassiveBuses$Frame;)V"⟩ prog_7_method_12_code 2 none ∈ pb_ALL := pb_tw 555 (rfl) rfl
theorem wd_556 : Cond.methodLink "PassiveBuses" 194 ⟨"PassiveBuses$Row", "removeFirst", "()V"⟩ ∈ pb_ALL := pb_tw 556 (by decide +kernel) rfl
theorem wd_557 : Cond.methodLink "PassiveBuses" 199 ⟨"PassiveBuses$Bus", "sendToAddress", "(LPassiveBuses$Frame;I)Z"⟩ ∈ pb_ALL := pb_tw 557 (by decide +kernel) rfl
theorem wd_558 : Cond.instanceMethod ⟨"PassiveBuses$Bus", "sendToAddress", "(LPassiveBuses$Frame;I)Z"⟩ ∈ pb_ALL := pb_tw 558 (by decide +kernel) rfl
theorem wd_559 : Cond.selects "PassiveBuses$Bus" ⟨"PassiveBuses$Bus", "sendToAddress", "(LPassiveBuses$Frame;I)Z"⟩ ⟨"PassiveBuses$Bus", "sendToAddress", "(LPassiveBuses$Frame;I)Z"⟩ ∈ pb_ALL := pb_tw 559 (by decide +kernel) rfl
set_option maxRecDepth 40000 in
theorem wd_560 : Cond.code ⟨"PassiveBuses$Bus", "sendToAddress", "(LPassiveBuses$Frame;I)Z"⟩ prog_2_method_9_code 8 (some .boolean) ∈ pb_ALL := pb_tw 560 (rfl) rfl
theorem wd_561 : Cond.methodLink "PassiveBuses$Bus" 91 ⟨"PassiveBuses$Terminal", "receive", "(LPassiveBuses$Frame;I)V"⟩ ∈ pb_ALL := pb_tw 561 (by decide +kernel) rfl
theorem wd_562 : Cond.instanceMethod ⟨"PassiveBuses$Terminal", "receive", "(LPassiveBuses$Frame;I)V"⟩ ∈ pb_ALL := pb_tw 562 (by decide +kernel) rfl
theorem wd_563 : Cond.selects "PassiveBuses$Terminal" ⟨"PassiveBuses$Terminal", "receive", "(LPassiveBuses$Frame;I)V"⟩ ⟨"PassiveBuses$Terminal", "receive", "(LPassiveBuses$Frame;I)V"⟩ ∈ pb_ALL := pb_tw 563 (by decide +kernel) rfl
set_option maxRecDepth 40000 in
theorem wd_564 : Cond.code ⟨"PassiveBuses$Terminal", "receive", "(LPassiveBuses$Frame;I)V"⟩ prog_7_method_13_code 4 none ∈ pb_ALL := pb_tw 564 (rfl) rfl
theorem wd_565 : Cond.methodLink "PassiveBuses$Terminal" 118 ⟨"PassiveBuses$Terminal", "follow", "(LPassiveBuses$Frame;)V"⟩ ∈ pb_ALL := pb_tw 565 (by decide +kernel) rfl
theorem wd_566 : Cond.instanceMethod ⟨"PassiveBuses$Terminal", "follow", "(LPassiveBuses$Frame;)V"⟩ ∈ pb_ALL := pb_tw 566 (by decide +kernel) rfl
theorem wd_567 : Cond.selects "PassiveBuses$Terminal" ⟨"PassiveBuses$Terminal", "follow", "(LPassiveBuses$Frame;)V"⟩ ⟨"PassiveBuses$Terminal", "follow", "(LPassiveBuses$Frame;)V"⟩ ∈ pb_ALL := pb_tw 567 (by decide +kernel) rfl
set_option maxRecDepth 40000 in
theorem wd_568 : Cond.code ⟨"PassiveBuses$Terminal", "follow", "(LPassiveBuses$Frame;)V"⟩ prog_7_method_14_code 2 none ∈ pb_ALL := pb_tw 568 (rfl) rfl
theorem wd_569 : Cond.methodLink "PassiveBuses" 203 ⟨"PassiveBuses$Frame", "failsForGood", "()Z"⟩ ∈ pb_ALL := pb_tw 569 (by decide +kernel) rfl
theorem wd_570 : Cond.methodLink "PassiveBuses" 206 ⟨"PassiveBuses", "dropAddress", "(II)V"⟩ ∈ pb_ALL := pb_tw 570 (by decide +kernel) rfl
theorem wd_572 : Cond.instanceMethod ⟨"PassiveBuses", "dropAddress", "(II)V"⟩ ∈ pb_ALL := pb_tw 572 (by decide +kernel) rfl
set_option maxRecDepth 40000 in
theorem wd_573 : Cond.code ⟨"PassiveBuses", "dropAddress", "(II)V"⟩ prog_1_method_39_code 6 none ∈ pb_ALL := pb_tw 573 (rfl) rfl
theorem wd_574 : Cond.methodLink "PassiveBuses" 319 ⟨"PassiveBuses$Row", "removeNumbered", "(I)V"⟩ ∈ pb_ALL := pb_tw 574 (by decide +kernel) rfl
theorem wd_575 : Cond.instanceMethod ⟨"PassiveBuses$Row", "removeNumbered", "(I)V"⟩ ∈ pb_ALL := pb_tw 575 (by decide +kernel) rfl
theorem wd_576 : Cond.selects "PassiveBuses$Row" ⟨"PassiveBuses$Row", "removeNumbered", "(I)V"⟩ ⟨"PassiveBuses$Row", "removeNumbered", "(I)V"⟩ ∈ pb_ALL := pb_tw 576 (by decide +kernel) rfl
set_option maxRecDepth 40000 in
theorem wd_577 : Cond.code ⟨"PassiveBuses$Row", "removeNumbered", "(I)V"⟩ prog_6_method_5_code 5 none ∈ pb_ALL := pb_tw 577 (rfl) rfl
theorem wd_578 : Cond.methodLink "PassiveBuses$Row" 35 ⟨"PassiveBuses$Frame", "isNumbered", "()Z"⟩ ∈ pb_ALL := pb_tw 578 (by decide +kernel) rfl
theorem wd_579 : Cond.methodLink "PassiveBuses" 119 ⟨"PassiveBuses", "runClocks", "()V"⟩ ∈ pb_ALL := pb_tw 579 (by decide +kernel) rfl
theorem wd_581 : Cond.instanceMethod ⟨"PassiveBuses", "runClocks", "()V"⟩ ∈ pb_ALL := pb_tw 581 (by decide +kernel) rfl
set_option maxRecDepth 40000 in
theorem wd_582 : Cond.code ⟨"PassiveBuses", "runClocks", "()V"⟩ prog_1_method_42_code 6 none ∈ pb_ALL := pb_tw 582 (rfl) rfl
theorem wd_583 : Cond.methodLink "PassiveBuses" 325 ⟨"PassiveBuses$Terminal", "runClock", "()V"⟩ ∈ pb_ALL := pb_tw 583 (by decide +kernel) rfl
theorem wd_584 : Cond.instanceMethod ⟨"PassiveBuses$Terminal", "runClock", "()V"⟩ ∈ pb_ALL := pb_tw 584 (by decide +kernel) rfl
theorem wd_585 : Cond.selects "PassiveBuses$Terminal" ⟨"PassiveBuses$Terminal", "runClock", "()V"⟩ ⟨"PassiveBuses$Terminal", "runClock", "()V"⟩ ∈ pb_ALL := pb_tw 585 (by decide +kernel) rfl
set_option maxRecDepth 40000 in
theorem wd_586 : Cond.code ⟨"PassiveBuses$Terminal", "runClock", "()V"⟩ prog_7_method_8_code 1 none ∈ pb_ALL := pb_tw 586 (rfl) rfl
theorem wd_587 : Cond.methodLink "PassiveBuses" 328 ⟨"PassiveBuses", "runAuditClock", "(II)V"⟩ ∈ pb_ALL := pb_tw 587 (by decide +kernel) rfl
theorem wd_589 : Cond.instanceMethod ⟨"PassiveBuses", "runAuditClock", "(II)V"⟩ ∈ pb_ALL := pb_tw 589 (by decide +kernel) rfl
set_option maxRecDepth 40000 in
theorem wd_590 : Cond.code ⟨"PassiveBuses", "runAuditClock", "(II)V"⟩ prog_1_method_43_code 4 none ∈ pb_ALL := pb_tw 590 (rfl) rfl
theorem wd_591 : Cond.methodLink "PassiveBuses" 331 ⟨"PassiveBuses", "runCallClock", "(LPassiveBuses$Call;)V"⟩ ∈ pb_ALL := pb_tw 591 (by decide +kernel) rfl
theorem wd_593 : Cond.instanceMethod ⟨"PassiveBuses", "runCallClock", "(LPassiveBuses$Call;)V"⟩ ∈ pb_ALL := pb_tw 593 (by decide +kernel) rfl
set_option maxRecDepth 40000 in
theorem wd_594 : Cond.code ⟨"PassiveBuses", "runCallClock", "(LPassiveBuses$Call;)V"⟩ prog_1_method_44_code 2 none ∈ pb_ALL := pb_tw 594 (rfl) rfl
theorem wd_595 : Cond.methodLink "PassiveBuses" 122 ⟨"PassiveBuses", "carrySpeech", "()V"⟩ ∈ pb_ALL := pb_tw 595 (by decide +kernel) rfl
theorem wd_597 : Cond.instanceMethod ⟨"PassiveBuses", "carrySpeech", "()V"⟩ ∈ pb_ALL := pb_tw 597 (by decide +kernel) rfl
set_option maxRecDepth 40000 in
theorem wd_598 : Cond.code ⟨"PassiveBuses", "carrySpeech", "()V"⟩ prog_1_method_45_code 6 none ∈ pb_ALL := pb_tw 598 (rfl) rfl
theorem wd_599 : Cond.methodLink "PassiveBuses" 337 ⟨"PassiveBuses", "goesDown", "(II)I"⟩ ∈ pb_ALL := pb_tw 599 (by decide +kernel) rfl
theorem wd_601 : Cond.instanceMethod ⟨"PassiveBuses", "goesDown", "(II)I"⟩ ∈ pb_ALL := pb_tw 601 (by decide +kernel) rfl
set_option maxRecDepth 40000 in
theorem wd_602 : Cond.code ⟨"PassiveBuses", "goesDown", "(II)I"⟩ prog_1_method_46_code 5 (some .int) ∈ pb_ALL := pb_tw 602 (rfl) rfl
theorem wd_603 : Cond.methodLink "PassiveBuses" 343 ⟨"PassiveBuses$Bus", "comesUp", "(I)I"⟩ ∈ pb_ALL := pb_tw 603 (by decide +kernel) rfl
theorem wd_604 : Cond.instanceMethod ⟨"PassiveBuses$Bus", "comesUp", "(I)I"⟩ ∈ pb_ALL := pb_tw 604 (by decide +kernel) rfl
theorem wd_605 : Cond.selects "PassiveBuses$Bus" ⟨"PassiveBuses$Bus", "comesUp", "(I)I"⟩ ⟨"PassiveBuses$Bus", "comesUp", "(I)I"⟩ ∈ pb_ALL := pb_tw 605 (by decide +kernel) rfl
set_option maxRecDepth 40000 in
theorem wd_606 : Cond.code ⟨"PassiveBuses$Bus", "comesUp", "(I)I"⟩ prog_2_method_11_code 7 (some .int) ∈ pb_ALL := pb_tw 606 (rfl) rfl
theorem wd_607 : Cond.methodLink "PassiveBusesLaw" 53 ⟨"PassiveBuses", "time", "()I"⟩ ∈ pb_ALL := pb_tw 607 (by decide +kernel) rfl
theorem wd_608 : Cond.instanceMethod ⟨"PassiveBuses", "time", "()I"⟩ ∈ pb_ALL := pb_tw 608 (by decide +kernel) rfl
theorem wd_609 : Cond.selects "PassiveBuses" ⟨"PassiveBuses", "time", "()I"⟩ ⟨"PassiveBuses", "time", "()I"⟩ ∈ pb_ALL := pb_tw 609 (by decide +kernel) rfl
set_option maxRecDepth 40000 in
theorem wd_610 : Cond.code ⟨"PassiveBuses", "time", "()I"⟩ prog_1_method_11_code 1 (some .int) ∈ pb_ALL := pb_tw 610 (rfl) rfl
theorem wd_611 : Cond.methodLink "PassiveBusesLaw" 58 ⟨"PassiveBuses", "state", "(II)I"⟩ ∈ pb_ALL := pb_tw 611 (by decide +kernel) rfl
theorem wd_612 : Cond.instanceMethod ⟨"PassiveBuses", "state", "(II)I"⟩ ∈ pb_ALL := pb_tw 612 (by decide +kernel) rfl
theorem wd_613 : Cond.selects "PassiveBuses" ⟨"PassiveBuses", "state", "(II)I"⟩ ⟨"PassiveBuses", "state", "(II)I"⟩ ∈ pb_ALL := pb_tw 613 (by decide +kernel) rfl
set_option maxRecDepth 40000 in
theorem wd_614 : Cond.code ⟨"PassiveBuses", "state", "(II)I"⟩ prog_1_method_12_code 4 (some .int) ∈ pb_ALL := pb_tw 614 (rfl) rfl
theorem wd_615 : Cond.methodLink "PassiveBusesLaw" 63 ⟨"PassiveBuses", "address", "(II)I"⟩ ∈ pb_ALL := pb_tw 615 (by decide +kernel) rfl
theorem wd_616 : Cond.instanceMethod ⟨"PassiveBuses", "address", "(II)I"⟩ ∈ pb_ALL := pb_tw 616 (by decide +kernel) rfl
theorem wd_617 : Cond.selects "PassiveBuses" ⟨"PassiveBuses", "address", "(II)I"⟩ ⟨"PassiveBuses", "address", "(II)I"⟩ ∈ pb_ALL := pb_tw 617 (by decide +kernel) rfl
set_option maxRecDepth 40000 in
theorem wd_618 : Cond.code ⟨"PassiveBuses", "address", "(II)I"⟩ prog_1_method_13_code 4 (some .int) ∈ pb_ALL := pb_tw 618 (rfl) rfl
theorem wd_619 : Cond.methodLink "PassiveBusesLaw" 67 ⟨"PassiveBuses", "reference", "(II)I"⟩ ∈ pb_ALL := pb_tw 619 (by decide +kernel) rfl
theorem wd_620 : Cond.instanceMethod ⟨"PassiveBuses", "reference", "(II)I"⟩ ∈ pb_ALL := pb_tw 620 (by decide +kernel) rfl
theorem wd_621 : Cond.selects "PassiveBuses" ⟨"PassiveBuses", "reference", "(II)I"⟩ ⟨"PassiveBuses", "reference", "(II)I"⟩ ∈ pb_ALL := pb_tw 621 (by decide +kernel) rfl
set_option maxRecDepth 40000 in
theorem wd_622 : Cond.code ⟨"PassiveBuses", "reference", "(II)I"⟩ prog_1_method_14_code 4 (some .int) ∈ pb_ALL := pb_tw 622 (rfl) rfl
theorem wd_623 : Cond.methodLink "PassiveBusesLaw" 71 ⟨"PassiveBuses", "channel", "(II)I"⟩ ∈ pb_ALL := pb_tw 623 (by decide +kernel) rfl
theorem wd_624 : Cond.instanceMethod ⟨"PassiveBuses", "channel", "(II)I"⟩ ∈ pb_ALL := pb_tw 624 (by decide +kernel) rfl
theorem wd_625 : Cond.selects "PassiveBuses" ⟨"PassiveBuses", "channel", "(II)I"⟩ ⟨"PassiveBuses", "channel", "(II)I"⟩ ∈ pb_ALL := pb_tw 625 (by decide +kernel) rfl
set_option maxRecDepth 40000 in
theorem wd_626 : Cond.code ⟨"PassiveBuses", "channel", "(II)I"⟩ prog_1_method_15_code 4 (some .int) ∈ pb_ALL := pb_tw 626 (rfl) rfl
theorem wd_627 : Cond.methodLink "PassiveBusesLaw" 75 ⟨"PassiveBuses", "cause", "(II)I"⟩ ∈ pb_ALL := pb_tw 627 (by decide +kernel) rfl
theorem wd_628 : Cond.instanceMethod ⟨"PassiveBuses", "cause", "(II)I"⟩ ∈ pb_ALL := pb_tw 628 (by decide +kernel) rfl
theorem wd_629 : Cond.selects "PassiveBuses" ⟨"PassiveBuses", "cause", "(II)I"⟩ ⟨"PassiveBuses", "cause", "(II)I"⟩ ∈ pb_ALL := pb_tw 629 (by decide +kernel) rfl
set_option maxRecDepth 40000 in
theorem wd_630 : Cond.code ⟨"PassiveBuses", "cause", "(II)I"⟩ prog_1_method_16_code 4 (some .int) ∈ pb_ALL := pb_tw 630 (rfl) rfl
theorem wd_631 : Cond.methodLink "PassiveBusesLaw" 79 ⟨"PassiveBuses", "ear", "(II)I"⟩ ∈ pb_ALL := pb_tw 631 (by decide +kernel) rfl
theorem wd_632 : Cond.instanceMethod ⟨"PassiveBuses", "ear", "(II)I"⟩ ∈ pb_ALL := pb_tw 632 (by decide +kernel) rfl
theorem wd_633 : Cond.selects "PassiveBuses" ⟨"PassiveBuses", "ear", "(II)I"⟩ ⟨"PassiveBuses", "ear", "(II)I"⟩ ∈ pb_ALL := pb_tw 633 (by decide +kernel) rfl
set_option maxRecDepth 40000 in
theorem wd_634 : Cond.code ⟨"PassiveBuses", "ear", "(II)I"⟩ prog_1_method_17_code 4 (some .int) ∈ pb_ALL := pb_tw 634 (rfl) rfl
theorem wd_635 : Cond.methodLink "PassiveBusesLaw" 83 ⟨"PassiveBuses", "waiting", "(IZ)I"⟩ ∈ pb_ALL := pb_tw 635 (by decide +kernel) rfl
theorem wd_636 : Cond.instanceMethod ⟨"PassiveBuses", "waiting", "(IZ)I"⟩ ∈ pb_ALL := pb_tw 636 (by decide +kernel) rfl
theorem wd_637 : Cond.selects "PassiveBuses" ⟨"PassiveBuses", "waiting", "(IZ)I"⟩ ⟨"PassiveBuses", "waiting", "(IZ)I"⟩ ∈ pb_ALL := pb_tw 637 (by decide +kernel) rfl
set_option maxRecDepth 40000 in
theorem wd_638 : Cond.code ⟨"PassiveBuses", "waiting", "(IZ)I"⟩ prog_1_method_18_code 3 (some .int) ∈ pb_ALL := pb_tw 638 (rfl) rfl
theorem wd_639 : Cond.methodLink "PassiveBuses" 140 ⟨"PassiveBuses$Bus", "countTerminalFrames", "()I"⟩ ∈ pb_ALL := pb_tw 639 (by decide +kernel) rfl
theorem wd_640 : Cond.instanceMethod ⟨"PassiveBuses$Bus", "countTerminalFrames", "()I"⟩ ∈ pb_ALL := pb_tw 640 (by decide +kernel) rfl
theorem wd_641 : Cond.selects "PassiveBuses$Bus" ⟨"PassiveBuses$Bus", "countTerminalFrames", "()I"⟩ ⟨"PassiveBuses$Bus", "countTerminalFrames", "()I"⟩ ∈ pb_ALL := pb_tw 641 (by decide +kernel) rfl
set_option maxRecDepth 40000 in
theorem wd_642 : Cond.code ⟨"PassiveBuses$Bus", "countTerminalFrames", "()I"⟩ prog_2_method_3_code 6 (some .int) ∈ pb_ALL := pb_tw 642 (rfl) rfl
theorem wd_643 : Cond.methodLink "PassiveBusesLaw" 88 ⟨"PassiveBuses", "given", "(I)I"⟩ ∈ pb_ALL := pb_tw 643 (by decide +kernel) rfl
theorem wd_644 : Cond.instanceMethod ⟨"PassiveBuses", "given", "(I)I"⟩ ∈ pb_ALL := pb_tw 644 (by decide +kernel) rfl
theorem wd_645 : Cond.selects "PassiveBuses" ⟨"PassiveBuses", "given", "(I)I"⟩ ⟨"PassiveBuses", "given", "(I)I"⟩ ∈ pb_ALL := pb_tw 645 (by decide +kernel) rfl
set_option maxRecDepth 40000 in
theorem wd_646 : Cond.code ⟨"PassiveBuses", "given", "(I)I"⟩ prog_1_method_19_code 4 (some .int) ∈ pb_ALL := pb_tw 646 (rfl) rfl
theorem wd_647 : Cond.methodLink "PassiveBusesLaw" 92 ⟨"PassiveBuses", "holder", "(II)I"⟩ ∈ pb_ALL := pb_tw 647 (by decide +kernel) rfl
theorem wd_648 : Cond.instanceMethod ⟨"PassiveBuses", "holder", "(II)I"⟩ ∈ pb_ALL := pb_tw 648 (by decide +kernel) rfl
theorem wd_649 : Cond.selects "PassiveBuses" ⟨"PassiveBuses", "holder", "(II)I"⟩ ⟨"PassiveBuses", "holder", "(II)I"⟩ ∈ pb_ALL := pb_tw 649 (by decide +kernel) rfl
set_option maxRecDepth 40000 in
theorem wd_650 : Cond.code ⟨"PassiveBuses", "holder", "(II)I"⟩ prog_1_method_20_code 3 (some .int) ∈ pb_ALL := pb_tw 650 (rfl) rfl
theorem wd_651 : Cond.methodLink "PassiveBusesLaw" 96 ⟨"PassiveBuses", "phase", "(I)I"⟩ ∈ pb_ALL := pb_tw 651 (by decide +kernel) rfl
theorem wd_652 : Cond.instanceMethod ⟨"PassiveBuses", "phase", "(I)I"⟩ ∈ pb_ALL := pb_tw 652 (by decide +kernel) rfl
theorem wd_653 : Cond.selects "PassiveBuses" ⟨"PassiveBuses", "phase", "(I)I"⟩ ⟨"PassiveBuses", "phase", "(I)I"⟩ ∈ pb_ALL := pb_tw 653 (by decide +kernel) rfl
set_option maxRecDepth 40000 in
theorem wd_654 : Cond.code ⟨"PassiveBuses", "phase", "(I)I"⟩ prog_1_method_21_code 3 (some .int) ∈ pb_ALL := pb_tw 654 (rfl) rfl
theorem wd_655 : Cond.classLink "PassiveBusesLaw" 10 "PassiveBusesModel" ∈ pb_ALL := pb_tw 655 (by decide +kernel) rfl
theorem wd_656 : Cond.instantiable "PassiveBusesModel" 50 ∈ pb_ALL := pb_tw 656 (by decide +kernel) rfl
theorem wd_657 : Cond.methodLink "PassiveBusesLaw" 12 ⟨"PassiveBusesModel", "<init>", "()V"⟩ ∈ pb_ALL := pb_tw 657 (by decide +kernel) rfl
theorem wd_658 : Cond.instanceMethod ⟨"PassiveBusesModel", "<init>", "()V"⟩ ∈ pb_ALL := pb_tw 658 (by decide +kernel) rfl
set_option maxRecDepth 40000 in
theorem wd_659 : Cond.code ⟨"PassiveBusesModel", "<init>", "()V"⟩ prog_9_method_1_code 1 none ∈ pb_ALL := pb_tw 659 (rfl) rfl
theorem wd_660 : Cond.methodLink "PassiveBusesModel" 1 ⟨"java/lang/Object", "<init>", "()V"⟩ ∈ pb_ALL := pb_tw 660 (by decide +kernel) rfl
theorem wd_661 : Cond.fieldLink "PassiveBusesModel" 7 "PassiveBusesModel" "there" "[Z" ∈ pb_ALL := pb_tw 661 (by decide +kernel) rfl
theorem wd_662 : Cond.fieldLink "PassiveBusesModel" 13 "PassiveBusesModel" "address" "[I" ∈ pb_ALL := pb_tw 662 (by decide +kernel) rfl
theorem wd_663 : Cond.fieldLink "PassiveBusesModel" 17 "PassiveBusesModel" "draw" "[I" ∈ pb_ALL := pb_tw 663 (by decide +kernel) rfl
theorem wd_664 : Cond.fieldLink "PassiveBusesModel" 20 "PassiveBusesModel" "mild" "[Z" ∈ pb_ALL := pb_tw 664 (by decide +kernel) rfl
theorem wd_665 : Cond.fieldLink "PassiveBusesModel" 23 "PassiveBusesModel" "state" "[I" ∈ pb_ALL := pb_tw 665 (by decide +kernel) rfl
theorem wd_666 : Cond.fieldLink "PassiveBusesModel" 26 "PassiveBusesModel" "own" "[I" ∈ pb_ALL := pb_tw 666 (by decide +kernel) rfl
theorem wd_667 : Cond.fieldLink "PassiveBusesModel" 29 "PassiveBusesModel" "channel" "[I" ∈ pb_ALL := pb_tw 667 (by decide +kernel) rfl
theorem wd_668 : Cond.fieldLink "PassiveBusesModel" 32 "PassiveBusesModel" "mouth" "[I" ∈ pb_ALL := pb_tw 668 (by decide +kernel) rfl
theorem wd_669 : Cond.fieldLink "PassiveBusesModel" 35 "PassiveBusesModel" "ear" "[I" ∈ pb_ALL := pb_tw 669 (by decide +kernel) rfl
theorem wd_670 : Cond.fieldLink "PassiveBusesModel" 38 "PassiveBusesModel" "kept" "[I" ∈ pb_ALL := pb_tw 670 (by decide +kernel) rfl
theorem wd_671 : Cond.fieldLink "PassiveBusesModel" 41 "PassiveBusesModel" "dials" "[I" ∈ pb_ALL := pb_tw 671 (by decide +kernel) rfl
theorem wd_672 : Cond.fieldLink "PassiveBusesModel" 44 "PassiveBusesModel" "patience" "[I" ∈ pb_ALL := pb_tw 672 (by decide +kernel) rfl
theorem wd_673 : Cond.fieldLink "PassiveBusesModel" 47 "PassiveBusesModel" "sends" "[I" ∈ pb_ALL := pb_tw 673 (by decide +kernel) rfl
theorem wd_674 : Cond.fieldLink "PassiveBusesModel" 50 "PassiveBusesModel" "takes" "[I" ∈ pb_ALL := pb_tw 674 (by decide +kernel) rfl
theorem wd_675 : Cond.fieldLink "PassiveBusesModel" 53 "PassiveBusesModel" "contends" "[Z" ∈ pb_ALL := pb_tw 675 (by decide +kernel) rfl
theorem wd_676 : Cond.fieldLink "PassiveBusesModel" 56 "PassiveBusesModel" "length" "[I" ∈ pb_ALL := pb_tw 676 (by decide +kernel) rfl
theorem wd_677 : Cond.fieldLink "PassiveBusesModel" 59 "PassiveBusesModel" "kind" "[I" ∈ pb_ALL := pb_tw 677 (by decide +kernel) rfl
theorem wd_678 : Cond.fieldLink "PassiveBusesModel" 62 "PassiveBusesModel" "reference" "[I" ∈ pb_ALL := pb_tw 678 (by decide +kernel) rfl
theorem wd_679 : Cond.fieldLink "PassiveBusesModel" 65 "PassiveBusesModel" "value" "[I" ∈ pb_ALL := pb_tw 679 (by decide +kernel) rfl
theorem wd_680 : Cond.fieldLink "PassiveBusesModel" 68 "PassiveBusesModel" "failed" "[I" ∈ pb_ALL := pb_tw 680 (by decide +kernel) rfl
theorem wd_681 : Cond.fieldLink "PassiveBusesModel" 71 "PassiveBusesModel" "rows" "[I" ∈ pb_ALL := pb_tw 681 (by decide +kernel) rfl
theorem wd_682 : Cond.fieldLink "PassiveBusesModel" 74 "PassiveBusesModel" "downKind" "[I" ∈ pb_ALL := pb_tw 682 (by decide +kernel) rfl
theorem wd_683 : Cond.fieldLink "PassiveBusesModel" 77 "PassiveBusesModel" "downTo" "[I" ∈ pb_ALL := pb_tw 683 (by decide +kernel) rfl
theorem wd_684 : Cond.fieldLink "PassiveBusesModel" 80 "PassiveBusesModel" "downReference" "[I" ∈ pb_ALL := pb_tw 684 (by decide +kernel) rfl
theorem wd_685 : Cond.fieldLink "PassiveBusesModel" 83 "PassiveBusesModel" "downValue" "[I" ∈ pb_ALL := pb_tw 685 (by decide +kernel) rfl
theorem wd_686 : Cond.fieldLink "PassiveBusesModel" 86 "PassiveBusesModel" "downFailed" "[I" ∈ pb_ALL := pb_tw 686 (by decide +kernel) rfl
theorem wd_687 : Cond.fieldLink "PassiveBusesModel" 89 "PassiveBusesModel" "given" "[Z" ∈ pb_ALL := pb_tw 687 (by decide +kernel) rfl
theorem wd_688 : Cond.fieldLink "PassiveBusesModel" 92 "PassiveBusesModel" "exchangeSends" "[I" ∈ pb_ALL := pb_tw 688 (by decide +kernel) rfl
theorem wd_689 : Cond.fieldLink "PassiveBusesModel" 95 "PassiveBusesModel" "exchangeTakes" "[I" ∈ pb_ALL := pb_tw 689 (by decide +kernel) rfl
theorem wd_690 : Cond.fieldLink "PassiveBusesModel" 98 "PassiveBusesModel" "auditClock" "[I" ∈ pb_ALL := pb_tw 690 (by decide +kernel) rfl
theorem wd_691 : Cond.fieldLink "PassiveBusesModel" 101 "PassiveBusesModel" "auditCount" "[I" ∈ pb_ALL := pb_tw 691 (by decide +kernel) rfl
theorem wd_692 : Cond.fieldLink "PassiveBusesModel" 104 "PassiveBusesModel" "spoilUp" "[I" ∈ pb_ALL := pb_tw 692 (by decide +kernel) rfl
theorem wd_693 : Cond.fieldLink "PassiveBusesModel" 107 "PassiveBusesModel" "spoilDown" "[I" ∈ pb_ALL := pb_tw 693 (by decide +kernel) rfl
theorem wd_694 : Cond.fieldLink "PassiveBusesModel" 110 "PassiveBusesModel" "number" "[I" ∈ pb_ALL := pb_tw 694 (by decide +kernel) rfl
theorem wd_695 : Cond.fieldLink "PassiveBusesModel" 113 "PassiveBusesModel" "caller" "[I" ∈ pb_ALL := pb_tw 695 (by decide +kernel) rfl
theorem wd_696 : Cond.fieldLink "PassiveBusesModel" 116 "PassiveBusesModel" "callerBus" "[I" ∈ pb_ALL := pb_tw 696 (by decide +kernel) rfl
theorem wd_697 : Cond.fieldLink "PassiveBusesModel" 119 "PassiveBusesModel" "callerAddress" "[I" ∈ pb_ALL := pb_tw 697 (by decide +kernel) rfl
theorem wd_698 : Cond.fieldLink "PassiveBusesModel" 122 "PassiveBusesModel" "callerReference" "[I" ∈ pb_ALL := pb_tw 698 (by decide +kernel) rfl
theorem wd_699 : Cond.fieldLink "PassiveBusesModel" 125 "PassiveBusesModel" "callerChannel" "[I" ∈ pb_ALL := pb_tw 699 (by decide +kernel) rfl
theorem wd_700 : Cond.fieldLink "PassiveBusesModel" 128 "PassiveBusesModel" "calledBus" "[I" ∈ pb_ALL := pb_tw 700 (by decide +kernel) rfl
theorem wd_701 : Cond.fieldLink "PassiveBusesModel" 131 "PassiveBusesModel" "calledChannel" "[I" ∈ pb_ALL := pb_tw 701 (by decide +kernel) rfl
theorem wd_702 : Cond.fieldLink "PassiveBusesModel" 134 "PassiveBusesModel" "phase" "[I" ∈ pb_ALL := pb_tw 702 (by decide +kernel) rfl
theorem wd_703 : Cond.fieldLink "PassiveBusesModel" 137 "PassiveBusesModel" "clock" "[I" ∈ pb_ALL := pb_tw 703 (by decide +kernel) rfl
theorem wd_704 : Cond.fieldLink "PassiveBusesModel" 140 "PassiveBusesModel" "again" "[Z" ∈ pb_ALL := pb_tw 704 (by decide +kernel) rfl
theorem wd_705 : Cond.fieldLink "PassiveBusesModel" 143 "PassiveBusesModel" "winner" "[I" ∈ pb_ALL := pb_tw 705 (by decide +kernel) rfl
theorem wd_706 : Cond.fieldLink "PassiveBusesModel" 146 "PassiveBusesModel" "leg" "[I" ∈ pb_ALL := pb_tw 706 (by decide +kernel) rfl
theorem wd_707 : Cond.fieldLink "PassiveBusesModel" 266 "PassiveBusesModel" "numbers" "I" ∈ pb_ALL := pb_tw 707 (by decide +kernel) rfl
theorem wd_708 : Cond.fieldLink "PassiveBusesModel" 149 "PassiveBusesModel" "speech" "[I" ∈ pb_ALL := pb_tw 708 (by decide +kernel) rfl
theorem wd_709 : Cond.fieldLink "PassiveBusesModel" 293 "PassiveBusesModel" "ticks" "I" ∈ pb_ALL := pb_tw 709 (by decide +kernel) rfl
theorem wd_710 : Cond.fieldLink "PassiveBusesModel" 182 "PassiveBusesModel" "sent" "I" ∈ pb_ALL := pb_tw 710 (by decide +kernel) rfl
theorem wd_711 : Cond.laysFinal "PassiveBusesModel" "PassiveBusesModel" "there" "[Z" ∈ pb_ALL := pb_tw 711 (by decide +kernel) rfl
theorem wd_713 : Cond.laysFinal "PassiveBusesModel" "PassiveBusesModel" "address" "[I" ∈ pb_ALL := pb_tw 713 (by decide +kernel) rfl
theorem wd_715 : Cond.laysFinal "PassiveBusesModel" "PassiveBusesModel" "draw" "[I" ∈ pb_ALL := pb_tw 715 (by decide +kernel) rfl
theorem wd_717 : Cond.laysFinal "PassiveBusesModel" "PassiveBusesModel" "mild" "[Z" ∈ pb_ALL := pb_tw 717 (by decide +kernel) rfl
theorem wd_719 : Cond.laysFinal "PassiveBusesModel" "PassiveBusesModel" "state" "[I" ∈ pb_ALL := pb_tw 719 (by decide +kernel) rfl
theorem wd_721 : Cond.laysFinal "PassiveBusesModel" "PassiveBusesModel" "own" "[I" ∈ pb_ALL := pb_tw 721 (by decide +kernel) rfl
theorem wd_723 : Cond.laysFinal "PassiveBusesModel" "PassiveBusesModel" "channel" "[I" ∈ pb_ALL := pb_tw 723 (by decide +kernel) rfl
theorem wd_725 : Cond.laysFinal "PassiveBusesModel" "PassiveBusesModel" "mouth" "[I" ∈ pb_ALL := pb_tw 725 (by decide +kernel) rfl
theorem wd_727 : Cond.laysFinal "PassiveBusesModel" "PassiveBusesModel" "ear" "[I" ∈ pb_ALL := pb_tw 727 (by decide +kernel) rfl
theorem wd_729 : Cond.laysFinal "PassiveBusesModel" "PassiveBusesModel" "kept" "[I" ∈ pb_ALL := pb_tw 729 (by decide +kernel) rfl
theorem wd_731 : Cond.laysFinal "PassiveBusesModel" "PassiveBusesModel" "dials" "[I" ∈ pb_ALL := pb_tw 731 (by decide +kernel) rfl
theorem wd_733 : Cond.laysFinal "PassiveBusesModel" "PassiveBusesModel" "patience" "[I" ∈ pb_ALL := pb_tw 733 (by decide +kernel) rfl
theorem wd_735 : Cond.laysFinal "PassiveBusesModel" "PassiveBusesModel" "sends" "[I" ∈ pb_ALL := pb_tw 735 (by decide +kernel) rfl
theorem wd_737 : Cond.laysFinal "PassiveBusesModel" "PassiveBusesModel" "takes" "[I" ∈ pb_ALL := pb_tw 737 (by decide +kernel) rfl
theorem wd_739 : Cond.laysFinal "PassiveBusesModel" "PassiveBusesModel" "contends" "[Z" ∈ pb_ALL := pb_tw 739 (by decide +kernel) rfl
theorem wd_741 : Cond.laysFinal "PassiveBusesModel" "PassiveBusesModel" "length" "[I" ∈ pb_ALL := pb_tw 741 (by decide +kernel) rfl
theorem wd_743 : Cond.laysFinal "PassiveBusesModel" "PassiveBusesModel" "kind" "[I" ∈ pb_ALL := pb_tw 743 (by decide +kernel) rfl
theorem wd_745 : Cond.laysFinal "PassiveBusesModel" "PassiveBusesModel" "reference" "[I" ∈ pb_ALL := pb_tw 745 (by decide +kernel) rfl
theorem wd_747 : Cond.laysFinal "PassiveBusesModel" "PassiveBusesModel" "value" "[I" ∈ pb_ALL := pb_tw 747 (by decide +kernel) rfl
theorem wd_749 : Cond.laysFinal "PassiveBusesModel" "PassiveBusesModel" "failed" "[I" ∈ pb_ALL := pb_tw 749 (by decide +kernel) rfl
theorem wd_751 : Cond.laysFinal "PassiveBusesModel" "PassiveBusesModel" "rows" "[I" ∈ pb_ALL := pb_tw 751 (by decide +kernel) rfl
theorem wd_753 : Cond.laysFinal "PassiveBusesModel" "PassiveBusesModel" "downKind" "[I" ∈ pb_ALL := pb_tw 753 (by decide +kernel) rfl
theorem wd_755 : Cond.laysFinal "PassiveBusesModel" "PassiveBusesModel" "downTo" "[I" ∈ pb_ALL := pb_tw 755 (by decide +kernel) rfl
theorem wd_757 : Cond.laysFinal "PassiveBusesModel" "PassiveBusesModel" "downReference" "[I" ∈ pb_ALL := pb_tw 757 (by decide +kernel) rfl
theorem wd_759 : Cond.laysFinal "PassiveBusesModel" "PassiveBusesModel" "downValue" "[I" ∈ pb_ALL := pb_tw 759 (by decide +kernel) rfl
theorem wd_761 : Cond.laysFinal "PassiveBusesModel" "PassiveBusesModel" "downFailed" "[I" ∈ pb_ALL := pb_tw 761 (by decide +kernel) rfl
theorem wd_763 : Cond.laysFinal "PassiveBusesModel" "PassiveBusesModel" "given" "[Z" ∈ pb_ALL := pb_tw 763 (by decide +kernel) rfl
theorem wd_765 : Cond.laysFinal "PassiveBusesModel" "PassiveBusesModel" "exchangeSends" "[I" ∈ pb_ALL := pb_tw 765 (by decide +kernel) rfl
theorem wd_767 : Cond.laysFinal "PassiveBusesModel" "PassiveBusesModel" "exchangeTakes" "[I" ∈ pb_ALL := pb_tw 767 (by decide +kernel) rfl
theorem wd_769 : Cond.laysFinal "PassiveBusesModel" "PassiveBusesModel" "auditClock" "[I" ∈ pb_ALL := pb_tw 769 (by decide +kernel) rfl
theorem wd_771 : Cond.laysFinal "PassiveBusesModel" "PassiveBusesModel" "auditCount" "[I" ∈ pb_ALL := pb_tw 771 (by decide +kernel) rfl
theorem wd_773 : Cond.laysFinal "PassiveBusesModel" "PassiveBusesModel" "spoilUp" "[I" ∈ pb_ALL := pb_tw 773 (by decide +kernel) rfl
theorem wd_775 : Cond.laysFinal "PassiveBusesModel" "PassiveBusesModel" "spoilDown" "[I" ∈ pb_ALL := pb_tw 775 (by decide +kernel) rfl
theorem wd_777 : Cond.laysFinal "PassiveBusesModel" "PassiveBusesModel" "number" "[I" ∈ pb_ALL := pb_tw 777 (by decide +kernel) rfl
theorem wd_779 : Cond.laysFinal "PassiveBusesModel" "PassiveBusesModel" "caller" "[I" ∈ pb_ALL := pb_tw 779 (by decide +kernel) rfl
theorem wd_781 : Cond.laysFinal "PassiveBusesModel" "PassiveBusesModel" "callerBus" "[I" ∈ pb_ALL := pb_tw 781 (by decide +kernel) rfl
theorem wd_783 : Cond.laysFinal "PassiveBusesModel" "PassiveBusesModel" "callerAddress" "[I" ∈ pb_ALL := pb_tw 783 (by decide +kernel) rfl
theorem wd_785 : Cond.laysFinal "PassiveBusesModel" "PassiveBusesModel" "callerReference" "[I" ∈ pb_ALL := pb_tw 785 (by decide +kernel) rfl
theorem wd_787 : Cond.laysFinal "PassiveBusesModel" "PassiveBusesModel" "callerChannel" "[I" ∈ pb_ALL := pb_tw 787 (by decide +kernel) rfl
theorem wd_789 : Cond.laysFinal "PassiveBusesModel" "PassiveBusesModel" "calledBus" "[I" ∈ pb_ALL := pb_tw 789 (by decide +kernel) rfl
theorem wd_791 : Cond.laysFinal "PassiveBusesModel" "PassiveBusesModel" "calledChannel" "[I" ∈ pb_ALL := pb_tw 791 (by decide +kernel) rfl
theorem wd_793 : Cond.laysFinal "PassiveBusesModel" "PassiveBusesModel" "phase" "[I" ∈ pb_ALL := pb_tw 793 (by decide +kernel) rfl
theorem wd_795 : Cond.laysFinal "PassiveBusesModel" "PassiveBusesModel" "clock" "[I" ∈ pb_ALL := pb_tw 795 (by decide +kernel) rfl
theorem wd_797 : Cond.laysFinal "PassiveBusesModel" "PassiveBusesModel" "again" "[Z" ∈ pb_ALL := pb_tw 797 (by decide +kernel) rfl
theorem wd_799 : Cond.laysFinal "PassiveBusesModel" "PassiveBusesModel" "winner" "[I" ∈ pb_ALL := pb_tw 799 (by decide +kernel) rfl
theorem wd_801 : Cond.laysFinal "PassiveBusesModel" "PassiveBusesModel" "leg" "[I" ∈ pb_ALL := pb_tw 801 (by decide +kernel) rfl
theorem wd_803 : Cond.lays "PassiveBusesModel" "PassiveBusesModel" "numbers" "I" ∈ pb_ALL := pb_tw 803 (by decide +kernel) rfl
theorem wd_805 : Cond.laysFinal "PassiveBusesModel" "PassiveBusesModel" "speech" "[I" ∈ pb_ALL := pb_tw 805 (by decide +kernel) rfl
theorem wd_807 : Cond.lays "PassiveBusesModel" "PassiveBusesModel" "ticks" "I" ∈ pb_ALL := pb_tw 807 (by decide +kernel) rfl
theorem wd_809 : Cond.lays "PassiveBusesModel" "PassiveBusesModel" "sent" "I" ∈ pb_ALL := pb_tw 809 (by decide +kernel) rfl
theorem wd_812 : Cond.arrayClass .boolean ∈ pb_ALL := pb_tw 812 (by decide +kernel) rfl
theorem wd_813 : Cond.methodLink "PassiveBusesLaw" 17 ⟨"PassiveBusesModel", "plug", "(III)Z"⟩ ∈ pb_ALL := pb_tw 813 (by decide +kernel) rfl
theorem wd_814 : Cond.instanceMethod ⟨"PassiveBusesModel", "plug", "(III)Z"⟩ ∈ pb_ALL := pb_tw 814 (by decide +kernel) rfl
theorem wd_815 : Cond.selects "PassiveBusesModel" ⟨"PassiveBusesModel", "plug", "(III)Z"⟩ ⟨"PassiveBusesModel", "plug", "(III)Z"⟩ ∈ pb_ALL := pb_tw 815 (by decide +kernel) rfl
set_option maxRecDepth 40000 in
theorem wd_816 : Cond.code ⟨"PassiveBusesModel", "plug", "(III)Z"⟩ prog_9_method_8_code 5 (some .boolean) ∈ pb_ALL := pb_tw 816 (rfl) rfl
theorem wd_817 : Cond.methodLink "PassiveBusesModel" 152 ⟨"PassiveBusesModel", "isBus", "(I)Z"⟩ ∈ pb_ALL := pb_tw 817 (by decide +kernel) rfl
theorem wd_818 : Cond.static ⟨"PassiveBusesModel", "isBus", "(I)Z"⟩ ∈ pb_ALL := pb_tw 818 (by decide +kernel) rfl
set_option maxRecDepth 40000 in
theorem wd_819 : Cond.code ⟨"PassiveBusesModel", "isBus", "(I)Z"⟩ prog_9_method_2_code 1 (some .boolean) ∈ pb_ALL := pb_tw 819 (rfl) rfl
theorem wd_820 : Cond.methodLink "PassiveBusesModel" 156 ⟨"PassiveBusesModel", "nothing", "(I)V"⟩ ∈ pb_ALL := pb_tw 820 (by decide +kernel) rfl
theorem wd_822 : Cond.instanceMethod ⟨"PassiveBusesModel", "nothing", "(I)V"⟩ ∈ pb_ALL := pb_tw 822 (by decide +kernel) rfl
set_option maxRecDepth 40000 in
theorem wd_823 : Cond.code ⟨"PassiveBusesModel", "nothing", "(I)V"⟩ prog_9_method_9_code 2 none ∈ pb_ALL := pb_tw 823 (rfl) rfl
theorem wd_824 : Cond.methodLink "PassiveBusesModel" 160 ⟨"PassiveBusesModel", "up", "(IIII)V"⟩ ∈ pb_ALL := pb_tw 824 (by decide +kernel) rfl
theorem wd_826 : Cond.instanceMethod ⟨"PassiveBusesModel", "up", "(IIII)V"⟩ ∈ pb_ALL := pb_tw 826 (by decide +kernel) rfl
set_option maxRecDepth 40000 in
theorem wd_827 : Cond.code ⟨"PassiveBusesModel", "up", "(IIII)V"⟩ prog_9_method_4_code 6 none ∈ pb_ALL := pb_tw 827 (rfl) rfl
theorem wd_828 : Cond.methodLink "PassiveBusesLaw" 22 ⟨"PassiveBusesModel", "unplug", "(II)Z"⟩ ∈ pb_ALL := pb_tw 828 (by decide +kernel) rfl
theorem wd_829 : Cond.instanceMethod ⟨"PassiveBusesModel", "unplug", "(II)Z"⟩ ∈ pb_ALL := pb_tw 829 (by decide +kernel) rfl
theorem wd_830 : Cond.selects "PassiveBusesModel" ⟨"PassiveBusesModel", "unplug", "(II)Z"⟩ ⟨"PassiveBusesModel", "unplug", "(II)Z"⟩ ∈ pb_ALL := pb_tw 830 (by decide +kernel) rfl
set_option maxRecDepth 40000 in
theorem wd_831 : Cond.code ⟨"PassiveBusesModel", "unplug", "(II)Z"⟩ prog_9_method_11_code 4 (some .boolean) ∈ pb_ALL := pb_tw 831 (rfl) rfl
theorem wd_832 : Cond.methodLink "PassiveBusesModel" 164 ⟨"PassiveBusesModel", "at", "(II)I"⟩ ∈ pb_ALL := pb_tw 832 (by decide +kernel) rfl
theorem wd_834 : Cond.instanceMethod ⟨"PassiveBusesModel", "at", "(II)I"⟩ ∈ pb_ALL := pb_tw 834 (by decide +kernel) rfl
set_option maxRecDepth 40000 in
theorem wd_835 : Cond.code ⟨"PassiveBusesModel", "at", "(II)I"⟩ prog_9_method_3_code 3 (some .int) ∈ pb_ALL := pb_tw 835 (rfl) rfl
theorem wd_836 : Cond.methodLink "PassiveBusesLaw" 26 ⟨"PassiveBusesModel", "dial", "(III)Z"⟩ ∈ pb_ALL := pb_tw 836 (by decide +kernel) rfl
theorem wd_837 : Cond.instanceMethod ⟨"PassiveBusesModel", "dial", "(III)Z"⟩ ∈ pb_ALL := pb_tw 837 (by decide +kernel) rfl
theorem wd_838 : Cond.selects "PassiveBusesModel" ⟨"PassiveBusesModel", "dial", "(III)Z"⟩ ⟨"PassiveBusesModel", "dial", "(III)Z"⟩ ∈ pb_ALL := pb_tw 838 (by decide +kernel) rfl
set_option maxRecDepth 40000 in
theorem wd_839 : Cond.code ⟨"PassiveBusesModel", "dial", "(III)Z"⟩ prog_9_method_12_code 5 (some .boolean) ∈ pb_ALL := pb_tw 839 (rfl) rfl
theorem wd_840 : Cond.methodLink "PassiveBusesLaw" 30 ⟨"PassiveBusesModel", "answer", "(II)Z"⟩ ∈ pb_ALL := pb_tw 840 (by decide +kernel) rfl
theorem wd_841 : Cond.instanceMethod ⟨"PassiveBusesModel", "answer", "(II)Z"⟩ ∈ pb_ALL := pb_tw 841 (by decide +kernel) rfl
theorem wd_842 : Cond.selects "PassiveBusesModel" ⟨"PassiveBusesModel", "answer", "(II)Z"⟩ ⟨"PassiveBusesModel", "answer", "(II)Z"⟩ ∈ pb_ALL := pb_tw 842 (by decide +kernel) rfl
set_option maxRecDepth 40000 in
theorem wd_843 : Cond.code ⟨"PassiveBusesModel", "answer", "(II)Z"⟩ prog_9_method_13_code 4 (some .boolean) ∈ pb_ALL := pb_tw 843 (rfl) rfl
theorem wd_844 : Cond.methodLink "PassiveBusesLaw" 34 ⟨"PassiveBusesModel", "hang", "(II)Z"⟩ ∈ pb_ALL := pb_tw 844 (by decide +kernel) rfl
theorem wd_845 : Cond.instanceMethod ⟨"PassiveBusesModel", "hang", "(II)Z"⟩ ∈ pb_ALL := pb_tw 845 (by decide +kernel) rfl
theorem wd_846 : Cond.selects "PassiveBusesModel" ⟨"PassiveBusesModel", "hang", "(II)Z"⟩ ⟨"PassiveBusesModel", "hang", "(II)Z"⟩ ∈ pb_ALL := pb_tw 846 (by decide +kernel) rfl
set_option maxRecDepth 40000 in
theorem wd_847 : Cond.code ⟨"PassiveBusesModel", "hang", "(II)Z"⟩ prog_9_method_14_code 4 (some .boolean) ∈ pb_ALL := pb_tw 847 (rfl) rfl
theorem wd_848 : Cond.methodLink "PassiveBusesLaw" 38 ⟨"PassiveBusesModel", "say", "(III)Z"⟩ ∈ pb_ALL := pb_tw 848 (by decide +kernel) rfl
theorem wd_849 : Cond.instanceMethod ⟨"PassiveBusesModel", "say", "(III)Z"⟩ ∈ pb_ALL := pb_tw 849 (by decide +kernel) rfl
theorem wd_850 : Cond.selects "PassiveBusesModel" ⟨"PassiveBusesModel", "say", "(III)Z"⟩ ⟨"PassiveBusesModel", "say", "(III)Z"⟩ ∈ pb_ALL := pb_tw 850 (by decide +kernel) rfl
set_option maxRecDepth 40000 in
theorem wd_851 : Cond.code ⟨"PassiveBusesModel", "say", "(III)Z"⟩ prog_9_method_15_code 5 (some .boolean) ∈ pb_ALL := pb_tw 851 (rfl) rfl
theorem wd_852 : Cond.methodLink "PassiveBusesLaw" 43 ⟨"PassiveBusesModel", "spoil", "(IZI)Z"⟩ ∈ pb_ALL := pb_tw 852 (by decide +kernel) rfl
theorem wd_853 : Cond.instanceMethod ⟨"PassiveBusesModel", "spoil", "(IZI)Z"⟩ ∈ pb_ALL := pb_tw 853 (by decide +kernel) rfl
theorem wd_854 : Cond.selects "PassiveBusesModel" ⟨"PassiveBusesModel", "spoil", "(IZI)Z"⟩ ⟨"PassiveBusesModel", "spoil", "(IZI)Z"⟩ ∈ pb_ALL := pb_tw 854 (by decide +kernel) rfl
set_option maxRecDepth 40000 in
theorem wd_855 : Cond.code ⟨"PassiveBusesModel", "spoil", "(IZI)Z"⟩ prog_9_method_16_code 4 (some .boolean) ∈ pb_ALL := pb_tw 855 (rfl) rfl
theorem wd_856 : Cond.methodLink "PassiveBusesLaw" 47 ⟨"PassiveBusesModel", "audit", "(II)Z"⟩ ∈ pb_ALL := pb_tw 856 (by decide +kernel) rfl
theorem wd_857 : Cond.instanceMethod ⟨"PassiveBusesModel", "audit", "(II)Z"⟩ ∈ pb_ALL := pb_tw 857 (by decide +kernel) rfl
theorem wd_858 : Cond.selects "PassiveBusesModel" ⟨"PassiveBusesModel", "audit", "(II)Z"⟩ ⟨"PassiveBusesModel", "audit", "(II)Z"⟩ ∈ pb_ALL := pb_tw 858 (by decide +kernel) rfl
set_option maxRecDepth 40000 in
theorem wd_859 : Cond.code ⟨"PassiveBusesModel", "audit", "(II)Z"⟩ prog_9_method_17_code 3 (some .boolean) ∈ pb_ALL := pb_tw 859 (rfl) rfl
theorem wd_860 : Cond.methodLink "PassiveBusesModel" 168 ⟨"PassiveBusesModel", "down", "(IIIII)V"⟩ ∈ pb_ALL := pb_tw 860 (by decide +kernel) rfl
theorem wd_862 : Cond.instanceMethod ⟨"PassiveBusesModel", "down", "(IIIII)V"⟩ ∈ pb_ALL := pb_tw 862 (by decide +kernel) rfl
set_option maxRecDepth 40000 in
theorem wd_863 : Cond.code ⟨"PassiveBusesModel", "down", "(IIIII)V"⟩ prog_9_method_6_code 7 none ∈ pb_ALL := pb_tw 863 (rfl) rfl
theorem wd_864 : Cond.methodLink "PassiveBusesLaw" 95 ⟨"PassiveBusesModel", "holder", "(II)I"⟩ ∈ pb_ALL := pb_tw 864 (by decide +kernel) rfl
theorem wd_865 : Cond.instanceMethod ⟨"PassiveBusesModel", "holder", "(II)I"⟩ ∈ pb_ALL := pb_tw 865 (by decide +kernel) rfl
theorem wd_866 : Cond.selects "PassiveBusesModel" ⟨"PassiveBusesModel", "holder", "(II)I"⟩ ⟨"PassiveBusesModel", "holder", "(II)I"⟩ ∈ pb_ALL := pb_tw 866 (by decide +kernel) rfl
set_option maxRecDepth 40000 in
theorem wd_867 : Cond.code ⟨"PassiveBusesModel", "holder", "(II)I"⟩ prog_9_method_30_code 6 (some .int) ∈ pb_ALL := pb_tw 867 (rfl) rfl
theorem wd_868 : Cond.methodLink "PassiveBusesModel" 215 ⟨"PassiveBusesModel", "open", "(I)Z"⟩ ∈ pb_ALL := pb_tw 868 (by decide +kernel) rfl
theorem wd_870 : Cond.instanceMethod ⟨"PassiveBusesModel", "open", "(I)Z"⟩ ∈ pb_ALL := pb_tw 870 (by decide +kernel) rfl
set_option maxRecDepth 40000 in
theorem wd_871 : Cond.code ⟨"PassiveBusesModel", "open", "(I)Z"⟩ prog_9_method_29_code 2 (some .boolean) ∈ pb_ALL := pb_tw 871 (rfl) rfl
theorem wd_872 : Cond.methodLink "PassiveBusesLaw" 52 ⟨"PassiveBusesModel", "run", "(I)I"⟩ ∈ pb_ALL := pb_tw 872 (by decide +kernel) rfl
theorem wd_873 : Cond.instanceMethod ⟨"PassiveBusesModel", "run", "(I)I"⟩ ∈ pb_ALL := pb_tw 873 (by decide +kernel) rfl
theorem wd_874 : Cond.selects "PassiveBusesModel" ⟨"PassiveBusesModel", "run", "(I)I"⟩ ⟨"PassiveBusesModel", "run", "(I)I"⟩ ∈ pb_ALL := pb_tw 874 (by decide +kernel) rfl
set_option maxRecDepth 40000 in
theorem wd_875 : Cond.code ⟨"PassiveBusesModel", "run", "(I)I"⟩ prog_9_method_51_code 4 (some .int) ∈ pb_ALL := pb_tw 875 (rfl) rfl
theorem wd_876 : Cond.methodLink "PassiveBusesModel" 281 ⟨"PassiveBusesModel", "upStep", "(I)V"⟩ ∈ pb_ALL := pb_tw 876 (by decide +kernel) rfl
theorem wd_878 : Cond.instanceMethod ⟨"PassiveBusesModel", "upStep", "(I)V"⟩ ∈ pb_ALL := pb_tw 878 (by decide +kernel) rfl
set_option maxRecDepth 40000 in
theorem wd_879 : Cond.code ⟨"PassiveBusesModel", "upStep", "(I)V"⟩ prog_9_method_21_code 10 none ∈ pb_ALL := pb_tw 879 (rfl) rfl
theorem wd_880 : Cond.methodLink "PassiveBusesModel" 178 ⟨"PassiveBusesModel", "contention", "(I)I"⟩ ∈ pb_ALL := pb_tw 880 (by decide +kernel) rfl
theorem wd_882 : Cond.instanceMethod ⟨"PassiveBusesModel", "contention", "(I)I"⟩ ∈ pb_ALL := pb_tw 882 (by decide +kernel) rfl
set_option maxRecDepth 40000 in
theorem wd_883 : Cond.code ⟨"PassiveBusesModel", "contention", "(I)I"⟩ prog_9_method_20_code 5 (some .int) ∈ pb_ALL := pb_tw 883 (rfl) rfl
theorem wd_884 : Cond.methodLink "PassiveBusesModel" 175 ⟨"PassiveBusesModel", "compared", "(II)I"⟩ ∈ pb_ALL := pb_tw 884 (by decide +kernel) rfl
theorem wd_886 : Cond.instanceMethod ⟨"PassiveBusesModel", "compared", "(II)I"⟩ ∈ pb_ALL := pb_tw 886 (by decide +kernel) rfl
set_option maxRecDepth 40000 in
theorem wd_887 : Cond.code ⟨"PassiveBusesModel", "compared", "(II)I"⟩ prog_9_method_19_code 11 (some .int) ∈ pb_ALL := pb_tw 887 (rfl) rfl
theorem wd_888 : Cond.methodLink "PassiveBusesModel" 172 ⟨"PassiveBusesModel", "order", "(II)I"⟩ ∈ pb_ALL := pb_tw 888 (by decide +kernel) rfl
theorem wd_889 : Cond.static ⟨"PassiveBusesModel", "order", "(II)I"⟩ ∈ pb_ALL := pb_tw 889 (by decide +kernel) rfl
set_option maxRecDepth 40000 in
theorem wd_890 : Cond.code ⟨"PassiveBusesModel", "order", "(II)I"⟩ prog_9_method_18_code 2 (some .int) ∈ pb_ALL := pb_tw 890 (rfl) rfl
theorem wd_891 : Cond.methodLink "PassiveBusesModel" 186 ⟨"PassiveBusesModel", "requested", "(II)V"⟩ ∈ pb_ALL := pb_tw 891 (by decide +kernel) rfl
theorem wd_893 : Cond.instanceMethod ⟨"PassiveBusesModel", "requested", "(II)V"⟩ ∈ pb_ALL := pb_tw 893 (by decide +kernel) rfl
set_option maxRecDepth 40000 in
theorem wd_894 : Cond.code ⟨"PassiveBusesModel", "requested", "(II)V"⟩ prog_9_method_23_code 5 none ∈ pb_ALL := pb_tw 894 (rfl) rfl
theorem wd_895 : Cond.methodLink "PassiveBusesModel" 190 ⟨"PassiveBusesModel", "does", "(IIIII)V"⟩ ∈ pb_ALL := pb_tw 895 (by decide +kernel) rfl
theorem wd_897 : Cond.instanceMethod ⟨"PassiveBusesModel", "does", "(IIIII)V"⟩ ∈ pb_ALL := pb_tw 897 (by decide +kernel) rfl
set_option maxRecDepth 40000 in
theorem wd_898 : Cond.code ⟨"PassiveBusesModel", "does", "(IIIII)V"⟩ prog_9_method_39_code 8 none ∈ pb_ALL := pb_tw 898 (rfl) rfl
theorem wd_899 : Cond.methodLink "PassiveBusesModel" 244 ⟨"PassiveBusesModel", "setup", "(IIII)V"⟩ ∈ pb_ALL := pb_tw 899 (by decide +kernel) rfl
theorem wd_901 : Cond.instanceMethod ⟨"PassiveBusesModel", "setup", "(IIII)V"⟩ ∈ pb_ALL := pb_tw 901 (by decide +kernel) rfl
set_option maxRecDepth 40000 in
theorem wd_902 : Cond.code ⟨"PassiveBusesModel", "setup", "(IIII)V"⟩ prog_9_method_42_code 10 none ∈ pb_ALL := pb_tw 902 (rfl) rfl
theorem wd_903 : Cond.methodLink "PassiveBusesModel" 262 ⟨"PassiveBusesModel", "freeChannel", "(III)I"⟩ ∈ pb_ALL := pb_tw 903 (by decide +kernel) rfl
theorem wd_905 : Cond.instanceMethod ⟨"PassiveBusesModel", "freeChannel", "(III)I"⟩ ∈ pb_ALL := pb_tw 905 (by decide +kernel) rfl
set_option maxRecDepth 40000 in
theorem wd_906 : Cond.code ⟨"PassiveBusesModel", "freeChannel", "(III)I"⟩ prog_9_method_31_code 5 (some .int) ∈ pb_ALL := pb_tw 906 (rfl) rfl
theorem wd_907 : Cond.methodLink "PassiveBusesModel" 218 ⟨"PassiveBusesModel", "holder", "(II)I"⟩ ∈ pb_ALL := pb_tw 907 (by decide +kernel) rfl
theorem wd_908 : Cond.methodLink "PassiveBusesModel" 247 ⟨"PassiveBusesModel", "ended", "(IIII)V"⟩ ∈ pb_ALL := pb_tw 908 (by decide +kernel) rfl
theorem wd_910 : Cond.instanceMethod ⟨"PassiveBusesModel", "ended", "(IIII)V"⟩ ∈ pb_ALL := pb_tw 910 (by decide +kernel) rfl
set_option maxRecDepth 40000 in
theorem wd_911 : Cond.code ⟨"PassiveBusesModel", "ended", "(IIII)V"⟩ prog_9_method_41_code 10 none ∈ pb_ALL := pb_tw 911 (rfl) rfl
theorem wd_912 : Cond.methodLink "PassiveBusesModel" 231 ⟨"PassiveBusesModel", "after", "(I)I"⟩ ∈ pb_ALL := pb_tw 912 (by decide +kernel) rfl
theorem wd_914 : Cond.instanceMethod ⟨"PassiveBusesModel", "after", "(I)I"⟩ ∈ pb_ALL := pb_tw 914 (by decide +kernel) rfl
set_option maxRecDepth 40000 in
theorem wd_915 : Cond.code ⟨"PassiveBusesModel", "after", "(I)I"⟩ prog_9_method_27_code 4 (some .int) ∈ pb_ALL := pb_tw 915 (rfl) rfl
theorem wd_916 : Cond.methodLink "PassiveBusesModel" 234 ⟨"PassiveBusesModel", "isCaller", "(III)Z"⟩ ∈ pb_ALL := pb_tw 916 (by decide +kernel) rfl
theorem wd_918 : Cond.instanceMethod ⟨"PassiveBusesModel", "isCaller", "(III)Z"⟩ ∈ pb_ALL := pb_tw 918 (by decide +kernel) rfl
set_option maxRecDepth 40000 in
theorem wd_919 : Cond.code ⟨"PassiveBusesModel", "isCaller", "(III)Z"⟩ prog_9_method_36_code 4 (some .boolean) ∈ pb_ALL := pb_tw 919 (rfl) rfl
theorem wd_920 : Cond.methodLink "PassiveBusesModel" 241 ⟨"PassiveBusesModel", "isCalled", "(III)Z"⟩ ∈ pb_ALL := pb_tw 920 (by decide +kernel) rfl
theorem wd_922 : Cond.instanceMethod ⟨"PassiveBusesModel", "isCalled", "(III)Z"⟩ ∈ pb_ALL := pb_tw 922 (by decide +kernel) rfl
set_option maxRecDepth 40000 in
theorem wd_923 : Cond.code ⟨"PassiveBusesModel", "isCalled", "(III)Z"⟩ prog_9_method_37_code 4 (some .boolean) ∈ pb_ALL := pb_tw 923 (rfl) rfl
theorem wd_924 : Cond.methodLink "PassiveBusesModel" 238 ⟨"PassiveBusesModel", "gone", "(II)V"⟩ ∈ pb_ALL := pb_tw 924 (by decide +kernel) rfl
theorem wd_926 : Cond.instanceMethod ⟨"PassiveBusesModel", "gone", "(II)V"⟩ ∈ pb_ALL := pb_tw 926 (by decide +kernel) rfl
set_option maxRecDepth 40000 in
theorem wd_927 : Cond.code ⟨"PassiveBusesModel", "gone", "(II)V"⟩ prog_9_method_35_code 6 none ∈ pb_ALL := pb_tw 927 (rfl) rfl
theorem wd_928 : Cond.methodLink "PassiveBusesModel" 225 ⟨"PassiveBusesModel", "ends", "(II)V"⟩ ∈ pb_ALL := pb_tw 928 (by decide +kernel) rfl
theorem wd_930 : Cond.instanceMethod ⟨"PassiveBusesModel", "ends", "(II)V"⟩ ∈ pb_ALL := pb_tw 930 (by decide +kernel) rfl
set_option maxRecDepth 40000 in
theorem wd_931 : Cond.code ⟨"PassiveBusesModel", "ends", "(II)V"⟩ prog_9_method_32_code 4 none ∈ pb_ALL := pb_tw 931 (rfl) rfl
theorem wd_932 : Cond.methodLink "PassiveBusesModel" 221 ⟨"PassiveBusesModel", "leave", "(III)V"⟩ ∈ pb_ALL := pb_tw 932 (by decide +kernel) rfl
theorem wd_934 : Cond.instanceMethod ⟨"PassiveBusesModel", "leave", "(III)V"⟩ ∈ pb_ALL := pb_tw 934 (by decide +kernel) rfl
set_option maxRecDepth 40000 in
theorem wd_935 : Cond.code ⟨"PassiveBusesModel", "leave", "(III)V"⟩ prog_9_method_33_code 4 none ∈ pb_ALL := pb_tw 935 (rfl) rfl
theorem wd_936 : Cond.methodLink "PassiveBusesModel" 228 ⟨"PassiveBusesModel", "ringing", "(I)I"⟩ ∈ pb_ALL := pb_tw 936 (by decide +kernel) rfl
theorem wd_938 : Cond.instanceMethod ⟨"PassiveBusesModel", "ringing", "(I)I"⟩ ∈ pb_ALL := pb_tw 938 (by decide +kernel) rfl
set_option maxRecDepth 40000 in
theorem wd_939 : Cond.code ⟨"PassiveBusesModel", "ringing", "(I)I"⟩ prog_9_method_34_code 4 (some .int) ∈ pb_ALL := pb_tw 939 (rfl) rfl
theorem wd_940 : Cond.methodLink "PassiveBusesModel" 250 ⟨"PassiveBusesModel", "callOf", "(I)I"⟩ ∈ pb_ALL := pb_tw 940 (by decide +kernel) rfl
theorem wd_942 : Cond.instanceMethod ⟨"PassiveBusesModel", "callOf", "(I)I"⟩ ∈ pb_ALL := pb_tw 942 (by decide +kernel) rfl
set_option maxRecDepth 40000 in
theorem wd_943 : Cond.code ⟨"PassiveBusesModel", "callOf", "(I)I"⟩ prog_9_method_28_code 3 (some .int) ∈ pb_ALL := pb_tw 943 (rfl) rfl
theorem wd_944 : Cond.methodLink "PassiveBusesModel" 253 ⟨"PassiveBusesModel", "alerts", "(II)V"⟩ ∈ pb_ALL := pb_tw 944 (by decide +kernel) rfl
theorem wd_946 : Cond.instanceMethod ⟨"PassiveBusesModel", "alerts", "(II)V"⟩ ∈ pb_ALL := pb_tw 946 (by decide +kernel) rfl
set_option maxRecDepth 40000 in
theorem wd_947 : Cond.code ⟨"PassiveBusesModel", "alerts", "(II)V"⟩ prog_9_method_43_code 3 none ∈ pb_ALL := pb_tw 947 (rfl) rfl
theorem wd_948 : Cond.methodLink "PassiveBusesModel" 256 ⟨"PassiveBusesModel", "connects", "(III)V"⟩ ∈ pb_ALL := pb_tw 948 (by decide +kernel) rfl
theorem wd_950 : Cond.instanceMethod ⟨"PassiveBusesModel", "connects", "(III)V"⟩ ∈ pb_ALL := pb_tw 950 (by decide +kernel) rfl
set_option maxRecDepth 40000 in
theorem wd_951 : Cond.code ⟨"PassiveBusesModel", "connects", "(III)V"⟩ prog_9_method_44_code 5 none ∈ pb_ALL := pb_tw 951 (rfl) rfl
theorem wd_952 : Cond.methodLink "PassiveBusesModel" 259 ⟨"PassiveBusesModel", "callsWith", "(III)Z"⟩ ∈ pb_ALL := pb_tw 952 (by decide +kernel) rfl
theorem wd_954 : Cond.instanceMethod ⟨"PassiveBusesModel", "callsWith", "(III)Z"⟩ ∈ pb_ALL := pb_tw 954 (by decide +kernel) rfl
set_option maxRecDepth 40000 in
theorem wd_955 : Cond.code ⟨"PassiveBusesModel", "callsWith", "(III)Z"⟩ prog_9_method_40_code 6 (some .boolean) ∈ pb_ALL := pb_tw 955 (rfl) rfl
theorem wd_956 : Cond.methodLink "PassiveBusesModel" 193 ⟨"PassiveBusesModel", "left", "(IIZ)V"⟩ ∈ pb_ALL := pb_tw 956 (by decide +kernel) rfl
theorem wd_958 : Cond.instanceMethod ⟨"PassiveBusesModel", "left", "(IIZ)V"⟩ ∈ pb_ALL := pb_tw 958 (by decide +kernel) rfl
set_option maxRecDepth 40000 in
theorem wd_959 : Cond.code ⟨"PassiveBusesModel", "left", "(IIZ)V"⟩ prog_9_method_22_code 4 none ∈ pb_ALL := pb_tw 959 (rfl) rfl
theorem wd_960 : Cond.methodLink "PassiveBusesModel" 197 ⟨"PassiveBusesModel", "upGone", "(II)V"⟩ ∈ pb_ALL := pb_tw 960 (by decide +kernel) rfl
theorem wd_962 : Cond.instanceMethod ⟨"PassiveBusesModel", "upGone", "(II)V"⟩ ∈ pb_ALL := pb_tw 962 (by decide +kernel) rfl
set_option maxRecDepth 40000 in
theorem wd_963 : Cond.code ⟨"PassiveBusesModel", "upGone", "(II)V"⟩ prog_9_method_5_code 4 none ∈ pb_ALL := pb_tw 963 (rfl) rfl
theorem wd_964 : Cond.methodLink "PassiveBusesModel" 200 ⟨"PassiveBusesModel", "lose", "(I)V"⟩ ∈ pb_ALL := pb_tw 964 (by decide +kernel) rfl
theorem wd_966 : Cond.instanceMethod ⟨"PassiveBusesModel", "lose", "(I)V"⟩ ∈ pb_ALL := pb_tw 966 (by decide +kernel) rfl
set_option maxRecDepth 40000 in
theorem wd_967 : Cond.code ⟨"PassiveBusesModel", "lose", "(I)V"⟩ prog_9_method_10_code 2 none ∈ pb_ALL := pb_tw 967 (rfl) rfl
theorem wd_968 : Cond.methodLink "PassiveBusesModel" 284 ⟨"PassiveBusesModel", "downStep", "(I)V"⟩ ∈ pb_ALL := pb_tw 968 (by decide +kernel) rfl
theorem wd_970 : Cond.instanceMethod ⟨"PassiveBusesModel", "downStep", "(I)V"⟩ ∈ pb_ALL := pb_tw 970 (by decide +kernel) rfl
set_option maxRecDepth 40000 in
theorem wd_971 : Cond.code ⟨"PassiveBusesModel", "downStep", "(I)V"⟩ prog_9_method_24_code 10 none ∈ pb_ALL := pb_tw 971 (rfl) rfl
theorem wd_972 : Cond.methodLink "PassiveBusesModel" 203 ⟨"PassiveBusesModel", "downGone", "(II)V"⟩ ∈ pb_ALL := pb_tw 972 (by decide +kernel) rfl
theorem wd_974 : Cond.instanceMethod ⟨"PassiveBusesModel", "downGone", "(II)V"⟩ ∈ pb_ALL := pb_tw 974 (by decide +kernel) rfl
set_option maxRecDepth 40000 in
theorem wd_975 : Cond.code ⟨"PassiveBusesModel", "downGone", "(II)V"⟩ prog_9_method_7_code 4 none ∈ pb_ALL := pb_tw 975 (rfl) rfl
theorem wd_976 : Cond.methodLink "PassiveBusesModel" 206 ⟨"PassiveBusesModel", "hears", "(IIIII)V"⟩ ∈ pb_ALL := pb_tw 976 (by decide +kernel) rfl
theorem wd_978 : Cond.instanceMethod ⟨"PassiveBusesModel", "hears", "(IIIII)V"⟩ ∈ pb_ALL := pb_tw 978 (by decide +kernel) rfl
set_option maxRecDepth 40000 in
theorem wd_979 : Cond.code ⟨"PassiveBusesModel", "hears", "(IIIII)V"⟩ prog_9_method_25_code 6 none ∈ pb_ALL := pb_tw 979 (rfl) rfl
theorem wd_980 : Cond.methodLink "PassiveBusesModel" 209 ⟨"PassiveBusesModel", "told", "(IIII)V"⟩ ∈ pb_ALL := pb_tw 980 (by decide +kernel) rfl
theorem wd_982 : Cond.instanceMethod ⟨"PassiveBusesModel", "told", "(IIII)V"⟩ ∈ pb_ALL := pb_tw 982 (by decide +kernel) rfl
set_option maxRecDepth 40000 in
theorem wd_983 : Cond.code ⟨"PassiveBusesModel", "told", "(IIII)V"⟩ prog_9_method_26_code 7 none ∈ pb_ALL := pb_tw 983 (rfl) rfl
theorem wd_984 : Cond.methodLink "PassiveBusesModel" 212 ⟨"PassiveBusesModel", "drop", "(II)V"⟩ ∈ pb_ALL := pb_tw 984 (by decide +kernel) rfl
theorem wd_986 : Cond.instanceMethod ⟨"PassiveBusesModel", "drop", "(II)V"⟩ ∈ pb_ALL := pb_tw 986 (by decide +kernel) rfl
set_option maxRecDepth 40000 in
theorem wd_987 : Cond.code ⟨"PassiveBusesModel", "drop", "(II)V"⟩ prog_9_method_38_code 5 none ∈ pb_ALL := pb_tw 987 (rfl) rfl
theorem wd_988 : Cond.methodLink "PassiveBusesModel" 287 ⟨"PassiveBusesModel", "clocks", "()V"⟩ ∈ pb_ALL := pb_tw 988 (by decide +kernel) rfl
theorem wd_990 : Cond.instanceMethod ⟨"PassiveBusesModel", "clocks", "()V"⟩ ∈ pb_ALL := pb_tw 990 (by decide +kernel) rfl
set_option maxRecDepth 40000 in
theorem wd_991 : Cond.code ⟨"PassiveBusesModel", "clocks", "()V"⟩ prog_9_method_45_code 3 none ∈ pb_ALL := pb_tw 991 (rfl) rfl
theorem wd_992 : Cond.methodLink "PassiveBusesModel" 269 ⟨"PassiveBusesModel", "retry", "(I)V"⟩ ∈ pb_ALL := pb_tw 992 (by decide +kernel) rfl
theorem wd_994 : Cond.instanceMethod ⟨"PassiveBusesModel", "retry", "(I)V"⟩ ∈ pb_ALL := pb_tw 994 (by decide +kernel) rfl
set_option maxRecDepth 40000 in
theorem wd_995 : Cond.code ⟨"PassiveBusesModel", "retry", "(I)V"⟩ prog_9_method_46_code 3 none ∈ pb_ALL := pb_tw 995 (rfl) rfl
theorem wd_996 : Cond.methodLink "PassiveBusesModel" 272 ⟨"PassiveBusesModel", "audited", "(III)V"⟩ ∈ pb_ALL := pb_tw 996 (by decide +kernel) rfl
theorem wd_998 : Cond.instanceMethod ⟨"PassiveBusesModel", "audited", "(III)V"⟩ ∈ pb_ALL := pb_tw 998 (by decide +kernel) rfl
set_option maxRecDepth 40000 in
theorem wd_999 : Cond.code ⟨"PassiveBusesModel", "audited", "(III)V"⟩ prog_9_method_47_code 4 none ∈ pb_ALL := pb_tw 999 (rfl) rfl
theorem wd_1000 : Cond.methodLink "PassiveBusesModel" 275 ⟨"PassiveBusesModel", "late", "(I)V"⟩ ∈ pb_ALL := pb_tw 1000 (by decide +kernel) rfl
theorem wd_1002 : Cond.instanceMethod ⟨"PassiveBusesModel", "late", "(I)V"⟩ ∈ pb_ALL := pb_tw 1002 (by decide +kernel) rfl
set_option maxRecDepth 40000 in
theorem wd_1003 : Cond.code ⟨"PassiveBusesModel", "late", "(I)V"⟩ prog_9_method_48_code 2 none ∈ pb_ALL := pb_tw 1003 (rfl) rfl
theorem wd_1004 : Cond.methodLink "PassiveBusesModel" 290 ⟨"PassiveBusesModel", "speak", "()V"⟩ ∈ pb_ALL := pb_tw 1004 (by decide +kernel) rfl
theorem wd_1006 : Cond.instanceMethod ⟨"PassiveBusesModel", "speak", "()V"⟩ ∈ pb_ALL := pb_tw 1006 (by decide +kernel) rfl
set_option maxRecDepth 40000 in
theorem wd_1007 : Cond.code ⟨"PassiveBusesModel", "speak", "()V"⟩ prog_9_method_50_code 3 none ∈ pb_ALL := pb_tw 1007 (rfl) rfl
theorem wd_1008 : Cond.methodLink "PassiveBusesModel" 278 ⟨"PassiveBusesModel", "comes", "(II)I"⟩ ∈ pb_ALL := pb_tw 1008 (by decide +kernel) rfl
theorem wd_1010 : Cond.instanceMethod ⟨"PassiveBusesModel", "comes", "(II)I"⟩ ∈ pb_ALL := pb_tw 1010 (by decide +kernel) rfl
set_option maxRecDepth 40000 in
theorem wd_1011 : Cond.code ⟨"PassiveBusesModel", "comes", "(II)I"⟩ prog_9_method_49_code 5 (some .int) ∈ pb_ALL := pb_tw 1011 (rfl) rfl
theorem wd_1012 : Cond.methodLink "PassiveBusesLaw" 57 ⟨"PassiveBusesModel", "time", "()I"⟩ ∈ pb_ALL := pb_tw 1012 (by decide +kernel) rfl
theorem wd_1013 : Cond.instanceMethod ⟨"PassiveBusesModel", "time", "()I"⟩ ∈ pb_ALL := pb_tw 1013 (by decide +kernel) rfl
theorem wd_1014 : Cond.selects "PassiveBusesModel" ⟨"PassiveBusesModel", "time", "()I"⟩ ⟨"PassiveBusesModel", "time", "()I"⟩ ∈ pb_ALL := pb_tw 1014 (by decide +kernel) rfl
set_option maxRecDepth 40000 in
theorem wd_1015 : Cond.code ⟨"PassiveBusesModel", "time", "()I"⟩ prog_9_method_52_code 1 (some .int) ∈ pb_ALL := pb_tw 1015 (rfl) rfl
theorem wd_1016 : Cond.methodLink "PassiveBusesLaw" 62 ⟨"PassiveBusesModel", "state", "(II)I"⟩ ∈ pb_ALL := pb_tw 1016 (by decide +kernel) rfl
theorem wd_1017 : Cond.instanceMethod ⟨"PassiveBusesModel", "state", "(II)I"⟩ ∈ pb_ALL := pb_tw 1017 (by decide +kernel) rfl
theorem wd_1018 : Cond.selects "PassiveBusesModel" ⟨"PassiveBusesModel", "state", "(II)I"⟩ ⟨"PassiveBusesModel", "state", "(II)I"⟩ ∈ pb_ALL := pb_tw 1018 (by decide +kernel) rfl
set_option maxRecDepth 40000 in
theorem wd_1019 : Cond.code ⟨"PassiveBusesModel", "state", "(II)I"⟩ prog_9_method_53_code 4 (some .int) ∈ pb_ALL := pb_tw 1019 (rfl) rfl
theorem wd_1020 : Cond.methodLink "PassiveBusesLaw" 66 ⟨"PassiveBusesModel", "address", "(II)I"⟩ ∈ pb_ALL := pb_tw 1020 (by decide +kernel) rfl
theorem wd_1021 : Cond.instanceMethod ⟨"PassiveBusesModel", "address", "(II)I"⟩ ∈ pb_ALL := pb_tw 1021 (by decide +kernel) rfl
theorem wd_1022 : Cond.selects "PassiveBusesModel" ⟨"PassiveBusesModel", "address", "(II)I"⟩ ⟨"PassiveBusesModel", "address", "(II)I"⟩ ∈ pb_ALL := pb_tw 1022 (by decide +kernel) rfl
set_option maxRecDepth 40000 in
theorem wd_1023 : Cond.code ⟨"PassiveBusesModel", "address", "(II)I"⟩ prog_9_method_54_code 4 (some .int) ∈ pb_ALL := pb_tw 1023 (rfl) rfl
theorem wd_1024 : Cond.methodLink "PassiveBusesLaw" 70 ⟨"PassiveBusesModel", "reference", "(II)I"⟩ ∈ pb_ALL := pb_tw 1024 (by decide +kernel) rfl
theorem wd_1025 : Cond.instanceMethod ⟨"PassiveBusesModel", "reference", "(II)I"⟩ ∈ pb_ALL := pb_tw 1025 (by decide +kernel) rfl
theorem wd_1026 : Cond.selects "PassiveBusesModel" ⟨"PassiveBusesModel", "reference", "(II)I"⟩ ⟨"PassiveBusesModel", "reference", "(II)I"⟩ ∈ pb_ALL := pb_tw 1026 (by decide +kernel) rfl
set_option maxRecDepth 40000 in
theorem wd_1027 : Cond.code ⟨"PassiveBusesModel", "reference", "(II)I"⟩ prog_9_method_55_code 4 (some .int) ∈ pb_ALL := pb_tw 1027 (rfl) rfl
theorem wd_1028 : Cond.methodLink "PassiveBusesLaw" 74 ⟨"PassiveBusesModel", "channel", "(II)I"⟩ ∈ pb_ALL := pb_tw 1028 (by decide +kernel) rfl
theorem wd_1029 : Cond.instanceMethod ⟨"PassiveBusesModel", "channel", "(II)I"⟩ ∈ pb_ALL := pb_tw 1029 (by decide +kernel) rfl
theorem wd_1030 : Cond.selects "PassiveBusesModel" ⟨"PassiveBusesModel", "channel", "(II)I"⟩ ⟨"PassiveBusesModel", "channel", "(II)I"⟩ ∈ pb_ALL := pb_tw 1030 (by decide +kernel) rfl
set_option maxRecDepth 40000 in
theorem wd_1031 : Cond.code ⟨"PassiveBusesModel", "channel", "(II)I"⟩ prog_9_method_56_code 4 (some .int) ∈ pb_ALL := pb_tw 1031 (rfl) rfl
theorem wd_1032 : Cond.methodLink "PassiveBusesLaw" 78 ⟨"PassiveBusesModel", "cause", "(II)I"⟩ ∈ pb_ALL := pb_tw 1032 (by decide +kernel) rfl
theorem wd_1033 : Cond.instanceMethod ⟨"PassiveBusesModel", "cause", "(II)I"⟩ ∈ pb_ALL := pb_tw 1033 (by decide +kernel) rfl
theorem wd_1034 : Cond.selects "PassiveBusesModel" ⟨"PassiveBusesModel", "cause", "(II)I"⟩ ⟨"PassiveBusesModel", "cause", "(II)I"⟩ ∈ pb_ALL := pb_tw 1034 (by decide +kernel) rfl
set_option maxRecDepth 40000 in
theorem wd_1035 : Cond.code ⟨"PassiveBusesModel", "cause", "(II)I"⟩ prog_9_method_57_code 4 (some .int) ∈ pb_ALL := pb_tw 1035 (rfl) rfl
theorem wd_1036 : Cond.methodLink "PassiveBusesLaw" 82 ⟨"PassiveBusesModel", "ear", "(II)I"⟩ ∈ pb_ALL := pb_tw 1036 (by decide +kernel) rfl
theorem wd_1037 : Cond.instanceMethod ⟨"PassiveBusesModel", "ear", "(II)I"⟩ ∈ pb_ALL := pb_tw 1037 (by decide +kernel) rfl
theorem wd_1038 : Cond.selects "PassiveBusesModel" ⟨"PassiveBusesModel", "ear", "(II)I"⟩ ⟨"PassiveBusesModel", "ear", "(II)I"⟩ ∈ pb_ALL := pb_tw 1038 (by decide +kernel) rfl
set_option maxRecDepth 40000 in
theorem wd_1039 : Cond.code ⟨"PassiveBusesModel", "ear", "(II)I"⟩ prog_9_method_58_code 4 (some .int) ∈ pb_ALL := pb_tw 1039 (rfl) rfl
theorem wd_1040 : Cond.methodLink "PassiveBusesLaw" 87 ⟨"PassiveBusesModel", "waiting", "(IZ)I"⟩ ∈ pb_ALL := pb_tw 1040 (by decide +kernel) rfl
theorem wd_1041 : Cond.instanceMethod ⟨"PassiveBusesModel", "waiting", "(IZ)I"⟩ ∈ pb_ALL := pb_tw 1041 (by decide +kernel) rfl
theorem wd_1042 : Cond.selects "PassiveBusesModel" ⟨"PassiveBusesModel", "waiting", "(IZ)I"⟩ ⟨"PassiveBusesModel", "waiting", "(IZ)I"⟩ ∈ pb_ALL := pb_tw 1042 (by decide +kernel) rfl
set_option maxRecDepth 40000 in
theorem wd_1043 : Cond.code ⟨"PassiveBusesModel", "waiting", "(IZ)I"⟩ prog_9_method_59_code 5 (some .int) ∈ pb_ALL := pb_tw 1043 (rfl) rfl
theorem wd_1044 : Cond.methodLink "PassiveBusesLaw" 91 ⟨"PassiveBusesModel", "given", "(I)I"⟩ ∈ pb_ALL := pb_tw 1044 (by decide +kernel) rfl
theorem wd_1045 : Cond.instanceMethod ⟨"PassiveBusesModel", "given", "(I)I"⟩ ∈ pb_ALL := pb_tw 1045 (by decide +kernel) rfl
theorem wd_1046 : Cond.selects "PassiveBusesModel" ⟨"PassiveBusesModel", "given", "(I)I"⟩ ⟨"PassiveBusesModel", "given", "(I)I"⟩ ∈ pb_ALL := pb_tw 1046 (by decide +kernel) rfl
set_option maxRecDepth 40000 in
theorem wd_1047 : Cond.code ⟨"PassiveBusesModel", "given", "(I)I"⟩ prog_9_method_60_code 4 (some .int) ∈ pb_ALL := pb_tw 1047 (rfl) rfl
theorem wd_1048 : Cond.methodLink "PassiveBusesLaw" 99 ⟨"PassiveBusesModel", "phase", "(I)I"⟩ ∈ pb_ALL := pb_tw 1048 (by decide +kernel) rfl
theorem wd_1049 : Cond.instanceMethod ⟨"PassiveBusesModel", "phase", "(I)I"⟩ ∈ pb_ALL := pb_tw 1049 (by decide +kernel) rfl
theorem wd_1050 : Cond.selects "PassiveBusesModel" ⟨"PassiveBusesModel", "phase", "(I)I"⟩ ⟨"PassiveBusesModel", "phase", "(I)I"⟩ ∈ pb_ALL := pb_tw 1050 (by decide +kernel) rfl
set_option maxRecDepth 40000 in
theorem wd_1051 : Cond.code ⟨"PassiveBusesModel", "phase", "(I)I"⟩ prog_9_method_61_code 3 (some .int) ∈ pb_ALL := pb_tw 1051 (rfl) rfl
theorem wp_0 : Cond.selects "PassiveBuses" ⟨"PassiveBuses", "terminalAt", "(II)LPassiveBuses$Terminal;"⟩ ⟨"PassiveBuses", "terminalAt", "(II)LPassiveBuses$Terminal;"⟩ ∈ pb_ALL := pb_pw 0 (by decide +kernel) rfl
theorem wp_1 : Cond.selects "PassiveBuses" ⟨"PassiveBuses", "stepUp", "(I)I"⟩ ⟨"PassiveBuses", "stepUp", "(I)I"⟩ ∈ pb_ALL := pb_pw 1 (by decide +kernel) rfl
theorem wp_2 : Cond.selects "PassiveBuses" ⟨"PassiveBuses", "receiveUp", "(ILPassiveBuses$Frame;I)V"⟩ ⟨"PassiveBuses", "receiveUp", "(ILPassiveBuses$Frame;I)V"⟩ ∈ pb_ALL := pb_pw 2 (by decide +kernel) rfl
theorem wp_3 : Cond.selects "PassiveBuses" ⟨"PassiveBuses", "onSetup", "(ILPassiveBuses$Frame;)V"⟩ ⟨"PassiveBuses", "onSetup", "(ILPassiveBuses$Frame;)V"⟩ ∈ pb_ALL := pb_pw 3 (by decide +kernel) rfl
theorem wp_4 : Cond.selects "PassiveBuses" ⟨"PassiveBuses", "freeChannel", "(II)I"⟩ ⟨"PassiveBuses", "freeChannel", "(II)I"⟩ ∈ pb_ALL := pb_pw 4 (by decide +kernel) rfl
theorem wp_5 : Cond.selects "PassiveBuses" ⟨"PassiveBuses", "numberHolding", "(II)I"⟩ ⟨"PassiveBuses", "numberHolding", "(II)I"⟩ ∈ pb_ALL := pb_pw 5 (by decide +kernel) rfl
theorem wp_6 : Cond.selects "PassiveBuses" ⟨"PassiveBuses", "refuse", "(ILPassiveBuses$Frame;I)V"⟩ ⟨"PassiveBuses", "refuse", "(ILPassiveBuses$Frame;I)V"⟩ ∈ pb_ALL := pb_pw 6 (by decide +kernel) rfl
theorem wp_7 : Cond.selects "PassiveBuses" ⟨"PassiveBuses", "onAlert", "(ILPassiveBuses$Frame;)V"⟩ ⟨"PassiveBuses", "onAlert", "(ILPassiveBuses$Frame;)V"⟩ ∈ pb_ALL := pb_pw 7 (by decide +kernel) rfl
theorem wp_8 : Cond.selects "PassiveBuses" ⟨"PassiveBuses", "answerableCall", "(II)LPassiveBuses$Call;"⟩ ⟨"PassiveBuses", "answerableCall", "(II)LPassiveBuses$Call;"⟩ ∈ pb_ALL := pb_pw 8 (by decide +kernel) rfl
theorem wp_9 : Cond.selects "PassiveBuses" ⟨"PassiveBuses", "onConnect", "(ILPassiveBuses$Frame;)V"⟩ ⟨"PassiveBuses", "onConnect", "(ILPassiveBuses$Frame;)V"⟩ ∈ pb_ALL := pb_pw 9 (by decide +kernel) rfl
theorem wp_10 : Cond.selects "PassiveBuses" ⟨"PassiveBuses", "hasLeg", "(ILPassiveBuses$Frame;)Z"⟩ ⟨"PassiveBuses", "hasLeg", "(ILPassiveBuses$Frame;)Z"⟩ ∈ pb_ALL := pb_pw 10 (by decide +kernel) rfl
theorem wp_11 : Cond.selects "PassiveBuses" ⟨"PassiveBuses", "leaveLeg", "(ILPassiveBuses$Frame;)V"⟩ ⟨"PassiveBuses", "leaveLeg", "(ILPassiveBuses$Frame;)V"⟩ ∈ pb_ALL := pb_pw 11 (by decide +kernel) rfl
theorem wp_12 : Cond.selects "PassiveBuses" ⟨"PassiveBuses", "callerGone", "(LPassiveBuses$Call;)V"⟩ ⟨"PassiveBuses", "callerGone", "(LPassiveBuses$Call;)V"⟩ ∈ pb_ALL := pb_pw 12 (by decide +kernel) rfl
theorem wp_13 : Cond.selects "PassiveBuses" ⟨"PassiveBuses", "endCall", "(LPassiveBuses$Call;I)V"⟩ ⟨"PassiveBuses", "endCall", "(LPassiveBuses$Call;I)V"⟩ ∈ pb_ALL := pb_pw 13 (by decide +kernel) rfl
theorem wp_14 : Cond.selects "PassiveBuses" ⟨"PassiveBuses", "calledGone", "(LPassiveBuses$Call;I)V"⟩ ⟨"PassiveBuses", "calledGone", "(LPassiveBuses$Call;I)V"⟩ ∈ pb_ALL := pb_pw 14 (by decide +kernel) rfl
theorem wp_15 : Cond.selects "PassiveBuses" ⟨"PassiveBuses", "forgetFinishedCalls", "()V"⟩ ⟨"PassiveBuses", "forgetFinishedCalls", "()V"⟩ ∈ pb_ALL := pb_pw 15 (by decide +kernel) rfl
theorem wp_16 : Cond.selects "PassiveBuses" ⟨"PassiveBuses", "stepDown", "(I)I"⟩ ⟨"PassiveBuses", "stepDown", "(I)I"⟩ ∈ pb_ALL := pb_pw 16 (by decide +kernel) rfl
theorem wp_17 : Cond.selects "PassiveBuses" ⟨"PassiveBuses", "dropAddress", "(II)V"⟩ ⟨"PassiveBuses", "dropAddress", "(II)V"⟩ ∈ pb_ALL := pb_pw 17 (by decide +kernel) rfl
theorem wp_18 : Cond.selects "PassiveBuses" ⟨"PassiveBuses", "runClocks", "()V"⟩ ⟨"PassiveBuses", "runClocks", "()V"⟩ ∈ pb_ALL := pb_pw 18 (by decide +kernel) rfl
theorem wp_19 : Cond.selects "PassiveBuses" ⟨"PassiveBuses", "runAuditClock", "(II)V"⟩ ⟨"PassiveBuses", "runAuditClock", "(II)V"⟩ ∈ pb_ALL := pb_pw 19 (by decide +kernel) rfl
theorem wp_20 : Cond.selects "PassiveBuses" ⟨"PassiveBuses", "runCallClock", "(LPassiveBuses$Call;)V"⟩ ⟨"PassiveBuses", "runCallClock", "(LPassiveBuses$Call;)V"⟩ ∈ pb_ALL := pb_pw 20 (by decide +kernel) rfl
theorem wp_21 : Cond.selects "PassiveBuses" ⟨"PassiveBuses", "carrySpeech", "()V"⟩ ⟨"PassiveBuses", "carrySpeech", "()V"⟩ ∈ pb_ALL := pb_pw 21 (by decide +kernel) rfl
theorem wp_22 : Cond.selects "PassiveBuses" ⟨"PassiveBuses", "goesDown", "(II)I"⟩ ⟨"PassiveBuses", "goesDown", "(II)I"⟩ ∈ pb_ALL := pb_pw 22 (by decide +kernel) rfl
theorem wp_23 : Cond.selects "PassiveBusesModel" ⟨"PassiveBusesModel", "nothing", "(I)V"⟩ ⟨"PassiveBusesModel", "nothing", "(I)V"⟩ ∈ pb_ALL := pb_pw 23 (by decide +kernel) rfl
theorem wp_24 : Cond.selects "PassiveBusesModel" ⟨"PassiveBusesModel", "up", "(IIII)V"⟩ ⟨"PassiveBusesModel", "up", "(IIII)V"⟩ ∈ pb_ALL := pb_pw 24 (by decide +kernel) rfl
theorem wp_25 : Cond.selects "PassiveBusesModel" ⟨"PassiveBusesModel", "at", "(II)I"⟩ ⟨"PassiveBusesModel", "at", "(II)I"⟩ ∈ pb_ALL := pb_pw 25 (by decide +kernel) rfl
theorem wp_26 : Cond.selects "PassiveBusesModel" ⟨"PassiveBusesModel", "down", "(IIIII)V"⟩ ⟨"PassiveBusesModel", "down", "(IIIII)V"⟩ ∈ pb_ALL := pb_pw 26 (by decide +kernel) rfl
theorem wp_27 : Cond.selects "PassiveBusesModel" ⟨"PassiveBusesModel", "open", "(I)Z"⟩ ⟨"PassiveBusesModel", "open", "(I)Z"⟩ ∈ pb_ALL := pb_pw 27 (by decide +kernel) rfl
theorem wp_28 : Cond.selects "PassiveBusesModel" ⟨"PassiveBusesModel", "upStep", "(I)V"⟩ ⟨"PassiveBusesModel", "upStep", "(I)V"⟩ ∈ pb_ALL := pb_pw 28 (by decide +kernel) rfl
theorem wp_29 : Cond.selects "PassiveBusesModel" ⟨"PassiveBusesModel", "contention", "(I)I"⟩ ⟨"PassiveBusesModel", "contention", "(I)I"⟩ ∈ pb_ALL := pb_pw 29 (by decide +kernel) rfl
theorem wp_30 : Cond.selects "PassiveBusesModel" ⟨"PassiveBusesModel", "compared", "(II)I"⟩ ⟨"PassiveBusesModel", "compared", "(II)I"⟩ ∈ pb_ALL := pb_pw 30 (by decide +kernel) rfl
theorem wp_31 : Cond.selects "PassiveBusesModel" ⟨"PassiveBusesModel", "requested", "(II)V"⟩ ⟨"PassiveBusesModel", "requested", "(II)V"⟩ ∈ pb_ALL := pb_pw 31 (by decide +kernel) rfl
theorem wp_32 : Cond.selects "PassiveBusesModel" ⟨"PassiveBusesModel", "does", "(IIIII)V"⟩ ⟨"PassiveBusesModel", "does", "(IIIII)V"⟩ ∈ pb_ALL := pb_pw 32 (by decide +kernel) rfl
theorem wp_33 : Cond.selects "PassiveBusesModel" ⟨"PassiveBusesModel", "setup", "(IIII)V"⟩ ⟨"PassiveBusesModel", "setup", "(IIII)V"⟩ ∈ pb_ALL := pb_pw 33 (by decide +kernel) rfl
theorem wp_34 : Cond.selects "PassiveBusesModel" ⟨"PassiveBusesModel", "freeChannel", "(III)I"⟩ ⟨"PassiveBusesModel", "freeChannel", "(III)I"⟩ ∈ pb_ALL := pb_pw 34 (by decide +kernel) rfl
theorem wp_35 : Cond.selects "PassiveBusesModel" ⟨"PassiveBusesModel", "ended", "(IIII)V"⟩ ⟨"PassiveBusesModel", "ended", "(IIII)V"⟩ ∈ pb_ALL := pb_pw 35 (by decide +kernel) rfl
theorem wp_36 : Cond.selects "PassiveBusesModel" ⟨"PassiveBusesModel", "after", "(I)I"⟩ ⟨"PassiveBusesModel", "after", "(I)I"⟩ ∈ pb_ALL := pb_pw 36 (by decide +kernel) rfl
theorem wp_37 : Cond.selects "PassiveBusesModel" ⟨"PassiveBusesModel", "isCaller", "(III)Z"⟩ ⟨"PassiveBusesModel", "isCaller", "(III)Z"⟩ ∈ pb_ALL := pb_pw 37 (by decide +kernel) rfl
theorem wp_38 : Cond.selects "PassiveBusesModel" ⟨"PassiveBusesModel", "isCalled", "(III)Z"⟩ ⟨"PassiveBusesModel", "isCalled", "(III)Z"⟩ ∈ pb_ALL := pb_pw 38 (by decide +kernel) rfl
theorem wp_39 : Cond.selects "PassiveBusesModel" ⟨"PassiveBusesModel", "gone", "(II)V"⟩ ⟨"PassiveBusesModel", "gone", "(II)V"⟩ ∈ pb_ALL := pb_pw 39 (by decide +kernel) rfl
theorem wp_40 : Cond.selects "PassiveBusesModel" ⟨"PassiveBusesModel", "ends", "(II)V"⟩ ⟨"PassiveBusesModel", "ends", "(II)V"⟩ ∈ pb_ALL := pb_pw 40 (by decide +kernel) rfl
theorem wp_41 : Cond.selects "PassiveBusesModel" ⟨"PassiveBusesModel", "leave", "(III)V"⟩ ⟨"PassiveBusesModel", "leave", "(III)V"⟩ ∈ pb_ALL := pb_pw 41 (by decide +kernel) rfl
theorem wp_42 : Cond.selects "PassiveBusesModel" ⟨"PassiveBusesModel", "ringing", "(I)I"⟩ ⟨"PassiveBusesModel", "ringing", "(I)I"⟩ ∈ pb_ALL := pb_pw 42 (by decide +kernel) rfl
theorem wp_43 : Cond.selects "PassiveBusesModel" ⟨"PassiveBusesModel", "callOf", "(I)I"⟩ ⟨"PassiveBusesModel", "callOf", "(I)I"⟩ ∈ pb_ALL := pb_pw 43 (by decide +kernel) rfl
theorem wp_44 : Cond.selects "PassiveBusesModel" ⟨"PassiveBusesModel", "alerts", "(II)V"⟩ ⟨"PassiveBusesModel", "alerts", "(II)V"⟩ ∈ pb_ALL := pb_pw 44 (by decide +kernel) rfl
theorem wp_45 : Cond.selects "PassiveBusesModel" ⟨"PassiveBusesModel", "connects", "(III)V"⟩ ⟨"PassiveBusesModel", "connects", "(III)V"⟩ ∈ pb_ALL := pb_pw 45 (by decide +kernel) rfl
theorem wp_46 : Cond.selects "PassiveBusesModel" ⟨"PassiveBusesModel", "callsWith", "(III)Z"⟩ ⟨"PassiveBusesModel", "callsWith", "(III)Z"⟩ ∈ pb_ALL := pb_pw 46 (by decide +kernel) rfl
theorem wp_47 : Cond.selects "PassiveBusesModel" ⟨"PassiveBusesModel", "left", "(IIZ)V"⟩ ⟨"PassiveBusesModel", "left", "(IIZ)V"⟩ ∈ pb_ALL := pb_pw 47 (by decide +kernel) rfl
theorem wp_48 : Cond.selects "PassiveBusesModel" ⟨"PassiveBusesModel", "upGone", "(II)V"⟩ ⟨"PassiveBusesModel", "upGone", "(II)V"⟩ ∈ pb_ALL := pb_pw 48 (by decide +kernel) rfl
theorem wp_49 : Cond.selects "PassiveBusesModel" ⟨"PassiveBusesModel", "lose", "(I)V"⟩ ⟨"PassiveBusesModel", "lose", "(I)V"⟩ ∈ pb_ALL := pb_pw 49 (by decide +kernel) rfl
theorem wp_50 : Cond.selects "PassiveBusesModel" ⟨"PassiveBusesModel", "downStep", "(I)V"⟩ ⟨"PassiveBusesModel", "downStep", "(I)V"⟩ ∈ pb_ALL := pb_pw 50 (by decide +kernel) rfl
theorem wp_51 : Cond.selects "PassiveBusesModel" ⟨"PassiveBusesModel", "downGone", "(II)V"⟩ ⟨"PassiveBusesModel", "downGone", "(II)V"⟩ ∈ pb_ALL := pb_pw 51 (by decide +kernel) rfl
theorem wp_52 : Cond.selects "PassiveBusesModel" ⟨"PassiveBusesModel", "hears", "(IIIII)V"⟩ ⟨"PassiveBusesModel", "hears", "(IIIII)V"⟩ ∈ pb_ALL := pb_pw 52 (by decide +kernel) rfl
theorem wp_53 : Cond.selects "PassiveBusesModel" ⟨"PassiveBusesModel", "told", "(IIII)V"⟩ ⟨"PassiveBusesModel", "told", "(IIII)V"⟩ ∈ pb_ALL := pb_pw 53 (by decide +kernel) rfl
theorem wp_54 : Cond.selects "PassiveBusesModel" ⟨"PassiveBusesModel", "drop", "(II)V"⟩ ⟨"PassiveBusesModel", "drop", "(II)V"⟩ ∈ pb_ALL := pb_pw 54 (by decide +kernel) rfl
theorem wp_55 : Cond.selects "PassiveBusesModel" ⟨"PassiveBusesModel", "clocks", "()V"⟩ ⟨"PassiveBusesModel", "clocks", "()V"⟩ ∈ pb_ALL := pb_pw 55 (by decide +kernel) rfl
theorem wp_56 : Cond.selects "PassiveBusesModel" ⟨"PassiveBusesModel", "retry", "(I)V"⟩ ⟨"PassiveBusesModel", "retry", "(I)V"⟩ ∈ pb_ALL := pb_pw 56 (by decide +kernel) rfl
theorem wp_57 : Cond.selects "PassiveBusesModel" ⟨"PassiveBusesModel", "audited", "(III)V"⟩ ⟨"PassiveBusesModel", "audited", "(III)V"⟩ ∈ pb_ALL := pb_pw 57 (by decide +kernel) rfl
theorem wp_58 : Cond.selects "PassiveBusesModel" ⟨"PassiveBusesModel", "late", "(I)V"⟩ ⟨"PassiveBusesModel", "late", "(I)V"⟩ ∈ pb_ALL := pb_pw 58 (by decide +kernel) rfl
theorem wp_59 : Cond.selects "PassiveBusesModel" ⟨"PassiveBusesModel", "speak", "()V"⟩ ⟨"PassiveBusesModel", "speak", "()V"⟩ ∈ pb_ALL := pb_pw 59 (by decide +kernel) rfl
theorem wp_60 : Cond.selects "PassiveBusesModel" ⟨"PassiveBusesModel", "comes", "(II)I"⟩ ⟨"PassiveBusesModel", "comes", "(II)I"⟩ ∈ pb_ALL := pb_pw 60 (by decide +kernel) rfl
theorem wn_0 : ("PassiveBuses$Row", 19, (⟨"PassiveBuses$Frame", "<init>", "()V"⟩ : MethodName), "PassiveBuses") ∈ pb_nest := List.mem_of_getElem? (i := 0) rfl
theorem wn_1 : ("PassiveBuses$Bus", 39, (⟨"PassiveBuses$Terminal", "<init>", "()V"⟩ : MethodName), "PassiveBuses") ∈ pb_nest := List.mem_of_getElem? (i := 1) rfl
theorem wn_2 : ("PassiveBuses$Bus", 40, (⟨"PassiveBuses$Line", "<init>", "()V"⟩ : MethodName), "PassiveBuses") ∈ pb_nest := List.mem_of_getElem? (i := 2) rfl
theorem wn_3 : ("PassiveBuses", 32, (⟨"PassiveBuses$Call", "<init>", "()V"⟩ : MethodName), "PassiveBuses") ∈ pb_nest := List.mem_of_getElem? (i := 3) rfl
theorem wo_0 : "PassiveBuses$Bus" ∈ pb_aos := List.mem_of_getElem? (i := 0) rfl
theorem wo_1 : "PassiveBuses$Call" ∈ pb_aos := List.mem_of_getElem? (i := 1) rfl
theorem wo_2 : "PassiveBuses$Terminal" ∈ pb_aos := List.mem_of_getElem? (i := 2) rfl
theorem wo_3 : "PassiveBuses$Line" ∈ pb_aos := List.mem_of_getElem? (i := 3) rfl
theorem wo_4 : "PassiveBuses$Frame" ∈ pb_aos := List.mem_of_getElem? (i := 4) rfl
set_option maxRecDepth 20000 in
theorem pb_lw0 : ∀ w ∈ u_ws "PassiveBuses" pb_T0 (pb_N 0), w ∈ pb_ALL := List.forall_mem_cons.mpr ⟨wd_279, List.forall_mem_cons.mpr ⟨wd_281, List.forall_mem_cons.mpr ⟨wd_283, List.forall_mem_cons.mpr ⟨wd_285, List.forall_mem_cons.mpr ⟨wd_287, fun _ h => absurd h List.not_mem_nil⟩⟩⟩⟩⟩
theorem pb_nm0 : ∀ a, a < pb_N 0 → ∀ b, b < pb_N 0 → a ≠ b → (pb_T0 a).2.1 ≠ (pb_T0 b).2.1 := by decide +kernel
theorem pb_ty0 : ∀ k, k < pb_N 0 → parseFieldDescriptor (pb_T0 k).2.2.1 = some (pb_t0 k) := by decide +kernel
theorem pb_dd0 : ∀ k, k < pb_N 0 → (pb_ft 0 k = 2 ∧ defaultValue (pb_t0 k) = .null ∧ pb_df (1 + 100 * 0 + k) = -1) ∨ (¬ pb_ft 0 k = 2 ∧ defaultValue (pb_t0 k) = .int 0 ∧ pb_df (1 + 100 * 0 + k) = 0) := by decide +kernel
theorem fd_0_0 : pb_fd 0 0 1 2 "PassiveBuses" "buses" "[LPassiveBuses$Bus;" true (.array (.object "PassiveBuses$Bus")) := ⟨"PassiveBuses", pb_T0, pb_t0, rfl, pb_lw0, pb_ty0, pb_nm0, rfl, by decide +kernel, by decide, by decide +kernel, rfl, rfl, by decide +kernel⟩
theorem fd_0_1 : pb_fd 0 1 2 2 "PassiveBuses" "calls" "[LPassiveBuses$Call;" true (.array (.object "PassiveBuses$Call")) := ⟨"PassiveBuses", pb_T0, pb_t0, rfl, pb_lw0, pb_ty0, pb_nm0, rfl, by decide +kernel, by decide, by decide +kernel, rfl, rfl, by decide +kernel⟩
theorem fd_0_2 : pb_fd 0 2 3 0 "PassiveBuses" "callCount" "I" false (.int) := ⟨"PassiveBuses", pb_T0, pb_t0, rfl, pb_lw0, pb_ty0, pb_nm0, rfl, by decide +kernel, by decide, by decide +kernel, rfl, rfl, by decide +kernel⟩
theorem fd_0_3 : pb_fd 0 3 4 0 "PassiveBuses" "latestNumber" "I" false (.int) := ⟨"PassiveBuses", pb_T0, pb_t0, rfl, pb_lw0, pb_ty0, pb_nm0, rfl, by decide +kernel, by decide, by decide +kernel, rfl, rfl, by decide +kernel⟩
theorem fd_0_4 : pb_fd 0 4 5 0 "PassiveBuses" "ticks" "I" false (.int) := ⟨"PassiveBuses", pb_T0, pb_t0, rfl, pb_lw0, pb_ty0, pb_nm0, rfl, by decide +kernel, by decide, by decide +kernel, rfl, rfl, by decide +kernel⟩
set_option maxRecDepth 20000 in
theorem pb_lw1 : ∀ w ∈ u_ws "PassiveBuses$Bus" pb_T1 (pb_N 1), w ∈ pb_ALL := List.forall_mem_cons.mpr ⟨wd_205, List.forall_mem_cons.mpr ⟨wd_207, List.forall_mem_cons.mpr ⟨wd_209, List.forall_mem_cons.mpr ⟨wd_211, List.forall_mem_cons.mpr ⟨wd_213, fun _ h => absurd h List.not_mem_nil⟩⟩⟩⟩⟩
theorem pb_nm1 : ∀ a, a < pb_N 1 → ∀ b, b < pb_N 1 → a ≠ b → (pb_T1 a).2.1 ≠ (pb_T1 b).2.1 := by decide +kernel
theorem pb_ty1 : ∀ k, k < pb_N 1 → parseFieldDescriptor (pb_T1 k).2.2.1 = some (pb_t1 k) := by decide +kernel
theorem pb_dd1 : ∀ k, k < pb_N 1 → (pb_ft 1 k = 2 ∧ defaultValue (pb_t1 k) = .null ∧ pb_df (1 + 100 * 1 + k) = -1) ∨ (¬ pb_ft 1 k = 2 ∧ defaultValue (pb_t1 k) = .int 0 ∧ pb_df (1 + 100 * 1 + k) = 0) := by decide +kernel
theorem fd_1_0 : pb_fd 1 0 101 2 "PassiveBuses$Bus" "terminals" "[LPassiveBuses$Terminal;" true (.array (.object "PassiveBuses$Terminal")) := ⟨"PassiveBuses$Bus", pb_T1, pb_t1, rfl, pb_lw1, pb_ty1, pb_nm1, rfl, by decide +kernel, by decide, by decide +kernel, rfl, rfl, by decide +kernel⟩
theorem fd_1_1 : pb_fd 1 1 102 2 "PassiveBuses$Bus" "lines" "[LPassiveBuses$Line;" true (.array (.object "PassiveBuses$Line")) := ⟨"PassiveBuses$Bus", pb_T1, pb_t1, rfl, pb_lw1, pb_ty1, pb_nm1, rfl, by decide +kernel, by decide, by decide +kernel, rfl, rfl, by decide +kernel⟩
theorem fd_1_2 : pb_fd 1 2 103 2 "PassiveBuses$Bus" "row" "LPassiveBuses$Row;" true (.object "PassiveBuses$Row") := ⟨"PassiveBuses$Bus", pb_T1, pb_t1, rfl, pb_lw1, pb_ty1, pb_nm1, rfl, by decide +kernel, by decide, by decide +kernel, rfl, rfl, by decide +kernel⟩
theorem fd_1_3 : pb_fd 1 3 104 0 "PassiveBuses$Bus" "spoilUp" "I" false (.int) := ⟨"PassiveBuses$Bus", pb_T1, pb_t1, rfl, pb_lw1, pb_ty1, pb_nm1, rfl, by decide +kernel, by decide, by decide +kernel, rfl, rfl, by decide +kernel⟩
theorem fd_1_4 : pb_fd 1 4 105 0 "PassiveBuses$Bus" "spoilDown" "I" false (.int) := ⟨"PassiveBuses$Bus", pb_T1, pb_t1, rfl, pb_lw1, pb_ty1, pb_nm1, rfl, by decide +kernel, by decide, by decide +kernel, rfl, rfl, by decide +kernel⟩
set_option maxRecDepth 20000 in
theorem pb_lw2 : ∀ w ∈ u_ws "PassiveBuses$Row" pb_T2 (pb_N 2), w ∈ pb_ALL := List.forall_mem_cons.mpr ⟨wd_81, List.forall_mem_cons.mpr ⟨wd_83, fun _ h => absurd h List.not_mem_nil⟩⟩
theorem pb_nm2 : ∀ a, a < pb_N 2 → ∀ b, b < pb_N 2 → a ≠ b → (pb_T2 a).2.1 ≠ (pb_T2 b).2.1 := by decide +kernel
theorem pb_ty2 : ∀ k, k < pb_N 2 → parseFieldDescriptor (pb_T2 k).2.2.1 = some (pb_t2 k) := by decide +kernel
theorem pb_dd2 : ∀ k, k < pb_N 2 → (pb_ft 2 k = 2 ∧ defaultValue (pb_t2 k) = .null ∧ pb_df (1 + 100 * 2 + k) = -1) ∨ (¬ pb_ft 2 k = 2 ∧ defaultValue (pb_t2 k) = .int 0 ∧ pb_df (1 + 100 * 2 + k) = 0) := by decide +kernel
theorem fd_2_0 : pb_fd 2 0 201 2 "PassiveBuses$Row" "frames" "[LPassiveBuses$Frame;" true (.array (.object "PassiveBuses$Frame")) := ⟨"PassiveBuses$Row", pb_T2, pb_t2, rfl, pb_lw2, pb_ty2, pb_nm2, rfl, by decide +kernel, by decide, by decide +kernel, rfl, rfl, by decide +kernel⟩
theorem fd_2_1 : pb_fd 2 1 202 0 "PassiveBuses$Row" "size" "I" false (.int) := ⟨"PassiveBuses$Row", pb_T2, pb_t2, rfl, pb_lw2, pb_ty2, pb_nm2, rfl, by decide +kernel, by decide, by decide +kernel, rfl, rfl, by decide +kernel⟩
set_option maxRecDepth 20000 in
theorem pb_lw3 : ∀ w ∈ u_ws "PassiveBuses$Frame" pb_T3 (pb_N 3), w ∈ pb_ALL := List.forall_mem_cons.mpr ⟨wd_65, List.forall_mem_cons.mpr ⟨wd_67, List.forall_mem_cons.mpr ⟨wd_69, List.forall_mem_cons.mpr ⟨wd_71, List.forall_mem_cons.mpr ⟨wd_73, fun _ h => absurd h List.not_mem_nil⟩⟩⟩⟩⟩
theorem pb_nm3 : ∀ a, a < pb_N 3 → ∀ b, b < pb_N 3 → a ≠ b → (pb_T3 a).2.1 ≠ (pb_T3 b).2.1 := by decide +kernel
theorem pb_ty3 : ∀ k, k < pb_N 3 → parseFieldDescriptor (pb_T3 k).2.2.1 = some (pb_t3 k) := by decide +kernel
theorem pb_dd3 : ∀ k, k < pb_N 3 → (pb_ft 3 k = 2 ∧ defaultValue (pb_t3 k) = .null ∧ pb_df (1 + 100 * 3 + k) = -1) ∨ (¬ pb_ft 3 k = 2 ∧ defaultValue (pb_t3 k) = .int 0 ∧ pb_df (1 + 100 * 3 + k) = 0) := by decide +kernel
theorem fd_3_0 : pb_fd 3 0 301 0 "PassiveBuses$Frame" "kind" "I" false (.int) := ⟨"PassiveBuses$Frame", pb_T3, pb_t3, rfl, pb_lw3, pb_ty3, pb_nm3, rfl, by decide +kernel, by decide, by decide +kernel, rfl, rfl, by decide +kernel⟩
theorem fd_3_1 : pb_fd 3 1 302 0 "PassiveBuses$Frame" "address" "I" false (.int) := ⟨"PassiveBuses$Frame", pb_T3, pb_t3, rfl, pb_lw3, pb_ty3, pb_nm3, rfl, by decide +kernel, by decide, by decide +kernel, rfl, rfl, by decide +kernel⟩
theorem fd_3_2 : pb_fd 3 2 303 0 "PassiveBuses$Frame" "reference" "I" false (.int) := ⟨"PassiveBuses$Frame", pb_T3, pb_t3, rfl, pb_lw3, pb_ty3, pb_nm3, rfl, by decide +kernel, by decide, by decide +kernel, rfl, rfl, by decide +kernel⟩
theorem fd_3_3 : pb_fd 3 3 304 0 "PassiveBuses$Frame" "value" "I" false (.int) := ⟨"PassiveBuses$Frame", pb_T3, pb_t3, rfl, pb_lw3, pb_ty3, pb_nm3, rfl, by decide +kernel, by decide, by decide +kernel, rfl, rfl, by decide +kernel⟩
theorem fd_3_4 : pb_fd 3 4 305 0 "PassiveBuses$Frame" "failures" "I" false (.int) := ⟨"PassiveBuses$Frame", pb_T3, pb_t3, rfl, pb_lw3, pb_ty3, pb_nm3, rfl, by decide +kernel, by decide, by decide +kernel, rfl, rfl, by decide +kernel⟩
set_option maxRecDepth 20000 in
theorem pb_lw4 : ∀ w ∈ u_ws "PassiveBuses$Terminal" pb_T4 (pb_N 4), w ∈ pb_ALL := List.forall_mem_cons.mpr ⟨wd_129, List.forall_mem_cons.mpr ⟨wd_131, List.forall_mem_cons.mpr ⟨wd_133, List.forall_mem_cons.mpr ⟨wd_135, List.forall_mem_cons.mpr ⟨wd_137, List.forall_mem_cons.mpr ⟨wd_139, List.forall_mem_cons.mpr ⟨wd_141, List.forall_mem_cons.mpr ⟨wd_143, List.forall_mem_cons.mpr ⟨wd_145, List.forall_mem_cons.mpr ⟨wd_147, List.forall_mem_cons.mpr ⟨wd_149, List.forall_mem_cons.mpr ⟨wd_151, List.forall_mem_cons.mpr ⟨wd_153, List.forall_mem_cons.mpr ⟨wd_155, List.forall_mem_cons.mpr ⟨wd_157, List.forall_mem_cons.mpr ⟨wd_159, fun _ h => absurd h List.not_mem_nil⟩⟩⟩⟩⟩⟩⟩⟩⟩⟩⟩⟩⟩⟩⟩⟩
theorem pb_nm4 : ∀ a, a < pb_N 4 → ∀ b, b < pb_N 4 → a ≠ b → (pb_T4 a).2.1 ≠ (pb_T4 b).2.1 := by decide +kernel
theorem pb_ty4 : ∀ k, k < pb_N 4 → parseFieldDescriptor (pb_T4 k).2.2.1 = some (pb_t4 k) := by decide +kernel
theorem pb_dd4 : ∀ k, k < pb_N 4 → (pb_ft 4 k = 2 ∧ defaultValue (pb_t4 k) = .null ∧ pb_df (1 + 100 * 4 + k) = -1) ∨ (¬ pb_ft 4 k = 2 ∧ defaultValue (pb_t4 k) = .int 0 ∧ pb_df (1 + 100 * 4 + k) = 0) := by decide +kernel
theorem fd_4_0 : pb_fd 4 0 401 2 "PassiveBuses$Terminal" "row" "LPassiveBuses$Row;" true (.object "PassiveBuses$Row") := ⟨"PassiveBuses$Terminal", pb_T4, pb_t4, rfl, pb_lw4, pb_ty4, pb_nm4, rfl, by decide +kernel, by decide, by decide +kernel, rfl, rfl, by decide +kernel⟩
theorem fd_4_1 : pb_fd 4 1 402 1 "PassiveBuses$Terminal" "plugged" "Z" false (.boolean) := ⟨"PassiveBuses$Terminal", pb_T4, pb_t4, rfl, pb_lw4, pb_ty4, pb_nm4, rfl, by decide +kernel, by decide, by decide +kernel, rfl, rfl, by decide +kernel⟩
theorem fd_4_2 : pb_fd 4 2 403 1 "PassiveBuses$Terminal" "mild" "Z" false (.boolean) := ⟨"PassiveBuses$Terminal", pb_T4, pb_t4, rfl, pb_lw4, pb_ty4, pb_nm4, rfl, by decide +kernel, by decide, by decide +kernel, rfl, rfl, by decide +kernel⟩
theorem fd_4_3 : pb_fd 4 3 404 1 "PassiveBuses$Terminal" "sending" "Z" false (.boolean) := ⟨"PassiveBuses$Terminal", pb_T4, pb_t4, rfl, pb_lw4, pb_ty4, pb_nm4, rfl, by decide +kernel, by decide, by decide +kernel, rfl, rfl, by decide +kernel⟩
theorem fd_4_4 : pb_fd 4 4 405 0 "PassiveBuses$Terminal" "address" "I" false (.int) := ⟨"PassiveBuses$Terminal", pb_T4, pb_t4, rfl, pb_lw4, pb_ty4, pb_nm4, rfl, by decide +kernel, by decide, by decide +kernel, rfl, rfl, by decide +kernel⟩
theorem fd_4_5 : pb_fd 4 5 406 0 "PassiveBuses$Terminal" "draw" "I" false (.int) := ⟨"PassiveBuses$Terminal", pb_T4, pb_t4, rfl, pb_lw4, pb_ty4, pb_nm4, rfl, by decide +kernel, by decide, by decide +kernel, rfl, rfl, by decide +kernel⟩
theorem fd_4_6 : pb_fd 4 6 407 0 "PassiveBuses$Terminal" "clock" "I" false (.int) := ⟨"PassiveBuses$Terminal", pb_T4, pb_t4, rfl, pb_lw4, pb_ty4, pb_nm4, rfl, by decide +kernel, by decide, by decide +kernel, rfl, rfl, by decide +kernel⟩
theorem fd_4_7 : pb_fd 4 7 408 0 "PassiveBuses$Terminal" "state" "I" false (.int) := ⟨"PassiveBuses$Terminal", pb_T4, pb_t4, rfl, pb_lw4, pb_ty4, pb_nm4, rfl, by decide +kernel, by decide, by decide +kernel, rfl, rfl, by decide +kernel⟩
theorem fd_4_8 : pb_fd 4 8 409 0 "PassiveBuses$Terminal" "reference" "I" false (.int) := ⟨"PassiveBuses$Terminal", pb_T4, pb_t4, rfl, pb_lw4, pb_ty4, pb_nm4, rfl, by decide +kernel, by decide, by decide +kernel, rfl, rfl, by decide +kernel⟩
theorem fd_4_9 : pb_fd 4 9 410 0 "PassiveBuses$Terminal" "channel" "I" false (.int) := ⟨"PassiveBuses$Terminal", pb_T4, pb_t4, rfl, pb_lw4, pb_ty4, pb_nm4, rfl, by decide +kernel, by decide, by decide +kernel, rfl, rfl, by decide +kernel⟩
theorem fd_4_10 : pb_fd 4 10 411 0 "PassiveBuses$Terminal" "cause" "I" false (.int) := ⟨"PassiveBuses$Terminal", pb_T4, pb_t4, rfl, pb_lw4, pb_ty4, pb_nm4, rfl, by decide +kernel, by decide, by decide +kernel, rfl, rfl, by decide +kernel⟩
theorem fd_4_11 : pb_fd 4 11 412 0 "PassiveBuses$Terminal" "mouth" "I" false (.int) := ⟨"PassiveBuses$Terminal", pb_T4, pb_t4, rfl, pb_lw4, pb_ty4, pb_nm4, rfl, by decide +kernel, by decide, by decide +kernel, rfl, rfl, by decide +kernel⟩
theorem fd_4_12 : pb_fd 4 12 413 0 "PassiveBuses$Terminal" "ear" "I" false (.int) := ⟨"PassiveBuses$Terminal", pb_T4, pb_t4, rfl, pb_lw4, pb_ty4, pb_nm4, rfl, by decide +kernel, by decide, by decide +kernel, rfl, rfl, by decide +kernel⟩
theorem fd_4_13 : pb_fd 4 13 414 0 "PassiveBuses$Terminal" "dials" "I" false (.int) := ⟨"PassiveBuses$Terminal", pb_T4, pb_t4, rfl, pb_lw4, pb_ty4, pb_nm4, rfl, by decide +kernel, by decide, by decide +kernel, rfl, rfl, by decide +kernel⟩
theorem fd_4_14 : pb_fd 4 14 415 0 "PassiveBuses$Terminal" "sendBit" "I" false (.int) := ⟨"PassiveBuses$Terminal", pb_T4, pb_t4, rfl, pb_lw4, pb_ty4, pb_nm4, rfl, by decide +kernel, by decide, by decide +kernel, rfl, rfl, by decide +kernel⟩
theorem fd_4_15 : pb_fd 4 15 416 0 "PassiveBuses$Terminal" "receiveBit" "I" false (.int) := ⟨"PassiveBuses$Terminal", pb_T4, pb_t4, rfl, pb_lw4, pb_ty4, pb_nm4, rfl, by decide +kernel, by decide, by decide +kernel, rfl, rfl, by decide +kernel⟩
set_option maxRecDepth 20000 in
theorem pb_lw5 : ∀ w ∈ u_ws "PassiveBuses$Line" pb_T5 (pb_N 5), w ∈ pb_ALL := List.forall_mem_cons.mpr ⟨wd_182, List.forall_mem_cons.mpr ⟨wd_184, List.forall_mem_cons.mpr ⟨wd_186, List.forall_mem_cons.mpr ⟨wd_188, List.forall_mem_cons.mpr ⟨wd_190, List.forall_mem_cons.mpr ⟨wd_192, fun _ h => absurd h List.not_mem_nil⟩⟩⟩⟩⟩⟩
theorem pb_nm5 : ∀ a, a < pb_N 5 → ∀ b, b < pb_N 5 → a ≠ b → (pb_T5 a).2.1 ≠ (pb_T5 b).2.1 := by decide +kernel
theorem pb_ty5 : ∀ k, k < pb_N 5 → parseFieldDescriptor (pb_T5 k).2.2.1 = some (pb_t5 k) := by decide +kernel
theorem pb_dd5 : ∀ k, k < pb_N 5 → (pb_ft 5 k = 2 ∧ defaultValue (pb_t5 k) = .null ∧ pb_df (1 + 100 * 5 + k) = -1) ∨ (¬ pb_ft 5 k = 2 ∧ defaultValue (pb_t5 k) = .int 0 ∧ pb_df (1 + 100 * 5 + k) = 0) := by decide +kernel
theorem fd_5_0 : pb_fd 5 0 501 1 "PassiveBuses$Line" "given" "Z" false (.boolean) := ⟨"PassiveBuses$Line", pb_T5, pb_t5, rfl, pb_lw5, pb_ty5, pb_nm5, rfl, by decide +kernel, by decide, by decide +kernel, rfl, rfl, by decide +kernel⟩
theorem fd_5_1 : pb_fd 5 1 502 0 "PassiveBuses$Line" "sendBit" "I" false (.int) := ⟨"PassiveBuses$Line", pb_T5, pb_t5, rfl, pb_lw5, pb_ty5, pb_nm5, rfl, by decide +kernel, by decide, by decide +kernel, rfl, rfl, by decide +kernel⟩
theorem fd_5_2 : pb_fd 5 2 503 0 "PassiveBuses$Line" "receiveBit" "I" false (.int) := ⟨"PassiveBuses$Line", pb_T5, pb_t5, rfl, pb_lw5, pb_ty5, pb_nm5, rfl, by decide +kernel, by decide, by decide +kernel, rfl, rfl, by decide +kernel⟩
theorem fd_5_3 : pb_fd 5 3 504 1 "PassiveBuses$Line" "audited" "Z" false (.boolean) := ⟨"PassiveBuses$Line", pb_T5, pb_t5, rfl, pb_lw5, pb_ty5, pb_nm5, rfl, by decide +kernel, by decide, by decide +kernel, rfl, rfl, by decide +kernel⟩
theorem fd_5_4 : pb_fd 5 4 505 0 "PassiveBuses$Line" "auditClock" "I" false (.int) := ⟨"PassiveBuses$Line", pb_T5, pb_t5, rfl, pb_lw5, pb_ty5, pb_nm5, rfl, by decide +kernel, by decide, by decide +kernel, rfl, rfl, by decide +kernel⟩
theorem fd_5_5 : pb_fd 5 5 506 0 "PassiveBuses$Line" "replies" "I" false (.int) := ⟨"PassiveBuses$Line", pb_T5, pb_t5, rfl, pb_lw5, pb_ty5, pb_nm5, rfl, by decide +kernel, by decide, by decide +kernel, rfl, rfl, by decide +kernel⟩
set_option maxRecDepth 20000 in
theorem pb_lw6 : ∀ w ∈ u_ws "PassiveBuses$Call" pb_T6 (pb_N 6), w ∈ pb_ALL := List.forall_mem_cons.mpr ⟨wd_246, List.forall_mem_cons.mpr ⟨wd_248, List.forall_mem_cons.mpr ⟨wd_250, List.forall_mem_cons.mpr ⟨wd_252, List.forall_mem_cons.mpr ⟨wd_254, List.forall_mem_cons.mpr ⟨wd_256, List.forall_mem_cons.mpr ⟨wd_258, List.forall_mem_cons.mpr ⟨wd_260, List.forall_mem_cons.mpr ⟨wd_262, List.forall_mem_cons.mpr ⟨wd_264, List.forall_mem_cons.mpr ⟨wd_266, List.forall_mem_cons.mpr ⟨wd_268, List.forall_mem_cons.mpr ⟨wd_270, fun _ h => absurd h List.not_mem_nil⟩⟩⟩⟩⟩⟩⟩⟩⟩⟩⟩⟩⟩
theorem pb_nm6 : ∀ a, a < pb_N 6 → ∀ b, b < pb_N 6 → a ≠ b → (pb_T6 a).2.1 ≠ (pb_T6 b).2.1 := by decide +kernel
theorem pb_ty6 : ∀ k, k < pb_N 6 → parseFieldDescriptor (pb_T6 k).2.2.1 = some (pb_t6 k) := by decide +kernel
theorem pb_dd6 : ∀ k, k < pb_N 6 → (pb_ft 6 k = 2 ∧ defaultValue (pb_t6 k) = .null ∧ pb_df (1 + 100 * 6 + k) = -1) ∨ (¬ pb_ft 6 k = 2 ∧ defaultValue (pb_t6 k) = .int 0 ∧ pb_df (1 + 100 * 6 + k) = 0) := by decide +kernel
theorem fd_6_0 : pb_fd 6 0 601 2 "PassiveBuses$Call" "legs" "[I" true (.array (.int)) := ⟨"PassiveBuses$Call", pb_T6, pb_t6, rfl, pb_lw6, pb_ty6, pb_nm6, rfl, by decide +kernel, by decide, by decide +kernel, rfl, rfl, by decide +kernel⟩
theorem fd_6_1 : pb_fd 6 1 602 0 "PassiveBuses$Call" "number" "I" false (.int) := ⟨"PassiveBuses$Call", pb_T6, pb_t6, rfl, pb_lw6, pb_ty6, pb_nm6, rfl, by decide +kernel, by decide, by decide +kernel, rfl, rfl, by decide +kernel⟩
theorem fd_6_2 : pb_fd 6 2 603 0 "PassiveBuses$Call" "phase" "I" false (.int) := ⟨"PassiveBuses$Call", pb_T6, pb_t6, rfl, pb_lw6, pb_ty6, pb_nm6, rfl, by decide +kernel, by decide, by decide +kernel, rfl, rfl, by decide +kernel⟩
theorem fd_6_3 : pb_fd 6 3 604 0 "PassiveBuses$Call" "clock" "I" false (.int) := ⟨"PassiveBuses$Call", pb_T6, pb_t6, rfl, pb_lw6, pb_ty6, pb_nm6, rfl, by decide +kernel, by decide, by decide +kernel, rfl, rfl, by decide +kernel⟩
theorem fd_6_4 : pb_fd 6 4 605 1 "PassiveBuses$Call" "offeredTwice" "Z" false (.boolean) := ⟨"PassiveBuses$Call", pb_T6, pb_t6, rfl, pb_lw6, pb_ty6, pb_nm6, rfl, by decide +kernel, by decide, by decide +kernel, rfl, rfl, by decide +kernel⟩
theorem fd_6_5 : pb_fd 6 5 606 0 "PassiveBuses$Call" "callerBus" "I" false (.int) := ⟨"PassiveBuses$Call", pb_T6, pb_t6, rfl, pb_lw6, pb_ty6, pb_nm6, rfl, by decide +kernel, by decide, by decide +kernel, rfl, rfl, by decide +kernel⟩
theorem fd_6_6 : pb_fd 6 6 607 0 "PassiveBuses$Call" "callerAddress" "I" false (.int) := ⟨"PassiveBuses$Call", pb_T6, pb_t6, rfl, pb_lw6, pb_ty6, pb_nm6, rfl, by decide +kernel, by decide, by decide +kernel, rfl, rfl, by decide +kernel⟩
theorem fd_6_7 : pb_fd 6 7 608 0 "PassiveBuses$Call" "callerReference" "I" false (.int) := ⟨"PassiveBuses$Call", pb_T6, pb_t6, rfl, pb_lw6, pb_ty6, pb_nm6, rfl, by decide +kernel, by decide, by decide +kernel, rfl, rfl, by decide +kernel⟩
theorem fd_6_8 : pb_fd 6 8 609 0 "PassiveBuses$Call" "callerChannel" "I" false (.int) := ⟨"PassiveBuses$Call", pb_T6, pb_t6, rfl, pb_lw6, pb_ty6, pb_nm6, rfl, by decide +kernel, by decide, by decide +kernel, rfl, rfl, by decide +kernel⟩
theorem fd_6_9 : pb_fd 6 9 610 0 "PassiveBuses$Call" "callerLeg" "I" false (.int) := ⟨"PassiveBuses$Call", pb_T6, pb_t6, rfl, pb_lw6, pb_ty6, pb_nm6, rfl, by decide +kernel, by decide, by decide +kernel, rfl, rfl, by decide +kernel⟩
theorem fd_6_10 : pb_fd 6 10 611 0 "PassiveBuses$Call" "calledBus" "I" false (.int) := ⟨"PassiveBuses$Call", pb_T6, pb_t6, rfl, pb_lw6, pb_ty6, pb_nm6, rfl, by decide +kernel, by decide, by decide +kernel, rfl, rfl, by decide +kernel⟩
theorem fd_6_11 : pb_fd 6 11 612 0 "PassiveBuses$Call" "calledChannel" "I" false (.int) := ⟨"PassiveBuses$Call", pb_T6, pb_t6, rfl, pb_lw6, pb_ty6, pb_nm6, rfl, by decide +kernel, by decide, by decide +kernel, rfl, rfl, by decide +kernel⟩
theorem fd_6_12 : pb_fd 6 12 613 0 "PassiveBuses$Call" "winner" "I" false (.int) := ⟨"PassiveBuses$Call", pb_T6, pb_t6, rfl, pb_lw6, pb_ty6, pb_nm6, rfl, by decide +kernel, by decide, by decide +kernel, rfl, rfl, by decide +kernel⟩
set_option maxRecDepth 20000 in
theorem pb_lw7 : ∀ w ∈ u_ws "PassiveBusesModel" pb_T7 (pb_N 7), w ∈ pb_ALL := List.forall_mem_cons.mpr ⟨wd_711, List.forall_mem_cons.mpr ⟨wd_713, List.forall_mem_cons.mpr ⟨wd_715, List.forall_mem_cons.mpr ⟨wd_717, List.forall_mem_cons.mpr ⟨wd_719, List.forall_mem_cons.mpr ⟨wd_721, List.forall_mem_cons.mpr ⟨wd_723, List.forall_mem_cons.mpr ⟨wd_725, List.forall_mem_cons.mpr ⟨wd_727, List.forall_mem_cons.mpr ⟨wd_729, List.forall_mem_cons.mpr ⟨wd_731, List.forall_mem_cons.mpr ⟨wd_733, List.forall_mem_cons.mpr ⟨wd_735, List.forall_mem_cons.mpr ⟨wd_737, List.forall_mem_cons.mpr ⟨wd_739, List.forall_mem_cons.mpr ⟨wd_741, List.forall_mem_cons.mpr ⟨wd_743, List.forall_mem_cons.mpr ⟨wd_745, List.forall_mem_cons.mpr ⟨wd_747, List.forall_mem_cons.mpr ⟨wd_749, List.forall_mem_cons.mpr ⟨wd_751, List.forall_mem_cons.mpr ⟨wd_753, List.forall_mem_cons.mpr ⟨wd_755, List.forall_mem_cons.mpr ⟨wd_757, List.forall_mem_cons.mpr ⟨wd_759, List.forall_mem_cons.mpr ⟨wd_761, List.forall_mem_cons.mpr ⟨wd_763, List.forall_mem_cons.mpr ⟨wd_765, List.forall_mem_cons.mpr ⟨wd_767, List.forall_mem_cons.mpr ⟨wd_769, List.forall_mem_cons.mpr ⟨wd_771, List.forall_mem_cons.mpr ⟨wd_773, List.forall_mem_cons.mpr ⟨wd_775, List.forall_mem_cons.mpr ⟨wd_777, List.forall_mem_cons.mpr ⟨wd_779, List.forall_mem_cons.mpr ⟨wd_781, List.forall_mem_cons.mpr ⟨wd_783, List.forall_mem_cons.mpr ⟨wd_785, List.forall_mem_cons.mpr ⟨wd_787, List.forall_mem_cons.mpr ⟨wd_789, List.forall_mem_cons.mpr ⟨wd_791, List.forall_mem_cons.mpr ⟨wd_793, List.forall_mem_cons.mpr ⟨wd_795, List.forall_mem_cons.mpr ⟨wd_797, List.forall_mem_cons.mpr ⟨wd_799, List.forall_mem_cons.mpr ⟨wd_801, List.forall_mem_cons.mpr ⟨wd_803, List.forall_mem_cons.mpr ⟨wd_805, List.forall_mem_cons.mpr ⟨wd_807, List.forall_mem_cons.mpr ⟨wd_809, fun _ h => absurd h List.not_mem_nil⟩⟩⟩⟩⟩⟩⟩⟩⟩⟩⟩⟩⟩⟩⟩⟩⟩⟩⟩⟩⟩⟩⟩⟩⟩⟩⟩⟩⟩⟩⟩⟩⟩⟩⟩⟩⟩⟩⟩⟩⟩⟩⟩⟩⟩⟩⟩⟩⟩⟩
theorem pb_nm7 : ∀ a, a < pb_N 7 → ∀ b, b < pb_N 7 → a ≠ b → (pb_T7 a).2.1 ≠ (pb_T7 b).2.1 := by decide +kernel
theorem pb_ty7 : ∀ k, k < pb_N 7 → parseFieldDescriptor (pb_T7 k).2.2.1 = some (pb_t7 k) := by decide +kernel
theorem pb_dd7 : ∀ k, k < pb_N 7 → (pb_ft 7 k = 2 ∧ defaultValue (pb_t7 k) = .null ∧ pb_df (1 + 100 * 7 + k) = -1) ∨ (¬ pb_ft 7 k = 2 ∧ defaultValue (pb_t7 k) = .int 0 ∧ pb_df (1 + 100 * 7 + k) = 0) := by decide +kernel
theorem fd_7_0 : pb_fd 7 0 701 2 "PassiveBusesModel" "there" "[Z" true (.array (.boolean)) := ⟨"PassiveBusesModel", pb_T7, pb_t7, rfl, pb_lw7, pb_ty7, pb_nm7, rfl, by decide +kernel, by decide, by decide +kernel, rfl, rfl, by decide +kernel⟩
theorem fd_7_1 : pb_fd 7 1 702 2 "PassiveBusesModel" "address" "[I" true (.array (.int)) := ⟨"PassiveBusesModel", pb_T7, pb_t7, rfl, pb_lw7, pb_ty7, pb_nm7, rfl, by decide +kernel, by decide, by decide +kernel, rfl, rfl, by decide +kernel⟩
theorem fd_7_2 : pb_fd 7 2 703 2 "PassiveBusesModel" "draw" "[I" true (.array (.int)) := ⟨"PassiveBusesModel", pb_T7, pb_t7, rfl, pb_lw7, pb_ty7, pb_nm7, rfl, by decide +kernel, by decide, by decide +kernel, rfl, rfl, by decide +kernel⟩
theorem fd_7_3 : pb_fd 7 3 704 2 "PassiveBusesModel" "mild" "[Z" true (.array (.boolean)) := ⟨"PassiveBusesModel", pb_T7, pb_t7, rfl, pb_lw7, pb_ty7, pb_nm7, rfl, by decide +kernel, by decide, by decide +kernel, rfl, rfl, by decide +kernel⟩
theorem fd_7_4 : pb_fd 7 4 705 2 "PassiveBusesModel" "state" "[I" true (.array (.int)) := ⟨"PassiveBusesModel", pb_T7, pb_t7, rfl, pb_lw7, pb_ty7, pb_nm7, rfl, by decide +kernel, by decide, by decide +kernel, rfl, rfl, by decide +kernel⟩
theorem fd_7_5 : pb_fd 7 5 706 2 "PassiveBusesModel" "own" "[I" true (.array (.int)) := ⟨"PassiveBusesModel", pb_T7, pb_t7, rfl, pb_lw7, pb_ty7, pb_nm7, rfl, by decide +kernel, by decide, by decide +kernel, rfl, rfl, by decide +kernel⟩
theorem fd_7_6 : pb_fd 7 6 707 2 "PassiveBusesModel" "channel" "[I" true (.array (.int)) := ⟨"PassiveBusesModel", pb_T7, pb_t7, rfl, pb_lw7, pb_ty7, pb_nm7, rfl, by decide +kernel, by decide, by decide +kernel, rfl, rfl, by decide +kernel⟩
theorem fd_7_7 : pb_fd 7 7 708 2 "PassiveBusesModel" "mouth" "[I" true (.array (.int)) := ⟨"PassiveBusesModel", pb_T7, pb_t7, rfl, pb_lw7, pb_ty7, pb_nm7, rfl, by decide +kernel, by decide, by decide +kernel, rfl, rfl, by decide +kernel⟩
theorem fd_7_8 : pb_fd 7 8 709 2 "PassiveBusesModel" "ear" "[I" true (.array (.int)) := ⟨"PassiveBusesModel", pb_T7, pb_t7, rfl, pb_lw7, pb_ty7, pb_nm7, rfl, by decide +kernel, by decide, by decide +kernel, rfl, rfl, by decide +kernel⟩
theorem fd_7_9 : pb_fd 7 9 710 2 "PassiveBusesModel" "kept" "[I" true (.array (.int)) := ⟨"PassiveBusesModel", pb_T7, pb_t7, rfl, pb_lw7, pb_ty7, pb_nm7, rfl, by decide +kernel, by decide, by decide +kernel, rfl, rfl, by decide +kernel⟩
theorem fd_7_10 : pb_fd 7 10 711 2 "PassiveBusesModel" "dials" "[I" true (.array (.int)) := ⟨"PassiveBusesModel", pb_T7, pb_t7, rfl, pb_lw7, pb_ty7, pb_nm7, rfl, by decide +kernel, by decide, by decide +kernel, rfl, rfl, by decide +kernel⟩
theorem fd_7_11 : pb_fd 7 11 712 2 "PassiveBusesModel" "patience" "[I" true (.array (.int)) := ⟨"PassiveBusesModel", pb_T7, pb_t7, rfl, pb_lw7, pb_ty7, pb_nm7, rfl, by decide +kernel, by decide, by decide +kernel, rfl, rfl, by decide +kernel⟩
theorem fd_7_12 : pb_fd 7 12 713 2 "PassiveBusesModel" "sends" "[I" true (.array (.int)) := ⟨"PassiveBusesModel", pb_T7, pb_t7, rfl, pb_lw7, pb_ty7, pb_nm7, rfl, by decide +kernel, by decide, by decide +kernel, rfl, rfl, by decide +kernel⟩
theorem fd_7_13 : pb_fd 7 13 714 2 "PassiveBusesModel" "takes" "[I" true (.array (.int)) := ⟨"PassiveBusesModel", pb_T7, pb_t7, rfl, pb_lw7, pb_ty7, pb_nm7, rfl, by decide +kernel, by decide, by decide +kernel, rfl, rfl, by decide +kernel⟩
theorem fd_7_14 : pb_fd 7 14 715 2 "PassiveBusesModel" "contends" "[Z" true (.array (.boolean)) := ⟨"PassiveBusesModel", pb_T7, pb_t7, rfl, pb_lw7, pb_ty7, pb_nm7, rfl, by decide +kernel, by decide, by decide +kernel, rfl, rfl, by decide +kernel⟩
theorem fd_7_15 : pb_fd 7 15 716 2 "PassiveBusesModel" "length" "[I" true (.array (.int)) := ⟨"PassiveBusesModel", pb_T7, pb_t7, rfl, pb_lw7, pb_ty7, pb_nm7, rfl, by decide +kernel, by decide, by decide +kernel, rfl, rfl, by decide +kernel⟩
theorem fd_7_16 : pb_fd 7 16 717 2 "PassiveBusesModel" "kind" "[I" true (.array (.int)) := ⟨"PassiveBusesModel", pb_T7, pb_t7, rfl, pb_lw7, pb_ty7, pb_nm7, rfl, by decide +kernel, by decide, by decide +kernel, rfl, rfl, by decide +kernel⟩
theorem fd_7_17 : pb_fd 7 17 718 2 "PassiveBusesModel" "reference" "[I" true (.array (.int)) := ⟨"PassiveBusesModel", pb_T7, pb_t7, rfl, pb_lw7, pb_ty7, pb_nm7, rfl, by decide +kernel, by decide, by decide +kernel, rfl, rfl, by decide +kernel⟩
theorem fd_7_18 : pb_fd 7 18 719 2 "PassiveBusesModel" "value" "[I" true (.array (.int)) := ⟨"PassiveBusesModel", pb_T7, pb_t7, rfl, pb_lw7, pb_ty7, pb_nm7, rfl, by decide +kernel, by decide, by decide +kernel, rfl, rfl, by decide +kernel⟩
theorem fd_7_19 : pb_fd 7 19 720 2 "PassiveBusesModel" "failed" "[I" true (.array (.int)) := ⟨"PassiveBusesModel", pb_T7, pb_t7, rfl, pb_lw7, pb_ty7, pb_nm7, rfl, by decide +kernel, by decide, by decide +kernel, rfl, rfl, by decide +kernel⟩
theorem fd_7_20 : pb_fd 7 20 721 2 "PassiveBusesModel" "rows" "[I" true (.array (.int)) := ⟨"PassiveBusesModel", pb_T7, pb_t7, rfl, pb_lw7, pb_ty7, pb_nm7, rfl, by decide +kernel, by decide, by decide +kernel, rfl, rfl, by decide +kernel⟩
theorem fd_7_21 : pb_fd 7 21 722 2 "PassiveBusesModel" "downKind" "[I" true (.array (.int)) := ⟨"PassiveBusesModel", pb_T7, pb_t7, rfl, pb_lw7, pb_ty7, pb_nm7, rfl, by decide +kernel, by decide, by decide +kernel, rfl, rfl, by decide +kernel⟩
theorem fd_7_22 : pb_fd 7 22 723 2 "PassiveBusesModel" "downTo" "[I" true (.array (.int)) := ⟨"PassiveBusesModel", pb_T7, pb_t7, rfl, pb_lw7, pb_ty7, pb_nm7, rfl, by decide +kernel, by decide, by decide +kernel, rfl, rfl, by decide +kernel⟩
theorem fd_7_23 : pb_fd 7 23 724 2 "PassiveBusesModel" "downReference" "[I" true (.array (.int)) := ⟨"PassiveBusesModel", pb_T7, pb_t7, rfl, pb_lw7, pb_ty7, pb_nm7, rfl, by decide +kernel, by decide, by decide +kernel, rfl, rfl, by decide +kernel⟩
theorem fd_7_24 : pb_fd 7 24 725 2 "PassiveBusesModel" "downValue" "[I" true (.array (.int)) := ⟨"PassiveBusesModel", pb_T7, pb_t7, rfl, pb_lw7, pb_ty7, pb_nm7, rfl, by decide +kernel, by decide, by decide +kernel, rfl, rfl, by decide +kernel⟩
theorem fd_7_25 : pb_fd 7 25 726 2 "PassiveBusesModel" "downFailed" "[I" true (.array (.int)) := ⟨"PassiveBusesModel", pb_T7, pb_t7, rfl, pb_lw7, pb_ty7, pb_nm7, rfl, by decide +kernel, by decide, by decide +kernel, rfl, rfl, by decide +kernel⟩
theorem fd_7_26 : pb_fd 7 26 727 2 "PassiveBusesModel" "given" "[Z" true (.array (.boolean)) := ⟨"PassiveBusesModel", pb_T7, pb_t7, rfl, pb_lw7, pb_ty7, pb_nm7, rfl, by decide +kernel, by decide, by decide +kernel, rfl, rfl, by decide +kernel⟩
theorem fd_7_27 : pb_fd 7 27 728 2 "PassiveBusesModel" "exchangeSends" "[I" true (.array (.int)) := ⟨"PassiveBusesModel", pb_T7, pb_t7, rfl, pb_lw7, pb_ty7, pb_nm7, rfl, by decide +kernel, by decide, by decide +kernel, rfl, rfl, by decide +kernel⟩
theorem fd_7_28 : pb_fd 7 28 729 2 "PassiveBusesModel" "exchangeTakes" "[I" true (.array (.int)) := ⟨"PassiveBusesModel", pb_T7, pb_t7, rfl, pb_lw7, pb_ty7, pb_nm7, rfl, by decide +kernel, by decide, by decide +kernel, rfl, rfl, by decide +kernel⟩
theorem fd_7_29 : pb_fd 7 29 730 2 "PassiveBusesModel" "auditClock" "[I" true (.array (.int)) := ⟨"PassiveBusesModel", pb_T7, pb_t7, rfl, pb_lw7, pb_ty7, pb_nm7, rfl, by decide +kernel, by decide, by decide +kernel, rfl, rfl, by decide +kernel⟩
theorem fd_7_30 : pb_fd 7 30 731 2 "PassiveBusesModel" "auditCount" "[I" true (.array (.int)) := ⟨"PassiveBusesModel", pb_T7, pb_t7, rfl, pb_lw7, pb_ty7, pb_nm7, rfl, by decide +kernel, by decide, by decide +kernel, rfl, rfl, by decide +kernel⟩
theorem fd_7_31 : pb_fd 7 31 732 2 "PassiveBusesModel" "spoilUp" "[I" true (.array (.int)) := ⟨"PassiveBusesModel", pb_T7, pb_t7, rfl, pb_lw7, pb_ty7, pb_nm7, rfl, by decide +kernel, by decide, by decide +kernel, rfl, rfl, by decide +kernel⟩
theorem fd_7_32 : pb_fd 7 32 733 2 "PassiveBusesModel" "spoilDown" "[I" true (.array (.int)) := ⟨"PassiveBusesModel", pb_T7, pb_t7, rfl, pb_lw7, pb_ty7, pb_nm7, rfl, by decide +kernel, by decide, by decide +kernel, rfl, rfl, by decide +kernel⟩
theorem fd_7_33 : pb_fd 7 33 734 2 "PassiveBusesModel" "number" "[I" true (.array (.int)) := ⟨"PassiveBusesModel", pb_T7, pb_t7, rfl, pb_lw7, pb_ty7, pb_nm7, rfl, by decide +kernel, by decide, by decide +kernel, rfl, rfl, by decide +kernel⟩
theorem fd_7_34 : pb_fd 7 34 735 2 "PassiveBusesModel" "caller" "[I" true (.array (.int)) := ⟨"PassiveBusesModel", pb_T7, pb_t7, rfl, pb_lw7, pb_ty7, pb_nm7, rfl, by decide +kernel, by decide, by decide +kernel, rfl, rfl, by decide +kernel⟩
theorem fd_7_35 : pb_fd 7 35 736 2 "PassiveBusesModel" "callerBus" "[I" true (.array (.int)) := ⟨"PassiveBusesModel", pb_T7, pb_t7, rfl, pb_lw7, pb_ty7, pb_nm7, rfl, by decide +kernel, by decide, by decide +kernel, rfl, rfl, by decide +kernel⟩
theorem fd_7_36 : pb_fd 7 36 737 2 "PassiveBusesModel" "callerAddress" "[I" true (.array (.int)) := ⟨"PassiveBusesModel", pb_T7, pb_t7, rfl, pb_lw7, pb_ty7, pb_nm7, rfl, by decide +kernel, by decide, by decide +kernel, rfl, rfl, by decide +kernel⟩
theorem fd_7_37 : pb_fd 7 37 738 2 "PassiveBusesModel" "callerReference" "[I" true (.array (.int)) := ⟨"PassiveBusesModel", pb_T7, pb_t7, rfl, pb_lw7, pb_ty7, pb_nm7, rfl, by decide +kernel, by decide, by decide +kernel, rfl, rfl, by decide +kernel⟩
theorem fd_7_38 : pb_fd 7 38 739 2 "PassiveBusesModel" "callerChannel" "[I" true (.array (.int)) := ⟨"PassiveBusesModel", pb_T7, pb_t7, rfl, pb_lw7, pb_ty7, pb_nm7, rfl, by decide +kernel, by decide, by decide +kernel, rfl, rfl, by decide +kernel⟩
theorem fd_7_39 : pb_fd 7 39 740 2 "PassiveBusesModel" "calledBus" "[I" true (.array (.int)) := ⟨"PassiveBusesModel", pb_T7, pb_t7, rfl, pb_lw7, pb_ty7, pb_nm7, rfl, by decide +kernel, by decide, by decide +kernel, rfl, rfl, by decide +kernel⟩
theorem fd_7_40 : pb_fd 7 40 741 2 "PassiveBusesModel" "calledChannel" "[I" true (.array (.int)) := ⟨"PassiveBusesModel", pb_T7, pb_t7, rfl, pb_lw7, pb_ty7, pb_nm7, rfl, by decide +kernel, by decide, by decide +kernel, rfl, rfl, by decide +kernel⟩
theorem fd_7_41 : pb_fd 7 41 742 2 "PassiveBusesModel" "phase" "[I" true (.array (.int)) := ⟨"PassiveBusesModel", pb_T7, pb_t7, rfl, pb_lw7, pb_ty7, pb_nm7, rfl, by decide +kernel, by decide, by decide +kernel, rfl, rfl, by decide +kernel⟩
theorem fd_7_42 : pb_fd 7 42 743 2 "PassiveBusesModel" "clock" "[I" true (.array (.int)) := ⟨"PassiveBusesModel", pb_T7, pb_t7, rfl, pb_lw7, pb_ty7, pb_nm7, rfl, by decide +kernel, by decide, by decide +kernel, rfl, rfl, by decide +kernel⟩
theorem fd_7_43 : pb_fd 7 43 744 2 "PassiveBusesModel" "again" "[Z" true (.array (.boolean)) := ⟨"PassiveBusesModel", pb_T7, pb_t7, rfl, pb_lw7, pb_ty7, pb_nm7, rfl, by decide +kernel, by decide, by decide +kernel, rfl, rfl, by decide +kernel⟩
theorem fd_7_44 : pb_fd 7 44 745 2 "PassiveBusesModel" "winner" "[I" true (.array (.int)) := ⟨"PassiveBusesModel", pb_T7, pb_t7, rfl, pb_lw7, pb_ty7, pb_nm7, rfl, by decide +kernel, by decide, by decide +kernel, rfl, rfl, by decide +kernel⟩
theorem fd_7_45 : pb_fd 7 45 746 2 "PassiveBusesModel" "leg" "[I" true (.array (.int)) := ⟨"PassiveBusesModel", pb_T7, pb_t7, rfl, pb_lw7, pb_ty7, pb_nm7, rfl, by decide +kernel, by decide, by decide +kernel, rfl, rfl, by decide +kernel⟩
theorem fd_7_46 : pb_fd 7 46 747 0 "PassiveBusesModel" "numbers" "I" false (.int) := ⟨"PassiveBusesModel", pb_T7, pb_t7, rfl, pb_lw7, pb_ty7, pb_nm7, rfl, by decide +kernel, by decide, by decide +kernel, rfl, rfl, by decide +kernel⟩
theorem fd_7_47 : pb_fd 7 47 748 2 "PassiveBusesModel" "speech" "[I" true (.array (.int)) := ⟨"PassiveBusesModel", pb_T7, pb_t7, rfl, pb_lw7, pb_ty7, pb_nm7, rfl, by decide +kernel, by decide, by decide +kernel, rfl, rfl, by decide +kernel⟩
theorem fd_7_48 : pb_fd 7 48 749 0 "PassiveBusesModel" "ticks" "I" false (.int) := ⟨"PassiveBusesModel", pb_T7, pb_t7, rfl, pb_lw7, pb_ty7, pb_nm7, rfl, by decide +kernel, by decide, by decide +kernel, rfl, rfl, by decide +kernel⟩
theorem fd_7_49 : pb_fd 7 49 750 0 "PassiveBusesModel" "sent" "I" false (.int) := ⟨"PassiveBusesModel", pb_T7, pb_t7, rfl, pb_lw7, pb_ty7, pb_nm7, rfl, by decide +kernel, by decide, by decide +kernel, rfl, rfl, by decide +kernel⟩
theorem pb_dfR : ∀ f, pb_R (pb_df f) := by
  intro f
  unfold pb_df pb_R
  split <;> omega
theorem pb_layB : ∀ q ∈ pb_lay, q.2 < 100 := by decide +kernel
theorem pb_lnR : ∀ q : Int, pb_R (pb_ln q) ∧ 0 ≤ pb_ln q := by
  intro q
  unfold pb_ln
  rw [List.getD_eq_getElem?_getD]
  cases h : pb_lay[q.toNat]? with
  | none => exact ⟨⟨by decide, by decide⟩, by decide⟩
  | some y =>
    have h1 := pb_layB y (List.mem_of_getElem? h)
    unfold pb_R
    dsimp only [Option.getD_some]
    omega
theorem mo_J_compare : pb_mok i_J_compare 2 := ⟨wd_403, by decide +kernel, trivial, wd_9⟩
theorem mo_P_init : pb_mok i_P_init 0 := ⟨wd_14, by decide +kernel, trivial, wd_1⟩
theorem mo_P_plug : pb_mok i_P_plug 3 := ⟨wd_293, by decide +kernel, trivial, wd_1⟩
theorem mo_P_unplug : pb_mok i_P_unplug 2 := ⟨wd_323, by decide +kernel, trivial, wd_1⟩
theorem mo_P_dial : pb_mok i_P_dial 3 := ⟨wd_335, by decide +kernel, trivial, wd_1⟩
theorem mo_P_answer : pb_mok i_P_answer 2 := ⟨wd_343, by decide +kernel, trivial, wd_1⟩
theorem mo_P_hang : pb_mok i_P_hang 2 := ⟨wd_348, by decide +kernel, trivial, wd_1⟩
theorem mo_P_say : pb_mok i_P_say 3 := ⟨wd_352, by decide +kernel, trivial, wd_1⟩
theorem mo_P_spoil : pb_mok i_P_spoil 3 := ⟨wd_356, by decide +kernel, trivial, wd_1⟩
theorem mo_P_audit : pb_mok i_P_audit 2 := ⟨wd_360, by decide +kernel, trivial, wd_1⟩
theorem mo_P_run : pb_mok i_P_run 1 := ⟨wd_368, by decide +kernel, trivial, wd_1⟩
theorem mo_P_time : pb_mok i_P_time 0 := ⟨wd_610, by decide +kernel, trivial, wd_1⟩
theorem mo_P_state : pb_mok i_P_state 2 := ⟨wd_614, by decide +kernel, trivial, wd_1⟩
theorem mo_P_address : pb_mok i_P_address 2 := ⟨wd_618, by decide +kernel, trivial, wd_1⟩
theorem mo_P_reference : pb_mok i_P_reference 2 := ⟨wd_622, by decide +kernel, trivial, wd_1⟩
theorem mo_P_channel : pb_mok i_P_channel 2 := ⟨wd_626, by decide +kernel, trivial, wd_1⟩
theorem mo_P_cause : pb_mok i_P_cause 2 := ⟨wd_630, by decide +kernel, trivial, wd_1⟩
theorem mo_P_ear : pb_mok i_P_ear 2 := ⟨wd_634, by decide +kernel, trivial, wd_1⟩
theorem mo_P_waiting : pb_mok i_P_waiting 2 := ⟨wd_638, by decide +kernel, trivial, wd_1⟩
theorem mo_P_given : pb_mok i_P_given 1 := ⟨wd_646, by decide +kernel, trivial, wd_1⟩
theorem mo_P_holder : pb_mok i_P_holder 2 := ⟨wd_650, by decide +kernel, trivial, wd_1⟩
theorem mo_P_phase : pb_mok i_P_phase 1 := ⟨wd_654, by decide +kernel, trivial, wd_1⟩
theorem mo_P_isBus : pb_mok i_P_isBus 1 := ⟨wd_299, by decide +kernel, trivial, wd_1⟩
theorem mo_P_isSocket : pb_mok i_P_isSocket 2 := ⟨wd_296, by decide +kernel, trivial, wd_1⟩
theorem mo_P_terminalAt : pb_mok i_P_terminalAt 2 := ⟨wd_327, by decide +kernel, trivial, wd_1⟩
theorem mo_P_stepUp : pb_mok i_P_stepUp 1 := ⟨wd_372, by decide +kernel, trivial, wd_1⟩
theorem mo_P_stepDown : pb_mok i_P_stepDown 1 := ⟨wd_546, by decide +kernel, trivial, wd_1⟩
theorem mo_P_receiveUp : pb_mok i_P_receiveUp 3 := ⟨wd_418, by decide +kernel, trivial, wd_1⟩
theorem mo_P_onSetup : pb_mok i_P_onSetup 2 := ⟨wd_427, by decide +kernel, trivial, wd_1⟩
theorem mo_P_onAlert : pb_mok i_P_onAlert 2 := ⟨wd_467, by decide +kernel, trivial, wd_1⟩
theorem mo_P_onConnect : pb_mok i_P_onConnect 2 := ⟨wd_481, by decide +kernel, trivial, wd_1⟩
theorem mo_P_refuse : pb_mok i_P_refuse 3 := ⟨wd_451, by decide +kernel, trivial, wd_1⟩
theorem mo_P_answerableCall : pb_mok i_P_answerableCall 2 := ⟨wd_471, by decide +kernel, trivial, wd_1⟩
theorem mo_P_hasLeg : pb_mok i_P_hasLeg 2 := ⟨wd_485, by decide +kernel, trivial, wd_1⟩
theorem mo_P_leaveLeg : pb_mok i_P_leaveLeg 2 := ⟨wd_498, by decide +kernel, trivial, wd_1⟩
theorem mo_P_callerGone : pb_mok i_P_callerGone 1 := ⟨wd_502, by decide +kernel, trivial, wd_1⟩
theorem mo_P_calledGone : pb_mok i_P_calledGone 2 := ⟨wd_510, by decide +kernel, trivial, wd_1⟩
theorem mo_P_endCall : pb_mok i_P_endCall 2 := ⟨wd_506, by decide +kernel, trivial, wd_1⟩
theorem mo_P_forgetFinishedCalls : pb_mok i_P_forgetFinishedCalls 0 := ⟨wd_518, by decide +kernel, trivial, wd_1⟩
theorem mo_P_dropAddress : pb_mok i_P_dropAddress 2 := ⟨wd_573, by decide +kernel, trivial, wd_1⟩
theorem mo_P_freeChannel : pb_mok i_P_freeChannel 2 := ⟨wd_431, by decide +kernel, trivial, wd_1⟩
theorem mo_P_numberHolding : pb_mok i_P_numberHolding 2 := ⟨wd_435, by decide +kernel, trivial, wd_1⟩
theorem mo_P_runClocks : pb_mok i_P_runClocks 0 := ⟨wd_582, by decide +kernel, trivial, wd_1⟩
theorem mo_P_runAuditClock : pb_mok i_P_runAuditClock 2 := ⟨wd_590, by decide +kernel, trivial, wd_1⟩
theorem mo_P_runCallClock : pb_mok i_P_runCallClock 1 := ⟨wd_594, by decide +kernel, trivial, wd_1⟩
theorem mo_P_carrySpeech : pb_mok i_P_carrySpeech 0 := ⟨wd_598, by decide +kernel, trivial, wd_1⟩
theorem mo_P_goesDown : pb_mok i_P_goesDown 2 := ⟨wd_602, by decide +kernel, trivial, wd_1⟩
theorem mo_B_init : pb_mok i_B_init 0 := ⟨wd_25, by decide +kernel, trivial, wd_2⟩
theorem mo_B_lineOf : pb_mok i_B_lineOf 1 := ⟨wd_364, by decide +kernel, trivial, wd_2⟩
theorem mo_B_countTerminalFrames : pb_mok i_B_countTerminalFrames 0 := ⟨wd_642, by decide +kernel, trivial, wd_2⟩
theorem mo_B_hasEagerContender : pb_mok i_B_hasEagerContender 0 := ⟨wd_380, by decide +kernel, trivial, wd_2⟩
theorem mo_B_contend : pb_mok i_B_contend 0 := ⟨wd_376, by decide +kernel, trivial, wd_2⟩
theorem mo_B_settleSenders : pb_mok i_B_settleSenders 1 := ⟨wd_526, by decide +kernel, trivial, wd_2⟩
theorem mo_B_exchangeListens : pb_mok i_B_exchangeListens 1 := ⟨wd_412, by decide +kernel, trivial, wd_2⟩
theorem mo_B_sendToAll : pb_mok i_B_sendToAll 1 := ⟨wd_551, by decide +kernel, trivial, wd_2⟩
theorem mo_B_sendToAddress : pb_mok i_B_sendToAddress 2 := ⟨wd_560, by decide +kernel, trivial, wd_2⟩
theorem mo_B_giveAddress : pb_mok i_B_giveAddress 1 := ⟨wd_422, by decide +kernel, trivial, wd_2⟩
theorem mo_B_comesUp : pb_mok i_B_comesUp 1 := ⟨wd_606, by decide +kernel, trivial, wd_2⟩
theorem mo_R_init8 : pb_mok i_R_init8 1 := ⟨wd_35, by decide +kernel, trivial, wd_3⟩
theorem mo_R_init24 : pb_mok i_R_init24 1 := ⟨wd_35, by decide +kernel, trivial, wd_3⟩
theorem mo_R_put : pb_mok i_R_put 4 := ⟨wd_319, by decide +kernel, trivial, wd_3⟩
theorem mo_R_first : pb_mok i_R_first 0 := ⟨wd_392, by decide +kernel, trivial, wd_3⟩
theorem mo_R_removeFirst : pb_mok i_R_removeFirst 0 := ⟨wd_534, by decide +kernel, trivial, wd_3⟩
theorem mo_R_removeNumbered : pb_mok i_R_removeNumbered 1 := ⟨wd_577, by decide +kernel, trivial, wd_3⟩
theorem mo_R_removeAll : pb_mok i_R_removeAll 0 := ⟨wd_311, by decide +kernel, trivial, wd_3⟩
theorem mo_F_init : pb_mok i_F_init 0 := ⟨wd_42, by decide +kernel, trivial, wd_4⟩
theorem mo_F_isNumbered : pb_mok i_F_isNumbered 0 := ⟨wd_396, by decide +kernel, trivial, wd_4⟩
theorem mo_F_failsForGood : pb_mok i_F_failsForGood 0 := ⟨wd_538, by decide +kernel, trivial, wd_4⟩
theorem mo_F_compareNumbered : pb_mok i_F_compareNumbered 3 := ⟨wd_400, by decide +kernel, trivial, wd_4⟩
theorem mo_F_compareLoose : pb_mok i_F_compareLoose 1 := ⟨wd_407, by decide +kernel, trivial, wd_4⟩
theorem mo_T_init : pb_mok i_T_init 0 := ⟨wd_89, by decide +kernel, trivial, wd_5⟩
theorem mo_T_plugIn : pb_mok i_T_plugIn 1 := ⟨wd_303, by decide +kernel, trivial, wd_5⟩
theorem mo_T_pullOut : pb_mok i_T_pullOut 0 := ⟨wd_331, by decide +kernel, trivial, wd_5⟩
theorem mo_T_startOver : pb_mok i_T_startOver 1 := ⟨wd_307, by decide +kernel, trivial, wd_5⟩
theorem mo_T_startOverWithNextDraw : pb_mok i_T_startOverWithNextDraw 0 := ⟨wd_542, by decide +kernel, trivial, wd_5⟩
theorem mo_T_becomeNull : pb_mok i_T_becomeNull 0 := ⟨wd_315, by decide +kernel, trivial, wd_5⟩
theorem mo_T_startCall : pb_mok i_T_startCall 1 := ⟨wd_339, by decide +kernel, trivial, wd_5⟩
theorem mo_T_runClock : pb_mok i_T_runClock 0 := ⟨wd_586, by decide +kernel, trivial, wd_5⟩
theorem mo_T_contends : pb_mok i_T_contends 1 := ⟨wd_384, by decide +kernel, trivial, wd_5⟩
theorem mo_T_compareFirst : pb_mok i_T_compareFirst 1 := ⟨wd_388, by decide +kernel, trivial, wd_5⟩
theorem mo_T_settle : pb_mok i_T_settle 1 := ⟨wd_530, by decide +kernel, trivial, wd_5⟩
theorem mo_T_hear : pb_mok i_T_hear 1 := ⟨wd_555, by decide +kernel, trivial, wd_5⟩
theorem mo_T_receive : pb_mok i_T_receive 2 := ⟨wd_564, by decide +kernel, trivial, wd_5⟩
theorem mo_T_follow : pb_mok i_T_follow 1 := ⟨wd_568, by decide +kernel, trivial, wd_5⟩
theorem mo_L_init : pb_mok i_L_init 0 := ⟨wd_165, by decide +kernel, trivial, wd_6⟩
theorem mo_C_init : pb_mok i_C_init 0 := ⟨wd_219, by decide +kernel, trivial, wd_7⟩
theorem mo_C_begin : pb_mok i_C_begin 3 := ⟨wd_455, by decide +kernel, trivial, wd_7⟩
theorem mo_C_setCaller : pb_mok i_C_setCaller 4 := ⟨wd_459, by decide +kernel, trivial, wd_7⟩
theorem mo_C_calledReference : pb_mok i_C_calledReference 0 := ⟨wd_463, by decide +kernel, trivial, wd_7⟩
theorem mo_C_isUnanswered : pb_mok i_C_isUnanswered 0 := ⟨wd_443, by decide +kernel, trivial, wd_7⟩
theorem mo_C_legOf : pb_mok i_C_legOf 1 := ⟨wd_447, by decide +kernel, trivial, wd_7⟩
theorem mo_C_setLeg : pb_mok i_C_setLeg 2 := ⟨wd_477, by decide +kernel, trivial, wd_7⟩
theorem mo_C_isRinging : pb_mok i_C_isRinging 0 := ⟨wd_514, by decide +kernel, trivial, wd_7⟩
theorem mo_C_hasAnyLeg : pb_mok i_C_hasAnyLeg 0 := ⟨wd_522, by decide +kernel, trivial, wd_7⟩
theorem mo_C_isCaller : pb_mok i_C_isCaller 2 := ⟨wd_489, by decide +kernel, trivial, wd_7⟩
theorem mo_C_isCalled : pb_mok i_C_isCalled 2 := ⟨wd_493, by decide +kernel, trivial, wd_7⟩
theorem mo_C_holds : pb_mok i_C_holds 2 := ⟨wd_439, by decide +kernel, trivial, wd_7⟩
theorem mo_M_init : pb_mok i_M_init 0 := ⟨wd_659, by decide +kernel, trivial, wd_8⟩
theorem mo_M_isBus : pb_mok i_M_isBus 1 := ⟨wd_819, by decide +kernel, trivial, wd_8⟩
theorem mo_M_at : pb_mok i_M_at 2 := ⟨wd_835, by decide +kernel, trivial, wd_8⟩
theorem mo_M_up : pb_mok i_M_up 4 := ⟨wd_827, by decide +kernel, trivial, wd_8⟩
theorem mo_M_upGone : pb_mok i_M_upGone 2 := ⟨wd_963, by decide +kernel, trivial, wd_8⟩
theorem mo_M_down : pb_mok i_M_down 5 := ⟨wd_863, by decide +kernel, trivial, wd_8⟩
theorem mo_M_downGone : pb_mok i_M_downGone 2 := ⟨wd_975, by decide +kernel, trivial, wd_8⟩
theorem mo_M_plug : pb_mok i_M_plug 3 := ⟨wd_816, by decide +kernel, trivial, wd_8⟩
theorem mo_M_nothing : pb_mok i_M_nothing 1 := ⟨wd_823, by decide +kernel, trivial, wd_8⟩
theorem mo_M_lose : pb_mok i_M_lose 1 := ⟨wd_967, by decide +kernel, trivial, wd_8⟩
theorem mo_M_unplug : pb_mok i_M_unplug 2 := ⟨wd_831, by decide +kernel, trivial, wd_8⟩
theorem mo_M_dial : pb_mok i_M_dial 3 := ⟨wd_839, by decide +kernel, trivial, wd_8⟩
theorem mo_M_answer : pb_mok i_M_answer 2 := ⟨wd_843, by decide +kernel, trivial, wd_8⟩
theorem mo_M_hang : pb_mok i_M_hang 2 := ⟨wd_847, by decide +kernel, trivial, wd_8⟩
theorem mo_M_say : pb_mok i_M_say 3 := ⟨wd_851, by decide +kernel, trivial, wd_8⟩
theorem mo_M_spoil : pb_mok i_M_spoil 3 := ⟨wd_855, by decide +kernel, trivial, wd_8⟩
theorem mo_M_audit : pb_mok i_M_audit 2 := ⟨wd_859, by decide +kernel, trivial, wd_8⟩
theorem mo_M_order : pb_mok i_M_order 2 := ⟨wd_890, by decide +kernel, trivial, wd_8⟩
theorem mo_M_compared : pb_mok i_M_compared 2 := ⟨wd_887, by decide +kernel, trivial, wd_8⟩
theorem mo_M_contention : pb_mok i_M_contention 1 := ⟨wd_883, by decide +kernel, trivial, wd_8⟩
theorem mo_M_upStep : pb_mok i_M_upStep 1 := ⟨wd_879, by decide +kernel, trivial, wd_8⟩
theorem mo_M_left : pb_mok i_M_left 3 := ⟨wd_959, by decide +kernel, trivial, wd_8⟩
theorem mo_M_requested : pb_mok i_M_requested 2 := ⟨wd_894, by decide +kernel, trivial, wd_8⟩
theorem mo_M_downStep : pb_mok i_M_downStep 1 := ⟨wd_971, by decide +kernel, trivial, wd_8⟩
theorem mo_M_hears : pb_mok i_M_hears 5 := ⟨wd_979, by decide +kernel, trivial, wd_8⟩
theorem mo_M_told : pb_mok i_M_told 4 := ⟨wd_983, by decide +kernel, trivial, wd_8⟩
theorem mo_M_after : pb_mok i_M_after 1 := ⟨wd_915, by decide +kernel, trivial, wd_8⟩
theorem mo_M_callOf : pb_mok i_M_callOf 1 := ⟨wd_943, by decide +kernel, trivial, wd_8⟩
theorem mo_M_open : pb_mok i_M_open 1 := ⟨wd_871, by decide +kernel, trivial, wd_8⟩
theorem mo_M_holder : pb_mok i_M_holder 2 := ⟨wd_867, by decide +kernel, trivial, wd_8⟩
theorem mo_M_freeChannel : pb_mok i_M_freeChannel 3 := ⟨wd_906, by decide +kernel, trivial, wd_8⟩
theorem mo_M_ends : pb_mok i_M_ends 2 := ⟨wd_931, by decide +kernel, trivial, wd_8⟩
theorem mo_M_leave : pb_mok i_M_leave 3 := ⟨wd_935, by decide +kernel, trivial, wd_8⟩
theorem mo_M_ringing : pb_mok i_M_ringing 1 := ⟨wd_939, by decide +kernel, trivial, wd_8⟩
theorem mo_M_gone : pb_mok i_M_gone 2 := ⟨wd_927, by decide +kernel, trivial, wd_8⟩
theorem mo_M_isCaller : pb_mok i_M_isCaller 3 := ⟨wd_919, by decide +kernel, trivial, wd_8⟩
theorem mo_M_isCalled : pb_mok i_M_isCalled 3 := ⟨wd_923, by decide +kernel, trivial, wd_8⟩
theorem mo_M_drop : pb_mok i_M_drop 2 := ⟨wd_987, by decide +kernel, trivial, wd_8⟩
theorem mo_M_does : pb_mok i_M_does 5 := ⟨wd_898, by decide +kernel, trivial, wd_8⟩
theorem mo_M_callsWith : pb_mok i_M_callsWith 3 := ⟨wd_955, by decide +kernel, trivial, wd_8⟩
theorem mo_M_ended : pb_mok i_M_ended 4 := ⟨wd_911, by decide +kernel, trivial, wd_8⟩
theorem mo_M_setup : pb_mok i_M_setup 4 := ⟨wd_902, by decide +kernel, trivial, wd_8⟩
theorem mo_M_alerts : pb_mok i_M_alerts 2 := ⟨wd_947, by decide +kernel, trivial, wd_8⟩
theorem mo_M_connects : pb_mok i_M_connects 3 := ⟨wd_951, by decide +kernel, trivial, wd_8⟩
theorem mo_M_clocks : pb_mok i_M_clocks 0 := ⟨wd_991, by decide +kernel, trivial, wd_8⟩
theorem mo_M_retry : pb_mok i_M_retry 1 := ⟨wd_995, by decide +kernel, trivial, wd_8⟩
theorem mo_M_audited : pb_mok i_M_audited 3 := ⟨wd_999, by decide +kernel, trivial, wd_8⟩
theorem mo_M_late : pb_mok i_M_late 1 := ⟨wd_1003, by decide +kernel, trivial, wd_8⟩
theorem mo_M_comes : pb_mok i_M_comes 2 := ⟨wd_1011, by decide +kernel, trivial, wd_8⟩
theorem mo_M_speak : pb_mok i_M_speak 0 := ⟨wd_1007, by decide +kernel, trivial, wd_8⟩
theorem mo_M_run : pb_mok i_M_run 1 := ⟨wd_875, by decide +kernel, trivial, wd_8⟩
theorem mo_M_time : pb_mok i_M_time 0 := ⟨wd_1015, by decide +kernel, trivial, wd_8⟩
theorem mo_M_state : pb_mok i_M_state 2 := ⟨wd_1019, by decide +kernel, trivial, wd_8⟩
theorem mo_M_address : pb_mok i_M_address 2 := ⟨wd_1023, by decide +kernel, trivial, wd_8⟩
theorem mo_M_reference : pb_mok i_M_reference 2 := ⟨wd_1027, by decide +kernel, trivial, wd_8⟩
theorem mo_M_channel : pb_mok i_M_channel 2 := ⟨wd_1031, by decide +kernel, trivial, wd_8⟩
theorem mo_M_cause : pb_mok i_M_cause 2 := ⟨wd_1035, by decide +kernel, trivial, wd_8⟩
theorem mo_M_ear : pb_mok i_M_ear 2 := ⟨wd_1039, by decide +kernel, trivial, wd_8⟩
theorem mo_M_waiting : pb_mok i_M_waiting 2 := ⟨wd_1043, by decide +kernel, trivial, wd_8⟩
theorem mo_M_given : pb_mok i_M_given 1 := ⟨wd_1047, by decide +kernel, trivial, wd_8⟩
theorem mo_M_phase : pb_mok i_M_phase 1 := ⟨wd_1051, by decide +kernel, trivial, wd_8⟩
end
section
/-! blocks of methods: printed by gen3.py -/
def pb_b_J_compare_19 (x : pb_E) (n0 : Nat) (Q : pb_P) : pb_K := pb_iret Q
set_option maxRecDepth 20000 in
set_option maxHeartbeats 2000000 in
theorem pb_s_J_compare_19 (x : pb_E) (n0 : Nat) (Q : pb_P) : pb_le (pb_b_J_compare_19 x n0 Q) (pb_WJ x i_J_compare n0 Q 19) := pb_s_iret (pc := 19) (by decide +kernel) rfl rfl
def pb_b_J_compare_18 (x : pb_E) (n0 : Nat) (Q : pb_P) : pb_K := pb_iconst 1 (pb_b_J_compare_19 x n0 Q)
set_option maxRecDepth 20000 in
set_option maxHeartbeats 2000000 in
theorem pb_s_J_compare_18 (x : pb_E) (n0 : Nat) (Q : pb_P) : pb_le (pb_b_J_compare_18 x n0 Q) (pb_WJ x i_J_compare n0 Q 18) := pb_s_iconst (pc := 18) (z := 1) (by decide +kernel) ⟨by decide, by decide⟩ (pb_s_J_compare_19 x n0 Q)
def pb_b_J_compare_9 (x : pb_E) (n0 : Nat) (Q : pb_P) : pb_K := pb_iload 0 (pb_iload 1 (pb_icmp (fun y z => ¬ y = z) (pb_b_J_compare_18 x n0 Q) (pb_iconst 0 (pb_b_J_compare_19 x n0 Q))))
set_option maxRecDepth 20000 in
set_option maxHeartbeats 2000000 in
theorem pb_s_J_compare_9 (x : pb_E) (n0 : Nat) (Q : pb_P) : pb_le (pb_b_J_compare_9 x n0 Q) (pb_WJ x i_J_compare n0 Q 9) := pb_s_iload_n (pc := 9) (j := 0) (i := 0) (by decide +kernel) rfl (pb_s_iload_n (pc := 10) (j := 1) (i := 1) (by decide +kernel) rfl (pb_s_icmp_ne (pc := 11) (off := 7) (tgt := 18) (by decide +kernel) (by decide) (pb_s_J_compare_18 x n0 Q) (pb_s_iconst (pc := 14) (z := 0) (by decide +kernel) ⟨by decide, by decide⟩ (pb_s_goto (pc := 15) (off := 4) (tgt := 19) (by decide +kernel) (by decide) (pb_s_J_compare_19 x n0 Q)))))
def pb_b_J_compare_0 (x : pb_E) (n0 : Nat) (Q : pb_P) : pb_K := pb_iload 0 (pb_iload 1 (pb_icmp (fun y z => z ≤ y) (pb_b_J_compare_9 x n0 Q) (pb_iconst (-1) (pb_b_J_compare_19 x n0 Q))))
set_option maxRecDepth 20000 in
set_option maxHeartbeats 2000000 in
theorem pb_s_J_compare_0 (x : pb_E) (n0 : Nat) (Q : pb_P) : pb_le (pb_b_J_compare_0 x n0 Q) (pb_WJ x i_J_compare n0 Q 0) := pb_s_iload_n (pc := 0) (j := 0) (i := 0) (by decide +kernel) rfl (pb_s_iload_n (pc := 1) (j := 1) (i := 1) (by decide +kernel) rfl (pb_s_icmp_ge (pc := 2) (off := 7) (tgt := 9) (by decide +kernel) (by decide) (pb_s_J_compare_9 x n0 Q) (pb_s_iconst (pc := 5) (z := -1) (by decide +kernel) ⟨by decide, by decide⟩ (pb_s_goto (pc := 6) (off := 13) (tgt := 19) (by decide +kernel) (by decide) (pb_s_J_compare_19 x n0 Q)))))
theorem pb_m_J_compare {x : pb_E} {n : Nat} {σ : pb_H} {Q : pb_P} {a0 a1 : pb_V} (h : pb_b_J_compare_0 x n Q [some a0, some a1] [] n σ) : pb_MJ x i_J_compare [a0, a1] n σ Q := pb_enter rfl (by decide +kernel) (pb_s_J_compare_0 x n Q _ _ _ _ h)
def pb_b_F_init_0 (x : pb_E) (n0 : Nat) (Q : pb_P) : pb_K := pb_aload 0 (pb_obj (pb_vret Q))
set_option maxRecDepth 20000 in
set_option maxHeartbeats 2000000 in
theorem pb_s_F_init_0 (x : pb_E) (n0 : Nat) (Q : pb_P) : pb_le (pb_b_F_init_0 x n0 Q) (pb_WJ x i_F_init n0 Q 0) := pb_s_aload_n (pc := 0) (j := 0) (i := 0) (by decide +kernel) rfl (pb_s_obj (pc := 1) (idx := 3) (by decide +kernel) wd_43 wd_16 wd_17 (by decide +kernel) (pb_s_vret (pc := 4) (by decide +kernel) rfl rfl))
theorem pb_m_F_init {x : pb_E} {n : Nat} {σ : pb_H} {Q : pb_P} {a0 : pb_V} (h : pb_b_F_init_0 x n Q [some a0] [] n σ) : pb_MJ x i_F_init [a0] n σ Q := pb_enter rfl (by decide +kernel) (pb_s_F_init_0 x n Q _ _ _ _ h)
def pb_b_F_isNumbered_14 (x : pb_E) (n0 : Nat) (Q : pb_P) : pb_K := pb_zret Q
set_option maxRecDepth 20000 in
set_option maxHeartbeats 2000000 in
theorem pb_s_F_isNumbered_14 (x : pb_E) (n0 : Nat) (Q : pb_P) : pb_le (pb_b_F_isNumbered_14 x n0 Q) (pb_WJ x i_F_isNumbered n0 Q 14) := pb_s_zret (pc := 14) (by decide +kernel) rfl rfl
def pb_b_F_isNumbered_13 (x : pb_E) (n0 : Nat) (Q : pb_P) : pb_K := pb_iconst 0 (pb_b_F_isNumbered_14 x n0 Q)
set_option maxRecDepth 20000 in
set_option maxHeartbeats 2000000 in
theorem pb_s_F_isNumbered_13 (x : pb_E) (n0 : Nat) (Q : pb_P) : pb_le (pb_b_F_isNumbered_13 x n0 Q) (pb_WJ x i_F_isNumbered n0 Q 13) := pb_s_iconst (pc := 13) (z := 0) (by decide +kernel) ⟨by decide, by decide⟩ (pb_s_F_isNumbered_14 x n0 Q)
def pb_b_F_isNumbered_0 (x : pb_E) (n0 : Nat) (Q : pb_P) : pb_K := pb_aload 0 (pb_getI 3 301 (pb_iconst 6 (pb_icmp (fun y z => z < y) (pb_b_F_isNumbered_13 x n0 Q) (pb_iconst 1 (pb_b_F_isNumbered_14 x n0 Q)))))
set_option maxRecDepth 20000 in
set_option maxHeartbeats 2000000 in
theorem pb_s_F_isNumbered_0 (x : pb_E) (n0 : Nat) (Q : pb_P) : pb_le (pb_b_F_isNumbered_0 x n0 Q) (pb_WJ x i_F_isNumbered n0 Q 0) := pb_s_aload_n (pc := 0) (j := 0) (i := 0) (by decide +kernel) rfl (pb_s_getI (pc := 1) (idx := 9) (by decide +kernel) fd_3_0 (by decide) wd_44 (pb_s_bipush (pc := 4) (z := 6) (by decide +kernel) ⟨by decide, by decide⟩ (by decide +kernel) (pb_s_icmp_gt (pc := 6) (off := 7) (tgt := 13) (by decide +kernel) (by decide) (pb_s_F_isNumbered_13 x n0 Q) (pb_s_iconst (pc := 9) (z := 1) (by decide +kernel) ⟨by decide, by decide⟩ (pb_s_goto (pc := 10) (off := 4) (tgt := 14) (by decide +kernel) (by decide) (pb_s_F_isNumbered_14 x n0 Q))))))
theorem pb_m_F_isNumbered {x : pb_E} {n : Nat} {σ : pb_H} {Q : pb_P} {a0 : pb_V} (h : pb_b_F_isNumbered_0 x n Q [some a0] [] n σ) : pb_MJ x i_F_isNumbered [a0] n σ Q := pb_enter rfl (by decide +kernel) (pb_s_F_isNumbered_0 x n Q _ _ _ _ h)
def pb_b_F_failsForGood_23 (x : pb_E) (n0 : Nat) (Q : pb_P) : pb_K := pb_zret Q
set_option maxRecDepth 20000 in
set_option maxHeartbeats 2000000 in
theorem pb_s_F_failsForGood_23 (x : pb_E) (n0 : Nat) (Q : pb_P) : pb_le (pb_b_F_failsForGood_23 x n0 Q) (pb_WJ x i_F_failsForGood n0 Q 23) := pb_s_zret (pc := 23) (by decide +kernel) rfl rfl
def pb_b_F_failsForGood_22 (x : pb_E) (n0 : Nat) (Q : pb_P) : pb_K := pb_iconst 0 (pb_b_F_failsForGood_23 x n0 Q)
set_option maxRecDepth 20000 in
set_option maxHeartbeats 2000000 in
theorem pb_s_F_failsForGood_22 (x : pb_E) (n0 : Nat) (Q : pb_P) : pb_le (pb_b_F_failsForGood_22 x n0 Q) (pb_WJ x i_F_failsForGood n0 Q 22) := pb_s_iconst (pc := 22) (z := 0) (by decide +kernel) ⟨by decide, by decide⟩ (pb_s_F_failsForGood_23 x n0 Q)
def pb_b_F_failsForGood_0 (x : pb_E) (n0 : Nat) (Q : pb_P) : pb_K := pb_aload 0 (pb_dup (pb_getI 3 305 (pb_iconst 1 (pb_bin pb_add (pb_putI 3 305 (pb_aload 0 (pb_getI 3 305 (pb_iconst 3 (pb_icmp (fun y z => y < z) (pb_b_F_failsForGood_22 x n0 Q) (pb_iconst 1 (pb_b_F_failsForGood_23 x n0 Q)))))))))))
set_option maxRecDepth 20000 in
set_option maxHeartbeats 2000000 in
theorem pb_s_F_failsForGood_0 (x : pb_E) (n0 : Nat) (Q : pb_P) : pb_le (pb_b_F_failsForGood_0 x n0 Q) (pb_WJ x i_F_failsForGood n0 Q 0) := pb_s_aload_n (pc := 0) (j := 0) (i := 0) (by decide +kernel) rfl (pb_s_dup (pc := 1) (by decide +kernel) (pb_s_getI (pc := 2) (idx := 15) (by decide +kernel) fd_3_4 (by decide) wd_64 (pb_s_iconst (pc := 5) (z := 1) (by decide +kernel) ⟨by decide, by decide⟩ (pb_s_iadd (pc := 6) (by decide +kernel) (pb_s_putI (pc := 7) (idx := 15) (by decide +kernel) fd_3_4 (Or.inl rfl) wd_64 (pb_s_aload_n (pc := 10) (j := 0) (i := 0) (by decide +kernel) rfl (pb_s_getI (pc := 11) (idx := 15) (by decide +kernel) fd_3_4 (by decide) wd_64 (pb_s_iconst (pc := 14) (z := 3) (by decide +kernel) ⟨by decide, by decide⟩ (pb_s_icmp_lt (pc := 15) (off := 7) (tgt := 22) (by decide +kernel) (by decide) (pb_s_F_failsForGood_22 x n0 Q) (pb_s_iconst (pc := 18) (z := 1) (by decide +kernel) ⟨by decide, by decide⟩ (pb_s_goto (pc := 19) (off := 4) (tgt := 23) (by decide +kernel) (by decide) (pb_s_F_failsForGood_23 x n0 Q))))))))))))
theorem pb_m_F_failsForGood {x : pb_E} {n : Nat} {σ : pb_H} {Q : pb_P} {a0 : pb_V} (h : pb_b_F_failsForGood_0 x n Q [some a0] [] n σ) : pb_MJ x i_F_failsForGood [a0] n σ Q := pb_enter rfl (by decide +kernel) (pb_s_F_failsForGood_0 x n Q _ _ _ _ h)
def pb_b_F_compareNumbered_80 (x : pb_E) (n0 : Nat) (Q : pb_P) : pb_K := pb_aload 0 (pb_getI 3 304 (pb_aload 2 (pb_getI 3 304 (pb_sr x i_J_compare 2 (pb_iret Q)))))
set_option maxRecDepth 20000 in
set_option maxHeartbeats 2000000 in
theorem pb_s_F_compareNumbered_80 (x : pb_E) (n0 : Nat) (Q : pb_P) : pb_le (pb_b_F_compareNumbered_80 x n0 Q) (pb_WJ x i_F_compareNumbered n0 Q 80) := pb_s_aload_n (pc := 80) (j := 0) (i := 0) (by decide +kernel) rfl (pb_s_getI (pc := 81) (idx := 30) (by decide +kernel) fd_3_3 (by decide) wd_60 (pb_s_aload_n (pc := 84) (j := 2) (i := 2) (by decide +kernel) rfl (pb_s_getI (pc := 85) (idx := 30) (by decide +kernel) fd_3_3 (by decide) wd_60 (pb_s_Sr (pc := 88) (m' := i_J_compare) (idx := 21) (by decide +kernel) mo_J_compare (by decide +kernel) rfl rfl wd_401 wd_402 (pb_s_iret (pc := 91) (by decide +kernel) rfl rfl)))))
def pb_b_F_compareNumbered_57 (x : pb_E) (n0 : Nat) (Q : pb_P) : pb_K := pb_aload 0 (pb_getI 3 303 (pb_aload 2 (pb_getI 3 303 (pb_icmp (fun y z => y = z) (pb_b_F_compareNumbered_80 x n0 Q) (pb_aload 0 (pb_getI 3 303 (pb_aload 2 (pb_getI 3 303 (pb_sr x i_J_compare 2 (pb_iret Q))))))))))
set_option maxRecDepth 20000 in
set_option maxHeartbeats 2000000 in
theorem pb_s_F_compareNumbered_57 (x : pb_E) (n0 : Nat) (Q : pb_P) : pb_le (pb_b_F_compareNumbered_57 x n0 Q) (pb_WJ x i_F_compareNumbered n0 Q 57) := pb_s_aload_n (pc := 57) (j := 0) (i := 0) (by decide +kernel) rfl (pb_s_getI (pc := 58) (idx := 27) (by decide +kernel) fd_3_2 (by decide) wd_55 (pb_s_aload_n (pc := 61) (j := 2) (i := 2) (by decide +kernel) rfl (pb_s_getI (pc := 62) (idx := 27) (by decide +kernel) fd_3_2 (by decide) wd_55 (pb_s_icmp_eq (pc := 65) (off := 15) (tgt := 80) (by decide +kernel) (by decide) (pb_s_F_compareNumbered_80 x n0 Q) (pb_s_aload_n (pc := 68) (j := 0) (i := 0) (by decide +kernel) rfl (pb_s_getI (pc := 69) (idx := 27) (by decide +kernel) fd_3_2 (by decide) wd_55 (pb_s_aload_n (pc := 72) (j := 2) (i := 2) (by decide +kernel) rfl (pb_s_getI (pc := 73) (idx := 27) (by decide +kernel) fd_3_2 (by decide) wd_55 (pb_s_Sr (pc := 76) (m' := i_J_compare) (idx := 21) (by decide +kernel) mo_J_compare (by decide +kernel) rfl rfl wd_401 wd_402 (pb_s_iret (pc := 79) (by decide +kernel) rfl rfl))))))))))
def pb_b_F_compareNumbered_34 (x : pb_E) (n0 : Nat) (Q : pb_P) : pb_K := pb_aload 0 (pb_getI 3 301 (pb_aload 2 (pb_getI 3 301 (pb_icmp (fun y z => y = z) (pb_b_F_compareNumbered_57 x n0 Q) (pb_aload 0 (pb_getI 3 301 (pb_aload 2 (pb_getI 3 301 (pb_sr x i_J_compare 2 (pb_iret Q))))))))))
set_option maxRecDepth 20000 in
set_option maxHeartbeats 2000000 in
theorem pb_s_F_compareNumbered_34 (x : pb_E) (n0 : Nat) (Q : pb_P) : pb_le (pb_b_F_compareNumbered_34 x n0 Q) (pb_WJ x i_F_compareNumbered n0 Q 34) := pb_s_aload_n (pc := 34) (j := 0) (i := 0) (by decide +kernel) rfl (pb_s_getI (pc := 35) (idx := 9) (by decide +kernel) fd_3_0 (by decide) wd_44 (pb_s_aload_n (pc := 38) (j := 2) (i := 2) (by decide +kernel) rfl (pb_s_getI (pc := 39) (idx := 9) (by decide +kernel) fd_3_0 (by decide) wd_44 (pb_s_icmp_eq (pc := 42) (off := 15) (tgt := 57) (by decide +kernel) (by decide) (pb_s_F_compareNumbered_57 x n0 Q) (pb_s_aload_n (pc := 45) (j := 0) (i := 0) (by decide +kernel) rfl (pb_s_getI (pc := 46) (idx := 9) (by decide +kernel) fd_3_0 (by decide) wd_44 (pb_s_aload_n (pc := 49) (j := 2) (i := 2) (by decide +kernel) rfl (pb_s_getI (pc := 50) (idx := 9) (by decide +kernel) fd_3_0 (by decide) wd_44 (pb_s_Sr (pc := 53) (m' := i_J_compare) (idx := 21) (by decide +kernel) mo_J_compare (by decide +kernel) rfl rfl wd_401 wd_402 (pb_s_iret (pc := 56) (by decide +kernel) rfl rfl))))))))))
def pb_b_F_compareNumbered_23 (x : pb_E) (n0 : Nat) (Q : pb_P) : pb_K := pb_iload 1 (pb_iload 3 (pb_icmp (fun y z => y = z) (pb_b_F_compareNumbered_34 x n0 Q) (pb_iload 1 (pb_iload 3 (pb_sr x i_J_compare 2 (pb_iret Q))))))
set_option maxRecDepth 20000 in
set_option maxHeartbeats 2000000 in
theorem pb_s_F_compareNumbered_23 (x : pb_E) (n0 : Nat) (Q : pb_P) : pb_le (pb_b_F_compareNumbered_23 x n0 Q) (pb_WJ x i_F_compareNumbered n0 Q 23) := pb_s_iload_n (pc := 23) (j := 1) (i := 1) (by decide +kernel) rfl (pb_s_iload_n (pc := 24) (j := 3) (i := 3) (by decide +kernel) rfl (pb_s_icmp_eq (pc := 25) (off := 9) (tgt := 34) (by decide +kernel) (by decide) (pb_s_F_compareNumbered_34 x n0 Q) (pb_s_iload_n (pc := 28) (j := 1) (i := 1) (by decide +kernel) rfl (pb_s_iload_n (pc := 29) (j := 3) (i := 3) (by decide +kernel) rfl (pb_s_Sr (pc := 30) (m' := i_J_compare) (idx := 21) (by decide +kernel) mo_J_compare (by decide +kernel) rfl rfl wd_401 wd_402 (pb_s_iret (pc := 33) (by decide +kernel) rfl rfl))))))
def pb_b_F_compareNumbered_0 (x : pb_E) (n0 : Nat) (Q : pb_P) : pb_K := pb_aload 0 (pb_getI 3 302 (pb_aload 2 (pb_getI 3 302 (pb_icmp (fun y z => y = z) (pb_b_F_compareNumbered_23 x n0 Q) (pb_aload 0 (pb_getI 3 302 (pb_aload 2 (pb_getI 3 302 (pb_sr x i_J_compare 2 (pb_iret Q))))))))))
set_option maxRecDepth 20000 in
set_option maxHeartbeats 2000000 in
theorem pb_s_F_compareNumbered_0 (x : pb_E) (n0 : Nat) (Q : pb_P) : pb_le (pb_b_F_compareNumbered_0 x n0 Q) (pb_WJ x i_F_compareNumbered n0 Q 0) := pb_s_aload_n (pc := 0) (j := 0) (i := 0) (by decide +kernel) rfl (pb_s_getI (pc := 1) (idx := 18) (by decide +kernel) fd_3_1 (by decide) wd_49 (pb_s_aload_n (pc := 4) (j := 2) (i := 2) (by decide +kernel) rfl (pb_s_getI (pc := 5) (idx := 18) (by decide +kernel) fd_3_1 (by decide) wd_49 (pb_s_icmp_eq (pc := 8) (off := 15) (tgt := 23) (by decide +kernel) (by decide) (pb_s_F_compareNumbered_23 x n0 Q) (pb_s_aload_n (pc := 11) (j := 0) (i := 0) (by decide +kernel) rfl (pb_s_getI (pc := 12) (idx := 18) (by decide +kernel) fd_3_1 (by decide) wd_49 (pb_s_aload_n (pc := 15) (j := 2) (i := 2) (by decide +kernel) rfl (pb_s_getI (pc := 16) (idx := 18) (by decide +kernel) fd_3_1 (by decide) wd_49 (pb_s_Sr (pc := 19) (m' := i_J_compare) (idx := 21) (by decide +kernel) mo_J_compare (by decide +kernel) rfl rfl wd_401 wd_402 (pb_s_iret (pc := 22) (by decide +kernel) rfl rfl))))))))))
theorem pb_m_F_compareNumbered {x : pb_E} {n : Nat} {σ : pb_H} {Q : pb_P} {a0 a1 a2 a3 : pb_V} (h : pb_b_F_compareNumbered_0 x n Q [some a0, some a1, some a2, some a3] [] n σ) : pb_MJ x i_F_compareNumbered [a0, a1, a2, a3] n σ Q := pb_enter rfl (by decide +kernel) (pb_s_F_compareNumbered_0 x n Q _ _ _ _ h)
def pb_b_F_compareLoose_46 (x : pb_E) (n0 : Nat) (Q : pb_P) : pb_K := pb_aload 0 (pb_getI 3 304 (pb_aload 1 (pb_getI 3 304 (pb_sr x i_J_compare 2 (pb_iret Q)))))
set_option maxRecDepth 20000 in
set_option maxHeartbeats 2000000 in
theorem pb_s_F_compareLoose_46 (x : pb_E) (n0 : Nat) (Q : pb_P) : pb_le (pb_b_F_compareLoose_46 x n0 Q) (pb_WJ x i_F_compareLoose n0 Q 46) := pb_s_aload_n (pc := 46) (j := 0) (i := 0) (by decide +kernel) rfl (pb_s_getI (pc := 47) (idx := 30) (by decide +kernel) fd_3_3 (by decide) wd_60 (pb_s_aload_n (pc := 50) (j := 1) (i := 1) (by decide +kernel) rfl (pb_s_getI (pc := 51) (idx := 30) (by decide +kernel) fd_3_3 (by decide) wd_60 (pb_s_Sr (pc := 54) (m' := i_J_compare) (idx := 21) (by decide +kernel) mo_J_compare (by decide +kernel) rfl rfl wd_401 wd_402 (pb_s_iret (pc := 57) (by decide +kernel) rfl rfl)))))
def pb_b_F_compareLoose_23 (x : pb_E) (n0 : Nat) (Q : pb_P) : pb_K := pb_aload 0 (pb_getI 3 302 (pb_aload 1 (pb_getI 3 302 (pb_icmp (fun y z => y = z) (pb_b_F_compareLoose_46 x n0 Q) (pb_aload 0 (pb_getI 3 302 (pb_aload 1 (pb_getI 3 302 (pb_sr x i_J_compare 2 (pb_iret Q))))))))))
set_option maxRecDepth 20000 in
set_option maxHeartbeats 2000000 in
theorem pb_s_F_compareLoose_23 (x : pb_E) (n0 : Nat) (Q : pb_P) : pb_le (pb_b_F_compareLoose_23 x n0 Q) (pb_WJ x i_F_compareLoose n0 Q 23) := pb_s_aload_n (pc := 23) (j := 0) (i := 0) (by decide +kernel) rfl (pb_s_getI (pc := 24) (idx := 18) (by decide +kernel) fd_3_1 (by decide) wd_49 (pb_s_aload_n (pc := 27) (j := 1) (i := 1) (by decide +kernel) rfl (pb_s_getI (pc := 28) (idx := 18) (by decide +kernel) fd_3_1 (by decide) wd_49 (pb_s_icmp_eq (pc := 31) (off := 15) (tgt := 46) (by decide +kernel) (by decide) (pb_s_F_compareLoose_46 x n0 Q) (pb_s_aload_n (pc := 34) (j := 0) (i := 0) (by decide +kernel) rfl (pb_s_getI (pc := 35) (idx := 18) (by decide +kernel) fd_3_1 (by decide) wd_49 (pb_s_aload_n (pc := 38) (j := 1) (i := 1) (by decide +kernel) rfl (pb_s_getI (pc := 39) (idx := 18) (by decide +kernel) fd_3_1 (by decide) wd_49 (pb_s_Sr (pc := 42) (m' := i_J_compare) (idx := 21) (by decide +kernel) mo_J_compare (by decide +kernel) rfl rfl wd_401 wd_402 (pb_s_iret (pc := 45) (by decide +kernel) rfl rfl))))))))))
def pb_b_F_compareLoose_0 (x : pb_E) (n0 : Nat) (Q : pb_P) : pb_K := pb_aload 0 (pb_getI 3 301 (pb_aload 1 (pb_getI 3 301 (pb_icmp (fun y z => y = z) (pb_b_F_compareLoose_23 x n0 Q) (pb_aload 0 (pb_getI 3 301 (pb_aload 1 (pb_getI 3 301 (pb_sr x i_J_compare 2 (pb_iret Q))))))))))
set_option maxRecDepth 20000 in
set_option maxHeartbeats 2000000 in
theorem pb_s_F_compareLoose_0 (x : pb_E) (n0 : Nat) (Q : pb_P) : pb_le (pb_b_F_compareLoose_0 x n0 Q) (pb_WJ x i_F_compareLoose n0 Q 0) := pb_s_aload_n (pc := 0) (j := 0) (i := 0) (by decide +kernel) rfl (pb_s_getI (pc := 1) (idx := 9) (by decide +kernel) fd_3_0 (by decide) wd_44 (pb_s_aload_n (pc := 4) (j := 1) (i := 1) (by decide +kernel) rfl (pb_s_getI (pc := 5) (idx := 9) (by decide +kernel) fd_3_0 (by decide) wd_44 (pb_s_icmp_eq (pc := 8) (off := 15) (tgt := 23) (by decide +kernel) (by decide) (pb_s_F_compareLoose_23 x n0 Q) (pb_s_aload_n (pc := 11) (j := 0) (i := 0) (by decide +kernel) rfl (pb_s_getI (pc := 12) (idx := 9) (by decide +kernel) fd_3_0 (by decide) wd_44 (pb_s_aload_n (pc := 15) (j := 1) (i := 1) (by decide +kernel) rfl (pb_s_getI (pc := 16) (idx := 9) (by decide +kernel) fd_3_0 (by decide) wd_44 (pb_s_Sr (pc := 19) (m' := i_J_compare) (idx := 21) (by decide +kernel) mo_J_compare (by decide +kernel) rfl rfl wd_401 wd_402 (pb_s_iret (pc := 22) (by decide +kernel) rfl rfl))))))))))
theorem pb_m_F_compareLoose {x : pb_E} {n : Nat} {σ : pb_H} {Q : pb_P} {a0 a1 : pb_V} (h : pb_b_F_compareLoose_0 x n Q [some a0, some a1] [] n σ) : pb_MJ x i_F_compareLoose [a0, a1] n σ Q := pb_enter rfl (by decide +kernel) (pb_s_F_compareLoose_0 x n Q _ _ _ _ h)
end
