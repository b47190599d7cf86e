section
-- ===== PART A: goes FIRST, ahead of the names: the tables' words, and 'selects' of the private methods out of them =====
/-- a private method of a class that the tables say can be made, by its rows of tables_1 -/
def lw_okq (q : MethodName × Nat) : Prop := (q.1.cls ≠ "java/lang/invoke/MethodHandle" ∧ q.1.cls ≠ "java/lang/invoke/VarHandle") ∧ Cond.instantiable q.1.cls q.2 ∈ tables_1 ∧ Cond.privateMethod q.1 ∈ tables_1 ∧ Cond.instanceMethod q.1 ∈ tables_1
theorem lw_p0 : lw_okq (⟨"PassiveBuses", "terminalAt", "(II)LPassiveBuses$Terminal;"⟩, 5) := ⟨⟨by decide +kernel, by decide +kernel⟩, List.mem_of_getElem? (i := 11) (by decide +kernel), List.mem_of_getElem? (i := 325) (by decide +kernel), List.mem_of_getElem? (i := 326) (by decide +kernel)⟩
theorem lw_p1 : lw_okq (⟨"PassiveBuses", "stepUp", "(I)I"⟩, 5) := ⟨⟨by decide +kernel, by decide +kernel⟩, List.mem_of_getElem? (i := 11) (by decide +kernel), List.mem_of_getElem? (i := 370) (by decide +kernel), List.mem_of_getElem? (i := 371) (by decide +kernel)⟩
theorem lw_p2 : lw_okq (⟨"PassiveBuses", "receiveUp", "(ILPassiveBuses$Frame;I)V"⟩, 5) := ⟨⟨by decide +kernel, by decide +kernel⟩, List.mem_of_getElem? (i := 11) (by decide +kernel), List.mem_of_getElem? (i := 416) (by decide +kernel), List.mem_of_getElem? (i := 417) (by decide +kernel)⟩
theorem lw_p3 : lw_okq (⟨"PassiveBuses", "onSetup", "(ILPassiveBuses$Frame;)V"⟩, 5) := ⟨⟨by decide +kernel, by decide +kernel⟩, List.mem_of_getElem? (i := 11) (by decide +kernel), List.mem_of_getElem? (i := 425) (by decide +kernel), List.mem_of_getElem? (i := 426) (by decide +kernel)⟩
theorem lw_p4 : lw_okq (⟨"PassiveBuses", "freeChannel", "(II)I"⟩, 5) := ⟨⟨by decide +kernel, by decide +kernel⟩, List.mem_of_getElem? (i := 11) (by decide +kernel), List.mem_of_getElem? (i := 429) (by decide +kernel), List.mem_of_getElem? (i := 430) (by decide +kernel)⟩
theorem lw_p5 : lw_okq (⟨"PassiveBuses", "numberHolding", "(II)I"⟩, 5) := ⟨⟨by decide +kernel, by decide +kernel⟩, List.mem_of_getElem? (i := 11) (by decide +kernel), List.mem_of_getElem? (i := 433) (by decide +kernel), List.mem_of_getElem? (i := 434) (by decide +kernel)⟩
theorem lw_p6 : lw_okq (⟨"PassiveBuses", "refuse", "(ILPassiveBuses$Frame;I)V"⟩, 5) := ⟨⟨by decide +kernel, by decide +kernel⟩, List.mem_of_getElem? (i := 11) (by decide +kernel), List.mem_of_getElem? (i := 449) (by decide +kernel), List.mem_of_getElem? (i := 450) (by decide +kernel)⟩
theorem lw_p7 : lw_okq (⟨"PassiveBuses", "onAlert", "(ILPassiveBuses$Frame;)V"⟩, 5) := ⟨⟨by decide +kernel, by decide +kernel⟩, List.mem_of_getElem? (i := 11) (by decide +kernel), List.mem_of_getElem? (i := 465) (by decide +kernel), List.mem_of_getElem? (i := 466) (by decide +kernel)⟩
theorem lw_p8 : lw_okq (⟨"PassiveBuses", "answerableCall", "(II)LPassiveBuses$Call;"⟩, 5) := ⟨⟨by decide +kernel, by decide +kernel⟩, List.mem_of_getElem? (i := 11) (by decide +kernel), List.mem_of_getElem? (i := 469) (by decide +kernel), List.mem_of_getElem? (i := 470) (by decide +kernel)⟩
theorem lw_p9 : lw_okq (⟨"PassiveBuses", "onConnect", "(ILPassiveBuses$Frame;)V"⟩, 5) := ⟨⟨by decide +kernel, by decide +kernel⟩, List.mem_of_getElem? (i := 11) (by decide +kernel), List.mem_of_getElem? (i := 479) (by decide +kernel), List.mem_of_getElem? (i := 480) (by decide +kernel)⟩
theorem lw_p10 : lw_okq (⟨"PassiveBuses", "hasLeg", "(ILPassiveBuses$Frame;)Z"⟩, 5) := ⟨⟨by decide +kernel, by decide +kernel⟩, List.mem_of_getElem? (i := 11) (by decide +kernel), List.mem_of_getElem? (i := 483) (by decide +kernel), List.mem_of_getElem? (i := 484) (by decide +kernel)⟩
theorem lw_p11 : lw_okq (⟨"PassiveBuses", "leaveLeg", "(ILPassiveBuses$Frame;)V"⟩, 5) := ⟨⟨by decide +kernel, by decide +kernel⟩, List.mem_of_getElem? (i := 11) (by decide +kernel), List.mem_of_getElem? (i := 496) (by decide +kernel), List.mem_of_getElem? (i := 497) (by decide +kernel)⟩
theorem lw_p12 : lw_okq (⟨"PassiveBuses", "callerGone", "(LPassiveBuses$Call;)V"⟩, 5) := ⟨⟨by decide +kernel, by decide +kernel⟩, List.mem_of_getElem? (i := 11) (by decide +kernel), List.mem_of_getElem? (i := 500) (by decide +kernel), List.mem_of_getElem? (i := 501) (by decide +kernel)⟩
theorem lw_p13 : lw_okq (⟨"PassiveBuses", "endCall", "(LPassiveBuses$Call;I)V"⟩, 5) := ⟨⟨by decide +kernel, by decide +kernel⟩, List.mem_of_getElem? (i := 11) (by decide +kernel), List.mem_of_getElem? (i := 504) (by decide +kernel), List.mem_of_getElem? (i := 505) (by decide +kernel)⟩
theorem lw_p14 : lw_okq (⟨"PassiveBuses", "calledGone", "(LPassiveBuses$Call;I)V"⟩, 5) := ⟨⟨by decide +kernel, by decide +kernel⟩, List.mem_of_getElem? (i := 11) (by decide +kernel), List.mem_of_getElem? (i := 508) (by decide +kernel), List.mem_of_getElem? (i := 509) (by decide +kernel)⟩
theorem lw_p15 : lw_okq (⟨"PassiveBuses", "forgetFinishedCalls", "()V"⟩, 5) := ⟨⟨by decide +kernel, by decide +kernel⟩, List.mem_of_getElem? (i := 11) (by decide +kernel), List.mem_of_getElem? (i := 516) (by decide +kernel), List.mem_of_getElem? (i := 517) (by decide +kernel)⟩
def lw_privs_1 : List (MethodName × Nat) := [(⟨"PassiveBuses", "terminalAt", "(II)LPassiveBuses$Terminal;"⟩, 5), (⟨"PassiveBuses", "stepUp", "(I)I"⟩, 5), (⟨"PassiveBuses", "receiveUp", "(ILPassiveBuses$Frame;I)V"⟩, 5), (⟨"PassiveBuses", "onSetup", "(ILPassiveBuses$Frame;)V"⟩, 5), (⟨"PassiveBuses", "freeChannel", "(II)I"⟩, 5), (⟨"PassiveBuses", "numberHolding", "(II)I"⟩, 5), (⟨"PassiveBuses", "refuse", "(ILPassiveBuses$Frame;I)V"⟩, 5), (⟨"PassiveBuses", "onAlert", "(ILPassiveBuses$Frame;)V"⟩, 5), (⟨"PassiveBuses", "answerableCall", "(II)LPassiveBuses$Call;"⟩, 5), (⟨"PassiveBuses", "onConnect", "(ILPassiveBuses$Frame;)V"⟩, 5), (⟨"PassiveBuses", "hasLeg", "(ILPassiveBuses$Frame;)Z"⟩, 5), (⟨"PassiveBuses", "leaveLeg", "(ILPassiveBuses$Frame;)V"⟩, 5), (⟨"PassiveBuses", "callerGone", "(LPassiveBuses$Call;)V"⟩, 5), (⟨"PassiveBuses", "endCall", "(LPassiveBuses$Call;I)V"⟩, 5), (⟨"PassiveBuses", "calledGone", "(LPassiveBuses$Call;I)V"⟩, 5), (⟨"PassiveBuses", "forgetFinishedCalls", "()V"⟩, 5)]
theorem lw_r1 : ∀ q ∈ lw_privs_1, lw_okq q := List.forall_mem_cons.mpr ⟨lw_p0, List.forall_mem_cons.mpr ⟨lw_p1, List.forall_mem_cons.mpr ⟨lw_p2, List.forall_mem_cons.mpr ⟨lw_p3, List.forall_mem_cons.mpr ⟨lw_p4, List.forall_mem_cons.mpr ⟨lw_p5, List.forall_mem_cons.mpr ⟨lw_p6, List.forall_mem_cons.mpr ⟨lw_p7, List.forall_mem_cons.mpr ⟨lw_p8, List.forall_mem_cons.mpr ⟨lw_p9, List.forall_mem_cons.mpr ⟨lw_p10, List.forall_mem_cons.mpr ⟨lw_p11, List.forall_mem_cons.mpr ⟨lw_p12, List.forall_mem_cons.mpr ⟨lw_p13, List.forall_mem_cons.mpr ⟨lw_p14, List.forall_mem_cons.mpr ⟨lw_p15, fun _ h => absurd h List.not_mem_nil⟩⟩⟩⟩⟩⟩⟩⟩⟩⟩⟩⟩⟩⟩⟩⟩
theorem lw_p16 : lw_okq (⟨"PassiveBuses", "stepDown", "(I)I"⟩, 5) := ⟨⟨by decide +kernel, by decide +kernel⟩, List.mem_of_getElem? (i := 11) (by decide +kernel), List.mem_of_getElem? (i := 544) (by decide +kernel), List.mem_of_getElem? (i := 545) (by decide +kernel)⟩
theorem lw_p17 : lw_okq (⟨"PassiveBuses", "dropAddress", "(II)V"⟩, 5) := ⟨⟨by decide +kernel, by decide +kernel⟩, List.mem_of_getElem? (i := 11) (by decide +kernel), List.mem_of_getElem? (i := 571) (by decide +kernel), List.mem_of_getElem? (i := 572) (by decide +kernel)⟩
theorem lw_p18 : lw_okq (⟨"PassiveBuses", "runClocks", "()V"⟩, 5) := ⟨⟨by decide +kernel, by decide +kernel⟩, List.mem_of_getElem? (i := 11) (by decide +kernel), List.mem_of_getElem? (i := 580) (by decide +kernel), List.mem_of_getElem? (i := 581) (by decide +kernel)⟩
theorem lw_p19 : lw_okq (⟨"PassiveBuses", "runAuditClock", "(II)V"⟩, 5) := ⟨⟨by decide +kernel, by decide +kernel⟩, List.mem_of_getElem? (i := 11) (by decide +kernel), List.mem_of_getElem? (i := 588) (by decide +kernel), List.mem_of_getElem? (i := 589) (by decide +kernel)⟩
theorem lw_p20 : lw_okq (⟨"PassiveBuses", "runCallClock", "(LPassiveBuses$Call;)V"⟩, 5) := ⟨⟨by decide +kernel, by decide +kernel⟩, List.mem_of_getElem? (i := 11) (by decide +kernel), List.mem_of_getElem? (i := 592) (by decide +kernel), List.mem_of_getElem? (i := 593) (by decide +kernel)⟩
theorem lw_p21 : lw_okq (⟨"PassiveBuses", "carrySpeech", "()V"⟩, 5) := ⟨⟨by decide +kernel, by decide +kernel⟩, List.mem_of_getElem? (i := 11) (by decide +kernel), List.mem_of_getElem? (i := 596) (by decide +kernel), List.mem_of_getElem? (i := 597) (by decide +kernel)⟩
theorem lw_p22 : lw_okq (⟨"PassiveBuses", "goesDown", "(II)I"⟩, 5) := ⟨⟨by decide +kernel, by decide +kernel⟩, List.mem_of_getElem? (i := 11) (by decide +kernel), List.mem_of_getElem? (i := 600) (by decide +kernel), List.mem_of_getElem? (i := 601) (by decide +kernel)⟩
theorem lw_p23 : lw_okq (⟨"PassiveBusesModel", "nothing", "(I)V"⟩, 50) := ⟨⟨by decide +kernel, by decide +kernel⟩, List.mem_of_getElem? (i := 656) (by decide +kernel), List.mem_of_getElem? (i := 821) (by decide +kernel), List.mem_of_getElem? (i := 822) (by decide +kernel)⟩
theorem lw_p24 : lw_okq (⟨"PassiveBusesModel", "up", "(IIII)V"⟩, 50) := ⟨⟨by decide +kernel, by decide +kernel⟩, List.mem_of_getElem? (i := 656) (by decide +kernel), List.mem_of_getElem? (i := 825) (by decide +kernel), List.mem_of_getElem? (i := 826) (by decide +kernel)⟩
theorem lw_p25 : lw_okq (⟨"PassiveBusesModel", "at", "(II)I"⟩, 50) := ⟨⟨by decide +kernel, by decide +kernel⟩, List.mem_of_getElem? (i := 656) (by decide +kernel), List.mem_of_getElem? (i := 833) (by decide +kernel), List.mem_of_getElem? (i := 834) (by decide +kernel)⟩
theorem lw_p26 : lw_okq (⟨"PassiveBusesModel", "down", "(IIIII)V"⟩, 50) := ⟨⟨by decide +kernel, by decide +kernel⟩, List.mem_of_getElem? (i := 656) (by decide +kernel), List.mem_of_getElem? (i := 861) (by decide +kernel), List.mem_of_getElem? (i := 862) (by decide +kernel)⟩
theorem lw_p27 : lw_okq (⟨"PassiveBusesModel", "open", "(I)Z"⟩, 50) := ⟨⟨by decide +kernel, by decide +kernel⟩, List.mem_of_getElem? (i := 656) (by decide +kernel), List.mem_of_getElem? (i := 869) (by decide +kernel), List.mem_of_getElem? (i := 870) (by decide +kernel)⟩
theorem lw_p28 : lw_okq (⟨"PassiveBusesModel", "upStep", "(I)V"⟩, 50) := ⟨⟨by decide +kernel, by decide +kernel⟩, List.mem_of_getElem? (i := 656) (by decide +kernel), List.mem_of_getElem? (i := 877) (by decide +kernel), List.mem_of_getElem? (i := 878) (by decide +kernel)⟩
theorem lw_p29 : lw_okq (⟨"PassiveBusesModel", "contention", "(I)I"⟩, 50) := ⟨⟨by decide +kernel, by decide +kernel⟩, List.mem_of_getElem? (i := 656) (by decide +kernel), List.mem_of_getElem? (i := 881) (by decide +kernel), List.mem_of_getElem? (i := 882) (by decide +kernel)⟩
theorem lw_p30 : lw_okq (⟨"PassiveBusesModel", "compared", "(II)I"⟩, 50) := ⟨⟨by decide +kernel, by decide +kernel⟩, List.mem_of_getElem? (i := 656) (by decide +kernel), List.mem_of_getElem? (i := 885) (by decide +kernel), List.mem_of_getElem? (i := 886) (by decide +kernel)⟩
theorem lw_p31 : lw_okq (⟨"PassiveBusesModel", "requested", "(II)V"⟩, 50) := ⟨⟨by decide +kernel, by decide +kernel⟩, List.mem_of_getElem? (i := 656) (by decide +kernel), List.mem_of_getElem? (i := 892) (by decide +kernel), List.mem_of_getElem? (i := 893) (by decide +kernel)⟩
def lw_privs_2 : List (MethodName × Nat) := [(⟨"PassiveBuses", "stepDown", "(I)I"⟩, 5), (⟨"PassiveBuses", "dropAddress", "(II)V"⟩, 5), (⟨"PassiveBuses", "runClocks", "()V"⟩, 5), (⟨"PassiveBuses", "runAuditClock", "(II)V"⟩, 5), (⟨"PassiveBuses", "runCallClock", "(LPassiveBuses$Call;)V"⟩, 5), (⟨"PassiveBuses", "carrySpeech", "()V"⟩, 5), (⟨"PassiveBuses", "goesDown", "(II)I"⟩, 5), (⟨"PassiveBusesModel", "nothing", "(I)V"⟩, 50), (⟨"PassiveBusesModel", "up", "(IIII)V"⟩, 50), (⟨"PassiveBusesModel", "at", "(II)I"⟩, 50), (⟨"PassiveBusesModel", "down", "(IIIII)V"⟩, 50), (⟨"PassiveBusesModel", "open", "(I)Z"⟩, 50), (⟨"PassiveBusesModel", "upStep", "(I)V"⟩, 50), (⟨"PassiveBusesModel", "contention", "(I)I"⟩, 50), (⟨"PassiveBusesModel", "compared", "(II)I"⟩, 50), (⟨"PassiveBusesModel", "requested", "(II)V"⟩, 50)]
theorem lw_r2 : ∀ q ∈ lw_privs_2, lw_okq q := List.forall_mem_cons.mpr ⟨lw_p16, List.forall_mem_cons.mpr ⟨lw_p17, List.forall_mem_cons.mpr ⟨lw_p18, List.forall_mem_cons.mpr ⟨lw_p19, List.forall_mem_cons.mpr ⟨lw_p20, List.forall_mem_cons.mpr ⟨lw_p21, List.forall_mem_cons.mpr ⟨lw_p22, List.forall_mem_cons.mpr ⟨lw_p23, List.forall_mem_cons.mpr ⟨lw_p24, List.forall_mem_cons.mpr ⟨lw_p25, List.forall_mem_cons.mpr ⟨lw_p26, List.forall_mem_cons.mpr ⟨lw_p27, List.forall_mem_cons.mpr ⟨lw_p28, List.forall_mem_cons.mpr ⟨lw_p29, List.forall_mem_cons.mpr ⟨lw_p30, List.forall_mem_cons.mpr ⟨lw_p31, fun _ h => absurd h List.not_mem_nil⟩⟩⟩⟩⟩⟩⟩⟩⟩⟩⟩⟩⟩⟩⟩⟩
theorem lw_p32 : lw_okq (⟨"PassiveBusesModel", "does", "(IIIII)V"⟩, 50) := ⟨⟨by decide +kernel, by decide +kernel⟩, List.mem_of_getElem? (i := 656) (by decide +kernel), List.mem_of_getElem? (i := 896) (by decide +kernel), List.mem_of_getElem? (i := 897) (by decide +kernel)⟩
theorem lw_p33 : lw_okq (⟨"PassiveBusesModel", "setup", "(IIII)V"⟩, 50) := ⟨⟨by decide +kernel, by decide +kernel⟩, List.mem_of_getElem? (i := 656) (by decide +kernel), List.mem_of_getElem? (i := 900) (by decide +kernel), List.mem_of_getElem? (i := 901) (by decide +kernel)⟩
theorem lw_p34 : lw_okq (⟨"PassiveBusesModel", "freeChannel", "(III)I"⟩, 50) := ⟨⟨by decide +kernel, by decide +kernel⟩, List.mem_of_getElem? (i := 656) (by decide +kernel), List.mem_of_getElem? (i := 904) (by decide +kernel), List.mem_of_getElem? (i := 905) (by decide +kernel)⟩
theorem lw_p35 : lw_okq (⟨"PassiveBusesModel", "ended", "(IIII)V"⟩, 50) := ⟨⟨by decide +kernel, by decide +kernel⟩, List.mem_of_getElem? (i := 656) (by decide +kernel), List.mem_of_getElem? (i := 909) (by decide +kernel), List.mem_of_getElem? (i := 910) (by decide +kernel)⟩
theorem lw_p36 : lw_okq (⟨"PassiveBusesModel", "after", "(I)I"⟩, 50) := ⟨⟨by decide +kernel, by decide +kernel⟩, List.mem_of_getElem? (i := 656) (by decide +kernel), List.mem_of_getElem? (i := 913) (by decide +kernel), List.mem_of_getElem? (i := 914) (by decide +kernel)⟩
theorem lw_p37 : lw_okq (⟨"PassiveBusesModel", "isCaller", "(III)Z"⟩, 50) := ⟨⟨by decide +kernel, by decide +kernel⟩, List.mem_of_getElem? (i := 656) (by decide +kernel), List.mem_of_getElem? (i := 917) (by decide +kernel), List.mem_of_getElem? (i := 918) (by decide +kernel)⟩
theorem lw_p38 : lw_okq (⟨"PassiveBusesModel", "isCalled", "(III)Z"⟩, 50) := ⟨⟨by decide +kernel, by decide +kernel⟩, List.mem_of_getElem? (i := 656) (by decide +kernel), List.mem_of_getElem? (i := 921) (by decide +kernel), List.mem_of_getElem? (i := 922) (by decide +kernel)⟩
theorem lw_p39 : lw_okq (⟨"PassiveBusesModel", "gone", "(II)V"⟩, 50) := ⟨⟨by decide +kernel, by decide +kernel⟩, List.mem_of_getElem? (i := 656) (by decide +kernel), List.mem_of_getElem? (i := 925) (by decide +kernel), List.mem_of_getElem? (i := 926) (by decide +kernel)⟩
theorem lw_p40 : lw_okq (⟨"PassiveBusesModel", "ends", "(II)V"⟩, 50) := ⟨⟨by decide +kernel, by decide +kernel⟩, List.mem_of_getElem? (i := 656) (by decide +kernel), List.mem_of_getElem? (i := 929) (by decide +kernel), List.mem_of_getElem? (i := 930) (by decide +kernel)⟩
theorem lw_p41 : lw_okq (⟨"PassiveBusesModel", "leave", "(III)V"⟩, 50) := ⟨⟨by decide +kernel, by decide +kernel⟩, List.mem_of_getElem? (i := 656) (by decide +kernel), List.mem_of_getElem? (i := 933) (by decide +kernel), List.mem_of_getElem? (i := 934) (by decide +kernel)⟩
theorem lw_p42 : lw_okq (⟨"PassiveBusesModel", "ringing", "(I)I"⟩, 50) := ⟨⟨by decide +kernel, by decide +kernel⟩, List.mem_of_getElem? (i := 656) (by decide +kernel), List.mem_of_getElem? (i := 937) (by decide +kernel), List.mem_of_getElem? (i := 938) (by decide +kernel)⟩
theorem lw_p43 : lw_okq (⟨"PassiveBusesModel", "callOf", "(I)I"⟩, 50) := ⟨⟨by decide +kernel, by decide +kernel⟩, List.mem_of_getElem? (i := 656) (by decide +kernel), List.mem_of_getElem? (i := 941) (by decide +kernel), List.mem_of_getElem? (i := 942) (by decide +kernel)⟩
theorem lw_p44 : lw_okq (⟨"PassiveBusesModel", "alerts", "(II)V"⟩, 50) := ⟨⟨by decide +kernel, by decide +kernel⟩, List.mem_of_getElem? (i := 656) (by decide +kernel), List.mem_of_getElem? (i := 945) (by decide +kernel), List.mem_of_getElem? (i := 946) (by decide +kernel)⟩
theorem lw_p45 : lw_okq (⟨"PassiveBusesModel", "connects", "(III)V"⟩, 50) := ⟨⟨by decide +kernel, by decide +kernel⟩, List.mem_of_getElem? (i := 656) (by decide +kernel), List.mem_of_getElem? (i := 949) (by decide +kernel), List.mem_of_getElem? (i := 950) (by decide +kernel)⟩
theorem lw_p46 : lw_okq (⟨"PassiveBusesModel", "callsWith", "(III)Z"⟩, 50) := ⟨⟨by decide +kernel, by decide +kernel⟩, List.mem_of_getElem? (i := 656) (by decide +kernel), List.mem_of_getElem? (i := 953) (by decide +kernel), List.mem_of_getElem? (i := 954) (by decide +kernel)⟩
theorem lw_p47 : lw_okq (⟨"PassiveBusesModel", "left", "(IIZ)V"⟩, 50) := ⟨⟨by decide +kernel, by decide +kernel⟩, List.mem_of_getElem? (i := 656) (by decide +kernel), List.mem_of_getElem? (i := 957) (by decide +kernel), List.mem_of_getElem? (i := 958) (by decide +kernel)⟩
def lw_privs_3 : List (MethodName × Nat) := [(⟨"PassiveBusesModel", "does", "(IIIII)V"⟩, 50), (⟨"PassiveBusesModel", "setup", "(IIII)V"⟩, 50), (⟨"PassiveBusesModel", "freeChannel", "(III)I"⟩, 50), (⟨"PassiveBusesModel", "ended", "(IIII)V"⟩, 50), (⟨"PassiveBusesModel", "after", "(I)I"⟩, 50), (⟨"PassiveBusesModel", "isCaller", "(III)Z"⟩, 50), (⟨"PassiveBusesModel", "isCalled", "(III)Z"⟩, 50), (⟨"PassiveBusesModel", "gone", "(II)V"⟩, 50), (⟨"PassiveBusesModel", "ends", "(II)V"⟩, 50), (⟨"PassiveBusesModel", "leave", "(III)V"⟩, 50), (⟨"PassiveBusesModel", "ringing", "(I)I"⟩, 50), (⟨"PassiveBusesModel", "callOf", "(I)I"⟩, 50), (⟨"PassiveBusesModel", "alerts", "(II)V"⟩, 50), (⟨"PassiveBusesModel", "connects", "(III)V"⟩, 50), (⟨"PassiveBusesModel", "callsWith", "(III)Z"⟩, 50), (⟨"PassiveBusesModel", "left", "(IIZ)V"⟩, 50)]
theorem lw_r3 : ∀ q ∈ lw_privs_3, lw_okq q := List.forall_mem_cons.mpr ⟨lw_p32, List.forall_mem_cons.mpr ⟨lw_p33, List.forall_mem_cons.mpr ⟨lw_p34, List.forall_mem_cons.mpr ⟨lw_p35, List.forall_mem_cons.mpr ⟨lw_p36, List.forall_mem_cons.mpr ⟨lw_p37, List.forall_mem_cons.mpr ⟨lw_p38, List.forall_mem_cons.mpr ⟨lw_p39, List.forall_mem_cons.mpr ⟨lw_p40, List.forall_mem_cons.mpr ⟨lw_p41, List.forall_mem_cons.mpr ⟨lw_p42, List.forall_mem_cons.mpr ⟨lw_p43, List.forall_mem_cons.mpr ⟨lw_p44, List.forall_mem_cons.mpr ⟨lw_p45, List.forall_mem_cons.mpr ⟨lw_p46, List.forall_mem_cons.mpr ⟨lw_p47, fun _ h => absurd h List.not_mem_nil⟩⟩⟩⟩⟩⟩⟩⟩⟩⟩⟩⟩⟩⟩⟩⟩
theorem lw_p48 : lw_okq (⟨"PassiveBusesModel", "upGone", "(II)V"⟩, 50) := ⟨⟨by decide +kernel, by decide +kernel⟩, List.mem_of_getElem? (i := 656) (by decide +kernel), List.mem_of_getElem? (i := 961) (by decide +kernel), List.mem_of_getElem? (i := 962) (by decide +kernel)⟩
theorem lw_p49 : lw_okq (⟨"PassiveBusesModel", "lose", "(I)V"⟩, 50) := ⟨⟨by decide +kernel, by decide +kernel⟩, List.mem_of_getElem? (i := 656) (by decide +kernel), List.mem_of_getElem? (i := 965) (by decide +kernel), List.mem_of_getElem? (i := 966) (by decide +kernel)⟩
theorem lw_p50 : lw_okq (⟨"PassiveBusesModel", "downStep", "(I)V"⟩, 50) := ⟨⟨by decide +kernel, by decide +kernel⟩, List.mem_of_getElem? (i := 656) (by decide +kernel), List.mem_of_getElem? (i := 969) (by decide +kernel), List.mem_of_getElem? (i := 970) (by decide +kernel)⟩
theorem lw_p51 : lw_okq (⟨"PassiveBusesModel", "downGone", "(II)V"⟩, 50) := ⟨⟨by decide +kernel, by decide +kernel⟩, List.mem_of_getElem? (i := 656) (by decide +kernel), List.mem_of_getElem? (i := 973) (by decide +kernel), List.mem_of_getElem? (i := 974) (by decide +kernel)⟩
theorem lw_p52 : lw_okq (⟨"PassiveBusesModel", "hears", "(IIIII)V"⟩, 50) := ⟨⟨by decide +kernel, by decide +kernel⟩, List.mem_of_getElem? (i := 656) (by decide +kernel), List.mem_of_getElem? (i := 977) (by decide +kernel), List.mem_of_getElem? (i := 978) (by decide +kernel)⟩
theorem lw_p53 : lw_okq (⟨"PassiveBusesModel", "told", "(IIII)V"⟩, 50) := ⟨⟨by decide +kernel, by decide +kernel⟩, List.mem_of_getElem? (i := 656) (by decide +kernel), List.mem_of_getElem? (i := 981) (by decide +kernel), List.mem_of_getElem? (i := 982) (by decide +kernel)⟩
theorem lw_p54 : lw_okq (⟨"PassiveBusesModel", "drop", "(II)V"⟩, 50) := ⟨⟨by decide +kernel, by decide +kernel⟩, List.mem_of_getElem? (i := 656) (by decide +kernel), List.mem_of_getElem? (i := 985) (by decide +kernel), List.mem_of_getElem? (i := 986) (by decide +kernel)⟩
theorem lw_p55 : lw_okq (⟨"PassiveBusesModel", "clocks", "()V"⟩, 50) := ⟨⟨by decide +kernel, by decide +kernel⟩, List.mem_of_getElem? (i := 656) (by decide +kernel), List.mem_of_getElem? (i := 989) (by decide +kernel), List.mem_of_getElem? (i := 990) (by decide +kernel)⟩
theorem lw_p56 : lw_okq (⟨"PassiveBusesModel", "retry", "(I)V"⟩, 50) := ⟨⟨by decide +kernel, by decide +kernel⟩, List.mem_of_getElem? (i := 656) (by decide +kernel), List.mem_of_getElem? (i := 993) (by decide +kernel), List.mem_of_getElem? (i := 994) (by decide +kernel)⟩
theorem lw_p57 : lw_okq (⟨"PassiveBusesModel", "audited", "(III)V"⟩, 50) := ⟨⟨by decide +kernel, by decide +kernel⟩, List.mem_of_getElem? (i := 656) (by decide +kernel), List.mem_of_getElem? (i := 997) (by decide +kernel), List.mem_of_getElem? (i := 998) (by decide +kernel)⟩
theorem lw_p58 : lw_okq (⟨"PassiveBusesModel", "late", "(I)V"⟩, 50) := ⟨⟨by decide +kernel, by decide +kernel⟩, List.mem_of_getElem? (i := 656) (by decide +kernel), List.mem_of_getElem? (i := 1001) (by decide +kernel), List.mem_of_getElem? (i := 1002) (by decide +kernel)⟩
theorem lw_p59 : lw_okq (⟨"PassiveBusesModel", "speak", "()V"⟩, 50) := ⟨⟨by decide +kernel, by decide +kernel⟩, List.mem_of_getElem? (i := 656) (by decide +kernel), List.mem_of_getElem? (i := 1005) (by decide +kernel), List.mem_of_getElem? (i := 1006) (by decide +kernel)⟩
theorem lw_p60 : lw_okq (⟨"PassiveBusesModel", "comes", "(II)I"⟩, 50) := ⟨⟨by decide +kernel, by decide +kernel⟩, List.mem_of_getElem? (i := 656) (by decide +kernel), List.mem_of_getElem? (i := 1009) (by decide +kernel), List.mem_of_getElem? (i := 1010) (by decide +kernel)⟩
def lw_privs_4 : List (MethodName × Nat) := [(⟨"PassiveBusesModel", "upGone", "(II)V"⟩, 50), (⟨"PassiveBusesModel", "lose", "(I)V"⟩, 50), (⟨"PassiveBusesModel", "downStep", "(I)V"⟩, 50), (⟨"PassiveBusesModel", "downGone", "(II)V"⟩, 50), (⟨"PassiveBusesModel", "hears", "(IIIII)V"⟩, 50), (⟨"PassiveBusesModel", "told", "(IIII)V"⟩, 50), (⟨"PassiveBusesModel", "drop", "(II)V"⟩, 50), (⟨"PassiveBusesModel", "clocks", "()V"⟩, 50), (⟨"PassiveBusesModel", "retry", "(I)V"⟩, 50), (⟨"PassiveBusesModel", "audited", "(III)V"⟩, 50), (⟨"PassiveBusesModel", "late", "(I)V"⟩, 50), (⟨"PassiveBusesModel", "speak", "()V"⟩, 50), (⟨"PassiveBusesModel", "comes", "(II)I"⟩, 50)]
theorem lw_r4 : ∀ q ∈ lw_privs_4, lw_okq q := List.forall_mem_cons.mpr ⟨lw_p48, List.forall_mem_cons.mpr ⟨lw_p49, List.forall_mem_cons.mpr ⟨lw_p50, List.forall_mem_cons.mpr ⟨lw_p51, List.forall_mem_cons.mpr ⟨lw_p52, List.forall_mem_cons.mpr ⟨lw_p53, List.forall_mem_cons.mpr ⟨lw_p54, List.forall_mem_cons.mpr ⟨lw_p55, List.forall_mem_cons.mpr ⟨lw_p56, List.forall_mem_cons.mpr ⟨lw_p57, List.forall_mem_cons.mpr ⟨lw_p58, List.forall_mem_cons.mpr ⟨lw_p59, List.forall_mem_cons.mpr ⟨lw_p60, fun _ h => absurd h List.not_mem_nil⟩⟩⟩⟩⟩⟩⟩⟩⟩⟩⟩⟩⟩
def lw_privs : List (MethodName × Nat) := lw_privs_1 ++ (lw_privs_2 ++ (lw_privs_3 ++ (lw_privs_4)))
def lw_tbl : List Cond := k2_sels lw_privs ++ tables_1
theorem lw_privs_ok : ∀ q ∈ lw_privs, lw_okq q := by
  show ∀ q ∈ lw_privs_1 ++ (lw_privs_2 ++ (lw_privs_3 ++ (lw_privs_4))), lw_okq q
  exact List.forall_mem_append.mpr ⟨lw_r1, List.forall_mem_append.mpr ⟨lw_r2, List.forall_mem_append.mpr ⟨lw_r3, lw_r4⟩⟩⟩
end
section
/-! tables: printed by gen2.py -/
def pb_T0 : u_T := fun k => match k with
  | 0 => ("PassiveBuses", "buses", "[LPassiveBuses$Bus;", true)
  | 1 => ("PassiveBuses", "calls", "[LPassiveBuses$Call;", true)
  | 2 => ("PassiveBuses", "callCount", "I", false)
  | 3 => ("PassiveBuses", "latestNumber", "I", false)
  | _ => ("PassiveBuses", "ticks", "I", false)
def pb_t0 : Nat → FieldType := fun k => match k with
  | 0 => .array (.object "PassiveBuses$Bus")
  | 1 => .array (.object "PassiveBuses$Call")
  | 2 => .int
  | 3 => .int
  | _ => .int
def pb_T1 : u_T := fun k => match k with
  | 0 => ("PassiveBuses$Bus", "terminals", "[LPassiveBuses$Terminal;", true)
  | 1 => ("PassiveBuses$Bus", "lines", "[LPassiveBuses$Line;", true)
  | 2 => ("PassiveBuses$Bus", "row", "LPassiveBuses$Row;", true)
  | 3 => ("PassiveBuses$Bus", "spoilUp", "I", false)
  | _ => ("PassiveBuses$Bus", "spoilDown", "I", false)
def pb_t1 : Nat → FieldType := fun k => match k with
  | 0 => .array (.object "PassiveBuses$Terminal")
  | 1 => .array (.object "PassiveBuses$Line")
  | 2 => .object "PassiveBuses$Row"
  | 3 => .int
  | _ => .int
def pb_T2 : u_T := fun k => match k with
  | 0 => ("PassiveBuses$Row", "frames", "[LPassiveBuses$Frame;", true)
  | _ => ("PassiveBuses$Row", "size", "I", false)
def pb_t2 : Nat → FieldType := fun k => match k with
  | 0 => .array (.object "PassiveBuses$Frame")
  | _ => .int
def pb_T3 : u_T := fun k => match k with
  | 0 => ("PassiveBuses$Frame", "kind", "I", false)
  | 1 => ("PassiveBuses$Frame", "address", "I", false)
  | 2 => ("PassiveBuses$Frame", "reference", "I", false)
  | 3 => ("PassiveBuses$Frame", "value", "I", false)
  | _ => ("PassiveBuses$Frame", "failures", "I", false)
def pb_t3 : Nat → FieldType := fun k => match k with
  | 0 => .int
  | 1 => .int
  | 2 => .int
  | 3 => .int
  | _ => .int
def pb_T4 : u_T := fun k => match k with
  | 0 => ("PassiveBuses$Terminal", "row", "LPassiveBuses$Row;", true)
  | 1 => ("PassiveBuses$Terminal", "plugged", "Z", false)
  | 2 => ("PassiveBuses$Terminal", "mild", "Z", false)
  | 3 => ("PassiveBuses$Terminal", "sending", "Z", false)
  | 4 => ("PassiveBuses$Terminal", "address", "I", false)
  | 5 => ("PassiveBuses$Terminal", "draw", "I", false)
  | 6 => ("PassiveBuses$Terminal", "clock", "I", false)
  | 7 => ("PassiveBuses$Terminal", "state", "I", false)
  | 8 => ("PassiveBuses$Terminal", "reference", "I", false)
  | 9 => ("PassiveBuses$Terminal", "channel", "I", false)
  | 10 => ("PassiveBuses$Terminal", "cause", "I", false)
  | 11 => ("PassiveBuses$Terminal", "mouth", "I", false)
  | 12 => ("PassiveBuses$Terminal", "ear", "I", false)
  | 13 => ("PassiveBuses$Terminal", "dials", "I", false)
  | 14 => ("PassiveBuses$Terminal", "sendBit", "I", false)
  | _ => ("PassiveBuses$Terminal", "receiveBit", "I", false)
def pb_t4 : Nat → FieldType := fun k => match k with
  | 0 => .object "PassiveBuses$Row"
  | 1 => .boolean
  | 2 => .boolean
  | 3 => .boolean
  | 4 => .int
  | 5 => .int
  | 6 => .int
  | 7 => .int
  | 8 => .int
  | 9 => .int
  | 10 => .int
  | 11 => .int
  | 12 => .int
  | 13 => .int
  | 14 => .int
  | _ => .int
def pb_T5 : u_T := fun k => match k with
  | 0 => ("PassiveBuses$Line", "given", "Z", false)
  | 1 => ("PassiveBuses$Line", "sendBit", "I", false)
  | 2 => ("PassiveBuses$Line", "receiveBit", "I", false)
  | 3 => ("PassiveBuses$Line", "audited", "Z", false)
  | 4 => ("PassiveBuses$Line", "auditClock", "I", false)
  | _ => ("PassiveBuses$Line", "replies", "I", false)
def pb_t5 : Nat → FieldType := fun k => match k with
  | 0 => .boolean
  | 1 => .int
  | 2 => .int
  | 3 => .boolean
  | 4 => .int
  | _ => .int
def pb_T6 : u_T := fun k => match k with
  | 0 => ("PassiveBuses$Call", "legs", "[I", true)
  | 1 => ("PassiveBuses$Call", "number", "I", false)
  | 2 => ("PassiveBuses$Call", "phase", "I", false)
  | 3 => ("PassiveBuses$Call", "clock", "I", false)
  | 4 => ("PassiveBuses$Call", "offeredTwice", "Z", false)
  | 5 => ("PassiveBuses$Call", "callerBus", "I", false)
  | 6 => ("PassiveBuses$Call", "callerAddress", "I", false)
  | 7 => ("PassiveBuses$Call", "callerReference", "I", false)
  | 8 => ("PassiveBuses$Call", "callerChannel", "I", false)
  | 9 => ("PassiveBuses$Call", "callerLeg", "I", false)
  | 10 => ("PassiveBuses$Call", "calledBus", "I", false)
  | 11 => ("PassiveBuses$Call", "calledChannel", "I", false)
  | _ => ("PassiveBuses$Call", "winner", "I", false)
def pb_t6 : Nat → FieldType := fun k => match k with
  | 0 => .array (.int)
  | 1 => .int
  | 2 => .int
  | 3 => .int
  | 4 => .boolean
  | 5 => .int
  | 6 => .int
  | 7 => .int
  | 8 => .int
  | 9 => .int
  | 10 => .int
  | 11 => .int
  | _ => .int
def pb_T7 : u_T := fun k => match k with
  | 0 => ("PassiveBusesModel", "there", "[Z", true)
  | 1 => ("PassiveBusesModel", "address", "[I", true)
  | 2 => ("PassiveBusesModel", "draw", "[I", true)
  | 3 => ("PassiveBusesModel", "mild", "[Z", true)
  | 4 => ("PassiveBusesModel", "state", "[I", true)
  | 5 => ("PassiveBusesModel", "own", "[I", true)
  | 6 => ("PassiveBusesModel", "channel", "[I", true)
  | 7 => ("PassiveBusesModel", "mouth", "[I", true)
  | 8 => ("PassiveBusesModel", "ear", "[I", true)
  | 9 => ("PassiveBusesModel", "kept", "[I", true)
  | 10 => ("PassiveBusesModel", "dials", "[I", true)
  | 11 => ("PassiveBusesModel", "patience", "[I", true)
  | 12 => ("PassiveBusesModel", "sends", "[I", true)
  | 13 => ("PassiveBusesModel", "takes", "[I", true)
  | 14 => ("PassiveBusesModel", "contends", "[Z", true)
  | 15 => ("PassiveBusesModel", "length", "[I", true)
  | 16 => ("PassiveBusesModel", "kind", "[I", true)
  | 17 => ("PassiveBusesModel", "reference", "[I", true)
  | 18 => ("PassiveBusesModel", "value", "[I", true)
  | 19 => ("PassiveBusesModel", "failed", "[I", true)
  | 20 => ("PassiveBusesModel", "rows", "[I", true)
  | 21 => ("PassiveBusesModel", "downKind", "[I", true)
  | 22 => ("PassiveBusesModel", "downTo", "[I", true)
  | 23 => ("PassiveBusesModel", "downReference", "[I", true)
  | 24 => ("PassiveBusesModel", "downValue", "[I", true)
  | 25 => ("PassiveBusesModel", "downFailed", "[I", true)
  | 26 => ("PassiveBusesModel", "given", "[Z", true)
  | 27 => ("PassiveBusesModel", "exchangeSends", "[I", true)
  | 28 => ("PassiveBusesModel", "exchangeTakes", "[I", true)
  | 29 => ("PassiveBusesModel", "auditClock", "[I", true)
  | 30 => ("PassiveBusesModel", "auditCount", "[I", true)
  | 31 => ("PassiveBusesModel", "spoilUp", "[I", true)
  | 32 => ("PassiveBusesModel", "spoilDown", "[I", true)
  | 33 => ("PassiveBusesModel", "number", "[I", true)
  | 34 => ("PassiveBusesModel", "caller", "[I", true)
  | 35 => ("PassiveBusesModel", "callerBus", "[I", true)
  | 36 => ("PassiveBusesModel", "callerAddress", "[I", true)
  | 37 => ("PassiveBusesModel", "callerReference", "[I", true)
  | 38 => ("PassiveBusesModel", "callerChannel", "[I", true)
  | 39 => ("PassiveBusesModel", "calledBus", "[I", true)
  | 40 => ("PassiveBusesModel", "calledChannel", "[I", true)
  | 41 => ("PassiveBusesModel", "phase", "[I", true)
  | 42 => ("PassiveBusesModel", "clock", "[I", true)
  | 43 => ("PassiveBusesModel", "again", "[Z", true)
  | 44 => ("PassiveBusesModel", "winner", "[I", true)
  | 45 => ("PassiveBusesModel", "leg", "[I", true)
  | 46 => ("PassiveBusesModel", "numbers", "I", false)
  | 47 => ("PassiveBusesModel", "speech", "[I", true)
  | 48 => ("PassiveBusesModel", "ticks", "I", false)
  | _ => ("PassiveBusesModel", "sent", "I", false)
def pb_t7 : Nat → FieldType := fun k => match k with
  | 0 => .array (.boolean)
  | 1 => .array (.int)
  | 2 => .array (.int)
  | 3 => .array (.boolean)
  | 4 => .array (.int)
  | 5 => .array (.int)
  | 6 => .array (.int)
  | 7 => .array (.int)
  | 8 => .array (.int)
  | 9 => .array (.int)
  | 10 => .array (.int)
  | 11 => .array (.int)
  | 12 => .array (.int)
  | 13 => .array (.int)
  | 14 => .array (.boolean)
  | 15 => .array (.int)
  | 16 => .array (.int)
  | 17 => .array (.int)
  | 18 => .array (.int)
  | 19 => .array (.int)
  | 20 => .array (.int)
  | 21 => .array (.int)
  | 22 => .array (.int)
  | 23 => .array (.int)
  | 24 => .array (.int)
  | 25 => .array (.int)
  | 26 => .array (.boolean)
  | 27 => .array (.int)
  | 28 => .array (.int)
  | 29 => .array (.int)
  | 30 => .array (.int)
  | 31 => .array (.int)
  | 32 => .array (.int)
  | 33 => .array (.int)
  | 34 => .array (.int)
  | 35 => .array (.int)
  | 36 => .array (.int)
  | 37 => .array (.int)
  | 38 => .array (.int)
  | 39 => .array (.int)
  | 40 => .array (.int)
  | 41 => .array (.int)
  | 42 => .array (.int)
  | 43 => .array (.boolean)
  | 44 => .array (.int)
  | 45 => .array (.int)
  | 46 => .int
  | 47 => .array (.int)
  | 48 => .int
  | _ => .int
def pb_cl : List vw_C := [("PassiveBuses", pb_T0, 5), ("PassiveBuses$Bus", pb_T1, 5), ("PassiveBuses$Row", pb_T2, 2), ("PassiveBuses$Frame", pb_T3, 5), ("PassiveBuses$Terminal", pb_T4, 16), ("PassiveBuses$Line", pb_T5, 6), ("PassiveBuses$Call", pb_T6, 13), ("PassiveBusesModel", pb_T7, 50)]
def pb_N (ci : Nat) : Nat := [5, 5, 2, 5, 16, 6, 13, 50].getD ci 0
def pb_ftl : List (List Nat) := [[2, 2, 0, 0, 0], [2, 2, 2, 0, 0], [2, 0], [0, 0, 0, 0, 0], [2, 1, 1, 1, 0, 0, 0, 0, 0, 0, 0, 0, 0, 0, 0, 0], [1, 0, 0, 1, 0, 0], [2, 0, 0, 0, 1, 0, 0, 0, 0, 0, 0, 0, 0], [2, 2, 2, 2, 2, 2, 2, 2, 2, 2, 2, 2, 2, 2, 2, 2, 2, 2, 2, 2, 2, 2, 2, 2, 2, 2, 2, 2, 2, 2, 2, 2, 2, 2, 2, 2, 2, 2, 2, 2, 2, 2, 2, 2, 2, 2, 0, 2, 0, 0]]
def pb_ft (ci k : Nat) : Nat := (pb_ftl.getD ci []).getD k 0
def pb_df (f : Nat) : Int := if pb_ft ((f - 1) / 100) ((f - 1) % 100) = 2 then -1 else 0
def pb_tys (dA : Nat → ClassId) : List (ClassId × FieldType) := [(dA 0, .int), (dA 1, .boolean), (dA 2, .object "PassiveBuses$Bus"), (dA 3, .object "PassiveBuses$Call"), (dA 4, .object "PassiveBuses$Terminal"), (dA 5, .object "PassiveBuses$Line"), (dA 6, .object "PassiveBuses$Frame")]
def pb_lay : List (Nat × Nat) := [(0, 0), (102, 2), (103, 4), (1, 0), (104, 4), (105, 4), (2, 0), (106, 24), (3, 0), (3, 0), (3, 0), (3, 0), (3, 0), (3, 0), (3, 0), (3, 0), (3, 0), (3, 0), (3, 0), (3, 0), (3, 0), (3, 0), (3, 0), (3, 0), (3, 0), (3, 0), (3, 0), (3, 0), (3, 0), (3, 0), (3, 0), (3, 0), (4, 0), (2, 0), (106, 8), (3, 0), (3, 0), (3, 0), (3, 0), (3, 0), (3, 0), (3, 0), (3, 0), (4, 0), (2, 0), (106, 8), (3, 0), (3, 0), (3, 0), (3, 0), (3, 0), (3, 0), (3, 0), (3, 0), (4, 0), (2, 0), (106, 8), (3, 0), (3, 0), (3, 0), (3, 0), (3, 0), (3, 0), (3, 0), (3, 0), (4, 0), (2, 0), (106, 8), (3, 0), (3, 0), (3, 0), (3, 0), (3, 0), (3, 0), (3, 0), (3, 0), (5, 0), (5, 0), (5, 0), (5, 0), (1, 0), (104, 4), (105, 4), (2, 0), (106, 24), (3, 0), (3, 0), (3, 0), (3, 0), (3, 0), (3, 0), (3, 0), (3, 0), (3, 0), (3, 0), (3, 0), (3, 0), (3, 0), (3, 0), (3, 0), (3, 0), (3, 0), (3, 0), (3, 0), (3, 0), (3, 0), (3, 0), (3, 0), (3, 0), (4, 0), (2, 0), (106, 8), (3, 0), (3, 0), (3, 0), (3, 0), (3, 0), (3, 0), (3, 0), (3, 0), (4, 0), (2, 0), (106, 8), (3, 0), (3, 0), (3, 0), (3, 0), (3, 0), (3, 0), (3, 0), (3, 0), (4, 0), (2, 0), (106, 8), (3, 0), (3, 0), (3, 0), (3, 0), (3, 0), (3, 0), (3, 0), (3, 0), (4, 0), (2, 0), (106, 8), (3, 0), (3, 0), (3, 0), (3, 0), (3, 0), (3, 0), (3, 0), (3, 0), (5, 0), (5, 0), (5, 0), (5, 0), (6, 0), (100, 4), (6, 0), (100, 4), (6, 0), (100, 4), (6, 0), (100, 4), (7, 0), (101, 8), (100, 8), (100, 8), (101, 8), (100, 8), (100, 8), (100, 8), (100, 8), (100, 8), (100, 8), (100, 8), (100, 8), (100, 8), (100, 8), (101, 8), (100, 8), (100, 64), (100, 64), (100, 64), (100, 64), (100, 2), (100, 48), (100, 48), (100, 48), (100, 48), (100, 48), (101, 8), (100, 8), (100, 8), (100, 8), (100, 8), (100, 2), (100, 2), (100, 4), (100, 4), (100, 4), (100, 4), (100, 4), (100, 4), (100, 4), (100, 4), (100, 4), (100, 4), (101, 4), (100, 4), (100, 16), (100, 4)]
def pb_kd (p : Int) : Nat := (pb_lay.getD p.toNat (999, 0)).1
def pb_ln (p : Int) : Int := (pb_lay.getD p.toNat (999, 0)).2
def pb_nest : List (String × Nat × MethodName × String) := [("PassiveBuses$Row", 19, ⟨"PassiveBuses$Frame", "<init>", "()V"⟩, "PassiveBuses"), ("PassiveBuses$Bus", 39, ⟨"PassiveBuses$Terminal", "<init>", "()V"⟩, "PassiveBuses"), ("PassiveBuses$Bus", 40, ⟨"PassiveBuses$Line", "<init>", "()V"⟩, "PassiveBuses"), ("PassiveBuses", 32, ⟨"PassiveBuses$Call", "<init>", "()V"⟩, "PassiveBuses")]
def pb_aos : List String := ["PassiveBuses$Bus", "PassiveBuses$Call", "PassiveBuses$Terminal", "PassiveBuses$Line", "PassiveBuses$Frame"]
def pb_ALL : List Cond := lw_tbl.filter goodWord
def pb_M : List (MethodName × ByteArray × Nat × Option FieldType × Nat × Nat × Nat) := [
  (⟨"java/lang/Integer", "compare", "(II)I"⟩, prog_10_method_40_code, 2, some .int, 0, 0, 0),
  (⟨"PassiveBuses", "<init>", "()V"⟩, prog_1_method_1_code, 2, none, 4, 164, 103),
  (⟨"PassiveBuses", "plug", "(III)Z"⟩, prog_1_method_2_code, 5, some .boolean, 3, 0, 67),
  (⟨"PassiveBuses", "unplug", "(II)Z"⟩, prog_1_method_3_code, 4, some .boolean, 3, 0, 64),
  (⟨"PassiveBuses", "dial", "(III)Z"⟩, prog_1_method_4_code, 5, some .boolean, 3, 0, 64),
  (⟨"PassiveBuses", "answer", "(II)Z"⟩, prog_1_method_5_code, 4, some .boolean, 3, 0, 64),
  (⟨"PassiveBuses", "hang", "(II)Z"⟩, prog_1_method_6_code, 4, some .boolean, 3, 0, 64),
  (⟨"PassiveBuses", "say", "(III)Z"⟩, prog_1_method_7_code, 5, some .boolean, 3, 0, 64),
  (⟨"PassiveBuses", "spoil", "(IZI)Z"⟩, prog_1_method_8_code, 4, some .boolean, 1, 0, 20),
  (⟨"PassiveBuses", "audit", "(II)Z"⟩, prog_1_method_9_code, 4, some .boolean, 1, 0, 25),
  (⟨"PassiveBuses", "run", "(I)I"⟩, prog_1_method_10_code, 5, some .int, 7, 0, 166),
  (⟨"PassiveBuses", "time", "()I"⟩, prog_1_method_11_code, 1, some .int, 0, 0, 0),
  (⟨"PassiveBuses", "state", "(II)I"⟩, prog_1_method_12_code, 4, some .int, 3, 0, 64),
  (⟨"PassiveBuses", "address", "(II)I"⟩, prog_1_method_13_code, 4, some .int, 3, 0, 64),
  (⟨"PassiveBuses", "reference", "(II)I"⟩, prog_1_method_14_code, 4, some .int, 3, 0, 64),
  (⟨"PassiveBuses", "channel", "(II)I"⟩, prog_1_method_15_code, 4, some .int, 3, 0, 64),
  (⟨"PassiveBuses", "cause", "(II)I"⟩, prog_1_method_16_code, 4, some .int, 3, 0, 64),
  (⟨"PassiveBuses", "ear", "(II)I"⟩, prog_1_method_17_code, 4, some .int, 3, 0, 64),
  (⟨"PassiveBuses", "waiting", "(IZ)I"⟩, prog_1_method_18_code, 3, some .int, 1, 0, 25),
  (⟨"PassiveBuses", "given", "(I)I"⟩, prog_1_method_19_code, 4, some .int, 1, 0, 20),
  (⟨"PassiveBuses", "holder", "(II)I"⟩, prog_1_method_20_code, 3, some .int, 3, 0, 67),
  (⟨"PassiveBuses", "phase", "(I)I"⟩, prog_1_method_21_code, 3, some .int, 0, 0, 0),
  (⟨"PassiveBuses", "isBus", "(I)Z"⟩, prog_1_method_22_code, 1, some .boolean, 0, 0, 0),
  (⟨"PassiveBuses", "isSocket", "(II)Z"⟩, prog_1_method_23_code, 2, some .boolean, 1, 0, 20),
  (⟨"PassiveBuses", "terminalAt", "(II)LPassiveBuses$Terminal;"⟩, prog_1_method_24_code, 4, some (.object "PassiveBuses$Terminal"), 2, 0, 41),
  (⟨"PassiveBuses", "stepUp", "(I)I"⟩, prog_1_method_25_code, 7, some .int, 6, 0, 140),
  (⟨"PassiveBuses", "stepDown", "(I)I"⟩, prog_1_method_26_code, 7, some .int, 5, 0, 112),
  (⟨"PassiveBuses", "receiveUp", "(ILPassiveBuses$Frame;I)V"⟩, prog_1_method_27_code, 5, none, 5, 0, 116),
  (⟨"PassiveBuses", "onSetup", "(ILPassiveBuses$Frame;)V"⟩, prog_1_method_28_code, 7, none, 4, 0, 90),
  (⟨"PassiveBuses", "onAlert", "(ILPassiveBuses$Frame;)V"⟩, prog_1_method_29_code, 4, none, 2, 0, 48),
  (⟨"PassiveBuses", "onConnect", "(ILPassiveBuses$Frame;)V"⟩, prog_1_method_30_code, 5, none, 3, 0, 67),
  (⟨"PassiveBuses", "refuse", "(ILPassiveBuses$Frame;I)V"⟩, prog_1_method_31_code, 4, none, 1, 0, 25),
  (⟨"PassiveBuses", "answerableCall", "(II)LPassiveBuses$Call;"⟩, prog_1_method_32_code, 5, some (.object "PassiveBuses$Call"), 1, 0, 20),
  (⟨"PassiveBuses", "hasLeg", "(ILPassiveBuses$Frame;)Z"⟩, prog_1_method_33_code, 4, some .boolean, 2, 0, 44),
  (⟨"PassiveBuses", "leaveLeg", "(ILPassiveBuses$Frame;)V"⟩, prog_1_method_34_code, 6, none, 3, 0, 72),
  (⟨"PassiveBuses", "callerGone", "(LPassiveBuses$Call;)V"⟩, prog_1_method_35_code, 2, none, 2, 0, 49),
  (⟨"PassiveBuses", "calledGone", "(LPassiveBuses$Call;I)V"⟩, prog_1_method_36_code, 4, none, 2, 0, 49),
  (⟨"PassiveBuses", "endCall", "(LPassiveBuses$Call;I)V"⟩, prog_1_method_37_code, 5, none, 1, 0, 25),
  (⟨"PassiveBuses", "forgetFinishedCalls", "()V"⟩, prog_1_method_38_code, 4, none, 1, 0, 24),
  (⟨"PassiveBuses", "dropAddress", "(II)V"⟩, prog_1_method_39_code, 6, none, 3, 0, 72),
  (⟨"PassiveBuses", "freeChannel", "(II)I"⟩, prog_1_method_40_code, 4, some .int, 3, 0, 67),
  (⟨"PassiveBuses", "numberHolding", "(II)I"⟩, prog_1_method_41_code, 4, some .int, 2, 0, 44),
  (⟨"PassiveBuses", "runClocks", "()V"⟩, prog_1_method_42_code, 6, none, 5, 0, 120),
  (⟨"PassiveBuses", "runAuditClock", "(II)V"⟩, prog_1_method_43_code, 4, none, 4, 0, 97),
  (⟨"PassiveBuses", "runCallClock", "(LPassiveBuses$Call;)V"⟩, prog_1_method_44_code, 2, none, 2, 0, 49),
  (⟨"PassiveBuses", "carrySpeech", "()V"⟩, prog_1_method_45_code, 6, none, 2, 0, 50),
  (⟨"PassiveBuses", "goesDown", "(II)I"⟩, prog_1_method_46_code, 5, some .int, 1, 0, 26),
  (⟨"PassiveBuses$Bus", "<init>", "()V"⟩, prog_2_method_1_code, 2, none, 3, 76, 82),
  (⟨"PassiveBuses$Bus", "lineOf", "(I)LPassiveBuses$Line;"⟩, prog_2_method_2_code, 3, some (.object "PassiveBuses$Line"), 0, 0, 0),
  (⟨"PassiveBuses$Bus", "countTerminalFrames", "()I"⟩, prog_2_method_3_code, 6, some .int, 0, 0, 0),
  (⟨"PassiveBuses$Bus", "hasEagerContender", "()Z"⟩, prog_2_method_4_code, 5, some .boolean, 1, 0, 21),
  (⟨"PassiveBuses$Bus", "contend", "()LPassiveBuses$Terminal;"⟩, prog_2_method_5_code, 7, some (.object "PassiveBuses$Terminal"), 3, 0, 67),
  (⟨"PassiveBuses$Bus", "settleSenders", "(Z)V"⟩, prog_2_method_6_code, 6, none, 4, 0, 87),
  (⟨"PassiveBuses$Bus", "exchangeListens", "(LPassiveBuses$Frame;)Z"⟩, prog_2_method_7_code, 3, some .boolean, 1, 0, 22),
  (⟨"PassiveBuses$Bus", "sendToAll", "(LPassiveBuses$Frame;)V"⟩, prog_2_method_8_code, 6, none, 4, 0, 87),
  (⟨"PassiveBuses$Bus", "sendToAddress", "(LPassiveBuses$Frame;I)Z"⟩, prog_2_method_9_code, 8, some .boolean, 3, 0, 64),
  (⟨"PassiveBuses$Bus", "giveAddress", "(I)V"⟩, prog_2_method_10_code, 4, none, 1, 0, 25),
  (⟨"PassiveBuses$Bus", "comesUp", "(I)I"⟩, prog_2_method_11_code, 7, some .int, 0, 0, 0),
  (⟨"PassiveBuses$Row", "<init>", "(I)V"⟩, prog_6_method_1_code, 3, none, 1, 9, 40),
  (⟨"PassiveBuses$Row", "<init>", "(I)V"⟩, prog_6_method_1_code, 3, none, 1, 25, 40),
  (⟨"PassiveBuses$Row", "put", "(IIII)V"⟩, prog_6_method_2_code, 6, none, 0, 0, 0),
  (⟨"PassiveBuses$Row", "first", "()LPassiveBuses$Frame;"⟩, prog_6_method_3_code, 1, some (.object "PassiveBuses$Frame"), 0, 0, 0),
  (⟨"PassiveBuses$Row", "removeFirst", "()V"⟩, prog_6_method_4_code, 3, none, 0, 0, 0),
  (⟨"PassiveBuses$Row", "removeNumbered", "(I)V"⟩, prog_6_method_5_code, 5, none, 1, 0, 20),
  (⟨"PassiveBuses$Row", "removeAll", "()V"⟩, prog_6_method_6_code, 1, none, 0, 0, 0),
  (⟨"PassiveBuses$Frame", "<init>", "()V"⟩, prog_4_method_1_code, 1, none, 0, 0, 20),
  (⟨"PassiveBuses$Frame", "isNumbered", "()Z"⟩, prog_4_method_2_code, 1, some .boolean, 0, 0, 0),
  (⟨"PassiveBuses$Frame", "failsForGood", "()Z"⟩, prog_4_method_3_code, 1, some .boolean, 0, 0, 0),
  (⟨"PassiveBuses$Frame", "compareNumbered", "(ILPassiveBuses$Frame;I)I"⟩, prog_4_method_4_code, 4, some .int, 1, 0, 21),
  (⟨"PassiveBuses$Frame", "compareLoose", "(LPassiveBuses$Frame;)I"⟩, prog_4_method_5_code, 2, some .int, 1, 0, 21),
  (⟨"PassiveBuses$Terminal", "<init>", "()V"⟩, prog_7_method_1_code, 1, none, 2, 10, 62),
  (⟨"PassiveBuses$Terminal", "plugIn", "(I)V"⟩, prog_7_method_2_code, 2, none, 2, 0, 46),
  (⟨"PassiveBuses$Terminal", "pullOut", "()V"⟩, prog_7_method_3_code, 1, none, 1, 0, 20),
  (⟨"PassiveBuses$Terminal", "startOver", "(I)V"⟩, prog_7_method_4_code, 2, none, 1, 0, 25),
  (⟨"PassiveBuses$Terminal", "startOverWithNextDraw", "()V"⟩, prog_7_method_5_code, 1, none, 2, 0, 46),
  (⟨"PassiveBuses$Terminal", "becomeNull", "()V"⟩, prog_7_method_6_code, 1, none, 0, 0, 0),
  (⟨"PassiveBuses$Terminal", "startCall", "(I)V"⟩, prog_7_method_7_code, 2, none, 1, 0, 25),
  (⟨"PassiveBuses$Terminal", "runClock", "()V"⟩, prog_7_method_8_code, 1, none, 3, 0, 66),
  (⟨"PassiveBuses$Terminal", "contends", "(Z)Z"⟩, prog_7_method_9_code, 2, some .boolean, 0, 0, 0),
  (⟨"PassiveBuses$Terminal", "compareFirst", "(LPassiveBuses$Terminal;)I"⟩, prog_7_method_10_code, 4, some .int, 2, 0, 44),
  (⟨"PassiveBuses$Terminal", "settle", "(Z)V"⟩, prog_7_method_11_code, 2, none, 3, 0, 66),
  (⟨"PassiveBuses$Terminal", "hear", "(LPassiveBuses$Frame;)V"⟩, prog_7_method_12_code, 2, none, 3, 0, 66),
  (⟨"PassiveBuses$Terminal", "receive", "(LPassiveBuses$Frame;I)V"⟩, prog_7_method_13_code, 4, none, 2, 0, 41),
  (⟨"PassiveBuses$Terminal", "follow", "(LPassiveBuses$Frame;)V"⟩, prog_7_method_14_code, 2, none, 1, 0, 20),
  (⟨"PassiveBuses$Line", "<init>", "()V"⟩, prog_5_method_1_code, 1, none, 0, 0, 20),
  (⟨"PassiveBuses$Call", "<init>", "()V"⟩, prog_3_method_1_code, 1, none, 0, 1, 20),
  (⟨"PassiveBuses$Call", "begin", "(III)V"⟩, prog_3_method_2_code, 5, none, 0, 0, 0),
  (⟨"PassiveBuses$Call", "setCaller", "(IIII)V"⟩, prog_3_method_3_code, 5, none, 0, 0, 0),
  (⟨"PassiveBuses$Call", "calledReference", "()I"⟩, prog_3_method_4_code, 1, some .int, 0, 0, 0),
  (⟨"PassiveBuses$Call", "isUnanswered", "()Z"⟩, prog_3_method_5_code, 1, some .boolean, 0, 0, 0),
  (⟨"PassiveBuses$Call", "legOf", "(I)I"⟩, prog_3_method_6_code, 3, some .int, 0, 0, 0),
  (⟨"PassiveBuses$Call", "setLeg", "(II)V"⟩, prog_3_method_7_code, 4, none, 0, 0, 0),
  (⟨"PassiveBuses$Call", "isRinging", "()Z"⟩, prog_3_method_8_code, 5, some .boolean, 0, 0, 0),
  (⟨"PassiveBuses$Call", "hasAnyLeg", "()Z"⟩, prog_3_method_9_code, 5, some .boolean, 0, 0, 0),
  (⟨"PassiveBuses$Call", "isCaller", "(ILPassiveBuses$Frame;)Z"⟩, prog_3_method_10_code, 3, some .boolean, 0, 0, 0),
  (⟨"PassiveBuses$Call", "isCalled", "(ILPassiveBuses$Frame;)Z"⟩, prog_3_method_11_code, 3, some .boolean, 1, 0, 22),
  (⟨"PassiveBuses$Call", "holds", "(II)Z"⟩, prog_3_method_12_code, 3, some .boolean, 1, 0, 22),
  (⟨"PassiveBusesModel", "<init>", "()V"⟩, prog_9_method_1_code, 1, none, 0, 47, 20),
  (⟨"PassiveBusesModel", "isBus", "(I)Z"⟩, prog_9_method_2_code, 1, some .boolean, 0, 0, 0),
  (⟨"PassiveBusesModel", "at", "(II)I"⟩, prog_9_method_3_code, 3, some .int, 1, 0, 20),
  (⟨"PassiveBusesModel", "up", "(IIII)V"⟩, prog_9_method_4_code, 6, none, 0, 0, 0),
  (⟨"PassiveBusesModel", "upGone", "(II)V"⟩, prog_9_method_5_code, 4, none, 0, 0, 0),
  (⟨"PassiveBusesModel", "down", "(IIIII)V"⟩, prog_9_method_6_code, 7, none, 0, 0, 0),
  (⟨"PassiveBusesModel", "downGone", "(II)V"⟩, prog_9_method_7_code, 4, none, 0, 0, 0),
  (⟨"PassiveBusesModel", "plug", "(III)Z"⟩, prog_9_method_8_code, 5, some .boolean, 2, 0, 46),
  (⟨"PassiveBusesModel", "nothing", "(I)V"⟩, prog_9_method_9_code, 2, none, 1, 0, 25),
  (⟨"PassiveBusesModel", "lose", "(I)V"⟩, prog_9_method_10_code, 2, none, 2, 0, 46),
  (⟨"PassiveBusesModel", "unplug", "(II)Z"⟩, prog_9_method_11_code, 4, some .boolean, 2, 0, 42),
  (⟨"PassiveBusesModel", "dial", "(III)Z"⟩, prog_9_method_12_code, 5, some .boolean, 2, 0, 42),
  (⟨"PassiveBusesModel", "answer", "(II)Z"⟩, prog_9_method_13_code, 4, some .boolean, 2, 0, 42),
  (⟨"PassiveBusesModel", "hang", "(II)Z"⟩, prog_9_method_14_code, 4, some .boolean, 2, 0, 42),
  (⟨"PassiveBusesModel", "say", "(III)Z"⟩, prog_9_method_15_code, 5, some .boolean, 2, 0, 42),
  (⟨"PassiveBusesModel", "spoil", "(IZI)Z"⟩, prog_9_method_16_code, 4, some .boolean, 1, 0, 20),
  (⟨"PassiveBusesModel", "audit", "(II)Z"⟩, prog_9_method_17_code, 3, some .boolean, 1, 0, 26),
  (⟨"PassiveBusesModel", "order", "(II)I"⟩, prog_9_method_18_code, 2, some .int, 0, 0, 0),
  (⟨"PassiveBusesModel", "compared", "(II)I"⟩, prog_9_method_19_code, 11, some .int, 1, 0, 21),
  (⟨"PassiveBusesModel", "contention", "(I)I"⟩, prog_9_method_20_code, 5, some .int, 2, 0, 51),
  (⟨"PassiveBusesModel", "upStep", "(I)V"⟩, prog_9_method_21_code, 10, none, 6, 0, 153),
  (⟨"PassiveBusesModel", "left", "(IIZ)V"⟩, prog_9_method_22_code, 4, none, 3, 0, 67),
  (⟨"PassiveBusesModel", "requested", "(II)V"⟩, prog_9_method_23_code, 5, none, 1, 0, 26),
  (⟨"PassiveBusesModel", "downStep", "(I)V"⟩, prog_9_method_24_code, 10, none, 5, 0, 121),
  (⟨"PassiveBusesModel", "hears", "(IIIII)V"⟩, prog_9_method_25_code, 6, none, 3, 0, 67),
  (⟨"PassiveBusesModel", "told", "(IIII)V"⟩, prog_9_method_26_code, 7, none, 1, 0, 25),
  (⟨"PassiveBusesModel", "after", "(I)I"⟩, prog_9_method_27_code, 4, some .int, 0, 0, 0),
  (⟨"PassiveBusesModel", "callOf", "(I)I"⟩, prog_9_method_28_code, 3, some .int, 0, 0, 0),
  (⟨"PassiveBusesModel", "open", "(I)Z"⟩, prog_9_method_29_code, 2, some .boolean, 0, 0, 0),
  (⟨"PassiveBusesModel", "holder", "(II)I"⟩, prog_9_method_30_code, 6, some .int, 1, 0, 21),
  (⟨"PassiveBusesModel", "freeChannel", "(III)I"⟩, prog_9_method_31_code, 5, some .int, 2, 0, 46),
  (⟨"PassiveBusesModel", "ends", "(II)V"⟩, prog_9_method_32_code, 4, none, 2, 0, 49),
  (⟨"PassiveBusesModel", "leave", "(III)V"⟩, prog_9_method_33_code, 4, none, 1, 0, 26),
  (⟨"PassiveBusesModel", "ringing", "(I)I"⟩, prog_9_method_34_code, 4, some .int, 0, 0, 0),
  (⟨"PassiveBusesModel", "gone", "(II)V"⟩, prog_9_method_35_code, 6, none, 3, 0, 72),
  (⟨"PassiveBusesModel", "isCaller", "(III)Z"⟩, prog_9_method_36_code, 4, some .boolean, 0, 0, 0),
  (⟨"PassiveBusesModel", "isCalled", "(III)Z"⟩, prog_9_method_37_code, 4, some .boolean, 0, 0, 0),
  (⟨"PassiveBusesModel", "drop", "(II)V"⟩, prog_9_method_38_code, 5, none, 4, 0, 97),
  (⟨"PassiveBusesModel", "does", "(IIIII)V"⟩, prog_9_method_39_code, 8, none, 5, 0, 126),
  (⟨"PassiveBusesModel", "callsWith", "(III)Z"⟩, prog_9_method_40_code, 6, some .boolean, 1, 0, 23),
  (⟨"PassiveBusesModel", "ended", "(IIII)V"⟩, prog_9_method_41_code, 10, none, 4, 0, 97),
  (⟨"PassiveBusesModel", "setup", "(IIII)V"⟩, prog_9_method_42_code, 10, none, 3, 0, 70),
  (⟨"PassiveBusesModel", "alerts", "(II)V"⟩, prog_9_method_43_code, 3, none, 1, 0, 26),
  (⟨"PassiveBusesModel", "connects", "(III)V"⟩, prog_9_method_44_code, 5, none, 2, 0, 49),
  (⟨"PassiveBusesModel", "clocks", "()V"⟩, prog_9_method_45_code, 3, none, 6, 0, 144),
  (⟨"PassiveBusesModel", "retry", "(I)V"⟩, prog_9_method_46_code, 3, none, 1, 0, 25),
  (⟨"PassiveBusesModel", "audited", "(III)V"⟩, prog_9_method_47_code, 4, none, 5, 0, 121),
  (⟨"PassiveBusesModel", "late", "(I)V"⟩, prog_9_method_48_code, 2, none, 3, 0, 72),
  (⟨"PassiveBusesModel", "comes", "(II)I"⟩, prog_9_method_49_code, 5, some .int, 0, 0, 0),
  (⟨"PassiveBusesModel", "speak", "()V"⟩, prog_9_method_50_code, 3, none, 1, 0, 24),
  (⟨"PassiveBusesModel", "run", "(I)I"⟩, prog_9_method_51_code, 4, some .int, 7, 0, 182),
  (⟨"PassiveBusesModel", "time", "()I"⟩, prog_9_method_52_code, 1, some .int, 0, 0, 0),
  (⟨"PassiveBusesModel", "state", "(II)I"⟩, prog_9_method_53_code, 4, some .int, 2, 0, 42),
  (⟨"PassiveBusesModel", "address", "(II)I"⟩, prog_9_method_54_code, 4, some .int, 2, 0, 42),
  (⟨"PassiveBusesModel", "reference", "(II)I"⟩, prog_9_method_55_code, 4, some .int, 2, 0, 42),
  (⟨"PassiveBusesModel", "channel", "(II)I"⟩, prog_9_method_56_code, 4, some .int, 2, 0, 42),
  (⟨"PassiveBusesModel", "cause", "(II)I"⟩, prog_9_method_57_code, 4, some .int, 2, 0, 42),
  (⟨"PassiveBusesModel", "ear", "(II)I"⟩, prog_9_method_58_code, 4, some .int, 2, 0, 42),
  (⟨"PassiveBusesModel", "waiting", "(IZ)I"⟩, prog_9_method_59_code, 5, some .int, 1, 0, 20),
  (⟨"PassiveBusesModel", "given", "(I)I"⟩, prog_9_method_60_code, 4, some .int, 1, 0, 20),
  (⟨"PassiveBusesModel", "phase", "(I)I"⟩, prog_9_method_61_code, 3, some .int, 1, 0, 22),
  (⟨"PassiveBusesLaw", "law", "([I)Z"⟩, code, 4, some .boolean, 8, 213, 205)]
def pb_M0 : MethodName × ByteArray × Nat × Option FieldType × Nat × Nat × Nat := (⟨"", "", ""⟩, ⟨#[]⟩, 0, none, 0, 0, 0)
abbrev i_J_compare : Nat := 0
abbrev i_P_init : Nat := 1
abbrev i_P_plug : Nat := 2
abbrev i_P_unplug : Nat := 3
abbrev i_P_dial : Nat := 4
abbrev i_P_answer : Nat := 5
abbrev i_P_hang : Nat := 6
abbrev i_P_say : Nat := 7
abbrev i_P_spoil : Nat := 8
abbrev i_P_audit : Nat := 9
abbrev i_P_run : Nat := 10
abbrev i_P_time : Nat := 11
abbrev i_P_state : Nat := 12
abbrev i_P_address : Nat := 13
abbrev i_P_reference : Nat := 14
abbrev i_P_channel : Nat := 15
abbrev i_P_cause : Nat := 16
abbrev i_P_ear : Nat := 17
abbrev i_P_waiting : Nat := 18
abbrev i_P_given : Nat := 19
abbrev i_P_holder : Nat := 20
abbrev i_P_phase : Nat := 21
abbrev i_P_isBus : Nat := 22
abbrev i_P_isSocket : Nat := 23
abbrev i_P_terminalAt : Nat := 24
abbrev i_P_stepUp : Nat := 25
abbrev i_P_stepDown : Nat := 26
abbrev i_P_receiveUp : Nat := 27
abbrev i_P_onSetup : Nat := 28
abbrev i_P_onAlert : Nat := 29
abbrev i_P_onConnect : Nat := 30
abbrev i_P_refuse : Nat := 31
abbrev i_P_answerableCall : Nat := 32
abbrev i_P_hasLeg : Nat := 33
abbrev i_P_leaveLeg : Nat := 34
abbrev i_P_callerGone : Nat := 35
abbrev i_P_calledGone : Nat := 36
abbrev i_P_endCall : Nat := 37
abbrev i_P_forgetFinishedCalls : Nat := 38
abbrev i_P_dropAddress : Nat := 39
abbrev i_P_freeChannel : Nat := 40
abbrev i_P_numberHolding : Nat := 41
abbrev i_P_runClocks : Nat := 42
abbrev i_P_runAuditClock : Nat := 43
abbrev i_P_runCallClock : Nat := 44
abbrev i_P_carrySpeech : Nat := 45
abbrev i_P_goesDown : Nat := 46
abbrev i_B_init : Nat := 47
abbrev i_B_lineOf : Nat := 48
abbrev i_B_countTerminalFrames : Nat := 49
abbrev i_B_hasEagerContender : Nat := 50
abbrev i_B_contend : Nat := 51
abbrev i_B_settleSenders : Nat := 52
abbrev i_B_exchangeListens : Nat := 53
abbrev i_B_sendToAll : Nat := 54
abbrev i_B_sendToAddress : Nat := 55
abbrev i_B_giveAddress : Nat := 56
abbrev i_B_comesUp : Nat := 57
abbrev i_R_init8 : Nat := 58
abbrev i_R_init24 : Nat := 59
abbrev i_R_put : Nat := 60
abbrev i_R_first : Nat := 61
abbrev i_R_removeFirst : Nat := 62
abbrev i_R_removeNumbered : Nat := 63
abbrev i_R_removeAll : Nat := 64
abbrev i_F_init : Nat := 65
abbrev i_F_isNumbered : Nat := 66
abbrev i_F_failsForGood : Nat := 67
abbrev i_F_compareNumbered : Nat := 68
abbrev i_F_compareLoose : Nat := 69
abbrev i_T_init : Nat := 70
abbrev i_T_plugIn : Nat := 71
abbrev i_T_pullOut : Nat := 72
abbrev i_T_startOver : Nat := 73
abbrev i_T_startOverWithNextDraw : Nat := 74
abbrev i_T_becomeNull : Nat := 75
abbrev i_T_startCall : Nat := 76
abbrev i_T_runClock : Nat := 77
abbrev i_T_contends : Nat := 78
abbrev i_T_compareFirst : Nat := 79
abbrev i_T_settle : Nat := 80
abbrev i_T_hear : Nat := 81
abbrev i_T_receive : Nat := 82
abbrev i_T_follow : Nat := 83
abbrev i_L_init : Nat := 84
abbrev i_C_init : Nat := 85
abbrev i_C_begin : Nat := 86
abbrev i_C_setCaller : Nat := 87
abbrev i_C_calledReference : Nat := 88
abbrev i_C_isUnanswered : Nat := 89
abbrev i_C_legOf : Nat := 90
abbrev i_C_setLeg : Nat := 91
abbrev i_C_isRinging : Nat := 92
abbrev i_C_hasAnyLeg : Nat := 93
abbrev i_C_isCaller : Nat := 94
abbrev i_C_isCalled : Nat := 95
abbrev i_C_holds : Nat := 96
abbrev i_M_init : Nat := 97
abbrev i_M_isBus : Nat := 98
abbrev i_M_at : Nat := 99
abbrev i_M_up : Nat := 100
abbrev i_M_upGone : Nat := 101
abbrev i_M_down : Nat := 102
abbrev i_M_downGone : Nat := 103
abbrev i_M_plug : Nat := 104
abbrev i_M_nothing : Nat := 105
abbrev i_M_lose : Nat := 106
abbrev i_M_unplug : Nat := 107
abbrev i_M_dial : Nat := 108
abbrev i_M_answer : Nat := 109
abbrev i_M_hang : Nat := 110
abbrev i_M_say : Nat := 111
abbrev i_M_spoil : Nat := 112
abbrev i_M_audit : Nat := 113
abbrev i_M_order : Nat := 114
abbrev i_M_compared : Nat := 115
abbrev i_M_contention : Nat := 116
abbrev i_M_upStep : Nat := 117
abbrev i_M_left : Nat := 118
abbrev i_M_requested : Nat := 119
abbrev i_M_downStep : Nat := 120
abbrev i_M_hears : Nat := 121
abbrev i_M_told : Nat := 122
abbrev i_M_after : Nat := 123
abbrev i_M_callOf : Nat := 124
abbrev i_M_open : Nat := 125
abbrev i_M_holder : Nat := 126
abbrev i_M_freeChannel : Nat := 127
abbrev i_M_ends : Nat := 128
abbrev i_M_leave : Nat := 129
abbrev i_M_ringing : Nat := 130
abbrev i_M_gone : Nat := 131
abbrev i_M_isCaller : Nat := 132
abbrev i_M_isCalled : Nat := 133
abbrev i_M_drop : Nat := 134
abbrev i_M_does : Nat := 135
abbrev i_M_callsWith : Nat := 136
abbrev i_M_ended : Nat := 137
abbrev i_M_setup : Nat := 138
abbrev i_M_alerts : Nat := 139
abbrev i_M_connects : Nat := 140
abbrev i_M_clocks : Nat := 141
abbrev i_M_retry : Nat := 142
abbrev i_M_audited : Nat := 143
abbrev i_M_late : Nat := 144
abbrev i_M_comes : Nat := 145
abbrev i_M_speak : Nat := 146
abbrev i_M_run : Nat := 147
abbrev i_M_time : Nat := 148
abbrev i_M_state : Nat := 149
abbrev i_M_address : Nat := 150
abbrev i_M_reference : Nat := 151
abbrev i_M_channel : Nat := 152
abbrev i_M_cause : Nat := 153
abbrev i_M_ear : Nat := 154
abbrev i_M_waiting : Nat := 155
abbrev i_M_given : Nat := 156
abbrev i_M_phase : Nat := 157
abbrev i_W_law : Nat := 158
end
section
/-! Values, heap, frames seen from above (numbers), and what each instruction asks. -/
abbrev pb_V : Type := Int ⊕ Int
abbrev pb_H : Type := Nat → Int → Int → Int
abbrev pb_L : Type := List (Option pb_V)
abbrev pb_K : Type := pb_L → List pb_V → Nat → pb_H → Prop
abbrev pb_P : Type := pb_V → pb_H → Prop
/-- launch, tables, array kinds, first cell; the script: its cell, length, numbers -/
abbrev pb_E : Type := Launch × va_G × (Nat → ClassId) × Nat × Nat × Nat × (Nat → Int32)
def pb_R (z : Int) : Prop := -2147483648 ≤ z ∧ z < 2147483648
def pb_w (z : Int) : Int := (Int32.ofInt z).toInt
def pb_vR : pb_V → Prop
  | .inl z => pb_R z
  | .inr z => pb_R z
/-- the cell of a number; 1000000 is the script -/
def pb_ad (x : pb_E) (z : Int) : Nat := if z = 1000000 then x.2.2.2.2.1 else x.2.2.2.1 + z.toNat
def pb_e (x : pb_E) : pb_V → Value
  | .inl z => .int (Int32.ofInt z)
  | .inr z => if z < 0 then .null else .ref (pb_ad x z)
def pb_o (x : pb_E) (z : Int) : Option Nat := if z < 0 then none else some (pb_ad x z)
/-- a field's content: 0 an int, 1 a boolean, 2 a reference -/
def pb_c (x : pb_E) (t : Nat) (z : Int) : Value := if t = 2 then pb_e x (.inr z) else .int (Int32.ofInt z)
def pb_nth : pb_L → Nat → Option pb_V
  | [], _ => none
  | a :: _, 0 => a
  | _ :: l, i + 1 => pb_nth l i
def pb_set : pb_L → Nat → pb_V → pb_L
  | [], _, _ => []
  | _ :: l, 0, v => some v :: l
  | a :: l, i + 1, v => a :: pb_set l i v
def pb_ll (x : pb_E) : Nat → pb_L → List (Nat × Value)
  | _, [] => []
  | i, none :: l => pb_ll x (i + 1) l
  | i, some v :: l => (i, pb_e x v) :: pb_ll x (i + 1) l
def pb_up (σ : pb_H) (f : Nat) (p i v : Int) : pb_H := fun f' p' i' => if f' = f ∧ p' = p ∧ i' = i then v else σ f' p' i'
/-- a new cell holds zeros, or nulls -/
def pb_clr (σ : pb_H) (n : Int) (d : Nat → Int) : pb_H := fun f p i => if p = n then d f else σ f p i
/-- an object of a kind stands there -/
def pb_is (ci n : Nat) (p : Int) : Prop := 0 ≤ p ∧ p < n ∧ pb_kd p = ci
def pb_tk : Nat → List pb_V → List pb_V → Option (List pb_V × List pb_V)
  | 0, a, S => some (a, S)
  | j + 1, a, v :: S => pb_tk j (v :: a) S
  | _ + 1, _, [] => none
def pb_add (x y : Int) : Int := pb_w (x + y)
def pb_sub (x y : Int) : Int := pb_w (x - y)
def pb_mul (x y : Int) : Int := pb_w (x * y)
def pb_and (x y : Int) : Int := (Int32.ofInt x &&& Int32.ofInt y).toInt
def pb_or (x y : Int) : Int := (Int32.ofInt x ||| Int32.ofInt y).toInt
def pb_xor (x y : Int) : Int := (Int32.ofInt x ^^^ Int32.ofInt y).toInt
def pb_shl (x y : Int) : Int := (Int32.ofInt x <<< (Int32.ofInt y &&& 31)).toInt
def pb_div (x y : Int) : Int := (Int32.ofInt x / Int32.ofInt y).toInt
def pb_rem (x y : Int) : Int := (Int32.ofInt x - Int32.ofInt x / Int32.ofInt y * Int32.ofInt y).toInt
/-! instructions, each with what comes behind it -/
def pb_iconst (z : Int) (k : pb_K) : pb_K := fun L S n σ => k L (.inl z :: S) n σ
def pb_null (k : pb_K) : pb_K := fun L S n σ => k L (.inr (-1) :: S) n σ
def pb_iload (i : Nat) (k : pb_K) : pb_K := fun L S n σ => match pb_nth L i with
  | some (.inl x) => k L (.inl x :: S) n σ
  | _ => False
def pb_aload (i : Nat) (k : pb_K) : pb_K := fun L S n σ => match pb_nth L i with
  | some (.inr x) => k L (.inr x :: S) n σ
  | _ => False
def pb_istore (i : Nat) (k : pb_K) : pb_K := fun L S n σ => match S with
  | .inl x :: S => k (pb_set L i (.inl x)) S n σ
  | _ => False
def pb_astore (i : Nat) (k : pb_K) : pb_K := fun L S n σ => match S with
  | .inr x :: S => k (pb_set L i (.inr x)) S n σ
  | _ => False
def pb_iinc (i : Nat) (c : Int) (k : pb_K) : pb_K := fun L S n σ => match pb_nth L i with
  | some (.inl x) => k (pb_set L i (.inl (pb_w (x + c)))) S n σ
  | _ => False
def pb_bin (o : Int → Int → Int) (k : pb_K) : pb_K := fun L S n σ => match S with
  | .inl y :: .inl x :: S => k L (.inl (o x y) :: S) n σ
  | _ => False
def pb_bin0 (o : Int → Int → Int) (k : pb_K) : pb_K := fun L S n σ => match S with
  | .inl y :: .inl x :: S => ¬ y = 0 ∧ k L (.inl (o x y) :: S) n σ
  | _ => False
def pb_dup (k : pb_K) : pb_K := fun L S n σ => match S with
  | v :: S => k L (v :: v :: S) n σ
  | _ => False
def pb_pop (k : pb_K) : pb_K := fun L S n σ => match S with
  | _ :: S => k L S n σ
  | _ => False
def pb_dup_x1 (k : pb_K) : pb_K := fun L S n σ => match S with
  | v :: w :: S => k L (v :: w :: v :: S) n σ
  | _ => False
def pb_dup_x2 (k : pb_K) : pb_K := fun L S n σ => match S with
  | v :: w :: u :: S => k L (v :: w :: u :: v :: S) n σ
  | _ => False
def pb_dup2 (k : pb_K) : pb_K := fun L S n σ => match S with
  | v :: w :: S => k L (v :: w :: v :: w :: S) n σ
  | _ => False
def pb_if (c : Int → Prop) (kt kf : pb_K) : pb_K := fun L S n σ => match S with
  | .inl x :: S => (c x → kt L S n σ) ∧ (¬ c x → kf L S n σ)
  | _ => False
def pb_icmp (c : Int → Int → Prop) (kt kf : pb_K) : pb_K := fun L S n σ => match S with
  | .inl y :: .inl x :: S => (c x y → kt L S n σ) ∧ (¬ c x y → kf L S n σ)
  | _ => False
def pb_ifnull (kt kf : pb_K) : pb_K := fun L S n σ => match S with
  | .inr z :: S => (z < 0 → kt L S n σ) ∧ (¬ z < 0 → kf L S n σ)
  | _ => False
/-- a switch: the pairs of number and way, the way of all others -/
def pb_sw : List (Int × pb_K) → pb_K → pb_L → List pb_V → Nat → pb_H → Int → Prop
  | [], d, L, S, n, σ, _ => d L S n σ
  | (a, k) :: r, d, L, S, n, σ, x => (x = a → k L S n σ) ∧ (¬ x = a → pb_sw r d L S n σ x)
def pb_switch (r : List (Int × pb_K)) (d : pb_K) : pb_K := fun L S n σ => match S with
  | .inl x :: S => pb_sw r d L S n σ x
  | _ => False
def pb_getI (ci f : Nat) (k : pb_K) : pb_K := fun L S n σ => match S with
  | .inr p :: S => pb_is ci n p ∧ k L (.inl (σ f p 0) :: S) n σ
  | _ => False
def pb_getR (ci f : Nat) (k : pb_K) : pb_K := fun L S n σ => match S with
  | .inr p :: S => pb_is ci n p ∧ k L (.inr (σ f p 0) :: S) n σ
  | _ => False
def pb_putI (ci f : Nat) (k : pb_K) : pb_K := fun L S n σ => match S with
  | .inl v :: .inr p :: S => pb_is ci n p ∧ k L S n (pb_up σ f p 0 v)
  | _ => False
def pb_putZ (ci f : Nat) (k : pb_K) : pb_K := fun L S n σ => match S with
  | .inl v :: .inr p :: S => pb_is ci n p ∧ (v = 0 ∨ v = 1) ∧ k L S n (pb_up σ f p 0 v)
  | _ => False
def pb_putR (ci f : Nat) (k : pb_K) : pb_K := fun L S n σ => match S with
  | .inr v :: .inr p :: S => pb_is ci n p ∧ k L S n (pb_up σ f p 0 v)
  | _ => False
def pb_alen (a : Nat) (k : pb_K) : pb_K := fun L S n σ => match S with
  | .inr p :: S => pb_is a n p ∧ k L (.inl (pb_ln p) :: S) n σ
  | _ => False
def pb_ald (a : Nat) (k : pb_K) : pb_K := fun L S n σ => match S with
  | .inl i :: .inr p :: S => pb_is a n p ∧ (0 ≤ i ∧ i < pb_ln p) ∧ k L (.inl (σ 0 p i) :: S) n σ
  | _ => False
def pb_aldR (a : Nat) (k : pb_K) : pb_K := fun L S n σ => match S with
  | .inl i :: .inr p :: S => pb_is a n p ∧ (0 ≤ i ∧ i < pb_ln p) ∧ k L (.inr (σ 0 p i) :: S) n σ
  | _ => False
def pb_ast (a : Nat) (k : pb_K) : pb_K := fun L S n σ => match S with
  | .inl v :: .inl i :: .inr p :: S => pb_is a n p ∧ (0 ≤ i ∧ i < pb_ln p) ∧ k L S n (pb_up σ 0 p i v)
  | _ => False
def pb_astZ (a : Nat) (k : pb_K) : pb_K := fun L S n σ => match S with
  | .inl v :: .inl i :: .inr p :: S => pb_is a n p ∧ (0 ≤ i ∧ i < pb_ln p) ∧ (v = 0 ∨ v = 1) ∧ k L S n (pb_up σ 0 p i v)
  | _ => False
def pb_astR (a ci : Nat) (k : pb_K) : pb_K := fun L S n σ => match S with
  | .inr v :: .inl i :: .inr p :: S => pb_is a n p ∧ (0 ≤ i ∧ i < pb_ln p) ∧ pb_is ci n v ∧ k L S n (pb_up σ 0 p i v)
  | _ => False
def pb_new (lim ci : Nat) (k : pb_K) : pb_K := fun L S n σ => pb_kd n = ci ∧ n < lim ∧ n < 900000 ∧ k L (.inr n :: S) (n + 1) (pb_clr σ n pb_df)
def pb_newa (lim a : Nat) (d : Int) (k : pb_K) : pb_K := fun L S n σ => match S with
  | .inl z :: S => pb_kd n = a ∧ pb_ln n = z ∧ (0 ≤ z ∧ z ≤ 64) ∧ n < lim ∧ n < 900000 ∧ k L (.inr n :: S) (n + 1) (pb_clr σ n (fun _ => d))
  | _ => False
/-- the script -/
def pb_sld (x : pb_E) (k : pb_K) : pb_K := fun L S n σ => match S with
  | .inl i :: .inr p :: S => p = 1000000 ∧ (0 ≤ i ∧ i < x.2.2.2.2.2.1) ∧ k L (.inl (x.2.2.2.2.2.2 i.toNat).toInt :: S) n σ
  | _ => False
def pb_slen (x : pb_E) (k : pb_K) : pb_K := fun L S n σ => match S with
  | .inr p :: S => p = 1000000 ∧ x.2.2.2.2.2.1 < 2147483648 ∧ k L (.inl x.2.2.2.2.2.1 :: S) n σ
  | _ => False
/-- Object's constructor -/
def pb_obj (k : pb_K) : pb_K := fun L S n σ => match S with
  | .inr p :: S => ¬ p < 0 ∧ S.length ≤ 8 ∧ k L S n σ
  | _ => False
def pb_vret (Q : pb_P) : pb_K := fun _ S n σ => match S with
  | [] => Q (.inl 0) σ
  | _ => False
def pb_vretN (lim : Nat) (Q : pb_P) : pb_K := fun _ S n σ => match S with
  | [] => n = lim ∧ Q (.inl 0) σ
  | _ => False
def pb_zretN (lim : Nat) (Q : pb_P) : pb_K := fun _ S n σ => match S with
  | [.inl v] => n = lim ∧ (v = 0 ∨ v = 1) ∧ Q (.inl v) σ
  | _ => False
def pb_iret (Q : pb_P) : pb_K := fun _ S n σ => match S with
  | [.inl v] => Q (.inl v) σ
  | _ => False
def pb_zret (Q : pb_P) : pb_K := fun _ S n σ => match S with
  | [.inl v] => (v = 0 ∨ v = 1) ∧ Q (.inl v) σ
  | _ => False
def pb_aret (Q : pb_P) : pb_K := fun _ S n σ => match S with
  | [.inr v] => Q (.inr v) σ
  | _ => False
/-! The machine seen from above: numbers for values, a function for the heap, one rule an instruction. -/
theorem pb_w_id {z : Int} (h : pb_R z) : pb_w z = z := Int32.toInt_ofInt_of_le (by have := h.1; omega) (by have := h.2; omega)
theorem pb_w_R (z : Int) : pb_R (pb_w z) := by
  have h1 := Int32.le_toInt (Int32.ofInt z)
  have h2 := Int32.toInt_lt (Int32.ofInt z)
  unfold pb_w pb_R
  omega
theorem pb_w_of (z : Int) : Int32.ofInt (pb_w z) = Int32.ofInt z := Int32.ofInt_toInt _
theorem pb_tR (y : Int32) : pb_R y.toInt := by
  have h1 := Int32.le_toInt y
  have h2 := Int32.toInt_lt y
  unfold pb_R
  omega
theorem pb_eqI {a c : Int} (ha : pb_R a) (hc : pb_R c) : Int32.ofInt a = Int32.ofInt c ↔ a = c := by
  constructor
  · intro h
    have h2 := congrArg Int32.toInt h
    rw [show (Int32.ofInt a).toInt = a from pb_w_id ha, show (Int32.ofInt c).toInt = c from pb_w_id hc] at h2
    exact h2
  · intro h
    rw [h]
theorem pb_ltI {a c : Int} (ha : pb_R a) (hc : pb_R c) : Int32.ofInt a < Int32.ofInt c ↔ a < c := by
  rw [Int32.lt_iff_toInt_lt, show (Int32.ofInt a).toInt = a from pb_w_id ha, show (Int32.ofInt c).toInt = c from pb_w_id hc]
theorem pb_leI {a c : Int} (ha : pb_R a) (hc : pb_R c) : Int32.ofInt a ≤ Int32.ofInt c ↔ a ≤ c := by
  rw [Int32.le_iff_toInt_le, show (Int32.ofInt a).toInt = a from pb_w_id ha, show (Int32.ofInt c).toInt = c from pb_w_id hc]
theorem pb_R0 : pb_R 0 := by unfold pb_R; omega
theorem pb_eq0 {a : Int} (ha : pb_R a) : Int32.ofInt a = 0 ↔ a = 0 := pb_eqI ha pb_R0
theorem pb_lt0 {a : Int} (ha : pb_R a) : Int32.ofInt a < 0 ↔ a < 0 := pb_ltI ha pb_R0
theorem pb_ge0 {a : Int} (ha : pb_R a) : 0 ≤ Int32.ofInt a ↔ 0 ≤ a := pb_leI pb_R0 ha
theorem pb_gt0 {a : Int} (ha : pb_R a) : 0 < Int32.ofInt a ↔ 0 < a := pb_ltI pb_R0 ha
theorem pb_le0 {a : Int} (ha : pb_R a) : Int32.ofInt a ≤ 0 ↔ a ≤ 0 := pb_leI ha pb_R0
theorem pb_clN {a : Int} (ha : pb_R a) : (Int32.ofInt a).toNatClampNeg = a.toNat := Int32.toNatClampNeg_ofInt_of_le (by have := ha.1; omega) (by have := ha.2; omega)
theorem pb_inI {a : Int} {N : Nat} (ha : pb_R a) (h0 : 0 ≤ a) (hN : a.toNat < N) : vp_in (Int32.ofInt a) N := by
  unfold vp_in
  rw [pb_clN ha, pb_lt0 ha]
  omega
theorem pb_e_cat (x : pb_E) (v : pb_V) : (pb_e x v).category = 1 := by
  cases v with
  | inl z => rfl
  | inr z =>
    unfold pb_e
    dsimp only
    split <;> rfl
theorem pb_e_ref {x : pb_E} {z : Int} (h : ¬ z < 0) : pb_e x (.inr z) = .ref (pb_ad x z) := by
  unfold pb_e
  simp [h]
theorem pb_e_pos {x : pb_E} {j : Nat} (h : j < 1000000) : pb_e x (.inr (j : Int)) = .ref (x.2.2.2.1 + j) := by
  rw [pb_e_ref (by omega)]
  unfold pb_ad
  rw [if_neg (by omega), Int.toNat_natCast]
theorem pb_e_neg {x : pb_E} {z : Int} (h : z < 0) : pb_e x (.inr z) = .null := by
  unfold pb_e
  simp [h]
theorem pb_e_rf (x : pb_E) (z : Int) : pb_e x (.inr z) = va_rf (pb_o x z) := by
  unfold pb_e pb_o
  dsimp only
  split <;> rfl
theorem pb_e_isref (x : pb_E) (z : Int) : pb_e x (.inr z) = .null ∨ ∃ a, pb_e x (.inr z) = .ref a := by
  by_cases h : z < 0
  · exact Or.inl (pb_e_neg h)
  · exact Or.inr ⟨_, pb_e_ref h⟩
/-! the words of a frame -/
theorem pb_ll_mem {x : pb_E} : ∀ (L : pb_L) (i : Nat) (q : Nat × Value), q ∈ pb_ll x i L ↔ ∃ (j : Nat) (v : pb_V), pb_nth L j = some v ∧ q = (i + j, pb_e x v)
  | [], i, q => by simp [pb_ll, pb_nth]
  | none :: L, i, q => by
    rw [pb_ll, pb_ll_mem L (i + 1) q]
    constructor
    · rintro ⟨j, v, h1, h2⟩
      exact ⟨j + 1, v, h1, by rw [h2, show i + 1 + j = i + (j + 1) by omega]⟩
    · rintro ⟨j, v, h1, h2⟩
      cases j with
      | zero => cases h1
      | succ j => exact ⟨j, v, h1, by rw [h2, show i + 1 + j = i + (j + 1) by omega]⟩
  | some w :: L, i, q => by
    rw [pb_ll, List.mem_cons, pb_ll_mem L (i + 1) q]
    constructor
    · rintro (h | ⟨j, v, h1, h2⟩)
      · exact ⟨0, w, rfl, h⟩
      · exact ⟨j + 1, v, h1, by rw [h2, show i + 1 + j = i + (j + 1) by omega]⟩
    · rintro ⟨j, v, h1, h2⟩
      cases j with
      | zero => cases h1; exact Or.inl h2
      | succ j => exact Or.inr ⟨j, v, h1, by rw [h2, show i + 1 + j = i + (j + 1) by omega]⟩
theorem pb_lget {x : pb_E} {nL i : Nat} {ls : Array Slot} {L : pb_L} {v : pb_V} (h : lv_has ls nL (pb_ll x 0 L)) (hv : pb_nth L i = some v) : ls[i]? = some (.val (pb_e x v)) := by
  have h1 := h.2.2 (i, pb_e x v) ((pb_ll_mem L 0 _).mpr ⟨i, v, hv, by rw [Nat.zero_add]⟩)
  exact h1
theorem pb_nth_set : ∀ (L : pb_L) (i j : Nat) (v w : pb_V), pb_nth (pb_set L i v) j = some w → (j = i ∧ w = v) ∨ (j ≠ i ∧ pb_nth L j = some w)
  | [], i, j, v, w, h => by simp [pb_set, pb_nth] at h
  | a :: L, 0, 0, v, w, h => by
    simp only [pb_set, pb_nth, Option.some.injEq] at h
    exact Or.inl ⟨rfl, h.symm⟩
  | a :: L, 0, j + 1, v, w, h => Or.inr ⟨by omega, h⟩
  | a :: L, i + 1, 0, v, w, h => Or.inr ⟨by omega, h⟩
  | a :: L, i + 1, j + 1, v, w, h => by
    rcases pb_nth_set L i j v w h with ⟨h1, h2⟩ | ⟨h1, h2⟩
    · exact Or.inl ⟨by omega, h2⟩
    · exact Or.inr ⟨by omega, h2⟩
theorem pb_lset {x : pb_E} {nL i : Nat} {ls : Array Slot} {L : pb_L} {v : pb_V} {u : Value} (hx : u = pb_e x v) (h : lv_has ls nL ((i, u) :: (pb_ll x 0 L).filter (fun q => !(q.1 == i) && !(q.1 + 1 == i && q.2.category == 2)))) : lv_has ls nL (pb_ll x 0 (pb_set L i v)) := by
  refine ⟨h.1, h.2.1, fun q hq => h.2.2 q ?_⟩
  obtain ⟨j, w, h1, rfl⟩ := (pb_ll_mem _ 0 q).mp hq
  rw [Nat.zero_add]
  rcases pb_nth_set L i j v w h1 with ⟨rfl, rfl⟩ | ⟨h2, h3⟩
  · rw [hx]
    exact List.mem_cons_self
  · refine List.mem_cons_of_mem _ (List.mem_filter.mpr ⟨(pb_ll_mem L 0 _).mpr ⟨j, w, h3, by rw [Nat.zero_add]⟩, ?_⟩)
    simp [h2, pb_e_cat]
theorem pb_setR {L : pb_L} {i : Nat} {v : pb_V} (h : ∀ j w, pb_nth L j = some w → pb_vR w) (hv : pb_vR v) : ∀ j w, pb_nth (pb_set L i v) j = some w → pb_vR w := by
  intro j w hw
  rcases pb_nth_set L i j v w hw with ⟨-, rfl⟩ | ⟨-, h3⟩
  · exact hv
  · exact h j w h3
end
section
/-! the heap: a cell for each number below n -/
def pb_cell (x : pb_E) (σ : pb_H) (i : Nat) : va_E :=
  if pb_kd i < 100 then .inr (pb_kd i, (List.range (pb_N (pb_kd i))).map (fun k => pb_c x (pb_ft (pb_kd i) k) (σ (1 + 100 * pb_kd i + k) i 0)))
  else if pb_kd i < 102 then .inl (x.2.2.1 (pb_kd i - 100), (pb_ln i).toNat, .inl (fun j => Int32.ofInt (σ 0 i j)))
  else .inl (x.2.2.1 (pb_kd i - 100), (pb_ln i).toNat, .inr (.inr (.inr (.inr (fun j => pb_o x (σ 0 i j))))))
def pb_ws (x : pb_E) (n : Nat) (σ : pb_H) : va_W := (List.range n).map (fun i => (x.2.2.2.1 + i, pb_cell x σ i))
theorem pb_ws_at {x : pb_E} {n : Nat} {σ : pb_H} {i : Nat} (h : i < n) : (pb_ws x n σ)[i]? = some (x.2.2.2.1 + i, pb_cell x σ i) := by
  unfold pb_ws
  rw [List.getElem?_map, List.getElem?_range h]
  rfl
theorem pb_ws_in {x : pb_E} {n : Nat} {σ : pb_H} {i : Nat} {q : Nat × va_E} (h : (pb_ws x n σ)[i]? = some q) : i < n ∧ q = (x.2.2.2.1 + i, pb_cell x σ i) := by
  have hl : i < n := by
    have h1 := (List.getElem?_eq_some_iff.mp h).1
    unfold pb_ws at h1
    simpa using h1
  rw [pb_ws_at hl] at h
  exact ⟨hl, (Option.some.inj h).symm⟩
theorem pb_D {x : pb_E} {n : Nat} {σ : pb_H} : va_D (fun q => x.2.2.2.1 ≤ q) (pb_ws x n σ) := by
  refine ⟨fun i j p q hi hj h => ?_, fun k q hk => ?_⟩
  · obtain ⟨-, rfl⟩ := pb_ws_in hi
    obtain ⟨-, rfl⟩ := pb_ws_in hj
    dsimp only at h
    omega
  · obtain ⟨-, rfl⟩ := pb_ws_in hk
    dsimp only
    omega
theorem pb_ws_set {x : pb_E} {n : Nat} {σ σ' : pb_H} {i : Nat} (hi : i < n) (hs : ∀ j, j ≠ i → pb_cell x σ' j = pb_cell x σ j) {a : Nat} {c : va_E} (ha : a = x.2.2.2.1 + i) (hc : c = pb_cell x σ' i) : (pb_ws x n σ).set i (a, c) = pb_ws x n σ' := by
  subst ha hc
  apply List.ext_getElem?
  intro j
  by_cases hj : j = i
  · subst hj
    rw [pb_ws_at hi, List.getElem?_set_self (by unfold pb_ws; simpa using hi)]
  · rw [List.getElem?_set_ne (Ne.symm hj)]
    unfold pb_ws
    rw [List.getElem?_map, List.getElem?_map]
    cases h : (List.range n)[j]? with
    | none => rfl
    | some k =>
      have hk : k = j := by
        have h1 := List.getElem?_eq_some_iff.mp h
        obtain ⟨h2, h3⟩ := h1
        rw [List.getElem_range] at h3
        exact h3.symm
      subst hk
      simp only [Option.map_some, hs k hj]
theorem pb_cell_other {x : pb_E} {σ : pb_H} {f : Nat} {p i v : Int} {j : Nat} (h : (j : Int) ≠ p) : pb_cell x (pb_up σ f p i v) j = pb_cell x σ j := by
  have e : ∀ f' i', pb_up σ f p i v f' j i' = σ f' j i' := by
    intro f' i'
    unfold pb_up
    rw [if_neg]
    rintro ⟨-, h2, -⟩
    exact h h2
  unfold pb_cell
  simp only [e]
theorem pb_cell_obj {x : pb_E} {σ : pb_H} {i ci : Nat} (h : pb_kd i = ci) (hc : ci < 100) : pb_cell x σ i = .inr (ci, (List.range (pb_N ci)).map (fun k => pb_c x (pb_ft ci k) (σ (1 + 100 * ci + k) i 0))) := by
  unfold pb_cell
  rw [h, if_pos hc]
theorem pb_cell_int {x : pb_E} {σ : pb_H} {i a : Nat} (h : pb_kd i = a) (h1 : 100 ≤ a) (h2 : a < 102) : pb_cell x σ i = .inl (x.2.2.1 (a - 100), (pb_ln i).toNat, .inl (fun j => Int32.ofInt (σ 0 i j))) := by
  unfold pb_cell
  rw [h, if_neg (by omega), if_pos h2]
theorem pb_cell_ref {x : pb_E} {σ : pb_H} {i a : Nat} (h : pb_kd i = a) (h1 : 102 ≤ a) : pb_cell x σ i = .inl (x.2.2.1 (a - 100), (pb_ln i).toNat, .inr (.inr (.inr (.inr (fun j => pb_o x (σ 0 i j)))))) := by
  unfold pb_cell
  rw [h, if_neg (by omega), if_neg (by omega)]
theorem pb_cell_putF {x : pb_E} {σ : pb_H} {ci k : Nat} {p : Nat} {v : Int} (h : pb_kd p = ci) (hc : ci < 100) (hk : k < pb_N ci) (hN : pb_N ci ≤ 100) : pb_cell x (pb_up σ (1 + 100 * ci + k) p 0 v) p = .inr (ci, ((List.range (pb_N ci)).map (fun k => pb_c x (pb_ft ci k) (σ (1 + 100 * ci + k) p 0))).set k (pb_c x (pb_ft ci k) v)) := by
  rw [pb_cell_obj h hc]
  congr 2
  apply List.ext_getElem?
  intro j
  by_cases hj : j = k
  · subst hj
    rw [List.getElem?_set_self (by simpa using hk), List.getElem?_map, List.getElem?_range hk]
    simp [pb_up]
  · rw [List.getElem?_set_ne (Ne.symm hj)]
    by_cases hl : j < pb_N ci
    · rw [List.getElem?_map, List.getElem?_map, List.getElem?_range hl]
      simp only [Option.map_some, pb_up]
      rw [if_neg]
      rintro ⟨h1, -⟩
      omega
    · rw [List.getElem?_eq_none (by simpa using hl), List.getElem?_eq_none (by simpa using hl)]
theorem pb_cell_putA {x : pb_E} {σ : pb_H} {a p : Nat} {i v : Int} (h : pb_kd p = a) (h1 : 100 ≤ a) (h2 : a < 102) (hi : 0 ≤ i) : pb_cell x (pb_up σ 0 p i v) p = .inl (x.2.2.1 (a - 100), (pb_ln p).toNat, .inl (upd (fun j => Int32.ofInt (σ 0 p j)) i.toNat (Int32.ofInt v))) := by
  rw [pb_cell_int h h1 h2]
  congr 4
  funext j
  unfold pb_up upd
  by_cases hj : j = i.toNat
  · rw [if_pos hj, if_pos ⟨rfl, rfl, by omega⟩]
  · rw [if_neg hj, if_neg]
    rintro ⟨-, -, h3⟩
    omega
theorem pb_cell_putQ {x : pb_E} {σ : pb_H} {a p : Nat} {i v : Int} (h : pb_kd p = a) (h1 : 102 ≤ a) (hi : 0 ≤ i) (hv : ¬ v < 0) (hv2 : v < 1000000) : pb_cell x (pb_up σ 0 p i v) p = .inl (x.2.2.1 (a - 100), (pb_ln p).toNat, .inr (.inr (.inr (.inr (va_up (fun j => pb_o x (σ 0 p j)) i.toNat (some (x.2.2.2.1 + v.toNat))))))) := by
  rw [pb_cell_ref h h1]
  congr 7
  funext j
  unfold pb_up va_up
  by_cases hj : j = i.toNat
  · rw [if_pos hj, if_pos ⟨rfl, rfl, by omega⟩]
    unfold pb_o pb_ad
    rw [if_neg hv, if_neg (by omega)]
  · rw [if_neg hj, if_neg]
    rintro ⟨-, -, h3⟩
    omega
theorem pb_cell_clr {x : pb_E} {σ : pb_H} {n : Nat} {d : Nat → Int} {j : Nat} (h : j ≠ n) : pb_cell x (pb_clr σ n d) j = pb_cell x σ j := by
  have e : ∀ f' i', pb_clr σ n d f' j i' = σ f' j i' := by
    intro f' i'
    unfold pb_clr
    rw [if_neg]
    omega
  unfold pb_cell
  simp only [e]
/-! the judgements -/
theorem pb_good : ∀ w ∈ pb_ALL, (w.onTables && w.keeps) = true ∨ ∃ ty, w = .arrayClass ty := fun w hw => good_of_word (List.mem_filter.mp hw).2
def pb_y (m : Nat) : MethodName := (pb_M.getD m pb_M0).1
def pb_code (m : Nat) : ByteArray := (pb_M.getD m pb_M0).2.1
def pb_mx (m : Nat) : Nat := (pb_M.getD m pb_M0).2.2.1
def pb_rt (m : Nat) : Option FieldType := (pb_M.getD m pb_M0).2.2.2.1
def pb_rk (m : Nat) : Nat := (pb_M.getD m pb_M0).2.2.2.2.1
def pb_mc (m : Nat) : Nat := (pb_M.getD m pb_M0).2.2.2.2.2.1
def pb_lo (m : Nat) : Nat := (pb_M.getD m pb_M0).2.2.2.2.2.2
def pb_ms (m : Nat) : Nat := 64 * pb_mc m
def pb_vd (m : Nat) : Bool := (pb_rt m).isNone
def pb_rm (m : Nat) : Room := { frames := pb_rk m + 1, cells := pb_mc m, slots := pb_ms m, locals := pb_lo m }
def pb_wd (m : Nat) : List Cond := .code (pb_y m) (pb_code m) (pb_mx m) (pb_rt m) :: pb_ALL
/-- the script lies below -/
def pb_Nx (s : State) : Prop := (∀ q ∈ pb_nest, va_Nw (.methodLinkNest q.1 q.2.1 q.2.2.1 q.2.2.2) s) ∧ ∀ C ∈ pb_aos, va_AO C s
theorem pb_Nx.same {u U : State} (h : u.vm = U.vm) (hN : pb_Nx u) : pb_Nx U := ⟨fun q hq => va_Nw.same rfl h (hN.1 q hq), fun C hC => va_AO.moved (by rw [h]; exact Vm.Alike.refl _) (hN.2 C hC)⟩
theorem pb_Nx.warm {s U : State} (hW : s.WarmedH U.vm) (hN : pb_Nx s) : pb_Nx U := ⟨fun q hq => va_Nw.warmM hW (hN.1 q hq), fun C hC => va_AO.moved hW.alike (hN.2 C hC)⟩
def pb_X (x : pb_E) (s : State) : Prop := va_X x.2.2.2.2.1 x.2.2.2.2.2.1 x.2.2.2.2.2.2 s s.heap ∧ x.2.2.2.2.1 < x.2.2.2.1 ∧ pb_Nx s
def pb_In (x : pb_E) (s : State) (H : Heap) (n : Nat) (σ : pb_H) (locs : List Loc) : Prop :=
  va_K x.2.1 pb_cl (pb_tys x.2.2.1) s ∧ va_P x.2.1 pb_cl (pb_ws x n σ) H ∧ va_S (fun q => x.2.2.2.1 ≤ q) s.heap H locs ∧ (x.2.2.2.1 ≤ s.heap.size ∧ n < 1000000 ∧ pb_X x s) ∧ ∀ f p i, pb_R (σ f p i)
def pb_Cx (p : Program) (s : State) (mm : MethodId) (args : Array Value) (meth : Method) (c : Code) (m : Nat) : Prop :=
  p.tables.exec = Jvm.exec ∧ c.code = pb_code m ∧ c.maxLocals = pb_mx m ∧ s.vm.findClass (pb_y m).cls = some mm.cls ∧ (∀ w ∈ pb_ALL, w.before args s = true) ∧ meth.sig.returnType = pb_rt m ∧ meth.locks = false ∧ meth.name = (pb_y m).name
def pb_Q (x : pb_E) (m n : Nat) (Q : pb_P) : Array Value → State → Outcome → State → Prop := fun _ st oc t =>
  ∃ (v : pb_V) (σ' : pb_H), oc = .returned (if pb_vd m = true then none else some (pb_e x v)) ∧ Q v σ' ∧ pb_vR v ∧
    (va_K x.2.1 pb_cl (pb_tys x.2.2.1) t ∧ va_P x.2.1 pb_cl (pb_ws x (n + pb_mc m) σ') t.heap ∧ ∀ f p i, pb_R (σ' f p i)) ∧ va_F (fun q => x.2.2.2.1 ≤ q) st t
def pb_Pc (x : pb_E) (As : List pb_V) (n : Nat) (σ : pb_H) : Array Value → State → Prop :=
  va_Pc (As.map (pb_e x)) (fun U => (∀ v ∈ As, pb_vR v) ∧ va_K x.2.1 pb_cl (pb_tys x.2.2.1) U ∧ va_P x.2.1 pb_cl (pb_ws x n σ) U.heap ∧ (U.heap.size = x.2.2.2.1 + n ∧ n < 1000000 ∧ pb_X x U) ∧ ∀ f p i, pb_R (σ f p i))
def pb_MJ (x : pb_E) (m : Nat) (As : List pb_V) (n : Nat) (σ : pb_H) (Q : pb_P) : Prop :=
  ∃ Q0 : pb_P, (∀ v σ', Q0 v σ' → Q v σ') ∧ Met x.1 (pb_y m) (pb_wd m) (pb_rm m) (pb_Pc x As n σ) (pb_Q x m n Q0) (pb_mc m) (pb_ms m) (fun q => x.2.2.2.1 ≤ q)
def pb_Rm (m : Nat) (R : Room) : Prop := pb_rk m + 1 ≤ R.frames ∧ pb_mc m ≤ R.cells ∧ 64 * pb_mc m ≤ R.slots ∧ pb_lo m ≤ R.locals
def pb_isret (m : Nat) (op : Instr) (v : pb_V) : Prop :=
  (pb_rt m = none ∧ op = .return_) ∨ (pb_rt m = some .int ∧ op = .ireturn ∧ ∃ z, v = .inl z) ∨ (pb_rt m = some .boolean ∧ op = .ireturn ∧ (v = .inl 0 ∨ v = .inl 1)) ∨ (∃ C z, pb_rt m = some (.object C) ∧ op = .areturn ∧ v = .inr z)
/-- what is asked of the end: each answer with Q is good there -/
def pb_Zd (x : pb_E) (m n0 : Nat) (Q : pb_P) (R : Room) (Z : State → Prop) (p : Program) (e : Env) (s : State) (mm : MethodId) (args : Array Value) (below : List Frame) (meth : Method) (c : Code) : Prop :=
  ∀ (pc : Nat) (ls : Array Slot) (v : pb_V) (σ : pb_H) (H : Heap) (locs : List Loc) (op : Instr), decode (pb_code m) pc = .ok (op, 1) → pb_isret m op v → Q v σ → pb_vR v → pb_In x s H (n0 + pb_mc m) σ locs →
    W p x.1 e R s mm args below meth c H locs (pb_mc m) (64 * pb_mc m) Z (F0 mm pc ls (if pb_vd m = true then [] else [pb_e x v]))
def pb_WJ (x : pb_E) (m : Nat) (n0 : Nat) (Q : pb_P) (pc : Nat) : pb_K := fun L S n σ =>
  ∀ (p : Program) (e : Env) (R : Room) (Z : State → Prop) (s : State) (mm : MethodId) (args : Array Value) (below : List Frame) (meth : Method) (c : Code) (H : Heap) (locs : List Loc) (cells slots : Nat) (ls : Array Slot),
    pb_Rm m R → pb_Zd x m n0 Q R Z p e s mm args below meth c → pb_Cx p s mm args meth c m → pb_In x s H n σ locs → lv_has ls (pb_mx m) (pb_ll x 0 L) → (∀ v ∈ S, pb_vR v) → (∀ j v, pb_nth L j = some v → pb_vR v) → (n = n0 + cells ∧ s.heap.size = x.2.2.2.1 + n0 ∧ cells ≤ pb_mc m) → slots = 64 * cells →
    W p x.1 e R s mm args below meth c H locs cells slots Z (F0 mm pc ls (S.map (pb_e x)))
def pb_le (k k' : pb_K) : Prop := ∀ L S n σ, k L S n σ → k' L S n σ
theorem pb_MJ.mono {x : pb_E} {m : Nat} {As : List pb_V} {n : Nat} {σ : pb_H} {Q Q' : pb_P} (h : pb_MJ x m As n σ Q) (hq : ∀ v σ', Q v σ' → Q' v σ') : pb_MJ x m As n σ Q' :=
  h.elim fun Q0 h0 => ⟨Q0, fun v σ' h1 => hq v σ' (h0.1 v σ' h1), h0.2⟩
theorem pb_nth_none : ∀ (r j : Nat), pb_nth (List.replicate r none) j = none
  | 0, _ => rfl
  | r + 1, 0 => by rw [List.replicate_succ]; rfl
  | r + 1, j + 1 => by rw [List.replicate_succ]; exact pb_nth_none r j
theorem pb_entry {x : pb_E} : ∀ (As : List pb_V) (i : Nat) (r : Nat) (q : Nat × Value), q ∈ pb_ll x i (As.map some ++ List.replicate r none) → q ∈ lv_args i (As.map (pb_e x))
  | [], i, r, q, h => by
    obtain ⟨j, v, h1, -⟩ := (pb_ll_mem _ i q).mp h
    rw [List.map_nil, List.nil_append, pb_nth_none] at h1
    cases h1
  | a :: As, i, r, q, h => by
    simp only [List.map_cons, List.cons_append, pb_ll, List.mem_cons] at h
    simp only [List.map_cons, lv_args, pb_e_cat, List.mem_cons]
    rcases h with h | h
    · exact Or.inl h
    · exact Or.inr (by simpa using pb_entry As (i + 1) r q h)
theorem pb_sl {x : pb_E} (As : List pb_V) : (lg_sl (As.map (pb_e x))).length = As.length := by
  induction As with
  | nil => rfl
  | cons a As ih =>
    unfold lg_sl at ih ⊢
    simp only [List.map_cons, List.flatMap_cons, List.length_append, pb_e_cat, ih]
    simp
    omega
theorem pb_nthR {As : List pb_V} {r : Nat} (h : ∀ v ∈ As, pb_vR v) : ∀ j v, pb_nth (As.map some ++ List.replicate r none) j = some v → pb_vR v := by
  induction As with
  | nil =>
    intro j v hv
    rw [List.map_nil, List.nil_append, pb_nth_none] at hv
    cases hv
  | cons a As ih =>
    intro j v hv
    cases j with
    | zero =>
      simp only [List.map_cons, List.cons_append, pb_nth, Option.some.injEq] at hv
      exact hv ▸ h a List.mem_cons_self
    | succ j => exact ih (fun w hw => h w (List.mem_cons_of_mem _ hw)) j v hv
theorem pb_ans {x : pb_E} {m n0 : Nat} {Q : pb_P} {s t : State} {H : Heap} {σ : pb_H} {locs : List Loc} {args : Array Value} {v : pb_V} {oc : Outcome} (hI : pb_In x s H (n0 + pb_mc m) σ locs) (hoc : oc = .returned (if pb_vd m = true then none else some (pb_e x v))) (hQ : Q v σ) (hv : pb_vR v) (ht : t.heap = H) (hW : s.WarmedH t.vm) : pb_Q x m n0 Q args s oc t :=
  ⟨v, σ, hoc, hQ, hv, ⟨va_K.moved hW.alike hI.1, by rw [ht]; exact hI.2.1, hI.2.2.2.2⟩, hI.2.2.1.F ht⟩
theorem pb_Zd_met {x : pb_E} {m n0 : Nat} {Q : pb_P} {p : Program} {e : Env} {s : State} {mm : MethodId} {args : Array Value} {below : List Frame} {meth : Method} {c : Code} (hC : pb_Cx p s mm args meth c m) : pb_Zd x m n0 Q (pb_rm m) (MQ below (pb_Q x m n0 Q) args s (pb_mc m) (pb_ms m) (fun q => x.2.2.2.1 ≤ q)) p e s mm args below meth c := by
  intro pc ls v σ H locs op hd hop hQ hv hI
  have hrt := hC.2.2.2.2.2.1
  have hlk := hC.2.2.2.2.2.2.1
  rcases hop with ⟨h1, rfl⟩ | ⟨h1, rfl, z, rfl⟩ | ⟨h1, rfl, h3⟩ | ⟨C, z, h1, rfl, rfl⟩
  · have hvd : pb_vd m = true := by unfold pb_vd; rw [h1]; rfl
    rw [hvd, if_pos rfl]
    exact W.vret hC.1 hC.2.1 (hrt.trans h1) (fun t ht hW => pb_ans hI (by rw [hvd, if_pos rfl]) hQ hv ht hW) hI.2.2.1.2.2 hd hlk
  · have hvd : pb_vd m = false := by unfold pb_vd; rw [h1]; rfl
    rw [hvd, if_neg (by decide)]
    exact W.iret hC.1 hC.2.1 (hrt.trans h1) (fun t ht hW => pb_ans hI (by rw [hvd, if_neg (by decide)]; rfl) hQ hv ht hW) hI.2.2.1.2.2 hd hlk
  · have hvd : pb_vd m = false := by unfold pb_vd; rw [h1]; rfl
    rw [hvd, if_neg (by decide)]
    rcases h3 with rfl | rfl
    · exact W.zret hC.1 hC.2.1 (hrt.trans h1) rfl (fun t ht hW => pb_ans hI (by rw [hvd, if_neg (by decide)]; rfl) hQ hv ht hW) hI.2.2.1.2.2 hd hlk
    · exact W.zret hC.1 hC.2.1 (hrt.trans h1) rfl (fun t ht hW => pb_ans hI (by rw [hvd, if_neg (by decide)]; rfl) hQ hv ht hW) hI.2.2.1.2.2 hd hlk
  · have hvd : pb_vd m = false := by unfold pb_vd; rw [h1]; rfl
    rw [hvd, if_neg (by decide)]
    exact W.aret hC.1 hC.2.1 (hrt.trans h1) (Or.inl ⟨_, rfl⟩) (pb_e_isref _ _) (fun t ht hW => pb_ans hI (by rw [hvd, if_neg (by decide)]) hQ hv ht hW) hI.2.2.1.2.2 hd hlk
theorem pb_enter {x : pb_E} {m : Nat} {As : List pb_V} {n : Nat} {σ : pb_H} {Q : pb_P} (hy : plainName (pb_y m).cls = true) (hlen : As.length ≤ pb_mx m) (h : pb_WJ x m n Q 0 (As.map some ++ List.replicate (pb_mx m - As.length) none) [] n σ) : pb_MJ x m As n σ Q := by
  refine ⟨Q, fun _ _ h => h, Met.ofW (cc := pb_code m) (maxL := pb_mx m) (ret := pb_rt m) hy rfl ?_⟩
  intro p e s mm args below meth c s₁ B hml hv
  obtain ⟨rfl, hAs, hK, hP, ⟨hz, hn, hX⟩, hR⟩ := hv
  have hts := atoms_spec (ws := pb_wd m) B.pre
  have hl := lv_entry (As.map (pb_e x)) (n := pb_mx m) (by rw [pb_sl]; exact hlen)
  have hC : pb_Cx p s mm (As.map (pb_e x)).toArray meth c m := ⟨B.exec, B.bytes, hml, findClass_of_methodNamed B.named, fun w hw => hts w (List.mem_cons_of_mem _ hw), B.returns, B.notSynchronized, (name_of_methodNamed B.named B.method).1⟩
  rw [lg_entry_eq]
  exact h p e (pb_rm m) _ s mm _ below meth c s.heap [] 0 0 _ ⟨Nat.le_refl _, Nat.le_refl _, Nat.le_refl _, Nat.le_refl _⟩ (pb_Zd_met hC) hC ⟨hK, hP, va_S.rf, ⟨by omega, hn, hX⟩, hR⟩ ⟨hl.1, hl.2.1, fun q hq => hl.2.2 q (pb_entry As 0 _ q hq)⟩ (fun v hv => by cases hv) (pb_nthR hAs) ⟨rfl, hz, Nat.zero_le _⟩ rfl
/-- the heap's size: what has been made so far -/
theorem pb_sz {p : Program} {e : Env} {R : Room} {s : State} {mm : MethodId} {args : Array Value} {below : List Frame} {meth : Method} {c : Code} {H : Heap} {locs : List Loc} {cells slots : Nat} {Qs : State → Prop} {g : JFrame} {x : pb_E} {n n0 : Nat} {σ : pb_H} (hI : pb_In x s H n σ locs) (hn : n = n0 + cells) (hs : s.heap.size = x.2.2.2.1 + n0)
    (kk : H.size = x.2.2.2.1 + n → W p x.1 e R s mm args below meth c H locs cells slots Qs g) : W p x.1 e R s mm args below meth c H locs cells slots Qs g := by
  intro T hT X
  have h1 := X.heapSize
  rw [hT] at h1
  refine kk ?_ T hT X
  have h2 : s.heap.size ≤ H.size := hI.2.2.1.1
  by_cases h0 : n = 0
  · omega
  · have h3 := (hI.2.1 (n - 1) _ (pb_ws_at (by omega))).lt
    dsimp only at h3
    omega
end
section
/-! a rule an instruction: plain ones -/
theorem pb_s_iconst {x : pb_E} {m n0 : Nat} {Q : pb_P} {pc : Nat} {z : Int} {k : pb_K} (hd : decode (pb_code m) pc = .ok (.iconst z, 1)) (hz : pb_R z) (hk : pb_le k (pb_WJ x m n0 Q (pc + 1))) : pb_le (pb_iconst z k) (pb_WJ x m n0 Q pc) := by
  intro L S n σ h p e R Z s mm args below meth c H locs cells slots ls hR hZ hC hI hl hS hL h1 h2
  exact lv_iconst hC.1 hC.2.1 hd rfl (hk L _ n σ h p e R Z s mm args below meth c H locs cells slots ls hR hZ hC hI hl (List.forall_mem_cons.mpr ⟨hz, hS⟩) hL h1 h2)
theorem pb_s_bipush {x : pb_E} {m n0 : Nat} {Q : pb_P} {pc : Nat} {z : Int} {k : pb_K} (hd : decode (pb_code m) pc = .ok (.bipush z, 2)) (hz : pb_R z) (hv : (Int8.ofInt z).toInt32 = Int32.ofInt z) (hk : pb_le k (pb_WJ x m n0 Q (pc + 2))) : pb_le (pb_iconst z k) (pb_WJ x m n0 Q pc) := by
  intro L S n σ h p e R Z s mm args below meth c H locs cells slots ls hR hZ hC hI hl hS hL h1 h2
  exact lv_bipush hC.1 hC.2.1 hd hv (hk L _ n σ h p e R Z s mm args below meth c H locs cells slots ls hR hZ hC hI hl (List.forall_mem_cons.mpr ⟨hz, hS⟩) hL h1 h2)
theorem pb_s_sipush {x : pb_E} {m n0 : Nat} {Q : pb_P} {pc : Nat} {z : Int} {k : pb_K} (hd : decode (pb_code m) pc = .ok (.sipush z, 3)) (hz : pb_R z) (hv : (Int16.ofInt z).toInt32 = Int32.ofInt z) (hk : pb_le k (pb_WJ x m n0 Q (pc + 3))) : pb_le (pb_iconst z k) (pb_WJ x m n0 Q pc) := by
  intro L S n σ h p e R Z s mm args below meth c H locs cells slots ls hR hZ hC hI hl hS hL h1 h2
  exact lv_sipush hC.1 hC.2.1 hd hv (hk L _ n σ h p e R Z s mm args below meth c H locs cells slots ls hR hZ hC hI hl (List.forall_mem_cons.mpr ⟨hz, hS⟩) hL h1 h2)
theorem pb_s_null {x : pb_E} {m n0 : Nat} {Q : pb_P} {pc : Nat} {k : pb_K} (hd : decode (pb_code m) pc = .ok (.aconst_null, 1)) (hk : pb_le k (pb_WJ x m n0 Q (pc + 1))) : pb_le (pb_null k) (pb_WJ x m n0 Q pc) := by
  intro L S n σ h p e R Z s mm args below meth c H locs cells slots ls hR hZ hC hI hl hS hL h1 h2
  exact lv_null hC.1 hC.2.1 hd (hk L _ n σ h p e R Z s mm args below meth c H locs cells slots ls hR hZ hC hI hl (List.forall_mem_cons.mpr ⟨(by unfold pb_vR pb_R; omega), hS⟩) hL h1 h2)
theorem pb_s_iload_n {x : pb_E} {m n0 : Nat} {Q : pb_P} {pc : Nat} {j : Fin 4} {i : Nat} {k : pb_K} (hd : decode (pb_code m) pc = .ok (.iload_n j, 1)) (hi : (j : Nat) = i) (hk : pb_le k (pb_WJ x m n0 Q (pc + 1))) : pb_le (pb_iload i k) (pb_WJ x m n0 Q pc) := by
  intro L S n σ h p e R Z s mm args below meth c H locs cells slots ls hR hZ hC hI hl hS hL h1 h2
  unfold pb_iload at h
  split at h
  · rename_i y hy
    exact lv_iload_n hC.1 hC.2.1 hd hi (pb_lget hl hy) (hk L _ n σ h p e R Z s mm args below meth c H locs cells slots ls hR hZ hC hI hl (List.forall_mem_cons.mpr ⟨hL _ _ hy, hS⟩) hL h1 h2)
  · exact h.elim
theorem pb_s_iload {x : pb_E} {m n0 : Nat} {Q : pb_P} {pc : Nat} {i : Nat} {k : pb_K} (hd : decode (pb_code m) pc = .ok (.iload i, 2)) (hk : pb_le k (pb_WJ x m n0 Q (pc + 2))) : pb_le (pb_iload i k) (pb_WJ x m n0 Q pc) := by
  intro L S n σ h p e R Z s mm args below meth c H locs cells slots ls hR hZ hC hI hl hS hL h1 h2
  unfold pb_iload at h
  split at h
  · rename_i y hy
    exact lv_iload hC.1 hC.2.1 hd (pb_lget hl hy) (hk L _ n σ h p e R Z s mm args below meth c H locs cells slots ls hR hZ hC hI hl (List.forall_mem_cons.mpr ⟨hL _ _ hy, hS⟩) hL h1 h2)
  · exact h.elim
theorem pb_s_aload_n {x : pb_E} {m n0 : Nat} {Q : pb_P} {pc : Nat} {j : Fin 4} {i : Nat} {k : pb_K} (hd : decode (pb_code m) pc = .ok (.aload_n j, 1)) (hi : (j : Nat) = i) (hk : pb_le k (pb_WJ x m n0 Q (pc + 1))) : pb_le (pb_aload i k) (pb_WJ x m n0 Q pc) := by
  intro L S n σ h p e R Z s mm args below meth c H locs cells slots ls hR hZ hC hI hl hS hL h1 h2
  unfold pb_aload at h
  split at h
  · rename_i y hy
    have hw := hk L _ n σ h p e R Z s mm args below meth c H locs cells slots ls hR hZ hC hI hl (List.forall_mem_cons.mpr ⟨hL _ _ hy, hS⟩) hL h1 h2
    have hg := pb_lget hl hy
    rw [List.map_cons] at hw
    by_cases hn : y < 0
    · rw [pb_e_neg hn] at hw hg
      exact lv_aload_nN hC.1 hC.2.1 hd hi hg hw
    · rw [pb_e_ref hn] at hw hg
      exact lv_aload_n hC.1 hC.2.1 hd hi hg hw
  · exact h.elim
theorem pb_s_aload {x : pb_E} {m n0 : Nat} {Q : pb_P} {pc : Nat} {i : Nat} {k : pb_K} (hd : decode (pb_code m) pc = .ok (.aload i, 2)) (hk : pb_le k (pb_WJ x m n0 Q (pc + 2))) : pb_le (pb_aload i k) (pb_WJ x m n0 Q pc) := by
  intro L S n σ h p e R Z s mm args below meth c H locs cells slots ls hR hZ hC hI hl hS hL h1 h2
  unfold pb_aload at h
  split at h
  · rename_i y hy
    have hw := hk L _ n σ h p e R Z s mm args below meth c H locs cells slots ls hR hZ hC hI hl (List.forall_mem_cons.mpr ⟨hL _ _ hy, hS⟩) hL h1 h2
    have hg := pb_lget hl hy
    rw [List.map_cons] at hw
    by_cases hn : y < 0
    · rw [pb_e_neg hn] at hw hg
      exact lv_aloadN hC.1 hC.2.1 hd hg hw
    · rw [pb_e_ref hn] at hw hg
      exact lv_aload hC.1 hC.2.1 hd hg hw
  · exact h.elim
theorem pb_s_istore_n {x : pb_E} {m n0 : Nat} {Q : pb_P} {pc : Nat} {j : Fin 4} {i : Nat} {k : pb_K} (hd : decode (pb_code m) pc = .ok (.istore_n j, 1)) (hi : (j : Nat) = i) (hn : i < pb_mx m) (hk : pb_le k (pb_WJ x m n0 Q (pc + 1))) : pb_le (pb_istore i k) (pb_WJ x m n0 Q pc) := by
  intro L S n σ h p e R Z s mm args below meth c H locs cells slots ls hR hZ hC hI hl hS hL h1 h2
  unfold pb_istore at h
  split at h
  · rename_i y S'
    obtain ⟨hy, hS'⟩ := List.forall_mem_cons.mp hS
    exact lv_istore_n hC.1 hC.2.1 hd hi hl hn rfl (fun ls' hl' => hk _ _ n σ h p e R Z s mm args below meth c H locs cells slots ls' hR hZ hC hI (pb_lset (v := .inl y) rfl hl') hS' (pb_setR hL hy) h1 h2)
  · exact h.elim
theorem pb_s_istore {x : pb_E} {m n0 : Nat} {Q : pb_P} {pc : Nat} {i : Nat} {k : pb_K} (hd : decode (pb_code m) pc = .ok (.istore i, 2)) (hn : i < pb_mx m) (hk : pb_le k (pb_WJ x m n0 Q (pc + 2))) : pb_le (pb_istore i k) (pb_WJ x m n0 Q pc) := by
  intro L S n σ h p e R Z s mm args below meth c H locs cells slots ls hR hZ hC hI hl hS hL h1 h2
  unfold pb_istore at h
  split at h
  · rename_i y S'
    obtain ⟨hy, hS'⟩ := List.forall_mem_cons.mp hS
    exact lv_istore hC.1 hC.2.1 hd hl hn rfl (fun ls' hl' => hk _ _ n σ h p e R Z s mm args below meth c H locs cells slots ls' hR hZ hC hI (pb_lset (v := .inl y) rfl hl') hS' (pb_setR hL hy) h1 h2)
  · exact h.elim
theorem pb_s_astore_n {x : pb_E} {m n0 : Nat} {Q : pb_P} {pc : Nat} {j : Fin 4} {i : Nat} {k : pb_K} (hd : decode (pb_code m) pc = .ok (.astore_n j, 1)) (hi : (j : Nat) = i) (hn : i < pb_mx m) (hk : pb_le k (pb_WJ x m n0 Q (pc + 1))) : pb_le (pb_astore i k) (pb_WJ x m n0 Q pc) := by
  intro L S n σ h p e R Z s mm args below meth c H locs cells slots ls hR hZ hC hI hl hS hL h1 h2
  unfold pb_astore at h
  split at h
  · rename_i y S'
    obtain ⟨hy, hS'⟩ := List.forall_mem_cons.mp hS
    rw [List.map_cons]
    by_cases hz : y < 0
    · rw [pb_e_neg hz]
      exact lv_astore_nN hC.1 hC.2.1 hd hi hl hn rfl (fun ls' hl' => hk _ _ n σ h p e R Z s mm args below meth c H locs cells slots ls' hR hZ hC hI (pb_lset (v := .inr y) (pb_e_neg hz).symm hl') hS' (pb_setR hL hy) h1 h2)
    · rw [pb_e_ref hz]
      exact lv_astore_n hC.1 hC.2.1 hd hi hl hn rfl (fun ls' hl' => hk _ _ n σ h p e R Z s mm args below meth c H locs cells slots ls' hR hZ hC hI (pb_lset (v := .inr y) (pb_e_ref hz).symm hl') hS' (pb_setR hL hy) h1 h2)
  · exact h.elim
theorem pb_s_astore {x : pb_E} {m n0 : Nat} {Q : pb_P} {pc : Nat} {i : Nat} {k : pb_K} (hd : decode (pb_code m) pc = .ok (.astore i, 2)) (hn : i < pb_mx m) (hk : pb_le k (pb_WJ x m n0 Q (pc + 2))) : pb_le (pb_astore i k) (pb_WJ x m n0 Q pc) := by
  intro L S n σ h p e R Z s mm args below meth c H locs cells slots ls hR hZ hC hI hl hS hL h1 h2
  unfold pb_astore at h
  split at h
  · rename_i y S'
    obtain ⟨hy, hS'⟩ := List.forall_mem_cons.mp hS
    rw [List.map_cons]
    by_cases hz : y < 0
    · rw [pb_e_neg hz]
      exact lv_astoreN hC.1 hC.2.1 hd hl hn rfl (fun ls' hl' => hk _ _ n σ h p e R Z s mm args below meth c H locs cells slots ls' hR hZ hC hI (pb_lset (v := .inr y) (pb_e_neg hz).symm hl') hS' (pb_setR hL hy) h1 h2)
    · rw [pb_e_ref hz]
      exact lv_astore hC.1 hC.2.1 hd hl hn rfl (fun ls' hl' => hk _ _ n σ h p e R Z s mm args below meth c H locs cells slots ls' hR hZ hC hI (pb_lset (v := .inr y) (pb_e_ref hz).symm hl') hS' (pb_setR hL hy) h1 h2)
  · exact h.elim
theorem pb_s_iinc {x : pb_E} {m n0 : Nat} {Q : pb_P} {pc : Nat} {i : Nat} {z : Int} {k : pb_K} (hd : decode (pb_code m) pc = .ok (.iinc i z, 3)) (hn : i < pb_mx m) (hk : pb_le k (pb_WJ x m n0 Q (pc + 3))) : pb_le (pb_iinc i z k) (pb_WJ x m n0 Q pc) := by
  intro L S n σ h p e R Z s mm args below meth c H locs cells slots ls hR hZ hC hI hl hS hL h1 h2
  unfold pb_iinc at h
  split at h
  · rename_i y hy
    obtain ⟨q, hq⟩ := List.getElem?_of_mem ((pb_ll_mem (x := x) L 0 (i, .int (Int32.ofInt y))).mpr ⟨i, .inl y, hy, by rw [Nat.zero_add]; rfl⟩)
    exact lv_iinc hC.1 hC.2.1 hd hl hq rfl hn rfl (fun ls' hl' => hk _ _ n σ h p e R Z s mm args below meth c H locs cells slots ls' hR hZ hC hI (pb_lset (v := .inl (pb_w (y + z))) (by show Value.int _ = Value.int _; rw [pb_w_of, Int32.ofInt_add]) hl') hS (pb_setR hL (pb_w_R _)) h1 h2)
  · exact h.elim
theorem pb_s_iadd {x : pb_E} {m n0 : Nat} {Q : pb_P} {pc : Nat} {k : pb_K} (hd : decode (pb_code m) pc = .ok (.iadd, 1)) (hk : pb_le k (pb_WJ x m n0 Q (pc + 1))) : pb_le (pb_bin pb_add k) (pb_WJ x m n0 Q pc) := by
  intro L S n σ h p e R Z s mm args below meth c H locs cells slots ls hR hZ hC hI hl hS hL h1 h2
  unfold pb_bin at h
  split at h
  · rename_i c' a' S'
    obtain ⟨-, hS'⟩ := List.forall_mem_cons.mp hS
    obtain ⟨-, hS'⟩ := List.forall_mem_cons.mp hS'
    have hw := hk L _ n σ h p e R Z s mm args below meth c H locs cells slots ls hR hZ hC hI hl (List.forall_mem_cons.mpr ⟨(pb_w_R _), hS'⟩) hL h1 h2
    have e : ∀ a c : Int, Int32.ofInt (pb_add a c) = Int32.ofInt a + Int32.ofInt c := fun a c => by unfold pb_add; rw [pb_w_of, Int32.ofInt_add]
    rw [List.map_cons, pb_e, e] at hw
    exact lv_iadd hC.1 hC.2.1 hd hw
  · exact h.elim
theorem pb_s_isub {x : pb_E} {m n0 : Nat} {Q : pb_P} {pc : Nat} {k : pb_K} (hd : decode (pb_code m) pc = .ok (.isub, 1)) (hk : pb_le k (pb_WJ x m n0 Q (pc + 1))) : pb_le (pb_bin pb_sub k) (pb_WJ x m n0 Q pc) := by
  intro L S n σ h p e R Z s mm args below meth c H locs cells slots ls hR hZ hC hI hl hS hL h1 h2
  unfold pb_bin at h
  split at h
  · rename_i c' a' S'
    obtain ⟨-, hS'⟩ := List.forall_mem_cons.mp hS
    obtain ⟨-, hS'⟩ := List.forall_mem_cons.mp hS'
    have hw := hk L _ n σ h p e R Z s mm args below meth c H locs cells slots ls hR hZ hC hI hl (List.forall_mem_cons.mpr ⟨(pb_w_R _), hS'⟩) hL h1 h2
    have e : ∀ a c : Int, Int32.ofInt (pb_sub a c) = Int32.ofInt a - Int32.ofInt c := fun a c => by unfold pb_sub; rw [pb_w_of, Int32.ofInt_sub]
    rw [List.map_cons, pb_e, e] at hw
    exact lv_isub hC.1 hC.2.1 hd hw
  · exact h.elim
theorem pb_s_imul {x : pb_E} {m n0 : Nat} {Q : pb_P} {pc : Nat} {k : pb_K} (hd : decode (pb_code m) pc = .ok (.imul, 1)) (hk : pb_le k (pb_WJ x m n0 Q (pc + 1))) : pb_le (pb_bin pb_mul k) (pb_WJ x m n0 Q pc) := by
  intro L S n σ h p e R Z s mm args below meth c H locs cells slots ls hR hZ hC hI hl hS hL h1 h2
  unfold pb_bin at h
  split at h
  · rename_i c' a' S'
    obtain ⟨-, hS'⟩ := List.forall_mem_cons.mp hS
    obtain ⟨-, hS'⟩ := List.forall_mem_cons.mp hS'
    have hw := hk L _ n σ h p e R Z s mm args below meth c H locs cells slots ls hR hZ hC hI hl (List.forall_mem_cons.mpr ⟨(pb_w_R _), hS'⟩) hL h1 h2
    have e : ∀ a c : Int, Int32.ofInt (pb_mul a c) = Int32.ofInt a * Int32.ofInt c := fun a c => by unfold pb_mul; rw [pb_w_of, Int32.ofInt_mul]
    rw [List.map_cons, pb_e, e] at hw
    exact lv_imul hC.1 hC.2.1 hd hw
  · exact h.elim
theorem pb_s_iand {x : pb_E} {m n0 : Nat} {Q : pb_P} {pc : Nat} {k : pb_K} (hd : decode (pb_code m) pc = .ok (.iand, 1)) (hk : pb_le k (pb_WJ x m n0 Q (pc + 1))) : pb_le (pb_bin pb_and k) (pb_WJ x m n0 Q pc) := by
  intro L S n σ h p e R Z s mm args below meth c H locs cells slots ls hR hZ hC hI hl hS hL h1 h2
  unfold pb_bin at h
  split at h
  · rename_i c' a' S'
    obtain ⟨-, hS'⟩ := List.forall_mem_cons.mp hS
    obtain ⟨-, hS'⟩ := List.forall_mem_cons.mp hS'
    have hw := hk L _ n σ h p e R Z s mm args below meth c H locs cells slots ls hR hZ hC hI hl (List.forall_mem_cons.mpr ⟨(pb_tR _), hS'⟩) hL h1 h2
    have e : ∀ a c : Int, Int32.ofInt (pb_and a c) = Int32.ofInt a &&& Int32.ofInt c := fun a c => Int32.ofInt_toInt _
    rw [List.map_cons, pb_e, e] at hw
    exact lv_iand hC.1 hC.2.1 hd hw
  · exact h.elim
theorem pb_s_ior {x : pb_E} {m n0 : Nat} {Q : pb_P} {pc : Nat} {k : pb_K} (hd : decode (pb_code m) pc = .ok (.ior, 1)) (hk : pb_le k (pb_WJ x m n0 Q (pc + 1))) : pb_le (pb_bin pb_or k) (pb_WJ x m n0 Q pc) := by
  intro L S n σ h p e R Z s mm args below meth c H locs cells slots ls hR hZ hC hI hl hS hL h1 h2
  unfold pb_bin at h
  split at h
  · rename_i c' a' S'
    obtain ⟨-, hS'⟩ := List.forall_mem_cons.mp hS
    obtain ⟨-, hS'⟩ := List.forall_mem_cons.mp hS'
    have hw := hk L _ n σ h p e R Z s mm args below meth c H locs cells slots ls hR hZ hC hI hl (List.forall_mem_cons.mpr ⟨(pb_tR _), hS'⟩) hL h1 h2
    have e : ∀ a c : Int, Int32.ofInt (pb_or a c) = Int32.ofInt a ||| Int32.ofInt c := fun a c => Int32.ofInt_toInt _
    rw [List.map_cons, pb_e, e] at hw
    exact lv_ior hC.1 hC.2.1 hd hw
  · exact h.elim
theorem pb_s_ixor {x : pb_E} {m n0 : Nat} {Q : pb_P} {pc : Nat} {k : pb_K} (hd : decode (pb_code m) pc = .ok (.ixor, 1)) (hk : pb_le k (pb_WJ x m n0 Q (pc + 1))) : pb_le (pb_bin pb_xor k) (pb_WJ x m n0 Q pc) := by
  intro L S n σ h p e R Z s mm args below meth c H locs cells slots ls hR hZ hC hI hl hS hL h1 h2
  unfold pb_bin at h
  split at h
  · rename_i c' a' S'
    obtain ⟨-, hS'⟩ := List.forall_mem_cons.mp hS
    obtain ⟨-, hS'⟩ := List.forall_mem_cons.mp hS'
    have hw := hk L _ n σ h p e R Z s mm args below meth c H locs cells slots ls hR hZ hC hI hl (List.forall_mem_cons.mpr ⟨(pb_tR _), hS'⟩) hL h1 h2
    have e : ∀ a c : Int, Int32.ofInt (pb_xor a c) = Int32.ofInt a ^^^ Int32.ofInt c := fun a c => Int32.ofInt_toInt _
    rw [List.map_cons, pb_e, e] at hw
    exact lv_ixor hC.1 hC.2.1 hd hw
  · exact h.elim
theorem pb_s_ishl {x : pb_E} {m n0 : Nat} {Q : pb_P} {pc : Nat} {k : pb_K} (hd : decode (pb_code m) pc = .ok (.ishl, 1)) (hk : pb_le k (pb_WJ x m n0 Q (pc + 1))) : pb_le (pb_bin pb_shl k) (pb_WJ x m n0 Q pc) := by
  intro L S n σ h p e R Z s mm args below meth c H locs cells slots ls hR hZ hC hI hl hS hL h1 h2
  unfold pb_bin at h
  split at h
  · rename_i c' a' S'
    obtain ⟨-, hS'⟩ := List.forall_mem_cons.mp hS
    obtain ⟨-, hS'⟩ := List.forall_mem_cons.mp hS'
    have hw := hk L _ n σ h p e R Z s mm args below meth c H locs cells slots ls hR hZ hC hI hl (List.forall_mem_cons.mpr ⟨(pb_tR _), hS'⟩) hL h1 h2
    have e : ∀ a c : Int, Int32.ofInt (pb_shl a c) = Int32.ofInt a <<< (Int32.ofInt c &&& 31) := fun a c => Int32.ofInt_toInt _
    rw [List.map_cons, pb_e, e] at hw
    exact lv_ishl hC.1 hC.2.1 hd hw
  · exact h.elim
theorem pb_s_idiv {x : pb_E} {m n0 : Nat} {Q : pb_P} {pc : Nat} {k : pb_K} (hd : decode (pb_code m) pc = .ok (.idiv, 1)) (hk : pb_le k (pb_WJ x m n0 Q (pc + 1))) : pb_le (pb_bin0 pb_div k) (pb_WJ x m n0 Q pc) := by
  intro L S n σ h p e R Z s mm args below meth c H locs cells slots ls hR hZ hC hI hl hS hL h1 h2
  unfold pb_bin0 at h
  split at h
  · rename_i c' a' S'
    obtain ⟨hc', hS'⟩ := List.forall_mem_cons.mp hS
    obtain ⟨-, hS'⟩ := List.forall_mem_cons.mp hS'
    have hw := hk L _ n σ h.2 p e R Z s mm args below meth c H locs cells slots ls hR hZ hC hI hl (List.forall_mem_cons.mpr ⟨pb_tR _, hS'⟩) hL h1 h2
    have e : ∀ a c : Int, Int32.ofInt (pb_div a c) = Int32.ofInt a / Int32.ofInt c := fun a c => Int32.ofInt_toInt _
    rw [List.map_cons, pb_e, e] at hw
    exact lv_idiv hC.1 hC.2.1 hd (fun q => h.1 ((pb_eq0 hc').mp q)) hw
  · exact h.elim
theorem pb_s_irem {x : pb_E} {m n0 : Nat} {Q : pb_P} {pc : Nat} {k : pb_K} (hd : decode (pb_code m) pc = .ok (.irem, 1)) (hk : pb_le k (pb_WJ x m n0 Q (pc + 1))) : pb_le (pb_bin0 pb_rem k) (pb_WJ x m n0 Q pc) := by
  intro L S n σ h p e R Z s mm args below meth c H locs cells slots ls hR hZ hC hI hl hS hL h1 h2
  unfold pb_bin0 at h
  split at h
  · rename_i c' a' S'
    obtain ⟨hc', hS'⟩ := List.forall_mem_cons.mp hS
    obtain ⟨-, hS'⟩ := List.forall_mem_cons.mp hS'
    have hw := hk L _ n σ h.2 p e R Z s mm args below meth c H locs cells slots ls hR hZ hC hI hl (List.forall_mem_cons.mpr ⟨pb_tR _, hS'⟩) hL h1 h2
    have e : ∀ a c : Int, Int32.ofInt (pb_rem a c) = Int32.ofInt a - Int32.ofInt a / Int32.ofInt c * Int32.ofInt c := fun a c => Int32.ofInt_toInt _
    rw [List.map_cons, pb_e, e] at hw
    exact lv_irem hC.1 hC.2.1 hd (fun q => h.1 ((pb_eq0 hc').mp q)) hw
  · exact h.elim
theorem pb_s_dup {x : pb_E} {m n0 : Nat} {Q : pb_P} {pc : Nat} {k : pb_K} (hd : decode (pb_code m) pc = .ok (.dup, 1)) (hk : pb_le k (pb_WJ x m n0 Q (pc + 1))) : pb_le (pb_dup k) (pb_WJ x m n0 Q pc) := by
  intro L S n σ h p e R Z s mm args below meth c H locs cells slots ls hR hZ hC hI hl hS hL h1 h2
  unfold pb_dup at h
  split at h
  · exact lv_dup hC.1 hC.2.1 hd (pb_e_cat _ _) (hk L _ n σ h p e R Z s mm args below meth c H locs cells slots ls hR hZ hC hI hl (List.forall_mem_cons.mpr ⟨(List.forall_mem_cons.mp hS).1, hS⟩) hL h1 h2)
  · exact h.elim
theorem pb_s_pop {x : pb_E} {m n0 : Nat} {Q : pb_P} {pc : Nat} {k : pb_K} (hd : decode (pb_code m) pc = .ok (.pop, 1)) (hk : pb_le k (pb_WJ x m n0 Q (pc + 1))) : pb_le (pb_pop k) (pb_WJ x m n0 Q pc) := by
  intro L S n σ h p e R Z s mm args below meth c H locs cells slots ls hR hZ hC hI hl hS hL h1 h2
  unfold pb_pop at h
  split at h
  · exact lv_pop hC.1 hC.2.1 hd (pb_e_cat _ _) (hk L _ n σ h p e R Z s mm args below meth c H locs cells slots ls hR hZ hC hI hl (List.forall_mem_cons.mp hS).2 hL h1 h2)
  · exact h.elim
theorem pb_s_dup_x1 {x : pb_E} {m n0 : Nat} {Q : pb_P} {pc : Nat} {k : pb_K} (hd : decode (pb_code m) pc = .ok (.dup_x1, 1)) (hk : pb_le k (pb_WJ x m n0 Q (pc + 1))) : pb_le (pb_dup_x1 k) (pb_WJ x m n0 Q pc) := by
  intro L S n σ h p e R Z s mm args below meth c H locs cells slots ls hR hZ hC hI hl hS hL h1 h2
  unfold pb_dup_x1 at h
  split at h
  · obtain ⟨g1, g2⟩ := List.forall_mem_cons.mp hS
    obtain ⟨g2, g3⟩ := List.forall_mem_cons.mp g2
    exact lv_dup_x1 hC.1 hC.2.1 hd (pb_e_cat _ _) (pb_e_cat _ _) (hk L _ n σ h p e R Z s mm args below meth c H locs cells slots ls hR hZ hC hI hl (List.forall_mem_cons.mpr ⟨g1, List.forall_mem_cons.mpr ⟨g2, List.forall_mem_cons.mpr ⟨g1, g3⟩⟩⟩) hL h1 h2)
  · exact h.elim
theorem pb_s_dup_x2 {x : pb_E} {m n0 : Nat} {Q : pb_P} {pc : Nat} {k : pb_K} (hd : decode (pb_code m) pc = .ok (.dup_x2, 1)) (hk : pb_le k (pb_WJ x m n0 Q (pc + 1))) : pb_le (pb_dup_x2 k) (pb_WJ x m n0 Q pc) := by
  intro L S n σ h p e R Z s mm args below meth c H locs cells slots ls hR hZ hC hI hl hS hL h1 h2
  unfold pb_dup_x2 at h
  split at h
  · obtain ⟨g1, g2⟩ := List.forall_mem_cons.mp hS
    obtain ⟨g2, g3⟩ := List.forall_mem_cons.mp g2
    obtain ⟨g3, g4⟩ := List.forall_mem_cons.mp g3
    exact lv_dup_x2 hC.1 hC.2.1 hd (pb_e_cat _ _) (pb_e_cat _ _) (pb_e_cat _ _) (hk L _ n σ h p e R Z s mm args below meth c H locs cells slots ls hR hZ hC hI hl (List.forall_mem_cons.mpr ⟨g1, List.forall_mem_cons.mpr ⟨g2, List.forall_mem_cons.mpr ⟨g3, List.forall_mem_cons.mpr ⟨g1, g4⟩⟩⟩⟩) hL h1 h2)
  · exact h.elim
theorem pb_s_dup2 {x : pb_E} {m n0 : Nat} {Q : pb_P} {pc : Nat} {k : pb_K} (hd : decode (pb_code m) pc = .ok (.dup2, 1)) (hk : pb_le k (pb_WJ x m n0 Q (pc + 1))) : pb_le (pb_dup2 k) (pb_WJ x m n0 Q pc) := by
  intro L S n σ h p e R Z s mm args below meth c H locs cells slots ls hR hZ hC hI hl hS hL h1 h2
  unfold pb_dup2 at h
  split at h
  · obtain ⟨g1, g2⟩ := List.forall_mem_cons.mp hS
    obtain ⟨g2, g3⟩ := List.forall_mem_cons.mp g2
    exact lv_dup2_11 hC.1 hC.2.1 hd (pb_e_cat _ _) (pb_e_cat _ _) (hk L _ n σ h p e R Z s mm args below meth c H locs cells slots ls hR hZ hC hI hl (List.forall_mem_cons.mpr ⟨g1, List.forall_mem_cons.mpr ⟨g2, List.forall_mem_cons.mpr ⟨g1, List.forall_mem_cons.mpr ⟨g2, g3⟩⟩⟩⟩) hL h1 h2)
  · exact h.elim
theorem pb_s_if_eq {x : pb_E} {m n0 : Nat} {Q : pb_P} {pc : Nat} {off : Int} {tgt : Nat} {kt kf : pb_K} (hd : decode (pb_code m) pc = .ok (.ifCond .eq off, 3)) (ht : (pc : Int) + off = (tgt : Int)) (hkt : pb_le kt (pb_WJ x m n0 Q tgt)) (hkf : pb_le kf (pb_WJ x m n0 Q (pc + 3))) : pb_le (pb_if (fun y => y = 0) kt kf) (pb_WJ x m n0 Q pc) := by
  intro L S n σ h p e R Z s mm args below meth c H locs cells slots ls hR hZ hC hI hl hS hL h1 h2
  unfold pb_if at h
  split at h
  · obtain ⟨hy, hS'⟩ := List.forall_mem_cons.mp hS
    exact lv_if_eq hC.1 hC.2.1 hd ht (fun q => hkt L _ n σ (h.1 ((pb_eq0 hy).mp q)) p e R Z s mm args below meth c H locs cells slots ls hR hZ hC hI hl hS' hL h1 h2) (fun q => hkf L _ n σ (h.2 (fun r => q ((pb_eq0 hy).mpr r))) p e R Z s mm args below meth c H locs cells slots ls hR hZ hC hI hl hS' hL h1 h2)
  · exact h.elim
theorem pb_s_icmp_eq {x : pb_E} {m n0 : Nat} {Q : pb_P} {pc : Nat} {off : Int} {tgt : Nat} {kt kf : pb_K} (hd : decode (pb_code m) pc = .ok (.if_icmp .eq off, 3)) (ht : (pc : Int) + off = (tgt : Int)) (hkt : pb_le kt (pb_WJ x m n0 Q tgt)) (hkf : pb_le kf (pb_WJ x m n0 Q (pc + 3))) : pb_le (pb_icmp (fun y z => y = z) kt kf) (pb_WJ x m n0 Q pc) := by
  intro L S n σ h p e R Z s mm args below meth c H locs cells slots ls hR hZ hC hI hl hS hL h1 h2
  unfold pb_icmp at h
  split at h
  · obtain ⟨hz, hS'⟩ := List.forall_mem_cons.mp hS
    obtain ⟨hy, hS'⟩ := List.forall_mem_cons.mp hS'
    exact lv_icmp_eq hC.1 hC.2.1 hd ht (fun q => hkt L _ n σ (h.1 ((pb_eqI hy hz).mp q)) p e R Z s mm args below meth c H locs cells slots ls hR hZ hC hI hl hS' hL h1 h2) (fun q => hkf L _ n σ (h.2 (fun r => q ((pb_eqI hy hz).mpr r))) p e R Z s mm args below meth c H locs cells slots ls hR hZ hC hI hl hS' hL h1 h2)
  · exact h.elim
theorem pb_s_if_ne {x : pb_E} {m n0 : Nat} {Q : pb_P} {pc : Nat} {off : Int} {tgt : Nat} {kt kf : pb_K} (hd : decode (pb_code m) pc = .ok (.ifCond .ne off, 3)) (ht : (pc : Int) + off = (tgt : Int)) (hkt : pb_le kt (pb_WJ x m n0 Q tgt)) (hkf : pb_le kf (pb_WJ x m n0 Q (pc + 3))) : pb_le (pb_if (fun y => ¬ y = 0) kt kf) (pb_WJ x m n0 Q pc) := by
  intro L S n σ h p e R Z s mm args below meth c H locs cells slots ls hR hZ hC hI hl hS hL h1 h2
  unfold pb_if at h
  split at h
  · obtain ⟨hy, hS'⟩ := List.forall_mem_cons.mp hS
    exact lv_if_ne hC.1 hC.2.1 hd ht (fun q => hkt L _ n σ (h.1 ((not_congr (pb_eq0 hy)).mp q)) p e R Z s mm args below meth c H locs cells slots ls hR hZ hC hI hl hS' hL h1 h2) (fun q => hkf L _ n σ (h.2 (fun r => r ((pb_eq0 hy).mp q))) p e R Z s mm args below meth c H locs cells slots ls hR hZ hC hI hl hS' hL h1 h2)
  · exact h.elim
theorem pb_s_icmp_ne {x : pb_E} {m n0 : Nat} {Q : pb_P} {pc : Nat} {off : Int} {tgt : Nat} {kt kf : pb_K} (hd : decode (pb_code m) pc = .ok (.if_icmp .ne off, 3)) (ht : (pc : Int) + off = (tgt : Int)) (hkt : pb_le kt (pb_WJ x m n0 Q tgt)) (hkf : pb_le kf (pb_WJ x m n0 Q (pc + 3))) : pb_le (pb_icmp (fun y z => ¬ y = z) kt kf) (pb_WJ x m n0 Q pc) := by
  intro L S n σ h p e R Z s mm args below meth c H locs cells slots ls hR hZ hC hI hl hS hL h1 h2
  unfold pb_icmp at h
  split at h
  · obtain ⟨hz, hS'⟩ := List.forall_mem_cons.mp hS
    obtain ⟨hy, hS'⟩ := List.forall_mem_cons.mp hS'
    exact lv_icmp_ne hC.1 hC.2.1 hd ht (fun q => hkt L _ n σ (h.1 ((not_congr (pb_eqI hy hz)).mp q)) p e R Z s mm args below meth c H locs cells slots ls hR hZ hC hI hl hS' hL h1 h2) (fun q => hkf L _ n σ (h.2 (fun r => r ((pb_eqI hy hz).mp q))) p e R Z s mm args below meth c H locs cells slots ls hR hZ hC hI hl hS' hL h1 h2)
  · exact h.elim
theorem pb_s_if_lt {x : pb_E} {m n0 : Nat} {Q : pb_P} {pc : Nat} {off : Int} {tgt : Nat} {kt kf : pb_K} (hd : decode (pb_code m) pc = .ok (.ifCond .lt off, 3)) (ht : (pc : Int) + off = (tgt : Int)) (hkt : pb_le kt (pb_WJ x m n0 Q tgt)) (hkf : pb_le kf (pb_WJ x m n0 Q (pc + 3))) : pb_le (pb_if (fun y => y < 0) kt kf) (pb_WJ x m n0 Q pc) := by
  intro L S n σ h p e R Z s mm args below meth c H locs cells slots ls hR hZ hC hI hl hS hL h1 h2
  unfold pb_if at h
  split at h
  · obtain ⟨hy, hS'⟩ := List.forall_mem_cons.mp hS
    exact lv_if_lt hC.1 hC.2.1 hd ht (fun q => hkt L _ n σ (h.1 ((pb_lt0 hy).mp q)) p e R Z s mm args below meth c H locs cells slots ls hR hZ hC hI hl hS' hL h1 h2) (fun q => hkf L _ n σ (h.2 (fun r => q ((pb_lt0 hy).mpr r))) p e R Z s mm args below meth c H locs cells slots ls hR hZ hC hI hl hS' hL h1 h2)
  · exact h.elim
theorem pb_s_icmp_lt {x : pb_E} {m n0 : Nat} {Q : pb_P} {pc : Nat} {off : Int} {tgt : Nat} {kt kf : pb_K} (hd : decode (pb_code m) pc = .ok (.if_icmp .lt off, 3)) (ht : (pc : Int) + off = (tgt : Int)) (hkt : pb_le kt (pb_WJ x m n0 Q tgt)) (hkf : pb_le kf (pb_WJ x m n0 Q (pc + 3))) : pb_le (pb_icmp (fun y z => y < z) kt kf) (pb_WJ x m n0 Q pc) := by
  intro L S n σ h p e R Z s mm args below meth c H locs cells slots ls hR hZ hC hI hl hS hL h1 h2
  unfold pb_icmp at h
  split at h
  · obtain ⟨hz, hS'⟩ := List.forall_mem_cons.mp hS
    obtain ⟨hy, hS'⟩ := List.forall_mem_cons.mp hS'
    exact lv_icmp_lt hC.1 hC.2.1 hd ht (fun q => hkt L _ n σ (h.1 ((pb_ltI hy hz).mp q)) p e R Z s mm args below meth c H locs cells slots ls hR hZ hC hI hl hS' hL h1 h2) (fun q => hkf L _ n σ (h.2 (fun r => q ((pb_ltI hy hz).mpr r))) p e R Z s mm args below meth c H locs cells slots ls hR hZ hC hI hl hS' hL h1 h2)
  · exact h.elim
theorem pb_s_if_ge {x : pb_E} {m n0 : Nat} {Q : pb_P} {pc : Nat} {off : Int} {tgt : Nat} {kt kf : pb_K} (hd : decode (pb_code m) pc = .ok (.ifCond .ge off, 3)) (ht : (pc : Int) + off = (tgt : Int)) (hkt : pb_le kt (pb_WJ x m n0 Q tgt)) (hkf : pb_le kf (pb_WJ x m n0 Q (pc + 3))) : pb_le (pb_if (fun y => 0 ≤ y) kt kf) (pb_WJ x m n0 Q pc) := by
  intro L S n σ h p e R Z s mm args below meth c H locs cells slots ls hR hZ hC hI hl hS hL h1 h2
  unfold pb_if at h
  split at h
  · obtain ⟨hy, hS'⟩ := List.forall_mem_cons.mp hS
    exact lv_if_ge hC.1 hC.2.1 hd ht (fun q => hkt L _ n σ (h.1 ((pb_ge0 hy).mp q)) p e R Z s mm args below meth c H locs cells slots ls hR hZ hC hI hl hS' hL h1 h2) (fun q => hkf L _ n σ (h.2 (fun r => q ((pb_ge0 hy).mpr r))) p e R Z s mm args below meth c H locs cells slots ls hR hZ hC hI hl hS' hL h1 h2)
  · exact h.elim
theorem pb_s_icmp_ge {x : pb_E} {m n0 : Nat} {Q : pb_P} {pc : Nat} {off : Int} {tgt : Nat} {kt kf : pb_K} (hd : decode (pb_code m) pc = .ok (.if_icmp .ge off, 3)) (ht : (pc : Int) + off = (tgt : Int)) (hkt : pb_le kt (pb_WJ x m n0 Q tgt)) (hkf : pb_le kf (pb_WJ x m n0 Q (pc + 3))) : pb_le (pb_icmp (fun y z => z ≤ y) kt kf) (pb_WJ x m n0 Q pc) := by
  intro L S n σ h p e R Z s mm args below meth c H locs cells slots ls hR hZ hC hI hl hS hL h1 h2
  unfold pb_icmp at h
  split at h
  · obtain ⟨hz, hS'⟩ := List.forall_mem_cons.mp hS
    obtain ⟨hy, hS'⟩ := List.forall_mem_cons.mp hS'
    exact lv_icmp_ge hC.1 hC.2.1 hd ht (fun q => hkt L _ n σ (h.1 ((pb_leI hz hy).mp q)) p e R Z s mm args below meth c H locs cells slots ls hR hZ hC hI hl hS' hL h1 h2) (fun q => hkf L _ n σ (h.2 (fun r => q ((pb_leI hz hy).mpr r))) p e R Z s mm args below meth c H locs cells slots ls hR hZ hC hI hl hS' hL h1 h2)
  · exact h.elim
theorem pb_s_if_gt {x : pb_E} {m n0 : Nat} {Q : pb_P} {pc : Nat} {off : Int} {tgt : Nat} {kt kf : pb_K} (hd : decode (pb_code m) pc = .ok (.ifCond .gt off, 3)) (ht : (pc : Int) + off = (tgt : Int)) (hkt : pb_le kt (pb_WJ x m n0 Q tgt)) (hkf : pb_le kf (pb_WJ x m n0 Q (pc + 3))) : pb_le (pb_if (fun y => 0 < y) kt kf) (pb_WJ x m n0 Q pc) := by
  intro L S n σ h p e R Z s mm args below meth c H locs cells slots ls hR hZ hC hI hl hS hL h1 h2
  unfold pb_if at h
  split at h
  · obtain ⟨hy, hS'⟩ := List.forall_mem_cons.mp hS
    exact lv_if_gt hC.1 hC.2.1 hd ht (fun q => hkt L _ n σ (h.1 ((pb_gt0 hy).mp q)) p e R Z s mm args below meth c H locs cells slots ls hR hZ hC hI hl hS' hL h1 h2) (fun q => hkf L _ n σ (h.2 (fun r => q ((pb_gt0 hy).mpr r))) p e R Z s mm args below meth c H locs cells slots ls hR hZ hC hI hl hS' hL h1 h2)
  · exact h.elim
theorem pb_s_icmp_gt {x : pb_E} {m n0 : Nat} {Q : pb_P} {pc : Nat} {off : Int} {tgt : Nat} {kt kf : pb_K} (hd : decode (pb_code m) pc = .ok (.if_icmp .gt off, 3)) (ht : (pc : Int) + off = (tgt : Int)) (hkt : pb_le kt (pb_WJ x m n0 Q tgt)) (hkf : pb_le kf (pb_WJ x m n0 Q (pc + 3))) : pb_le (pb_icmp (fun y z => z < y) kt kf) (pb_WJ x m n0 Q pc) := by
  intro L S n σ h p e R Z s mm args below meth c H locs cells slots ls hR hZ hC hI hl hS hL h1 h2
  unfold pb_icmp at h
  split at h
  · obtain ⟨hz, hS'⟩ := List.forall_mem_cons.mp hS
    obtain ⟨hy, hS'⟩ := List.forall_mem_cons.mp hS'
    exact lv_icmp_gt hC.1 hC.2.1 hd ht (fun q => hkt L _ n σ (h.1 ((pb_ltI hz hy).mp q)) p e R Z s mm args below meth c H locs cells slots ls hR hZ hC hI hl hS' hL h1 h2) (fun q => hkf L _ n σ (h.2 (fun r => q ((pb_ltI hz hy).mpr r))) p e R Z s mm args below meth c H locs cells slots ls hR hZ hC hI hl hS' hL h1 h2)
  · exact h.elim
theorem pb_s_if_le {x : pb_E} {m n0 : Nat} {Q : pb_P} {pc : Nat} {off : Int} {tgt : Nat} {kt kf : pb_K} (hd : decode (pb_code m) pc = .ok (.ifCond .le off, 3)) (ht : (pc : Int) + off = (tgt : Int)) (hkt : pb_le kt (pb_WJ x m n0 Q tgt)) (hkf : pb_le kf (pb_WJ x m n0 Q (pc + 3))) : pb_le (pb_if (fun y => y ≤ 0) kt kf) (pb_WJ x m n0 Q pc) := by
  intro L S n σ h p e R Z s mm args below meth c H locs cells slots ls hR hZ hC hI hl hS hL h1 h2
  unfold pb_if at h
  split at h
  · obtain ⟨hy, hS'⟩ := List.forall_mem_cons.mp hS
    exact lv_if_le hC.1 hC.2.1 hd ht (fun q => hkt L _ n σ (h.1 ((pb_le0 hy).mp q)) p e R Z s mm args below meth c H locs cells slots ls hR hZ hC hI hl hS' hL h1 h2) (fun q => hkf L _ n σ (h.2 (fun r => q ((pb_le0 hy).mpr r))) p e R Z s mm args below meth c H locs cells slots ls hR hZ hC hI hl hS' hL h1 h2)
  · exact h.elim
theorem pb_s_icmp_le {x : pb_E} {m n0 : Nat} {Q : pb_P} {pc : Nat} {off : Int} {tgt : Nat} {kt kf : pb_K} (hd : decode (pb_code m) pc = .ok (.if_icmp .le off, 3)) (ht : (pc : Int) + off = (tgt : Int)) (hkt : pb_le kt (pb_WJ x m n0 Q tgt)) (hkf : pb_le kf (pb_WJ x m n0 Q (pc + 3))) : pb_le (pb_icmp (fun y z => y ≤ z) kt kf) (pb_WJ x m n0 Q pc) := by
  intro L S n σ h p e R Z s mm args below meth c H locs cells slots ls hR hZ hC hI hl hS hL h1 h2
  unfold pb_icmp at h
  split at h
  · obtain ⟨hz, hS'⟩ := List.forall_mem_cons.mp hS
    obtain ⟨hy, hS'⟩ := List.forall_mem_cons.mp hS'
    exact lv_icmp_le hC.1 hC.2.1 hd ht (fun q => hkt L _ n σ (h.1 ((pb_leI hy hz).mp q)) p e R Z s mm args below meth c H locs cells slots ls hR hZ hC hI hl hS' hL h1 h2) (fun q => hkf L _ n σ (h.2 (fun r => q ((pb_leI hy hz).mpr r))) p e R Z s mm args below meth c H locs cells slots ls hR hZ hC hI hl hS' hL h1 h2)
  · exact h.elim
theorem pb_s_goto {x : pb_E} {m n0 : Nat} {Q : pb_P} {pc : Nat} {off : Int} {tgt : Nat} {k : pb_K} (hd : decode (pb_code m) pc = .ok (.goto off, 3)) (ht : (pc : Int) + off = (tgt : Int)) (hk : pb_le k (pb_WJ x m n0 Q tgt)) : pb_le (k) (pb_WJ x m n0 Q pc) := by
  intro L S n σ h p e R Z s mm args below meth c H locs cells slots ls hR hZ hC hI hl hS hL h1 h2
  exact lv_goto hC.1 hC.2.1 hd ht (hk L _ n σ h p e R Z s mm args below meth c H locs cells slots ls hR hZ hC hI hl hS hL h1 h2)
theorem pb_s_ifnull {x : pb_E} {m n0 : Nat} {Q : pb_P} {pc : Nat} {off : Int} {tgt : Nat} {kt kf : pb_K} (hd : decode (pb_code m) pc = .ok (.ifnull off, 3)) (ht : (pc : Int) + off = (tgt : Int)) (hkt : pb_le kt (pb_WJ x m n0 Q tgt)) (hkf : pb_le kf (pb_WJ x m n0 Q (pc + 3))) : pb_le (pb_ifnull kt kf) (pb_WJ x m n0 Q pc) := by
  intro L S n σ h p e R Z s mm args below meth c H locs cells slots ls hR hZ hC hI hl hS hL h1 h2
  unfold pb_ifnull at h
  split at h
  · rename_i y S'
    obtain ⟨hy, hS'⟩ := List.forall_mem_cons.mp hS
    rw [List.map_cons]
    by_cases hn : y < 0
    · rw [pb_e_neg hn]
      exact lv_ifnullN hC.1 hC.2.1 hd ht (hkt L _ n σ (h.1 hn) p e R Z s mm args below meth c H locs cells slots ls hR hZ hC hI hl hS' hL h1 h2)
    · rw [pb_e_ref hn]
      exact lv_ifnull hC.1 hC.2.1 hd (hkf L _ n σ (h.2 hn) p e R Z s mm args below meth c H locs cells slots ls hR hZ hC hI hl hS' hL h1 h2)
  · exact h.elim
theorem pb_s_ifnonnull {x : pb_E} {m n0 : Nat} {Q : pb_P} {pc : Nat} {off : Int} {tgt : Nat} {kt kf : pb_K} (hd : decode (pb_code m) pc = .ok (.ifnonnull off, 3)) (ht : (pc : Int) + off = (tgt : Int)) (hkt : pb_le kt (pb_WJ x m n0 Q tgt)) (hkf : pb_le kf (pb_WJ x m n0 Q (pc + 3))) : pb_le (pb_ifnull kf kt) (pb_WJ x m n0 Q pc) := by
  intro L S n σ h p e R Z s mm args below meth c H locs cells slots ls hR hZ hC hI hl hS hL h1 h2
  unfold pb_ifnull at h
  split at h
  · rename_i y S'
    obtain ⟨hy, hS'⟩ := List.forall_mem_cons.mp hS
    rw [List.map_cons]
    by_cases hn : y < 0
    · rw [pb_e_neg hn]
      exact lv_ifnonnullN hC.1 hC.2.1 hd (hkf L _ n σ (h.1 hn) p e R Z s mm args below meth c H locs cells slots ls hR hZ hC hI hl hS' hL h1 h2)
    · rw [pb_e_ref hn]
      exact lv_ifnonnull hC.1 hC.2.1 hd ht (hkt L _ n σ (h.2 hn) p e R Z s mm args below meth c H locs cells slots ls hR hZ hC hI hl hS' hL h1 h2)
  · exact h.elim
end
section
/-! fields -/
def pb_fd (ci k f t : Nat) (cn fn ds : String) (fin : Bool) (ty : FieldType) : Prop :=
  ∃ (C : String) (T : u_T) (ty0 : Nat → FieldType), pb_cl[ci]? = some (C, T, pb_N ci) ∧ (∀ w ∈ u_ws C T (pb_N ci), w ∈ pb_ALL) ∧ (∀ k, k < pb_N ci → parseFieldDescriptor (T k).2.2.1 = some (ty0 k)) ∧ (∀ a, a < pb_N ci → ∀ b, b < pb_N ci → a ≠ b → (T a).2.1 ≠ (T b).2.1) ∧ T k = (cn, fn, ds, fin) ∧ k < pb_N ci ∧ ci < 100 ∧ pb_N ci ≤ 100 ∧ f = 1 + 100 * ci + k ∧ pb_ft ci k = t ∧ parseFieldDescriptor ds = some ty
section PBF
variable {x : pb_E} {m n0 : Nat} {Q : pb_P} {pc : Nat}
variable {p : Program} {e : Env} {R : Room} {s : State} {mm : MethodId} {args : Array Value} {below : List Frame} {meth : Method} {c : Code} {H : Heap} {locs : List Loc} {cells slots : Nat} {ls : Array Slot} {Qs : State → Prop}
variable {ci k0 f t idx n : Nat} {cn fn ds : String} {fin : Bool} {ty : FieldType} {σ : pb_H} {q z : Int} {rest : List Value}
theorem pb_getW (hC : pb_Cx p s mm args meth c m) (hI : pb_In x s H n σ locs) (hd : decode (pb_code m) pc = .ok (.getfield idx, 3)) (hF : pb_fd ci k0 f t cn fn ds fin ty) (hlink : Cond.fieldLink (pb_y m).cls idx cn fn ds ∈ pb_ALL) (hq : pb_is ci n q)
    (kk : W p x.1 e R s mm args below meth c H locs cells slots Qs (F0 mm (pc + 3) ls (pb_c x t (σ f q 0) :: rest))) : W p x.1 e R s mm args below meth c H locs cells slots Qs (F0 mm pc ls (pb_e x (.inr q) :: rest)) := by
  obtain ⟨g0, g1, g2⟩ := hq
  obtain ⟨j, rfl⟩ := Int.eq_ofNat_of_zero_le g0
  obtain ⟨C, T, ty0, a1, a2, a3, a4, a5, a6, a7, a8, rfl, rfl, a11⟩ := hF
  have hj : j < n := by omega
  have hn9 := hI.2.2.2.1.2.1
  rw [pb_e_pos (by omega)]
  have hts := hC.2.2.2.2.1
  refine va_get (ref := cn) hC.1 hC.2.1 hts a2 hC.2.2.2.1 hI.1 hI.2.1 j ((pb_ws_at hj).trans (by rw [pb_cell_obj g2 a7])) a1 k0 a6 (by rw [a5]; exact hts _ hlink) (fun _ h9 => by rw [a5] at h9 ⊢; exact h9) ?_ hd kk
  rw [List.getElem?_map, List.getElem?_range a6]
  rfl
theorem pb_upR (hR : ∀ f p i, pb_R (σ f p i)) (hz : pb_R z) (f : Nat) (q i : Int) : ∀ f' p' i', pb_R (pb_up σ f q i z f' p' i') := by
  intro f' p' i'
  unfold pb_up
  split
  · exact hz
  · exact hR _ _ _
theorem pb_putW (hC : pb_Cx p s mm args meth c m) (hI : pb_In x s H n σ locs) (hd : decode (pb_code m) pc = .ok (.putfield idx, 3)) (hF : pb_fd ci k0 f t cn fn ds fin ty) (hlink : Cond.fieldLink (pb_y m).cls idx cn fn ds ∈ pb_ALL) (hq : pb_is ci n q) (hz : pb_R z)
    (hfin : fin = false ∨ (fin = true ∧ (pb_y m).name = "<init>" ∧ cn = (pb_y m).cls)) (hn : narrow ty (pb_c x t z) = pb_c x t z) (hfit : fits ty (pb_c x t z) = true)
    (kk : ∀ (H1 : Heap) (locs1 : List Loc), pb_In x s H1 n (pb_up σ f q 0 z) locs1 → W p x.1 e R s mm args below meth c H1 locs1 cells slots Qs (F0 mm (pc + 3) ls rest)) : W p x.1 e R s mm args below meth c H locs cells slots Qs (F0 mm pc ls (pb_c x t z :: pb_e x (.inr q) :: rest)) := by
  obtain ⟨g0, g1, g2⟩ := hq
  obtain ⟨j, rfl⟩ := Int.eq_ofNat_of_zero_le g0
  obtain ⟨C, T, ty0, a1, a2, a3, a4, a5, a6, a7, a8, rfl, rfl, a11⟩ := hF
  have hj : j < n := by omega
  have hn9 := hI.2.2.2.1.2.1
  rw [pb_e_pos (by omega)]
  have hts := hC.2.2.2.2.1
  have hset : (pb_ws x n σ).set j (x.2.2.2.1 + j, .inr (ci, ((List.range (pb_N ci)).map (fun k => pb_c x (pb_ft ci k) (σ (1 + 100 * ci + k) j 0))).set k0 (pb_c x (pb_ft ci k0) z))) = pb_ws x n (pb_up σ (1 + 100 * ci + k0) j 0 z) :=
    pb_ws_set hj (fun i hi => pb_cell_other (by omega)) rfl (pb_cell_putF g2 a7 a6 a8).symm
  have go : ∀ (H1 : Heap) (locs1 : List Loc), va_P x.2.1 pb_cl ((pb_ws x n σ).set j (x.2.2.2.1 + j, .inr (ci, ((List.range (pb_N ci)).map (fun k => pb_c x (pb_ft ci k) (σ (1 + 100 * ci + k) j 0))).set k0 (pb_c x (pb_ft ci k0) z)))) H1 → va_S (fun q => x.2.2.2.1 ≤ q) s.heap H1 locs1 → W p x.1 e R s mm args below meth c H1 locs1 cells slots Qs (F0 mm (pc + 3) ls rest) := by
    intro H1 locs1 hP1 hS1
    rw [hset] at hP1
    exact kk H1 locs1 ⟨hI.1, hP1, hS1, hI.2.2.2.1, pb_upR hI.2.2.2.2 hz _ _ _⟩
  have hat : (pb_ws x n σ)[j]? = some (x.2.2.2.1 + j, .inr (ci, (List.range (pb_N ci)).map (fun k => pb_c x (pb_ft ci k) (σ (1 + 100 * ci + k) j 0)))) := (pb_ws_at hj).trans (by rw [pb_cell_obj g2 a7])
  rcases hfin with rfl | ⟨rfl, h3, h4⟩
  · exact va_put (ref := cn) hC.1 hC.2.1 hts a2 ty0 a3 a4 hC.2.2.2.1 hI.1 hI.2.1 pb_D hI.2.2.1 j hat a1 k0 a6 (by rw [a5]; exact hts _ hlink) (fun _ h9 => by rw [a5] at h9 ⊢; exact h9) (by rw [a5]) (by rw [a5]; exact a11) hn hfit (by simpa using a6) hd (fun H1 locs1 hP1 _ hS1 => go H1 locs1 hP1 hS1)
  · exact va_putF (ref := cn) hC.1 hC.2.1 hts a2 ty0 a3 a4 hC.2.2.2.1 hI.1 hI.2.1 pb_D hI.2.2.1 j hat a1 k0 a6 (by rw [a5]; exact hts _ hlink) (fun _ h9 => by rw [a5] at h9 ⊢; exact h9) (by rw [a5]) (hC.2.2.2.2.2.2.2.trans h3) (by rw [a5]; exact h4) (by rw [a5]; exact a11) hn hfit (by simpa using a6) hd (fun H1 locs1 hP1 _ hS1 => go H1 locs1 hP1 hS1)
end PBF
section PBG
variable {x : pb_E} {m n0 : Nat} {Q : pb_P} {pc : Nat} {ci k0 f t idx : Nat} {cn fn ds : String} {fin : Bool} {ty : FieldType} {k : pb_K}
theorem pb_s_getI (hd : decode (pb_code m) pc = .ok (.getfield idx, 3)) (hF : pb_fd ci k0 f t cn fn ds fin ty) (ht : t ≠ 2) (hlink : Cond.fieldLink (pb_y m).cls idx cn fn ds ∈ pb_ALL) (hk : pb_le k (pb_WJ x m n0 Q (pc + 3))) : pb_le (pb_getI ci f k) (pb_WJ x m n0 Q pc) := by
  intro L S n σ h p e R Z s mm args below meth c H locs cells slots ls hR hZ hC hI hl hS hL h1 h2
  unfold pb_getI at h
  split at h
  · obtain ⟨-, hS'⟩ := List.forall_mem_cons.mp hS
    have hw := hk L _ n σ h.2 p e R Z s mm args below meth c H locs cells slots ls hR hZ hC hI hl (List.forall_mem_cons.mpr ⟨hI.2.2.2.2 _ _ _, hS'⟩) hL h1 h2
    refine pb_getW hC hI hd hF hlink h.1 ?_
    have e9 : ∀ z, pb_c x t z = pb_e x (.inl z) := fun z => by simp [pb_c, ht, pb_e]
    rw [e9]
    exact hw
  · exact h.elim
theorem pb_s_getR (hd : decode (pb_code m) pc = .ok (.getfield idx, 3)) (hF : pb_fd ci k0 f 2 cn fn ds fin ty) (hlink : Cond.fieldLink (pb_y m).cls idx cn fn ds ∈ pb_ALL) (hk : pb_le k (pb_WJ x m n0 Q (pc + 3))) : pb_le (pb_getR ci f k) (pb_WJ x m n0 Q pc) := by
  intro L S n σ h p e R Z s mm args below meth c H locs cells slots ls hR hZ hC hI hl hS hL h1 h2
  unfold pb_getR at h
  split at h
  · obtain ⟨-, hS'⟩ := List.forall_mem_cons.mp hS
    have hw := hk L _ n σ h.2 p e R Z s mm args below meth c H locs cells slots ls hR hZ hC hI hl (List.forall_mem_cons.mpr ⟨hI.2.2.2.2 _ _ _, hS'⟩) hL h1 h2
    exact pb_getW hC hI hd hF hlink h.1 hw
  · exact h.elim
theorem pb_s_putI (hd : decode (pb_code m) pc = .ok (.putfield idx, 3)) (hF : pb_fd ci k0 f 0 cn fn ds fin .int) (hfin : fin = false ∨ (fin = true ∧ (pb_y m).name = "<init>" ∧ cn = (pb_y m).cls)) (hlink : Cond.fieldLink (pb_y m).cls idx cn fn ds ∈ pb_ALL) (hk : pb_le k (pb_WJ x m n0 Q (pc + 3))) : pb_le (pb_putI ci f k) (pb_WJ x m n0 Q pc) := by
  intro L S n σ h p e R Z s mm args below meth c H locs cells slots ls hR hZ hC hI hl hS hL h1 h2
  unfold pb_putI at h
  split at h
  · obtain ⟨hz, hS'⟩ := List.forall_mem_cons.mp hS
    obtain ⟨-, hS'⟩ := List.forall_mem_cons.mp hS'
    exact pb_putW hC hI hd hF hlink h.1 hz hfin rfl rfl (fun H1 locs1 hI1 => hk L _ n _ h.2 p e R Z s mm args below meth c H1 locs1 cells slots ls hR hZ hC hI1 hl hS' hL h1 h2)
  · exact h.elim
theorem pb_s_putZ (hd : decode (pb_code m) pc = .ok (.putfield idx, 3)) (hF : pb_fd ci k0 f 1 cn fn ds fin .boolean) (hfin : fin = false ∨ (fin = true ∧ (pb_y m).name = "<init>" ∧ cn = (pb_y m).cls)) (hlink : Cond.fieldLink (pb_y m).cls idx cn fn ds ∈ pb_ALL) (hk : pb_le k (pb_WJ x m n0 Q (pc + 3))) : pb_le (pb_putZ ci f k) (pb_WJ x m n0 Q pc) := by
  intro L S n σ h p e R Z s mm args below meth c H locs cells slots ls hR hZ hC hI hl hS hL h1 h2
  unfold pb_putZ at h
  split at h
  · obtain ⟨hz, hS'⟩ := List.forall_mem_cons.mp hS
    obtain ⟨-, hS'⟩ := List.forall_mem_cons.mp hS'
    refine pb_putW hC hI hd hF hlink h.1 hz hfin ?_ ?_ (fun H1 locs1 hI1 => hk L _ n _ h.2.2 p e R Z s mm args below meth c H1 locs1 cells slots ls hR hZ hC hI1 hl hS' hL h1 h2)
    · rcases h.2.1 with rfl | rfl <;> rfl
    · rcases h.2.1 with rfl | rfl <;> rfl
  · exact h.elim
theorem pb_s_putR (hd : decode (pb_code m) pc = .ok (.putfield idx, 3)) (hF : pb_fd ci k0 f 2 cn fn ds fin ty) (hty : (∃ C, ty = .object C) ∨ ∃ t, ty = .array t) (hfin : fin = false ∨ (fin = true ∧ (pb_y m).name = "<init>" ∧ cn = (pb_y m).cls)) (hlink : Cond.fieldLink (pb_y m).cls idx cn fn ds ∈ pb_ALL) (hk : pb_le k (pb_WJ x m n0 Q (pc + 3))) : pb_le (pb_putR ci f k) (pb_WJ x m n0 Q pc) := by
  intro L S n σ h p e R Z s mm args below meth c H locs cells slots ls hR hZ hC hI hl hS hL h1 h2
  unfold pb_putR at h
  split at h
  · rename_i v q S'
    obtain ⟨hz, hS'⟩ := List.forall_mem_cons.mp hS
    obtain ⟨-, hS'⟩ := List.forall_mem_cons.mp hS'
    refine pb_putW (t := 2) hC hI hd hF hlink h.1 hz hfin ?_ ?_ (fun H1 locs1 hI1 => hk L _ n _ h.2 p e R Z s mm args below meth c H1 locs1 cells slots ls hR hZ hC hI1 hl hS' hL h1 h2)
    · show narrow ty (pb_e _ (.inr v)) = pb_e _ (.inr v)
      rcases hty with ⟨C, rfl⟩ | ⟨t, rfl⟩ <;> rcases pb_e_isref x v with h9 | ⟨a, h9⟩ <;> rw [h9] <;> rfl
    · show fits ty (pb_e _ (.inr v)) = true
      rcases hty with ⟨C, rfl⟩ | ⟨t, rfl⟩ <;> rcases pb_e_isref x v with h9 | ⟨a, h9⟩ <;> rw [h9] <;> rfl
  · exact h.elim
end PBG
end
section
/-! arrays -/
section PBA
variable {x : pb_E} {m n0 : Nat} {Q : pb_P} {pc : Nat} {k : pb_K}
theorem pb_s_alen {a : Nat} {ty : FieldType} (hd : decode (pb_code m) pc = .ok (.arraylength, 1)) (ha : 100 ≤ a) (ht : ∀ dA : Nat → ClassId, (pb_tys dA)[a - 100]? = some (dA (a - 100), ty)) (hln : ∀ q : Int, pb_R (pb_ln q) ∧ 0 ≤ pb_ln q) (hk : pb_le k (pb_WJ x m n0 Q (pc + 1))) : pb_le (pb_alen a k) (pb_WJ x m n0 Q pc) := by
  intro L S n σ h p e R Z s mm args below meth c H locs cells slots ls hR hZ hC hI hl hS hL h1 h2
  unfold pb_alen at h
  split at h
  · rename_i q S'
    obtain ⟨⟨g0, g1, g2⟩, h⟩ := h
    obtain ⟨j, rfl⟩ := Int.eq_ofNat_of_zero_le g0
    have hn9 := hI.2.2.2.1.2.1
    have hj : j < n := by omega
    obtain ⟨-, hS'⟩ := List.forall_mem_cons.mp hS
    have hw := hk L _ n σ h p e R Z s mm args below meth c H locs cells slots ls hR hZ hC hI hl (List.forall_mem_cons.mpr ⟨(hln _).1, hS'⟩) hL h1 h2
    rw [List.map_cons, pb_e_pos (by omega)]
    rw [List.map_cons] at hw
    have hv : Int32.ofNat (pb_ln j).toNat = Int32.ofInt (pb_ln j) := by
      rw [← Int32.ofInt_eq_ofNat, Int.toNat_of_nonneg (hln _).2]
    by_cases h3 : a < 102
    · exact va_alen hC.1 hC.2.1 hI.1 hI.2.1 j (a - 100) ((pb_ws_at hj).trans (by rw [pb_cell_int g2 ha h3])) (ht _) hv hd hw
    · exact va_alen hC.1 hC.2.1 hI.1 hI.2.1 j (a - 100) ((pb_ws_at hj).trans (by rw [pb_cell_ref g2 (by omega)])) (ht _) hv hd hw
  · exact h.elim
theorem pb_ix {i : Int} {q : Nat} (hi : pb_R i) (h : 0 ≤ i ∧ i < pb_ln q) : vp_in (Int32.ofInt i) (pb_ln q).toNat := pb_inI hi h.1 (by omega)
theorem pb_s_iald (hd : decode (pb_code m) pc = .ok (.iaload, 1)) (hk : pb_le k (pb_WJ x m n0 Q (pc + 1))) : pb_le (pb_ald 100 k) (pb_WJ x m n0 Q pc) := by
  intro L S n σ h p e R Z s mm args below meth c H locs cells slots ls hR hZ hC hI hl hS hL h1 h2
  unfold pb_ald at h
  split at h
  · rename_i i q S'
    obtain ⟨⟨g0, g1, g2⟩, hb, h⟩ := h
    obtain ⟨j, rfl⟩ := Int.eq_ofNat_of_zero_le g0
    have hn9 := hI.2.2.2.1.2.1
    have hj : j < n := by omega
    obtain ⟨hi, hS'⟩ := List.forall_mem_cons.mp hS
    obtain ⟨-, hS'⟩ := List.forall_mem_cons.mp hS'
    have hw := hk L _ n σ h p e R Z s mm args below meth c H locs cells slots ls hR hZ hC hI hl (List.forall_mem_cons.mpr ⟨hI.2.2.2.2 _ _ _, hS'⟩) hL h1 h2
    rw [List.map_cons, List.map_cons, pb_e_pos (by omega)]
    refine va_iald hC.1 hC.2.1 hI.1 hI.2.1 j 0 ((pb_ws_at hj).trans (by rw [pb_cell_int g2 (by omega) (by omega)])) rfl (pb_ix hi hb) hd ?_
    rw [pb_clN hi, Int.toNat_of_nonneg hb.1]
    exact hw
  · exact h.elim
theorem pb_s_zald (hd : decode (pb_code m) pc = .ok (.baload, 1)) (hk : pb_le k (pb_WJ x m n0 Q (pc + 1))) : pb_le (pb_ald 101 k) (pb_WJ x m n0 Q pc) := by
  intro L S n σ h p e R Z s mm args below meth c H locs cells slots ls hR hZ hC hI hl hS hL h1 h2
  unfold pb_ald at h
  split at h
  · rename_i i q S'
    obtain ⟨⟨g0, g1, g2⟩, hb, h⟩ := h
    obtain ⟨j, rfl⟩ := Int.eq_ofNat_of_zero_le g0
    have hn9 := hI.2.2.2.1.2.1
    have hj : j < n := by omega
    obtain ⟨hi, hS'⟩ := List.forall_mem_cons.mp hS
    obtain ⟨-, hS'⟩ := List.forall_mem_cons.mp hS'
    have hw := hk L _ n σ h p e R Z s mm args below meth c H locs cells slots ls hR hZ hC hI hl (List.forall_mem_cons.mpr ⟨hI.2.2.2.2 _ _ _, hS'⟩) hL h1 h2
    rw [List.map_cons, List.map_cons, pb_e_pos (by omega)]
    refine va_zald hC.1 hC.2.1 hI.1 hI.2.1 j 1 ((pb_ws_at hj).trans (by rw [pb_cell_int g2 (by omega) (by omega)])) rfl (pb_ix hi hb) hd ?_
    rw [pb_clN hi, Int.toNat_of_nonneg hb.1]
    exact hw
  · exact h.elim
theorem pb_s_aald {a : Nat} {C : String} (hd : decode (pb_code m) pc = .ok (.aaload, 1)) (ha : 102 ≤ a) (ht : ∀ dA : Nat → ClassId, (pb_tys dA)[a - 100]? = some (dA (a - 100), .object C)) (hk : pb_le k (pb_WJ x m n0 Q (pc + 1))) : pb_le (pb_aldR a k) (pb_WJ x m n0 Q pc) := by
  intro L S n σ h p e R Z s mm args below meth c H locs cells slots ls hR hZ hC hI hl hS hL h1 h2
  unfold pb_aldR at h
  split at h
  · rename_i i q S'
    obtain ⟨⟨g0, g1, g2⟩, hb, h⟩ := h
    obtain ⟨j, rfl⟩ := Int.eq_ofNat_of_zero_le g0
    have hn9 := hI.2.2.2.1.2.1
    have hj : j < n := by omega
    obtain ⟨hi, hS'⟩ := List.forall_mem_cons.mp hS
    obtain ⟨-, hS'⟩ := List.forall_mem_cons.mp hS'
    have hw := hk L _ n σ h p e R Z s mm args below meth c H locs cells slots ls hR hZ hC hI hl (List.forall_mem_cons.mpr ⟨hI.2.2.2.2 _ _ _, hS'⟩) hL h1 h2
    rw [List.map_cons, List.map_cons, pb_e_pos (by omega)]
    refine va_aldq hC.1 hC.2.1 hI.1 hI.2.1 j (a - 100) ((pb_ws_at hj).trans (by rw [pb_cell_ref g2 ha])) (ht _) (pb_ix hi hb) hd ?_
    rw [pb_clN hi, Int.toNat_of_nonneg hb.1, ← pb_e_rf]
    exact hw
  · exact h.elim
theorem pb_s_iast (hd : decode (pb_code m) pc = .ok (.iastore, 1)) (hk : pb_le k (pb_WJ x m n0 Q (pc + 1))) : pb_le (pb_ast 100 k) (pb_WJ x m n0 Q pc) := by
  intro L S n σ h p e R Z s mm args below meth c H locs cells slots ls hR hZ hC hI hl hS hL h1 h2
  unfold pb_ast at h
  split at h
  · rename_i v i q S'
    obtain ⟨⟨g0, g1, g2⟩, hb, h⟩ := h
    obtain ⟨j, rfl⟩ := Int.eq_ofNat_of_zero_le g0
    have hn9 := hI.2.2.2.1.2.1
    have hj : j < n := by omega
    obtain ⟨hv, hS'⟩ := List.forall_mem_cons.mp hS
    obtain ⟨hi, hS'⟩ := List.forall_mem_cons.mp hS'
    obtain ⟨-, hS'⟩ := List.forall_mem_cons.mp hS'
    rw [List.map_cons, List.map_cons, List.map_cons, pb_e_pos (by omega)]
    refine va_iast hC.1 hC.2.1 hI.1 hI.2.1 pb_D hI.2.2.1 j 0 ((pb_ws_at hj).trans (by rw [pb_cell_int g2 (by omega) (by omega)])) rfl (pb_ix hi hb) hd (fun H1 locs1 hP1 _ hS1 => ?_)
    rw [pb_clN hi, pb_ws_set hj (fun i2 hi2 => pb_cell_other (by omega)) rfl (pb_cell_putA g2 (by omega) (by omega) hb.1).symm] at hP1
    exact hk L _ n _ h p e R Z s mm args below meth c H1 locs1 cells slots ls hR hZ hC ⟨hI.1, hP1, hS1, hI.2.2.2.1, pb_upR hI.2.2.2.2 hv _ _ _⟩ hl hS' hL h1 h2
  · exact h.elim
theorem pb_s_zast (hd : decode (pb_code m) pc = .ok (.bastore, 1)) (hk : pb_le k (pb_WJ x m n0 Q (pc + 1))) : pb_le (pb_astZ 101 k) (pb_WJ x m n0 Q pc) := by
  intro L S n σ h p e R Z s mm args below meth c H locs cells slots ls hR hZ hC hI hl hS hL h1 h2
  unfold pb_astZ at h
  split at h
  · rename_i v i q S'
    obtain ⟨⟨g0, g1, g2⟩, hb, h01, h⟩ := h
    obtain ⟨j, rfl⟩ := Int.eq_ofNat_of_zero_le g0
    have hn9 := hI.2.2.2.1.2.1
    have hj : j < n := by omega
    obtain ⟨hv, hS'⟩ := List.forall_mem_cons.mp hS
    obtain ⟨hi, hS'⟩ := List.forall_mem_cons.mp hS'
    obtain ⟨-, hS'⟩ := List.forall_mem_cons.mp hS'
    rw [List.map_cons, List.map_cons, List.map_cons, pb_e_pos (by omega)]
    have hnar : vp_nar .boolean (Int32.ofInt v) = Int32.ofInt v := by rcases h01 with rfl | rfl <;> rfl
    refine va_zast hC.1 hC.2.1 hI.1 hI.2.1 pb_D hI.2.2.1 j 1 ((pb_ws_at hj).trans (by rw [pb_cell_int g2 (by omega) (by omega)])) rfl (pb_ix hi hb) hd (fun H1 locs1 hP1 _ hS1 => ?_)
    rw [hnar, pb_clN hi, pb_ws_set hj (fun i2 hi2 => pb_cell_other (by omega)) rfl (pb_cell_putA g2 (by omega) (by omega) hb.1).symm] at hP1
    exact hk L _ n _ h p e R Z s mm args below meth c H1 locs1 cells slots ls hR hZ hC ⟨hI.1, hP1, hS1, hI.2.2.2.1, pb_upR hI.2.2.2.2 hv _ _ _⟩ hl hS' hL h1 h2
  · exact h.elim
theorem pb_s_aast {a ci : Nat} {r : vw_C} (hd : decode (pb_code m) pc = .ok (.aastore, 1)) (ha : 102 ≤ a) (ht : ∀ dA : Nat → ClassId, (pb_tys dA)[a - 100]? = some (dA (a - 100), .object r.1)) (hc : pb_cl[ci]? = some r) (hci : ci < 100) (hk : pb_le k (pb_WJ x m n0 Q (pc + 1))) : pb_le (pb_astR a ci k) (pb_WJ x m n0 Q pc) := by
  intro L S n σ h p e R Z s mm args below meth c H locs cells slots ls hR hZ hC hI hl hS hL h1 h2
  unfold pb_astR at h
  split at h
  · rename_i v i q S'
    obtain ⟨⟨g0, g1, g2⟩, hb, ⟨e0, e1, e2⟩, h⟩ := h
    obtain ⟨j, rfl⟩ := Int.eq_ofNat_of_zero_le g0
    obtain ⟨w, rfl⟩ := Int.eq_ofNat_of_zero_le e0
    have hn9 := hI.2.2.2.1.2.1
    have hj : j < n := by omega
    have hw : w < n := by omega
    obtain ⟨hv, hS'⟩ := List.forall_mem_cons.mp hS
    obtain ⟨hi, hS'⟩ := List.forall_mem_cons.mp hS'
    obtain ⟨-, hS'⟩ := List.forall_mem_cons.mp hS'
    rw [List.map_cons, List.map_cons, List.map_cons, pb_e_pos (j := j) (by omega), pb_e_pos (j := w) (by omega)]
    refine va_astq hC.1 hC.2.1 hI.1 hI.2.1 pb_D hI.2.2.1 j (a - 100) w ci ((pb_ws_at hj).trans (by rw [pb_cell_ref g2 ha])) (ht _) ((pb_ws_at hw).trans (by rw [pb_cell_obj e2 hci])) hc (pb_ix hi hb) hd (fun H1 locs1 hP1 _ hS1 => ?_)
    rw [pb_clN hi, pb_ws_set (σ' := pb_up σ 0 j i w) hj (fun i2 hi2 => pb_cell_other (by omega)) rfl (by rw [pb_cell_putQ g2 ha hb.1 (by omega) (by omega), Int.toNat_natCast])] at hP1
    exact hk L _ n _ h p e R Z s mm args below meth c H1 locs1 cells slots ls hR hZ hC ⟨hI.1, hP1, hS1, hI.2.2.2.1, pb_upR hI.2.2.2.2 hv _ _ _⟩ hl hS' hL h1 h2
  · exact h.elim
end PBA
/-! answers -/
section PBR
variable {x : pb_E} {m n0 : Nat} {Q : pb_P} {pc : Nat}
theorem pb_s_vretN {lim : Nat} (hd : decode (pb_code m) pc = .ok (.return_, 1)) (hr : pb_rt m = none) (hlim : lim = n0 + pb_mc m) : pb_le (pb_vretN lim Q) (pb_WJ x m n0 Q pc) := by
  intro L S n σ h p e R Z s mm args below meth c H locs cells slots ls hR hZ hC hI hl hS hL h1 h2
  unfold pb_vretN at h
  split at h
  · have hc : cells = pb_mc m := by omega
    subst hc
    subst h2
    obtain rfl : n = n0 + pb_mc m := h1.1
    have hw := hZ pc ls (.inl 0) σ H locs _ hd (Or.inl ⟨hr, rfl⟩) h.2 (by unfold pb_vR pb_R; omega) hI
    rw [show pb_vd m = true by unfold pb_vd; rw [hr]; rfl] at hw
    exact hw
  · exact h.elim
theorem pb_s_vret (hd : decode (pb_code m) pc = .ok (.return_, 1)) (hr : pb_rt m = none) (hmc : pb_mc m = 0) : pb_le (pb_vret Q) (pb_WJ x m n0 Q pc) := by
  intro L S n σ h p e R Z s mm args below meth c H locs cells slots ls hR hZ hC hI hl hS hL h1 h2
  unfold pb_vret at h
  split at h
  · have hc : cells = pb_mc m := by omega
    subst hc
    subst h2
    obtain rfl : n = n0 + pb_mc m := h1.1
    have hw := hZ pc ls (.inl 0) σ H locs _ hd (Or.inl ⟨hr, rfl⟩) h (by unfold pb_vR pb_R; omega) hI
    rw [show pb_vd m = true by unfold pb_vd; rw [hr]; rfl] at hw
    exact hw
  · exact h.elim
theorem pb_s_iret (hd : decode (pb_code m) pc = .ok (.ireturn, 1)) (hr : pb_rt m = some .int) (hmc : pb_mc m = 0) : pb_le (pb_iret Q) (pb_WJ x m n0 Q pc) := by
  intro L S n σ h p e R Z s mm args below meth c H locs cells slots ls hR hZ hC hI hl hS hL h1 h2
  unfold pb_iret at h
  split at h
  · have hc : cells = pb_mc m := by omega
    subst hc
    subst h2
    obtain rfl : n = n0 + pb_mc m := h1.1
    obtain ⟨hv, -⟩ := List.forall_mem_cons.mp hS
    have hw := hZ pc ls _ σ H locs _ hd (Or.inr (Or.inl ⟨hr, rfl, _, rfl⟩)) h hv hI
    rw [show pb_vd m = false by unfold pb_vd; rw [hr]; rfl] at hw
    exact hw
  · exact h.elim
theorem pb_s_zret (hd : decode (pb_code m) pc = .ok (.ireturn, 1)) (hr : pb_rt m = some .boolean) (hmc : pb_mc m = 0) : pb_le (pb_zret Q) (pb_WJ x m n0 Q pc) := by
  intro L S n σ h p e R Z s mm args below meth c H locs cells slots ls hR hZ hC hI hl hS hL h1 h2
  unfold pb_zret at h
  split at h
  · have hc : cells = pb_mc m := by omega
    subst hc
    subst h2
    obtain rfl : n = n0 + pb_mc m := h1.1
    obtain ⟨hv, -⟩ := List.forall_mem_cons.mp hS
    have hw := hZ pc ls _ σ H locs _ hd (Or.inr (Or.inr (Or.inl ⟨hr, rfl, h.1.imp (congrArg _) (congrArg _)⟩))) h.2 hv hI
    rw [show pb_vd m = false by unfold pb_vd; rw [hr]; rfl] at hw
    exact hw
  · exact h.elim
theorem pb_s_zretN {lim : Nat} (hd : decode (pb_code m) pc = .ok (.ireturn, 1)) (hr : pb_rt m = some .boolean) (hlim : lim = n0 + pb_mc m) : pb_le (pb_zretN lim Q) (pb_WJ x m n0 Q pc) := by
  intro L S n σ h p e R Z s mm args below meth c H locs cells slots ls hR hZ hC hI hl hS hL h1 h2
  unfold pb_zretN at h
  split at h
  · have hc : cells = pb_mc m := by omega
    subst hc
    subst h2
    obtain rfl : n = n0 + pb_mc m := h1.1
    obtain ⟨hv, -⟩ := List.forall_mem_cons.mp hS
    have hw := hZ pc ls _ σ H locs _ hd (Or.inr (Or.inr (Or.inl ⟨hr, rfl, h.2.1.imp (congrArg _) (congrArg _)⟩))) h.2.2 hv hI
    rw [show pb_vd m = false by unfold pb_vd; rw [hr]; rfl] at hw
    exact hw
  · exact h.elim
theorem pb_s_aret {C : String} (hd : decode (pb_code m) pc = .ok (.areturn, 1)) (hr : pb_rt m = some (.object C)) (hmc : pb_mc m = 0) : pb_le (pb_aret Q) (pb_WJ x m n0 Q pc) := by
  intro L S n σ h p e R Z s mm args below meth c H locs cells slots ls hR hZ hC hI hl hS hL h1 h2
  unfold pb_aret at h
  split at h
  · have hc : cells = pb_mc m := by omega
    subst hc
    subst h2
    obtain rfl : n = n0 + pb_mc m := h1.1
    obtain ⟨hv, -⟩ := List.forall_mem_cons.mp hS
    have hw := hZ pc ls _ σ H locs _ hd (Or.inr (Or.inr (Or.inr ⟨_, _, hr, rfl, rfl⟩))) h hv hI
    rw [show pb_vd m = false by unfold pb_vd; rw [hr]; rfl] at hw
    exact hw
  · exact h.elim
end PBR
/-! switches -/
section PBS
variable {x : pb_E} {m n0 : Nat} {Q : pb_P} {pc : Nat}
theorem pb_sw_spec : ∀ (r : List (Int × pb_K)) {d : pb_K} {L : pb_L} {S : List pb_V} {n : Nat} {σ : pb_H} {y : Int}, pb_sw r d L S n σ y → (∃ (i : Nat) (a : Int) (k : pb_K), r[i]? = some (a, k) ∧ y = a ∧ k L S n σ) ∨ ((∀ (i : Nat) (a : Int) (k : pb_K), r[i]? = some (a, k) → ¬ y = a) ∧ d L S n σ)
  | [], d, L, S, n, σ, y, h => Or.inr ⟨fun i a k h => by simp at h, h⟩
  | (a, k) :: r, d, L, S, n, σ, y, h => by
    obtain ⟨g1, g2⟩ := h
    by_cases hy : y = a
    · exact Or.inl ⟨0, a, k, rfl, hy, g1 hy⟩
    · rcases pb_sw_spec r (g2 hy) with ⟨i, a', k', h1, h2, h3⟩ | ⟨h1, h2⟩
      · exact Or.inl ⟨i + 1, a', k', h1, h2, h3⟩
      · refine Or.inr ⟨fun i a' k' h => ?_, h2⟩
        cases i with
        | zero => cases h; exact hy
        | succ i => exact h1 i a' k' h
theorem pb_s_table {r : List (Int × pb_K)} {d : pb_K} {dflt lo hi : Int} {offs : Array Int} {len td : Nat} (hd : decode (pb_code m) pc = .ok (.tableswitch dflt lo hi offs, len)) (htd : (pc : Int) + dflt = (td : Int)) (hkd : pb_le d (pb_WJ x m n0 Q td))
    (hr : ∀ (i : Nat) (a : Int) (k : pb_K), r[i]? = some (a, k) → lo ≤ a ∧ a ≤ hi ∧ ∃ (off : Int) (tgt : Nat), offs[(a - lo).toNat]? = some off ∧ (pc : Int) + off = (tgt : Int) ∧ pb_le k (pb_WJ x m n0 Q tgt)) (hall : ∀ y : Int, lo ≤ y → y ≤ hi → ∃ (i : Nat) (k : pb_K), r[i]? = some (y, k)) : pb_le (pb_switch r d) (pb_WJ x m n0 Q pc) := by
  intro L S n σ h p e R Z s mm args below meth c H locs cells slots ls hR hZ hC hI hl hS hL h1 h2
  unfold pb_switch at h
  split at h
  · rename_i y S'
    obtain ⟨hy, hS'⟩ := List.forall_mem_cons.mp hS
    have hyi : (Int32.ofInt y).toInt = y := pb_w_id hy
    rcases pb_sw_spec r h with ⟨i, a, k, g1, rfl, g3⟩ | ⟨g1, g2⟩
    · obtain ⟨b1, b2, off, tgt, b3, b4, b5⟩ := hr i y k g1
      exact lv_tableIn hC.1 hC.2.1 hd (by rw [hyi]; omega) (by rw [hyi]; omega) (by rw [hyi]; exact b3) b4 (b5 L _ n σ g3 p e R Z s mm args below meth c H locs cells slots ls hR hZ hC hI hl hS' hL h1 h2)
    · refine lv_tableOut hC.1 hC.2.1 hd ?_ htd (hkd L _ n σ g2 p e R Z s mm args below meth c H locs cells slots ls hR hZ hC hI hl hS' hL h1 h2)
      rw [hyi]
      by_cases q1 : y < lo
      · exact Or.inl q1
      · by_cases q2 : hi < y
        · exact Or.inr q2
        · obtain ⟨i, k, hik⟩ := hall y (by omega) (by omega)
          exact absurd rfl (g1 i y k hik)
  · exact h.elim
end PBS
end
section
/-! the script, new cells -/
section PBN
variable {x : pb_E} {m n0 : Nat} {Q : pb_P} {pc : Nat} {k : pb_K}
theorem pb_e_scr (x : pb_E) : pb_e x (.inr 1000000) = .ref x.2.2.2.2.1 := by
  rw [pb_e_ref (by omega)]
  unfold pb_ad
  rw [if_pos rfl]
theorem pb_s_sld (hd : decode (pb_code m) pc = .ok (.iaload, 1)) (hk : pb_le k (pb_WJ x m n0 Q (pc + 1))) : pb_le (pb_sld x k) (pb_WJ x m n0 Q pc) := by
  intro L S n σ h p e R Z s mm args below meth c H locs cells slots ls hR hZ hC hI hl hS hL h1 h2
  unfold pb_sld at h
  split at h
  · rename_i i q S'
    obtain ⟨rfl, hb, h⟩ := h
    obtain ⟨hi, hS'⟩ := List.forall_mem_cons.mp hS
    obtain ⟨-, hS'⟩ := List.forall_mem_cons.mp hS'
    have hw := hk L _ n σ h p e R Z s mm args below meth c H locs cells slots ls hR hZ hC hI hl (List.forall_mem_cons.mpr ⟨pb_tR _, hS'⟩) hL h1 h2
    have hX := hI.2.2.2.1
    rw [List.map_cons, List.map_cons, pb_e_scr]
    refine va_sld hC.1 hC.2.1 hX.2.2.1 (Nat.lt_of_lt_of_le hX.2.2.2.1 hX.1) (fun h9 => absurd hX.2.2.2.1 (Nat.not_lt.mpr h9)) hI.2.2.1 (pb_inI hi hb.1 (by omega)) hd ?_
    rw [pb_clN hi]
    rw [List.map_cons, pb_e, Int32.ofInt_toInt] at hw
    exact hw
  · exact h.elim
theorem pb_s_slen (hd : decode (pb_code m) pc = .ok (.arraylength, 1)) (hk : pb_le k (pb_WJ x m n0 Q (pc + 1))) : pb_le (pb_slen x k) (pb_WJ x m n0 Q pc) := by
  intro L S n σ h p e R Z s mm args below meth c H locs cells slots ls hR hZ hC hI hl hS hL h1 h2
  unfold pb_slen at h
  split at h
  · rename_i q S'
    obtain ⟨rfl, hb, h⟩ := h
    obtain ⟨-, hS'⟩ := List.forall_mem_cons.mp hS
    have hw := hk L _ n σ h p e R Z s mm args below meth c H locs cells slots ls hR hZ hC hI hl (List.forall_mem_cons.mpr ⟨(by unfold pb_vR pb_R; omega), hS'⟩) hL h1 h2
    have hX := hI.2.2.2.1
    rw [List.map_cons, pb_e_scr]
    refine va_slen hC.1 hC.2.1 hX.2.2.1 (Nat.lt_of_lt_of_le hX.2.2.2.1 hX.1) (fun h9 => absurd hX.2.2.2.1 (Nat.not_lt.mpr h9)) hI.2.2.1 hd ?_
    rw [List.map_cons, pb_e, Int32.ofInt_eq_ofNat] at hw
    exact hw
  · exact h.elim
theorem pb_fr {p : Program} {e : Env} {R : Room} {s : State} {mm : MethodId} {args : Array Value} {below : List Frame} {meth : Method} {c : Code} {H1 : Heap} {locs : List Loc} {cells slots : Nat} {Qs : State → Prop} {g : JFrame} {n q : Nat} {σ : pb_H} {E : va_E} (hP1 : va_P x.2.1 pb_cl (pb_ws x n σ ++ [(q, E)]) H1) (hD1 : va_D (fun q => x.2.2.2.1 ≤ q) (pb_ws x n σ ++ [(q, E)])) (hn : n = n0 + cells) (hs : s.heap.size = x.2.2.2.1 + n0)
    (kk : q = x.2.2.2.1 + n → W p x.1 e R s mm args below meth c H1 locs (cells + 1) slots Qs g) : W p x.1 e R s mm args below meth c H1 locs (cells + 1) slots Qs g := by
  intro T hT X
  have h1 := X.heapSize
  rw [hT] at h1
  have hlen : (pb_ws x n σ).length = n := by simp [pb_ws]
  have hget : (pb_ws x n σ ++ [(q, E)])[n]? = some (q, E) := by
    rw [List.getElem?_append_right (by omega), hlen, Nat.sub_self]
    rfl
  have h2 := (hP1 n _ hget).lt
  have h3 := hD1.2 n _ hget
  dsimp only at h2 h3
  refine kk ?_ T hT X
  by_cases h4 : q < x.2.2.2.1 + n
  · exfalso
    have hi : q - x.2.2.2.1 < n := by omega
    have hg2 : (pb_ws x n σ ++ [(q, E)])[q - x.2.2.2.1]? = some (x.2.2.2.1 + (q - x.2.2.2.1), pb_cell x σ (q - x.2.2.2.1)) := by
      rw [List.getElem?_append_left (by omega)]
      exact pb_ws_at hi
    have := hD1.1 (q - x.2.2.2.1) n _ _ hg2 hget (by dsimp only; omega)
    omega
  · omega
theorem pb_grow {n : Nat} {σ : pb_H} {d : Nat → Int} {E : va_E} {H1 : Heap} (hP1 : va_P x.2.1 pb_cl (pb_ws x n σ ++ [(x.2.2.2.1 + n, E)]) H1) (hE : E = pb_cell x (pb_clr σ n d) n) : va_P x.2.1 pb_cl (pb_ws x (n + 1) (pb_clr σ n d)) H1 := by
  have hlen : (pb_ws x n σ).length = n := by simp [pb_ws]
  intro k q hk
  obtain ⟨hl, rfl⟩ := pb_ws_in hk
  by_cases h : k = n
  · subst h
    rw [← hE]
    refine hP1 k _ ?_
    rw [List.getElem?_append_right (by omega), hlen, Nat.sub_self]
    rfl
  · rw [pb_cell_clr h]
    refine hP1 k _ ?_
    rw [List.getElem?_append_left (by omega)]
    exact pb_ws_at (by omega)
theorem pb_clrR {n : Nat} {σ : pb_H} {d : Nat → Int} (hR : ∀ f p i, pb_R (σ f p i)) (hd : ∀ f, pb_R (d f)) : ∀ f p i, pb_R (pb_clr σ n d f p i) := by
  intro f p i
  unfold pb_clr
  split
  · exact hd f
  · exact hR f p i
theorem pb_s_new {lim ci idx : Nat} {C : String} {T : u_T} {ty0 : Nat → FieldType} (hd : decode (pb_code m) pc = .ok (.new idx, 3)) (hc : pb_cl[ci]? = some (C, T, pb_N ci)) (hin : ∀ w ∈ u_ws C T (pb_N ci), w ∈ pb_ALL) (hty : ∀ k, k < pb_N ci → parseFieldDescriptor (T k).2.2.1 = some (ty0 k)) (hci : ci < 100) (hN : pb_N ci ≤ 64) (hdR : ∀ f, pb_R (pb_df f))
    (hdf : ∀ k, k < pb_N ci → (pb_ft ci k = 2 ∧ defaultValue (ty0 k) = .null ∧ pb_df (1 + 100 * ci + k) = -1) ∨ (¬ pb_ft ci k = 2 ∧ defaultValue (ty0 k) = .int 0 ∧ pb_df (1 + 100 * ci + k) = 0)) (h1c : Cond.classLink (pb_y m).cls idx C ∈ pb_ALL) (h2c : Cond.instantiable C (pb_N ci) ∈ pb_ALL) (h3c : Cond.initialized C ∈ pb_ALL) (hlim : lim = n0 + pb_mc m) (hk : pb_le k (pb_WJ x m n0 Q (pc + 3))) : pb_le (pb_new lim ci k) (pb_WJ x m n0 Q pc) := by
  intro L S n σ h p e R Z s mm args below meth c H locs cells slots ls hR hZ hC hI hl hS hL h1 h2
  obtain ⟨e1, e2, e3, h⟩ := h
  have hts := hC.2.2.2.2.1
  refine va_new (ci := ci) (fs := (List.range (pb_N ci)).map (fun k => pb_c x (pb_ft ci k) (pb_clr σ n pb_df (1 + 100 * ci + k) n 0))) hC.1 hC.2.1 hts hin ty0 hty hC.2.2.2.1 (hts _ h1c) (hts _ h2c) (hts _ h3c) hI.1 hI.2.1 pb_D hI.2.2.1 (fun q hq => Nat.le_trans hI.2.2.2.1.1 hq) hc ?_ ?_ ?_ hd (fun q H1 hP1 hD1 hS1 => ?_)
  · intro j hj
    unfold vp_V
    rw [List.getD_eq_getElem?_getD, List.getElem?_map, List.getElem?_range hj]
    simp only [Option.map_some, Option.getD_some, pb_clr, if_true]
    unfold pb_c
    rcases hdf j hj with ⟨g1, g2, g3⟩ | ⟨g1, g2, g3⟩
    · rw [if_pos g1, g2, g3, pb_e_neg (by omega)]
    · rw [if_neg g1, g2, g3]
      rfl
  · have := hR.2.1
    omega
  · have := hR.2.2.1
    omega
  · refine pb_fr hP1 hD1 h1.1 h1.2.1 (fun hq => ?_)
    subst hq
    refine W.widen (k := cells + 1) (n := 64 * (cells + 1)) (Nat.le_refl _) (by omega) ?_
    have hw := hk L _ (n + 1) _ h p e R Z s mm args below meth c H1 locs (cells + 1) (64 * (cells + 1)) ls hR hZ hC ⟨hI.1, pb_grow hP1 (by rw [pb_cell_obj e1 hci]), hS1, ⟨hI.2.2.2.1.1, by omega, hI.2.2.2.1.2.2⟩, pb_clrR hI.2.2.2.2 hdR⟩ hl (List.forall_mem_cons.mpr ⟨(by unfold pb_vR pb_R; omega), hS⟩) hL ⟨by omega, h1.2.1, by omega⟩ rfl
    rw [List.map_cons, pb_e_pos (by omega)] at hw
    exact hw
theorem pb_s_newI {lim : Nat} (hd : decode (pb_code m) pc = .ok (.newarray .int, 2)) (harr : Cond.arrayClass .int ∈ pb_ALL) (hlim : lim = n0 + pb_mc m) (hk : pb_le k (pb_WJ x m n0 Q (pc + 2))) : pb_le (pb_newa lim 100 0 k) (pb_WJ x m n0 Q pc) := by
  intro L S n σ h p e R Z s mm args below meth c H locs cells slots ls hR hZ hC hI hl hS hL h1 h2
  unfold pb_newa at h
  split at h
  · rename_i z S'
    obtain ⟨e1, e2, ⟨e3, e4⟩, e5, e6, h⟩ := h
    have hts := hC.2.2.2.2.1
    obtain ⟨hz, hS'⟩ := List.forall_mem_cons.mp hS
    rw [List.map_cons]
    refine va_newa (a0 := (z.toNat, .inl (fun _ => 0))) hC.1 hC.2.1 (atype := .int) (hts _ harr) (ty := .int) rfl hI.1 hI.2.1 pb_D hI.2.2.1 (fun q hq => Nat.le_trans hI.2.2.2.1.1 hq) (fun _ => rfl) (n := Int32.ofInt z) (by rw [pb_lt0 hz]; omega) (pb_clN hz) ?_ ?_ ?_ hd (fun q cA H1 hK1 hP1 hD1 hS1 => ?_)
    · show z.toNat * 4 ≤ 536870912
      omega
    · have := hR.2.1
      omega
    · have := hR.2.2.1
      omega
    · have hcA : cA = x.2.2.1 0 := by
        have g1 : s.vm.findClass _ = some cA := (hK1.2 (pb_tys x.2.2.1).length (cA, .int) (by rw [List.getElem?_append_right (Nat.le_refl _), Nat.sub_self]; rfl)).2
        have g2 : s.vm.findClass _ = some (x.2.2.1 0) := (hI.1.2 0 (x.2.2.1 0, .int) rfl).2
        exact Option.some.inj (g1.symm.trans g2)
      subst hcA
      refine pb_fr hP1 hD1 h1.1 h1.2.1 (fun hq => ?_)
      subst hq
      refine W.widen (k := cells + 1) (n := 64 * (cells + 1)) (Nat.le_refl _) (by omega) ?_
      have hw := hk L _ (n + 1) _ h p e R Z s mm args below meth c H1 locs (cells + 1) (64 * (cells + 1)) ls hR hZ hC ⟨hI.1, pb_grow (d := fun _ => 0) hP1 (by rw [pb_cell_int e1 (by omega) (by omega), e2]; congr 4; funext j; simp only [pb_clr, if_true]; rfl), hS1, ⟨hI.2.2.2.1.1, by omega, hI.2.2.2.1.2.2⟩, pb_clrR hI.2.2.2.2 (fun _ => pb_R0)⟩ hl (List.forall_mem_cons.mpr ⟨(by unfold pb_vR pb_R; omega), hS'⟩) hL ⟨by omega, h1.2.1, by omega⟩ rfl
      rw [List.map_cons, pb_e_pos (by omega)] at hw
      exact hw
  · exact h.elim
theorem pb_s_newZ {lim : Nat} (hd : decode (pb_code m) pc = .ok (.newarray .boolean, 2)) (harr : Cond.arrayClass .boolean ∈ pb_ALL) (hlim : lim = n0 + pb_mc m) (hk : pb_le k (pb_WJ x m n0 Q (pc + 2))) : pb_le (pb_newa lim 101 0 k) (pb_WJ x m n0 Q pc) := by
  intro L S n σ h p e R Z s mm args below meth c H locs cells slots ls hR hZ hC hI hl hS hL h1 h2
  unfold pb_newa at h
  split at h
  · rename_i z S'
    obtain ⟨e1, e2, ⟨e3, e4⟩, e5, e6, h⟩ := h
    have hts := hC.2.2.2.2.1
    obtain ⟨hz, hS'⟩ := List.forall_mem_cons.mp hS
    rw [List.map_cons]
    refine va_newa (a0 := (z.toNat, .inl (fun _ => 0))) hC.1 hC.2.1 (atype := .boolean) (hts _ harr) (ty := .boolean) rfl hI.1 hI.2.1 pb_D hI.2.2.1 (fun q hq => Nat.le_trans hI.2.2.2.1.1 hq) (fun _ => rfl) (n := Int32.ofInt z) (by rw [pb_lt0 hz]; omega) (pb_clN hz) ?_ ?_ ?_ hd (fun q cA H1 hK1 hP1 hD1 hS1 => ?_)
    · show z.toNat * 1 ≤ 536870912
      omega
    · have := hR.2.1
      omega
    · have := hR.2.2.1
      omega
    · have hcA : cA = x.2.2.1 1 := by
        have g1 : s.vm.findClass _ = some cA := (hK1.2 (pb_tys x.2.2.1).length (cA, .boolean) (by rw [List.getElem?_append_right (Nat.le_refl _), Nat.sub_self]; rfl)).2
        have g2 : s.vm.findClass _ = some (x.2.2.1 1) := (hI.1.2 1 (x.2.2.1 1, .boolean) rfl).2
        exact Option.some.inj (g1.symm.trans g2)
      subst hcA
      refine pb_fr hP1 hD1 h1.1 h1.2.1 (fun hq => ?_)
      subst hq
      refine W.widen (k := cells + 1) (n := 64 * (cells + 1)) (Nat.le_refl _) (by omega) ?_
      have hw := hk L _ (n + 1) _ h p e R Z s mm args below meth c H1 locs (cells + 1) (64 * (cells + 1)) ls hR hZ hC ⟨hI.1, pb_grow (d := fun _ => 0) hP1 (by rw [pb_cell_int e1 (by omega) (by omega), e2]; congr 4; funext j; simp only [pb_clr, if_true]; rfl), hS1, ⟨hI.2.2.2.1.1, by omega, hI.2.2.2.1.2.2⟩, pb_clrR hI.2.2.2.2 (fun _ => pb_R0)⟩ hl (List.forall_mem_cons.mpr ⟨(by unfold pb_vR pb_R; omega), hS'⟩) hL ⟨by omega, h1.2.1, by omega⟩ rfl
      rw [List.map_cons, pb_e_pos (by omega)] at hw
      exact hw
  · exact h.elim
theorem pb_s_newR {lim a idx : Nat} {C : String} (hd : decode (pb_code m) pc = .ok (.anewarray idx, 3)) (ha : 102 ≤ a) (ht : ∀ dA : Nat → ClassId, (pb_tys dA)[a - 100]? = some (dA (a - 100), .object C)) (h1c : Cond.classLink (pb_y m).cls idx C ∈ pb_ALL) (h2c : C ∈ pb_aos) (hlim : lim = n0 + pb_mc m) (hk : pb_le k (pb_WJ x m n0 Q (pc + 3))) : pb_le (pb_newa lim a (-1) k) (pb_WJ x m n0 Q pc) := by
  intro L S n σ h p e R Z s mm args below meth c H locs cells slots ls hR hZ hC hI hl hS hL h1 h2
  unfold pb_newa at h
  split at h
  · rename_i z S'
    obtain ⟨e1, e2, ⟨e3, e4⟩, e5, e6, h⟩ := h
    have hts := hC.2.2.2.2.1
    obtain ⟨hz, hS'⟩ := List.forall_mem_cons.mp hS
    rw [List.map_cons]
    refine va_newq hC.1 hC.2.1 hC.2.2.2.1 (hts _ h1c) (hI.2.2.2.1.2.2.2.2.2 C h2c) hI.1 hI.2.1 pb_D hI.2.2.1 (fun q hq => Nat.le_trans hI.2.2.2.1.1 hq) (n := Int32.ofInt z) (N' := z.toNat) (by rw [pb_lt0 hz]; omega) (pb_clN hz) ?_ ?_ ?_ hd (fun q cA H1 hK1 hP1 hD1 hS1 => ?_)
    · omega
    · have := hR.2.1
      omega
    · have := hR.2.2.1
      omega
    · have hcA : cA = x.2.2.1 (a - 100) := by
        obtain ⟨_, _, _, _, _, g1⟩ := (hK1.2 (pb_tys x.2.2.1).length (cA, .object C) (by rw [List.getElem?_append_right (Nat.le_refl _), Nat.sub_self]; rfl)).2
        obtain ⟨_, _, _, _, _, g2⟩ := (hI.1.2 (a - 100) (x.2.2.1 (a - 100), .object C) (ht _)).2
        exact Option.some.inj (g1.symm.trans g2)
      subst hcA
      refine pb_fr hP1 hD1 h1.1 h1.2.1 (fun hq => ?_)
      subst hq
      refine W.widen (k := cells + 1) (n := 64 * (cells + 1)) (Nat.le_refl _) (by omega) ?_
      have hw := hk L _ (n + 1) _ h p e R Z s mm args below meth c H1 locs (cells + 1) (64 * (cells + 1)) ls hR hZ hC ⟨hI.1, pb_grow (d := fun _ => -1) hP1 (by rw [pb_cell_ref e1 (by omega), e2]; congr 7; funext j; simp only [pb_clr, if_true]; rfl), hS1, ⟨hI.2.2.2.1.1, by omega, hI.2.2.2.1.2.2⟩, pb_clrR hI.2.2.2.2 (fun _ => (by unfold pb_R; omega))⟩ hl (List.forall_mem_cons.mpr ⟨(by unfold pb_vR pb_R; omega), hS'⟩) hL ⟨by omega, h1.2.1, by omega⟩ rfl
      rw [List.map_cons, pb_e_pos (by omega)] at hw
      exact hw
  · exact h.elim
theorem pb_cats (S : List pb_V) : ((S.map (pb_e x)).map fun v => v.category).sum = S.length := by
  induction S with
  | nil => rfl
  | cons a S ih => simp only [List.map_cons, List.sum_cons, pb_e_cat, List.length_cons, ih]; omega
theorem pb_s_obj {idx : Nat} (hd : decode (pb_code m) pc = .ok (.invokespecial idx, 3)) (w1 : Cond.methodLink (pb_y m).cls idx objectInit ∈ pb_ALL) (w2 : Cond.instanceMethod objectInit ∈ pb_ALL) (w3 : Cond.code objectInit ⟨#[0xb1]⟩ 1 none ∈ pb_ALL) (hlo : 20 ≤ pb_lo m) (hk : pb_le k (pb_WJ x m n0 Q (pc + 3))) : pb_le (pb_obj k) (pb_WJ x m n0 Q pc) := by
  intro L S n σ h p e R Z s mm args below meth c H locs cells slots ls hR hZ hC hI hl hS hL h1 h2
  unfold pb_obj at h
  split at h
  · rename_i q S'
    obtain ⟨e1, e2, h⟩ := h
    have hts := hC.2.2.2.2.1
    obtain ⟨-, hS'⟩ := List.forall_mem_cons.mp hS
    rw [List.map_cons, pb_e_ref e1]
    refine W.objInit hC.1 hC.2.1 hC.2.2.2.1 (hts _ w1) (hts _ w2) (hts _ w3) rfl (by rw [hC.2.2.1]; exact hl.1) rfl hd ?_ ?_ ?_
    · have := hR.1
      omega
    · show 2 * 0 + _ + 12 ≤ R.locals
      rw [pb_cats]
      have := hR.2.2.2
      omega
    · exact hk L _ n σ h p e R Z s mm args below meth c H locs cells slots ls hR hZ hC hI hl hS' hL h1 h2
  · exact h.elim
end PBN
end
section
/-! calls -/
theorem pb_tk_spec : ∀ (j : Nat) (a S r S' : List pb_V), pb_tk j a S = some (r, S') → ∃ pre, S = pre ++ S' ∧ r = pre.reverse ++ a ∧ pre.length = j
  | 0, a, S, r, S', h => by
    simp only [pb_tk, Option.some.injEq, Prod.mk.injEq] at h
    exact ⟨[], by rw [h.2]; rfl, by rw [h.1]; rfl, rfl⟩
  | j + 1, a, v :: S, r, S', h => by
    obtain ⟨pre, h1, h2, h3⟩ := pb_tk_spec j (v :: a) S r S' h
    exact ⟨v :: pre, by rw [h1]; rfl, by rw [h2]; simp, by rw [List.length_cons, h3]⟩
  | j + 1, a, [], r, S', h => by simp [pb_tk] at h
def pb_mok (m na : Nat) : Prop := Cond.code (pb_y m) (pb_code m) (pb_mx m) (pb_rt m) ∈ pb_ALL ∧ ((pb_y m).cls ≠ "java/lang/invoke/MethodHandle" ∧ (pb_y m).cls ≠ "java/lang/invoke/VarHandle" ∧ (parseMethodDescriptor (pb_y m).desc).map (fun d => d.parameters.length) = some na) ∧ True ∧ Cond.initialized (pb_y m).cls ∈ pb_ALL
def pb_cv (x : pb_E) (m na ci : Nat) (k : pb_K) : pb_K := fun L S n σ => match pb_tk (na + 1) [] S with
  | some (.inr p :: As, S') => pb_is ci n p ∧ S'.length ≤ 8 ∧ pb_MJ x m (.inr p :: As) n σ (fun _ σ' => k L S' n σ')
  | _ => False
def pb_cr (x : pb_E) (m na ci : Nat) (k : pb_K) : pb_K := fun L S n σ => match pb_tk (na + 1) [] S with
  | some (.inr p :: As, S') => pb_is ci n p ∧ S'.length ≤ 8 ∧ pb_MJ x m (.inr p :: As) n σ (fun v σ' => k L (v :: S') n σ')
  | _ => False
def pb_sv (x : pb_E) (m na : Nat) (k : pb_K) : pb_K := fun L S n σ => match pb_tk na [] S with
  | some (As, S') => S'.length ≤ 8 ∧ pb_MJ x m As n σ (fun _ σ' => k L S' n σ')
  | _ => False
def pb_sr (x : pb_E) (m na : Nat) (k : pb_K) : pb_K := fun L S n σ => match pb_tk na [] S with
  | some (As, S') => S'.length ≤ 8 ∧ pb_MJ x m As n σ (fun v σ' => k L (v :: S') n σ')
  | _ => False
/-- a constructor that makes a number of cells -/
def pb_ci (x : pb_E) (lim m na mc : Nat) (k : pb_K) : pb_K := fun L S n σ => match pb_tk (na + 1) [] S with
  | some (.inr p :: As, S') => (0 ≤ p ∧ p < n) ∧ n + mc ≤ lim ∧ n < 900000 ∧ S'.length ≤ 8 ∧ pb_MJ x m (.inr p :: As) n σ (fun _ σ' => k L S' (n + mc) σ')
  | _ => False
section PBC
variable {x : pb_E} {m n0 : Nat} {Q : pb_P} {pc : Nat} {k : pb_K}
theorem pb_goodIn {m' na : Nat} (hm : pb_mok m' na) : GoodIn pb_ALL (pb_wd m') := by
  intro w hw
  rcases List.mem_cons.mp hw with rfl | hw
  · exact ⟨hm.1, pb_good _ hm.1⟩
  · exact ⟨hw, pb_good _ hw⟩
theorem pb_blind (As : List pb_V) (n : Nat) (σ : pb_H) : FrameBlind (pb_Pc x As n σ) := by
  intro a U g mk hq
  obtain ⟨q0, q1, q2, q3, ⟨q4, q5, q6, q7, q9⟩, q8⟩ := hq
  exact ⟨q0, q1, va_K.moved (u := U) (U := U.calling g mk a) (Vm.Alike.refl U.vm) q2, q3, ⟨q4, q5, va_X.moved (u := U) (U := U.calling g mk a) (Vm.Alike.refl U.vm) q6, q7, pb_Nx.same (u := U) (U := U.calling g mk a) rfl q9⟩, q8⟩
theorem pb_at {s U : State} {H : Heap} {n : Nat} {σ : pb_H} {locs : List Loc} {As : List pb_V} {av : Array Value} (hI : pb_In x s H n σ locs) (hsz : H.size = x.2.2.2.1 + n) (hAs : ∀ v ∈ As, pb_vR v) (hav : av = (As.map (pb_e x)).toArray) (hU : U.heap = H) (hW : s.WarmedH U.vm) : pb_Pc x As n σ av U := by
  obtain ⟨i1, i2, i3, ⟨i4, i5, i6, i7, i9⟩, i8⟩ := hI
  refine ⟨hav, hAs, va_K.moved hW.alike i1, by rw [hU]; exact i2, ⟨by rw [hU]; exact hsz, i5, ?_, i7, i9.warm hW⟩, i8⟩
  refine va_X.moved hW.alike (va_X.kept i6 ?_)
  rw [hU]
  exact i3.2.1 _ (Nat.lt_of_lt_of_le i7 i4) (Nat.not_le.mpr i7)
theorem pb_goon {p : Program} {e : Env} {R : Room} {s : State} {mm : MethodId} {args a : Array Value} {below : List Frame} {meth : Method} {c : Code} {H : Heap} {locs : List Loc} {cells slots : Nat} {Qs : State → Prop} {ls : Array Slot} {st0 rest : List Value} {m' n : Nat} {σ : pb_H} {Q' : pb_P}
    (hr : va_Run p x.1 e R s mm args below meth c H locs cells slots (pb_mc m') (pb_ms m') (F0 mm pc ls st0) rest (pb_Q x m' n Q' a) (fun q => x.2.2.2.1 ≤ q)) (hI : pb_In x s H n σ locs) (hn : n + pb_mc m' < 1000000)
    (kk : ∀ (v : pb_V) (σ' : pb_H) (H1 : Heap) (locs1 : List Loc), Q' v σ' → pb_vR v → pb_In x s H1 (n + pb_mc m') σ' locs1 → W p x.1 e R s mm args below meth c H1 locs1 (cells + pb_mc m') (slots + pb_ms m') Qs (F0 mm (pc + 3) ls ((if pb_vd m' = true then none else some (pb_e x v)).toList ++ rest))) : W p x.1 e R s mm args below meth c H locs cells slots Qs (F0 mm pc ls st0) := by
  intro T hT X
  obtain ⟨v, st₀, t, T', L, h0, X', hL, e1, e2, ⟨r, σ', hv, hQ, hvR, ⟨q1, q2, q3⟩, q4⟩, st⟩ := hr T hT X
  obtain rfl : v = if pb_vd m' = true then none else some (pb_e x r) := Outcome.returned.inj hv
  obtain ⟨i1, i2, i3, ⟨i4, i5, i6⟩, i8⟩ := hI
  rw [va_F, h0] at q4
  obtain ⟨t2, a1, b1⟩ := kk r σ' T'.heap (locs ++ L) hQ hvR ⟨i1, by rw [e1]; exact q2, ⟨Nat.le_trans i3.1 (by rw [e1]; exact q4.1), fun q g1 g2 => by rw [e1, q4.2 q (Nat.lt_of_lt_of_le g1 i3.1) g2]; exact i3.2.1 q g1 g2, fun q hq => by
      rcases List.mem_append.mp hq with h | h
      · exact i3.2.2 q h
      · exact hL q h⟩, ⟨i4, hn, i6⟩, q3⟩ T' rfl X'
  exact ⟨t2, st t2 a1, b1⟩
theorem pb_stk {As S S' : List pb_V} {p : Int} {j : Nat} (h : pb_tk (j + 1) [] S = some (.inr p :: As, S')) : S = As.reverse ++ .inr p :: S' ∧ As.length = j := by
  obtain ⟨pre, h1, h2, h3⟩ := pb_tk_spec _ _ _ _ _ h
  rw [List.append_nil] at h2
  have h4 : pre = (.inr p :: As).reverse := by rw [h2, List.reverse_reverse]
  refine ⟨by rw [h1, h4]; simp, ?_⟩
  have h5 := congrArg List.length h4
  rw [h3] at h5
  simpa using h5.symm
theorem pb_room {R : Room} {m' : Nat} (hrk : pb_rk m' < pb_rk m ∧ 19 + pb_mx m' + pb_lo m' ≤ pb_lo m) (hR : pb_Rm m R) : (pb_rm m').frames + 1 ≤ R.frames ∧ 8 + (pb_mx m' + 11) + (pb_rm m').locals ≤ R.locals := by
  have h1 := hR.1
  have h2 := hR.2.2.2
  refine ⟨?_, ?_⟩
  · show pb_rk m' + 1 + 1 ≤ R.frames
    omega
  · show 8 + (pb_mx m' + 11) + pb_lo m' ≤ R.locals
    omega
theorem pb_s_Vv {m' na ci idx : Nat} {C : String} {T : u_T} {N : Nat} (hd : decode (pb_code m) pc = .ok (.invokevirtual idx, 3)) (hm : pb_mok m' na) (hrk : pb_rk m' < pb_rk m ∧ 19 + pb_mx m' + pb_lo m' ≤ pb_lo m) (hmc : pb_mc m' = 0) (hvd : pb_vd m' = true) (hcl : pb_cl[ci]? = some (C, T, N)) (hci : ci < 100) (w1 : Cond.methodLink (pb_y m).cls idx (pb_y m') ∈ pb_ALL) (w2 : Cond.instanceMethod (pb_y m') ∈ pb_ALL) (w3 : Cond.selects C (pb_y m') (pb_y m') ∈ pb_ALL) (hk : pb_le k (pb_WJ x m n0 Q (pc + 3))) : pb_le (pb_cv x m' na ci k) (pb_WJ x m n0 Q pc) := by
  intro L S n σ h p e R Z s mm args below meth c H locs cells slots ls hR hZ hC hI hl hS hL h1 h2
  unfold pb_cv at h
  split at h
  · rename_i q As S' htk
    obtain ⟨hq, hlen, Q0, hQ0, hM⟩ := h
    obtain ⟨hSe, hAl⟩ := pb_stk htk
    subst hSe
    obtain ⟨g0, g1, g2⟩ := hq
    obtain ⟨j, rfl⟩ := Int.eq_ofNat_of_zero_le g0
    have hn9 := hI.2.2.2.1.2.1
    have hj : j < n := by omega
    have hts := hC.2.2.2.2.1
    have hAs : ∀ v ∈ (.inr (j : Int) :: As : List pb_V), pb_vR v := fun v hv => hS v (by simp only [List.mem_append, List.mem_reverse, List.mem_cons] at hv ⊢; rcases hv with hv | hv; exact Or.inr (Or.inl hv); exact Or.inl hv)
    have hS' : ∀ v ∈ S', pb_vR v := fun v hv => hS v (by simp only [List.mem_append, List.mem_cons]; exact Or.inr (Or.inr hv))
    refine pb_sz hI h1.1 h1.2.1 (fun hsz => ?_)
    refine pb_goon (Q' := Q0) (va_runV (As := As.map (pb_e x)) (b := x.2.2.2.1 + j) (rest := S'.map (pb_e x)) (C := C) ⟨hC.1, hC.2.1, hC.2.2.1, hC.2.2.2.1, hts⟩ hM ⟨callB_of na hts (pb_goodIn hm) rfl rfl rfl (hts _ hm.2.2.2) (hts _ w1) hm.2.1 (pb_room hrk hR), hts _ w2, hts _ w3⟩ ⟨pb_blind _ _ _, va_recv hI.1 hI.2.1 hcl ((pb_ws_at hj).trans (by rw [pb_cell_obj g2 hci])), fun U hU hW => pb_at hI hsz hAs (by rw [List.map_cons, pb_e_pos (by omega)]) hU hW⟩ rfl (by simpa using hAl) hl.1 (by show List.map _ _ = _; rw [List.map_append, List.map_cons, List.map_reverse, pb_e_pos (by omega)]) (lv_room (by rw [pb_cats]; exact hlen)) hd ⟨by have := hR.2.1; omega, by have := hR.2.2.1; show slots + 64 * pb_mc m' ≤ R.slots; omega⟩) hI (by omega) (fun v σ' H1 locs1 hQ hvR hI1 => ?_)
    have e1 : cells + pb_mc m' = cells := by omega
    have e2 : slots + pb_ms m' = slots := by show slots + 64 * pb_mc m' = slots; omega
    have e3 : n + pb_mc m' = n := by omega
    rw [e3] at hI1
    rw [e1, e2]
    rw [hvd, if_pos rfl]
    exact hk L S' n σ' (hQ0 v σ' hQ) p e R Z s mm args below meth c H1 locs1 cells slots ls hR hZ hC hI1 hl hS' hL h1 h2
  · exact h.elim
theorem pb_s_Vr {m' na ci idx : Nat} {C : String} {T : u_T} {N : Nat} (hd : decode (pb_code m) pc = .ok (.invokevirtual idx, 3)) (hm : pb_mok m' na) (hrk : pb_rk m' < pb_rk m ∧ 19 + pb_mx m' + pb_lo m' ≤ pb_lo m) (hmc : pb_mc m' = 0) (hvd : pb_vd m' = false) (hcl : pb_cl[ci]? = some (C, T, N)) (hci : ci < 100) (w1 : Cond.methodLink (pb_y m).cls idx (pb_y m') ∈ pb_ALL) (w2 : Cond.instanceMethod (pb_y m') ∈ pb_ALL) (w3 : Cond.selects C (pb_y m') (pb_y m') ∈ pb_ALL) (hk : pb_le k (pb_WJ x m n0 Q (pc + 3))) : pb_le (pb_cr x m' na ci k) (pb_WJ x m n0 Q pc) := by
  intro L S n σ h p e R Z s mm args below meth c H locs cells slots ls hR hZ hC hI hl hS hL h1 h2
  unfold pb_cr at h
  split at h
  · rename_i q As S' htk
    obtain ⟨hq, hlen, Q0, hQ0, hM⟩ := h
    obtain ⟨hSe, hAl⟩ := pb_stk htk
    subst hSe
    obtain ⟨g0, g1, g2⟩ := hq
    obtain ⟨j, rfl⟩ := Int.eq_ofNat_of_zero_le g0
    have hn9 := hI.2.2.2.1.2.1
    have hj : j < n := by omega
    have hts := hC.2.2.2.2.1
    have hAs : ∀ v ∈ (.inr (j : Int) :: As : List pb_V), pb_vR v := fun v hv => hS v (by simp only [List.mem_append, List.mem_reverse, List.mem_cons] at hv ⊢; rcases hv with hv | hv; exact Or.inr (Or.inl hv); exact Or.inl hv)
    have hS' : ∀ v ∈ S', pb_vR v := fun v hv => hS v (by simp only [List.mem_append, List.mem_cons]; exact Or.inr (Or.inr hv))
    refine pb_sz hI h1.1 h1.2.1 (fun hsz => ?_)
    refine pb_goon (Q' := Q0) (va_runV (As := As.map (pb_e x)) (b := x.2.2.2.1 + j) (rest := S'.map (pb_e x)) (C := C) ⟨hC.1, hC.2.1, hC.2.2.1, hC.2.2.2.1, hts⟩ hM ⟨callB_of na hts (pb_goodIn hm) rfl rfl rfl (hts _ hm.2.2.2) (hts _ w1) hm.2.1 (pb_room hrk hR), hts _ w2, hts _ w3⟩ ⟨pb_blind _ _ _, va_recv hI.1 hI.2.1 hcl ((pb_ws_at hj).trans (by rw [pb_cell_obj g2 hci])), fun U hU hW => pb_at hI hsz hAs (by rw [List.map_cons, pb_e_pos (by omega)]) hU hW⟩ rfl (by simpa using hAl) hl.1 (by show List.map _ _ = _; rw [List.map_append, List.map_cons, List.map_reverse, pb_e_pos (by omega)]) (lv_room (by rw [pb_cats]; exact hlen)) hd ⟨by have := hR.2.1; omega, by have := hR.2.2.1; show slots + 64 * pb_mc m' ≤ R.slots; omega⟩) hI (by omega) (fun v σ' H1 locs1 hQ hvR hI1 => ?_)
    have e1 : cells + pb_mc m' = cells := by omega
    have e2 : slots + pb_ms m' = slots := by show slots + 64 * pb_mc m' = slots; omega
    have e3 : n + pb_mc m' = n := by omega
    rw [e3] at hI1
    rw [e1, e2]
    rw [hvd, if_neg (by decide)]
    exact hk L (v :: S') n σ' (hQ0 v σ' hQ) p e R Z s mm args below meth c H1 locs1 cells slots ls hR hZ hC hI1 hl (List.forall_mem_cons.mpr ⟨hvR, hS'⟩) hL h1 h2
  · exact h.elim
theorem pb_s_Sr {m' na idx : Nat} (hd : decode (pb_code m) pc = .ok (.invokestatic idx, 3)) (hm : pb_mok m' na) (hrk : pb_rk m' < pb_rk m ∧ 19 + pb_mx m' + pb_lo m' ≤ pb_lo m) (hmc : pb_mc m' = 0) (hvd : pb_vd m' = false) (w1 : Cond.methodLink (pb_y m).cls idx (pb_y m') ∈ pb_ALL) (w2 : Cond.static (pb_y m') ∈ pb_ALL) (hk : pb_le k (pb_WJ x m n0 Q (pc + 3))) : pb_le (pb_sr x m' na k) (pb_WJ x m n0 Q pc) := by
  intro L S n σ h p e R Z s mm args below meth c H locs cells slots ls hR hZ hC hI hl hS hL h1 h2
  unfold pb_sr at h
  split at h
  · rename_i As S' htk
    obtain ⟨hlen, Q0, hQ0, hM⟩ := h
    obtain ⟨pre, hSe, hAe, hAl⟩ := pb_tk_spec _ _ _ _ _ htk
    rw [List.append_nil] at hAe
    obtain rfl : pre = As.reverse := by rw [hAe, List.reverse_reverse]
    subst hSe
    have hn9 := hI.2.2.2.1.2.1
    have hts := hC.2.2.2.2.1
    have hAs : ∀ v ∈ As, pb_vR v := fun v hv => hS v (by simp only [List.mem_append, List.mem_reverse]; exact Or.inl hv)
    have hS' : ∀ v ∈ S', pb_vR v := fun v hv => hS v (by simp only [List.mem_append]; exact Or.inr hv)
    refine pb_sz hI h1.1 h1.2.1 (fun hsz => ?_)
    refine pb_goon (Q' := Q0) (va_runS (As := As.map (pb_e x)) (rest := S'.map (pb_e x)) ⟨hC.1, hC.2.1, hC.2.2.1, hC.2.2.2.1, hts⟩ hM ⟨callB_of na hts (pb_goodIn hm) rfl rfl rfl (hts _ hm.2.2.2) (hts _ w1) hm.2.1 (pb_room hrk hR), hts _ w2⟩ ⟨pb_blind _ _ _, fun U hU hW => pb_at hI hsz hAs rfl hU hW⟩ rfl (by simpa using hAl) hl.1 (by show List.map _ _ = _; rw [List.map_append, List.map_reverse]) (lv_room (by rw [pb_cats]; exact hlen)) hd ⟨by have := hR.2.1; omega, by have := hR.2.2.1; show slots + 64 * pb_mc m' ≤ R.slots; omega⟩) hI (by omega) (fun v σ' H1 locs1 hQ hvR hI1 => ?_)
    have e1 : cells + pb_mc m' = cells := by omega
    have e2 : slots + pb_ms m' = slots := by show slots + 64 * pb_mc m' = slots; omega
    have e3 : n + pb_mc m' = n := by omega
    rw [e3] at hI1
    rw [e1, e2]
    rw [hvd, if_neg (by decide)]
    exact hk L (v :: S') n σ' (hQ0 v σ' hQ) p e R Z s mm args below meth c H1 locs1 cells slots ls hR hZ hC hI1 hl (List.forall_mem_cons.mpr ⟨hvR, hS'⟩) hL h1 h2
  · exact h.elim
theorem pb_s_I {lim m' na mc idx : Nat} (hd : decode (pb_code m) pc = .ok (.invokespecial idx, 3)) (hm : pb_mok m' na) (hrk : pb_rk m' < pb_rk m ∧ 19 + pb_mx m' + pb_lo m' ≤ pb_lo m) (hmc : pb_mc m' = mc) (hmc9 : mc ≤ 1000) (hrt : pb_rt m' = none) (hy1 : (pb_y m').name = "<init>") (hlim : lim = n0 + pb_mc m) (w1 : Cond.methodLink (pb_y m).cls idx (pb_y m') ∈ pb_ALL) (w2 : Cond.instanceMethod (pb_y m') ∈ pb_ALL) (hk : pb_le k (pb_WJ x m n0 Q (pc + 3))) : pb_le (pb_ci x lim m' na mc k) (pb_WJ x m n0 Q pc) := by
  intro L S n σ h p e R Z s mm args below meth c H locs cells slots ls hR hZ hC hI hl hS hL h1 h2
  unfold pb_ci at h
  split at h
  · rename_i q As S' htk
    obtain ⟨hq, hln, hn8, hlen, Q0, hQ0, hM⟩ := h
    obtain ⟨hSe, hAl⟩ := pb_stk htk
    subst hSe
    obtain ⟨g0, g1⟩ := hq
    obtain ⟨j, rfl⟩ := Int.eq_ofNat_of_zero_le g0
    have hn9 := hI.2.2.2.1.2.1
    have hj : j < n := by omega
    have hts := hC.2.2.2.2.1
    have hAs : ∀ v ∈ (.inr (j : Int) :: As : List pb_V), pb_vR v := fun v hv => hS v (by simp only [List.mem_append, List.mem_reverse, List.mem_cons] at hv ⊢; rcases hv with hv | hv; exact Or.inr (Or.inl hv); exact Or.inl hv)
    have hS' : ∀ v ∈ S', pb_vR v := fun v hv => hS v (by simp only [List.mem_append, List.mem_cons]; exact Or.inr (Or.inr hv))
    have hwd : pb_wd m' = Cond.code (pb_y m') (pb_code m') (pb_mx m') none :: pb_ALL := by rw [← hrt]; rfl
    refine pb_sz hI h1.1 h1.2.1 (fun hsz => ?_)
    refine pb_goon (Q' := Q0) (va_runI (As := As.map (pb_e x)) (b := x.2.2.2.1 + j) (rest := S'.map (pb_e x)) ⟨hC.1, hC.2.1, hC.2.2.1, hC.2.2.2.1, hts⟩ hM ⟨callB_of na hts (pb_goodIn hm) hwd rfl rfl (hts _ hm.2.2.2) (hts _ w1) hm.2.1 (pb_room hrk hR), hy1, hts _ w2⟩ ⟨pb_blind _ _ _, fun U hU hW => pb_at hI hsz hAs (by rw [List.map_cons, pb_e_pos (by omega)]) hU hW⟩ rfl (by simpa using hAl) hl.1 (by show List.map _ _ = _; rw [List.map_append, List.map_cons, List.map_reverse, pb_e_pos (by omega)]) (lv_room (by rw [pb_cats]; exact hlen)) hd ⟨by have := hR.2.1; omega, by have := hR.2.2.1; show slots + 64 * pb_mc m' ≤ R.slots; omega⟩) hI (by omega) (fun v σ' H1 locs1 hQ hvR hI1 => ?_)
    have hvd : pb_vd m' = true := by unfold pb_vd; rw [hrt]; rfl
    rw [hvd, if_pos rfl]
    have e2 : slots + pb_ms m' = 64 * (cells + pb_mc m') := by show slots + 64 * pb_mc m' = _; omega
    rw [e2]
    rw [hmc] at hI1 ⊢
    exact hk L S' (n + mc) σ' (hQ0 v σ' hQ) p e R Z s mm args below meth c H1 locs1 (cells + mc) _ ls hR hZ hC hI1 hl hS' hL ⟨by omega, h1.2.1, by omega⟩ rfl
  · exact h.elim
theorem pb_s_IN {lim m' na mc idx : Nat} {host : String} (hd : decode (pb_code m) pc = .ok (.invokespecial idx, 3)) (hm : pb_mok m' na) (hrk : pb_rk m' < pb_rk m ∧ 19 + pb_mx m' + pb_lo m' ≤ pb_lo m) (hmc : pb_mc m' = mc) (hmc9 : mc ≤ 1000) (hrt : pb_rt m' = none) (hy1 : (pb_y m').name = "<init>") (hlim : lim = n0 + pb_mc m) (w1 : ((pb_y m).cls, idx, pb_y m', host) ∈ pb_nest) (w2 : Cond.instanceMethod (pb_y m') ∈ pb_ALL) (hk : pb_le k (pb_WJ x m n0 Q (pc + 3))) : pb_le (pb_ci x lim m' na mc k) (pb_WJ x m n0 Q pc) := by
  intro L S n σ h p e R Z s mm args below meth c H locs cells slots ls hR hZ hC hI hl hS hL h1 h2
  unfold pb_ci at h
  split at h
  · rename_i q As S' htk
    obtain ⟨hq, hln, hn8, hlen, Q0, hQ0, hM⟩ := h
    obtain ⟨hSe, hAl⟩ := pb_stk htk
    subst hSe
    obtain ⟨g0, g1⟩ := hq
    obtain ⟨j, rfl⟩ := Int.eq_ofNat_of_zero_le g0
    have hn9 := hI.2.2.2.1.2.1
    have hj : j < n := by omega
    have hts := hC.2.2.2.2.1
    have hAs : ∀ v ∈ (.inr (j : Int) :: As : List pb_V), pb_vR v := fun v hv => hS v (by simp only [List.mem_append, List.mem_reverse, List.mem_cons] at hv ⊢; rcases hv with hv | hv; exact Or.inr (Or.inl hv); exact Or.inl hv)
    have hS' : ∀ v ∈ S', pb_vR v := fun v hv => hS v (by simp only [List.mem_append, List.mem_cons]; exact Or.inr (Or.inr hv))
    have hwd : pb_wd m' = Cond.code (pb_y m') (pb_code m') (pb_mx m') none :: pb_ALL := by rw [← hrt]; rfl
    refine pb_sz hI h1.1 h1.2.1 (fun hsz => ?_)
    refine pb_goon (Q' := Q0) (va_runIN (As := As.map (pb_e x)) (b := x.2.2.2.1 + j) (rest := S'.map (pb_e x)) ⟨hC.1, hC.2.1, hC.2.2.1, hC.2.2.2.1, hts⟩ hM ⟨va_cnB na hts (pb_goodIn hm) hwd rfl rfl (hI.2.2.2.1.2.2.2.2.1 _ w1) (hts _ hm.2.2.2) hm.2.1 (pb_room hrk hR), hy1, hts _ w2⟩ ⟨pb_blind _ _ _, fun U hU hW => pb_at hI hsz hAs (by rw [List.map_cons, pb_e_pos (by omega)]) hU hW⟩ rfl (by simpa using hAl) hl.1 (by show List.map _ _ = _; rw [List.map_append, List.map_cons, List.map_reverse, pb_e_pos (by omega)]) (lv_room (by rw [pb_cats]; exact hlen)) hd ⟨by have := hR.2.1; omega, by have := hR.2.2.1; show slots + 64 * pb_mc m' ≤ R.slots; omega⟩) hI (by omega) (fun v σ' H1 locs1 hQ hvR hI1 => ?_)
    have hvd : pb_vd m' = true := by unfold pb_vd; rw [hrt]; rfl
    rw [hvd, if_pos rfl]
    have e2 : slots + pb_ms m' = 64 * (cells + pb_mc m') := by show slots + 64 * pb_mc m' = _; omega
    rw [e2]
    rw [hmc] at hI1 ⊢
    exact hk L S' (n + mc) σ' (hQ0 v σ' hQ) p e R Z s mm args below meth c H1 locs1 (cells + mc) _ ls hR hZ hC hI1 hl hS' hL ⟨by omega, h1.2.1, by omega⟩ rfl
  · exact h.elim
end PBC
end
