-- ===== PART A: goes FIRST, ahead of the names: the tables' words, and 'selects' of the private methods out of them =====
/-- a private method of a class that the tables say can be made, by its rows of tables_1 -/
def lw_okq (q : MethodName × Nat) : Prop := (q.1.cls ≠ "java/lang/invoke/MethodHandle" ∧ q.1.cls ≠ "java/lang/invoke/VarHandle") ∧ Cond.instantiable q.1.cls q.2 ∈ tables_1 ∧ Cond.privateMethod q.1 ∈ tables_1 ∧ Cond.instanceMethod q.1 ∈ tables_1
theorem lw_p0 : lw_okq (⟨"OneKnife$Things", "more", "(II)I"⟩, 5) := ⟨⟨by decide +kernel, by decide +kernel⟩, List.mem_of_getElem? (i := 23) (by decide +kernel), List.mem_of_getElem? (i := 459) (by decide +kernel), List.mem_of_getElem? (i := 460) (by decide +kernel)⟩
theorem lw_p1 : lw_okq (⟨"OneKnife$Things", "breakIt", "(III)V"⟩, 5) := ⟨⟨by decide +kernel, by decide +kernel⟩, List.mem_of_getElem? (i := 23) (by decide +kernel), List.mem_of_getElem? (i := 463) (by decide +kernel), List.mem_of_getElem? (i := 464) (by decide +kernel)⟩
theorem lw_p2 : lw_okq (⟨"OneKnife$Plan", "read", "(I)V"⟩, 13) := ⟨⟨by decide +kernel, by decide +kernel⟩, List.mem_of_getElem? (i := 120) (by decide +kernel), List.mem_of_getElem? (i := 467) (by decide +kernel), List.mem_of_getElem? (i := 468) (by decide +kernel)⟩
theorem lw_p3 : lw_okq (⟨"OneKnife$Plan", "clearSteps", "()V"⟩, 13) := ⟨⟨by decide +kernel, by decide +kernel⟩, List.mem_of_getElem? (i := 120) (by decide +kernel), List.mem_of_getElem? (i := 471) (by decide +kernel), List.mem_of_getElem? (i := 472) (by decide +kernel)⟩
theorem lw_p4 : lw_okq (⟨"OneKnife$Plan", "readNumber", "(CII)I"⟩, 13) := ⟨⟨by decide +kernel, by decide +kernel⟩, List.mem_of_getElem? (i := 120) (by decide +kernel), List.mem_of_getElem? (i := 475) (by decide +kernel), List.mem_of_getElem? (i := 476) (by decide +kernel)⟩
theorem lw_p5 : lw_okq (⟨"OneKnife$Plan", "pass", "(C)V"⟩, 13) := ⟨⟨by decide +kernel, by decide +kernel⟩, List.mem_of_getElem? (i := 120) (by decide +kernel), List.mem_of_getElem? (i := 479) (by decide +kernel), List.mem_of_getElem? (i := 480) (by decide +kernel)⟩
theorem lw_p6 : lw_okq (⟨"OneKnife$Plan", "byteAt", "(I)I"⟩, 13) := ⟨⟨by decide +kernel, by decide +kernel⟩, List.mem_of_getElem? (i := 120) (by decide +kernel), List.mem_of_getElem? (i := 483) (by decide +kernel), List.mem_of_getElem? (i := 484) (by decide +kernel)⟩
theorem lw_p7 : lw_okq (⟨"OneKnife$Plan", "figureAt", "(I)I"⟩, 13) := ⟨⟨by decide +kernel, by decide +kernel⟩, List.mem_of_getElem? (i := 120) (by decide +kernel), List.mem_of_getElem? (i := 487) (by decide +kernel), List.mem_of_getElem? (i := 488) (by decide +kernel)⟩
theorem lw_p8 : lw_okq (⟨"OneKnife$Plan", "readStep", "(I)V"⟩, 13) := ⟨⟨by decide +kernel, by decide +kernel⟩, List.mem_of_getElem? (i := 120) (by decide +kernel), List.mem_of_getElem? (i := 491) (by decide +kernel), List.mem_of_getElem? (i := 492) (by decide +kernel)⟩
theorem lw_p9 : lw_okq (⟨"OneKnife$Plan", "mayBe", "(III)Z"⟩, 13) := ⟨⟨by decide +kernel, by decide +kernel⟩, List.mem_of_getElem? (i := 120) (by decide +kernel), List.mem_of_getElem? (i := 498) (by decide +kernel), List.mem_of_getElem? (i := 499) (by decide +kernel)⟩
theorem lw_p10 : lw_okq (⟨"OneKnife$Plan", "keepStep", "(II)V"⟩, 13) := ⟨⟨by decide +kernel, by decide +kernel⟩, List.mem_of_getElem? (i := 120) (by decide +kernel), List.mem_of_getElem? (i := 502) (by decide +kernel), List.mem_of_getElem? (i := 503) (by decide +kernel)⟩
theorem lw_p11 : lw_okq (⟨"OneKnife", "change", "()V"⟩, 10) := ⟨⟨by decide +kernel, by decide +kernel⟩, List.mem_of_getElem? (i := 15) (by decide +kernel), List.mem_of_getElem? (i := 506) (by decide +kernel), List.mem_of_getElem? (i := 507) (by decide +kernel)⟩
theorem lw_p12 : lw_okq (⟨"OneKnife$Search", "forget", "()V"⟩, 15) := ⟨⟨by decide +kernel, by decide +kernel⟩, List.mem_of_getElem? (i := 365) (by decide +kernel), List.mem_of_getElem? (i := 510) (by decide +kernel), List.mem_of_getElem? (i := 511) (by decide +kernel)⟩
theorem lw_p13 : lw_okq (⟨"OneKnife$Plan", "append", "(I)V"⟩, 13) := ⟨⟨by decide +kernel, by decide +kernel⟩, List.mem_of_getElem? (i := 120) (by decide +kernel), List.mem_of_getElem? (i := 529) (by decide +kernel), List.mem_of_getElem? (i := 530) (by decide +kernel)⟩
theorem lw_p14 : lw_okq (⟨"OneKnife$Setting", "has", "(I)Z"⟩, 11) := ⟨⟨by decide +kernel, by decide +kernel⟩, List.mem_of_getElem? (i := 52) (by decide +kernel), List.mem_of_getElem? (i := 545) (by decide +kernel), List.mem_of_getElem? (i := 546) (by decide +kernel)⟩
theorem lw_p15 : lw_okq (⟨"OneKnife$Setting", "partOf", "(I)I"⟩, 11) := ⟨⟨by decide +kernel, by decide +kernel⟩, List.mem_of_getElem? (i := 52) (by decide +kernel), List.mem_of_getElem? (i := 567) (by decide +kernel), List.mem_of_getElem? (i := 568) (by decide +kernel)⟩
def lw_privs_1 : List (MethodName × Nat) := [(⟨"OneKnife$Things", "more", "(II)I"⟩, 5), (⟨"OneKnife$Things", "breakIt", "(III)V"⟩, 5), (⟨"OneKnife$Plan", "read", "(I)V"⟩, 13), (⟨"OneKnife$Plan", "clearSteps", "()V"⟩, 13), (⟨"OneKnife$Plan", "readNumber", "(CII)I"⟩, 13), (⟨"OneKnife$Plan", "pass", "(C)V"⟩, 13), (⟨"OneKnife$Plan", "byteAt", "(I)I"⟩, 13), (⟨"OneKnife$Plan", "figureAt", "(I)I"⟩, 13), (⟨"OneKnife$Plan", "readStep", "(I)V"⟩, 13), (⟨"OneKnife$Plan", "mayBe", "(III)Z"⟩, 13), (⟨"OneKnife$Plan", "keepStep", "(II)V"⟩, 13), (⟨"OneKnife", "change", "()V"⟩, 10), (⟨"OneKnife$Search", "forget", "()V"⟩, 15), (⟨"OneKnife$Plan", "append", "(I)V"⟩, 13), (⟨"OneKnife$Setting", "has", "(I)Z"⟩, 11), (⟨"OneKnife$Setting", "partOf", "(I)I"⟩, 11)]
theorem lw_r1 : ∀ q ∈ lw_privs_1, lw_okq q := List.forall_mem_cons.mpr ⟨lw_p0, List.forall_mem_cons.mpr ⟨lw_p1, List.forall_mem_cons.mpr ⟨lw_p2, List.forall_mem_cons.mpr ⟨lw_p3, List.forall_mem_cons.mpr ⟨lw_p4, List.forall_mem_cons.mpr ⟨lw_p5, List.forall_mem_cons.mpr ⟨lw_p6, List.forall_mem_cons.mpr ⟨lw_p7, List.forall_mem_cons.mpr ⟨lw_p8, List.forall_mem_cons.mpr ⟨lw_p9, List.forall_mem_cons.mpr ⟨lw_p10, List.forall_mem_cons.mpr ⟨lw_p11, List.forall_mem_cons.mpr ⟨lw_p12, List.forall_mem_cons.mpr ⟨lw_p13, List.forall_mem_cons.mpr ⟨lw_p14, List.forall_mem_cons.mpr ⟨lw_p15, fun _ h => absurd h List.not_mem_nil⟩⟩⟩⟩⟩⟩⟩⟩⟩⟩⟩⟩⟩⟩⟩⟩
theorem lw_p16 : lw_okq (⟨"OneKnife$Setting", "changePart", "(II)V"⟩, 11) := ⟨⟨by decide +kernel, by decide +kernel⟩, List.mem_of_getElem? (i := 52) (by decide +kernel), List.mem_of_getElem? (i := 571) (by decide +kernel), List.mem_of_getElem? (i := 572) (by decide +kernel)⟩
theorem lw_p17 : lw_okq (⟨"OneKnife", "isTick", "(I)Z"⟩, 10) := ⟨⟨by decide +kernel, by decide +kernel⟩, List.mem_of_getElem? (i := 15) (by decide +kernel), List.mem_of_getElem? (i := 579) (by decide +kernel), List.mem_of_getElem? (i := 580) (by decide +kernel)⟩
theorem lw_p18 : lw_okq (⟨"OneKnife", "goOnce", "()V"⟩, 10) := ⟨⟨by decide +kernel, by decide +kernel⟩, List.mem_of_getElem? (i := 15) (by decide +kernel), List.mem_of_getElem? (i := 583) (by decide +kernel), List.mem_of_getElem? (i := 584) (by decide +kernel)⟩
theorem lw_p19 : lw_okq (⟨"OneKnife$Run", "go", "(LOneKnife$Setting;IZ)V"⟩, 18) := ⟨⟨by decide +kernel, by decide +kernel⟩, List.mem_of_getElem? (i := 222) (by decide +kernel), List.mem_of_getElem? (i := 587) (by decide +kernel), List.mem_of_getElem? (i := 588) (by decide +kernel)⟩
theorem lw_p20 : lw_okq (⟨"OneKnife$Run", "begin", "(LOneKnife$Setting;I)V"⟩, 18) := ⟨⟨by decide +kernel, by decide +kernel⟩, List.mem_of_getElem? (i := 222) (by decide +kernel), List.mem_of_getElem? (i := 591) (by decide +kernel), List.mem_of_getElem? (i := 592) (by decide +kernel)⟩
theorem lw_p21 : lw_okq (⟨"OneKnife$Cook", "begin", "(II)V"⟩, 18) := ⟨⟨by decide +kernel, by decide +kernel⟩, List.mem_of_getElem? (i := 229) (by decide +kernel), List.mem_of_getElem? (i := 598) (by decide +kernel), List.mem_of_getElem? (i := 599) (by decide +kernel)⟩
theorem lw_p22 : lw_okq (⟨"OneKnife$Run", "bar", "()V"⟩, 18) := ⟨⟨by decide +kernel, by decide +kernel⟩, List.mem_of_getElem? (i := 222) (by decide +kernel), List.mem_of_getElem? (i := 602) (by decide +kernel), List.mem_of_getElem? (i := 603) (by decide +kernel)⟩
theorem lw_p23 : lw_okq (⟨"OneKnife$Run", "meetJobs", "(I)V"⟩, 18) := ⟨⟨by decide +kernel, by decide +kernel⟩, List.mem_of_getElem? (i := 222) (by decide +kernel), List.mem_of_getElem? (i := 606) (by decide +kernel), List.mem_of_getElem? (i := 607) (by decide +kernel)⟩
theorem lw_p24 : lw_okq (⟨"OneKnife$Cook", "meetJobs", "(I)V"⟩, 18) := ⟨⟨by decide +kernel, by decide +kernel⟩, List.mem_of_getElem? (i := 229) (by decide +kernel), List.mem_of_getElem? (i := 610) (by decide +kernel), List.mem_of_getElem? (i := 611) (by decide +kernel)⟩
theorem lw_p25 : lw_okq (⟨"OneKnife$Cook", "comingOf", "(I)I"⟩, 18) := ⟨⟨by decide +kernel, by decide +kernel⟩, List.mem_of_getElem? (i := 229) (by decide +kernel), List.mem_of_getElem? (i := 614) (by decide +kernel), List.mem_of_getElem? (i := 615) (by decide +kernel)⟩
theorem lw_p26 : lw_okq (⟨"OneKnife$Cook", "dueOf", "(I)I"⟩, 18) := ⟨⟨by decide +kernel, by decide +kernel⟩, List.mem_of_getElem? (i := 229) (by decide +kernel), List.mem_of_getElem? (i := 618) (by decide +kernel), List.mem_of_getElem? (i := 619) (by decide +kernel)⟩
theorem lw_p27 : lw_okq (⟨"OneKnife$Cook", "setKey", "(I)V"⟩, 18) := ⟨⟨by decide +kernel, by decide +kernel⟩, List.mem_of_getElem? (i := 229) (by decide +kernel), List.mem_of_getElem? (i := 622) (by decide +kernel), List.mem_of_getElem? (i := 623) (by decide +kernel)⟩
theorem lw_p28 : lw_okq (⟨"OneKnife$Run", "choose", "(I)V"⟩, 18) := ⟨⟨by decide +kernel, by decide +kernel⟩, List.mem_of_getElem? (i := 222) (by decide +kernel), List.mem_of_getElem? (i := 626) (by decide +kernel), List.mem_of_getElem? (i := 627) (by decide +kernel)⟩
theorem lw_p29 : lw_okq (⟨"OneKnife$Things", "brokenIn", "(I)I"⟩, 5) := ⟨⟨by decide +kernel, by decide +kernel⟩, List.mem_of_getElem? (i := 23) (by decide +kernel), List.mem_of_getElem? (i := 630) (by decide +kernel), List.mem_of_getElem? (i := 631) (by decide +kernel)⟩
theorem lw_p30 : lw_okq (⟨"OneKnife$Run", "next", "()I"⟩, 18) := ⟨⟨by decide +kernel, by decide +kernel⟩, List.mem_of_getElem? (i := 222) (by decide +kernel), List.mem_of_getElem? (i := 634) (by decide +kernel), List.mem_of_getElem? (i := 635) (by decide +kernel)⟩
theorem lw_p31 : lw_okq (⟨"OneKnife$Run", "goOn", "(I)I"⟩, 18) := ⟨⟨by decide +kernel, by decide +kernel⟩, List.mem_of_getElem? (i := 222) (by decide +kernel), List.mem_of_getElem? (i := 639) (by decide +kernel), List.mem_of_getElem? (i := 640) (by decide +kernel)⟩
def lw_privs_2 : List (MethodName × Nat) := [(⟨"OneKnife$Setting", "changePart", "(II)V"⟩, 11), (⟨"OneKnife", "isTick", "(I)Z"⟩, 10), (⟨"OneKnife", "goOnce", "()V"⟩, 10), (⟨"OneKnife$Run", "go", "(LOneKnife$Setting;IZ)V"⟩, 18), (⟨"OneKnife$Run", "begin", "(LOneKnife$Setting;I)V"⟩, 18), (⟨"OneKnife$Cook", "begin", "(II)V"⟩, 18), (⟨"OneKnife$Run", "bar", "()V"⟩, 18), (⟨"OneKnife$Run", "meetJobs", "(I)V"⟩, 18), (⟨"OneKnife$Cook", "meetJobs", "(I)V"⟩, 18), (⟨"OneKnife$Cook", "comingOf", "(I)I"⟩, 18), (⟨"OneKnife$Cook", "dueOf", "(I)I"⟩, 18), (⟨"OneKnife$Cook", "setKey", "(I)V"⟩, 18), (⟨"OneKnife$Run", "choose", "(I)V"⟩, 18), (⟨"OneKnife$Things", "brokenIn", "(I)I"⟩, 5), (⟨"OneKnife$Run", "next", "()I"⟩, 18), (⟨"OneKnife$Run", "goOn", "(I)I"⟩, 18)]
theorem lw_r2 : ∀ q ∈ lw_privs_2, lw_okq q := List.forall_mem_cons.mpr ⟨lw_p16, List.forall_mem_cons.mpr ⟨lw_p17, List.forall_mem_cons.mpr ⟨lw_p18, List.forall_mem_cons.mpr ⟨lw_p19, List.forall_mem_cons.mpr ⟨lw_p20, List.forall_mem_cons.mpr ⟨lw_p21, List.forall_mem_cons.mpr ⟨lw_p22, List.forall_mem_cons.mpr ⟨lw_p23, List.forall_mem_cons.mpr ⟨lw_p24, List.forall_mem_cons.mpr ⟨lw_p25, List.forall_mem_cons.mpr ⟨lw_p26, List.forall_mem_cons.mpr ⟨lw_p27, List.forall_mem_cons.mpr ⟨lw_p28, List.forall_mem_cons.mpr ⟨lw_p29, List.forall_mem_cons.mpr ⟨lw_p30, List.forall_mem_cons.mpr ⟨lw_p31, fun _ h => absurd h List.not_mem_nil⟩⟩⟩⟩⟩⟩⟩⟩⟩⟩⟩⟩⟩⟩⟩⟩
theorem lw_p32 : lw_okq (⟨"OneKnife$Plan", "kindAt", "(I)I"⟩, 13) := ⟨⟨by decide +kernel, by decide +kernel⟩, List.mem_of_getElem? (i := 120) (by decide +kernel), List.mem_of_getElem? (i := 643) (by decide +kernel), List.mem_of_getElem? (i := 644) (by decide +kernel)⟩
theorem lw_p33 : lw_okq (⟨"OneKnife$Plan", "figureOfStep", "(I)I"⟩, 13) := ⟨⟨by decide +kernel, by decide +kernel⟩, List.mem_of_getElem? (i := 120) (by decide +kernel), List.mem_of_getElem? (i := 647) (by decide +kernel), List.mem_of_getElem? (i := 648) (by decide +kernel)⟩
theorem lw_p34 : lw_okq (⟨"OneKnife$Run", "mustWait", "(II)Z"⟩, 18) := ⟨⟨by decide +kernel, by decide +kernel⟩, List.mem_of_getElem? (i := 222) (by decide +kernel), List.mem_of_getElem? (i := 651) (by decide +kernel), List.mem_of_getElem? (i := 652) (by decide +kernel)⟩
theorem lw_p35 : lw_okq (⟨"OneKnife$Run", "lend", "()V"⟩, 18) := ⟨⟨by decide +kernel, by decide +kernel⟩, List.mem_of_getElem? (i := 222) (by decide +kernel), List.mem_of_getElem? (i := 655) (by decide +kernel), List.mem_of_getElem? (i := 656) (by decide +kernel)⟩
theorem lw_p36 : lw_okq (⟨"OneKnife$Run", "lendFrom", "(LOneKnife$Cook;)Z"⟩, 18) := ⟨⟨by decide +kernel, by decide +kernel⟩, List.mem_of_getElem? (i := 222) (by decide +kernel), List.mem_of_getElem? (i := 659) (by decide +kernel), List.mem_of_getElem? (i := 660) (by decide +kernel)⟩
theorem lw_p37 : lw_okq (⟨"OneKnife$Run", "end", "(II)V"⟩, 18) := ⟨⟨by decide +kernel, by decide +kernel⟩, List.mem_of_getElem? (i := 222) (by decide +kernel), List.mem_of_getElem? (i := 663) (by decide +kernel), List.mem_of_getElem? (i := 664) (by decide +kernel)⟩
theorem lw_p38 : lw_okq (⟨"OneKnife$Cook", "endJob", "(I)V"⟩, 18) := ⟨⟨by decide +kernel, by decide +kernel⟩, List.mem_of_getElem? (i := 229) (by decide +kernel), List.mem_of_getElem? (i := 667) (by decide +kernel), List.mem_of_getElem? (i := 668) (by decide +kernel)⟩
theorem lw_p39 : lw_okq (⟨"OneKnife$Run", "note", "(I)V"⟩, 18) := ⟨⟨by decide +kernel, by decide +kernel⟩, List.mem_of_getElem? (i := 222) (by decide +kernel), List.mem_of_getElem? (i := 671) (by decide +kernel), List.mem_of_getElem? (i := 672) (by decide +kernel)⟩
theorem lw_p40 : lw_okq (⟨"OneKnife$Run", "lookForRing", "(I)V"⟩, 18) := ⟨⟨by decide +kernel, by decide +kernel⟩, List.mem_of_getElem? (i := 222) (by decide +kernel), List.mem_of_getElem? (i := 676) (by decide +kernel), List.mem_of_getElem? (i := 677) (by decide +kernel)⟩
theorem lw_p41 : lw_okq (⟨"OneKnife$Run", "work", "(I)V"⟩, 18) := ⟨⟨by decide +kernel, by decide +kernel⟩, List.mem_of_getElem? (i := 222) (by decide +kernel), List.mem_of_getElem? (i := 680) (by decide +kernel), List.mem_of_getElem? (i := 681) (by decide +kernel)⟩
theorem lw_p42 : lw_okq (⟨"OneKnife$Cook", "worksOn", "()Z"⟩, 18) := ⟨⟨by decide +kernel, by decide +kernel⟩, List.mem_of_getElem? (i := 229) (by decide +kernel), List.mem_of_getElem? (i := 684) (by decide +kernel), List.mem_of_getElem? (i := 685) (by decide +kernel)⟩
theorem lw_p43 : lw_okq (⟨"OneKnife$Cook", "isBehind", "(I)Z"⟩, 18) := ⟨⟨by decide +kernel, by decide +kernel⟩, List.mem_of_getElem? (i := 229) (by decide +kernel), List.mem_of_getElem? (i := 690) (by decide +kernel), List.mem_of_getElem? (i := 691) (by decide +kernel)⟩
theorem lw_p44 : lw_okq (⟨"OneKnife$Run", "chosenAt", "(II)I"⟩, 18) := ⟨⟨by decide +kernel, by decide +kernel⟩, List.mem_of_getElem? (i := 222) (by decide +kernel), List.mem_of_getElem? (i := 694) (by decide +kernel), List.mem_of_getElem? (i := 695) (by decide +kernel)⟩
theorem lw_p45 : lw_okq (⟨"OneKnife$Run", "stateOf", "(II)I"⟩, 18) := ⟨⟨by decide +kernel, by decide +kernel⟩, List.mem_of_getElem? (i := 222) (by decide +kernel), List.mem_of_getElem? (i := 702) (by decide +kernel), List.mem_of_getElem? (i := 703) (by decide +kernel)⟩
theorem lw_p46 : lw_okq (⟨"OneKnife$Cook", "doneOf", "(I)I"⟩, 18) := ⟨⟨by decide +kernel, by decide +kernel⟩, List.mem_of_getElem? (i := 229) (by decide +kernel), List.mem_of_getElem? (i := 710) (by decide +kernel), List.mem_of_getElem? (i := 711) (by decide +kernel)⟩
theorem lw_p47 : lw_okq (⟨"OneKnife$Cook", "doneJobs", "()I"⟩, 18) := ⟨⟨by decide +kernel, by decide +kernel⟩, List.mem_of_getElem? (i := 229) (by decide +kernel), List.mem_of_getElem? (i := 718) (by decide +kernel), List.mem_of_getElem? (i := 719) (by decide +kernel)⟩
def lw_privs_3 : List (MethodName × Nat) := [(⟨"OneKnife$Plan", "kindAt", "(I)I"⟩, 13), (⟨"OneKnife$Plan", "figureOfStep", "(I)I"⟩, 13), (⟨"OneKnife$Run", "mustWait", "(II)Z"⟩, 18), (⟨"OneKnife$Run", "lend", "()V"⟩, 18), (⟨"OneKnife$Run", "lendFrom", "(LOneKnife$Cook;)Z"⟩, 18), (⟨"OneKnife$Run", "end", "(II)V"⟩, 18), (⟨"OneKnife$Cook", "endJob", "(I)V"⟩, 18), (⟨"OneKnife$Run", "note", "(I)V"⟩, 18), (⟨"OneKnife$Run", "lookForRing", "(I)V"⟩, 18), (⟨"OneKnife$Run", "work", "(I)V"⟩, 18), (⟨"OneKnife$Cook", "worksOn", "()Z"⟩, 18), (⟨"OneKnife$Cook", "isBehind", "(I)Z"⟩, 18), (⟨"OneKnife$Run", "chosenAt", "(II)I"⟩, 18), (⟨"OneKnife$Run", "stateOf", "(II)I"⟩, 18), (⟨"OneKnife$Cook", "doneOf", "(I)I"⟩, 18), (⟨"OneKnife$Cook", "doneJobs", "()I"⟩, 18)]
theorem lw_r3 : ∀ q ∈ lw_privs_3, lw_okq q := List.forall_mem_cons.mpr ⟨lw_p32, List.forall_mem_cons.mpr ⟨lw_p33, List.forall_mem_cons.mpr ⟨lw_p34, List.forall_mem_cons.mpr ⟨lw_p35, List.forall_mem_cons.mpr ⟨lw_p36, List.forall_mem_cons.mpr ⟨lw_p37, List.forall_mem_cons.mpr ⟨lw_p38, List.forall_mem_cons.mpr ⟨lw_p39, List.forall_mem_cons.mpr ⟨lw_p40, List.forall_mem_cons.mpr ⟨lw_p41, List.forall_mem_cons.mpr ⟨lw_p42, List.forall_mem_cons.mpr ⟨lw_p43, List.forall_mem_cons.mpr ⟨lw_p44, List.forall_mem_cons.mpr ⟨lw_p45, List.forall_mem_cons.mpr ⟨lw_p46, List.forall_mem_cons.mpr ⟨lw_p47, fun _ h => absurd h List.not_mem_nil⟩⟩⟩⟩⟩⟩⟩⟩⟩⟩⟩⟩⟩⟩⟩⟩
theorem lw_p48 : lw_okq (⟨"OneKnife$Cook", "lateJobs", "(I)I"⟩, 18) := ⟨⟨by decide +kernel, by decide +kernel⟩, List.mem_of_getElem? (i := 229) (by decide +kernel), List.mem_of_getElem? (i := 723) (by decide +kernel), List.mem_of_getElem? (i := 724) (by decide +kernel)⟩
theorem lw_p49 : lw_okq (⟨"OneKnife$Cook", "longestResponse", "()I"⟩, 18) := ⟨⟨by decide +kernel, by decide +kernel⟩, List.mem_of_getElem? (i := 229) (by decide +kernel), List.mem_of_getElem? (i := 727) (by decide +kernel), List.mem_of_getElem? (i := 728) (by decide +kernel)⟩
theorem lw_p50 : lw_okq (⟨"OneKnife$Run", "ticksIn", "([II)I"⟩, 18) := ⟨⟨by decide +kernel, by decide +kernel⟩, List.mem_of_getElem? (i := 222) (by decide +kernel), List.mem_of_getElem? (i := 734) (by decide +kernel), List.mem_of_getElem? (i := 735) (by decide +kernel)⟩
theorem lw_p51 : lw_okq (⟨"OneKnife$Setting", "lesser", "(I)I"⟩, 11) := ⟨⟨by decide +kernel, by decide +kernel⟩, List.mem_of_getElem? (i := 52) (by decide +kernel), List.mem_of_getElem? (i := 738) (by decide +kernel), List.mem_of_getElem? (i := 739) (by decide +kernel)⟩
theorem lw_p52 : lw_okq (⟨"OneKnife$Setting", "rankOf", "(I)I"⟩, 11) := ⟨⟨by decide +kernel, by decide +kernel⟩, List.mem_of_getElem? (i := 52) (by decide +kernel), List.mem_of_getElem? (i := 742) (by decide +kernel), List.mem_of_getElem? (i := 743) (by decide +kernel)⟩
theorem lw_p53 : lw_okq (⟨"OneKnife$Run", "ticksBehind", "(II)I"⟩, 18) := ⟨⟨by decide +kernel, by decide +kernel⟩, List.mem_of_getElem? (i := 222) (by decide +kernel), List.mem_of_getElem? (i := 747) (by decide +kernel), List.mem_of_getElem? (i := 748) (by decide +kernel)⟩
theorem lw_p54 : lw_okq (⟨"OneKnife$Reckoner", "canReckon", "(I)Z"⟩, 3) := ⟨⟨by decide +kernel, by decide +kernel⟩, List.mem_of_getElem? (i := 206) (by decide +kernel), List.mem_of_getElem? (i := 763) (by decide +kernel), List.mem_of_getElem? (i := 764) (by decide +kernel)⟩
theorem lw_p55 : lw_okq (⟨"OneKnife$Reckoner", "boundOf", "(I)I"⟩, 3) := ⟨⟨by decide +kernel, by decide +kernel⟩, List.mem_of_getElem? (i := 206) (by decide +kernel), List.mem_of_getElem? (i := 768) (by decide +kernel), List.mem_of_getElem? (i := 769) (by decide +kernel)⟩
theorem lw_p56 : lw_okq (⟨"OneKnife$Reckoner", "planOf", "(I)LOneKnife$Plan;"⟩, 3) := ⟨⟨by decide +kernel, by decide +kernel⟩, List.mem_of_getElem? (i := 206) (by decide +kernel), List.mem_of_getElem? (i := 772) (by decide +kernel), List.mem_of_getElem? (i := 773) (by decide +kernel)⟩
theorem lw_p57 : lw_okq (⟨"OneKnife$Reckoner", "heldOf", "(I)I"⟩, 3) := ⟨⟨by decide +kernel, by decide +kernel⟩, List.mem_of_getElem? (i := 206) (by decide +kernel), List.mem_of_getElem? (i := 777) (by decide +kernel), List.mem_of_getElem? (i := 778) (by decide +kernel)⟩
theorem lw_p58 : lw_okq (⟨"OneKnife$Setting", "goesAhead", "(II)Z"⟩, 11) := ⟨⟨by decide +kernel, by decide +kernel⟩, List.mem_of_getElem? (i := 52) (by decide +kernel), List.mem_of_getElem? (i := 781) (by decide +kernel), List.mem_of_getElem? (i := 782) (by decide +kernel)⟩
theorem lw_p59 : lw_okq (⟨"OneKnife$Plan", "longestHold", "(I)I"⟩, 13) := ⟨⟨by decide +kernel, by decide +kernel⟩, List.mem_of_getElem? (i := 120) (by decide +kernel), List.mem_of_getElem? (i := 786) (by decide +kernel), List.mem_of_getElem? (i := 787) (by decide +kernel)⟩
theorem lw_p60 : lw_okq (⟨"OneKnife$Plan", "workHolding", "(I)I"⟩, 13) := ⟨⟨by decide +kernel, by decide +kernel⟩, List.mem_of_getElem? (i := 120) (by decide +kernel), List.mem_of_getElem? (i := 792) (by decide +kernel), List.mem_of_getElem? (i := 793) (by decide +kernel)⟩
theorem lw_p61 : lw_okq (⟨"OneKnife$Reckoner", "workAhead", "(II)I"⟩, 3) := ⟨⟨by decide +kernel, by decide +kernel⟩, List.mem_of_getElem? (i := 206) (by decide +kernel), List.mem_of_getElem? (i := 798) (by decide +kernel), List.mem_of_getElem? (i := 799) (by decide +kernel)⟩
theorem lw_p62 : lw_okq (⟨"OneKnife$Search", "findBest", "()V"⟩, 15) := ⟨⟨by decide +kernel, by decide +kernel⟩, List.mem_of_getElem? (i := 365) (by decide +kernel), List.mem_of_getElem? (i := 817) (by decide +kernel), List.mem_of_getElem? (i := 818) (by decide +kernel)⟩
theorem lw_p63 : lw_okq (⟨"OneKnife$Setting", "become", "(LOneKnife$Setting;)V"⟩, 11) := ⟨⟨by decide +kernel, by decide +kernel⟩, List.mem_of_getElem? (i := 52) (by decide +kernel), List.mem_of_getElem? (i := 821) (by decide +kernel), List.mem_of_getElem? (i := 822) (by decide +kernel)⟩
def lw_privs_4 : List (MethodName × Nat) := [(⟨"OneKnife$Cook", "lateJobs", "(I)I"⟩, 18), (⟨"OneKnife$Cook", "longestResponse", "()I"⟩, 18), (⟨"OneKnife$Run", "ticksIn", "([II)I"⟩, 18), (⟨"OneKnife$Setting", "lesser", "(I)I"⟩, 11), (⟨"OneKnife$Setting", "rankOf", "(I)I"⟩, 11), (⟨"OneKnife$Run", "ticksBehind", "(II)I"⟩, 18), (⟨"OneKnife$Reckoner", "canReckon", "(I)Z"⟩, 3), (⟨"OneKnife$Reckoner", "boundOf", "(I)I"⟩, 3), (⟨"OneKnife$Reckoner", "planOf", "(I)LOneKnife$Plan;"⟩, 3), (⟨"OneKnife$Reckoner", "heldOf", "(I)I"⟩, 3), (⟨"OneKnife$Setting", "goesAhead", "(II)Z"⟩, 11), (⟨"OneKnife$Plan", "longestHold", "(I)I"⟩, 13), (⟨"OneKnife$Plan", "workHolding", "(I)I"⟩, 13), (⟨"OneKnife$Reckoner", "workAhead", "(II)I"⟩, 3), (⟨"OneKnife$Search", "findBest", "()V"⟩, 15), (⟨"OneKnife$Setting", "become", "(LOneKnife$Setting;)V"⟩, 11)]
theorem lw_r4 : ∀ q ∈ lw_privs_4, lw_okq q := List.forall_mem_cons.mpr ⟨lw_p48, List.forall_mem_cons.mpr ⟨lw_p49, List.forall_mem_cons.mpr ⟨lw_p50, List.forall_mem_cons.mpr ⟨lw_p51, List.forall_mem_cons.mpr ⟨lw_p52, List.forall_mem_cons.mpr ⟨lw_p53, List.forall_mem_cons.mpr ⟨lw_p54, List.forall_mem_cons.mpr ⟨lw_p55, List.forall_mem_cons.mpr ⟨lw_p56, List.forall_mem_cons.mpr ⟨lw_p57, List.forall_mem_cons.mpr ⟨lw_p58, List.forall_mem_cons.mpr ⟨lw_p59, List.forall_mem_cons.mpr ⟨lw_p60, List.forall_mem_cons.mpr ⟨lw_p61, List.forall_mem_cons.mpr ⟨lw_p62, List.forall_mem_cons.mpr ⟨lw_p63, fun _ h => absurd h List.not_mem_nil⟩⟩⟩⟩⟩⟩⟩⟩⟩⟩⟩⟩⟩⟩⟩⟩
theorem lw_p64 : lw_okq (⟨"OneKnife$Search", "firstOrder", "()I"⟩, 15) := ⟨⟨by decide +kernel, by decide +kernel⟩, List.mem_of_getElem? (i := 365) (by decide +kernel), List.mem_of_getElem? (i := 825) (by decide +kernel), List.mem_of_getElem? (i := 826) (by decide +kernel)⟩
theorem lw_p65 : lw_okq (⟨"OneKnife$Search", "orderAt", "(I)I"⟩, 15) := ⟨⟨by decide +kernel, by decide +kernel⟩, List.mem_of_getElem? (i := 365) (by decide +kernel), List.mem_of_getElem? (i := 830) (by decide +kernel), List.mem_of_getElem? (i := 831) (by decide +kernel)⟩
theorem lw_p66 : lw_okq (⟨"OneKnife$Setting", "goesByRanks", "()Z"⟩, 11) := ⟨⟨by decide +kernel, by decide +kernel⟩, List.mem_of_getElem? (i := 52) (by decide +kernel), List.mem_of_getElem? (i := 836) (by decide +kernel), List.mem_of_getElem? (i := 837) (by decide +kernel)⟩
theorem lw_p67 : lw_okq (⟨"OneKnife$Search", "nextOrder", "(I)Z"⟩, 15) := ⟨⟨by decide +kernel, by decide +kernel⟩, List.mem_of_getElem? (i := 365) (by decide +kernel), List.mem_of_getElem? (i := 840) (by decide +kernel), List.mem_of_getElem? (i := 841) (by decide +kernel)⟩
theorem lw_p68 : lw_okq (⟨"OneKnife$Search", "swapOrder", "(II)V"⟩, 15) := ⟨⟨by decide +kernel, by decide +kernel⟩, List.mem_of_getElem? (i := 365) (by decide +kernel), List.mem_of_getElem? (i := 844) (by decide +kernel), List.mem_of_getElem? (i := 845) (by decide +kernel)⟩
theorem lw_p69 : lw_okq (⟨"OneKnife$Search", "bestAt", "(I)I"⟩, 15) := ⟨⟨by decide +kernel, by decide +kernel⟩, List.mem_of_getElem? (i := 365) (by decide +kernel), List.mem_of_getElem? (i := 848) (by decide +kernel), List.mem_of_getElem? (i := 849) (by decide +kernel)⟩
theorem lw_p70 : lw_okq (⟨"OneKnife$Search", "slackOf", "(II)I"⟩, 15) := ⟨⟨by decide +kernel, by decide +kernel⟩, List.mem_of_getElem? (i := 365) (by decide +kernel), List.mem_of_getElem? (i := 857) (by decide +kernel), List.mem_of_getElem? (i := 858) (by decide +kernel)⟩
theorem lw_p71 : lw_okq (⟨"OneKnife$Search", "findShed", "()V"⟩, 15) := ⟨⟨by decide +kernel, by decide +kernel⟩, List.mem_of_getElem? (i := 365) (by decide +kernel), List.mem_of_getElem? (i := 865) (by decide +kernel), List.mem_of_getElem? (i := 866) (by decide +kernel)⟩
theorem lw_p72 : lw_okq (⟨"OneKnife$Search", "tryToShed", "(I)V"⟩, 15) := ⟨⟨by decide +kernel, by decide +kernel⟩, List.mem_of_getElem? (i := 365) (by decide +kernel), List.mem_of_getElem? (i := 870) (by decide +kernel), List.mem_of_getElem? (i := 871) (by decide +kernel)⟩
theorem lw_p73 : lw_okq (⟨"OneKnife$Search", "findWhatever", "(I)V"⟩, 15) := ⟨⟨by decide +kernel, by decide +kernel⟩, List.mem_of_getElem? (i := 365) (by decide +kernel), List.mem_of_getElem? (i := 878) (by decide +kernel), List.mem_of_getElem? (i := 879) (by decide +kernel)⟩
theorem lw_p74 : lw_okq (⟨"OneKnife$Search", "delayBy", "(II)V"⟩, 15) := ⟨⟨by decide +kernel, by decide +kernel⟩, List.mem_of_getElem? (i := 365) (by decide +kernel), List.mem_of_getElem? (i := 882) (by decide +kernel), List.mem_of_getElem? (i := 883) (by decide +kernel)⟩
theorem lw_p75 : lw_okq (⟨"OneKnife", "find", "(I)I"⟩, 10) := ⟨⟨by decide +kernel, by decide +kernel⟩, List.mem_of_getElem? (i := 15) (by decide +kernel), List.mem_of_getElem? (i := 895) (by decide +kernel), List.mem_of_getElem? (i := 896) (by decide +kernel)⟩
theorem lw_p76 : lw_okq (⟨"OneKnife$Search", "fitting", "(LOneKnife$Sheet;)I"⟩, 15) := ⟨⟨by decide +kernel, by decide +kernel⟩, List.mem_of_getElem? (i := 365) (by decide +kernel), List.mem_of_getElem? (i := 899) (by decide +kernel), List.mem_of_getElem? (i := 900) (by decide +kernel)⟩
theorem lw_p77 : lw_okq (⟨"OneKnife$Search", "goesAs", "(LOneKnife$Sheet;)Z"⟩, 15) := ⟨⟨by decide +kernel, by decide +kernel⟩, List.mem_of_getElem? (i := 365) (by decide +kernel), List.mem_of_getElem? (i := 903) (by decide +kernel), List.mem_of_getElem? (i := 904) (by decide +kernel)⟩
theorem lw_p78 : lw_okq (⟨"OneKnife$Sheet", "itemAt", "(I)I"⟩, 4) := ⟨⟨by decide +kernel, by decide +kernel⟩, List.mem_of_getElem? (i := 182) (by decide +kernel), List.mem_of_getElem? (i := 908) (by decide +kernel), List.mem_of_getElem? (i := 909) (by decide +kernel)⟩
theorem lw_p79 : lw_okq (⟨"OneKnife$Search", "findMended", "()V"⟩, 15) := ⟨⟨by decide +kernel, by decide +kernel⟩, List.mem_of_getElem? (i := 365) (by decide +kernel), List.mem_of_getElem? (i := 917) (by decide +kernel), List.mem_of_getElem? (i := 918) (by decide +kernel)⟩
def lw_privs_5 : List (MethodName × Nat) := [(⟨"OneKnife$Search", "firstOrder", "()I"⟩, 15), (⟨"OneKnife$Search", "orderAt", "(I)I"⟩, 15), (⟨"OneKnife$Setting", "goesByRanks", "()Z"⟩, 11), (⟨"OneKnife$Search", "nextOrder", "(I)Z"⟩, 15), (⟨"OneKnife$Search", "swapOrder", "(II)V"⟩, 15), (⟨"OneKnife$Search", "bestAt", "(I)I"⟩, 15), (⟨"OneKnife$Search", "slackOf", "(II)I"⟩, 15), (⟨"OneKnife$Search", "findShed", "()V"⟩, 15), (⟨"OneKnife$Search", "tryToShed", "(I)V"⟩, 15), (⟨"OneKnife$Search", "findWhatever", "(I)V"⟩, 15), (⟨"OneKnife$Search", "delayBy", "(II)V"⟩, 15), (⟨"OneKnife", "find", "(I)I"⟩, 10), (⟨"OneKnife$Search", "fitting", "(LOneKnife$Sheet;)I"⟩, 15), (⟨"OneKnife$Search", "goesAs", "(LOneKnife$Sheet;)Z"⟩, 15), (⟨"OneKnife$Sheet", "itemAt", "(I)I"⟩, 4), (⟨"OneKnife$Search", "findMended", "()V"⟩, 15)]
theorem lw_r5 : ∀ q ∈ lw_privs_5, lw_okq q := List.forall_mem_cons.mpr ⟨lw_p64, List.forall_mem_cons.mpr ⟨lw_p65, List.forall_mem_cons.mpr ⟨lw_p66, List.forall_mem_cons.mpr ⟨lw_p67, List.forall_mem_cons.mpr ⟨lw_p68, List.forall_mem_cons.mpr ⟨lw_p69, List.forall_mem_cons.mpr ⟨lw_p70, List.forall_mem_cons.mpr ⟨lw_p71, List.forall_mem_cons.mpr ⟨lw_p72, List.forall_mem_cons.mpr ⟨lw_p73, List.forall_mem_cons.mpr ⟨lw_p74, List.forall_mem_cons.mpr ⟨lw_p75, List.forall_mem_cons.mpr ⟨lw_p76, List.forall_mem_cons.mpr ⟨lw_p77, List.forall_mem_cons.mpr ⟨lw_p78, List.forall_mem_cons.mpr ⟨lw_p79, fun _ h => absurd h List.not_mem_nil⟩⟩⟩⟩⟩⟩⟩⟩⟩⟩⟩⟩⟩⟩⟩⟩
theorem lw_p80 : lw_okq (⟨"OneKnife$Search", "changesOfRules", "()I"⟩, 15) := ⟨⟨by decide +kernel, by decide +kernel⟩, List.mem_of_getElem? (i := 365) (by decide +kernel), List.mem_of_getElem? (i := 921) (by decide +kernel), List.mem_of_getElem? (i := 922) (by decide +kernel)⟩
theorem lw_p81 : lw_okq (⟨"OneKnife$Search", "mends", "(III)Z"⟩, 15) := ⟨⟨by decide +kernel, by decide +kernel⟩, List.mem_of_getElem? (i := 365) (by decide +kernel), List.mem_of_getElem? (i := 925) (by decide +kernel), List.mem_of_getElem? (i := 926) (by decide +kernel)⟩
theorem lw_p82 : lw_okq (⟨"OneKnife$Search", "swapRanks", "(II)V"⟩, 15) := ⟨⟨by decide +kernel, by decide +kernel⟩, List.mem_of_getElem? (i := 365) (by decide +kernel), List.mem_of_getElem? (i := 929) (by decide +kernel), List.mem_of_getElem? (i := 930) (by decide +kernel)⟩
theorem lw_p83 : lw_okq (⟨"OneKnife$Search", "keepMending", "(III)V"⟩, 15) := ⟨⟨by decide +kernel, by decide +kernel⟩, List.mem_of_getElem? (i := 365) (by decide +kernel), List.mem_of_getElem? (i := 933) (by decide +kernel), List.mem_of_getElem? (i := 934) (by decide +kernel)⟩
theorem lw_p84 : lw_okq (⟨"OneKnife$Sheet", "renew", "(II)V"⟩, 4) := ⟨⟨by decide +kernel, by decide +kernel⟩, List.mem_of_getElem? (i := 182) (by decide +kernel), List.mem_of_getElem? (i := 944) (by decide +kernel), List.mem_of_getElem? (i := 945) (by decide +kernel)⟩
theorem lw_p85 : lw_okq (⟨"OneKnife$Sheet", "faultOf", "(II)I"⟩, 4) := ⟨⟨by decide +kernel, by decide +kernel⟩, List.mem_of_getElem? (i := 182) (by decide +kernel), List.mem_of_getElem? (i := 956) (by decide +kernel), List.mem_of_getElem? (i := 957) (by decide +kernel)⟩
theorem lw_p86 : lw_okq (⟨"OneKnife$Sheet", "become", "(II)V"⟩, 4) := ⟨⟨by decide +kernel, by decide +kernel⟩, List.mem_of_getElem? (i := 182) (by decide +kernel), List.mem_of_getElem? (i := 960) (by decide +kernel), List.mem_of_getElem? (i := 961) (by decide +kernel)⟩
theorem lw_p87 : lw_okq (⟨"OneKnife$Sheet", "hasRow", "(II)Z"⟩, 4) := ⟨⟨by decide +kernel, by decide +kernel⟩, List.mem_of_getElem? (i := 182) (by decide +kernel), List.mem_of_getElem? (i := 974) (by decide +kernel), List.mem_of_getElem? (i := 975) (by decide +kernel)⟩
theorem lw_p88 : lw_okq (⟨"OneKnife", "bytes", "()I"⟩, 10) := ⟨⟨by decide +kernel, by decide +kernel⟩, List.mem_of_getElem? (i := 15) (by decide +kernel), List.mem_of_getElem? (i := 990) (by decide +kernel), List.mem_of_getElem? (i := 991) (by decide +kernel)⟩
theorem lw_p89 : lw_okq (⟨"OneKnifeModel", "changes", "()V"⟩, 65) := ⟨⟨by decide +kernel, by decide +kernel⟩, List.mem_of_getElem? (i := 1006) (by decide +kernel), List.mem_of_getElem? (i := 1216) (by decide +kernel), List.mem_of_getElem? (i := 1217) (by decide +kernel)⟩
theorem lw_p90 : lw_okq (⟨"OneKnifeModel", "faultOf", "(I)I"⟩, 65) := ⟨⟨by decide +kernel, by decide +kernel⟩, List.mem_of_getElem? (i := 1006) (by decide +kernel), List.mem_of_getElem? (i := 1239) (by decide +kernel), List.mem_of_getElem? (i := 1240) (by decide +kernel)⟩
theorem lw_p91 : lw_okq (⟨"OneKnifeModel", "reads", "()V"⟩, 65) := ⟨⟨by decide +kernel, by decide +kernel⟩, List.mem_of_getElem? (i := 1006) (by decide +kernel), List.mem_of_getElem? (i := 1243) (by decide +kernel), List.mem_of_getElem? (i := 1244) (by decide +kernel)⟩
theorem lw_p92 : lw_okq (⟨"OneKnifeModel", "readsTask", "(I)V"⟩, 65) := ⟨⟨by decide +kernel, by decide +kernel⟩, List.mem_of_getElem? (i := 1006) (by decide +kernel), List.mem_of_getElem? (i := 1247) (by decide +kernel), List.mem_of_getElem? (i := 1248) (by decide +kernel)⟩
theorem lw_p93 : lw_okq (⟨"OneKnifeModel", "expects", "(I)V"⟩, 65) := ⟨⟨by decide +kernel, by decide +kernel⟩, List.mem_of_getElem? (i := 1006) (by decide +kernel), List.mem_of_getElem? (i := 1251) (by decide +kernel), List.mem_of_getElem? (i := 1252) (by decide +kernel)⟩
theorem lw_p94 : lw_okq (⟨"OneKnifeModel", "byteNow", "()I"⟩, 65) := ⟨⟨by decide +kernel, by decide +kernel⟩, List.mem_of_getElem? (i := 1006) (by decide +kernel), List.mem_of_getElem? (i := 1255) (by decide +kernel), List.mem_of_getElem? (i := 1256) (by decide +kernel)⟩
theorem lw_p95 : lw_okq (⟨"OneKnifeModel", "number", "(III)I"⟩, 65) := ⟨⟨by decide +kernel, by decide +kernel⟩, List.mem_of_getElem? (i := 1006) (by decide +kernel), List.mem_of_getElem? (i := 1259) (by decide +kernel), List.mem_of_getElem? (i := 1260) (by decide +kernel)⟩
def lw_privs_6 : List (MethodName × Nat) := [(⟨"OneKnife$Search", "changesOfRules", "()I"⟩, 15), (⟨"OneKnife$Search", "mends", "(III)Z"⟩, 15), (⟨"OneKnife$Search", "swapRanks", "(II)V"⟩, 15), (⟨"OneKnife$Search", "keepMending", "(III)V"⟩, 15), (⟨"OneKnife$Sheet", "renew", "(II)V"⟩, 4), (⟨"OneKnife$Sheet", "faultOf", "(II)I"⟩, 4), (⟨"OneKnife$Sheet", "become", "(II)V"⟩, 4), (⟨"OneKnife$Sheet", "hasRow", "(II)Z"⟩, 4), (⟨"OneKnife", "bytes", "()I"⟩, 10), (⟨"OneKnifeModel", "changes", "()V"⟩, 65), (⟨"OneKnifeModel", "faultOf", "(I)I"⟩, 65), (⟨"OneKnifeModel", "reads", "()V"⟩, 65), (⟨"OneKnifeModel", "readsTask", "(I)V"⟩, 65), (⟨"OneKnifeModel", "expects", "(I)V"⟩, 65), (⟨"OneKnifeModel", "byteNow", "()I"⟩, 65), (⟨"OneKnifeModel", "number", "(III)I"⟩, 65)]
theorem lw_r6 : ∀ q ∈ lw_privs_6, lw_okq q := List.forall_mem_cons.mpr ⟨lw_p80, List.forall_mem_cons.mpr ⟨lw_p81, List.forall_mem_cons.mpr ⟨lw_p82, List.forall_mem_cons.mpr ⟨lw_p83, List.forall_mem_cons.mpr ⟨lw_p84, List.forall_mem_cons.mpr ⟨lw_p85, List.forall_mem_cons.mpr ⟨lw_p86, List.forall_mem_cons.mpr ⟨lw_p87, List.forall_mem_cons.mpr ⟨lw_p88, List.forall_mem_cons.mpr ⟨lw_p89, List.forall_mem_cons.mpr ⟨lw_p90, List.forall_mem_cons.mpr ⟨lw_p91, List.forall_mem_cons.mpr ⟨lw_p92, List.forall_mem_cons.mpr ⟨lw_p93, List.forall_mem_cons.mpr ⟨lw_p94, List.forall_mem_cons.mpr ⟨lw_p95, fun _ h => absurd h List.not_mem_nil⟩⟩⟩⟩⟩⟩⟩⟩⟩⟩⟩⟩⟩⟩⟩⟩
theorem lw_p96 : lw_okq (⟨"OneKnifeModel", "stepRead", "(I)I"⟩, 65) := ⟨⟨by decide +kernel, by decide +kernel⟩, List.mem_of_getElem? (i := 1006) (by decide +kernel), List.mem_of_getElem? (i := 1263) (by decide +kernel), List.mem_of_getElem? (i := 1264) (by decide +kernel)⟩
theorem lw_p97 : lw_okq (⟨"OneKnifeModel", "workOf", "(I)I"⟩, 65) := ⟨⟨by decide +kernel, by decide +kernel⟩, List.mem_of_getElem? (i := 1006) (by decide +kernel), List.mem_of_getElem? (i := 1267) (by decide +kernel), List.mem_of_getElem? (i := 1268) (by decide +kernel)⟩
theorem lw_p98 : lw_okq (⟨"OneKnifeModel", "those", "()I"⟩, 65) := ⟨⟨by decide +kernel, by decide +kernel⟩, List.mem_of_getElem? (i := 1006) (by decide +kernel), List.mem_of_getElem? (i := 1275) (by decide +kernel), List.mem_of_getElem? (i := 1276) (by decide +kernel)⟩
theorem lw_p99 : lw_okq (⟨"OneKnifeModel", "runTold", "()V"⟩, 65) := ⟨⟨by decide +kernel, by decide +kernel⟩, List.mem_of_getElem? (i := 1006) (by decide +kernel), List.mem_of_getElem? (i := 1295) (by decide +kernel), List.mem_of_getElem? (i := 1296) (by decide +kernel)⟩
theorem lw_p100 : lw_okq (⟨"OneKnifeModel", "asTold", "()V"⟩, 65) := ⟨⟨by decide +kernel, by decide +kernel⟩, List.mem_of_getElem? (i := 1006) (by decide +kernel), List.mem_of_getElem? (i := 1299) (by decide +kernel), List.mem_of_getElem? (i := 1300) (by decide +kernel)⟩
theorem lw_p101 : lw_okq (⟨"OneKnifeModel", "runs", "()V"⟩, 65) := ⟨⟨by decide +kernel, by decide +kernel⟩, List.mem_of_getElem? (i := 1006) (by decide +kernel), List.mem_of_getElem? (i := 1303) (by decide +kernel), List.mem_of_getElem? (i := 1304) (by decide +kernel)⟩
theorem lw_p102 : lw_okq (⟨"OneKnifeModel", "begins", "()V"⟩, 65) := ⟨⟨by decide +kernel, by decide +kernel⟩, List.mem_of_getElem? (i := 1006) (by decide +kernel), List.mem_of_getElem? (i := 1307) (by decide +kernel), List.mem_of_getElem? (i := 1308) (by decide +kernel)⟩
theorem lw_p103 : lw_okq (⟨"OneKnifeModel", "highest", "(I)I"⟩, 65) := ⟨⟨by decide +kernel, by decide +kernel⟩, List.mem_of_getElem? (i := 1006) (by decide +kernel), List.mem_of_getElem? (i := 1311) (by decide +kernel), List.mem_of_getElem? (i := 1312) (by decide +kernel)⟩
theorem lw_p104 : lw_okq (⟨"OneKnifeModel", "comes", "()V"⟩, 65) := ⟨⟨by decide +kernel, by decide +kernel⟩, List.mem_of_getElem? (i := 1006) (by decide +kernel), List.mem_of_getElem? (i := 1315) (by decide +kernel), List.mem_of_getElem? (i := 1316) (by decide +kernel)⟩
theorem lw_p105 : lw_okq (⟨"OneKnifeModel", "chooses", "()V"⟩, 65) := ⟨⟨by decide +kernel, by decide +kernel⟩, List.mem_of_getElem? (i := 1006) (by decide +kernel), List.mem_of_getElem? (i := 1319) (by decide +kernel), List.mem_of_getElem? (i := 1320) (by decide +kernel)⟩
theorem lw_p106 : lw_okq (⟨"OneKnifeModel", "bestNow", "()I"⟩, 65) := ⟨⟨by decide +kernel, by decide +kernel⟩, List.mem_of_getElem? (i := 1006) (by decide +kernel), List.mem_of_getElem? (i := 1323) (by decide +kernel), List.mem_of_getElem? (i := 1324) (by decide +kernel)⟩
theorem lw_p107 : lw_okq (⟨"OneKnifeModel", "forces", "()V"⟩, 65) := ⟨⟨by decide +kernel, by decide +kernel⟩, List.mem_of_getElem? (i := 1006) (by decide +kernel), List.mem_of_getElem? (i := 1327) (by decide +kernel), List.mem_of_getElem? (i := 1328) (by decide +kernel)⟩
theorem lw_p108 : lw_okq (⟨"OneKnifeModel", "keyOf", "(I)I"⟩, 65) := ⟨⟨by decide +kernel, by decide +kernel⟩, List.mem_of_getElem? (i := 1006) (by decide +kernel), List.mem_of_getElem? (i := 1331) (by decide +kernel), List.mem_of_getElem? (i := 1332) (by decide +kernel)⟩
theorem lw_p109 : lw_okq (⟨"OneKnifeModel", "hasFire", "(I)Z"⟩, 65) := ⟨⟨by decide +kernel, by decide +kernel⟩, List.mem_of_getElem? (i := 1006) (by decide +kernel), List.mem_of_getElem? (i := 1335) (by decide +kernel), List.mem_of_getElem? (i := 1336) (by decide +kernel)⟩
theorem lw_p110 : lw_okq (⟨"OneKnifeModel", "does", "(I)Z"⟩, 65) := ⟨⟨by decide +kernel, by decide +kernel⟩, List.mem_of_getElem? (i := 1006) (by decide +kernel), List.mem_of_getElem? (i := 1339) (by decide +kernel), List.mem_of_getElem? (i := 1340) (by decide +kernel)⟩
theorem lw_p111 : lw_okq (⟨"OneKnifeModel", "takes", "(II)Z"⟩, 65) := ⟨⟨by decide +kernel, by decide +kernel⟩, List.mem_of_getElem? (i := 1006) (by decide +kernel), List.mem_of_getElem? (i := 1343) (by decide +kernel), List.mem_of_getElem? (i := 1344) (by decide +kernel)⟩
def lw_privs_7 : List (MethodName × Nat) := [(⟨"OneKnifeModel", "stepRead", "(I)I"⟩, 65), (⟨"OneKnifeModel", "workOf", "(I)I"⟩, 65), (⟨"OneKnifeModel", "those", "()I"⟩, 65), (⟨"OneKnifeModel", "runTold", "()V"⟩, 65), (⟨"OneKnifeModel", "asTold", "()V"⟩, 65), (⟨"OneKnifeModel", "runs", "()V"⟩, 65), (⟨"OneKnifeModel", "begins", "()V"⟩, 65), (⟨"OneKnifeModel", "highest", "(I)I"⟩, 65), (⟨"OneKnifeModel", "comes", "()V"⟩, 65), (⟨"OneKnifeModel", "chooses", "()V"⟩, 65), (⟨"OneKnifeModel", "bestNow", "()I"⟩, 65), (⟨"OneKnifeModel", "forces", "()V"⟩, 65), (⟨"OneKnifeModel", "keyOf", "(I)I"⟩, 65), (⟨"OneKnifeModel", "hasFire", "(I)Z"⟩, 65), (⟨"OneKnifeModel", "does", "(I)Z"⟩, 65), (⟨"OneKnifeModel", "takes", "(II)Z"⟩, 65)]
theorem lw_r7 : ∀ q ∈ lw_privs_7, lw_okq q := List.forall_mem_cons.mpr ⟨lw_p96, List.forall_mem_cons.mpr ⟨lw_p97, List.forall_mem_cons.mpr ⟨lw_p98, List.forall_mem_cons.mpr ⟨lw_p99, List.forall_mem_cons.mpr ⟨lw_p100, List.forall_mem_cons.mpr ⟨lw_p101, List.forall_mem_cons.mpr ⟨lw_p102, List.forall_mem_cons.mpr ⟨lw_p103, List.forall_mem_cons.mpr ⟨lw_p104, List.forall_mem_cons.mpr ⟨lw_p105, List.forall_mem_cons.mpr ⟨lw_p106, List.forall_mem_cons.mpr ⟨lw_p107, List.forall_mem_cons.mpr ⟨lw_p108, List.forall_mem_cons.mpr ⟨lw_p109, List.forall_mem_cons.mpr ⟨lw_p110, List.forall_mem_cons.mpr ⟨lw_p111, fun _ h => absurd h List.not_mem_nil⟩⟩⟩⟩⟩⟩⟩⟩⟩⟩⟩⟩⟩⟩⟩⟩
theorem lw_p112 : lw_okq (⟨"OneKnifeModel", "havingMany", "(I)I"⟩, 65) := ⟨⟨by decide +kernel, by decide +kernel⟩, List.mem_of_getElem? (i := 1006) (by decide +kernel), List.mem_of_getElem? (i := 1347) (by decide +kernel), List.mem_of_getElem? (i := 1348) (by decide +kernel)⟩
theorem lw_p113 : lw_okq (⟨"OneKnifeModel", "upward", "(I)I"⟩, 65) := ⟨⟨by decide +kernel, by decide +kernel⟩, List.mem_of_getElem? (i := 1006) (by decide +kernel), List.mem_of_getElem? (i := 1351) (by decide +kernel), List.mem_of_getElem? (i := 1352) (by decide +kernel)⟩
theorem lw_p114 : lw_okq (⟨"OneKnifeModel", "isBroken", "(I)Z"⟩, 65) := ⟨⟨by decide +kernel, by decide +kernel⟩, List.mem_of_getElem? (i := 1006) (by decide +kernel), List.mem_of_getElem? (i := 1355) (by decide +kernel), List.mem_of_getElem? (i := 1356) (by decide +kernel)⟩
theorem lw_p115 : lw_okq (⟨"OneKnifeModel", "having", "(II)I"⟩, 65) := ⟨⟨by decide +kernel, by decide +kernel⟩, List.mem_of_getElem? (i := 1006) (by decide +kernel), List.mem_of_getElem? (i := 1359) (by decide +kernel), List.mem_of_getElem? (i := 1360) (by decide +kernel)⟩
theorem lw_p116 : lw_okq (⟨"OneKnifeModel", "ends", "(II)V"⟩, 65) := ⟨⟨by decide +kernel, by decide +kernel⟩, List.mem_of_getElem? (i := 1006) (by decide +kernel), List.mem_of_getElem? (i := 1363) (by decide +kernel), List.mem_of_getElem? (i := 1364) (by decide +kernel)⟩
theorem lw_p117 : lw_okq (⟨"OneKnifeModel", "ringNow", "()I"⟩, 65) := ⟨⟨by decide +kernel, by decide +kernel⟩, List.mem_of_getElem? (i := 1006) (by decide +kernel), List.mem_of_getElem? (i := 1367) (by decide +kernel), List.mem_of_getElem? (i := 1368) (by decide +kernel)⟩
theorem lw_p118 : lw_okq (⟨"OneKnifeModel", "works", "()V"⟩, 65) := ⟨⟨by decide +kernel, by decide +kernel⟩, List.mem_of_getElem? (i := 1006) (by decide +kernel), List.mem_of_getElem? (i := 1371) (by decide +kernel), List.mem_of_getElem? (i := 1372) (by decide +kernel)⟩
theorem lw_p119 : lw_okq (⟨"OneKnifeModel", "ticksOf", "(II)I"⟩, 65) := ⟨⟨by decide +kernel, by decide +kernel⟩, List.mem_of_getElem? (i := 1006) (by decide +kernel), List.mem_of_getElem? (i := 1375) (by decide +kernel), List.mem_of_getElem? (i := 1376) (by decide +kernel)⟩
theorem lw_p120 : lw_okq (⟨"OneKnifeModel", "toldOf", "(II)I"⟩, 65) := ⟨⟨by decide +kernel, by decide +kernel⟩, List.mem_of_getElem? (i := 1006) (by decide +kernel), List.mem_of_getElem? (i := 1391) (by decide +kernel), List.mem_of_getElem? (i := 1392) (by decide +kernel)⟩
theorem lw_p121 : lw_okq (⟨"OneKnifeModel", "doneMany", "(I)I"⟩, 65) := ⟨⟨by decide +kernel, by decide +kernel⟩, List.mem_of_getElem? (i := 1006) (by decide +kernel), List.mem_of_getElem? (i := 1395) (by decide +kernel), List.mem_of_getElem? (i := 1396) (by decide +kernel)⟩
theorem lw_p122 : lw_okq (⟨"OneKnifeModel", "lateOf", "(I)I"⟩, 65) := ⟨⟨by decide +kernel, by decide +kernel⟩, List.mem_of_getElem? (i := 1006) (by decide +kernel), List.mem_of_getElem? (i := 1399) (by decide +kernel), List.mem_of_getElem? (i := 1400) (by decide +kernel)⟩
theorem lw_p123 : lw_okq (⟨"OneKnifeModel", "longest", "(I)I"⟩, 65) := ⟨⟨by decide +kernel, by decide +kernel⟩, List.mem_of_getElem? (i := 1006) (by decide +kernel), List.mem_of_getElem? (i := 1403) (by decide +kernel), List.mem_of_getElem? (i := 1404) (by decide +kernel)⟩
theorem lw_p124 : lw_okq (⟨"OneKnifeModel", "ticksIn", "(II)I"⟩, 65) := ⟨⟨by decide +kernel, by decide +kernel⟩, List.mem_of_getElem? (i := 1006) (by decide +kernel), List.mem_of_getElem? (i := 1407) (by decide +kernel), List.mem_of_getElem? (i := 1408) (by decide +kernel)⟩
theorem lw_p125 : lw_okq (⟨"OneKnifeModel", "behind", "(I)I"⟩, 65) := ⟨⟨by decide +kernel, by decide +kernel⟩, List.mem_of_getElem? (i := 1006) (by decide +kernel), List.mem_of_getElem? (i := 1411) (by decide +kernel), List.mem_of_getElem? (i := 1412) (by decide +kernel)⟩
theorem lw_p126 : lw_okq (⟨"OneKnifeModel", "lateAll", "()I"⟩, 65) := ⟨⟨by decide +kernel, by decide +kernel⟩, List.mem_of_getElem? (i := 1006) (by decide +kernel), List.mem_of_getElem? (i := 1419) (by decide +kernel), List.mem_of_getElem? (i := 1420) (by decide +kernel)⟩
theorem lw_p127 : lw_okq (⟨"OneKnifeModel", "isBounded", "(I)Z"⟩, 65) := ⟨⟨by decide +kernel, by decide +kernel⟩, List.mem_of_getElem? (i := 1006) (by decide +kernel), List.mem_of_getElem? (i := 1431) (by decide +kernel), List.mem_of_getElem? (i := 1432) (by decide +kernel)⟩
def lw_privs_8 : List (MethodName × Nat) := [(⟨"OneKnifeModel", "havingMany", "(I)I"⟩, 65), (⟨"OneKnifeModel", "upward", "(I)I"⟩, 65), (⟨"OneKnifeModel", "isBroken", "(I)Z"⟩, 65), (⟨"OneKnifeModel", "having", "(II)I"⟩, 65), (⟨"OneKnifeModel", "ends", "(II)V"⟩, 65), (⟨"OneKnifeModel", "ringNow", "()I"⟩, 65), (⟨"OneKnifeModel", "works", "()V"⟩, 65), (⟨"OneKnifeModel", "ticksOf", "(II)I"⟩, 65), (⟨"OneKnifeModel", "toldOf", "(II)I"⟩, 65), (⟨"OneKnifeModel", "doneMany", "(I)I"⟩, 65), (⟨"OneKnifeModel", "lateOf", "(I)I"⟩, 65), (⟨"OneKnifeModel", "longest", "(I)I"⟩, 65), (⟨"OneKnifeModel", "ticksIn", "(II)I"⟩, 65), (⟨"OneKnifeModel", "behind", "(I)I"⟩, 65), (⟨"OneKnifeModel", "lateAll", "()I"⟩, 65), (⟨"OneKnifeModel", "isBounded", "(I)Z"⟩, 65)]
theorem lw_r8 : ∀ q ∈ lw_privs_8, lw_okq q := List.forall_mem_cons.mpr ⟨lw_p112, List.forall_mem_cons.mpr ⟨lw_p113, List.forall_mem_cons.mpr ⟨lw_p114, List.forall_mem_cons.mpr ⟨lw_p115, List.forall_mem_cons.mpr ⟨lw_p116, List.forall_mem_cons.mpr ⟨lw_p117, List.forall_mem_cons.mpr ⟨lw_p118, List.forall_mem_cons.mpr ⟨lw_p119, List.forall_mem_cons.mpr ⟨lw_p120, List.forall_mem_cons.mpr ⟨lw_p121, List.forall_mem_cons.mpr ⟨lw_p122, List.forall_mem_cons.mpr ⟨lw_p123, List.forall_mem_cons.mpr ⟨lw_p124, List.forall_mem_cons.mpr ⟨lw_p125, List.forall_mem_cons.mpr ⟨lw_p126, List.forall_mem_cons.mpr ⟨lw_p127, fun _ h => absurd h List.not_mem_nil⟩⟩⟩⟩⟩⟩⟩⟩⟩⟩⟩⟩⟩⟩⟩⟩
theorem lw_p128 : lw_okq (⟨"OneKnifeModel", "boundOf", "(I)I"⟩, 65) := ⟨⟨by decide +kernel, by decide +kernel⟩, List.mem_of_getElem? (i := 1006) (by decide +kernel), List.mem_of_getElem? (i := 1435) (by decide +kernel), List.mem_of_getElem? (i := 1436) (by decide +kernel)⟩
theorem lw_p129 : lw_okq (⟨"OneKnifeModel", "heldOf", "(I)I"⟩, 65) := ⟨⟨by decide +kernel, by decide +kernel⟩, List.mem_of_getElem? (i := 1006) (by decide +kernel), List.mem_of_getElem? (i := 1439) (by decide +kernel), List.mem_of_getElem? (i := 1440) (by decide +kernel)⟩
theorem lw_p130 : lw_okq (⟨"OneKnifeModel", "goesAhead", "(II)Z"⟩, 65) := ⟨⟨by decide +kernel, by decide +kernel⟩, List.mem_of_getElem? (i := 1006) (by decide +kernel), List.mem_of_getElem? (i := 1443) (by decide +kernel), List.mem_of_getElem? (i := 1444) (by decide +kernel)⟩
theorem lw_p131 : lw_okq (⟨"OneKnifeModel", "doesTake", "(II)Z"⟩, 65) := ⟨⟨by decide +kernel, by decide +kernel⟩, List.mem_of_getElem? (i := 1006) (by decide +kernel), List.mem_of_getElem? (i := 1447) (by decide +kernel), List.mem_of_getElem? (i := 1448) (by decide +kernel)⟩
theorem lw_p132 : lw_okq (⟨"OneKnifeModel", "workFrom", "(II)I"⟩, 65) := ⟨⟨by decide +kernel, by decide +kernel⟩, List.mem_of_getElem? (i := 1006) (by decide +kernel), List.mem_of_getElem? (i := 1451) (by decide +kernel), List.mem_of_getElem? (i := 1452) (by decide +kernel)⟩
theorem lw_p133 : lw_okq (⟨"OneKnifeModel", "ranksBest", "(I)Z"⟩, 65) := ⟨⟨by decide +kernel, by decide +kernel⟩, List.mem_of_getElem? (i := 1006) (by decide +kernel), List.mem_of_getElem? (i := 1466) (by decide +kernel), List.mem_of_getElem? (i := 1467) (by decide +kernel)⟩
theorem lw_p134 : lw_okq (⟨"OneKnifeModel", "triedLate", "()I"⟩, 65) := ⟨⟨by decide +kernel, by decide +kernel⟩, List.mem_of_getElem? (i := 1006) (by decide +kernel), List.mem_of_getElem? (i := 1470) (by decide +kernel), List.mem_of_getElem? (i := 1471) (by decide +kernel)⟩
theorem lw_p135 : lw_okq (⟨"OneKnifeModel", "turns", "(I)Z"⟩, 65) := ⟨⟨by decide +kernel, by decide +kernel⟩, List.mem_of_getElem? (i := 1006) (by decide +kernel), List.mem_of_getElem? (i := 1474) (by decide +kernel), List.mem_of_getElem? (i := 1475) (by decide +kernel)⟩
theorem lw_p136 : lw_okq (⟨"OneKnifeModel", "worthOfSet", "(I)I"⟩, 65) := ⟨⟨by decide +kernel, by decide +kernel⟩, List.mem_of_getElem? (i := 1006) (by decide +kernel), List.mem_of_getElem? (i := 1486) (by decide +kernel), List.mem_of_getElem? (i := 1487) (by decide +kernel)⟩
theorem lw_p137 : lw_okq (⟨"OneKnifeModel", "meets", "(I)I"⟩, 65) := ⟨⟨by decide +kernel, by decide +kernel⟩, List.mem_of_getElem? (i := 1006) (by decide +kernel), List.mem_of_getElem? (i := 1501) (by decide +kernel), List.mem_of_getElem? (i := 1502) (by decide +kernel)⟩
theorem lw_p138 : lw_okq (⟨"OneKnifeModel", "mends", "()V"⟩, 65) := ⟨⟨by decide +kernel, by decide +kernel⟩, List.mem_of_getElem? (i := 1006) (by decide +kernel), List.mem_of_getElem? (i := 1509) (by decide +kernel), List.mem_of_getElem? (i := 1510) (by decide +kernel)⟩
theorem lw_p139 : lw_okq (⟨"OneKnifeModel", "tries", "(IIIII)V"⟩, 65) := ⟨⟨by decide +kernel, by decide +kernel⟩, List.mem_of_getElem? (i := 1006) (by decide +kernel), List.mem_of_getElem? (i := 1513) (by decide +kernel), List.mem_of_getElem? (i := 1514) (by decide +kernel)⟩
theorem lw_p140 : lw_okq (⟨"OneKnifeModel", "isWell", "(IIII)Z"⟩, 65) := ⟨⟨by decide +kernel, by decide +kernel⟩, List.mem_of_getElem? (i := 1006) (by decide +kernel), List.mem_of_getElem? (i := 1517) (by decide +kernel), List.mem_of_getElem? (i := 1518) (by decide +kernel)⟩
theorem lw_p141 : lw_okq (⟨"OneKnifeModel", "lacks", "(III)I"⟩, 65) := ⟨⟨by decide +kernel, by decide +kernel⟩, List.mem_of_getElem? (i := 1006) (by decide +kernel), List.mem_of_getElem? (i := 1533) (by decide +kernel), List.mem_of_getElem? (i := 1534) (by decide +kernel)⟩
theorem lw_p142 : lw_okq (⟨"OneKnifeModel", "lay", "(III)V"⟩, 65) := ⟨⟨by decide +kernel, by decide +kernel⟩, List.mem_of_getElem? (i := 1006) (by decide +kernel), List.mem_of_getElem? (i := 1537) (by decide +kernel), List.mem_of_getElem? (i := 1538) (by decide +kernel)⟩
def lw_privs_9 : List (MethodName × Nat) := [(⟨"OneKnifeModel", "boundOf", "(I)I"⟩, 65), (⟨"OneKnifeModel", "heldOf", "(I)I"⟩, 65), (⟨"OneKnifeModel", "goesAhead", "(II)Z"⟩, 65), (⟨"OneKnifeModel", "doesTake", "(II)Z"⟩, 65), (⟨"OneKnifeModel", "workFrom", "(II)I"⟩, 65), (⟨"OneKnifeModel", "ranksBest", "(I)Z"⟩, 65), (⟨"OneKnifeModel", "triedLate", "()I"⟩, 65), (⟨"OneKnifeModel", "turns", "(I)Z"⟩, 65), (⟨"OneKnifeModel", "worthOfSet", "(I)I"⟩, 65), (⟨"OneKnifeModel", "meets", "(I)I"⟩, 65), (⟨"OneKnifeModel", "mends", "()V"⟩, 65), (⟨"OneKnifeModel", "tries", "(IIIII)V"⟩, 65), (⟨"OneKnifeModel", "isWell", "(IIII)Z"⟩, 65), (⟨"OneKnifeModel", "lacks", "(III)I"⟩, 65), (⟨"OneKnifeModel", "lay", "(III)V"⟩, 65)]
theorem lw_r9 : ∀ q ∈ lw_privs_9, lw_okq q := List.forall_mem_cons.mpr ⟨lw_p128, List.forall_mem_cons.mpr ⟨lw_p129, List.forall_mem_cons.mpr ⟨lw_p130, List.forall_mem_cons.mpr ⟨lw_p131, List.forall_mem_cons.mpr ⟨lw_p132, List.forall_mem_cons.mpr ⟨lw_p133, List.forall_mem_cons.mpr ⟨lw_p134, List.forall_mem_cons.mpr ⟨lw_p135, List.forall_mem_cons.mpr ⟨lw_p136, List.forall_mem_cons.mpr ⟨lw_p137, List.forall_mem_cons.mpr ⟨lw_p138, List.forall_mem_cons.mpr ⟨lw_p139, List.forall_mem_cons.mpr ⟨lw_p140, List.forall_mem_cons.mpr ⟨lw_p141, List.forall_mem_cons.mpr ⟨lw_p142, fun _ h => absurd h List.not_mem_nil⟩⟩⟩⟩⟩⟩⟩⟩⟩⟩⟩⟩⟩⟩⟩
def lw_privs : List (MethodName × Nat) := lw_privs_1 ++ (lw_privs_2 ++ (lw_privs_3 ++ (lw_privs_4 ++ (lw_privs_5 ++ (lw_privs_6 ++ (lw_privs_7 ++ (lw_privs_8 ++ (lw_privs_9))))))))
def lw_tbl : List Cond := k2_sels lw_privs ++ tables_1
theorem lw_privs_ok : ∀ q ∈ lw_privs, lw_okq q := by
  show ∀ q ∈ lw_privs_1 ++ (lw_privs_2 ++ (lw_privs_3 ++ (lw_privs_4 ++ (lw_privs_5 ++ (lw_privs_6 ++ (lw_privs_7 ++ (lw_privs_8 ++ (lw_privs_9)))))))), lw_okq q
  exact List.forall_mem_append.mpr ⟨lw_r1, List.forall_mem_append.mpr ⟨lw_r2, List.forall_mem_append.mpr ⟨lw_r3, List.forall_mem_append.mpr ⟨lw_r4, List.forall_mem_append.mpr ⟨lw_r5, List.forall_mem_append.mpr ⟨lw_r6, List.forall_mem_append.mpr ⟨lw_r7, List.forall_mem_append.mpr ⟨lw_r8, lw_r9⟩⟩⟩⟩⟩⟩⟩⟩
def RX0 : String := "OneKnife$Cook"
def TX0 : u_T := fun k => match k with
  | 0 => ("OneKnife$Cook", "plan", "LOneKnife$Plan;", true)
  | 1 => ("OneKnife$Cook", "doneAt", "[I", true)
  | 2 => ("OneKnife$Cook", "beginning", "I", false)
  | 3 => ("OneKnife$Cook", "rank", "I", false)
  | 4 => ("OneKnife$Cook", "longStep", "I", false)
  | 5 => ("OneKnife$Cook", "longerBy", "I", false)
  | 6 => ("OneKnife$Cook", "came", "I", false)
  | 7 => ("OneKnife$Cook", "begun", "I", false)
  | 8 => ("OneKnife$Cook", "job", "I", false)
  | 9 => ("OneKnife$Cook", "due", "I", false)
  | 10 => ("OneKnife$Cook", "step", "I", false)
  | 11 => ("OneKnife$Cook", "spent", "I", false)
  | 12 => ("OneKnife$Cook", "has", "I", false)
  | 13 => ("OneKnife$Cook", "waitsFor", "I", false)
  | 14 => ("OneKnife$Cook", "reaches", "I", false)
  | 15 => ("OneKnife$Cook", "key", "I", false)
  | 16 => ("OneKnife$Cook", "worked", "I", false)
  | _ => ("OneKnife$Cook", "barring", "I", false)
def tyX0 : Nat → FieldType := fun k => match k with
  | 0 => .object "OneKnife$Plan"
  | 1 => .array .int
  | 2 => .int
  | 3 => .int
  | 4 => .int
  | 5 => .int
  | 6 => .int
  | 7 => .int
  | 8 => .int
  | 9 => .int
  | 10 => .int
  | 11 => .int
  | 12 => .int
  | 13 => .int
  | 14 => .int
  | 15 => .int
  | 16 => .int
  | _ => .int
theorem nmX0 : ∀ a, a < 18 → ∀ b, b < 18 → a ≠ b → (TX0 a).2.1 ≠ (TX0 b).2.1 := by decide +kernel
theorem tyX0_ok : ∀ k, k < 18 → parseFieldDescriptor (TX0 k).2.2.1 = some (tyX0 k) := by decide +kernel
abbrev cX0_init : ByteArray := prog_2_method_1_code
def yX0_init : MethodName := ⟨RX0, "<init>", "(LOneKnife$Plan;)V"⟩
abbrev cX0_begin : ByteArray := prog_2_method_2_code
def yX0_begin : MethodName := ⟨RX0, "begin", "(II)V"⟩
abbrev cX0_comingOf : ByteArray := prog_2_method_3_code
def yX0_comingOf : MethodName := ⟨RX0, "comingOf", "(I)I"⟩
abbrev cX0_dueOf : ByteArray := prog_2_method_4_code
def yX0_dueOf : MethodName := ⟨RX0, "dueOf", "(I)I"⟩
abbrev cX0_meetJobs : ByteArray := prog_2_method_5_code
def yX0_meetJobs : MethodName := ⟨RX0, "meetJobs", "(I)V"⟩
abbrev cX0_setKey : ByteArray := prog_2_method_6_code
def yX0_setKey : MethodName := ⟨RX0, "setKey", "(I)V"⟩
abbrev cX0_worksOn : ByteArray := prog_2_method_7_code
def yX0_worksOn : MethodName := ⟨RX0, "worksOn", "()Z"⟩
abbrev cX0_endJob : ByteArray := prog_2_method_8_code
def yX0_endJob : MethodName := ⟨RX0, "endJob", "(I)V"⟩
abbrev cX0_doneOf : ByteArray := prog_2_method_9_code
def yX0_doneOf : MethodName := ⟨RX0, "doneOf", "(I)I"⟩
abbrev cX0_doneJobs : ByteArray := prog_2_method_10_code
def yX0_doneJobs : MethodName := ⟨RX0, "doneJobs", "()I"⟩
abbrev cX0_lateJobs : ByteArray := prog_2_method_11_code
def yX0_lateJobs : MethodName := ⟨RX0, "lateJobs", "(I)I"⟩
abbrev cX0_longestResponse : ByteArray := prog_2_method_12_code
def yX0_longestResponse : MethodName := ⟨RX0, "longestResponse", "()I"⟩
abbrev cX0_isBehind : ByteArray := prog_2_method_13_code
def yX0_isBehind : MethodName := ⟨RX0, "isBehind", "(I)Z"⟩
def RX1 : String := "OneKnife$Plan"
def TX1 : u_T := fun k => match k with
  | 0 => ("OneKnife$Plan", "text", "[I", true)
  | 1 => ("OneKnife$Plan", "length", "I", false)
  | 2 => ("OneKnife$Plan", "at", "I", false)
  | 3 => ("OneKnife$Plan", "fault", "I", false)
  | 4 => ("OneKnife$Plan", "span", "I", false)
  | 5 => ("OneKnife$Plan", "due", "I", false)
  | 6 => ("OneKnife$Plan", "beginning", "I", false)
  | 7 => ("OneKnife$Plan", "kinds", "[I", true)
  | 8 => ("OneKnife$Plan", "figures", "[I", true)
  | 9 => ("OneKnife$Plan", "steps", "I", false)
  | 10 => ("OneKnife$Plan", "work", "I", false)
  | 11 => ("OneKnife$Plan", "takes", "I", false)
  | _ => ("OneKnife$Plan", "held", "I", false)
def tyX1 : Nat → FieldType := fun k => match k with
  | 0 => .array .int
  | 1 => .int
  | 2 => .int
  | 3 => .int
  | 4 => .int
  | 5 => .int
  | 6 => .int
  | 7 => .array .int
  | 8 => .array .int
  | 9 => .int
  | 10 => .int
  | 11 => .int
  | _ => .int
theorem nmX1 : ∀ a, a < 13 → ∀ b, b < 13 → a ≠ b → (TX1 a).2.1 ≠ (TX1 b).2.1 := by decide +kernel
theorem tyX1_ok : ∀ k, k < 13 → parseFieldDescriptor (TX1 k).2.2.1 = some (tyX1 k) := by decide +kernel
abbrev cX1_init : ByteArray := prog_3_method_1_code
def yX1_init : MethodName := ⟨RX1, "<init>", "()V"⟩
abbrev cX1_append : ByteArray := prog_3_method_2_code
def yX1_append : MethodName := ⟨RX1, "append", "(I)V"⟩
abbrev cX1_read : ByteArray := prog_3_method_3_code
def yX1_read : MethodName := ⟨RX1, "read", "(I)V"⟩
abbrev cX1_clearSteps : ByteArray := prog_3_method_4_code
def yX1_clearSteps : MethodName := ⟨RX1, "clearSteps", "()V"⟩
abbrev cX1_byteAt : ByteArray := prog_3_method_5_code
def yX1_byteAt : MethodName := ⟨RX1, "byteAt", "(I)I"⟩
abbrev cX1_figureAt : ByteArray := prog_3_method_6_code
def yX1_figureAt : MethodName := ⟨RX1, "figureAt", "(I)I"⟩
abbrev cX1_pass : ByteArray := prog_3_method_7_code
def yX1_pass : MethodName := ⟨RX1, "pass", "(C)V"⟩
abbrev cX1_readNumber : ByteArray := prog_3_method_8_code
def yX1_readNumber : MethodName := ⟨RX1, "readNumber", "(CII)I"⟩
abbrev cX1_readStep : ByteArray := prog_3_method_9_code
def yX1_readStep : MethodName := ⟨RX1, "readStep", "(I)V"⟩
abbrev cX1_kindOfSign : ByteArray := prog_3_method_10_code
def yX1_kindOfSign : MethodName := ⟨RX1, "kindOfSign", "(I)I"⟩
abbrev cX1_mayBe : ByteArray := prog_3_method_11_code
def yX1_mayBe : MethodName := ⟨RX1, "mayBe", "(III)Z"⟩
abbrev cX1_keepStep : ByteArray := prog_3_method_12_code
def yX1_keepStep : MethodName := ⟨RX1, "keepStep", "(II)V"⟩
abbrev cX1_kindAt : ByteArray := prog_3_method_13_code
def yX1_kindAt : MethodName := ⟨RX1, "kindAt", "(I)I"⟩
abbrev cX1_figureOfStep : ByteArray := prog_3_method_14_code
def yX1_figureOfStep : MethodName := ⟨RX1, "figureOfStep", "(I)I"⟩
abbrev cX1_longestHold : ByteArray := prog_3_method_15_code
def yX1_longestHold : MethodName := ⟨RX1, "longestHold", "(I)I"⟩
abbrev cX1_workHolding : ByteArray := prog_3_method_16_code
def yX1_workHolding : MethodName := ⟨RX1, "workHolding", "(I)I"⟩
def RX2 : String := "OneKnife$Reckoner"
def TX2 : u_T := fun k => match k with
  | 0 => ("OneKnife$Reckoner", "things", "LOneKnife$Things;", true)
  | 1 => ("OneKnife$Reckoner", "plans", "[LOneKnife$Plan;", true)
  | _ => ("OneKnife$Reckoner", "setting", "LOneKnife$Setting;", true)
def tyX2 : Nat → FieldType := fun k => match k with
  | 0 => .object "OneKnife$Things"
  | 1 => .array (.object "OneKnife$Plan")
  | _ => .object "OneKnife$Setting"
theorem nmX2 : ∀ a, a < 3 → ∀ b, b < 3 → a ≠ b → (TX2 a).2.1 ≠ (TX2 b).2.1 := by decide +kernel
theorem tyX2_ok : ∀ k, k < 3 → parseFieldDescriptor (TX2 k).2.2.1 = some (tyX2 k) := by decide +kernel
abbrev cX2_init : ByteArray := prog_4_method_1_code
def yX2_init : MethodName := ⟨RX2, "<init>", "(LOneKnife$Things;[LOneKnife$Plan;LOneKnife$Setting;)V"⟩
abbrev cX2_canReckon : ByteArray := prog_4_method_2_code
def yX2_canReckon : MethodName := ⟨RX2, "canReckon", "(I)Z"⟩
abbrev cX2_planOf : ByteArray := prog_4_method_3_code
def yX2_planOf : MethodName := ⟨RX2, "planOf", "(I)LOneKnife$Plan;"⟩
abbrev cX2_heldOf : ByteArray := prog_4_method_4_code
def yX2_heldOf : MethodName := ⟨RX2, "heldOf", "(I)I"⟩
abbrev cX2_boundOf : ByteArray := prog_4_method_5_code
def yX2_boundOf : MethodName := ⟨RX2, "boundOf", "(I)I"⟩
abbrev cX2_workAhead : ByteArray := prog_4_method_6_code
def yX2_workAhead : MethodName := ⟨RX2, "workAhead", "(II)I"⟩
def RX3 : String := "OneKnife$Run"
def TX3 : u_T := fun k => match k with
  | 0 => ("OneKnife$Run", "things", "LOneKnife$Things;", true)
  | 1 => ("OneKnife$Run", "cooks", "[LOneKnife$Cook;", true)
  | 2 => ("OneKnife$Run", "workers", "[I", true)
  | 3 => ("OneKnife$Run", "waiters", "[I", true)
  | 4 => ("OneKnife$Run", "goers", "[I", true)
  | 5 => ("OneKnife$Run", "chosen", "[I", true)
  | 6 => ("OneKnife$Run", "are", "I", false)
  | 7 => ("OneKnife$Run", "rule", "I", false)
  | 8 => ("OneKnife$Run", "lending", "I", false)
  | 9 => ("OneKnife$Run", "hands", "I", false)
  | 10 => ("OneKnife$Run", "ticks", "I", false)
  | 11 => ("OneKnife$Run", "going", "I", false)
  | 12 => ("OneKnife$Run", "working", "I", false)
  | 13 => ("OneKnife$Run", "waiting", "I", false)
  | 14 => ("OneKnife$Run", "brokenNow", "I", false)
  | 15 => ("OneKnife$Run", "ringTick", "I", false)
  | 16 => ("OneKnife$Run", "ringBits", "I", false)
  | _ => ("OneKnife$Run", "someLate", "Z", false)
def tyX3 : Nat → FieldType := fun k => match k with
  | 0 => .object "OneKnife$Things"
  | 1 => .array (.object "OneKnife$Cook")
  | 2 => .array .int
  | 3 => .array .int
  | 4 => .array .int
  | 5 => .array .int
  | 6 => .int
  | 7 => .int
  | 8 => .int
  | 9 => .int
  | 10 => .int
  | 11 => .int
  | 12 => .int
  | 13 => .int
  | 14 => .int
  | 15 => .int
  | 16 => .int
  | _ => .boolean
theorem nmX3 : ∀ a, a < 18 → ∀ b, b < 18 → a ≠ b → (TX3 a).2.1 ≠ (TX3 b).2.1 := by decide +kernel
theorem tyX3_ok : ∀ k, k < 18 → parseFieldDescriptor (TX3 k).2.2.1 = some (tyX3 k) := by decide +kernel
abbrev cX3_init : ByteArray := prog_5_method_1_code
def yX3_init : MethodName := ⟨RX3, "<init>", "(LOneKnife$Things;[LOneKnife$Plan;)V"⟩
abbrev cX3_go : ByteArray := prog_5_method_2_code
def yX3_go : MethodName := ⟨RX3, "go", "(LOneKnife$Setting;IZ)V"⟩
abbrev cX3_begin : ByteArray := prog_5_method_3_code
def yX3_begin : MethodName := ⟨RX3, "begin", "(LOneKnife$Setting;I)V"⟩
abbrev cX3_bar : ByteArray := prog_5_method_4_code
def yX3_bar : MethodName := ⟨RX3, "bar", "()V"⟩
abbrev cX3_meetJobs : ByteArray := prog_5_method_5_code
def yX3_meetJobs : MethodName := ⟨RX3, "meetJobs", "(I)V"⟩
abbrev cX3_choose : ByteArray := prog_5_method_6_code
def yX3_choose : MethodName := ⟨RX3, "choose", "(I)V"⟩
abbrev cX3_next : ByteArray := prog_5_method_7_code
def yX3_next : MethodName := ⟨RX3, "next", "()I"⟩
abbrev cX3_goOn : ByteArray := prog_5_method_8_code
def yX3_goOn : MethodName := ⟨RX3, "goOn", "(I)I"⟩
abbrev cX3_mustWait : ByteArray := prog_5_method_9_code
def yX3_mustWait : MethodName := ⟨RX3, "mustWait", "(II)Z"⟩
abbrev cX3_lend : ByteArray := prog_5_method_10_code
def yX3_lend : MethodName := ⟨RX3, "lend", "()V"⟩
abbrev cX3_lendFrom : ByteArray := prog_5_method_11_code
def yX3_lendFrom : MethodName := ⟨RX3, "lendFrom", "(LOneKnife$Cook;)Z"⟩
abbrev cX3_end : ByteArray := prog_5_method_12_code
def yX3_end : MethodName := ⟨RX3, "end", "(II)V"⟩
abbrev cX3_note : ByteArray := prog_5_method_13_code
def yX3_note : MethodName := ⟨RX3, "note", "(I)V"⟩
abbrev cX3_lookForRing : ByteArray := prog_5_method_14_code
def yX3_lookForRing : MethodName := ⟨RX3, "lookForRing", "(I)V"⟩
abbrev cX3_work : ByteArray := prog_5_method_15_code
def yX3_work : MethodName := ⟨RX3, "work", "(I)V"⟩
abbrev cX3_chosenAt : ByteArray := prog_5_method_16_code
def yX3_chosenAt : MethodName := ⟨RX3, "chosenAt", "(II)I"⟩
abbrev cX3_stateOf : ByteArray := prog_5_method_17_code
def yX3_stateOf : MethodName := ⟨RX3, "stateOf", "(II)I"⟩
abbrev cX3_ticksIn : ByteArray := prog_5_method_18_code
def yX3_ticksIn : MethodName := ⟨RX3, "ticksIn", "([II)I"⟩
abbrev cX3_ticksBehind : ByteArray := prog_5_method_19_code
def yX3_ticksBehind : MethodName := ⟨RX3, "ticksBehind", "(II)I"⟩
def RX4 : String := "OneKnife$Search"
def TX4 : u_T := fun k => match k with
  | 0 => ("OneKnife$Search", "setting", "LOneKnife$Setting;", true)
  | 1 => ("OneKnife$Search", "trial", "LOneKnife$Setting;", true)
  | 2 => ("OneKnife$Search", "run", "LOneKnife$Run;", true)
  | 3 => ("OneKnife$Search", "bestKnown", "Z", false)
  | 4 => ("OneKnife$Search", "bestThere", "Z", false)
  | 5 => ("OneKnife$Search", "order", "[I", true)
  | 6 => ("OneKnife$Search", "shedKnown", "Z", false)
  | 7 => ("OneKnife$Search", "shedBits", "I", false)
  | 8 => ("OneKnife$Search", "shedWorth", "I", false)
  | 9 => ("OneKnife$Search", "shedNumber", "I", false)
  | 10 => ("OneKnife$Search", "whateverKnown", "I", false)
  | 11 => ("OneKnife$Search", "longest", "[I", true)
  | 12 => ("OneKnife$Search", "lateWays", "I", false)
  | 13 => ("OneKnife$Search", "mendedKnown", "Z", false)
  | _ => ("OneKnife$Search", "mending", "[I", true)
def tyX4 : Nat → FieldType := fun k => match k with
  | 0 => .object "OneKnife$Setting"
  | 1 => .object "OneKnife$Setting"
  | 2 => .object "OneKnife$Run"
  | 3 => .boolean
  | 4 => .boolean
  | 5 => .array .int
  | 6 => .boolean
  | 7 => .int
  | 8 => .int
  | 9 => .int
  | 10 => .int
  | 11 => .array .int
  | 12 => .int
  | 13 => .boolean
  | _ => .array .int
theorem nmX4 : ∀ a, a < 15 → ∀ b, b < 15 → a ≠ b → (TX4 a).2.1 ≠ (TX4 b).2.1 := by decide +kernel
theorem tyX4_ok : ∀ k, k < 15 → parseFieldDescriptor (TX4 k).2.2.1 = some (tyX4 k) := by decide +kernel
abbrev cX4_init : ByteArray := prog_6_method_1_code
def yX4_init : MethodName := ⟨RX4, "<init>", "(LOneKnife$Setting;LOneKnife$Run;)V"⟩
abbrev cX4_forget : ByteArray := prog_6_method_2_code
def yX4_forget : MethodName := ⟨RX4, "forget", "()V"⟩
abbrev cX4_findBest : ByteArray := prog_6_method_3_code
def yX4_findBest : MethodName := ⟨RX4, "findBest", "()V"⟩
abbrev cX4_bestAt : ByteArray := prog_6_method_4_code
def yX4_bestAt : MethodName := ⟨RX4, "bestAt", "(I)I"⟩
abbrev cX4_orderAt : ByteArray := prog_6_method_5_code
def yX4_orderAt : MethodName := ⟨RX4, "orderAt", "(I)I"⟩
abbrev cX4_firstOrder : ByteArray := prog_6_method_6_code
def yX4_firstOrder : MethodName := ⟨RX4, "firstOrder", "()I"⟩
abbrev cX4_nextOrder : ByteArray := prog_6_method_7_code
def yX4_nextOrder : MethodName := ⟨RX4, "nextOrder", "(I)Z"⟩
abbrev cX4_swapOrder : ByteArray := prog_6_method_8_code
def yX4_swapOrder : MethodName := ⟨RX4, "swapOrder", "(II)V"⟩
abbrev cX4_slackOf : ByteArray := prog_6_method_9_code
def yX4_slackOf : MethodName := ⟨RX4, "slackOf", "(II)I"⟩
abbrev cX4_findShed : ByteArray := prog_6_method_10_code
def yX4_findShed : MethodName := ⟨RX4, "findShed", "()V"⟩
abbrev cX4_tryToShed : ByteArray := prog_6_method_11_code
def yX4_tryToShed : MethodName := ⟨RX4, "tryToShed", "(I)V"⟩
abbrev cX4_findWhatever : ByteArray := prog_6_method_12_code
def yX4_findWhatever : MethodName := ⟨RX4, "findWhatever", "(I)V"⟩
abbrev cX4_delayBy : ByteArray := prog_6_method_13_code
def yX4_delayBy : MethodName := ⟨RX4, "delayBy", "(II)V"⟩
abbrev cX4_fitting : ByteArray := prog_6_method_14_code
def yX4_fitting : MethodName := ⟨RX4, "fitting", "(LOneKnife$Sheet;)I"⟩
abbrev cX4_goesAs : ByteArray := prog_6_method_15_code
def yX4_goesAs : MethodName := ⟨RX4, "goesAs", "(LOneKnife$Sheet;)Z"⟩
abbrev cX4_findMended : ByteArray := prog_6_method_16_code
def yX4_findMended : MethodName := ⟨RX4, "findMended", "()V"⟩
abbrev cX4_changesOfRules : ByteArray := prog_6_method_17_code
def yX4_changesOfRules : MethodName := ⟨RX4, "changesOfRules", "()I"⟩
abbrev cX4_mends : ByteArray := prog_6_method_18_code
def yX4_mends : MethodName := ⟨RX4, "mends", "(III)Z"⟩
abbrev cX4_swapRanks : ByteArray := prog_6_method_19_code
def yX4_swapRanks : MethodName := ⟨RX4, "swapRanks", "(II)V"⟩
abbrev cX4_keepMending : ByteArray := prog_6_method_20_code
def yX4_keepMending : MethodName := ⟨RX4, "keepMending", "(III)V"⟩
def RX5 : String := "OneKnife$Setting"
def TX5 : u_T := fun k => match k with
  | 0 => ("OneKnife$Setting", "are", "I", false)
  | 1 => ("OneKnife$Setting", "rank", "[I", true)
  | 2 => ("OneKnife$Setting", "worth", "[I", true)
  | 3 => ("OneKnife$Setting", "later", "[I", true)
  | 4 => ("OneKnife$Setting", "rule", "I", false)
  | 5 => ("OneKnife$Setting", "lending", "I", false)
  | 6 => ("OneKnife$Setting", "hands", "I", false)
  | 7 => ("OneKnife$Setting", "ticks", "I", false)
  | 8 => ("OneKnife$Setting", "longTask", "I", false)
  | 9 => ("OneKnife$Setting", "longStep", "I", false)
  | _ => ("OneKnife$Setting", "longerBy", "I", false)
def tyX5 : Nat → FieldType := fun k => match k with
  | 0 => .int
  | 1 => .array .int
  | 2 => .array .int
  | 3 => .array .int
  | 4 => .int
  | 5 => .int
  | 6 => .int
  | 7 => .int
  | 8 => .int
  | 9 => .int
  | _ => .int
theorem nmX5 : ∀ a, a < 11 → ∀ b, b < 11 → a ≠ b → (TX5 a).2.1 ≠ (TX5 b).2.1 := by decide +kernel
theorem tyX5_ok : ∀ k, k < 11 → parseFieldDescriptor (TX5 k).2.2.1 = some (tyX5 k) := by decide +kernel
abbrev cX5_init : ByteArray := prog_7_method_1_code
def yX5_init : MethodName := ⟨RX5, "<init>", "()V"⟩
abbrev cX5_become : ByteArray := prog_7_method_2_code
def yX5_become : MethodName := ⟨RX5, "become", "(LOneKnife$Setting;)V"⟩
abbrev cX5_partOf : ByteArray := prog_7_method_3_code
def yX5_partOf : MethodName := ⟨RX5, "partOf", "(I)I"⟩
abbrev cX5_changePart : ByteArray := prog_7_method_4_code
def yX5_changePart : MethodName := ⟨RX5, "changePart", "(II)V"⟩
abbrev cX5_has : ByteArray := prog_7_method_5_code
def yX5_has : MethodName := ⟨RX5, "has", "(I)Z"⟩
abbrev cX5_goesByRanks : ByteArray := prog_7_method_6_code
def yX5_goesByRanks : MethodName := ⟨RX5, "goesByRanks", "()Z"⟩
abbrev cX5_rankOf : ByteArray := prog_7_method_7_code
def yX5_rankOf : MethodName := ⟨RX5, "rankOf", "(I)I"⟩
abbrev cX5_lesser : ByteArray := prog_7_method_8_code
def yX5_lesser : MethodName := ⟨RX5, "lesser", "(I)I"⟩
abbrev cX5_goesAhead : ByteArray := prog_7_method_9_code
def yX5_goesAhead : MethodName := ⟨RX5, "goesAhead", "(II)Z"⟩
def RX6 : String := "OneKnife$Sheet"
def TX6 : u_T := fun k => match k with
  | 0 => ("OneKnife$Sheet", "lost", "Z", false)
  | 1 => ("OneKnife$Sheet", "type", "I", false)
  | 2 => ("OneKnife$Sheet", "size", "I", false)
  | _ => ("OneKnife$Sheet", "items", "[I", true)
def tyX6 : Nat → FieldType := fun k => match k with
  | 0 => .boolean
  | 1 => .int
  | 2 => .int
  | _ => .array .int
theorem nmX6 : ∀ a, a < 4 → ∀ b, b < 4 → a ≠ b → (TX6 a).2.1 ≠ (TX6 b).2.1 := by decide +kernel
theorem tyX6_ok : ∀ k, k < 4 → parseFieldDescriptor (TX6 k).2.2.1 = some (tyX6 k) := by decide +kernel
abbrev cX6_init : ByteArray := prog_8_method_1_code
def yX6_init : MethodName := ⟨RX6, "<init>", "()V"⟩
abbrev cX6_renew : ByteArray := prog_8_method_2_code
def yX6_renew : MethodName := ⟨RX6, "renew", "(II)V"⟩
abbrev cX6_faultOf : ByteArray := prog_8_method_3_code
def yX6_faultOf : MethodName := ⟨RX6, "faultOf", "(II)I"⟩
abbrev cX6_hasRow : ByteArray := prog_8_method_4_code
def yX6_hasRow : MethodName := ⟨RX6, "hasRow", "(II)Z"⟩
abbrev cX6_itemAt : ByteArray := prog_8_method_5_code
def yX6_itemAt : MethodName := ⟨RX6, "itemAt", "(I)I"⟩
abbrev cX6_become : ByteArray := prog_8_method_6_code
def yX6_become : MethodName := ⟨RX6, "become", "(II)V"⟩
def RX7 : String := "OneKnife$Things"
def TX7 : u_T := fun k => match k with
  | 0 => ("OneKnife$Things", "number", "I", false)
  | 1 => ("OneKnife$Things", "fires", "I", false)
  | 2 => ("OneKnife$Things", "many", "[I", true)
  | 3 => ("OneKnife$Things", "from", "[I", true)
  | _ => ("OneKnife$Things", "till", "[I", true)
def tyX7 : Nat → FieldType := fun k => match k with
  | 0 => .int
  | 1 => .int
  | 2 => .array .int
  | 3 => .array .int
  | _ => .array .int
theorem nmX7 : ∀ a, a < 5 → ∀ b, b < 5 → a ≠ b → (TX7 a).2.1 ≠ (TX7 b).2.1 := by decide +kernel
theorem tyX7_ok : ∀ k, k < 5 → parseFieldDescriptor (TX7 k).2.2.1 = some (tyX7 k) := by decide +kernel
abbrev cX7_init : ByteArray := prog_9_method_1_code
def yX7_init : MethodName := ⟨RX7, "<init>", "()V"⟩
abbrev cX7_more : ByteArray := prog_9_method_2_code
def yX7_more : MethodName := ⟨RX7, "more", "(II)I"⟩
abbrev cX7_breakIt : ByteArray := prog_9_method_3_code
def yX7_breakIt : MethodName := ⟨RX7, "breakIt", "(III)V"⟩
abbrev cX7_brokenIn : ByteArray := prog_9_method_4_code
def yX7_brokenIn : MethodName := ⟨RX7, "brokenIn", "(I)I"⟩
def RX8 : String := "OneKnife"
def TX8 : u_T := fun k => match k with
  | 0 => ("OneKnife", "things", "LOneKnife$Things;", true)
  | 1 => ("OneKnife", "plans", "[LOneKnife$Plan;", true)
  | 2 => ("OneKnife", "setting", "LOneKnife$Setting;", true)
  | 3 => ("OneKnife", "reckoner", "LOneKnife$Reckoner;", true)
  | 4 => ("OneKnife", "run", "LOneKnife$Run;", true)
  | 5 => ("OneKnife", "search", "LOneKnife$Search;", true)
  | 6 => ("OneKnife", "sheets", "[LOneKnife$Sheet;", true)
  | 7 => ("OneKnife", "hasRun", "Z", false)
  | 8 => ("OneKnife", "dropped", "I", false)
  | _ => ("OneKnife", "finding", "I", false)
def tyX8 : Nat → FieldType := fun k => match k with
  | 0 => .object "OneKnife$Things"
  | 1 => .array (.object "OneKnife$Plan")
  | 2 => .object "OneKnife$Setting"
  | 3 => .object "OneKnife$Reckoner"
  | 4 => .object "OneKnife$Run"
  | 5 => .object "OneKnife$Search"
  | 6 => .array (.object "OneKnife$Sheet")
  | 7 => .boolean
  | 8 => .int
  | _ => .int
theorem nmX8 : ∀ a, a < 10 → ∀ b, b < 10 → a ≠ b → (TX8 a).2.1 ≠ (TX8 b).2.1 := by decide +kernel
theorem tyX8_ok : ∀ k, k < 10 → parseFieldDescriptor (TX8 k).2.2.1 = some (tyX8 k) := by decide +kernel
abbrev cX8_init : ByteArray := prog_1_method_1_code
def yX8_init : MethodName := ⟨RX8, "<init>", "()V"⟩
abbrev cX8_thing : ByteArray := prog_1_method_2_code
def yX8_thing : MethodName := ⟨RX8, "thing", "(II)I"⟩
abbrev cX8_broken : ByteArray := prog_1_method_3_code
def yX8_broken : MethodName := ⟨RX8, "broken", "(III)I"⟩
abbrev cX8_type : ByteArray := prog_1_method_4_code
def yX8_type : MethodName := ⟨RX8, "type", "(II)I"⟩
abbrev cX8_wipe : ByteArray := prog_1_method_5_code
def yX8_wipe : MethodName := ⟨RX8, "wipe", "(I)I"⟩
abbrev cX8_fault : ByteArray := prog_1_method_6_code
def yX8_fault : MethodName := ⟨RX8, "fault", "(I)I"⟩
abbrev cX8_about : ByteArray := prog_1_method_7_code
def yX8_about : MethodName := ⟨RX8, "about", "(II)I"⟩
abbrev cX8_set : ByteArray := prog_1_method_8_code
def yX8_set : MethodName := ⟨RX8, "set", "(III)I"⟩
abbrev cX8_drop : ByteArray := prog_1_method_9_code
def yX8_drop : MethodName := ⟨RX8, "drop", "(IZ)I"⟩
abbrev cX8_rule : ByteArray := prog_1_method_10_code
def yX8_rule : MethodName := ⟨RX8, "rule", "(II)I"⟩
abbrev cX8_who : ByteArray := prog_1_method_11_code
def yX8_who : MethodName := ⟨RX8, "who", "(II)I"⟩
abbrev cX8_state : ByteArray := prog_1_method_12_code
def yX8_state : MethodName := ⟨RX8, "state", "(II)I"⟩
abbrev cX8_done : ByteArray := prog_1_method_13_code
def yX8_done : MethodName := ⟨RX8, "done", "(II)I"⟩
abbrev cX8_told : ByteArray := prog_1_method_14_code
def yX8_told : MethodName := ⟨RX8, "told", "(II)I"⟩
abbrev cX8_late : ByteArray := prog_1_method_15_code
def yX8_late : MethodName := ⟨RX8, "late", "()I"⟩
abbrev cX8_ring : ByteArray := prog_1_method_16_code
def yX8_ring : MethodName := ⟨RX8, "ring", "(I)I"⟩
abbrev cX8_bound : ByteArray := prog_1_method_17_code
def yX8_bound : MethodName := ⟨RX8, "bound", "(I)I"⟩
abbrev cX8_held : ByteArray := prog_1_method_18_code
def yX8_held : MethodName := ⟨RX8, "held", "(I)I"⟩
abbrev cX8_best : ByteArray := prog_1_method_19_code
def yX8_best : MethodName := ⟨RX8, "best", "(I)I"⟩
abbrev cX8_slack : ByteArray := prog_1_method_20_code
def yX8_slack : MethodName := ⟨RX8, "slack", "(II)I"⟩
abbrev cX8_shed : ByteArray := prog_1_method_21_code
def yX8_shed : MethodName := ⟨RX8, "shed", "(I)I"⟩
abbrev cX8_whatever : ByteArray := prog_1_method_22_code
def yX8_whatever : MethodName := ⟨RX8, "whatever", "(III)I"⟩
abbrev cX8_fits : ByteArray := prog_1_method_23_code
def yX8_fits : MethodName := ⟨RX8, "fits", "(I)I"⟩
abbrev cX8_mended : ByteArray := prog_1_method_24_code
def yX8_mended : MethodName := ⟨RX8, "mended", "(I)I"⟩
abbrev cX8_sheet : ByteArray := prog_1_method_25_code
def yX8_sheet : MethodName := ⟨RX8, "sheet", "(III)I"⟩
abbrev cX8_lose : ByteArray := prog_1_method_26_code
def yX8_lose : MethodName := ⟨RX8, "lose", "(I)I"⟩
abbrev cX8_put : ByteArray := prog_1_method_27_code
def yX8_put : MethodName := ⟨RX8, "put", "(IIII)I"⟩
abbrev cX8_get : ByteArray := prog_1_method_28_code
def yX8_get : MethodName := ⟨RX8, "get", "(III)I"⟩
abbrev cX8_copy : ByteArray := prog_1_method_29_code
def yX8_copy : MethodName := ⟨RX8, "copy", "(IIIII)I"⟩
abbrev cX8_write : ByteArray := prog_1_method_30_code
def yX8_write : MethodName := ⟨RX8, "write", "(I)I"⟩
abbrev cX8_count : ByteArray := prog_1_method_31_code
def yX8_count : MethodName := ⟨RX8, "count", "(I)I"⟩
abbrev cX8_digest : ByteArray := prog_1_method_32_code
def yX8_digest : MethodName := ⟨RX8, "digest", "()J"⟩
abbrev cX8_isTask : ByteArray := prog_1_method_33_code
def yX8_isTask : MethodName := ⟨RX8, "isTask", "(I)Z"⟩
abbrev cX8_isSheet : ByteArray := prog_1_method_34_code
def yX8_isSheet : MethodName := ⟨RX8, "isSheet", "(I)Z"⟩
abbrev cX8_isType : ByteArray := prog_1_method_35_code
def yX8_isType : MethodName := ⟨RX8, "isType", "(I)Z"⟩
abbrev cX8_isTickEver : ByteArray := prog_1_method_36_code
def yX8_isTickEver : MethodName := ⟨RX8, "isTickEver", "(I)Z"⟩
abbrev cX8_leastOfRule : ByteArray := prog_1_method_37_code
def yX8_leastOfRule : MethodName := ⟨RX8, "leastOfRule", "(I)I"⟩
abbrev cX8_mostOfRule : ByteArray := prog_1_method_38_code
def yX8_mostOfRule : MethodName := ⟨RX8, "mostOfRule", "(I)I"⟩
abbrev cX8_isTick : ByteArray := prog_1_method_39_code
def yX8_isTick : MethodName := ⟨RX8, "isTick", "(I)Z"⟩
abbrev cX8_find : ByteArray := prog_1_method_40_code
def yX8_find : MethodName := ⟨RX8, "find", "(I)I"⟩
abbrev cX8_bytes : ByteArray := prog_1_method_41_code
def yX8_bytes : MethodName := ⟨RX8, "bytes", "()I"⟩
abbrev cX8_change : ByteArray := prog_1_method_42_code
def yX8_change : MethodName := ⟨RX8, "change", "()V"⟩
abbrev cX8_goOnce : ByteArray := prog_1_method_43_code
def yX8_goOnce : MethodName := ⟨RX8, "goOnce", "()V"⟩
def RX9 : String := "OneKnifeModel"
def TX9 : u_T := fun k => match k with
  | 0 => ("OneKnifeModel", "things", "I", false)
  | 1 => ("OneKnifeModel", "kindOf", "[I", true)
  | 2 => ("OneKnifeModel", "manyOf", "[I", true)
  | 3 => ("OneKnifeModel", "brokenFrom", "[I", true)
  | 4 => ("OneKnifeModel", "brokenTill", "[I", true)
  | 5 => ("OneKnifeModel", "typed", "[I", true)
  | 6 => ("OneKnifeModel", "texts", "[I", true)
  | 7 => ("OneKnifeModel", "rankOf", "[I", true)
  | 8 => ("OneKnifeModel", "worthOf", "[I", true)
  | 9 => ("OneKnifeModel", "dropped", "I", false)
  | 10 => ("OneKnifeModel", "isRead", "Z", false)
  | 11 => ("OneKnifeModel", "faults", "[I", true)
  | 12 => ("OneKnifeModel", "spanOf", "[I", true)
  | 13 => ("OneKnifeModel", "dueOf", "[I", true)
  | 14 => ("OneKnifeModel", "beginOf", "[I", true)
  | 15 => ("OneKnifeModel", "stepMany", "[I", true)
  | 16 => ("OneKnifeModel", "stepKind", "[I", true)
  | 17 => ("OneKnifeModel", "stepArg", "[I", true)
  | 18 => ("OneKnifeModel", "forgotten", "[I", true)
  | 19 => ("OneKnifeModel", "taskNow", "I", false)
  | 20 => ("OneKnifeModel", "at", "I", false)
  | 21 => ("OneKnifeModel", "fault", "I", false)
  | 22 => ("OneKnifeModel", "ruleNow", "I", false)
  | 23 => ("OneKnifeModel", "lendingNow", "I", false)
  | 24 => ("OneKnifeModel", "hands", "I", false)
  | 25 => ("OneKnifeModel", "ticks", "I", false)
  | 26 => ("OneKnifeModel", "isRun", "Z", false)
  | 27 => ("OneKnifeModel", "among", "I", false)
  | 28 => ("OneKnifeModel", "ranks", "[I", true)
  | 29 => ("OneKnifeModel", "later", "[I", true)
  | 30 => ("OneKnifeModel", "longerTask", "I", false)
  | 31 => ("OneKnifeModel", "longerStep", "I", false)
  | 32 => ("OneKnifeModel", "longerBy", "I", false)
  | 33 => ("OneKnifeModel", "byRule", "I", false)
  | 34 => ("OneKnifeModel", "byLending", "I", false)
  | 35 => ("OneKnifeModel", "came", "[I", true)
  | 36 => ("OneKnifeModel", "begun", "[I", true)
  | 37 => ("OneKnifeModel", "cameAt", "[I", true)
  | 38 => ("OneKnifeModel", "doneAt", "[I", true)
  | 39 => ("OneKnifeModel", "stepNow", "[I", true)
  | 40 => ("OneKnifeModel", "didNow", "[I", true)
  | 41 => ("OneKnifeModel", "hasNow", "[I", true)
  | 42 => ("OneKnifeModel", "goesOn", "[Z", true)
  | 43 => ("OneKnifeModel", "lastWork", "[I", true)
  | 44 => ("OneKnifeModel", "stateNow", "[I", true)
  | 45 => ("OneKnifeModel", "waitsFor", "[I", true)
  | 46 => ("OneKnifeModel", "force", "[I", true)
  | 47 => ("OneKnifeModel", "chosen", "[I", true)
  | 48 => ("OneKnifeModel", "states", "[I", true)
  | 49 => ("OneKnifeModel", "ringTick", "I", false)
  | 50 => ("OneKnifeModel", "ringBits", "I", false)
  | 51 => ("OneKnifeModel", "tick", "I", false)
  | 52 => ("OneKnifeModel", "highestOf", "[I", true)
  | 53 => ("OneKnifeModel", "order", "[I", true)
  | 54 => ("OneKnifeModel", "mendMany", "I", false)
  | 55 => ("OneKnifeModel", "mendRule", "I", false)
  | 56 => ("OneKnifeModel", "mendLending", "I", false)
  | 57 => ("OneKnifeModel", "mendFirst", "I", false)
  | 58 => ("OneKnifeModel", "mendSecond", "I", false)
  | 59 => ("OneKnifeModel", "isThere", "[Z", true)
  | 60 => ("OneKnifeModel", "types", "[I", true)
  | 61 => ("OneKnifeModel", "sizes", "[I", true)
  | 62 => ("OneKnifeModel", "items", "[I", true)
  | 63 => ("OneKnifeModel", "moved", "[I", true)
  | _ => ("OneKnifeModel", "finding", "I", false)
def tyX9 : Nat → FieldType := fun k => match k with
  | 0 => .int
  | 1 => .array .int
  | 2 => .array .int
  | 3 => .array .int
  | 4 => .array .int
  | 5 => .array .int
  | 6 => .array .int
  | 7 => .array .int
  | 8 => .array .int
  | 9 => .int
  | 10 => .boolean
  | 11 => .array .int
  | 12 => .array .int
  | 13 => .array .int
  | 14 => .array .int
  | 15 => .array .int
  | 16 => .array .int
  | 17 => .array .int
  | 18 => .array .int
  | 19 => .int
  | 20 => .int
  | 21 => .int
  | 22 => .int
  | 23 => .int
  | 24 => .int
  | 25 => .int
  | 26 => .boolean
  | 27 => .int
  | 28 => .array .int
  | 29 => .array .int
  | 30 => .int
  | 31 => .int
  | 32 => .int
  | 33 => .int
  | 34 => .int
  | 35 => .array .int
  | 36 => .array .int
  | 37 => .array .int
  | 38 => .array .int
  | 39 => .array .int
  | 40 => .array .int
  | 41 => .array .int
  | 42 => .array .boolean
  | 43 => .array .int
  | 44 => .array .int
  | 45 => .array .int
  | 46 => .array .int
  | 47 => .array .int
  | 48 => .array .int
  | 49 => .int
  | 50 => .int
  | 51 => .int
  | 52 => .array .int
  | 53 => .array .int
  | 54 => .int
  | 55 => .int
  | 56 => .int
  | 57 => .int
  | 58 => .int
  | 59 => .array .boolean
  | 60 => .array .int
  | 61 => .array .int
  | 62 => .array .int
  | 63 => .array .int
  | _ => .int
theorem nmX9 : ∀ a, a < 65 → ∀ b, b < 65 → a ≠ b → (TX9 a).2.1 ≠ (TX9 b).2.1 := by decide +kernel
theorem tyX9_ok : ∀ k, k < 65 → parseFieldDescriptor (TX9 k).2.2.1 = some (tyX9 k) := by decide +kernel
abbrev cX9_init : ByteArray := prog_11_method_1_code
def yX9_init : MethodName := ⟨RX9, "<init>", "()V"⟩
abbrev cX9_in : ByteArray := prog_11_method_3_code
def yX9_in : MethodName := ⟨RX9, "in", "(III)Z"⟩
abbrev cX9_ones : ByteArray := prog_11_method_4_code
def yX9_ones : MethodName := ⟨RX9, "ones", "(I)I"⟩
abbrev cX9_thing : ByteArray := prog_11_method_5_code
def yX9_thing : MethodName := ⟨RX9, "thing", "(II)I"⟩
abbrev cX9_broken : ByteArray := prog_11_method_6_code
def yX9_broken : MethodName := ⟨RX9, "broken", "(III)I"⟩
abbrev cX9_changes : ByteArray := prog_11_method_7_code
def yX9_changes : MethodName := ⟨RX9, "changes", "()V"⟩
abbrev cX9_isTask : ByteArray := prog_11_method_8_code
def yX9_isTask : MethodName := ⟨RX9, "isTask", "(I)Z"⟩
abbrev cX9_type : ByteArray := prog_11_method_9_code
def yX9_type : MethodName := ⟨RX9, "type", "(II)I"⟩
abbrev cX9_wipe : ByteArray := prog_11_method_10_code
def yX9_wipe : MethodName := ⟨RX9, "wipe", "(I)I"⟩
abbrev cX9_byteNow : ByteArray := prog_11_method_11_code
def yX9_byteNow : MethodName := ⟨RX9, "byteNow", "()I"⟩
abbrev cX9_expects : ByteArray := prog_11_method_12_code
def yX9_expects : MethodName := ⟨RX9, "expects", "(I)V"⟩
abbrev cX9_number : ByteArray := prog_11_method_13_code
def yX9_number : MethodName := ⟨RX9, "number", "(III)I"⟩
abbrev cX9_stepRead : ByteArray := prog_11_method_14_code
def yX9_stepRead : MethodName := ⟨RX9, "stepRead", "(I)I"⟩
abbrev cX9_readsTask : ByteArray := prog_11_method_15_code
def yX9_readsTask : MethodName := ⟨RX9, "readsTask", "(I)V"⟩
abbrev cX9_reads : ByteArray := prog_11_method_16_code
def yX9_reads : MethodName := ⟨RX9, "reads", "()V"⟩
abbrev cX9_workOf : ByteArray := prog_11_method_17_code
def yX9_workOf : MethodName := ⟨RX9, "workOf", "(I)I"⟩
abbrev cX9_faultOf : ByteArray := prog_11_method_18_code
def yX9_faultOf : MethodName := ⟨RX9, "faultOf", "(I)I"⟩
abbrev cX9_fault : ByteArray := prog_11_method_19_code
def yX9_fault : MethodName := ⟨RX9, "fault", "(I)I"⟩
abbrev cX9_those : ByteArray := prog_11_method_20_code
def yX9_those : MethodName := ⟨RX9, "those", "()I"⟩
abbrev cX9_about : ByteArray := prog_11_method_21_code
def yX9_about : MethodName := ⟨RX9, "about", "(II)I"⟩
abbrev cX9_set : ByteArray := prog_11_method_22_code
def yX9_set : MethodName := ⟨RX9, "set", "(III)I"⟩
abbrev cX9_drop : ByteArray := prog_11_method_23_code
def yX9_drop : MethodName := ⟨RX9, "drop", "(IZ)I"⟩
abbrev cX9_rule : ByteArray := prog_11_method_24_code
def yX9_rule : MethodName := ⟨RX9, "rule", "(II)I"⟩
abbrev cX9_asTold : ByteArray := prog_11_method_25_code
def yX9_asTold : MethodName := ⟨RX9, "asTold", "()V"⟩
abbrev cX9_begins : ByteArray := prog_11_method_26_code
def yX9_begins : MethodName := ⟨RX9, "begins", "()V"⟩
abbrev cX9_comes : ByteArray := prog_11_method_27_code
def yX9_comes : MethodName := ⟨RX9, "comes", "()V"⟩
abbrev cX9_havingMany : ByteArray := prog_11_method_28_code
def yX9_havingMany : MethodName := ⟨RX9, "havingMany", "(I)I"⟩
abbrev cX9_highest : ByteArray := prog_11_method_29_code
def yX9_highest : MethodName := ⟨RX9, "highest", "(I)I"⟩
abbrev cX9_upward : ByteArray := prog_11_method_30_code
def yX9_upward : MethodName := ⟨RX9, "upward", "(I)I"⟩
abbrev cX9_isBroken : ByteArray := prog_11_method_31_code
def yX9_isBroken : MethodName := ⟨RX9, "isBroken", "(I)Z"⟩
abbrev cX9_having : ByteArray := prog_11_method_32_code
def yX9_having : MethodName := ⟨RX9, "having", "(II)I"⟩
abbrev cX9_takes : ByteArray := prog_11_method_33_code
def yX9_takes : MethodName := ⟨RX9, "takes", "(II)Z"⟩
abbrev cX9_ends : ByteArray := prog_11_method_34_code
def yX9_ends : MethodName := ⟨RX9, "ends", "(II)V"⟩
abbrev cX9_does : ByteArray := prog_11_method_35_code
def yX9_does : MethodName := ⟨RX9, "does", "(I)Z"⟩
abbrev cX9_keyOf : ByteArray := prog_11_method_36_code
def yX9_keyOf : MethodName := ⟨RX9, "keyOf", "(I)I"⟩
abbrev cX9_forces : ByteArray := prog_11_method_37_code
def yX9_forces : MethodName := ⟨RX9, "forces", "()V"⟩
abbrev cX9_hasFire : ByteArray := prog_11_method_38_code
def yX9_hasFire : MethodName := ⟨RX9, "hasFire", "(I)Z"⟩
abbrev cX9_bestNow : ByteArray := prog_11_method_39_code
def yX9_bestNow : MethodName := ⟨RX9, "bestNow", "()I"⟩
abbrev cX9_chooses : ByteArray := prog_11_method_40_code
def yX9_chooses : MethodName := ⟨RX9, "chooses", "()V"⟩
abbrev cX9_ringNow : ByteArray := prog_11_method_41_code
def yX9_ringNow : MethodName := ⟨RX9, "ringNow", "()I"⟩
abbrev cX9_ticksOf : ByteArray := prog_11_method_42_code
def yX9_ticksOf : MethodName := ⟨RX9, "ticksOf", "(II)I"⟩
abbrev cX9_works : ByteArray := prog_11_method_43_code
def yX9_works : MethodName := ⟨RX9, "works", "()V"⟩
abbrev cX9_runs : ByteArray := prog_11_method_44_code
def yX9_runs : MethodName := ⟨RX9, "runs", "()V"⟩
abbrev cX9_lateOf : ByteArray := prog_11_method_45_code
def yX9_lateOf : MethodName := ⟨RX9, "lateOf", "(I)I"⟩
abbrev cX9_lateAll : ByteArray := prog_11_method_46_code
def yX9_lateAll : MethodName := ⟨RX9, "lateAll", "()I"⟩
abbrev cX9_runTold : ByteArray := prog_11_method_47_code
def yX9_runTold : MethodName := ⟨RX9, "runTold", "()V"⟩
abbrev cX9_who : ByteArray := prog_11_method_48_code
def yX9_who : MethodName := ⟨RX9, "who", "(II)I"⟩
abbrev cX9_state : ByteArray := prog_11_method_49_code
def yX9_state : MethodName := ⟨RX9, "state", "(II)I"⟩
abbrev cX9_done : ByteArray := prog_11_method_50_code
def yX9_done : MethodName := ⟨RX9, "done", "(II)I"⟩
abbrev cX9_doneMany : ByteArray := prog_11_method_51_code
def yX9_doneMany : MethodName := ⟨RX9, "doneMany", "(I)I"⟩
abbrev cX9_longest : ByteArray := prog_11_method_52_code
def yX9_longest : MethodName := ⟨RX9, "longest", "(I)I"⟩
abbrev cX9_ticksIn : ByteArray := prog_11_method_53_code
def yX9_ticksIn : MethodName := ⟨RX9, "ticksIn", "(II)I"⟩
abbrev cX9_behind : ByteArray := prog_11_method_54_code
def yX9_behind : MethodName := ⟨RX9, "behind", "(I)I"⟩
abbrev cX9_toldOf : ByteArray := prog_11_method_55_code
def yX9_toldOf : MethodName := ⟨RX9, "toldOf", "(II)I"⟩
abbrev cX9_told : ByteArray := prog_11_method_56_code
def yX9_told : MethodName := ⟨RX9, "told", "(II)I"⟩
abbrev cX9_late : ByteArray := prog_11_method_57_code
def yX9_late : MethodName := ⟨RX9, "late", "()I"⟩
abbrev cX9_ring : ByteArray := prog_11_method_58_code
def yX9_ring : MethodName := ⟨RX9, "ring", "(I)I"⟩
abbrev cX9_goesAhead : ByteArray := prog_11_method_59_code
def yX9_goesAhead : MethodName := ⟨RX9, "goesAhead", "(II)Z"⟩
abbrev cX9_doesTake : ByteArray := prog_11_method_60_code
def yX9_doesTake : MethodName := ⟨RX9, "doesTake", "(II)Z"⟩
abbrev cX9_workFrom : ByteArray := prog_11_method_61_code
def yX9_workFrom : MethodName := ⟨RX9, "workFrom", "(II)I"⟩
abbrev cX9_heldOf : ByteArray := prog_11_method_62_code
def yX9_heldOf : MethodName := ⟨RX9, "heldOf", "(I)I"⟩
abbrev cX9_isBounded : ByteArray := prog_11_method_63_code
def yX9_isBounded : MethodName := ⟨RX9, "isBounded", "(I)Z"⟩
abbrev cX9_boundOf : ByteArray := prog_11_method_64_code
def yX9_boundOf : MethodName := ⟨RX9, "boundOf", "(I)I"⟩
abbrev cX9_bound : ByteArray := prog_11_method_65_code
def yX9_bound : MethodName := ⟨RX9, "bound", "(I)I"⟩
abbrev cX9_held : ByteArray := prog_11_method_66_code
def yX9_held : MethodName := ⟨RX9, "held", "(I)I"⟩
abbrev cX9_triedLate : ByteArray := prog_11_method_67_code
def yX9_triedLate : MethodName := ⟨RX9, "triedLate", "()I"⟩
abbrev cX9_turns : ByteArray := prog_11_method_68_code
def yX9_turns : MethodName := ⟨RX9, "turns", "(I)Z"⟩
abbrev cX9_ranksBest : ByteArray := prog_11_method_69_code
def yX9_ranksBest : MethodName := ⟨RX9, "ranksBest", "(I)Z"⟩
abbrev cX9_best : ByteArray := prog_11_method_70_code
def yX9_best : MethodName := ⟨RX9, "best", "(I)I"⟩
abbrev cX9_slack : ByteArray := prog_11_method_71_code
def yX9_slack : MethodName := ⟨RX9, "slack", "(II)I"⟩
abbrev cX9_worthOfSet : ByteArray := prog_11_method_72_code
def yX9_worthOfSet : MethodName := ⟨RX9, "worthOfSet", "(I)I"⟩
abbrev cX9_shed : ByteArray := prog_11_method_73_code
def yX9_shed : MethodName := ⟨RX9, "shed", "(I)I"⟩
abbrev cX9_whatever : ByteArray := prog_11_method_74_code
def yX9_whatever : MethodName := ⟨RX9, "whatever", "(III)I"⟩
abbrev cX9_fits : ByteArray := prog_11_method_75_code
def yX9_fits : MethodName := ⟨RX9, "fits", "(I)I"⟩
abbrev cX9_isWell : ByteArray := prog_11_method_76_code
def yX9_isWell : MethodName := ⟨RX9, "isWell", "(IIII)Z"⟩
abbrev cX9_tries : ByteArray := prog_11_method_77_code
def yX9_tries : MethodName := ⟨RX9, "tries", "(IIIII)V"⟩
abbrev cX9_mends : ByteArray := prog_11_method_78_code
def yX9_mends : MethodName := ⟨RX9, "mends", "()V"⟩
abbrev cX9_mended : ByteArray := prog_11_method_79_code
def yX9_mended : MethodName := ⟨RX9, "mended", "(I)I"⟩
abbrev cX9_meets : ByteArray := prog_11_method_80_code
def yX9_meets : MethodName := ⟨RX9, "meets", "(I)I"⟩
abbrev cX9_isSheet : ByteArray := prog_11_method_81_code
def yX9_isSheet : MethodName := ⟨RX9, "isSheet", "(I)Z"⟩
abbrev cX9_sheet : ByteArray := prog_11_method_82_code
def yX9_sheet : MethodName := ⟨RX9, "sheet", "(III)I"⟩
abbrev cX9_lose : ByteArray := prog_11_method_83_code
def yX9_lose : MethodName := ⟨RX9, "lose", "(I)I"⟩
abbrev cX9_lacks : ByteArray := prog_11_method_84_code
def yX9_lacks : MethodName := ⟨RX9, "lacks", "(III)I"⟩
abbrev cX9_lay : ByteArray := prog_11_method_85_code
def yX9_lay : MethodName := ⟨RX9, "lay", "(III)V"⟩
abbrev cX9_put : ByteArray := prog_11_method_86_code
def yX9_put : MethodName := ⟨RX9, "put", "(IIII)I"⟩
abbrev cX9_get : ByteArray := prog_11_method_87_code
def yX9_get : MethodName := ⟨RX9, "get", "(III)I"⟩
abbrev cX9_copy : ByteArray := prog_11_method_88_code
def yX9_copy : MethodName := ⟨RX9, "copy", "(IIIII)I"⟩
abbrev cX9_write : ByteArray := prog_11_method_89_code
def yX9_write : MethodName := ⟨RX9, "write", "(I)I"⟩
abbrev cX9_count : ByteArray := prog_11_method_90_code
def yX9_count : MethodName := ⟨RX9, "count", "(I)I"⟩
abbrev cX9_digest : ByteArray := prog_11_method_91_code
def yX9_digest : MethodName := ⟨RX9, "digest", "()J"⟩
def RJ6 : String := "java/lang/Integer"
abbrev cJ6_bitCount_0f7a4 : ByteArray := prog_12_method_49_code
def yJ6_bitCount_0f7a4 : MethodName := ⟨RJ6, "bitCount", "(I)I"⟩
def RJ9 : String := "java/lang/Math"
abbrev cJ9_max_7cf53 : ByteArray := prog_13_method_65_code
def yJ9_max_7cf53 : MethodName := ⟨RJ9, "max", "(II)I"⟩
abbrev cJ9_min_7cf53 : ByteArray := prog_13_method_69_code
def yJ9_min_7cf53 : MethodName := ⟨RJ9, "min", "(II)I"⟩
def RJ10 : String := "java/lang/System"
def RL : String := "OneKnifeLaw"
abbrev cL_law : ByteArray := code
def yL_law : MethodName := ⟨RL, "law", "([I)Z"⟩
abbrev vwCl : List vw_C := [(RX0, TX0, 18), (RX1, TX1, 13), (RX2, TX2, 3), (RX3, TX3, 18), (RX4, TX4, 15), (RX5, TX5, 11), (RX6, TX6, 4), (RX7, TX7, 5), (RX8, TX8, 10), (RX9, TX9, 65)]
