section
-- ===== PART A: goes FIRST, ahead of the names: the tables' words, and 'selects' of the private methods out of them =====
/-- a private method of a class that the tables say can be made, by its rows of tables_1 -/
def lw_okq (q : MethodName × Nat) : Prop := (q.1.cls ≠ "java/lang/invoke/MethodHandle" ∧ q.1.cls ≠ "java/lang/invoke/VarHandle") ∧ Cond.instantiable q.1.cls q.2 ∈ tables_1 ∧ Cond.privateMethod q.1 ∈ tables_1 ∧ Cond.instanceMethod q.1 ∈ tables_1
theorem lw_p0 : lw_okq (⟨"OneKnife$Things", "more", "(II)I"⟩, 5) := ⟨⟨by decide +kernel, by decide +kernel⟩, List.mem_of_getElem? (i := 23) (by decide +kernel), List.mem_of_getElem? (i := 459) (by decide +kernel), List.mem_of_getElem? (i := 460) (by decide +kernel)⟩
theorem lw_p1 : lw_okq (⟨"OneKnife$Things", "breakIt", "(III)V"⟩, 5) := ⟨⟨by decide +kernel, by decide +kernel⟩, List.mem_of_getElem? (i := 23) (by decide +kernel), List.mem_of_getElem? (i := 463) (by decide +kernel), List.mem_of_getElem? (i := 464) (by decide +kernel)⟩
theorem lw_p2 : lw_okq (⟨"OneKnife$Plan", "read", "(I)V"⟩, 13) := ⟨⟨by decide +kernel, by decide +kernel⟩, List.mem_of_getElem? (i := 120) (by decide +kernel), List.mem_of_getElem? (i := 467) (by decide +kernel), List.mem_of_getElem? (i := 468) (by decide +kernel)⟩
theorem lw_p3 : lw_okq (⟨"OneKnife$Plan", "clearSteps", "()V"⟩, 13) := ⟨⟨by decide +kernel, by decide +kernel⟩, List.mem_of_getElem? (i := 120) (by decide +kernel), List.mem_of_getElem? (i := 471) (by decide +kernel), List.mem_of_getElem? (i := 472) (by decide +kernel)⟩
theorem lw_p4 : lw_okq (⟨"OneKnife$Plan", "readNumber", "(CII)I"⟩, 13) := ⟨⟨by decide +kernel, by decide +kernel⟩, List.mem_of_getElem? (i := 120) (by decide +kernel), List.mem_of_getElem? (i := 475) (by decide +kernel), List.mem_of_getElem? (i := 476) (by decide +kernel)⟩
theorem lw_p5 : lw_okq (⟨"OneKnife$Plan", "pass", "(C)V"⟩, 13) := ⟨⟨by decide +kernel, by decide +kernel⟩, List.mem_of_getElem? (i := 120) (by decide +kernel), List.mem_of_getElem? (i := 479) (by decide +kernel), List.mem_of_getElem? (i := 480) (by decide +kernel)⟩
theorem lw_p6 : lw_okq (⟨"OneKnife$Plan", "byteAt", "(I)I"⟩, 13) := ⟨⟨by decide +kernel, by decide +kernel⟩, List.mem_of_getElem? (i := 120) (by decide +kernel), List.mem_of_getElem? (i := 483) (by decide +kernel), List.mem_of_getElem? (i := 484) (by decide +kernel)⟩
theorem lw_p7 : lw_okq (⟨"OneKnife$Plan", "figureAt", "(I)I"⟩, 13) := ⟨⟨by decide +kernel, by decide +kernel⟩, List.mem_of_getElem? (i := 120) (by decide +kernel), List.mem_of_getElem? (i := 487) (by decide +kernel), List.mem_of_getElem? (i := 488) (by decide +kernel)⟩
theorem lw_p8 : lw_okq (⟨"OneKnife$Plan", "readStep", "(I)V"⟩, 13) := ⟨⟨by decide +kernel, by decide +kernel⟩, List.mem_of_getElem? (i := 120) (by decide +kernel), List.mem_of_getElem? (i := 491) (by decide +kernel), List.mem_of_getElem? (i := 492) (by decide +kernel)⟩
theorem lw_p9 : lw_okq (⟨"OneKnife$Plan", "mayBe", "(III)Z"⟩, 13) := ⟨⟨by decide +kernel, by decide +kernel⟩, List.mem_of_getElem? (i := 120) (by decide +kernel), List.mem_of_getElem? (i := 498) (by decide +kernel), List.mem_of_getElem? (i := 499) (by decide +kernel)⟩
theorem lw_p10 : lw_okq (⟨"OneKnife$Plan", "keepStep", "(II)V"⟩, 13) := ⟨⟨by decide +kernel, by decide +kernel⟩, List.mem_of_getElem? (i := 120) (by decide +kernel), List.mem_of_getElem? (i := 502) (by decide +kernel), List.mem_of_getElem? (i := 503) (by decide +kernel)⟩
theorem lw_p11 : lw_okq (⟨"OneKnife", "change", "()V"⟩, 10) := ⟨⟨by decide +kernel, by decide +kernel⟩, List.mem_of_getElem? (i := 15) (by decide +kernel), List.mem_of_getElem? (i := 506) (by decide +kernel), List.mem_of_getElem? (i := 507) (by decide +kernel)⟩
theorem lw_p12 : lw_okq (⟨"OneKnife$Search", "forget", "()V"⟩, 15) := ⟨⟨by decide +kernel, by decide +kernel⟩, List.mem_of_getElem? (i := 365) (by decide +kernel), List.mem_of_getElem? (i := 510) (by decide +kernel), List.mem_of_getElem? (i := 511) (by decide +kernel)⟩
theorem lw_p13 : lw_okq (⟨"OneKnife$Plan", "append", "(I)V"⟩, 13) := ⟨⟨by decide +kernel, by decide +kernel⟩, List.mem_of_getElem? (i := 120) (by decide +kernel), List.mem_of_getElem? (i := 529) (by decide +kernel), List.mem_of_getElem? (i := 530) (by decide +kernel)⟩
theorem lw_p14 : lw_okq (⟨"OneKnife$Setting", "has", "(I)Z"⟩, 11) := ⟨⟨by decide +kernel, by decide +kernel⟩, List.mem_of_getElem? (i := 52) (by decide +kernel), List.mem_of_getElem? (i := 545) (by decide +kernel), List.mem_of_getElem? (i := 546) (by decide +kernel)⟩
theorem lw_p15 : lw_okq (⟨"OneKnife$Setting", "partOf", "(I)I"⟩, 11) := ⟨⟨by decide +kernel, by decide +kernel⟩, List.mem_of_getElem? (i := 52) (by decide +kernel), List.mem_of_getElem? (i := 567) (by decide +kernel), List.mem_of_getElem? (i := 568) (by decide +kernel)⟩
def lw_privs_1 : List (MethodName × Nat) := [(⟨"OneKnife$Things", "more", "(II)I"⟩, 5), (⟨"OneKnife$Things", "breakIt", "(III)V"⟩, 5), (⟨"OneKnife$Plan", "read", "(I)V"⟩, 13), (⟨"OneKnife$Plan", "clearSteps", "()V"⟩, 13), (⟨"OneKnife$Plan", "readNumber", "(CII)I"⟩, 13), (⟨"OneKnife$Plan", "pass", "(C)V"⟩, 13), (⟨"OneKnife$Plan", "byteAt", "(I)I"⟩, 13), (⟨"OneKnife$Plan", "figureAt", "(I)I"⟩, 13), (⟨"OneKnife$Plan", "readStep", "(I)V"⟩, 13), (⟨"OneKnife$Plan", "mayBe", "(III)Z"⟩, 13), (⟨"OneKnife$Plan", "keepStep", "(II)V"⟩, 13), (⟨"OneKnife", "change", "()V"⟩, 10), (⟨"OneKnife$Search", "forget", "()V"⟩, 15), (⟨"OneKnife$Plan", "append", "(I)V"⟩, 13), (⟨"OneKnife$Setting", "has", "(I)Z"⟩, 11), (⟨"OneKnife$Setting", "partOf", "(I)I"⟩, 11)]
theorem lw_r1 : ∀ q ∈ lw_privs_1, lw_okq q := List.forall_mem_cons.mpr ⟨lw_p0, List.forall_mem_cons.mpr ⟨lw_p1, List.forall_mem_cons.mpr ⟨lw_p2, List.forall_mem_cons.mpr ⟨lw_p3, List.forall_mem_cons.mpr ⟨lw_p4, List.forall_mem_cons.mpr ⟨lw_p5, List.forall_mem_cons.mpr ⟨lw_p6, List.forall_mem_cons.mpr ⟨lw_p7, List.forall_mem_cons.mpr ⟨lw_p8, List.forall_mem_cons.mpr ⟨lw_p9, List.forall_mem_cons.mpr ⟨lw_p10, List.forall_mem_cons.mpr ⟨lw_p11, List.forall_mem_cons.mpr ⟨lw_p12, List.forall_mem_cons.mpr ⟨lw_p13, List.forall_mem_cons.mpr ⟨lw_p14, List.forall_mem_cons.mpr ⟨lw_p15, fun _ h => absurd h List.not_mem_nil⟩⟩⟩⟩⟩⟩⟩⟩⟩⟩⟩⟩⟩⟩⟩⟩
theorem lw_p16 : lw_okq (⟨"OneKnife$Setting", "changePart", "(II)V"⟩, 11) := ⟨⟨by decide +kernel, by decide +kernel⟩, List.mem_of_getElem? (i := 52) (by decide +kernel), List.mem_of_getElem? (i := 571) (by decide +kernel), List.mem_of_getElem? (i := 572) (by decide +kernel)⟩
theorem lw_p17 : lw_okq (⟨"OneKnife", "isTick", "(I)Z"⟩, 10) := ⟨⟨by decide +kernel, by decide +kernel⟩, List.mem_of_getElem? (i := 15) (by decide +kernel), List.mem_of_getElem? (i := 579) (by decide +kernel), List.mem_of_getElem? (i := 580) (by decide +kernel)⟩
theorem lw_p18 : lw_okq (⟨"OneKnife", "goOnce", "()V"⟩, 10) := ⟨⟨by decide +kernel, by decide +kernel⟩, List.mem_of_getElem? (i := 15) (by decide +kernel), List.mem_of_getElem? (i := 583) (by decide +kernel), List.mem_of_getElem? (i := 584) (by decide +kernel)⟩
theorem lw_p19 : lw_okq (⟨"OneKnife$Run", "go", "(LOneKnife$Setting;IZ)V"⟩, 18) := ⟨⟨by decide +kernel, by decide +kernel⟩, List.mem_of_getElem? (i := 222) (by decide +kernel), List.mem_of_getElem? (i := 587) (by decide +kernel), List.mem_of_getElem? (i := 588) (by decide +kernel)⟩
theorem lw_p20 : lw_okq (⟨"OneKnife$Run", "begin", "(LOneKnife$Setting;I)V"⟩, 18) := ⟨⟨by decide +kernel, by decide +kernel⟩, List.mem_of_getElem? (i := 222) (by decide +kernel), List.mem_of_getElem? (i := 591) (by decide +kernel), List.mem_of_getElem? (i := 592) (by decide +kernel)⟩
theorem lw_p21 : lw_okq (⟨"OneKnife$Cook", "begin", "(II)V"⟩, 18) := ⟨⟨by decide +kernel, by decide +kernel⟩, List.mem_of_getElem? (i := 229) (by decide +kernel), List.mem_of_getElem? (i := 598) (by decide +kernel), List.mem_of_getElem? (i := 599) (by decide +kernel)⟩
theorem lw_p22 : lw_okq (⟨"OneKnife$Run", "bar", "()V"⟩, 18) := ⟨⟨by decide +kernel, by decide +kernel⟩, List.mem_of_getElem? (i := 222) (by decide +kernel), List.mem_of_getElem? (i := 602) (by decide +kernel), List.mem_of_getElem? (i := 603) (by decide +kernel)⟩
theorem lw_p23 : lw_okq (⟨"OneKnife$Run", "meetJobs", "(I)V"⟩, 18) := ⟨⟨by decide +kernel, by decide +kernel⟩, List.mem_of_getElem? (i := 222) (by decide +kernel), List.mem_of_getElem? (i := 606) (by decide +kernel), List.mem_of_getElem? (i := 607) (by decide +kernel)⟩
theorem lw_p24 : lw_okq (⟨"OneKnife$Cook", "meetJobs", "(I)V"⟩, 18) := ⟨⟨by decide +kernel, by decide +kernel⟩, List.mem_of_getElem? (i := 229) (by decide +kernel), List.mem_of_getElem? (i := 610) (by decide +kernel), List.mem_of_getElem? (i := 611) (by decide +kernel)⟩
theorem lw_p25 : lw_okq (⟨"OneKnife$Cook", "comingOf", "(I)I"⟩, 18) := ⟨⟨by decide +kernel, by decide +kernel⟩, List.mem_of_getElem? (i := 229) (by decide +kernel), List.mem_of_getElem? (i := 614) (by decide +kernel), List.mem_of_getElem? (i := 615) (by decide +kernel)⟩
theorem lw_p26 : lw_okq (⟨"OneKnife$Cook", "dueOf", "(I)I"⟩, 18) := ⟨⟨by decide +kernel, by decide +kernel⟩, List.mem_of_getElem? (i := 229) (by decide +kernel), List.mem_of_getElem? (i := 618) (by decide +kernel), List.mem_of_getElem? (i := 619) (by decide +kernel)⟩
theorem lw_p27 : lw_okq (⟨"OneKnife$Cook", "setKey", "(I)V"⟩, 18) := ⟨⟨by decide +kernel, by decide +kernel⟩, List.mem_of_getElem? (i := 229) (by decide +kernel), List.mem_of_getElem? (i := 622) (by decide +kernel), List.mem_of_getElem? (i := 623) (by decide +kernel)⟩
theorem lw_p28 : lw_okq (⟨"OneKnife$Run", "choose", "(I)V"⟩, 18) := ⟨⟨by decide +kernel, by decide +kernel⟩, List.mem_of_getElem? (i := 222) (by decide +kernel), List.mem_of_getElem? (i := 626) (by decide +kernel), List.mem_of_getElem? (i := 627) (by decide +kernel)⟩
theorem lw_p29 : lw_okq (⟨"OneKnife$Things", "brokenIn", "(I)I"⟩, 5) := ⟨⟨by decide +kernel, by decide +kernel⟩, List.mem_of_getElem? (i := 23) (by decide +kernel), List.mem_of_getElem? (i := 630) (by decide +kernel), List.mem_of_getElem? (i := 631) (by decide +kernel)⟩
theorem lw_p30 : lw_okq (⟨"OneKnife$Run", "next", "()I"⟩, 18) := ⟨⟨by decide +kernel, by decide +kernel⟩, List.mem_of_getElem? (i := 222) (by decide +kernel), List.mem_of_getElem? (i := 634) (by decide +kernel), List.mem_of_getElem? (i := 635) (by decide +kernel)⟩
theorem lw_p31 : lw_okq (⟨"OneKnife$Run", "goOn", "(I)I"⟩, 18) := ⟨⟨by decide +kernel, by decide +kernel⟩, List.mem_of_getElem? (i := 222) (by decide +kernel), List.mem_of_getElem? (i := 639) (by decide +kernel), List.mem_of_getElem? (i := 640) (by decide +kernel)⟩
def lw_privs_2 : List (MethodName × Nat) := [(⟨"OneKnife$Setting", "changePart", "(II)V"⟩, 11), (⟨"OneKnife", "isTick", "(I)Z"⟩, 10), (⟨"OneKnife", "goOnce", "()V"⟩, 10), (⟨"OneKnife$Run", "go", "(LOneKnife$Setting;IZ)V"⟩, 18), (⟨"OneKnife$Run", "begin", "(LOneKnife$Setting;I)V"⟩, 18), (⟨"OneKnife$Cook", "begin", "(II)V"⟩, 18), (⟨"OneKnife$Run", "bar", "()V"⟩, 18), (⟨"OneKnife$Run", "meetJobs", "(I)V"⟩, 18), (⟨"OneKnife$Cook", "meetJobs", "(I)V"⟩, 18), (⟨"OneKnife$Cook", "comingOf", "(I)I"⟩, 18), (⟨"OneKnife$Cook", "dueOf", "(I)I"⟩, 18), (⟨"OneKnife$Cook", "setKey", "(I)V"⟩, 18), (⟨"OneKnife$Run", "choose", "(I)V"⟩, 18), (⟨"OneKnife$Things", "brokenIn", "(I)I"⟩, 5), (⟨"OneKnife$Run", "next", "()I"⟩, 18), (⟨"OneKnife$Run", "goOn", "(I)I"⟩, 18)]
theorem lw_r2 : ∀ q ∈ lw_privs_2, lw_okq q := List.forall_mem_cons.mpr ⟨lw_p16, List.forall_mem_cons.mpr ⟨lw_p17, List.forall_mem_cons.mpr ⟨lw_p18, List.forall_mem_cons.mpr ⟨lw_p19, List.forall_mem_cons.mpr ⟨lw_p20, List.forall_mem_cons.mpr ⟨lw_p21, List.forall_mem_cons.mpr ⟨lw_p22, List.forall_mem_cons.mpr ⟨lw_p23, List.forall_mem_cons.mpr ⟨lw_p24, List.forall_mem_cons.mpr ⟨lw_p25, List.forall_mem_cons.mpr ⟨lw_p26, List.forall_mem_cons.mpr ⟨lw_p27, List.forall_mem_cons.mpr ⟨lw_p28, List.forall_mem_cons.mpr ⟨lw_p29, List.forall_mem_cons.mpr ⟨lw_p30, List.forall_mem_cons.mpr ⟨lw_p31, fun _ h => absurd h List.not_mem_nil⟩⟩⟩⟩⟩⟩⟩⟩⟩⟩⟩⟩⟩⟩⟩⟩
theorem lw_p32 : lw_okq (⟨"OneKnife$Plan", "kindAt", "(I)I"⟩, 13) := ⟨⟨by decide +kernel, by decide +kernel⟩, List.mem_of_getElem? (i := 120) (by decide +kernel), List.mem_of_getElem? (i := 643) (by decide +kernel), List.mem_of_getElem? (i := 644) (by decide +kernel)⟩
theorem lw_p33 : lw_okq (⟨"OneKnife$Plan", "figureOfStep", "(I)I"⟩, 13) := ⟨⟨by decide +kernel, by decide +kernel⟩, List.mem_of_getElem? (i := 120) (by decide +kernel), List.mem_of_getElem? (i := 647) (by decide +kernel), List.mem_of_getElem? (i := 648) (by decide +kernel)⟩
theorem lw_p34 : lw_okq (⟨"OneKnife$Run", "mustWait", "(II)Z"⟩, 18) := ⟨⟨by decide +kernel, by decide +kernel⟩, List.mem_of_getElem? (i := 222) (by decide +kernel), List.mem_of_getElem? (i := 651) (by decide +kernel), List.mem_of_getElem? (i := 652) (by decide +kernel)⟩
theorem lw_p35 : lw_okq (⟨"OneKnife$Run", "lend", "()V"⟩, 18) := ⟨⟨by decide +kernel, by decide +kernel⟩, List.mem_of_getElem? (i := 222) (by decide +kernel), List.mem_of_getElem? (i := 655) (by decide +kernel), List.mem_of_getElem? (i := 656) (by decide +kernel)⟩
theorem lw_p36 : lw_okq (⟨"OneKnife$Run", "lendFrom", "(LOneKnife$Cook;)Z"⟩, 18) := ⟨⟨by decide +kernel, by decide +kernel⟩, List.mem_of_getElem? (i := 222) (by decide +kernel), List.mem_of_getElem? (i := 659) (by decide +kernel), List.mem_of_getElem? (i := 660) (by decide +kernel)⟩
theorem lw_p37 : lw_okq (⟨"OneKnife$Run", "end", "(II)V"⟩, 18) := ⟨⟨by decide +kernel, by decide +kernel⟩, List.mem_of_getElem? (i := 222) (by decide +kernel), List.mem_of_getElem? (i := 663) (by decide +kernel), List.mem_of_getElem? (i := 664) (by decide +kernel)⟩
theorem lw_p38 : lw_okq (⟨"OneKnife$Cook", "endJob", "(I)V"⟩, 18) := ⟨⟨by decide +kernel, by decide +kernel⟩, List.mem_of_getElem? (i := 229) (by decide +kernel), List.mem_of_getElem? (i := 667) (by decide +kernel), List.mem_of_getElem? (i := 668) (by decide +kernel)⟩
theorem lw_p39 : lw_okq (⟨"OneKnife$Run", "note", "(I)V"⟩, 18) := ⟨⟨by decide +kernel, by decide +kernel⟩, List.mem_of_getElem? (i := 222) (by decide +kernel), List.mem_of_getElem? (i := 671) (by decide +kernel), List.mem_of_getElem? (i := 672) (by decide +kernel)⟩
theorem lw_p40 : lw_okq (⟨"OneKnife$Run", "lookForRing", "(I)V"⟩, 18) := ⟨⟨by decide +kernel, by decide +kernel⟩, List.mem_of_getElem? (i := 222) (by decide +kernel), List.mem_of_getElem? (i := 676) (by decide +kernel), List.mem_of_getElem? (i := 677) (by decide +kernel)⟩
theorem lw_p41 : lw_okq (⟨"OneKnife$Run", "work", "(I)V"⟩, 18) := ⟨⟨by decide +kernel, by decide +kernel⟩, List.mem_of_getElem? (i := 222) (by decide +kernel), List.mem_of_getElem? (i := 680) (by decide +kernel), List.mem_of_getElem? (i := 681) (by decide +kernel)⟩
theorem lw_p42 : lw_okq (⟨"OneKnife$Cook", "worksOn", "()Z"⟩, 18) := ⟨⟨by decide +kernel, by decide +kernel⟩, List.mem_of_getElem? (i := 229) (by decide +kernel), List.mem_of_getElem? (i := 684) (by decide +kernel), List.mem_of_getElem? (i := 685) (by decide +kernel)⟩
theorem lw_p43 : lw_okq (⟨"OneKnife$Cook", "isBehind", "(I)Z"⟩, 18) := ⟨⟨by decide +kernel, by decide +kernel⟩, List.mem_of_getElem? (i := 229) (by decide +kernel), List.mem_of_getElem? (i := 690) (by decide +kernel), List.mem_of_getElem? (i := 691) (by decide +kernel)⟩
theorem lw_p44 : lw_okq (⟨"OneKnife$Run", "chosenAt", "(II)I"⟩, 18) := ⟨⟨by decide +kernel, by decide +kernel⟩, List.mem_of_getElem? (i := 222) (by decide +kernel), List.mem_of_getElem? (i := 694) (by decide +kernel), List.mem_of_getElem? (i := 695) (by decide +kernel)⟩
theorem lw_p45 : lw_okq (⟨"OneKnife$Run", "stateOf", "(II)I"⟩, 18) := ⟨⟨by decide +kernel, by decide +kernel⟩, List.mem_of_getElem? (i := 222) (by decide +kernel), List.mem_of_getElem? (i := 702) (by decide +kernel), List.mem_of_getElem? (i := 703) (by decide +kernel)⟩
theorem lw_p46 : lw_okq (⟨"OneKnife$Cook", "doneOf", "(I)I"⟩, 18) := ⟨⟨by decide +kernel, by decide +kernel⟩, List.mem_of_getElem? (i := 229) (by decide +kernel), List.mem_of_getElem? (i := 710) (by decide +kernel), List.mem_of_getElem? (i := 711) (by decide +kernel)⟩
theorem lw_p47 : lw_okq (⟨"OneKnife$Cook", "doneJobs", "()I"⟩, 18) := ⟨⟨by decide +kernel, by decide +kernel⟩, List.mem_of_getElem? (i := 229) (by decide +kernel), List.mem_of_getElem? (i := 718) (by decide +kernel), List.mem_of_getElem? (i := 719) (by decide +kernel)⟩
def lw_privs_3 : List (MethodName × Nat) := [(⟨"OneKnife$Plan", "kindAt", "(I)I"⟩, 13), (⟨"OneKnife$Plan", "figureOfStep", "(I)I"⟩, 13), (⟨"OneKnife$Run", "mustWait", "(II)Z"⟩, 18), (⟨"OneKnife$Run", "lend", "()V"⟩, 18), (⟨"OneKnife$Run", "lendFrom", "(LOneKnife$Cook;)Z"⟩, 18), (⟨"OneKnife$Run", "end", "(II)V"⟩, 18), (⟨"OneKnife$Cook", "endJob", "(I)V"⟩, 18), (⟨"OneKnife$Run", "note", "(I)V"⟩, 18), (⟨"OneKnife$Run", "lookForRing", "(I)V"⟩, 18), (⟨"OneKnife$Run", "work", "(I)V"⟩, 18), (⟨"OneKnife$Cook", "worksOn", "()Z"⟩, 18), (⟨"OneKnife$Cook", "isBehind", "(I)Z"⟩, 18), (⟨"OneKnife$Run", "chosenAt", "(II)I"⟩, 18), (⟨"OneKnife$Run", "stateOf", "(II)I"⟩, 18), (⟨"OneKnife$Cook", "doneOf", "(I)I"⟩, 18), (⟨"OneKnife$Cook", "doneJobs", "()I"⟩, 18)]
theorem lw_r3 : ∀ q ∈ lw_privs_3, lw_okq q := List.forall_mem_cons.mpr ⟨lw_p32, List.forall_mem_cons.mpr ⟨lw_p33, List.forall_mem_cons.mpr ⟨lw_p34, List.forall_mem_cons.mpr ⟨lw_p35, List.forall_mem_cons.mpr ⟨lw_p36, List.forall_mem_cons.mpr ⟨lw_p37, List.forall_mem_cons.mpr ⟨lw_p38, List.forall_mem_cons.mpr ⟨lw_p39, List.forall_mem_cons.mpr ⟨lw_p40, List.forall_mem_cons.mpr ⟨lw_p41, List.forall_mem_cons.mpr ⟨lw_p42, List.forall_mem_cons.mpr ⟨lw_p43, List.forall_mem_cons.mpr ⟨lw_p44, List.forall_mem_cons.mpr ⟨lw_p45, List.forall_mem_cons.mpr ⟨lw_p46, List.forall_mem_cons.mpr ⟨lw_p47, fun _ h => absurd h List.not_mem_nil⟩⟩⟩⟩⟩⟩⟩⟩⟩⟩⟩⟩⟩⟩⟩⟩
theorem lw_p48 : lw_okq (⟨"OneKnife$Cook", "lateJobs", "(I)I"⟩, 18) := ⟨⟨by decide +kernel, by decide +kernel⟩, List.mem_of_getElem? (i := 229) (by decide +kernel), List.mem_of_getElem? (i := 723) (by decide +kernel), List.mem_of_getElem? (i := 724) (by decide +kernel)⟩
theorem lw_p49 : lw_okq (⟨"OneKnife$Cook", "longestResponse", "()I"⟩, 18) := ⟨⟨by decide +kernel, by decide +kernel⟩, List.mem_of_getElem? (i := 229) (by decide +kernel), List.mem_of_getElem? (i := 727) (by decide +kernel), List.mem_of_getElem? (i := 728) (by decide +kernel)⟩
theorem lw_p50 : lw_okq (⟨"OneKnife$Run", "ticksIn", "([II)I"⟩, 18) := ⟨⟨by decide +kernel, by decide +kernel⟩, List.mem_of_getElem? (i := 222) (by decide +kernel), List.mem_of_getElem? (i := 734) (by decide +kernel), List.mem_of_getElem? (i := 735) (by decide +kernel)⟩
theorem lw_p51 : lw_okq (⟨"OneKnife$Setting", "lesser", "(I)I"⟩, 11) := ⟨⟨by decide +kernel, by decide +kernel⟩, List.mem_of_getElem? (i := 52) (by decide +kernel), List.mem_of_getElem? (i := 738) (by decide +kernel), List.mem_of_getElem? (i := 739) (by decide +kernel)⟩
theorem lw_p52 : lw_okq (⟨"OneKnife$Setting", "rankOf", "(I)I"⟩, 11) := ⟨⟨by decide +kernel, by decide +kernel⟩, List.mem_of_getElem? (i := 52) (by decide +kernel), List.mem_of_getElem? (i := 742) (by decide +kernel), List.mem_of_getElem? (i := 743) (by decide +kernel)⟩
theorem lw_p53 : lw_okq (⟨"OneKnife$Run", "ticksBehind", "(II)I"⟩, 18) := ⟨⟨by decide +kernel, by decide +kernel⟩, List.mem_of_getElem? (i := 222) (by decide +kernel), List.mem_of_getElem? (i := 747) (by decide +kernel), List.mem_of_getElem? (i := 748) (by decide +kernel)⟩
theorem lw_p54 : lw_okq (⟨"OneKnife$Reckoner", "canReckon", "(I)Z"⟩, 3) := ⟨⟨by decide +kernel, by decide +kernel⟩, List.mem_of_getElem? (i := 206) (by decide +kernel), List.mem_of_getElem? (i := 763) (by decide +kernel), List.mem_of_getElem? (i := 764) (by decide +kernel)⟩
theorem lw_p55 : lw_okq (⟨"OneKnife$Reckoner", "boundOf", "(I)I"⟩, 3) := ⟨⟨by decide +kernel, by decide +kernel⟩, List.mem_of_getElem? (i := 206) (by decide +kernel), List.mem_of_getElem? (i := 768) (by decide +kernel), List.mem_of_getElem? (i := 769) (by decide +kernel)⟩
theorem lw_p56 : lw_okq (⟨"OneKnife$Reckoner", "planOf", "(I)LOneKnife$Plan;"⟩, 3) := ⟨⟨by decide +kernel, by decide +kernel⟩, List.mem_of_getElem? (i := 206) (by decide +kernel), List.mem_of_getElem? (i := 772) (by decide +kernel), List.mem_of_getElem? (i := 773) (by decide +kernel)⟩
theorem lw_p57 : lw_okq (⟨"OneKnife$Reckoner", "heldOf", "(I)I"⟩, 3) := ⟨⟨by decide +kernel, by decide +kernel⟩, List.mem_of_getElem? (i := 206) (by decide +kernel), List.mem_of_getElem? (i := 777) (by decide +kernel), List.mem_of_getElem? (i := 778) (by decide +kernel)⟩
theorem lw_p58 : lw_okq (⟨"OneKnife$Setting", "goesAhead", "(II)Z"⟩, 11) := ⟨⟨by decide +kernel, by decide +kernel⟩, List.mem_of_getElem? (i := 52) (by decide +kernel), List.mem_of_getElem? (i := 781) (by decide +kernel), List.mem_of_getElem? (i := 782) (by decide +kernel)⟩
theorem lw_p59 : lw_okq (⟨"OneKnife$Plan", "longestHold", "(I)I"⟩, 13) := ⟨⟨by decide +kernel, by decide +kernel⟩, List.mem_of_getElem? (i := 120) (by decide +kernel), List.mem_of_getElem? (i := 786) (by decide +kernel), List.mem_of_getElem? (i := 787) (by decide +kernel)⟩
theorem lw_p60 : lw_okq (⟨"OneKnife$Plan", "workHolding", "(I)I"⟩, 13) := ⟨⟨by decide +kernel, by decide +kernel⟩, List.mem_of_getElem? (i := 120) (by decide +kernel), List.mem_of_getElem? (i := 792) (by decide +kernel), List.mem_of_getElem? (i := 793) (by decide +kernel)⟩
theorem lw_p61 : lw_okq (⟨"OneKnife$Reckoner", "workAhead", "(II)I"⟩, 3) := ⟨⟨by decide +kernel, by decide +kernel⟩, List.mem_of_getElem? (i := 206) (by decide +kernel), List.mem_of_getElem? (i := 798) (by decide +kernel), List.mem_of_getElem? (i := 799) (by decide +kernel)⟩
theorem lw_p62 : lw_okq (⟨"OneKnife$Search", "findBest", "()V"⟩, 15) := ⟨⟨by decide +kernel, by decide +kernel⟩, List.mem_of_getElem? (i := 365) (by decide +kernel), List.mem_of_getElem? (i := 817) (by decide +kernel), List.mem_of_getElem? (i := 818) (by decide +kernel)⟩
theorem lw_p63 : lw_okq (⟨"OneKnife$Setting", "become", "(LOneKnife$Setting;)V"⟩, 11) := ⟨⟨by decide +kernel, by decide +kernel⟩, List.mem_of_getElem? (i := 52) (by decide +kernel), List.mem_of_getElem? (i := 821) (by decide +kernel), List.mem_of_getElem? (i := 822) (by decide +kernel)⟩
def lw_privs_4 : List (MethodName × Nat) := [(⟨"OneKnife$Cook", "lateJobs", "(I)I"⟩, 18), (⟨"OneKnife$Cook", "longestResponse", "()I"⟩, 18), (⟨"OneKnife$Run", "ticksIn", "([II)I"⟩, 18), (⟨"OneKnife$Setting", "lesser", "(I)I"⟩, 11), (⟨"OneKnife$Setting", "rankOf", "(I)I"⟩, 11), (⟨"OneKnife$Run", "ticksBehind", "(II)I"⟩, 18), (⟨"OneKnife$Reckoner", "canReckon", "(I)Z"⟩, 3), (⟨"OneKnife$Reckoner", "boundOf", "(I)I"⟩, 3), (⟨"OneKnife$Reckoner", "planOf", "(I)LOneKnife$Plan;"⟩, 3), (⟨"OneKnife$Reckoner", "heldOf", "(I)I"⟩, 3), (⟨"OneKnife$Setting", "goesAhead", "(II)Z"⟩, 11), (⟨"OneKnife$Plan", "longestHold", "(I)I"⟩, 13), (⟨"OneKnife$Plan", "workHolding", "(I)I"⟩, 13), (⟨"OneKnife$Reckoner", "workAhead", "(II)I"⟩, 3), (⟨"OneKnife$Search", "findBest", "()V"⟩, 15), (⟨"OneKnife$Setting", "become", "(LOneKnife$Setting;)V"⟩, 11)]
theorem lw_r4 : ∀ q ∈ lw_privs_4, lw_okq q := List.forall_mem_cons.mpr ⟨lw_p48, List.forall_mem_cons.mpr ⟨lw_p49, List.forall_mem_cons.mpr ⟨lw_p50, List.forall_mem_cons.mpr ⟨lw_p51, List.forall_mem_cons.mpr ⟨lw_p52, List.forall_mem_cons.mpr ⟨lw_p53, List.forall_mem_cons.mpr ⟨lw_p54, List.forall_mem_cons.mpr ⟨lw_p55, List.forall_mem_cons.mpr ⟨lw_p56, List.forall_mem_cons.mpr ⟨lw_p57, List.forall_mem_cons.mpr ⟨lw_p58, List.forall_mem_cons.mpr ⟨lw_p59, List.forall_mem_cons.mpr ⟨lw_p60, List.forall_mem_cons.mpr ⟨lw_p61, List.forall_mem_cons.mpr ⟨lw_p62, List.forall_mem_cons.mpr ⟨lw_p63, fun _ h => absurd h List.not_mem_nil⟩⟩⟩⟩⟩⟩⟩⟩⟩⟩⟩⟩⟩⟩⟩⟩
theorem lw_p64 : lw_okq (⟨"OneKnife$Search", "firstOrder", "()I"⟩, 15) := ⟨⟨by decide +kernel, by decide +kernel⟩, List.mem_of_getElem? (i := 365) (by decide +kernel), List.mem_of_getElem? (i := 825) (by decide +kernel), List.mem_of_getElem? (i := 826) (by decide +kernel)⟩
theorem lw_p65 : lw_okq (⟨"OneKnife$Search", "orderAt", "(I)I"⟩, 15) := ⟨⟨by decide +kernel, by decide +kernel⟩, List.mem_of_getElem? (i := 365) (by decide +kernel), List.mem_of_getElem? (i := 830) (by decide +kernel), List.mem_of_getElem? (i := 831) (by decide +kernel)⟩
theorem lw_p66 : lw_okq (⟨"OneKnife$Setting", "goesByRanks", "()Z"⟩, 11) := ⟨⟨by decide +kernel, by decide +kernel⟩, List.mem_of_getElem? (i := 52) (by decide +kernel), List.mem_of_getElem? (i := 836) (by decide +kernel), List.mem_of_getElem? (i := 837) (by decide +kernel)⟩
theorem lw_p67 : lw_okq (⟨"OneKnife$Search", "nextOrder", "(I)Z"⟩, 15) := ⟨⟨by decide +kernel, by decide +kernel⟩, List.mem_of_getElem? (i := 365) (by decide +kernel), List.mem_of_getElem? (i := 840) (by decide +kernel), List.mem_of_getElem? (i := 841) (by decide +kernel)⟩
theorem lw_p68 : lw_okq (⟨"OneKnife$Search", "swapOrder", "(II)V"⟩, 15) := ⟨⟨by decide +kernel, by decide +kernel⟩, List.mem_of_getElem? (i := 365) (by decide +kernel), List.mem_of_getElem? (i := 844) (by decide +kernel), List.mem_of_getElem? (i := 845) (by decide +kernel)⟩
theorem lw_p69 : lw_okq (⟨"OneKnife$Search", "bestAt", "(I)I"⟩, 15) := ⟨⟨by decide +kernel, by decide +kernel⟩, List.mem_of_getElem? (i := 365) (by decide +kernel), List.mem_of_getElem? (i := 848) (by decide +kernel), List.mem_of_getElem? (i := 849) (by decide +kernel)⟩
theorem lw_p70 : lw_okq (⟨"OneKnife$Search", "slackOf", "(II)I"⟩, 15) := ⟨⟨by decide +kernel, by decide +kernel⟩, List.mem_of_getElem? (i := 365) (by decide +kernel), List.mem_of_getElem? (i := 857) (by decide +kernel), List.mem_of_getElem? (i := 858) (by decide +kernel)⟩
theorem lw_p71 : lw_okq (⟨"OneKnife$Search", "findShed", "()V"⟩, 15) := ⟨⟨by decide +kernel, by decide +kernel⟩, List.mem_of_getElem? (i := 365) (by decide +kernel), List.mem_of_getElem? (i := 865) (by decide +kernel), List.mem_of_getElem? (i := 866) (by decide +kernel)⟩
theorem lw_p72 : lw_okq (⟨"OneKnife$Search", "tryToShed", "(I)V"⟩, 15) := ⟨⟨by decide +kernel, by decide +kernel⟩, List.mem_of_getElem? (i := 365) (by decide +kernel), List.mem_of_getElem? (i := 870) (by decide +kernel), List.mem_of_getElem? (i := 871) (by decide +kernel)⟩
theorem lw_p73 : lw_okq (⟨"OneKnife$Search", "findWhatever", "(I)V"⟩, 15) := ⟨⟨by decide +kernel, by decide +kernel⟩, List.mem_of_getElem? (i := 365) (by decide +kernel), List.mem_of_getElem? (i := 878) (by decide +kernel), List.mem_of_getElem? (i := 879) (by decide +kernel)⟩
theorem lw_p74 : lw_okq (⟨"OneKnife$Search", "delayBy", "(II)V"⟩, 15) := ⟨⟨by decide +kernel, by decide +kernel⟩, List.mem_of_getElem? (i := 365) (by decide +kernel), List.mem_of_getElem? (i := 882) (by decide +kernel), List.mem_of_getElem? (i := 883) (by decide +kernel)⟩
theorem lw_p75 : lw_okq (⟨"OneKnife", "find", "(I)I"⟩, 10) := ⟨⟨by decide +kernel, by decide +kernel⟩, List.mem_of_getElem? (i := 15) (by decide +kernel), List.mem_of_getElem? (i := 895) (by decide +kernel), List.mem_of_getElem? (i := 896) (by decide +kernel)⟩
theorem lw_p76 : lw_okq (⟨"OneKnife$Search", "fitting", "(LOneKnife$Sheet;)I"⟩, 15) := ⟨⟨by decide +kernel, by decide +kernel⟩, List.mem_of_getElem? (i := 365) (by decide +kernel), List.mem_of_getElem? (i := 899) (by decide +kernel), List.mem_of_getElem? (i := 900) (by decide +kernel)⟩
theorem lw_p77 : lw_okq (⟨"OneKnife$Search", "goesAs", "(LOneKnife$Sheet;)Z"⟩, 15) := ⟨⟨by decide +kernel, by decide +kernel⟩, List.mem_of_getElem? (i := 365) (by decide +kernel), List.mem_of_getElem? (i := 903) (by decide +kernel), List.mem_of_getElem? (i := 904) (by decide +kernel)⟩
theorem lw_p78 : lw_okq (⟨"OneKnife$Sheet", "itemAt", "(I)I"⟩, 4) := ⟨⟨by decide +kernel, by decide +kernel⟩, List.mem_of_getElem? (i := 182) (by decide +kernel), List.mem_of_getElem? (i := 908) (by decide +kernel), List.mem_of_getElem? (i := 909) (by decide +kernel)⟩
theorem lw_p79 : lw_okq (⟨"OneKnife$Search", "findMended", "()V"⟩, 15) := ⟨⟨by decide +kernel, by decide +kernel⟩, List.mem_of_getElem? (i := 365) (by decide +kernel), List.mem_of_getElem? (i := 917) (by decide +kernel), List.mem_of_getElem? (i := 918) (by decide +kernel)⟩
def lw_privs_5 : List (MethodName × Nat) := [(⟨"OneKnife$Search", "firstOrder", "()I"⟩, 15), (⟨"OneKnife$Search", "orderAt", "(I)I"⟩, 15), (⟨"OneKnife$Setting", "goesByRanks", "()Z"⟩, 11), (⟨"OneKnife$Search", "nextOrder", "(I)Z"⟩, 15), (⟨"OneKnife$Search", "swapOrder", "(II)V"⟩, 15), (⟨"OneKnife$Search", "bestAt", "(I)I"⟩, 15), (⟨"OneKnife$Search", "slackOf", "(II)I"⟩, 15), (⟨"OneKnife$Search", "findShed", "()V"⟩, 15), (⟨"OneKnife$Search", "tryToShed", "(I)V"⟩, 15), (⟨"OneKnife$Search", "findWhatever", "(I)V"⟩, 15), (⟨"OneKnife$Search", "delayBy", "(II)V"⟩, 15), (⟨"OneKnife", "find", "(I)I"⟩, 10), (⟨"OneKnife$Search", "fitting", "(LOneKnife$Sheet;)I"⟩, 15), (⟨"OneKnife$Search", "goesAs", "(LOneKnife$Sheet;)Z"⟩, 15), (⟨"OneKnife$Sheet", "itemAt", "(I)I"⟩, 4), (⟨"OneKnife$Search", "findMended", "()V"⟩, 15)]
theorem lw_r5 : ∀ q ∈ lw_privs_5, lw_okq q := List.forall_mem_cons.mpr ⟨lw_p64, List.forall_mem_cons.mpr ⟨lw_p65, List.forall_mem_cons.mpr ⟨lw_p66, List.forall_mem_cons.mpr ⟨lw_p67, List.forall_mem_cons.mpr ⟨lw_p68, List.forall_mem_cons.mpr ⟨lw_p69, List.forall_mem_cons.mpr ⟨lw_p70, List.forall_mem_cons.mpr ⟨lw_p71, List.forall_mem_cons.mpr ⟨lw_p72, List.forall_mem_cons.mpr ⟨lw_p73, List.forall_mem_cons.mpr ⟨lw_p74, List.forall_mem_cons.mpr ⟨lw_p75, List.forall_mem_cons.mpr ⟨lw_p76, List.forall_mem_cons.mpr ⟨lw_p77, List.forall_mem_cons.mpr ⟨lw_p78, List.forall_mem_cons.mpr ⟨lw_p79, fun _ h => absurd h List.not_mem_nil⟩⟩⟩⟩⟩⟩⟩⟩⟩⟩⟩⟩⟩⟩⟩⟩
theorem lw_p80 : lw_okq (⟨"OneKnife$Search", "changesOfRules", "()I"⟩, 15) := ⟨⟨by decide +kernel, by decide +kernel⟩, List.mem_of_getElem? (i := 365) (by decide +kernel), List.mem_of_getElem? (i := 921) (by decide +kernel), List.mem_of_getElem? (i := 922) (by decide +kernel)⟩
theorem lw_p81 : lw_okq (⟨"OneKnife$Search", "mends", "(III)Z"⟩, 15) := ⟨⟨by decide +kernel, by decide +kernel⟩, List.mem_of_getElem? (i := 365) (by decide +kernel), List.mem_of_getElem? (i := 925) (by decide +kernel), List.mem_of_getElem? (i := 926) (by decide +kernel)⟩
theorem lw_p82 : lw_okq (⟨"OneKnife$Search", "swapRanks", "(II)V"⟩, 15) := ⟨⟨by decide +kernel, by decide +kernel⟩, List.mem_of_getElem? (i := 365) (by decide +kernel), List.mem_of_getElem? (i := 929) (by decide +kernel), List.mem_of_getElem? (i := 930) (by decide +kernel)⟩
theorem lw_p83 : lw_okq (⟨"OneKnife$Search", "keepMending", "(III)V"⟩, 15) := ⟨⟨by decide +kernel, by decide +kernel⟩, List.mem_of_getElem? (i := 365) (by decide +kernel), List.mem_of_getElem? (i := 933) (by decide +kernel), List.mem_of_getElem? (i := 934) (by decide +kernel)⟩
theorem lw_p84 : lw_okq (⟨"OneKnife$Sheet", "renew", "(II)V"⟩, 4) := ⟨⟨by decide +kernel, by decide +kernel⟩, List.mem_of_getElem? (i := 182) (by decide +kernel), List.mem_of_getElem? (i := 944) (by decide +kernel), List.mem_of_getElem? (i := 945) (by decide +kernel)⟩
theorem lw_p85 : lw_okq (⟨"OneKnife$Sheet", "faultOf", "(II)I"⟩, 4) := ⟨⟨by decide +kernel, by decide +kernel⟩, List.mem_of_getElem? (i := 182) (by decide +kernel), List.mem_of_getElem? (i := 956) (by decide +kernel), List.mem_of_getElem? (i := 957) (by decide +kernel)⟩
theorem lw_p86 : lw_okq (⟨"OneKnife$Sheet", "become", "(II)V"⟩, 4) := ⟨⟨by decide +kernel, by decide +kernel⟩, List.mem_of_getElem? (i := 182) (by decide +kernel), List.mem_of_getElem? (i := 960) (by decide +kernel), List.mem_of_getElem? (i := 961) (by decide +kernel)⟩
theorem lw_p87 : lw_okq (⟨"OneKnife$Sheet", "hasRow", "(II)Z"⟩, 4) := ⟨⟨by decide +kernel, by decide +kernel⟩, List.mem_of_getElem? (i := 182) (by decide +kernel), List.mem_of_getElem? (i := 974) (by decide +kernel), List.mem_of_getElem? (i := 975) (by decide +kernel)⟩
theorem lw_p88 : lw_okq (⟨"OneKnife", "bytes", "()I"⟩, 10) := ⟨⟨by decide +kernel, by decide +kernel⟩, List.mem_of_getElem? (i := 15) (by decide +kernel), List.mem_of_getElem? (i := 990) (by decide +kernel), List.mem_of_getElem? (i := 991) (by decide +kernel)⟩
theorem lw_p89 : lw_okq (⟨"OneKnifeModel", "changes", "()V"⟩, 65) := ⟨⟨by decide +kernel, by decide +kernel⟩, List.mem_of_getElem? (i := 1006) (by decide +kernel), List.mem_of_getElem? (i := 1216) (by decide +kernel), List.mem_of_getElem? (i := 1217) (by decide +kernel)⟩
theorem lw_p90 : lw_okq (⟨"OneKnifeModel", "faultOf", "(I)I"⟩, 65) := ⟨⟨by decide +kernel, by decide +kernel⟩, List.mem_of_getElem? (i := 1006) (by decide +kernel), List.mem_of_getElem? (i := 1239) (by decide +kernel), List.mem_of_getElem? (i := 1240) (by decide +kernel)⟩
theorem lw_p91 : lw_okq (⟨"OneKnifeModel", "reads", "()V"⟩, 65) := ⟨⟨by decide +kernel, by decide +kernel⟩, List.mem_of_getElem? (i := 1006) (by decide +kernel), List.mem_of_getElem? (i := 1243) (by decide +kernel), List.mem_of_getElem? (i := 1244) (by decide +kernel)⟩
theorem lw_p92 : lw_okq (⟨"OneKnifeModel", "readsTask", "(I)V"⟩, 65) := ⟨⟨by decide +kernel, by decide +kernel⟩, List.mem_of_getElem? (i := 1006) (by decide +kernel), List.mem_of_getElem? (i := 1247) (by decide +kernel), List.mem_of_getElem? (i := 1248) (by decide +kernel)⟩
theorem lw_p93 : lw_okq (⟨"OneKnifeModel", "expects", "(I)V"⟩, 65) := ⟨⟨by decide +kernel, by decide +kernel⟩, List.mem_of_getElem? (i := 1006) (by decide +kernel), List.mem_of_getElem? (i := 1251) (by decide +kernel), List.mem_of_getElem? (i := 1252) (by decide +kernel)⟩
theorem lw_p94 : lw_okq (⟨"OneKnifeModel", "byteNow", "()I"⟩, 65) := ⟨⟨by decide +kernel, by decide +kernel⟩, List.mem_of_getElem? (i := 1006) (by decide +kernel), List.mem_of_getElem? (i := 1255) (by decide +kernel), List.mem_of_getElem? (i := 1256) (by decide +kernel)⟩
theorem lw_p95 : lw_okq (⟨"OneKnifeModel", "number", "(III)I"⟩, 65) := ⟨⟨by decide +kernel, by decide +kernel⟩, List.mem_of_getElem? (i := 1006) (by decide +kernel), List.mem_of_getElem? (i := 1259) (by decide +kernel), List.mem_of_getElem? (i := 1260) (by decide +kernel)⟩
def lw_privs_6 : List (MethodName × Nat) := [(⟨"OneKnife$Search", "changesOfRules", "()I"⟩, 15), (⟨"OneKnife$Search", "mends", "(III)Z"⟩, 15), (⟨"OneKnife$Search", "swapRanks", "(II)V"⟩, 15), (⟨"OneKnife$Search", "keepMending", "(III)V"⟩, 15), (⟨"OneKnife$Sheet", "renew", "(II)V"⟩, 4), (⟨"OneKnife$Sheet", "faultOf", "(II)I"⟩, 4), (⟨"OneKnife$Sheet", "become", "(II)V"⟩, 4), (⟨"OneKnife$Sheet", "hasRow", "(II)Z"⟩, 4), (⟨"OneKnife", "bytes", "()I"⟩, 10), (⟨"OneKnifeModel", "changes", "()V"⟩, 65), (⟨"OneKnifeModel", "faultOf", "(I)I"⟩, 65), (⟨"OneKnifeModel", "reads", "()V"⟩, 65), (⟨"OneKnifeModel", "readsTask", "(I)V"⟩, 65), (⟨"OneKnifeModel", "expects", "(I)V"⟩, 65), (⟨"OneKnifeModel", "byteNow", "()I"⟩, 65), (⟨"OneKnifeModel", "number", "(III)I"⟩, 65)]
theorem lw_r6 : ∀ q ∈ lw_privs_6, lw_okq q := List.forall_mem_cons.mpr ⟨lw_p80, List.forall_mem_cons.mpr ⟨lw_p81, List.forall_mem_cons.mpr ⟨lw_p82, List.forall_mem_cons.mpr ⟨lw_p83, List.forall_mem_cons.mpr ⟨lw_p84, List.forall_mem_cons.mpr ⟨lw_p85, List.forall_mem_cons.mpr ⟨lw_p86, List.forall_mem_cons.mpr ⟨lw_p87, List.forall_mem_cons.mpr ⟨lw_p88, List.forall_mem_cons.mpr ⟨lw_p89, List.forall_mem_cons.mpr ⟨lw_p90, List.forall_mem_cons.mpr ⟨lw_p91, List.forall_mem_cons.mpr ⟨lw_p92, List.forall_mem_cons.mpr ⟨lw_p93, List.forall_mem_cons.mpr ⟨lw_p94, List.forall_mem_cons.mpr ⟨lw_p95, fun _ h => absurd h List.not_mem_nil⟩⟩⟩⟩⟩⟩⟩⟩⟩⟩⟩⟩⟩⟩⟩⟩
theorem lw_p96 : lw_okq (⟨"OneKnifeModel", "stepRead", "(I)I"⟩, 65) := ⟨⟨by decide +kernel, by decide +kernel⟩, List.mem_of_getElem? (i := 1006) (by decide +kernel), List.mem_of_getElem? (i := 1263) (by decide +kernel), List.mem_of_getElem? (i := 1264) (by decide +kernel)⟩
theorem lw_p97 : lw_okq (⟨"OneKnifeModel", "workOf", "(I)I"⟩, 65) := ⟨⟨by decide +kernel, by decide +kernel⟩, List.mem_of_getElem? (i := 1006) (by decide +kernel), List.mem_of_getElem? (i := 1267) (by decide +kernel), List.mem_of_getElem? (i := 1268) (by decide +kernel)⟩
theorem lw_p98 : lw_okq (⟨"OneKnifeModel", "those", "()I"⟩, 65) := ⟨⟨by decide +kernel, by decide +kernel⟩, List.mem_of_getElem? (i := 1006) (by decide +kernel), List.mem_of_getElem? (i := 1275) (by decide +kernel), List.mem_of_getElem? (i := 1276) (by decide +kernel)⟩
theorem lw_p99 : lw_okq (⟨"OneKnifeModel", "runTold", "()V"⟩, 65) := ⟨⟨by decide +kernel, by decide +kernel⟩, List.mem_of_getElem? (i := 1006) (by decide +kernel), List.mem_of_getElem? (i := 1295) (by decide +kernel), List.mem_of_getElem? (i := 1296) (by decide +kernel)⟩
theorem lw_p100 : lw_okq (⟨"OneKnifeModel", "asTold", "()V"⟩, 65) := ⟨⟨by decide +kernel, by decide +kernel⟩, List.mem_of_getElem? (i := 1006) (by decide +kernel), List.mem_of_getElem? (i := 1299) (by decide +kernel), List.mem_of_getElem? (i := 1300) (by decide +kernel)⟩
theorem lw_p101 : lw_okq (⟨"OneKnifeModel", "runs", "()V"⟩, 65) := ⟨⟨by decide +kernel, by decide +kernel⟩, List.mem_of_getElem? (i := 1006) (by decide +kernel), List.mem_of_getElem? (i := 1303) (by decide +kernel), List.mem_of_getElem? (i := 1304) (by decide +kernel)⟩
theorem lw_p102 : lw_okq (⟨"OneKnifeModel", "begins", "()V"⟩, 65) := ⟨⟨by decide +kernel, by decide +kernel⟩, List.mem_of_getElem? (i := 1006) (by decide +kernel), List.mem_of_getElem? (i := 1307) (by decide +kernel), List.mem_of_getElem? (i := 1308) (by decide +kernel)⟩
theorem lw_p103 : lw_okq (⟨"OneKnifeModel", "highest", "(I)I"⟩, 65) := ⟨⟨by decide +kernel, by decide +kernel⟩, List.mem_of_getElem? (i := 1006) (by decide +kernel), List.mem_of_getElem? (i := 1311) (by decide +kernel), List.mem_of_getElem? (i := 1312) (by decide +kernel)⟩
theorem lw_p104 : lw_okq (⟨"OneKnifeModel", "comes", "()V"⟩, 65) := ⟨⟨by decide +kernel, by decide +kernel⟩, List.mem_of_getElem? (i := 1006) (by decide +kernel), List.mem_of_getElem? (i := 1315) (by decide +kernel), List.mem_of_getElem? (i := 1316) (by decide +kernel)⟩
theorem lw_p105 : lw_okq (⟨"OneKnifeModel", "chooses", "()V"⟩, 65) := ⟨⟨by decide +kernel, by decide +kernel⟩, List.mem_of_getElem? (i := 1006) (by decide +kernel), List.mem_of_getElem? (i := 1319) (by decide +kernel), List.mem_of_getElem? (i := 1320) (by decide +kernel)⟩
theorem lw_p106 : lw_okq (⟨"OneKnifeModel", "bestNow", "()I"⟩, 65) := ⟨⟨by decide +kernel, by decide +kernel⟩, List.mem_of_getElem? (i := 1006) (by decide +kernel), List.mem_of_getElem? (i := 1323) (by decide +kernel), List.mem_of_getElem? (i := 1324) (by decide +kernel)⟩
theorem lw_p107 : lw_okq (⟨"OneKnifeModel", "forces", "()V"⟩, 65) := ⟨⟨by decide +kernel, by decide +kernel⟩, List.mem_of_getElem? (i := 1006) (by decide +kernel), List.mem_of_getElem? (i := 1327) (by decide +kernel), List.mem_of_getElem? (i := 1328) (by decide +kernel)⟩
theorem lw_p108 : lw_okq (⟨"OneKnifeModel", "keyOf", "(I)I"⟩, 65) := ⟨⟨by decide +kernel, by decide +kernel⟩, List.mem_of_getElem? (i := 1006) (by decide +kernel), List.mem_of_getElem? (i := 1331) (by decide +kernel), List.mem_of_getElem? (i := 1332) (by decide +kernel)⟩
theorem lw_p109 : lw_okq (⟨"OneKnifeModel", "hasFire", "(I)Z"⟩, 65) := ⟨⟨by decide +kernel, by decide +kernel⟩, List.mem_of_getElem? (i := 1006) (by decide +kernel), List.mem_of_getElem? (i := 1335) (by decide +kernel), List.mem_of_getElem? (i := 1336) (by decide +kernel)⟩
theorem lw_p110 : lw_okq (⟨"OneKnifeModel", "does", "(I)Z"⟩, 65) := ⟨⟨by decide +kernel, by decide +kernel⟩, List.mem_of_getElem? (i := 1006) (by decide +kernel), List.mem_of_getElem? (i := 1339) (by decide +kernel), List.mem_of_getElem? (i := 1340) (by decide +kernel)⟩
theorem lw_p111 : lw_okq (⟨"OneKnifeModel", "takes", "(II)Z"⟩, 65) := ⟨⟨by decide +kernel, by decide +kernel⟩, List.mem_of_getElem? (i := 1006) (by decide +kernel), List.mem_of_getElem? (i := 1343) (by decide +kernel), List.mem_of_getElem? (i := 1344) (by decide +kernel)⟩
def lw_privs_7 : List (MethodName × Nat) := [(⟨"OneKnifeModel", "stepRead", "(I)I"⟩, 65), (⟨"OneKnifeModel", "workOf", "(I)I"⟩, 65), (⟨"OneKnifeModel", "those", "()I"⟩, 65), (⟨"OneKnifeModel", "runTold", "()V"⟩, 65), (⟨"OneKnifeModel", "asTold", "()V"⟩, 65), (⟨"OneKnifeModel", "runs", "()V"⟩, 65), (⟨"OneKnifeModel", "begins", "()V"⟩, 65), (⟨"OneKnifeModel", "highest", "(I)I"⟩, 65), (⟨"OneKnifeModel", "comes", "()V"⟩, 65), (⟨"OneKnifeModel", "chooses", "()V"⟩, 65), (⟨"OneKnifeModel", "bestNow", "()I"⟩, 65), (⟨"OneKnifeModel", "forces", "()V"⟩, 65), (⟨"OneKnifeModel", "keyOf", "(I)I"⟩, 65), (⟨"OneKnifeModel", "hasFire", "(I)Z"⟩, 65), (⟨"OneKnifeModel", "does", "(I)Z"⟩, 65), (⟨"OneKnifeModel", "takes", "(II)Z"⟩, 65)]
theorem lw_r7 : ∀ q ∈ lw_privs_7, lw_okq q := List.forall_mem_cons.mpr ⟨lw_p96, List.forall_mem_cons.mpr ⟨lw_p97, List.forall_mem_cons.mpr ⟨lw_p98, List.forall_mem_cons.mpr ⟨lw_p99, List.forall_mem_cons.mpr ⟨lw_p100, List.forall_mem_cons.mpr ⟨lw_p101, List.forall_mem_cons.mpr ⟨lw_p102, List.forall_mem_cons.mpr ⟨lw_p103, List.forall_mem_cons.mpr ⟨lw_p104, List.forall_mem_cons.mpr ⟨lw_p105, List.forall_mem_cons.mpr ⟨lw_p106, List.forall_mem_cons.mpr ⟨lw_p107, List.forall_mem_cons.mpr ⟨lw_p108, List.forall_mem_cons.mpr ⟨lw_p109, List.forall_mem_cons.mpr ⟨lw_p110, List.forall_mem_cons.mpr ⟨lw_p111, fun _ h => absurd h List.not_mem_nil⟩⟩⟩⟩⟩⟩⟩⟩⟩⟩⟩⟩⟩⟩⟩⟩
theorem lw_p112 : lw_okq (⟨"OneKnifeModel", "havingMany", "(I)I"⟩, 65) := ⟨⟨by decide +kernel, by decide +kernel⟩, List.mem_of_getElem? (i := 1006) (by decide +kernel), List.mem_of_getElem? (i := 1347) (by decide +kernel), List.mem_of_getElem? (i := 1348) (by decide +kernel)⟩
theorem lw_p113 : lw_okq (⟨"OneKnifeModel", "upward", "(I)I"⟩, 65) := ⟨⟨by decide +kernel, by decide +kernel⟩, List.mem_of_getElem? (i := 1006) (by decide +kernel), List.mem_of_getElem? (i := 1351) (by decide +kernel), List.mem_of_getElem? (i := 1352) (by decide +kernel)⟩
theorem lw_p114 : lw_okq (⟨"OneKnifeModel", "isBroken", "(I)Z"⟩, 65) := ⟨⟨by decide +kernel, by decide +kernel⟩, List.mem_of_getElem? (i := 1006) (by decide +kernel), List.mem_of_getElem? (i := 1355) (by decide +kernel), List.mem_of_getElem? (i := 1356) (by decide +kernel)⟩
theorem lw_p115 : lw_okq (⟨"OneKnifeModel", "having", "(II)I"⟩, 65) := ⟨⟨by decide +kernel, by decide +kernel⟩, List.mem_of_getElem? (i := 1006) (by decide +kernel), List.mem_of_getElem? (i := 1359) (by decide +kernel), List.mem_of_getElem? (i := 1360) (by decide +kernel)⟩
theorem lw_p116 : lw_okq (⟨"OneKnifeModel", "ends", "(II)V"⟩, 65) := ⟨⟨by decide +kernel, by decide +kernel⟩, List.mem_of_getElem? (i := 1006) (by decide +kernel), List.mem_of_getElem? (i := 1363) (by decide +kernel), List.mem_of_getElem? (i := 1364) (by decide +kernel)⟩
theorem lw_p117 : lw_okq (⟨"OneKnifeModel", "ringNow", "()I"⟩, 65) := ⟨⟨by decide +kernel, by decide +kernel⟩, List.mem_of_getElem? (i := 1006) (by decide +kernel), List.mem_of_getElem? (i := 1367) (by decide +kernel), List.mem_of_getElem? (i := 1368) (by decide +kernel)⟩
theorem lw_p118 : lw_okq (⟨"OneKnifeModel", "works", "()V"⟩, 65) := ⟨⟨by decide +kernel, by decide +kernel⟩, List.mem_of_getElem? (i := 1006) (by decide +kernel), List.mem_of_getElem? (i := 1371) (by decide +kernel), List.mem_of_getElem? (i := 1372) (by decide +kernel)⟩
theorem lw_p119 : lw_okq (⟨"OneKnifeModel", "ticksOf", "(II)I"⟩, 65) := ⟨⟨by decide +kernel, by decide +kernel⟩, List.mem_of_getElem? (i := 1006) (by decide +kernel), List.mem_of_getElem? (i := 1375) (by decide +kernel), List.mem_of_getElem? (i := 1376) (by decide +kernel)⟩
theorem lw_p120 : lw_okq (⟨"OneKnifeModel", "toldOf", "(II)I"⟩, 65) := ⟨⟨by decide +kernel, by decide +kernel⟩, List.mem_of_getElem? (i := 1006) (by decide +kernel), List.mem_of_getElem? (i := 1391) (by decide +kernel), List.mem_of_getElem? (i := 1392) (by decide +kernel)⟩
theorem lw_p121 : lw_okq (⟨"OneKnifeModel", "doneMany", "(I)I"⟩, 65) := ⟨⟨by decide +kernel, by decide +kernel⟩, List.mem_of_getElem? (i := 1006) (by decide +kernel), List.mem_of_getElem? (i := 1395) (by decide +kernel), List.mem_of_getElem? (i := 1396) (by decide +kernel)⟩
theorem lw_p122 : lw_okq (⟨"OneKnifeModel", "lateOf", "(I)I"⟩, 65) := ⟨⟨by decide +kernel, by decide +kernel⟩, List.mem_of_getElem? (i := 1006) (by decide +kernel), List.mem_of_getElem? (i := 1399) (by decide +kernel), List.mem_of_getElem? (i := 1400) (by decide +kernel)⟩
theorem lw_p123 : lw_okq (⟨"OneKnifeModel", "longest", "(I)I"⟩, 65) := ⟨⟨by decide +kernel, by decide +kernel⟩, List.mem_of_getElem? (i := 1006) (by decide +kernel), List.mem_of_getElem? (i := 1403) (by decide +kernel), List.mem_of_getElem? (i := 1404) (by decide +kernel)⟩
theorem lw_p124 : lw_okq (⟨"OneKnifeModel", "ticksIn", "(II)I"⟩, 65) := ⟨⟨by decide +kernel, by decide +kernel⟩, List.mem_of_getElem? (i := 1006) (by decide +kernel), List.mem_of_getElem? (i := 1407) (by decide +kernel), List.mem_of_getElem? (i := 1408) (by decide +kernel)⟩
theorem lw_p125 : lw_okq (⟨"OneKnifeModel", "behind", "(I)I"⟩, 65) := ⟨⟨by decide +kernel, by decide +kernel⟩, List.mem_of_getElem? (i := 1006) (by decide +kernel), List.mem_of_getElem? (i := 1411) (by decide +kernel), List.mem_of_getElem? (i := 1412) (by decide +kernel)⟩
theorem lw_p126 : lw_okq (⟨"OneKnifeModel", "lateAll", "()I"⟩, 65) := ⟨⟨by decide +kernel, by decide +kernel⟩, List.mem_of_getElem? (i := 1006) (by decide +kernel), List.mem_of_getElem? (i := 1419) (by decide +kernel), List.mem_of_getElem? (i := 1420) (by decide +kernel)⟩
theorem lw_p127 : lw_okq (⟨"OneKnifeModel", "isBounded", "(I)Z"⟩, 65) := ⟨⟨by decide +kernel, by decide +kernel⟩, List.mem_of_getElem? (i := 1006) (by decide +kernel), List.mem_of_getElem? (i := 1431) (by decide +kernel), List.mem_of_getElem? (i := 1432) (by decide +kernel)⟩
def lw_privs_8 : List (MethodName × Nat) := [(⟨"OneKnifeModel", "havingMany", "(I)I"⟩, 65), (⟨"OneKnifeModel", "upward", "(I)I"⟩, 65), (⟨"OneKnifeModel", "isBroken", "(I)Z"⟩, 65), (⟨"OneKnifeModel", "having", "(II)I"⟩, 65), (⟨"OneKnifeModel", "ends", "(II)V"⟩, 65), (⟨"OneKnifeModel", "ringNow", "()I"⟩, 65), (⟨"OneKnifeModel", "works", "()V"⟩, 65), (⟨"OneKnifeModel", "ticksOf", "(II)I"⟩, 65), (⟨"OneKnifeModel", "toldOf", "(II)I"⟩, 65), (⟨"OneKnifeModel", "doneMany", "(I)I"⟩, 65), (⟨"OneKnifeModel", "lateOf", "(I)I"⟩, 65), (⟨"OneKnifeModel", "longest", "(I)I"⟩, 65), (⟨"OneKnifeModel", "ticksIn", "(II)I"⟩, 65), (⟨"OneKnifeModel", "behind", "(I)I"⟩, 65), (⟨"OneKnifeModel", "lateAll", "()I"⟩, 65), (⟨"OneKnifeModel", "isBounded", "(I)Z"⟩, 65)]
theorem lw_r8 : ∀ q ∈ lw_privs_8, lw_okq q := List.forall_mem_cons.mpr ⟨lw_p112, List.forall_mem_cons.mpr ⟨lw_p113, List.forall_mem_cons.mpr ⟨lw_p114, List.forall_mem_cons.mpr ⟨lw_p115, List.forall_mem_cons.mpr ⟨lw_p116, List.forall_mem_cons.mpr ⟨lw_p117, List.forall_mem_cons.mpr ⟨lw_p118, List.forall_mem_cons.mpr ⟨lw_p119, List.forall_mem_cons.mpr ⟨lw_p120, List.forall_mem_cons.mpr ⟨lw_p121, List.forall_mem_cons.mpr ⟨lw_p122, List.forall_mem_cons.mpr ⟨lw_p123, List.forall_mem_cons.mpr ⟨lw_p124, List.forall_mem_cons.mpr ⟨lw_p125, List.forall_mem_cons.mpr ⟨lw_p126, List.forall_mem_cons.mpr ⟨lw_p127, fun _ h => absurd h List.not_mem_nil⟩⟩⟩⟩⟩⟩⟩⟩⟩⟩⟩⟩⟩⟩⟩⟩
theorem lw_p128 : lw_okq (⟨"OneKnifeModel", "boundOf", "(I)I"⟩, 65) := ⟨⟨by decide +kernel, by decide +kernel⟩, List.mem_of_getElem? (i := 1006) (by decide +kernel), List.mem_of_getElem? (i := 1435) (by decide +kernel), List.mem_of_getElem? (i := 1436) (by decide +kernel)⟩
theorem lw_p129 : lw_okq (⟨"OneKnifeModel", "heldOf", "(I)I"⟩, 65) := ⟨⟨by decide +kernel, by decide +kernel⟩, List.mem_of_getElem? (i := 1006) (by decide +kernel), List.mem_of_getElem? (i := 1439) (by decide +kernel), List.mem_of_getElem? (i := 1440) (by decide +kernel)⟩
theorem lw_p130 : lw_okq (⟨"OneKnifeModel", "goesAhead", "(II)Z"⟩, 65) := ⟨⟨by decide +kernel, by decide +kernel⟩, List.mem_of_getElem? (i := 1006) (by decide +kernel), List.mem_of_getElem? (i := 1443) (by decide +kernel), List.mem_of_getElem? (i := 1444) (by decide +kernel)⟩
theorem lw_p131 : lw_okq (⟨"OneKnifeModel", "doesTake", "(II)Z"⟩, 65) := ⟨⟨by decide +kernel, by decide +kernel⟩, List.mem_of_getElem? (i := 1006) (by decide +kernel), List.mem_of_getElem? (i := 1447) (by decide +kernel), List.mem_of_getElem? (i := 1448) (by decide +kernel)⟩
theorem lw_p132 : lw_okq (⟨"OneKnifeModel", "workFrom", "(II)I"⟩, 65) := ⟨⟨by decide +kernel, by decide +kernel⟩, List.mem_of_getElem? (i := 1006) (by decide +kernel), List.mem_of_getElem? (i := 1451) (by decide +kernel), List.mem_of_getElem? (i := 1452) (by decide +kernel)⟩
theorem lw_p133 : lw_okq (⟨"OneKnifeModel", "ranksBest", "(I)Z"⟩, 65) := ⟨⟨by decide +kernel, by decide +kernel⟩, List.mem_of_getElem? (i := 1006) (by decide +kernel), List.mem_of_getElem? (i := 1466) (by decide +kernel), List.mem_of_getElem? (i := 1467) (by decide +kernel)⟩
theorem lw_p134 : lw_okq (⟨"OneKnifeModel", "triedLate", "()I"⟩, 65) := ⟨⟨by decide +kernel, by decide +kernel⟩, List.mem_of_getElem? (i := 1006) (by decide +kernel), List.mem_of_getElem? (i := 1470) (by decide +kernel), List.mem_of_getElem? (i := 1471) (by decide +kernel)⟩
theorem lw_p135 : lw_okq (⟨"OneKnifeModel", "turns", "(I)Z"⟩, 65) := ⟨⟨by decide +kernel, by decide +kernel⟩, List.mem_of_getElem? (i := 1006) (by decide +kernel), List.mem_of_getElem? (i := 1474) (by decide +kernel), List.mem_of_getElem? (i := 1475) (by decide +kernel)⟩
theorem lw_p136 : lw_okq (⟨"OneKnifeModel", "worthOfSet", "(I)I"⟩, 65) := ⟨⟨by decide +kernel, by decide +kernel⟩, List.mem_of_getElem? (i := 1006) (by decide +kernel), List.mem_of_getElem? (i := 1486) (by decide +kernel), List.mem_of_getElem? (i := 1487) (by decide +kernel)⟩
theorem lw_p137 : lw_okq (⟨"OneKnifeModel", "meets", "(I)I"⟩, 65) := ⟨⟨by decide +kernel, by decide +kernel⟩, List.mem_of_getElem? (i := 1006) (by decide +kernel), List.mem_of_getElem? (i := 1501) (by decide +kernel), List.mem_of_getElem? (i := 1502) (by decide +kernel)⟩
theorem lw_p138 : lw_okq (⟨"OneKnifeModel", "mends", "()V"⟩, 65) := ⟨⟨by decide +kernel, by decide +kernel⟩, List.mem_of_getElem? (i := 1006) (by decide +kernel), List.mem_of_getElem? (i := 1509) (by decide +kernel), List.mem_of_getElem? (i := 1510) (by decide +kernel)⟩
theorem lw_p139 : lw_okq (⟨"OneKnifeModel", "tries", "(IIIII)V"⟩, 65) := ⟨⟨by decide +kernel, by decide +kernel⟩, List.mem_of_getElem? (i := 1006) (by decide +kernel), List.mem_of_getElem? (i := 1513) (by decide +kernel), List.mem_of_getElem? (i := 1514) (by decide +kernel)⟩
theorem lw_p140 : lw_okq (⟨"OneKnifeModel", "isWell", "(IIII)Z"⟩, 65) := ⟨⟨by decide +kernel, by decide +kernel⟩, List.mem_of_getElem? (i := 1006) (by decide +kernel), List.mem_of_getElem? (i := 1517) (by decide +kernel), List.mem_of_getElem? (i := 1518) (by decide +kernel)⟩
theorem lw_p141 : lw_okq (⟨"OneKnifeModel", "lacks", "(III)I"⟩, 65) := ⟨⟨by decide +kernel, by decide +kernel⟩, List.mem_of_getElem? (i := 1006) (by decide +kernel), List.mem_of_getElem? (i := 1533) (by decide +kernel), List.mem_of_getElem? (i := 1534) (by decide +kernel)⟩
theorem lw_p142 : lw_okq (⟨"OneKnifeModel", "lay", "(III)V"⟩, 65) := ⟨⟨by decide +kernel, by decide +kernel⟩, List.mem_of_getElem? (i := 1006) (by decide +kernel), List.mem_of_getElem? (i := 1537) (by decide +kernel), List.mem_of_getElem? (i := 1538) (by decide +kernel)⟩
def lw_privs_9 : List (MethodName × Nat) := [(⟨"OneKnifeModel", "boundOf", "(I)I"⟩, 65), (⟨"OneKnifeModel", "heldOf", "(I)I"⟩, 65), (⟨"OneKnifeModel", "goesAhead", "(II)Z"⟩, 65), (⟨"OneKnifeModel", "doesTake", "(II)Z"⟩, 65), (⟨"OneKnifeModel", "workFrom", "(II)I"⟩, 65), (⟨"OneKnifeModel", "ranksBest", "(I)Z"⟩, 65), (⟨"OneKnifeModel", "triedLate", "()I"⟩, 65), (⟨"OneKnifeModel", "turns", "(I)Z"⟩, 65), (⟨"OneKnifeModel", "worthOfSet", "(I)I"⟩, 65), (⟨"OneKnifeModel", "meets", "(I)I"⟩, 65), (⟨"OneKnifeModel", "mends", "()V"⟩, 65), (⟨"OneKnifeModel", "tries", "(IIIII)V"⟩, 65), (⟨"OneKnifeModel", "isWell", "(IIII)Z"⟩, 65), (⟨"OneKnifeModel", "lacks", "(III)I"⟩, 65), (⟨"OneKnifeModel", "lay", "(III)V"⟩, 65)]
theorem lw_r9 : ∀ q ∈ lw_privs_9, lw_okq q := List.forall_mem_cons.mpr ⟨lw_p128, List.forall_mem_cons.mpr ⟨lw_p129, List.forall_mem_cons.mpr ⟨lw_p130, List.forall_mem_cons.mpr ⟨lw_p131, List.forall_mem_cons.mpr ⟨lw_p132, List.forall_mem_cons.mpr ⟨lw_p133, List.forall_mem_cons.mpr ⟨lw_p134, List.forall_mem_cons.mpr ⟨lw_p135, List.forall_mem_cons.mpr ⟨lw_p136, List.forall_mem_cons.mpr ⟨lw_p137, List.forall_mem_cons.mpr ⟨lw_p138, List.forall_mem_cons.mpr ⟨lw_p139, List.forall_mem_cons.mpr ⟨lw_p140, List.forall_mem_cons.mpr ⟨lw_p141, List.forall_mem_cons.mpr ⟨lw_p142, fun _ h => absurd h List.not_mem_nil⟩⟩⟩⟩⟩⟩⟩⟩⟩⟩⟩⟩⟩⟩⟩
def lw_privs : List (MethodName × Nat) := lw_privs_1 ++ (lw_privs_2 ++ (lw_privs_3 ++ (lw_privs_4 ++ (lw_privs_5 ++ (lw_privs_6 ++ (lw_privs_7 ++ (lw_privs_8 ++ (lw_privs_9))))))))
def lw_tbl : List Cond := k2_sels lw_privs ++ tables_1
theorem lw_privs_ok : ∀ q ∈ lw_privs, lw_okq q := by
  show ∀ q ∈ lw_privs_1 ++ (lw_privs_2 ++ (lw_privs_3 ++ (lw_privs_4 ++ (lw_privs_5 ++ (lw_privs_6 ++ (lw_privs_7 ++ (lw_privs_8 ++ (lw_privs_9)))))))), lw_okq q
  exact List.forall_mem_append.mpr ⟨lw_r1, List.forall_mem_append.mpr ⟨lw_r2, List.forall_mem_append.mpr ⟨lw_r3, List.forall_mem_append.mpr ⟨lw_r4, List.forall_mem_append.mpr ⟨lw_r5, List.forall_mem_append.mpr ⟨lw_r6, List.forall_mem_append.mpr ⟨lw_r7, List.forall_mem_append.mpr ⟨lw_r8, lw_r9⟩⟩⟩⟩⟩⟩⟩⟩
def RX0 : String := "OneKnife$Cook"
def TX0 : u_T := fun k => match k with
  | 0 => ("OneKnife$Cook", "plan", "LOneKnife$Plan;", true)
  | 1 => ("OneKnife$Cook", "doneAt", "[I", true)
  | 2 => ("OneKnife$Cook", "beginning", "I", false)
  | 3 => ("OneKnife$Cook", "rank", "I", false)
  | 4 => ("OneKnife$Cook", "longStep", "I", false)
  | 5 => ("OneKnife$Cook", "longerBy", "I", false)
  | 6 => ("OneKnife$Cook", "came", "I", false)
  | 7 => ("OneKnife$Cook", "begun", "I", false)
  | 8 => ("OneKnife$Cook", "job", "I", false)
  | 9 => ("OneKnife$Cook", "due", "I", false)
  | 10 => ("OneKnife$Cook", "step", "I", false)
  | 11 => ("OneKnife$Cook", "spent", "I", false)
  | 12 => ("OneKnife$Cook", "has", "I", false)
  | 13 => ("OneKnife$Cook", "waitsFor", "I", false)
  | 14 => ("OneKnife$Cook", "reaches", "I", false)
  | 15 => ("OneKnife$Cook", "key", "I", false)
  | 16 => ("OneKnife$Cook", "worked", "I", false)
  | _ => ("OneKnife$Cook", "barring", "I", false)
def tyX0 : Nat → FieldType := fun k => match k with
  | 0 => .object "OneKnife$Plan"
  | 1 => .array .int
  | 2 => .int
  | 3 => .int
  | 4 => .int
  | 5 => .int
  | 6 => .int
  | 7 => .int
  | 8 => .int
  | 9 => .int
  | 10 => .int
  | 11 => .int
  | 12 => .int
  | 13 => .int
  | 14 => .int
  | 15 => .int
  | 16 => .int
  | _ => .int
theorem nmX0 : ∀ a, a < 18 → ∀ b, b < 18 → a ≠ b → (TX0 a).2.1 ≠ (TX0 b).2.1 := by decide +kernel
theorem tyX0_ok : ∀ k, k < 18 → parseFieldDescriptor (TX0 k).2.2.1 = some (tyX0 k) := by decide +kernel
abbrev cX0_init : ByteArray := prog_2_method_1_code
def yX0_init : MethodName := ⟨RX0, "<init>", "(LOneKnife$Plan;)V"⟩
abbrev cX0_begin : ByteArray := prog_2_method_2_code
def yX0_begin : MethodName := ⟨RX0, "begin", "(II)V"⟩
abbrev cX0_comingOf : ByteArray := prog_2_method_3_code
def yX0_comingOf : MethodName := ⟨RX0, "comingOf", "(I)I"⟩
abbrev cX0_dueOf : ByteArray := prog_2_method_4_code
def yX0_dueOf : MethodName := ⟨RX0, "dueOf", "(I)I"⟩
abbrev cX0_meetJobs : ByteArray := prog_2_method_5_code
def yX0_meetJobs : MethodName := ⟨RX0, "meetJobs", "(I)V"⟩
abbrev cX0_setKey : ByteArray := prog_2_method_6_code
def yX0_setKey : MethodName := ⟨RX0, "setKey", "(I)V"⟩
abbrev cX0_worksOn : ByteArray := prog_2_method_7_code
def yX0_worksOn : MethodName := ⟨RX0, "worksOn", "()Z"⟩
abbrev cX0_endJob : ByteArray := prog_2_method_8_code
def yX0_endJob : MethodName := ⟨RX0, "endJob", "(I)V"⟩
abbrev cX0_doneOf : ByteArray := prog_2_method_9_code
def yX0_doneOf : MethodName := ⟨RX0, "doneOf", "(I)I"⟩
abbrev cX0_doneJobs : ByteArray := prog_2_method_10_code
def yX0_doneJobs : MethodName := ⟨RX0, "doneJobs", "()I"⟩
abbrev cX0_lateJobs : ByteArray := prog_2_method_11_code
def yX0_lateJobs : MethodName := ⟨RX0, "lateJobs", "(I)I"⟩
abbrev cX0_longestResponse : ByteArray := prog_2_method_12_code
def yX0_longestResponse : MethodName := ⟨RX0, "longestResponse", "()I"⟩
abbrev cX0_isBehind : ByteArray := prog_2_method_13_code
def yX0_isBehind : MethodName := ⟨RX0, "isBehind", "(I)Z"⟩
def RX1 : String := "OneKnife$Plan"
def TX1 : u_T := fun k => match k with
  | 0 => ("OneKnife$Plan", "text", "[I", true)
  | 1 => ("OneKnife$Plan", "length", "I", false)
  | 2 => ("OneKnife$Plan", "at", "I", false)
  | 3 => ("OneKnife$Plan", "fault", "I", false)
  | 4 => ("OneKnife$Plan", "span", "I", false)
  | 5 => ("OneKnife$Plan", "due", "I", false)
  | 6 => ("OneKnife$Plan", "beginning", "I", false)
  | 7 => ("OneKnife$Plan", "kinds", "[I", true)
  | 8 => ("OneKnife$Plan", "figures", "[I", true)
  | 9 => ("OneKnife$Plan", "steps", "I", false)
  | 10 => ("OneKnife$Plan", "work", "I", false)
  | 11 => ("OneKnife$Plan", "takes", "I", false)
  | _ => ("OneKnife$Plan", "held", "I", false)
def tyX1 : Nat → FieldType := fun k => match k with
  | 0 => .array .int
  | 1 => .int
  | 2 => .int
  | 3 => .int
  | 4 => .int
  | 5 => .int
  | 6 => .int
  | 7 => .array .int
  | 8 => .array .int
  | 9 => .int
  | 10 => .int
  | 11 => .int
  | _ => .int
theorem nmX1 : ∀ a, a < 13 → ∀ b, b < 13 → a ≠ b → (TX1 a).2.1 ≠ (TX1 b).2.1 := by decide +kernel
theorem tyX1_ok : ∀ k, k < 13 → parseFieldDescriptor (TX1 k).2.2.1 = some (tyX1 k) := by decide +kernel
abbrev cX1_init : ByteArray := prog_3_method_1_code
def yX1_init : MethodName := ⟨RX1, "<init>", "()V"⟩
abbrev cX1_append : ByteArray := prog_3_method_2_code
def yX1_append : MethodName := ⟨RX1, "append", "(I)V"⟩
abbrev cX1_read : ByteArray := prog_3_method_3_code
def yX1_read : MethodName := ⟨RX1, "read", "(I)V"⟩
abbrev cX1_clearSteps : ByteArray := prog_3_method_4_code
def yX1_clearSteps : MethodName := ⟨RX1, "clearSteps", "()V"⟩
abbrev cX1_byteAt : ByteArray := prog_3_method_5_code
def yX1_byteAt : MethodName := ⟨RX1, "byteAt", "(I)I"⟩
abbrev cX1_figureAt : ByteArray := prog_3_method_6_code
def yX1_figureAt : MethodName := ⟨RX1, "figureAt", "(I)I"⟩
abbrev cX1_pass : ByteArray := prog_3_method_7_code
def yX1_pass : MethodName := ⟨RX1, "pass", "(C)V"⟩
abbrev cX1_readNumber : ByteArray := prog_3_method_8_code
def yX1_readNumber : MethodName := ⟨RX1, "readNumber", "(CII)I"⟩
abbrev cX1_readStep : ByteArray := prog_3_method_9_code
def yX1_readStep : MethodName := ⟨RX1, "readStep", "(I)V"⟩
abbrev cX1_kindOfSign : ByteArray := prog_3_method_10_code
def yX1_kindOfSign : MethodName := ⟨RX1, "kindOfSign", "(I)I"⟩
abbrev cX1_mayBe : ByteArray := prog_3_method_11_code
def yX1_mayBe : MethodName := ⟨RX1, "mayBe", "(III)Z"⟩
abbrev cX1_keepStep : ByteArray := prog_3_method_12_code
def yX1_keepStep : MethodName := ⟨RX1, "keepStep", "(II)V"⟩
abbrev cX1_kindAt : ByteArray := prog_3_method_13_code
def yX1_kindAt : MethodName := ⟨RX1, "kindAt", "(I)I"⟩
abbrev cX1_figureOfStep : ByteArray := prog_3_method_14_code
def yX1_figureOfStep : MethodName := ⟨RX1, "figureOfStep", "(I)I"⟩
abbrev cX1_longestHold : ByteArray := prog_3_method_15_code
def yX1_longestHold : MethodName := ⟨RX1, "longestHold", "(I)I"⟩
abbrev cX1_workHolding : ByteArray := prog_3_method_16_code
def yX1_workHolding : MethodName := ⟨RX1, "workHolding", "(I)I"⟩
def RX2 : String := "OneKnife$Reckoner"
def TX2 : u_T := fun k => match k with
  | 0 => ("OneKnife$Reckoner", "things", "LOneKnife$Things;", true)
  | 1 => ("OneKnife$Reckoner", "plans", "[LOneKnife$Plan;", true)
  | _ => ("OneKnife$Reckoner", "setting", "LOneKnife$Setting;", true)
def tyX2 : Nat → FieldType := fun k => match k with
  | 0 => .object "OneKnife$Things"
  | 1 => .array (.object "OneKnife$Plan")
  | _ => .object "OneKnife$Setting"
theorem nmX2 : ∀ a, a < 3 → ∀ b, b < 3 → a ≠ b → (TX2 a).2.1 ≠ (TX2 b).2.1 := by decide +kernel
theorem tyX2_ok : ∀ k, k < 3 → parseFieldDescriptor (TX2 k).2.2.1 = some (tyX2 k) := by decide +kernel
abbrev cX2_init : ByteArray := prog_4_method_1_code
def yX2_init : MethodName := ⟨RX2, "<init>", "(LOneKnife$Things;[LOneKnife$Plan;LOneKnife$Setting;)V"⟩
abbrev cX2_canReckon : ByteArray := prog_4_method_2_code
def yX2_canReckon : MethodName := ⟨RX2, "canReckon", "(I)Z"⟩
abbrev cX2_planOf : ByteArray := prog_4_method_3_code
def yX2_planOf : MethodName := ⟨RX2, "planOf", "(I)LOneKnife$Plan;"⟩
abbrev cX2_heldOf : ByteArray := prog_4_method_4_code
def yX2_heldOf : MethodName := ⟨RX2, "heldOf", "(I)I"⟩
abbrev cX2_boundOf : ByteArray := prog_4_method_5_code
def yX2_boundOf : MethodName := ⟨RX2, "boundOf", "(I)I"⟩
abbrev cX2_workAhead : ByteArray := prog_4_method_6_code
def yX2_workAhead : MethodName := ⟨RX2, "workAhead", "(II)I"⟩
def RX3 : String := "OneKnife$Run"
def TX3 : u_T := fun k => match k with
  | 0 => ("OneKnife$Run", "things", "LOneKnife$Things;", true)
  | 1 => ("OneKnife$Run", "cooks", "[LOneKnife$Cook;", true)
  | 2 => ("OneKnife$Run", "workers", "[I", true)
  | 3 => ("OneKnife$Run", "waiters", "[I", true)
  | 4 => ("OneKnife$Run", "goers", "[I", true)
  | 5 => ("OneKnife$Run", "chosen", "[I", true)
  | 6 => ("OneKnife$Run", "are", "I", false)
  | 7 => ("OneKnife$Run", "rule", "I", false)
  | 8 => ("OneKnife$Run", "lending", "I", false)
  | 9 => ("OneKnife$Run", "hands", "I", false)
  | 10 => ("OneKnife$Run", "ticks", "I", false)
  | 11 => ("OneKnife$Run", "going", "I", false)
  | 12 => ("OneKnife$Run", "working", "I", false)
  | 13 => ("OneKnife$Run", "waiting", "I", false)
  | 14 => ("OneKnife$Run", "brokenNow", "I", false)
  | 15 => ("OneKnife$Run", "ringTick", "I", false)
  | 16 => ("OneKnife$Run", "ringBits", "I", false)
  | _ => ("OneKnife$Run", "someLate", "Z", false)
def tyX3 : Nat → FieldType := fun k => match k with
  | 0 => .object "OneKnife$Things"
  | 1 => .array (.object "OneKnife$Cook")
  | 2 => .array .int
  | 3 => .array .int
  | 4 => .array .int
  | 5 => .array .int
  | 6 => .int
  | 7 => .int
  | 8 => .int
  | 9 => .int
  | 10 => .int
  | 11 => .int
  | 12 => .int
  | 13 => .int
  | 14 => .int
  | 15 => .int
  | 16 => .int
  | _ => .boolean
theorem nmX3 : ∀ a, a < 18 → ∀ b, b < 18 → a ≠ b → (TX3 a).2.1 ≠ (TX3 b).2.1 := by decide +kernel
theorem tyX3_ok : ∀ k, k < 18 → parseFieldDescriptor (TX3 k).2.2.1 = some (tyX3 k) := by decide +kernel
abbrev cX3_init : ByteArray := prog_5_method_1_code
def yX3_init : MethodName := ⟨RX3, "<init>", "(LOneKnife$Things;[LOneKnife$Plan;)V"⟩
abbrev cX3_go : ByteArray := prog_5_method_2_code
def yX3_go : MethodName := ⟨RX3, "go", "(LOneKnife$Setting;IZ)V"⟩
abbrev cX3_begin : ByteArray := prog_5_method_3_code
def yX3_begin : MethodName := ⟨RX3, "begin", "(LOneKnife$Setting;I)V"⟩
abbrev cX3_bar : ByteArray := prog_5_method_4_code
def yX3_bar : MethodName := ⟨RX3, "bar", "()V"⟩
abbrev cX3_meetJobs : ByteArray := prog_5_method_5_code
def yX3_meetJobs : MethodName := ⟨RX3, "meetJobs", "(I)V"⟩
abbrev cX3_choose : ByteArray := prog_5_method_6_code
def yX3_choose : MethodName := ⟨RX3, "choose", "(I)V"⟩
abbrev cX3_next : ByteArray := prog_5_method_7_code
def yX3_next : MethodName := ⟨RX3, "next", "()I"⟩
abbrev cX3_goOn : ByteArray := prog_5_method_8_code
def yX3_goOn : MethodName := ⟨RX3, "goOn", "(I)I"⟩
abbrev cX3_mustWait : ByteArray := prog_5_method_9_code
def yX3_mustWait : MethodName := ⟨RX3, "mustWait", "(II)Z"⟩
abbrev cX3_lend : ByteArray := prog_5_method_10_code
def yX3_lend : MethodName := ⟨RX3, "lend", "()V"⟩
abbrev cX3_lendFrom : ByteArray := prog_5_method_11_code
def yX3_lendFrom : MethodName := ⟨RX3, "lendFrom", "(LOneKnife$Cook;)Z"⟩
abbrev cX3_end : ByteArray := prog_5_method_12_code
def yX3_end : MethodName := ⟨RX3, "end", "(II)V"⟩
abbrev cX3_note : ByteArray := prog_5_method_13_code
def yX3_note : MethodName := ⟨RX3, "note", "(I)V"⟩
abbrev cX3_lookForRing : ByteArray := prog_5_method_14_code
def yX3_lookForRing : MethodName := ⟨RX3, "lookForRing", "(I)V"⟩
abbrev cX3_work : ByteArray := prog_5_method_15_code
def yX3_work : MethodName := ⟨RX3, "work", "(I)V"⟩
abbrev cX3_chosenAt : ByteArray := prog_5_method_16_code
def yX3_chosenAt : MethodName := ⟨RX3, "chosenAt", "(II)I"⟩
abbrev cX3_stateOf : ByteArray := prog_5_method_17_code
def yX3_stateOf : MethodName := ⟨RX3, "stateOf", "(II)I"⟩
abbrev cX3_ticksIn : ByteArray := prog_5_method_18_code
def yX3_ticksIn : MethodName := ⟨RX3, "ticksIn", "([II)I"⟩
abbrev cX3_ticksBehind : ByteArray := prog_5_method_19_code
def yX3_ticksBehind : MethodName := ⟨RX3, "ticksBehind", "(II)I"⟩
def RX4 : String := "OneKnife$Search"
def TX4 : u_T := fun k => match k with
  | 0 => ("OneKnife$Search", "setting", "LOneKnife$Setting;", true)
  | 1 => ("OneKnife$Search", "trial", "LOneKnife$Setting;", true)
  | 2 => ("OneKnife$Search", "run", "LOneKnife$Run;", true)
  | 3 => ("OneKnife$Search", "bestKnown", "Z", false)
  | 4 => ("OneKnife$Search", "bestThere", "Z", false)
  | 5 => ("OneKnife$Search", "order", "[I", true)
  | 6 => ("OneKnife$Search", "shedKnown", "Z", false)
  | 7 => ("OneKnife$Search", "shedBits", "I", false)
  | 8 => ("OneKnife$Search", "shedWorth", "I", false)
  | 9 => ("OneKnife$Search", "shedNumber", "I", false)
  | 10 => ("OneKnife$Search", "whateverKnown", "I", false)
  | 11 => ("OneKnife$Search", "longest", "[I", true)
  | 12 => ("OneKnife$Search", "lateWays", "I", false)
  | 13 => ("OneKnife$Search", "mendedKnown", "Z", false)
  | _ => ("OneKnife$Search", "mending", "[I", true)
def tyX4 : Nat → FieldType := fun k => match k with
  | 0 => .object "OneKnife$Setting"
  | 1 => .object "OneKnife$Setting"
  | 2 => .object "OneKnife$Run"
  | 3 => .boolean
  | 4 => .boolean
  | 5 => .array .int
  | 6 => .boolean
  | 7 => .int
  | 8 => .int
  | 9 => .int
  | 10 => .int
  | 11 => .array .int
  | 12 => .int
  | 13 => .boolean
  | _ => .array .int
theorem nmX4 : ∀ a, a < 15 → ∀ b, b < 15 → a ≠ b → (TX4 a).2.1 ≠ (TX4 b).2.1 := by decide +kernel
theorem tyX4_ok : ∀ k, k < 15 → parseFieldDescriptor (TX4 k).2.2.1 = some (tyX4 k) := by decide +kernel
abbrev cX4_init : ByteArray := prog_6_method_1_code
def yX4_init : MethodName := ⟨RX4, "<init>", "(LOneKnife$Setting;LOneKnife$Run;)V"⟩
abbrev cX4_forget : ByteArray := prog_6_method_2_code
def yX4_forget : MethodName := ⟨RX4, "forget", "()V"⟩
abbrev cX4_findBest : ByteArray := prog_6_method_3_code
def yX4_findBest : MethodName := ⟨RX4, "findBest", "()V"⟩
abbrev cX4_bestAt : ByteArray := prog_6_method_4_code
def yX4_bestAt : MethodName := ⟨RX4, "bestAt", "(I)I"⟩
abbrev cX4_orderAt : ByteArray := prog_6_method_5_code
def yX4_orderAt : MethodName := ⟨RX4, "orderAt", "(I)I"⟩
abbrev cX4_firstOrder : ByteArray := prog_6_method_6_code
def yX4_firstOrder : MethodName := ⟨RX4, "firstOrder", "()I"⟩
abbrev cX4_nextOrder : ByteArray := prog_6_method_7_code
def yX4_nextOrder : MethodName := ⟨RX4, "nextOrder", "(I)Z"⟩
abbrev cX4_swapOrder : ByteArray := prog_6_method_8_code
def yX4_swapOrder : MethodName := ⟨RX4, "swapOrder", "(II)V"⟩
abbrev cX4_slackOf : ByteArray := prog_6_method_9_code
def yX4_slackOf : MethodName := ⟨RX4, "slackOf", "(II)I"⟩
abbrev cX4_findShed : ByteArray := prog_6_method_10_code
def yX4_findShed : MethodName := ⟨RX4, "findShed", "()V"⟩
abbrev cX4_tryToShed : ByteArray := prog_6_method_11_code
def yX4_tryToShed : MethodName := ⟨RX4, "tryToShed", "(I)V"⟩
abbrev cX4_findWhatever : ByteArray := prog_6_method_12_code
def yX4_findWhatever : MethodName := ⟨RX4, "findWhatever", "(I)V"⟩
abbrev cX4_delayBy : ByteArray := prog_6_method_13_code
def yX4_delayBy : MethodName := ⟨RX4, "delayBy", "(II)V"⟩
abbrev cX4_fitting : ByteArray := prog_6_method_14_code
def yX4_fitting : MethodName := ⟨RX4, "fitting", "(LOneKnife$Sheet;)I"⟩
abbrev cX4_goesAs : ByteArray := prog_6_method_15_code
def yX4_goesAs : MethodName := ⟨RX4, "goesAs", "(LOneKnife$Sheet;)Z"⟩
abbrev cX4_findMended : ByteArray := prog_6_method_16_code
def yX4_findMended : MethodName := ⟨RX4, "findMended", "()V"⟩
abbrev cX4_changesOfRules : ByteArray := prog_6_method_17_code
def yX4_changesOfRules : MethodName := ⟨RX4, "changesOfRules", "()I"⟩
abbrev cX4_mends : ByteArray := prog_6_method_18_code
def yX4_mends : MethodName := ⟨RX4, "mends", "(III)Z"⟩
abbrev cX4_swapRanks : ByteArray := prog_6_method_19_code
def yX4_swapRanks : MethodName := ⟨RX4, "swapRanks", "(II)V"⟩
abbrev cX4_keepMending : ByteArray := prog_6_method_20_code
def yX4_keepMending : MethodName := ⟨RX4, "keepMending", "(III)V"⟩
def RX5 : String := "OneKnife$Setting"
def TX5 : u_T := fun k => match k with
  | 0 => ("OneKnife$Setting", "are", "I", false)
  | 1 => ("OneKnife$Setting", "rank", "[I", true)
  | 2 => ("OneKnife$Setting", "worth", "[I", true)
  | 3 => ("OneKnife$Setting", "later", "[I", true)
  | 4 => ("OneKnife$Setting", "rule", "I", false)
  | 5 => ("OneKnife$Setting", "lending", "I", false)
  | 6 => ("OneKnife$Setting", "hands", "I", false)
  | 7 => ("OneKnife$Setting", "ticks", "I", false)
  | 8 => ("OneKnife$Setting", "longTask", "I", false)
  | 9 => ("OneKnife$Setting", "longStep", "I", false)
  | _ => ("OneKnife$Setting", "longerBy", "I", false)
def tyX5 : Nat → FieldType := fun k => match k with
  | 0 => .int
  | 1 => .array .int
  | 2 => .array .int
  | 3 => .array .int
  | 4 => .int
  | 5 => .int
  | 6 => .int
  | 7 => .int
  | 8 => .int
  | 9 => .int
  | _ => .int
theorem nmX5 : ∀ a, a < 11 → ∀ b, b < 11 → a ≠ b → (TX5 a).2.1 ≠ (TX5 b).2.1 := by decide +kernel
theorem tyX5_ok : ∀ k, k < 11 → parseFieldDescriptor (TX5 k).2.2.1 = some (tyX5 k) := by decide +kernel
abbrev cX5_init : ByteArray := prog_7_method_1_code
def yX5_init : MethodName := ⟨RX5, "<init>", "()V"⟩
abbrev cX5_become : ByteArray := prog_7_method_2_code
def yX5_become : MethodName := ⟨RX5, "become", "(LOneKnife$Setting;)V"⟩
abbrev cX5_partOf : ByteArray := prog_7_method_3_code
def yX5_partOf : MethodName := ⟨RX5, "partOf", "(I)I"⟩
abbrev cX5_changePart : ByteArray := prog_7_method_4_code
def yX5_changePart : MethodName := ⟨RX5, "changePart", "(II)V"⟩
abbrev cX5_has : ByteArray := prog_7_method_5_code
def yX5_has : MethodName := ⟨RX5, "has", "(I)Z"⟩
abbrev cX5_goesByRanks : ByteArray := prog_7_method_6_code
def yX5_goesByRanks : MethodName := ⟨RX5, "goesByRanks", "()Z"⟩
abbrev cX5_rankOf : ByteArray := prog_7_method_7_code
def yX5_rankOf : MethodName := ⟨RX5, "rankOf", "(I)I"⟩
abbrev cX5_lesser : ByteArray := prog_7_method_8_code
def yX5_lesser : MethodName := ⟨RX5, "lesser", "(I)I"⟩
abbrev cX5_goesAhead : ByteArray := prog_7_method_9_code
def yX5_goesAhead : MethodName := ⟨RX5, "goesAhead", "(II)Z"⟩
def RX6 : String := "OneKnife$Sheet"
def TX6 : u_T := fun k => match k with
  | 0 => ("OneKnife$Sheet", "lost", "Z", false)
  | 1 => ("OneKnife$Sheet", "type", "I", false)
  | 2 => ("OneKnife$Sheet", "size", "I", false)
  | _ => ("OneKnife$Sheet", "items", "[I", true)
def tyX6 : Nat → FieldType := fun k => match k with
  | 0 => .boolean
  | 1 => .int
  | 2 => .int
  | _ => .array .int
theorem nmX6 : ∀ a, a < 4 → ∀ b, b < 4 → a ≠ b → (TX6 a).2.1 ≠ (TX6 b).2.1 := by decide +kernel
theorem tyX6_ok : ∀ k, k < 4 → parseFieldDescriptor (TX6 k).2.2.1 = some (tyX6 k) := by decide +kernel
abbrev cX6_init : ByteArray := prog_8_method_1_code
def yX6_init : MethodName := ⟨RX6, "<init>", "()V"⟩
abbrev cX6_renew : ByteArray := prog_8_method_2_code
def yX6_renew : MethodName := ⟨RX6, "renew", "(II)V"⟩
abbrev cX6_faultOf : ByteArray := prog_8_method_3_code
def yX6_faultOf : MethodName := ⟨RX6, "faultOf", "(II)I"⟩
abbrev cX6_hasRow : ByteArray := prog_8_method_4_code
def yX6_hasRow : MethodName := ⟨RX6, "hasRow", "(II)Z"⟩
abbrev cX6_itemAt : ByteArray := prog_8_method_5_code
def yX6_itemAt : MethodName := ⟨RX6, "itemAt", "(I)I"⟩
abbrev cX6_become : ByteArray := prog_8_method_6_code
def yX6_become : MethodName := ⟨RX6, "become", "(II)V"⟩
def RX7 : String := "OneKnife$Things"
def TX7 : u_T := fun k => match k with
  | 0 => ("OneKnife$Things", "number", "I", false)
  | 1 => ("OneKnife$Things", "fires", "I", false)
  | 2 => ("OneKnife$Things", "many", "[I", true)
  | 3 => ("OneKnife$Things", "from", "[I", true)
  | _ => ("OneKnife$Things", "till", "[I", true)
def tyX7 : Nat → FieldType := fun k => match k with
  | 0 => .int
  | 1 => .int
  | 2 => .array .int
  | 3 => .array .int
  | _ => .array .int
theorem nmX7 : ∀ a, a < 5 → ∀ b, b < 5 → a ≠ b → (TX7 a).2.1 ≠ (TX7 b).2.1 := by decide +kernel
theorem tyX7_ok : ∀ k, k < 5 → parseFieldDescriptor (TX7 k).2.2.1 = some (tyX7 k) := by decide +kernel
abbrev cX7_init : ByteArray := prog_9_method_1_code
def yX7_init : MethodName := ⟨RX7, "<init>", "()V"⟩
abbrev cX7_more : ByteArray := prog_9_method_2_code
def yX7_more : MethodName := ⟨RX7, "more", "(II)I"⟩
abbrev cX7_breakIt : ByteArray := prog_9_method_3_code
def yX7_breakIt : MethodName := ⟨RX7, "breakIt", "(III)V"⟩
abbrev cX7_brokenIn : ByteArray := prog_9_method_4_code
def yX7_brokenIn : MethodName := ⟨RX7, "brokenIn", "(I)I"⟩
def RX8 : String := "OneKnife"
def TX8 : u_T := fun k => match k with
  | 0 => ("OneKnife", "things", "LOneKnife$Things;", true)
  | 1 => ("OneKnife", "plans", "[LOneKnife$Plan;", true)
  | 2 => ("OneKnife", "setting", "LOneKnife$Setting;", true)
  | 3 => ("OneKnife", "reckoner", "LOneKnife$Reckoner;", true)
  | 4 => ("OneKnife", "run", "LOneKnife$Run;", true)
  | 5 => ("OneKnife", "search", "LOneKnife$Search;", true)
  | 6 => ("OneKnife", "sheets", "[LOneKnife$Sheet;", true)
  | 7 => ("OneKnife", "hasRun", "Z", false)
  | 8 => ("OneKnife", "dropped", "I", false)
  | _ => ("OneKnife", "finding", "I", false)
def tyX8 : Nat → FieldType := fun k => match k with
  | 0 => .object "OneKnife$Things"
  | 1 => .array (.object "OneKnife$Plan")
  | 2 => .object "OneKnife$Setting"
  | 3 => .object "OneKnife$Reckoner"
  | 4 => .object "OneKnife$Run"
  | 5 => .object "OneKnife$Search"
  | 6 => .array (.object "OneKnife$Sheet")
  | 7 => .boolean
  | 8 => .int
  | _ => .int
theorem nmX8 : ∀ a, a < 10 → ∀ b, b < 10 → a ≠ b → (TX8 a).2.1 ≠ (TX8 b).2.1 := by decide +kernel
theorem tyX8_ok : ∀ k, k < 10 → parseFieldDescriptor (TX8 k).2.2.1 = some (tyX8 k) := by decide +kernel
abbrev cX8_init : ByteArray := prog_1_method_1_code
def yX8_init : MethodName := ⟨RX8, "<init>", "()V"⟩
abbrev cX8_thing : ByteArray := prog_1_method_2_code
def yX8_thing : MethodName := ⟨RX8, "thing", "(II)I"⟩
abbrev cX8_broken : ByteArray := prog_1_method_3_code
def yX8_broken : MethodName := ⟨RX8, "broken", "(III)I"⟩
abbrev cX8_type : ByteArray := prog_1_method_4_code
def yX8_type : MethodName := ⟨RX8, "type", "(II)I"⟩
abbrev cX8_wipe : ByteArray := prog_1_method_5_code
def yX8_wipe : MethodName := ⟨RX8, "wipe", "(I)I"⟩
abbrev cX8_fault : ByteArray := prog_1_method_6_code
def yX8_fault : MethodName := ⟨RX8, "fault", "(I)I"⟩
abbrev cX8_about : ByteArray := prog_1_method_7_code
def yX8_about : MethodName := ⟨RX8, "about", "(II)I"⟩
abbrev cX8_set : ByteArray := prog_1_method_8_code
def yX8_set : MethodName := ⟨RX8, "set", "(III)I"⟩
abbrev cX8_drop : ByteArray := prog_1_method_9_code
def yX8_drop : MethodName := ⟨RX8, "drop", "(IZ)I"⟩
abbrev cX8_rule : ByteArray := prog_1_method_10_code
def yX8_rule : MethodName := ⟨RX8, "rule", "(II)I"⟩
abbrev cX8_who : ByteArray := prog_1_method_11_code
def yX8_who : MethodName := ⟨RX8, "who", "(II)I"⟩
abbrev cX8_state : ByteArray := prog_1_method_12_code
def yX8_state : MethodName := ⟨RX8, "state", "(II)I"⟩
abbrev cX8_done : ByteArray := prog_1_method_13_code
def yX8_done : MethodName := ⟨RX8, "done", "(II)I"⟩
abbrev cX8_told : ByteArray := prog_1_method_14_code
def yX8_told : MethodName := ⟨RX8, "told", "(II)I"⟩
abbrev cX8_late : ByteArray := prog_1_method_15_code
def yX8_late : MethodName := ⟨RX8, "late", "()I"⟩
abbrev cX8_ring : ByteArray := prog_1_method_16_code
def yX8_ring : MethodName := ⟨RX8, "ring", "(I)I"⟩
abbrev cX8_bound : ByteArray := prog_1_method_17_code
def yX8_bound : MethodName := ⟨RX8, "bound", "(I)I"⟩
abbrev cX8_held : ByteArray := prog_1_method_18_code
def yX8_held : MethodName := ⟨RX8, "held", "(I)I"⟩
abbrev cX8_best : ByteArray := prog_1_method_19_code
def yX8_best : MethodName := ⟨RX8, "best", "(I)I"⟩
abbrev cX8_slack : ByteArray := prog_1_method_20_code
def yX8_slack : MethodName := ⟨RX8, "slack", "(II)I"⟩
abbrev cX8_shed : ByteArray := prog_1_method_21_code
def yX8_shed : MethodName := ⟨RX8, "shed", "(I)I"⟩
abbrev cX8_whatever : ByteArray := prog_1_method_22_code
def yX8_whatever : MethodName := ⟨RX8, "whatever", "(III)I"⟩
abbrev cX8_fits : ByteArray := prog_1_method_23_code
def yX8_fits : MethodName := ⟨RX8, "fits", "(I)I"⟩
abbrev cX8_mended : ByteArray := prog_1_method_24_code
def yX8_mended : MethodName := ⟨RX8, "mended", "(I)I"⟩
abbrev cX8_sheet : ByteArray := prog_1_method_25_code
def yX8_sheet : MethodName := ⟨RX8, "sheet", "(III)I"⟩
abbrev cX8_lose : ByteArray := prog_1_method_26_code
def yX8_lose : MethodName := ⟨RX8, "lose", "(I)I"⟩
abbrev cX8_put : ByteArray := prog_1_method_27_code
def yX8_put : MethodName := ⟨RX8, "put", "(IIII)I"⟩
abbrev cX8_get : ByteArray := prog_1_method_28_code
def yX8_get : MethodName := ⟨RX8, "get", "(III)I"⟩
abbrev cX8_copy : ByteArray := prog_1_method_29_code
def yX8_copy : MethodName := ⟨RX8, "copy", "(IIIII)I"⟩
abbrev cX8_write : ByteArray := prog_1_method_30_code
def yX8_write : MethodName := ⟨RX8, "write", "(I)I"⟩
abbrev cX8_count : ByteArray := prog_1_method_31_code
def yX8_count : MethodName := ⟨RX8, "count", "(I)I"⟩
abbrev cX8_digest : ByteArray := prog_1_method_32_code
def yX8_digest : MethodName := ⟨RX8, "digest", "()J"⟩
abbrev cX8_isTask : ByteArray := prog_1_method_33_code
def yX8_isTask : MethodName := ⟨RX8, "isTask", "(I)Z"⟩
abbrev cX8_isSheet : ByteArray := prog_1_method_34_code
def yX8_isSheet : MethodName := ⟨RX8, "isSheet", "(I)Z"⟩
abbrev cX8_isType : ByteArray := prog_1_method_35_code
def yX8_isType : MethodName := ⟨RX8, "isType", "(I)Z"⟩
abbrev cX8_isTickEver : ByteArray := prog_1_method_36_code
def yX8_isTickEver : MethodName := ⟨RX8, "isTickEver", "(I)Z"⟩
abbrev cX8_leastOfRule : ByteArray := prog_1_method_37_code
def yX8_leastOfRule : MethodName := ⟨RX8, "leastOfRule", "(I)I"⟩
abbrev cX8_mostOfRule : ByteArray := prog_1_method_38_code
def yX8_mostOfRule : MethodName := ⟨RX8, "mostOfRule", "(I)I"⟩
abbrev cX8_isTick : ByteArray := prog_1_method_39_code
def yX8_isTick : MethodName := ⟨RX8, "isTick", "(I)Z"⟩
abbrev cX8_find : ByteArray := prog_1_method_40_code
def yX8_find : MethodName := ⟨RX8, "find", "(I)I"⟩
abbrev cX8_bytes : ByteArray := prog_1_method_41_code
def yX8_bytes : MethodName := ⟨RX8, "bytes", "()I"⟩
abbrev cX8_change : ByteArray := prog_1_method_42_code
def yX8_change : MethodName := ⟨RX8, "change", "()V"⟩
abbrev cX8_goOnce : ByteArray := prog_1_method_43_code
def yX8_goOnce : MethodName := ⟨RX8, "goOnce", "()V"⟩
def RX9 : String := "OneKnifeModel"
def TX9 : u_T := fun k => match k with
  | 0 => ("OneKnifeModel", "things", "I", false)
  | 1 => ("OneKnifeModel", "kindOf", "[I", true)
  | 2 => ("OneKnifeModel", "manyOf", "[I", true)
  | 3 => ("OneKnifeModel", "brokenFrom", "[I", true)
  | 4 => ("OneKnifeModel", "brokenTill", "[I", true)
  | 5 => ("OneKnifeModel", "typed", "[I", true)
  | 6 => ("OneKnifeModel", "texts", "[I", true)
  | 7 => ("OneKnifeModel", "rankOf", "[I", true)
  | 8 => ("OneKnifeModel", "worthOf", "[I", true)
  | 9 => ("OneKnifeModel", "dropped", "I", false)
  | 10 => ("OneKnifeModel", "isRead", "Z", false)
  | 11 => ("OneKnifeModel", "faults", "[I", true)
  | 12 => ("OneKnifeModel", "spanOf", "[I", true)
  | 13 => ("OneKnifeModel", "dueOf", "[I", true)
  | 14 => ("OneKnifeModel", "beginOf", "[I", true)
  | 15 => ("OneKnifeModel", "stepMany", "[I", true)
  | 16 => ("OneKnifeModel", "stepKind", "[I", true)
  | 17 => ("OneKnifeModel", "stepArg", "[I", true)
  | 18 => ("OneKnifeModel", "forgotten", "[I", true)
  | 19 => ("OneKnifeModel", "taskNow", "I", false)
  | 20 => ("OneKnifeModel", "at", "I", false)
  | 21 => ("OneKnifeModel", "fault", "I", false)
  | 22 => ("OneKnifeModel", "ruleNow", "I", false)
  | 23 => ("OneKnifeModel", "lendingNow", "I", false)
  | 24 => ("OneKnifeModel", "hands", "I", false)
  | 25 => ("OneKnifeModel", "ticks", "I", false)
  | 26 => ("OneKnifeModel", "isRun", "Z", false)
  | 27 => ("OneKnifeModel", "among", "I", false)
  | 28 => ("OneKnifeModel", "ranks", "[I", true)
  | 29 => ("OneKnifeModel", "later", "[I", true)
  | 30 => ("OneKnifeModel", "longerTask", "I", false)
  | 31 => ("OneKnifeModel", "longerStep", "I", false)
  | 32 => ("OneKnifeModel", "longerBy", "I", false)
  | 33 => ("OneKnifeModel", "byRule", "I", false)
  | 34 => ("OneKnifeModel", "byLending", "I", false)
  | 35 => ("OneKnifeModel", "came", "[I", true)
  | 36 => ("OneKnifeModel", "begun", "[I", true)
  | 37 => ("OneKnifeModel", "cameAt", "[I", true)
  | 38 => ("OneKnifeModel", "doneAt", "[I", true)
  | 39 => ("OneKnifeModel", "stepNow", "[I", true)
  | 40 => ("OneKnifeModel", "didNow", "[I", true)
  | 41 => ("OneKnifeModel", "hasNow", "[I", true)
  | 42 => ("OneKnifeModel", "goesOn", "[Z", true)
  | 43 => ("OneKnifeModel", "lastWork", "[I", true)
  | 44 => ("OneKnifeModel", "stateNow", "[I", true)
  | 45 => ("OneKnifeModel", "waitsFor", "[I", true)
  | 46 => ("OneKnifeModel", "force", "[I", true)
  | 47 => ("OneKnifeModel", "chosen", "[I", true)
  | 48 => ("OneKnifeModel", "states", "[I", true)
  | 49 => ("OneKnifeModel", "ringTick", "I", false)
  | 50 => ("OneKnifeModel", "ringBits", "I", false)
  | 51 => ("OneKnifeModel", "tick", "I", false)
  | 52 => ("OneKnifeModel", "highestOf", "[I", true)
  | 53 => ("OneKnifeModel", "order", "[I", true)
  | 54 => ("OneKnifeModel", "mendMany", "I", false)
  | 55 => ("OneKnifeModel", "mendRule", "I", false)
  | 56 => ("OneKnifeModel", "mendLending", "I", false)
  | 57 => ("OneKnifeModel", "mendFirst", "I", false)
  | 58 => ("OneKnifeModel", "mendSecond", "I", false)
  | 59 => ("OneKnifeModel", "isThere", "[Z", true)
  | 60 => ("OneKnifeModel", "types", "[I", true)
  | 61 => ("OneKnifeModel", "sizes", "[I", true)
  | 62 => ("OneKnifeModel", "items", "[I", true)
  | 63 => ("OneKnifeModel", "moved", "[I", true)
  | _ => ("OneKnifeModel", "finding", "I", false)
def tyX9 : Nat → FieldType := fun k => match k with
  | 0 => .int
  | 1 => .array .int
  | 2 => .array .int
  | 3 => .array .int
  | 4 => .array .int
  | 5 => .array .int
  | 6 => .array .int
  | 7 => .array .int
  | 8 => .array .int
  | 9 => .int
  | 10 => .boolean
  | 11 => .array .int
  | 12 => .array .int
  | 13 => .array .int
  | 14 => .array .int
  | 15 => .array .int
  | 16 => .array .int
  | 17 => .array .int
  | 18 => .array .int
  | 19 => .int
  | 20 => .int
  | 21 => .int
  | 22 => .int
  | 23 => .int
  | 24 => .int
  | 25 => .int
  | 26 => .boolean
  | 27 => .int
  | 28 => .array .int
  | 29 => .array .int
  | 30 => .int
  | 31 => .int
  | 32 => .int
  | 33 => .int
  | 34 => .int
  | 35 => .array .int
  | 36 => .array .int
  | 37 => .array .int
  | 38 => .array .int
  | 39 => .array .int
  | 40 => .array .int
  | 41 => .array .int
  | 42 => .array .boolean
  | 43 => .array .int
  | 44 => .array .int
  | 45 => .array .int
  | 46 => .array .int
  | 47 => .array .int
  | 48 => .array .int
  | 49 => .int
  | 50 => .int
  | 51 => .int
  | 52 => .array .int
  | 53 => .array .int
  | 54 => .int
  | 55 => .int
  | 56 => .int
  | 57 => .int
  | 58 => .int
  | 59 => .array .boolean
  | 60 => .array .int
  | 61 => .array .int
  | 62 => .array .int
  | 63 => .array .int
  | _ => .int
theorem nmX9 : ∀ a, a < 65 → ∀ b, b < 65 → a ≠ b → (TX9 a).2.1 ≠ (TX9 b).2.1 := by decide +kernel
theorem tyX9_ok : ∀ k, k < 65 → parseFieldDescriptor (TX9 k).2.2.1 = some (tyX9 k) := by decide +kernel
abbrev cX9_init : ByteArray := prog_11_method_1_code
def yX9_init : MethodName := ⟨RX9, "<init>", "()V"⟩
abbrev cX9_in : ByteArray := prog_11_method_3_code
def yX9_in : MethodName := ⟨RX9, "in", "(III)Z"⟩
abbrev cX9_ones : ByteArray := prog_11_method_4_code
def yX9_ones : MethodName := ⟨RX9, "ones", "(I)I"⟩
abbrev cX9_thing : ByteArray := prog_11_method_5_code
def yX9_thing : MethodName := ⟨RX9, "thing", "(II)I"⟩
abbrev cX9_broken : ByteArray := prog_11_method_6_code
def yX9_broken : MethodName := ⟨RX9, "broken", "(III)I"⟩
abbrev cX9_changes : ByteArray := prog_11_method_7_code
def yX9_changes : MethodName := ⟨RX9, "changes", "()V"⟩
abbrev cX9_isTask : ByteArray := prog_11_method_8_code
def yX9_isTask : MethodName := ⟨RX9, "isTask", "(I)Z"⟩
abbrev cX9_type : ByteArray := prog_11_method_9_code
def yX9_type : MethodName := ⟨RX9, "type", "(II)I"⟩
abbrev cX9_wipe : ByteArray := prog_11_method_10_code
def yX9_wipe : MethodName := ⟨RX9, "wipe", "(I)I"⟩
abbrev cX9_byteNow : ByteArray := prog_11_method_11_code
def yX9_byteNow : MethodName := ⟨RX9, "byteNow", "()I"⟩
abbrev cX9_expects : ByteArray := prog_11_method_12_code
def yX9_expects : MethodName := ⟨RX9, "expects", "(I)V"⟩
abbrev cX9_number : ByteArray := prog_11_method_13_code
def yX9_number : MethodName := ⟨RX9, "number", "(III)I"⟩
abbrev cX9_stepRead : ByteArray := prog_11_method_14_code
def yX9_stepRead : MethodName := ⟨RX9, "stepRead", "(I)I"⟩
abbrev cX9_readsTask : ByteArray := prog_11_method_15_code
def yX9_readsTask : MethodName := ⟨RX9, "readsTask", "(I)V"⟩
abbrev cX9_reads : ByteArray := prog_11_method_16_code
def yX9_reads : MethodName := ⟨RX9, "reads", "()V"⟩
abbrev cX9_workOf : ByteArray := prog_11_method_17_code
def yX9_workOf : MethodName := ⟨RX9, "workOf", "(I)I"⟩
abbrev cX9_faultOf : ByteArray := prog_11_method_18_code
def yX9_faultOf : MethodName := ⟨RX9, "faultOf", "(I)I"⟩
abbrev cX9_fault : ByteArray := prog_11_method_19_code
def yX9_fault : MethodName := ⟨RX9, "fault", "(I)I"⟩
abbrev cX9_those : ByteArray := prog_11_method_20_code
def yX9_those : MethodName := ⟨RX9, "those", "()I"⟩
abbrev cX9_about : ByteArray := prog_11_method_21_code
def yX9_about : MethodName := ⟨RX9, "about", "(II)I"⟩
abbrev cX9_set : ByteArray := prog_11_method_22_code
def yX9_set : MethodName := ⟨RX9, "set", "(III)I"⟩
abbrev cX9_drop : ByteArray := prog_11_method_23_code
def yX9_drop : MethodName := ⟨RX9, "drop", "(IZ)I"⟩
abbrev cX9_rule : ByteArray := prog_11_method_24_code
def yX9_rule : MethodName := ⟨RX9, "rule", "(II)I"⟩
abbrev cX9_asTold : ByteArray := prog_11_method_25_code
def yX9_asTold : MethodName := ⟨RX9, "asTold", "()V"⟩
abbrev cX9_begins : ByteArray := prog_11_method_26_code
def yX9_begins : MethodName := ⟨RX9, "begins", "()V"⟩
abbrev cX9_comes : ByteArray := prog_11_method_27_code
def yX9_comes : MethodName := ⟨RX9, "comes", "()V"⟩
abbrev cX9_havingMany : ByteArray := prog_11_method_28_code
def yX9_havingMany : MethodName := ⟨RX9, "havingMany", "(I)I"⟩
abbrev cX9_highest : ByteArray := prog_11_method_29_code
def yX9_highest : MethodName := ⟨RX9, "highest", "(I)I"⟩
abbrev cX9_upward : ByteArray := prog_11_method_30_code
def yX9_upward : MethodName := ⟨RX9, "upward", "(I)I"⟩
abbrev cX9_isBroken : ByteArray := prog_11_method_31_code
def yX9_isBroken : MethodName := ⟨RX9, "isBroken", "(I)Z"⟩
abbrev cX9_having : ByteArray := prog_11_method_32_code
def yX9_having : MethodName := ⟨RX9, "having", "(II)I"⟩
abbrev cX9_takes : ByteArray := prog_11_method_33_code
def yX9_takes : MethodName := ⟨RX9, "takes", "(II)Z"⟩
abbrev cX9_ends : ByteArray := prog_11_method_34_code
def yX9_ends : MethodName := ⟨RX9, "ends", "(II)V"⟩
abbrev cX9_does : ByteArray := prog_11_method_35_code
def yX9_does : MethodName := ⟨RX9, "does", "(I)Z"⟩
abbrev cX9_keyOf : ByteArray := prog_11_method_36_code
def yX9_keyOf : MethodName := ⟨RX9, "keyOf", "(I)I"⟩
abbrev cX9_forces : ByteArray := prog_11_method_37_code
def yX9_forces : MethodName := ⟨RX9, "forces", "()V"⟩
abbrev cX9_hasFire : ByteArray := prog_11_method_38_code
def yX9_hasFire : MethodName := ⟨RX9, "hasFire", "(I)Z"⟩
abbrev cX9_bestNow : ByteArray := prog_11_method_39_code
def yX9_bestNow : MethodName := ⟨RX9, "bestNow", "()I"⟩
abbrev cX9_chooses : ByteArray := prog_11_method_40_code
def yX9_chooses : MethodName := ⟨RX9, "chooses", "()V"⟩
abbrev cX9_ringNow : ByteArray := prog_11_method_41_code
def yX9_ringNow : MethodName := ⟨RX9, "ringNow", "()I"⟩
abbrev cX9_ticksOf : ByteArray := prog_11_method_42_code
def yX9_ticksOf : MethodName := ⟨RX9, "ticksOf", "(II)I"⟩
abbrev cX9_works : ByteArray := prog_11_method_43_code
def yX9_works : MethodName := ⟨RX9, "works", "()V"⟩
abbrev cX9_runs : ByteArray := prog_11_method_44_code
def yX9_runs : MethodName := ⟨RX9, "runs", "()V"⟩
abbrev cX9_lateOf : ByteArray := prog_11_method_45_code
def yX9_lateOf : MethodName := ⟨RX9, "lateOf", "(I)I"⟩
abbrev cX9_lateAll : ByteArray := prog_11_method_46_code
def yX9_lateAll : MethodName := ⟨RX9, "lateAll", "()I"⟩
abbrev cX9_runTold : ByteArray := prog_11_method_47_code
def yX9_runTold : MethodName := ⟨RX9, "runTold", "()V"⟩
abbrev cX9_who : ByteArray := prog_11_method_48_code
def yX9_who : MethodName := ⟨RX9, "who", "(II)I"⟩
abbrev cX9_state : ByteArray := prog_11_method_49_code
def yX9_state : MethodName := ⟨RX9, "state", "(II)I"⟩
abbrev cX9_done : ByteArray := prog_11_method_50_code
def yX9_done : MethodName := ⟨RX9, "done", "(II)I"⟩
abbrev cX9_doneMany : ByteArray := prog_11_method_51_code
def yX9_doneMany : MethodName := ⟨RX9, "doneMany", "(I)I"⟩
abbrev cX9_longest : ByteArray := prog_11_method_52_code
def yX9_longest : MethodName := ⟨RX9, "longest", "(I)I"⟩
abbrev cX9_ticksIn : ByteArray := prog_11_method_53_code
def yX9_ticksIn : MethodName := ⟨RX9, "ticksIn", "(II)I"⟩
abbrev cX9_behind : ByteArray := prog_11_method_54_code
def yX9_behind : MethodName := ⟨RX9, "behind", "(I)I"⟩
abbrev cX9_toldOf : ByteArray := prog_11_method_55_code
def yX9_toldOf : MethodName := ⟨RX9, "toldOf", "(II)I"⟩
abbrev cX9_told : ByteArray := prog_11_method_56_code
def yX9_told : MethodName := ⟨RX9, "told", "(II)I"⟩
abbrev cX9_late : ByteArray := prog_11_method_57_code
def yX9_late : MethodName := ⟨RX9, "late", "()I"⟩
abbrev cX9_ring : ByteArray := prog_11_method_58_code
def yX9_ring : MethodName := ⟨RX9, "ring", "(I)I"⟩
abbrev cX9_goesAhead : ByteArray := prog_11_method_59_code
def yX9_goesAhead : MethodName := ⟨RX9, "goesAhead", "(II)Z"⟩
abbrev cX9_doesTake : ByteArray := prog_11_method_60_code
def yX9_doesTake : MethodName := ⟨RX9, "doesTake", "(II)Z"⟩
abbrev cX9_workFrom : ByteArray := prog_11_method_61_code
def yX9_workFrom : MethodName := ⟨RX9, "workFrom", "(II)I"⟩
abbrev cX9_heldOf : ByteArray := prog_11_method_62_code
def yX9_heldOf : MethodName := ⟨RX9, "heldOf", "(I)I"⟩
abbrev cX9_isBounded : ByteArray := prog_11_method_63_code
def yX9_isBounded : MethodName := ⟨RX9, "isBounded", "(I)Z"⟩
abbrev cX9_boundOf : ByteArray := prog_11_method_64_code
def yX9_boundOf : MethodName := ⟨RX9, "boundOf", "(I)I"⟩
abbrev cX9_bound : ByteArray := prog_11_method_65_code
def yX9_bound : MethodName := ⟨RX9, "bound", "(I)I"⟩
abbrev cX9_held : ByteArray := prog_11_method_66_code
def yX9_held : MethodName := ⟨RX9, "held", "(I)I"⟩
abbrev cX9_triedLate : ByteArray := prog_11_method_67_code
def yX9_triedLate : MethodName := ⟨RX9, "triedLate", "()I"⟩
abbrev cX9_turns : ByteArray := prog_11_method_68_code
def yX9_turns : MethodName := ⟨RX9, "turns", "(I)Z"⟩
abbrev cX9_ranksBest : ByteArray := prog_11_method_69_code
def yX9_ranksBest : MethodName := ⟨RX9, "ranksBest", "(I)Z"⟩
abbrev cX9_best : ByteArray := prog_11_method_70_code
def yX9_best : MethodName := ⟨RX9, "best", "(I)I"⟩
abbrev cX9_slack : ByteArray := prog_11_method_71_code
def yX9_slack : MethodName := ⟨RX9, "slack", "(II)I"⟩
abbrev cX9_worthOfSet : ByteArray := prog_11_method_72_code
def yX9_worthOfSet : MethodName := ⟨RX9, "worthOfSet", "(I)I"⟩
abbrev cX9_shed : ByteArray := prog_11_method_73_code
def yX9_shed : MethodName := ⟨RX9, "shed", "(I)I"⟩
abbrev cX9_whatever : ByteArray := prog_11_method_74_code
def yX9_whatever : MethodName := ⟨RX9, "whatever", "(III)I"⟩
abbrev cX9_fits : ByteArray := prog_11_method_75_code
def yX9_fits : MethodName := ⟨RX9, "fits", "(I)I"⟩
abbrev cX9_isWell : ByteArray := prog_11_method_76_code
def yX9_isWell : MethodName := ⟨RX9, "isWell", "(IIII)Z"⟩
abbrev cX9_tries : ByteArray := prog_11_method_77_code
def yX9_tries : MethodName := ⟨RX9, "tries", "(IIIII)V"⟩
abbrev cX9_mends : ByteArray := prog_11_method_78_code
def yX9_mends : MethodName := ⟨RX9, "mends", "()V"⟩
abbrev cX9_mended : ByteArray := prog_11_method_79_code
def yX9_mended : MethodName := ⟨RX9, "mended", "(I)I"⟩
abbrev cX9_meets : ByteArray := prog_11_method_80_code
def yX9_meets : MethodName := ⟨RX9, "meets", "(I)I"⟩
abbrev cX9_isSheet : ByteArray := prog_11_method_81_code
def yX9_isSheet : MethodName := ⟨RX9, "isSheet", "(I)Z"⟩
abbrev cX9_sheet : ByteArray := prog_11_method_82_code
def yX9_sheet : MethodName := ⟨RX9, "sheet", "(III)I"⟩
abbrev cX9_lose : ByteArray := prog_11_method_83_code
def yX9_lose : MethodName := ⟨RX9, "lose", "(I)I"⟩
abbrev cX9_lacks : ByteArray := prog_11_method_84_code
def yX9_lacks : MethodName := ⟨RX9, "lacks", "(III)I"⟩
abbrev cX9_lay : ByteArray := prog_11_method_85_code
def yX9_lay : MethodName := ⟨RX9, "lay", "(III)V"⟩
abbrev cX9_put : ByteArray := prog_11_method_86_code
def yX9_put : MethodName := ⟨RX9, "put", "(IIII)I"⟩
abbrev cX9_get : ByteArray := prog_11_method_87_code
def yX9_get : MethodName := ⟨RX9, "get", "(III)I"⟩
abbrev cX9_copy : ByteArray := prog_11_method_88_code
def yX9_copy : MethodName := ⟨RX9, "copy", "(IIIII)I"⟩
abbrev cX9_write : ByteArray := prog_11_method_89_code
def yX9_write : MethodName := ⟨RX9, "write", "(I)I"⟩
abbrev cX9_count : ByteArray := prog_11_method_90_code
def yX9_count : MethodName := ⟨RX9, "count", "(I)I"⟩
abbrev cX9_digest : ByteArray := prog_11_method_91_code
def yX9_digest : MethodName := ⟨RX9, "digest", "()J"⟩
def RJ6 : String := "java/lang/Integer"
abbrev cJ6_bitCount_0f7a4 : ByteArray := prog_12_method_49_code
def yJ6_bitCount_0f7a4 : MethodName := ⟨RJ6, "bitCount", "(I)I"⟩
def RJ9 : String := "java/lang/Math"
abbrev cJ9_max_7cf53 : ByteArray := prog_13_method_65_code
def yJ9_max_7cf53 : MethodName := ⟨RJ9, "max", "(II)I"⟩
abbrev cJ9_min_7cf53 : ByteArray := prog_13_method_69_code
def yJ9_min_7cf53 : MethodName := ⟨RJ9, "min", "(II)I"⟩
def RJ10 : String := "java/lang/System"
def RL : String := "OneKnifeLaw"
abbrev cL_law : ByteArray := code
def yL_law : MethodName := ⟨RL, "law", "([I)Z"⟩
abbrev vwCl : List vw_C := [(RX0, TX0, 18), (RX1, TX1, 13), (RX2, TX2, 3), (RX3, TX3, 18), (RX4, TX4, 15), (RX5, TX5, 11), (RX6, TX6, 4), (RX7, TX7, 5), (RX8, TX8, 10), (RX9, TX9, 65)]
end
section
/-! the small machine: values are whole numbers, cells are numbered from 0 on (address n0 + c), references: 0 null, 1 the script, c + 2 cell c -/
abbrev AV : Type := Int ⊕ (Int ⊕ (Nat ⊕ Unit))
abbrev vI (i : Int) : AV := Sum.inl i
abbrev vL (l : Int) : AV := Sum.inr (Sum.inl l)
abbrev vR (r : Nat) : AV := Sum.inr (Sum.inr (Sum.inl r))
abbrev vU : AV := Sum.inr (Sum.inr (Sum.inr ()))
abbrev Mem : Type := Nat → Int → Int
abbrev Rfs : Type := Nat → Int → Nat
abbrev Sg : Type := List (Nat × Nat) × Rfs × Mem
/-- place, length, instruction, what belongs to it -/
abbrev En : Type := Nat × Nat × Instr × List Nat
/-- a block, and the one behind it -/
abbrev Bk : Type := List En × Nat
/-- name, code, locals, answer, own class, frames, words of locals, number of the class, places of its words -/
abbrev Mt : Type := MethodName × ByteArray × Nat × Option FieldType × String × Nat × Nat × Nat × List Nat
abbrev inR (i : Int) : Prop := -2147483648 ≤ i ∧ i ≤ 2147483647
def mset (M : Mem) (c : Nat) (k v : Int) : Mem := fun c' k' => if c' = c ∧ k' = k then v else M c' k'
def rset (R : Rfs) (c : Nat) (k : Int) (v : Nat) : Rfs := fun c' k' => if c' = c ∧ k' = k then v else R c' k'
def mclr (M : Mem) (c : Nat) : Mem := fun c' k' => if c' = c then 0 else M c' k'
def rclr (R : Rfs) (c : Nat) : Rfs := fun c' k' => if c' = c then 0 else R c' k'
def mcpy (M : Mem) (c : Nat) (sp : Int) (d : Nat) (dp n : Int) : Mem := fun c' k => if c' = d ∧ dp ≤ k ∧ k < dp + n then M c (sp + (k - dp)) else M c' k
def iAnd (a b : Int) : Int := (Int32.ofInt a &&& Int32.ofInt b).toInt
def iOr (a b : Int) : Int := (Int32.ofInt a ||| Int32.ofInt b).toInt
def iXor (a b : Int) : Int := (Int32.ofInt a ^^^ Int32.ofInt b).toInt
def i2B (a : Int) : Int := ((Int32.ofInt a).toInt8.toInt32).toInt
def i2S (a : Int) : Int := ((Int32.ofInt a).toInt16.toInt32).toInt
def lAdd (a b : Int) : Int := (Int64.ofInt a + Int64.ofInt b).toInt
def lMul (a b : Int) : Int := (Int64.ofInt a * Int64.ofInt b).toInt
def cat2 (v : AV) : Bool := match v with
  | .inr (.inl _) => true
  | _ => false
def catn (v : AV) : Nat := match v with
  | .inr (.inl _) => 2
  | _ => 1
def catS (st : List AV) : Nat := (st.map catn).sum
def cnN (ci : Nat) : Nat := ([18, 13, 3, 18, 15, 11, 4, 5, 10, 65] : List Nat).getD ci 0
section AM
variable {α : Type}
def p1I (st : List AV) (f : Int → List AV → Option α) : Option α := match st with
  | .inl x :: r => f x r
  | _ => none
def p2I (st : List AV) (f : Int → Int → List AV → Option α) : Option α := match st with
  | .inl y :: .inl x :: r => f x y r
  | _ => none
def p2L (st : List AV) (f : Int → Int → List AV → Option α) : Option α := match st with
  | .inr (.inl y) :: .inr (.inl x) :: r => f x y r
  | _ => none
def p1R (st : List AV) (f : Nat → List AV → Option α) : Option α := match st with
  | .inr (.inr (.inl (c + 2))) :: r => f c r
  | _ => none
def p2IR (st : List AV) (f : Int → Nat → List AV → Option α) : Option α := match st with
  | .inl j :: .inr (.inr (.inl (c + 1))) :: r => f j c r
  | _ => none
def p3 (st : List AV) (f : AV → Int → Nat → List AV → Option α) : Option α := match st with
  | v :: .inl j :: .inr (.inr (.inl (c + 2))) :: r => f v j c r
  | _ => none
def gI (ls : List AV) (i : Nat) (f : Int → Option α) : Option α := match ls[i]? with
  | some (.inl x) => f x
  | _ => none
def gL (ls : List AV) (i : Nat) (f : Int → Option α) : Option α := match ls[i]? with
  | some (.inr (.inl x)) => f x
  | _ => none
def gR (ls : List AV) (i : Nat) (f : Nat → Option α) : Option α := match ls[i]? with
  | some (.inr (.inr (.inl (r + 1)))) => f (r + 1)
  | _ => none
def oI (v : AV) (f : Int → Option α) : Option α := match v with
  | .inl x => f x
  | _ => none
def oR (v : AV) (f : Nat → Option α) : Option α := match v with
  | .inr (.inr (.inl r)) => f r
  | _ => none
def sto1 (ls : List AV) (i : Nat) (v : AV) (f : List AV → Option α) : Option α := if i < ls.length ∧ cat2 (ls.getD (i - 1) vU) = false then f (ls.set i v) else none
def sto2 (ls : List AV) (i : Nat) (v : AV) (f : List AV → Option α) : Option α := if i + 1 < ls.length ∧ cat2 (ls.getD (i - 1) vU) = false ∧ cat2 (ls.getD (i + 1) vU) = false then f ((ls.set i v).set (i + 1) vU) else none
def a1 (a : List Nat) (f : Nat → Option α) : Option α := match a with
  | x :: _ => f x
  | _ => none
def a2 (a : List Nat) (f : Nat → Nat → Option α) : Option α := match a with
  | x :: y :: _ => f x y
  | _ => none
end AM
abbrev Rs : Type := Option (Nat × List AV × List AV × Sg)
def cnd (c : Jvm.ClassFile.Cond) (x y : Int) : Bool := match c with
  | .eq => decide (x = y)
  | .ne => decide (x ≠ y)
  | .lt => decide (x < y)
  | .ge => decide (y ≤ x)
  | .gt => decide (y < x)
  | .le => decide (x ≤ y)
def lks (ps : List (Int × Int)) (a : Int) : Nat := match ps with
  | [] => 0
  | q :: r => if a = q.1 then 1 else match lks r a with
    | 0 => 0
    | k + 1 => k + 2
def fty : List (List Nat) := [[2, 2, 0, 0, 0, 0, 0, 0, 0, 0, 0, 0, 0, 0, 0, 0, 0, 0], [2, 0, 0, 0, 0, 0, 0, 2, 2, 0, 0, 0, 0], [2, 2, 2], [2, 2, 2, 2, 2, 2, 0, 0, 0, 0, 0, 0, 0, 0, 0, 0, 0, 1], [2, 2, 2, 1, 1, 2, 1, 0, 0, 0, 0, 2, 0, 1, 2], [0, 2, 2, 2, 0, 0, 0, 0, 0, 0, 0], [1, 0, 0, 2], [0, 0, 2, 2, 2], [2, 2, 2, 2, 2, 2, 2, 1, 0, 0], [0, 2, 2, 2, 2, 2, 2, 2, 2, 0, 1, 2, 2, 2, 2, 2, 2, 2, 2, 0, 0, 0, 0, 0, 0, 0, 1, 0, 2, 2, 0, 0, 0, 0, 0, 2, 2, 2, 2, 2, 2, 2, 2, 2, 2, 2, 2, 2, 2, 0, 0, 0, 2, 2, 0, 0, 0, 0, 0, 2, 2, 2, 2, 2, 0]]
def ftk (ci k : Nat) : Nat := (fty.getD ci []).getD k 0
/-- one instruction that is no call and no return: 0 goes on, j + 1 goes to block j -/
def stp (sx : Int → Int) (L : Nat) (e : En) (ls st : List AV) (σ : Sg) : Rs :=
  match e.2.2.1 with
  | .iconst n => some (0, ls, vI n :: st, σ)
  | .bipush n => some (0, ls, vI n :: st, σ)
  | .sipush n => some (0, ls, vI n :: st, σ)
  | .ldc_w _ => a2 e.2.2.2 fun a b => some (0, ls, vI ((a : Int) - b) :: st, σ)
  | .ldc2_w _ => a1 e.2.2.2 fun a => some (0, ls, vL a :: st, σ)
  | .iload i => gI ls i fun x => some (0, ls, vI x :: st, σ)
  | .iload_n k => gI ls k.val fun x => some (0, ls, vI x :: st, σ)
  | .lload_n k => gL ls k.val fun x => some (0, ls, vL x :: st, σ)
  | .aload i => gR ls i fun x => some (0, ls, vR x :: st, σ)
  | .aload_n k => gR ls k.val fun x => some (0, ls, vR x :: st, σ)
  | .istore i => p1I st fun x r => sto1 ls i (vI x) fun ls' => some (0, ls', r, σ)
  | .istore_n k => p1I st fun x r => sto1 ls k.val (vI x) fun ls' => some (0, ls', r, σ)
  | .lstore_n k => match st with
    | .inr (.inl x) :: r => sto2 ls k.val (vL x) fun ls' => some (0, ls', r, σ)
    | _ => none
  | .astore i => p1R st fun x r => sto1 ls i (vR (x + 2)) fun ls' => some (0, ls', r, σ)
  | .astore_n k => p1R st fun x r => sto1 ls k.val (vR (x + 2)) fun ls' => some (0, ls', r, σ)
  | .iinc i n => gI ls i fun x => if inR (x + n) then sto1 ls i (vI (x + n)) fun ls' => some (0, ls', st, σ) else none
  | .iadd => p2I st fun x y r => if inR (x + y) then some (0, ls, vI (x + y) :: r, σ) else none
  | .isub => p2I st fun x y r => if inR (x - y) then some (0, ls, vI (x - y) :: r, σ) else none
  | .imul => p2I st fun x y r => if inR (x * y) then some (0, ls, vI (x * y) :: r, σ) else none
  | .idiv => p2I st fun x y r => if 0 ≤ x ∧ 0 < y then some (0, ls, vI (x / y) :: r, σ) else none
  | .irem => p2I st fun x y r => if 0 ≤ x ∧ 0 < y then some (0, ls, vI (x % y) :: r, σ) else none
  | .ineg => p1I st fun x r => if inR (-x) then some (0, ls, vI (-x) :: r, σ) else none
  | .iand => p2I st fun x y r => some (0, ls, vI (iAnd x y) :: r, σ)
  | .ior => p2I st fun x y r => some (0, ls, vI (iOr x y) :: r, σ)
  | .ixor => p2I st fun x y r => some (0, ls, vI (iXor x y) :: r, σ)
  | .ishl => p2I st fun x y r => if 0 ≤ x ∧ 0 ≤ y ∧ y ≤ 30 ∧ x * 2 ^ y.toNat ≤ 2147483647 then some (0, ls, vI (x * 2 ^ y.toNat) :: r, σ) else none
  | .ishr => p2I st fun x y r => if 0 ≤ x ∧ 0 ≤ y ∧ y ≤ 30 then some (0, ls, vI (x / 2 ^ y.toNat) :: r, σ) else none
  | .iushr => p2I st fun x y r => if 0 ≤ x ∧ 0 ≤ y ∧ y ≤ 30 then some (0, ls, vI (x / 2 ^ y.toNat) :: r, σ) else none
  | .i2l => p1I st fun x r => some (0, ls, vL x :: r, σ)
  | .i2b => p1I st fun x r => some (0, ls, vI (i2B x) :: r, σ)
  | .i2s => p1I st fun x r => some (0, ls, vI (i2S x) :: r, σ)
  | .ladd => p2L st fun x y r => some (0, ls, vL (lAdd x y) :: r, σ)
  | .lmul => p2L st fun x y r => some (0, ls, vL (lMul x y) :: r, σ)
  | .lcmp => p2L st fun x y r => some (0, ls, vI (if x < y then -1 else if x = y then 0 else 1) :: r, σ)
  | .dup => match st with
    | v :: r => if cat2 v = false then some (0, ls, v :: v :: r, σ) else none
    | _ => none
  | .dup2 => match st with
    | v :: w :: r => if cat2 v = false ∧ cat2 w = false then some (0, ls, v :: w :: v :: w :: r, σ) else none
    | _ => none
  | .goto _ => a1 e.2.2.2 fun j => some (j + 1, ls, st, σ)
  | .ifCond c _ => p1I st fun x r => a1 e.2.2.2 fun j => some (if cnd c x 0 = true then j + 1 else 0, ls, r, σ)
  | .if_icmp c _ => p2I st fun x y r => a1 e.2.2.2 fun j => some (if cnd c x y = true then j + 1 else 0, ls, r, σ)
  | .tableswitch _ lo hi _ => p1I st fun x r => some ((if lo ≤ x ∧ x ≤ hi then e.2.2.2.getD ((x - lo).toNat + 1) 0 else e.2.2.2.getD 0 0) + 1, ls, r, σ)
  | .lookupswitch _ ps => p1I st fun x r => some (e.2.2.2.getD (lks ps.toList x) 0 + 1, ls, r, σ)
  | .getfield _ => p1R st fun c r => a2 e.2.2.2 fun ci k => match σ.1[c]? with
    | some (kd, _) => if kd = ci ∧ ci < 10 ∧ k < cnN ci then some (0, ls, (if ftk ci k = 2 then vR (σ.2.1 c k) else vI (σ.2.2 c k)) :: r, σ) else none
    | none => none
  | .putfield _ => match st with
    | v :: .inr (.inr (.inl (c + 2))) :: r => a2 e.2.2.2 fun ci k => match σ.1[c]? with
      | some (kd, _) => if kd = ci ∧ ci < 10 ∧ k < cnN ci then
          (if ftk ci k = 2 then oR v fun x => some (0, ls, r, (σ.1, rset σ.2.1 c k x, σ.2.2))
            else oI v fun x => if ftk ci k = 0 ∨ x = 0 ∨ x = 1 then some (0, ls, r, (σ.1, σ.2.1, mset σ.2.2 c k x)) else none) else none
      | none => none
    | _ => none
  | .iaload => p2IR st fun j c r => match c with
    | 0 => if 0 ≤ j ∧ j < L then some (0, ls, vI (sx j) :: r, σ) else none
    | c + 1 => match σ.1[c]? with
      | some (kd, n) => if kd = 10 ∧ 0 ≤ j ∧ j < n then some (0, ls, vI (σ.2.2 c j) :: r, σ) else none
      | none => none
  | .baload => p2IR st fun j c r => match c with
    | 0 => none
    | c + 1 => match σ.1[c]? with
      | some (kd, n) => if kd = 11 ∧ 0 ≤ j ∧ j < n then some (0, ls, vI (σ.2.2 c j) :: r, σ) else none
      | none => none
  | .aaload => p2IR st fun j c r => match c with
    | 0 => none
    | c + 1 => match σ.1[c]? with
      | some (kd, n) => if 12 ≤ kd ∧ kd ≤ 14 ∧ 0 ≤ j ∧ j < n then some (0, ls, vR (σ.2.1 c j) :: r, σ) else none
      | none => none
  | .iastore => p3 st fun v j c r => oI v fun x => match σ.1[c]? with
    | some (kd, n) => if kd = 10 ∧ 0 ≤ j ∧ j < n then some (0, ls, r, (σ.1, σ.2.1, mset σ.2.2 c j x)) else none
    | none => none
  | .bastore => p3 st fun v j c r => oI v fun x => match σ.1[c]? with
    | some (kd, n) => if kd = 11 ∧ 0 ≤ j ∧ j < n ∧ (x = 0 ∨ x = 1) then some (0, ls, r, (σ.1, σ.2.1, mset σ.2.2 c j x)) else none
    | none => none
  | .aastore => p3 st fun v j c r => oR v fun x => match x with
    | d + 2 => match σ.1[c]?, σ.1[d]? with
      | some (kd, n), some (kv, _) => if 12 ≤ kd ∧ kd ≤ 14 ∧ kv = ([0, 1, 6] : List Nat).getD (kd - 12) 0 ∧ 0 ≤ j ∧ j < n then some (0, ls, r, (σ.1, rset σ.2.1 c j x, σ.2.2)) else none
      | _, _ => none
    | _ => none
  | .arraylength => match st with
    | .inr (.inr (.inl 1)) :: r => some (0, ls, vI L :: r, σ)
    | .inr (.inr (.inl (c + 2))) :: r => match σ.1[c]? with
      | some (kd, n) => if 10 ≤ kd ∧ kd ≤ 14 then some (0, ls, vI n :: r, σ) else none
      | none => none
    | _ => none
  | .new _ => a1 e.2.2.2 fun ci => if ci < 10 then some (0, ls, vR (σ.1.length + 2) :: st, (σ.1 ++ [(ci, cnN ci)], rclr σ.2.1 σ.1.length, mclr σ.2.2 σ.1.length)) else none
  | .newarray t => p1I st fun x r => if 0 ≤ x ∧ x ≤ 100000 ∧ (t = .int ∨ t = .boolean) then some (0, ls, vR (σ.1.length + 2) :: r, (σ.1 ++ [(if t = .int then 10 else 11, x.toNat)], rclr σ.2.1 σ.1.length, mclr σ.2.2 σ.1.length)) else none
  | .anewarray _ => p1I st fun x r => a1 e.2.2.2 fun kd => if 0 ≤ x ∧ x ≤ 100000 ∧ 12 ≤ kd ∧ kd ≤ 14 then some (0, ls, vR (σ.1.length + 2) :: r, (σ.1 ++ [(kd, x.toNat)], rclr σ.2.1 σ.1.length, mclr σ.2.2 σ.1.length)) else none
  | .invokestatic _ => a1 e.2.2.2 fun h => if h = 1000 then (match st with
    | [.inl n, .inl dp, .inr (.inr (.inl (d + 2))), .inl sp, .inr (.inr (.inl (c + 2)))] => match σ.1[c]?, σ.1[d]? with
      | some (kc, nc), some (kd, nd) => if kc = 10 ∧ kd = 10 ∧ 0 ≤ n ∧ 0 ≤ dp ∧ 0 ≤ sp ∧ sp + n ≤ nc ∧ dp + n ≤ nd then some (0, ls, [], (σ.1, σ.2.1, mcpy σ.2.2 c sp d dp n)) else none
      | _, _ => none
    | _ => none) else if h = 1002 then p2I st fun x y r => if catS r ≤ 8 then some (0, ls, vI (max x y) :: r, σ) else none
      else if h = 1003 then p2I st fun x y r => if catS r ≤ 8 then some (0, ls, vI (min x y) :: r, σ) else none else none
  | .invokespecial _ => a1 e.2.2.2 fun h => if h = 1001 then p1R st fun _ r => if catS r ≤ 8 then some (0, ls, r, σ) else none else none
  | _ => none
end
section
def bk_0 : List Bk := [([(0, 1, .aload_n 0, []), (1, 3, .invokespecial 3, [1001, 376]), (4, 1, .aload_n 0, []), (5, 2, .bipush 120, []), (7, 2, .newarray .int, []), (9, 3, .putfield 9, [0, 1, 379]), (12, 1, .aload_n 0, []), (13, 1, .iconst (-1), []), (14, 3, .putfield 15, [0, 8, 390]), (17, 1, .aload_n 0, []), (18, 1, .aload_n 1, []), (19, 3, .putfield 19, [0, 0, 377]), (22, 1, .return_, [])], 0)]
def bk_1 : List Bk := [([(0, 1, .aload_n 0, []), (1, 1, .iload_n 1, []), (2, 3, .putfield 23, [0, 2, 380]), (5, 1, .aload_n 0, []), (6, 1, .iload_n 2, []), (7, 3, .putfield 26, [0, 3, 381]), (10, 1, .aload_n 0, []), (11, 1, .iconst (-1), []), (12, 3, .putfield 29, [0, 4, 383]), (15, 1, .aload_n 0, []), (16, 1, .iconst 0, []), (17, 3, .putfield 32, [0, 5, 385]), (20, 1, .aload_n 0, []), (21, 1, .iconst 0, []), (22, 3, .putfield 35, [0, 6, 387]), (25, 1, .aload_n 0, []), (26, 1, .iconst 0, []), (27, 3, .putfield 38, [0, 7, 389]), (30, 1, .aload_n 0, []), (31, 1, .iconst (-1), []), (32, 3, .putfield 15, [0, 8, 390]), (35, 1, .aload_n 0, []), (36, 1, .iconst 0, []), (37, 3, .putfield 41, [0, 12, 397]), (40, 1, .aload_n 0, []), (41, 1, .iconst (-1), []), (42, 3, .putfield 44, [0, 16, 403]), (45, 1, .aload_n 0, []), (46, 1, .iconst 0, []), (47, 3, .putfield 47, [0, 17, 405]), (50, 1, .return_, [])], 0)]
def bk_2 : List Bk := [([(0, 1, .aload_n 0, []), (1, 3, .getfield 23, [0, 2, 380]), (4, 1, .iload_n 1, []), (5, 1, .aload_n 0, []), (6, 3, .getfield 19, [0, 0, 377]), (9, 3, .getfield 50, [1, 4, 274]), (12, 1, .imul, []), (13, 1, .iadd, []), (14, 1, .ireturn, [])], 0)]
def bk_3 : List Bk := [([(0, 1, .aload_n 0, []), (1, 3, .getfield 23, [0, 2, 380]), (4, 1, .iload_n 1, []), (5, 1, .aload_n 0, []), (6, 3, .getfield 19, [0, 0, 377]), (9, 3, .getfield 50, [1, 4, 274]), (12, 1, .imul, []), (13, 1, .iadd, []), (14, 1, .aload_n 0, []), (15, 3, .getfield 19, [0, 0, 377]), (18, 3, .getfield 55, [1, 5, 279]), (21, 1, .iadd, []), (22, 1, .ireturn, [])], 0)]
def bk_4 : List Bk := [([(0, 1, .iload_n 1, []), (1, 1, .aload_n 0, []), (2, 1, .aload_n 0, []), (3, 3, .getfield 35, [0, 6, 387]), (6, 3, .invokevirtual 58, [2, 756, 1]), (9, 3, .if_icmp .ne 39, [1]), (12, 1, .aload_n 0, []), (13, 3, .getfield 35, [0, 6, 387]), (16, 3, .ifCond .lt 32, [1]), (19, 1, .aload_n 0, []), (20, 3, .getfield 35, [0, 6, 387]), (23, 2, .bipush 120, []), (25, 3, .if_icmp .ge 23, [1]), (28, 1, .aload_n 0, []), (29, 3, .getfield 9, [0, 1, 379]), (32, 1, .aload_n 0, []), (33, 3, .getfield 35, [0, 6, 387]), (36, 1, .iconst (-1), []), (37, 1, .iastore, []), (38, 1, .aload_n 0, []), (39, 1, .dup, []), (40, 3, .getfield 35, [0, 6, 387]), (43, 1, .iconst 1, []), (44, 1, .iadd, []), (45, 3, .putfield 35, [0, 6, 387])], 1),
 ([(48, 1, .aload_n 0, []), (49, 3, .getfield 15, [0, 8, 390]), (52, 1, .iconst (-1), []), (53, 3, .if_icmp .ne 54, [2]), (56, 1, .aload_n 0, []), (57, 3, .getfield 38, [0, 7, 389]), (60, 1, .aload_n 0, []), (61, 3, .getfield 35, [0, 6, 387]), (64, 3, .if_icmp .ge 43, [2]), (67, 1, .aload_n 0, []), (68, 1, .aload_n 0, []), (69, 3, .getfield 38, [0, 7, 389]), (72, 3, .putfield 15, [0, 8, 390]), (75, 1, .aload_n 0, []), (76, 1, .dup, []), (77, 3, .getfield 38, [0, 7, 389]), (80, 1, .iconst 1, []), (81, 1, .iadd, []), (82, 3, .putfield 38, [0, 7, 389]), (85, 1, .aload_n 0, []), (86, 1, .aload_n 0, []), (87, 1, .aload_n 0, []), (88, 3, .getfield 15, [0, 8, 390]), (91, 3, .invokevirtual 62, [3, 760, 1]), (94, 3, .putfield 65, [0, 9, 392]), (97, 1, .aload_n 0, []), (98, 1, .iconst 0, []), (99, 3, .putfield 66, [0, 10, 394]), (102, 1, .aload_n 0, []), (103, 1, .iconst 0, []), (104, 3, .putfield 69, [0, 11, 396])], 2),
 ([(107, 1, .return_, [])], 0)]
def bk_5 : List Bk := [([(0, 1, .iload_n 1, []), (1, 3, .ifCond .ne 15, [1]), (4, 1, .aload_n 0, []), (5, 1, .aload_n 0, []), (6, 3, .getfield 26, [0, 3, 381]), (9, 1, .ineg, []), (10, 3, .putfield 72, [0, 15, 401]), (13, 3, .goto 23, [4])], 0),
 ([(16, 1, .aload_n 0, []), (17, 1, .iload_n 1, []), (18, 1, .iconst 1, []), (19, 3, .if_icmp .ne 10, [2]), (22, 1, .aload_n 0, []), (23, 3, .getfield 65, [0, 9, 392]), (26, 3, .goto 7, [3])], 0),
 ([(29, 1, .aload_n 0, []), (30, 3, .getfield 44, [0, 16, 403])], 3),
 ([(33, 3, .putfield 72, [0, 15, 401])], 4),
 ([(36, 1, .return_, [])], 0)]
def bk_6 : List Bk := [([(0, 1, .aload_n 0, []), (1, 1, .dup, []), (2, 3, .getfield 69, [0, 11, 396]), (5, 1, .iconst 1, []), (6, 1, .iadd, []), (7, 3, .putfield 69, [0, 11, 396]), (10, 1, .aload_n 0, []), (11, 3, .getfield 19, [0, 0, 377]), (14, 1, .aload_n 0, []), (15, 3, .getfield 66, [0, 10, 394]), (18, 3, .invokevirtual 75, [26, 830, 1]), (21, 1, .istore_n 1, []), (22, 1, .aload_n 0, []), (23, 3, .getfield 66, [0, 10, 394]), (26, 1, .aload_n 0, []), (27, 3, .getfield 29, [0, 4, 383]), (30, 3, .if_icmp .ne 10, [1]), (33, 1, .iload_n 1, []), (34, 1, .aload_n 0, []), (35, 3, .getfield 32, [0, 5, 385]), (38, 1, .iadd, []), (39, 1, .istore_n 1, [])], 1),
 ([(40, 1, .aload_n 0, []), (41, 3, .getfield 69, [0, 11, 396]), (44, 1, .iload_n 1, []), (45, 3, .if_icmp .ge 5, [2]), (48, 1, .iconst 0, []), (49, 1, .ireturn, [])], 0),
 ([(50, 1, .aload_n 0, []), (51, 1, .iconst 0, []), (52, 3, .putfield 69, [0, 11, 396]), (55, 1, .aload_n 0, []), (56, 1, .dup, []), (57, 3, .getfield 66, [0, 10, 394]), (60, 1, .iconst 1, []), (61, 1, .iadd, []), (62, 3, .putfield 66, [0, 10, 394]), (65, 1, .aload_n 0, []), (66, 3, .getfield 66, [0, 10, 394]), (69, 1, .istore_n 2, [])], 3),
 ([(70, 1, .iload_n 2, []), (71, 2, .bipush 20, []), (73, 3, .if_icmp .ge 49, [4]), (76, 1, .aload_n 0, []), (77, 3, .getfield 19, [0, 0, 377]), (80, 1, .iload_n 2, []), (81, 3, .invokevirtual 78, [25, 831, 1]), (84, 1, .iconst 3, []), (85, 3, .if_icmp .ne 37, [4]), (88, 1, .aload_n 0, []), (89, 1, .dup, []), (90, 3, .getfield 41, [0, 12, 397]), (93, 1, .iconst 1, []), (94, 1, .aload_n 0, []), (95, 3, .getfield 19, [0, 0, 377]), (98, 1, .iload_n 2, []), (99, 3, .invokevirtual 75, [26, 830, 1]), (102, 1, .ishl, []), (103, 1, .iconst (-1), []), (104, 1, .ixor, []), (105, 1, .iand, []), (106, 3, .putfield 41, [0, 12, 397]), (109, 1, .aload_n 0, []), (110, 1, .iload_n 2, []), (111, 1, .iconst 1, []), (112, 1, .iadd, []), (113, 3, .putfield 66, [0, 10, 394]), (116, 3, .iinc 2 1, []), (119, 3, .goto (-49), [3])], 0),
 ([(122, 1, .aload_n 0, []), (123, 3, .getfield 66, [0, 10, 394]), (126, 1, .aload_n 0, []), (127, 3, .getfield 19, [0, 0, 377]), (130, 3, .getfield 81, [1, 9, 288]), (133, 3, .if_icmp .lt 7, [5]), (136, 1, .iconst 1, []), (137, 3, .goto 4, [6])], 0),
 ([(140, 1, .iconst 0, [])], 6),
 ([(141, 1, .ireturn, [])], 0)]
def bk_7 : List Bk := [([(0, 1, .aload_n 0, []), (1, 3, .getfield 15, [0, 8, 390]), (4, 3, .ifCond .lt 22, [1]), (7, 1, .aload_n 0, []), (8, 3, .getfield 15, [0, 8, 390]), (11, 2, .bipush 120, []), (13, 3, .if_icmp .ge 13, [1]), (16, 1, .aload_n 0, []), (17, 3, .getfield 9, [0, 1, 379]), (20, 1, .aload_n 0, []), (21, 3, .getfield 15, [0, 8, 390]), (24, 1, .iload_n 1, []), (25, 1, .iastore, [])], 1),
 ([(26, 1, .aload_n 0, []), (27, 1, .iconst (-1), []), (28, 3, .putfield 15, [0, 8, 390]), (31, 1, .aload_n 0, []), (32, 1, .iconst 0, []), (33, 3, .putfield 41, [0, 12, 397]), (36, 1, .return_, [])], 0)]
def bk_8 : List Bk := [([(0, 1, .iload_n 1, []), (1, 3, .ifCond .lt 26, [1]), (4, 1, .iload_n 1, []), (5, 1, .aload_n 0, []), (6, 3, .getfield 35, [0, 6, 387]), (9, 3, .if_icmp .ge 18, [1]), (12, 1, .iload_n 1, []), (13, 2, .bipush 120, []), (15, 3, .if_icmp .ge 12, [1]), (18, 1, .aload_n 0, []), (19, 3, .getfield 9, [0, 1, 379]), (22, 1, .iload_n 1, []), (23, 1, .iaload, []), (24, 3, .goto 4, [2])], 0),
 ([(27, 1, .iconst (-1), [])], 2),
 ([(28, 1, .ireturn, [])], 0)]
def bk_9 : List Bk := [([(0, 1, .iconst 0, []), (1, 1, .istore_n 1, []), (2, 1, .iconst 0, []), (3, 1, .istore_n 2, [])], 1),
 ([(4, 1, .iload_n 2, []), (5, 1, .aload_n 0, []), (6, 3, .getfield 35, [0, 6, 387]), (9, 3, .if_icmp .ge 21, [3]), (12, 1, .aload_n 0, []), (13, 1, .iload_n 2, []), (14, 3, .invokevirtual 84, [8, 864, 1]), (17, 1, .iconst (-1), []), (18, 3, .if_icmp .eq 6, [2]), (21, 3, .iinc 1 1, [])], 2),
 ([(24, 3, .iinc 2 1, []), (27, 3, .goto (-23), [1])], 0),
 ([(30, 1, .iload_n 1, []), (31, 1, .ireturn, [])], 0)]
def bk_10 : List Bk := [([(0, 1, .iconst 0, []), (1, 1, .istore_n 2, []), (2, 1, .iconst 0, []), (3, 1, .istore_n 3, [])], 1),
 ([(4, 1, .iload_n 3, []), (5, 1, .aload_n 0, []), (6, 3, .getfield 35, [0, 6, 387]), (9, 3, .if_icmp .ge 47, [5]), (12, 1, .aload_n 0, []), (13, 1, .iload_n 3, []), (14, 3, .invokevirtual 84, [8, 864, 1]), (17, 2, .istore 4, []), (19, 2, .iload 4, []), (21, 1, .iconst (-1), []), (22, 3, .if_icmp .ne 15, [2]), (25, 1, .aload_n 0, []), (26, 1, .iload_n 3, []), (27, 3, .invokevirtual 62, [3, 760, 1]), (30, 1, .iload_n 1, []), (31, 3, .if_icmp .gt 19, [4]), (34, 3, .goto 13, [3])], 0),
 ([(37, 2, .iload 4, []), (39, 1, .aload_n 0, []), (40, 1, .iload_n 3, []), (41, 3, .invokevirtual 62, [3, 760, 1]), (44, 3, .if_icmp .le 6, [4])], 3),
 ([(47, 3, .iinc 2 1, [])], 4),
 ([(50, 3, .iinc 3 1, []), (53, 3, .goto (-49), [1])], 0),
 ([(56, 1, .iload_n 2, []), (57, 1, .ireturn, [])], 0)]
def bk_11 : List Bk := [([(0, 1, .iconst (-1), []), (1, 1, .istore_n 1, []), (2, 1, .iconst 0, []), (3, 1, .istore_n 2, [])], 1),
 ([(4, 1, .iload_n 2, []), (5, 1, .aload_n 0, []), (6, 3, .getfield 35, [0, 6, 387]), (9, 3, .if_icmp .ge 32, [3]), (12, 1, .aload_n 0, []), (13, 1, .iload_n 2, []), (14, 3, .invokevirtual 84, [8, 864, 1]), (17, 1, .istore_n 3, []), (18, 1, .iload_n 3, []), (19, 1, .iconst (-1), []), (20, 3, .if_icmp .eq 15, [2]), (23, 1, .iload_n 1, []), (24, 1, .iload_n 3, []), (25, 1, .aload_n 0, []), (26, 1, .iload_n 2, []), (27, 3, .invokevirtual 58, [2, 756, 1]), (30, 1, .isub, []), (31, 3, .invokestatic 87, [1002, 873]), (34, 1, .istore_n 1, [])], 2),
 ([(35, 3, .iinc 2 1, []), (38, 3, .goto (-34), [1])], 0),
 ([(41, 1, .iload_n 1, []), (42, 1, .ireturn, [])], 0)]
def bk_12 : List Bk := [([(0, 1, .aload_n 0, []), (1, 3, .getfield 15, [0, 8, 390]), (4, 1, .iconst (-1), []), (5, 3, .if_icmp .ne 10, [1]), (8, 1, .aload_n 0, []), (9, 3, .getfield 38, [0, 7, 389]), (12, 3, .goto 7, [2])], 0),
 ([(15, 1, .aload_n 0, []), (16, 3, .getfield 15, [0, 8, 390])], 2),
 ([(19, 1, .istore_n 2, []), (20, 1, .iload_n 2, []), (21, 1, .aload_n 0, []), (22, 3, .getfield 35, [0, 6, 387]), (25, 3, .if_icmp .ge 16, [3]), (28, 1, .aload_n 0, []), (29, 1, .iload_n 2, []), (30, 3, .invokevirtual 62, [3, 760, 1]), (33, 1, .iload_n 1, []), (34, 3, .if_icmp .gt 7, [3]), (37, 1, .iconst 1, []), (38, 3, .goto 4, [4])], 0),
 ([(41, 1, .iconst 0, [])], 4),
 ([(42, 1, .ireturn, [])], 0)]
def bk_13 : List Bk := [([(0, 1, .aload_n 0, []), (1, 3, .invokespecial 3, [1001, 267]), (4, 1, .aload_n 0, []), (5, 2, .bipush 60, []), (7, 2, .newarray .int, []), (9, 3, .putfield 9, [1, 0, 268]), (12, 1, .aload_n 0, []), (13, 2, .bipush 20, []), (15, 2, .newarray .int, []), (17, 3, .putfield 15, [1, 7, 284]), (20, 1, .aload_n 0, []), (21, 2, .bipush 20, []), (23, 2, .newarray .int, []), (25, 3, .putfield 18, [1, 8, 285]), (28, 1, .return_, [])], 0)]
def bk_14 : List Bk := [([(0, 1, .aload_n 0, []), (1, 3, .getfield 21, [1, 1, 269]), (4, 3, .ifCond .lt 32, [1]), (7, 1, .aload_n 0, []), (8, 3, .getfield 21, [1, 1, 269]), (11, 2, .bipush 60, []), (13, 3, .if_icmp .ge 23, [1]), (16, 1, .aload_n 0, []), (17, 3, .getfield 9, [1, 0, 268]), (20, 1, .aload_n 0, []), (21, 3, .getfield 21, [1, 1, 269]), (24, 1, .iload_n 1, []), (25, 1, .iastore, []), (26, 1, .aload_n 0, []), (27, 1, .dup, []), (28, 3, .getfield 21, [1, 1, 269]), (31, 1, .iconst 1, []), (32, 1, .iadd, []), (33, 3, .putfield 21, [1, 1, 269])], 1),
 ([(36, 1, .return_, [])], 0)]
def bk_15 : List Bk := [([(0, 1, .aload_n 0, []), (1, 1, .iconst 0, []), (2, 3, .putfield 25, [1, 2, 271]), (5, 1, .aload_n 0, []), (6, 1, .iconst (-1), []), (7, 3, .putfield 28, [1, 3, 272]), (10, 1, .aload_n 0, []), (11, 3, .invokevirtual 31, [16, 613, 0]), (14, 1, .aload_n 0, []), (15, 1, .aload_n 0, []), (16, 2, .bipush 112, []), (18, 1, .iconst 1, []), (19, 2, .bipush 60, []), (21, 3, .invokevirtual 34, [20, 617, 3]), (24, 3, .putfield 38, [1, 4, 275]), (27, 1, .aload_n 0, []), (28, 2, .bipush 44, []), (30, 3, .invokevirtual 41, [19, 621, 1]), (33, 1, .aload_n 0, []), (34, 1, .aload_n 0, []), (35, 2, .bipush 100, []), (37, 1, .iconst 1, []), (38, 2, .bipush 99, []), (40, 3, .invokevirtual 34, [20, 617, 3]), (43, 3, .putfield 45, [1, 5, 278]), (46, 1, .aload_n 0, []), (47, 2, .bipush 44, []), (49, 3, .invokevirtual 41, [19, 621, 1]), (52, 1, .aload_n 0, []), (53, 1, .aload_n 0, []), (54, 2, .bipush 111, []), (56, 1, .iconst 0, []), (57, 2, .bipush 99, []), (59, 3, .invokevirtual 34, [20, 617, 3]), (62, 3, .putfield 48, [1, 6, 281]), (65, 1, .aload_n 0, []), (66, 2, .bipush 58, []), (68, 3, .invokevirtual 41, [19, 621, 1]), (71, 1, .aload_n 0, []), (72, 1, .iload_n 1, []), (73, 3, .invokevirtual 51, [21, 633, 1]), (76, 1, .iconst 1, []), (77, 1, .istore_n 2, [])], 1),
 ([(78, 1, .iload_n 2, []), (79, 2, .bipush 20, []), (81, 3, .if_icmp .ge 39, [2]), (84, 1, .aload_n 0, []), (85, 3, .getfield 28, [1, 3, 272]), (88, 1, .iconst (-1), []), (89, 3, .if_icmp .ne 31, [2]), (92, 1, .aload_n 0, []), (93, 3, .getfield 25, [1, 2, 271]), (96, 1, .aload_n 0, []), (97, 3, .getfield 21, [1, 1, 269]), (100, 3, .if_icmp .ge 20, [2]), (103, 1, .aload_n 0, []), (104, 2, .bipush 44, []), (106, 3, .invokevirtual 41, [19, 621, 1]), (109, 1, .aload_n 0, []), (110, 1, .iload_n 1, []), (111, 3, .invokevirtual 51, [21, 633, 1]), (114, 3, .iinc 2 1, []), (117, 3, .goto (-39), [1])], 0),
 ([(120, 1, .aload_n 0, []), (121, 3, .getfield 28, [1, 3, 272]), (124, 1, .iconst (-1), []), (125, 3, .if_icmp .ne 18, [3]), (128, 1, .aload_n 0, []), (129, 3, .getfield 55, [1, 10, 290]), (132, 3, .ifCond .ne 11, [3]), (135, 1, .aload_n 0, []), (136, 1, .aload_n 0, []), (137, 3, .getfield 21, [1, 1, 269]), (140, 3, .putfield 28, [1, 3, 272])], 3),
 ([(143, 1, .aload_n 0, []), (144, 3, .getfield 28, [1, 3, 272]), (147, 1, .iconst (-1), []), (148, 3, .if_icmp .eq 7, [4]), (151, 1, .aload_n 0, []), (152, 3, .invokevirtual 31, [16, 613, 0])], 4),
 ([(155, 1, .return_, [])], 0)]
def bk_16 : List Bk := [([(0, 1, .aload_n 0, []), (1, 1, .iconst 0, []), (2, 3, .putfield 58, [1, 9, 286]), (5, 1, .aload_n 0, []), (6, 1, .iconst 0, []), (7, 3, .putfield 55, [1, 10, 290]), (10, 1, .aload_n 0, []), (11, 1, .iconst 0, []), (12, 3, .putfield 61, [1, 11, 293]), (15, 1, .aload_n 0, []), (16, 1, .iconst 0, []), (17, 3, .putfield 64, [1, 12, 296]), (20, 1, .return_, [])], 0)]
def bk_17 : List Bk := [([(0, 1, .iload_n 1, []), (1, 3, .ifCond .lt 26, [1]), (4, 1, .iload_n 1, []), (5, 1, .aload_n 0, []), (6, 3, .getfield 21, [1, 1, 269]), (9, 3, .if_icmp .ge 18, [1]), (12, 1, .iload_n 1, []), (13, 2, .bipush 60, []), (15, 3, .if_icmp .ge 12, [1]), (18, 1, .aload_n 0, []), (19, 3, .getfield 9, [1, 0, 268]), (22, 1, .iload_n 1, []), (23, 1, .iaload, []), (24, 3, .goto 4, [2])], 0),
 ([(27, 1, .iconst (-1), [])], 2),
 ([(28, 1, .ireturn, [])], 0)]
def bk_18 : List Bk := [([(0, 1, .aload_n 0, []), (1, 1, .iload_n 1, []), (2, 3, .invokevirtual 67, [17, 625, 1]), (5, 1, .istore_n 2, []), (6, 1, .iload_n 2, []), (7, 2, .bipush 48, []), (9, 3, .if_icmp .lt 16, [1]), (12, 1, .iload_n 2, []), (13, 2, .bipush 57, []), (15, 3, .if_icmp .gt 10, [1]), (18, 1, .iload_n 2, []), (19, 2, .bipush 48, []), (21, 1, .isub, []), (22, 3, .goto 4, [2])], 0),
 ([(25, 1, .iconst (-1), [])], 2),
 ([(26, 1, .ireturn, [])], 0)]
def bk_19 : List Bk := [([(0, 1, .aload_n 0, []), (1, 3, .getfield 28, [1, 3, 272]), (4, 1, .iconst (-1), []), (5, 3, .if_icmp .eq 4, [1]), (8, 1, .return_, [])], 0),
 ([(9, 1, .aload_n 0, []), (10, 1, .aload_n 0, []), (11, 3, .getfield 25, [1, 2, 271]), (14, 3, .invokevirtual 67, [17, 625, 1]), (17, 1, .iload_n 1, []), (18, 3, .if_icmp .ne 16, [2]), (21, 1, .aload_n 0, []), (22, 1, .dup, []), (23, 3, .getfield 25, [1, 2, 271]), (26, 1, .iconst 1, []), (27, 1, .iadd, []), (28, 3, .putfield 25, [1, 2, 271]), (31, 3, .goto 11, [3])], 0),
 ([(34, 1, .aload_n 0, []), (35, 1, .aload_n 0, []), (36, 3, .getfield 25, [1, 2, 271]), (39, 3, .putfield 28, [1, 3, 272])], 3),
 ([(42, 1, .return_, [])], 0)]
def bk_20 : List Bk := [([(0, 1, .aload_n 0, []), (1, 1, .iload_n 1, []), (2, 3, .invokevirtual 41, [19, 621, 1]), (5, 1, .aload_n 0, []), (6, 3, .getfield 28, [1, 3, 272]), (9, 1, .iconst (-1), []), (10, 3, .if_icmp .eq 5, [1]), (13, 1, .iconst 0, []), (14, 1, .ireturn, [])], 0),
 ([(15, 1, .aload_n 0, []), (16, 3, .getfield 25, [1, 2, 271]), (19, 2, .istore 4, []), (21, 1, .iconst 0, []), (22, 2, .istore 5, []), (24, 1, .iconst 0, []), (25, 2, .istore 6, [])], 2),
 ([(27, 2, .iload 6, []), (29, 1, .iconst 2, []), (30, 3, .if_icmp .ge 47, [3]), (33, 1, .aload_n 0, []), (34, 1, .aload_n 0, []), (35, 3, .getfield 25, [1, 2, 271]), (38, 3, .invokevirtual 71, [18, 629, 1]), (41, 1, .iconst (-1), []), (42, 3, .if_icmp .eq 35, [3]), (45, 2, .iload 5, []), (47, 2, .bipush 10, []), (49, 1, .imul, []), (50, 1, .aload_n 0, []), (51, 1, .aload_n 0, []), (52, 3, .getfield 25, [1, 2, 271]), (55, 3, .invokevirtual 71, [18, 629, 1]), (58, 1, .iadd, []), (59, 2, .istore 5, []), (61, 1, .aload_n 0, []), (62, 1, .dup, []), (63, 3, .getfield 25, [1, 2, 271]), (66, 1, .iconst 1, []), (67, 1, .iadd, []), (68, 3, .putfield 25, [1, 2, 271]), (71, 3, .iinc 6 1, []), (74, 3, .goto (-47), [2])], 0),
 ([(77, 1, .aload_n 0, []), (78, 3, .getfield 25, [1, 2, 271]), (81, 2, .iload 4, []), (83, 3, .if_icmp .eq 15, [4]), (86, 2, .iload 5, []), (88, 1, .iload_n 2, []), (89, 3, .if_icmp .lt 9, [4]), (92, 2, .iload 5, []), (94, 1, .iload_n 3, []), (95, 3, .if_icmp .le 9, [5])], 4),
 ([(98, 1, .aload_n 0, []), (99, 2, .iload 4, []), (101, 3, .putfield 28, [1, 3, 272])], 5),
 ([(104, 2, .iload 5, []), (106, 1, .ireturn, [])], 0)]
def bk_21 : List Bk := [([(0, 1, .aload_n 0, []), (1, 3, .getfield 28, [1, 3, 272]), (4, 1, .iconst (-1), []), (5, 3, .if_icmp .eq 4, [1]), (8, 1, .return_, [])], 0),
 ([(9, 1, .aload_n 0, []), (10, 1, .aload_n 0, []), (11, 3, .getfield 25, [1, 2, 271]), (14, 3, .invokevirtual 67, [17, 625, 1]), (17, 3, .invokestatic 74, [22, 637, 1]), (20, 1, .istore_n 2, []), (21, 1, .iload_n 2, []), (22, 1, .iconst (-1), []), (23, 3, .if_icmp .ne 12, [2]), (26, 1, .aload_n 0, []), (27, 1, .aload_n 0, []), (28, 3, .getfield 25, [1, 2, 271]), (31, 3, .putfield 28, [1, 3, 272]), (34, 1, .return_, [])], 0),
 ([(35, 1, .aload_n 0, []), (36, 1, .aload_n 0, []), (37, 3, .getfield 25, [1, 2, 271]), (40, 1, .iconst 1, []), (41, 1, .iadd, []), (42, 3, .invokevirtual 71, [18, 629, 1]), (45, 1, .istore_n 3, []), (46, 1, .aload_n 0, []), (47, 1, .iload_n 2, []), (48, 1, .iload_n 3, []), (49, 1, .iload_n 1, []), (50, 3, .invokevirtual 77, [23, 640, 3]), (53, 3, .ifCond .ne 14, [3]), (56, 1, .aload_n 0, []), (57, 1, .aload_n 0, []), (58, 3, .getfield 25, [1, 2, 271]), (61, 1, .iconst 1, []), (62, 1, .iadd, []), (63, 3, .putfield 28, [1, 3, 272]), (66, 1, .return_, [])], 0),
 ([(67, 1, .aload_n 0, []), (68, 1, .dup, []), (69, 3, .getfield 25, [1, 2, 271]), (72, 1, .iconst 2, []), (73, 1, .iadd, []), (74, 3, .putfield 25, [1, 2, 271]), (77, 1, .aload_n 0, []), (78, 1, .iload_n 2, []), (79, 1, .iload_n 3, []), (80, 3, .invokevirtual 81, [24, 644, 2]), (83, 1, .return_, [])], 0)]
def bk_22 : List Bk := [([(0, 1, .iload_n 0, []), (1, 2, .bipush 119, []), (3, 3, .if_icmp .ne 5, [1]), (6, 1, .iconst 1, []), (7, 1, .ireturn, [])], 0),
 ([(8, 1, .iload_n 0, []), (9, 2, .bipush 116, []), (11, 3, .if_icmp .ne 5, [2]), (14, 1, .iconst 2, []), (15, 1, .ireturn, [])], 0),
 ([(16, 1, .iload_n 0, []), (17, 2, .bipush 103, []), (19, 3, .if_icmp .ne 7, [3]), (22, 1, .iconst 3, []), (23, 3, .goto 4, [4])], 0),
 ([(26, 1, .iconst (-1), [])], 4),
 ([(27, 1, .ireturn, [])], 0)]
def bk_23 : List Bk := [([(0, 1, .iload_n 1, []), (1, 1, .iconst 1, []), (2, 3, .if_icmp .ne 14, [3]), (5, 1, .iload_n 2, []), (6, 1, .iconst 1, []), (7, 3, .if_icmp .lt 7, [1]), (10, 1, .iconst 1, []), (11, 3, .goto 4, [2])], 0),
 ([(14, 1, .iconst 0, [])], 2),
 ([(15, 1, .ireturn, [])], 0),
 ([(16, 1, .iload_n 2, []), (17, 3, .ifCond .lt 8, [4]), (20, 1, .iload_n 2, []), (21, 1, .iload_n 3, []), (22, 3, .if_icmp .lt 5, [5])], 4),
 ([(25, 1, .iconst 0, []), (26, 1, .ireturn, [])], 0),
 ([(27, 1, .aload_n 0, []), (28, 3, .getfield 64, [1, 12, 296]), (31, 1, .iload_n 2, []), (32, 1, .ishr, []), (33, 1, .iconst 1, []), (34, 1, .iand, []), (35, 3, .ifCond .eq 7, [6]), (38, 1, .iconst 1, []), (39, 3, .goto 4, [7])], 0),
 ([(42, 1, .iconst 0, [])], 7),
 ([(43, 2, .istore 4, []), (45, 2, .iload 4, []), (47, 1, .iload_n 1, []), (48, 1, .iconst 3, []), (49, 3, .if_icmp .ne 7, [8]), (52, 1, .iconst 1, []), (53, 3, .goto 4, [9])], 0),
 ([(56, 1, .iconst 0, [])], 9),
 ([(57, 3, .if_icmp .ne 7, [10]), (60, 1, .iconst 1, []), (61, 3, .goto 4, [11])], 0),
 ([(64, 1, .iconst 0, [])], 11),
 ([(65, 1, .ireturn, [])], 0)]
def bk_24 : List Bk := [([(0, 1, .aload_n 0, []), (1, 3, .getfield 58, [1, 9, 286]), (4, 3, .ifCond .lt 12, [1]), (7, 1, .aload_n 0, []), (8, 3, .getfield 58, [1, 9, 286]), (11, 2, .bipush 20, []), (13, 3, .if_icmp .lt 4, [2])], 1),
 ([(16, 1, .return_, [])], 0),
 ([(17, 1, .aload_n 0, []), (18, 3, .getfield 15, [1, 7, 284]), (21, 1, .aload_n 0, []), (22, 3, .getfield 58, [1, 9, 286]), (25, 1, .iload_n 1, []), (26, 1, .iastore, []), (27, 1, .aload_n 0, []), (28, 3, .getfield 18, [1, 8, 285]), (31, 1, .aload_n 0, []), (32, 3, .getfield 58, [1, 9, 286]), (35, 1, .iload_n 2, []), (36, 1, .iastore, []), (37, 1, .aload_n 0, []), (38, 1, .dup, []), (39, 3, .getfield 58, [1, 9, 286]), (42, 1, .iconst 1, []), (43, 1, .iadd, []), (44, 3, .putfield 58, [1, 9, 286]), (47, 1, .iload_n 1, []), (48, 1, .iconst 1, []), (49, 3, .if_icmp .ne 16, [3]), (52, 1, .aload_n 0, []), (53, 1, .dup, []), (54, 3, .getfield 55, [1, 10, 290]), (57, 1, .iload_n 2, []), (58, 1, .iadd, []), (59, 3, .putfield 55, [1, 10, 290]), (62, 3, .goto 49, [5])], 0),
 ([(65, 1, .iload_n 1, []), (66, 1, .iconst 2, []), (67, 3, .if_icmp .ne 30, [4]), (70, 1, .aload_n 0, []), (71, 1, .dup, []), (72, 3, .getfield 61, [1, 11, 293]), (75, 1, .iconst 1, []), (76, 1, .iload_n 2, []), (77, 1, .ishl, []), (78, 1, .ior, []), (79, 3, .putfield 61, [1, 11, 293]), (82, 1, .aload_n 0, []), (83, 1, .dup, []), (84, 3, .getfield 64, [1, 12, 296]), (87, 1, .iconst 1, []), (88, 1, .iload_n 2, []), (89, 1, .ishl, []), (90, 1, .ior, []), (91, 3, .putfield 64, [1, 12, 296]), (94, 3, .goto 17, [5])], 0),
 ([(97, 1, .aload_n 0, []), (98, 1, .dup, []), (99, 3, .getfield 64, [1, 12, 296]), (102, 1, .iconst 1, []), (103, 1, .iload_n 2, []), (104, 1, .ishl, []), (105, 1, .iconst (-1), []), (106, 1, .ixor, []), (107, 1, .iand, []), (108, 3, .putfield 64, [1, 12, 296])], 5),
 ([(111, 1, .return_, [])], 0)]
def bk_25 : List Bk := [([(0, 1, .iload_n 1, []), (1, 3, .ifCond .lt 26, [1]), (4, 1, .iload_n 1, []), (5, 1, .aload_n 0, []), (6, 3, .getfield 58, [1, 9, 286]), (9, 3, .if_icmp .ge 18, [1]), (12, 1, .iload_n 1, []), (13, 2, .bipush 20, []), (15, 3, .if_icmp .ge 12, [1]), (18, 1, .aload_n 0, []), (19, 3, .getfield 15, [1, 7, 284]), (22, 1, .iload_n 1, []), (23, 1, .iaload, []), (24, 3, .goto 4, [2])], 0),
 ([(27, 1, .iconst (-1), [])], 2),
 ([(28, 1, .ireturn, [])], 0)]
def bk_26 : List Bk := [([(0, 1, .iload_n 1, []), (1, 3, .ifCond .lt 26, [1]), (4, 1, .iload_n 1, []), (5, 1, .aload_n 0, []), (6, 3, .getfield 58, [1, 9, 286]), (9, 3, .if_icmp .ge 18, [1]), (12, 1, .iload_n 1, []), (13, 2, .bipush 20, []), (15, 3, .if_icmp .ge 12, [1]), (18, 1, .aload_n 0, []), (19, 3, .getfield 18, [1, 8, 285]), (22, 1, .iload_n 1, []), (23, 1, .iaload, []), (24, 3, .goto 4, [2])], 0),
 ([(27, 1, .iconst 0, [])], 2),
 ([(28, 1, .ireturn, [])], 0)]
def bk_27 : List Bk := [([(0, 1, .iconst 0, []), (1, 1, .istore_n 2, []), (2, 1, .iconst 0, []), (3, 1, .istore_n 3, [])], 1),
 ([(4, 1, .iload_n 3, []), (5, 1, .aload_n 0, []), (6, 3, .getfield 58, [1, 9, 286]), (9, 3, .if_icmp .ge 40, [3]), (12, 1, .aload_n 0, []), (13, 1, .iload_n 3, []), (14, 3, .invokevirtual 85, [25, 932, 1]), (17, 1, .iconst 2, []), (18, 3, .if_icmp .ne 25, [2]), (21, 1, .iload_n 1, []), (22, 1, .aload_n 0, []), (23, 1, .iload_n 3, []), (24, 3, .invokevirtual 88, [26, 933, 1]), (27, 1, .ishr, []), (28, 1, .iconst 1, []), (29, 1, .iand, []), (30, 3, .ifCond .eq 13, [2]), (33, 1, .iload_n 2, []), (34, 1, .aload_n 0, []), (35, 1, .iload_n 3, []), (36, 3, .invokevirtual 91, [28, 934, 1]), (39, 3, .invokestatic 94, [1002, 938]), (42, 1, .istore_n 2, [])], 2),
 ([(43, 3, .iinc 3 1, []), (46, 3, .goto (-42), [1])], 0),
 ([(49, 1, .iload_n 2, []), (50, 1, .ireturn, [])], 0)]
def bk_28 : List Bk := [([(0, 1, .aload_n 0, []), (1, 1, .iload_n 1, []), (2, 3, .invokevirtual 88, [26, 933, 1]), (5, 1, .istore_n 2, []), (6, 1, .iconst 0, []), (7, 1, .istore_n 3, []), (8, 1, .iload_n 1, []), (9, 1, .iconst 1, []), (10, 1, .iadd, []), (11, 2, .istore 4, [])], 1),
 ([(13, 2, .iload 4, []), (15, 1, .aload_n 0, []), (16, 3, .getfield 58, [1, 9, 286]), (19, 3, .if_icmp .ge 50, [4]), (22, 1, .aload_n 0, []), (23, 2, .iload 4, []), (25, 3, .invokevirtual 85, [25, 932, 1]), (28, 2, .istore 5, []), (30, 2, .iload 5, []), (32, 1, .iconst 3, []), (33, 3, .if_icmp .ne 15, [2]), (36, 1, .aload_n 0, []), (37, 2, .iload 4, []), (39, 3, .invokevirtual 88, [26, 933, 1]), (42, 1, .iload_n 2, []), (43, 3, .if_icmp .ne 5, [2]), (46, 1, .iload_n 3, []), (47, 1, .ireturn, [])], 0),
 ([(48, 2, .iload 5, []), (50, 1, .iconst 1, []), (51, 3, .if_icmp .ne 12, [3]), (54, 1, .iload_n 3, []), (55, 1, .aload_n 0, []), (56, 2, .iload 4, []), (58, 3, .invokevirtual 88, [26, 933, 1]), (61, 1, .iadd, []), (62, 1, .istore_n 3, [])], 3),
 ([(63, 3, .iinc 4 1, []), (66, 3, .goto (-53), [1])], 0),
 ([(69, 1, .iload_n 3, []), (70, 1, .ireturn, [])], 0)]
def bk_29 : List Bk := [([(0, 1, .aload_n 0, []), (1, 3, .invokespecial 3, [1001, 353]), (4, 1, .aload_n 0, []), (5, 1, .aload_n 1, []), (6, 3, .putfield 9, [2, 0, 354]), (9, 1, .aload_n 0, []), (10, 1, .aload_n 2, []), (11, 3, .putfield 15, [2, 1, 355]), (14, 1, .aload_n 0, []), (15, 1, .aload_n 3, []), (16, 3, .putfield 19, [2, 2, 356]), (19, 1, .return_, [])], 0)]
def bk_30 : List Bk := [([(0, 1, .aload_n 0, []), (1, 3, .getfield 19, [2, 2, 356]), (4, 3, .getfield 23, [5, 4, 214]), (7, 3, .ifCond .ne 40, [1]), (10, 1, .aload_n 0, []), (11, 3, .getfield 19, [2, 2, 356]), (14, 3, .getfield 29, [5, 5, 218]), (17, 1, .iconst 2, []), (18, 3, .if_icmp .ne 29, [1]), (21, 1, .aload_n 0, []), (22, 3, .getfield 19, [2, 2, 356]), (25, 3, .getfield 32, [5, 6, 223]), (28, 1, .iconst 1, []), (29, 3, .if_icmp .ne 18, [1]), (32, 1, .aload_n 0, []), (33, 3, .getfield 19, [2, 2, 356]), (36, 1, .iload_n 1, []), (37, 3, .invokevirtual 35, [78, 909, 1]), (40, 3, .ifCond .eq 7, [1]), (43, 1, .iconst 1, []), (44, 3, .goto 4, [2])], 0),
 ([(47, 1, .iconst 0, [])], 2),
 ([(48, 1, .ireturn, [])], 0)]
def bk_31 : List Bk := [([(0, 1, .aload_n 0, []), (1, 3, .getfield 15, [2, 1, 355]), (4, 1, .iload_n 1, []), (5, 3, .invokestatic 39, [125, 918, 1]), (8, 3, .ifCond .eq 7, [1]), (11, 1, .iload_n 1, []), (12, 3, .goto 4, [2])], 0),
 ([(15, 1, .iconst 0, [])], 2),
 ([(16, 1, .aaload, []), (17, 1, .areturn, [])], 0)]
def bk_32 : List Bk := [([(0, 1, .aload_n 0, []), (1, 3, .getfield 9, [2, 0, 354]), (4, 3, .getfield 42, [7, 1, 174]), (7, 1, .aload_n 0, []), (8, 1, .iload_n 1, []), (9, 3, .invokevirtual 47, [31, 914, 1]), (12, 3, .getfield 51, [1, 11, 294]), (15, 1, .ior, []), (16, 1, .istore_n 2, []), (17, 1, .iconst 0, []), (18, 1, .istore_n 3, [])], 1),
 ([(19, 1, .iload_n 3, []), (20, 2, .bipush 8, []), (22, 3, .if_icmp .ge 33, [3]), (25, 1, .aload_n 0, []), (26, 3, .getfield 19, [2, 2, 356]), (29, 1, .iload_n 3, []), (30, 1, .iload_n 1, []), (31, 3, .invokevirtual 56, [82, 923, 2]), (34, 3, .ifCond .eq 15, [2]), (37, 1, .iload_n 2, []), (38, 1, .aload_n 0, []), (39, 3, .getfield 15, [2, 1, 355]), (42, 1, .iload_n 3, []), (43, 1, .aaload, []), (44, 3, .getfield 51, [1, 11, 294]), (47, 1, .ior, []), (48, 1, .istore_n 2, [])], 2),
 ([(49, 3, .iinc 3 1, []), (52, 3, .goto (-33), [1])], 0),
 ([(55, 1, .iconst 0, []), (56, 1, .istore_n 3, []), (57, 1, .iconst 0, []), (58, 2, .istore 4, [])], 4),
 ([(60, 2, .iload 4, []), (62, 2, .bipush 8, []), (64, 3, .if_icmp .ge 56, [6]), (67, 2, .iload 4, []), (69, 1, .iload_n 1, []), (70, 3, .if_icmp .eq 44, [5]), (73, 1, .aload_n 0, []), (74, 3, .getfield 19, [2, 2, 356]), (77, 2, .iload 4, []), (79, 3, .invokevirtual 35, [78, 909, 1]), (82, 3, .ifCond .eq 32, [5]), (85, 1, .aload_n 0, []), (86, 3, .getfield 19, [2, 2, 356]), (89, 2, .iload 4, []), (91, 1, .iload_n 1, []), (92, 3, .invokevirtual 56, [82, 923, 2]), (95, 3, .ifCond .ne 19, [5]), (98, 1, .iload_n 3, []), (99, 1, .aload_n 0, []), (100, 3, .getfield 15, [2, 1, 355]), (103, 2, .iload 4, []), (105, 1, .aaload, []), (106, 1, .iload_n 2, []), (107, 3, .invokevirtual 60, [27, 928, 1]), (110, 3, .invokestatic 64, [1002, 939]), (113, 1, .istore_n 3, [])], 5),
 ([(114, 3, .iinc 4 1, []), (117, 3, .goto (-57), [4])], 0),
 ([(120, 1, .iload_n 3, []), (121, 1, .ireturn, [])], 0)]
def bk_33 : List Bk := [([(0, 1, .aload_n 0, []), (1, 1, .iload_n 1, []), (2, 3, .invokevirtual 47, [31, 914, 1]), (5, 3, .getfield 70, [1, 10, 291]), (8, 1, .aload_n 0, []), (9, 1, .iload_n 1, []), (10, 3, .invokevirtual 73, [32, 919, 1]), (13, 1, .iadd, []), (14, 1, .istore_n 2, []), (15, 1, .iload_n 2, []), (16, 1, .istore_n 3, []), (17, 1, .iconst 0, []), (18, 2, .istore 4, [])], 1),
 ([(20, 2, .iload 4, []), (22, 3, .sipush 400, []), (25, 3, .if_icmp .gt 37, [3]), (28, 1, .iload_n 3, []), (29, 3, .sipush 400, []), (32, 3, .if_icmp .gt 30, [3]), (35, 1, .iload_n 2, []), (36, 1, .aload_n 0, []), (37, 1, .iload_n 1, []), (38, 1, .iload_n 3, []), (39, 3, .invokevirtual 76, [34, 940, 2]), (42, 1, .iadd, []), (43, 2, .istore 5, []), (45, 2, .iload 5, []), (47, 1, .iload_n 3, []), (48, 3, .if_icmp .ne 5, [2]), (51, 1, .iload_n 3, []), (52, 1, .ireturn, [])], 0),
 ([(53, 2, .iload 5, []), (55, 1, .istore_n 3, []), (56, 3, .iinc 4 1, []), (59, 3, .goto (-39), [1])], 0),
 ([(62, 1, .iconst (-1), []), (63, 1, .ireturn, [])], 0)]
def bk_34 : List Bk := [([(0, 1, .iconst 0, []), (1, 1, .istore_n 3, []), (2, 1, .iconst 0, []), (3, 2, .istore 4, [])], 1),
 ([(5, 2, .iload 4, []), (7, 2, .bipush 8, []), (9, 3, .if_icmp .ge 61, [3]), (12, 1, .aload_n 0, []), (13, 3, .getfield 19, [2, 2, 356]), (16, 2, .iload 4, []), (18, 1, .iload_n 1, []), (19, 3, .invokevirtual 56, [82, 923, 2]), (22, 3, .ifCond .eq 42, [2]), (25, 1, .iconst 1, []), (26, 1, .aload_n 0, []), (27, 3, .getfield 15, [2, 1, 355]), (30, 2, .iload 4, []), (32, 1, .aaload, []), (33, 3, .getfield 79, [1, 4, 276]), (36, 3, .invokestatic 64, [1002, 939]), (39, 2, .istore 5, []), (41, 1, .iload_n 3, []), (42, 1, .aload_n 0, []), (43, 3, .getfield 15, [2, 1, 355]), (46, 2, .iload 4, []), (48, 1, .aaload, []), (49, 3, .getfield 70, [1, 10, 291]), (52, 1, .iload_n 2, []), (53, 2, .iload 5, []), (55, 1, .iadd, []), (56, 1, .iconst 1, []), (57, 1, .isub, []), (58, 2, .iload 5, []), (60, 1, .idiv, []), (61, 1, .imul, []), (62, 1, .iadd, []), (63, 1, .istore_n 3, [])], 2),
 ([(64, 3, .iinc 4 1, []), (67, 3, .goto (-62), [1])], 0),
 ([(70, 1, .iload_n 3, []), (71, 1, .ireturn, [])], 0)]
def bk_35 : List Bk := [([(0, 1, .aload_n 0, []), (1, 3, .invokespecial 3, [1001, 369]), (4, 1, .aload_n 0, []), (5, 2, .bipush 8, []), (7, 3, .anewarray 9, [12, 370]), (10, 3, .putfield 11, [3, 1, 445]), (13, 1, .aload_n 0, []), (14, 2, .bipush 120, []), (16, 2, .newarray .int, []), (18, 3, .putfield 17, [3, 2, 448]), (21, 1, .aload_n 0, []), (22, 2, .bipush 120, []), (24, 2, .newarray .int, []), (26, 3, .putfield 21, [3, 3, 450]), (29, 1, .aload_n 0, []), (30, 2, .bipush 120, []), (32, 2, .newarray .int, []), (34, 3, .putfield 24, [3, 4, 452]), (37, 1, .aload_n 0, []), (38, 3, .sipush 360, []), (41, 2, .newarray .int, []), (43, 3, .putfield 27, [3, 5, 453]), (46, 1, .aload_n 0, []), (47, 1, .iconst (-1), []), (48, 3, .putfield 30, [3, 15, 463]), (51, 1, .aload_n 0, []), (52, 1, .aload_n 1, []), (53, 3, .putfield 34, [3, 0, 444]), (56, 1, .iconst 0, []), (57, 1, .istore_n 3, [])], 1),
 ([(58, 1, .iload_n 3, []), (59, 2, .bipush 8, []), (61, 3, .if_icmp .ge 31, [2]), (64, 1, .iload_n 3, []), (65, 1, .aload_n 2, []), (66, 1, .arraylength, []), (67, 3, .if_icmp .ge 25, [2]), (70, 1, .aload_n 0, []), (71, 3, .getfield 11, [3, 1, 445]), (74, 1, .iload_n 3, []), (75, 3, .new 9, [0, 370]), (78, 1, .dup, []), (79, 1, .aload_n 2, []), (80, 1, .iload_n 3, []), (81, 1, .aaload, []), (82, 3, .invokespecial 38, [0, 373, 1]), (85, 1, .aastore, []), (86, 3, .iinc 3 1, []), (89, 3, .goto (-31), [1])], 0),
 ([(92, 1, .return_, [])], 0)]
def bk_36 : List Bk := [([(0, 1, .aload_n 0, []), (1, 1, .aload_n 1, []), (2, 1, .iload_n 2, []), (3, 3, .invokevirtual 41, [37, 733, 2]), (6, 1, .iconst 0, []), (7, 2, .istore 4, [])], 1),
 ([(9, 2, .iload 4, []), (11, 1, .aload_n 0, []), (12, 3, .getfield 45, [3, 10, 458]), (15, 3, .if_icmp .ge 45, [3]), (18, 1, .aload_n 0, []), (19, 2, .iload 4, []), (21, 3, .invokevirtual 48, [39, 748, 1]), (24, 1, .aload_n 0, []), (25, 2, .iload 4, []), (27, 3, .invokevirtual 52, [40, 768, 1]), (30, 1, .aload_n 0, []), (31, 2, .iload 4, []), (33, 3, .invokevirtual 55, [47, 813, 1]), (36, 1, .aload_n 0, []), (37, 2, .iload 4, []), (39, 3, .invokevirtual 58, [49, 822, 1]), (42, 1, .iload_n 3, []), (43, 3, .ifCond .eq 11, [2]), (46, 1, .aload_n 0, []), (47, 3, .getfield 61, [3, 17, 468]), (50, 3, .ifCond .eq 4, [2]), (53, 1, .return_, [])], 0),
 ([(54, 3, .iinc 4 1, []), (57, 3, .goto (-48), [1])], 0),
 ([(60, 1, .iconst 0, []), (61, 2, .istore 4, [])], 4),
 ([(63, 2, .iload 4, []), (65, 2, .bipush 8, []), (67, 3, .if_icmp .ge 31, [6]), (70, 1, .aload_n 0, []), (71, 3, .getfield 11, [3, 1, 445]), (74, 2, .iload 4, []), (76, 1, .aaload, []), (77, 1, .aload_n 0, []), (78, 3, .getfield 45, [3, 10, 458]), (81, 3, .invokevirtual 65, [12, 832, 1]), (84, 3, .ifCond .eq 8, [5]), (87, 1, .aload_n 0, []), (88, 1, .iconst 1, []), (89, 3, .putfield 61, [3, 17, 468])], 5),
 ([(92, 3, .iinc 4 1, []), (95, 3, .goto (-32), [4])], 0),
 ([(98, 1, .return_, [])], 0)]
def bk_37 : List Bk := [([(0, 1, .aload_n 0, []), (1, 1, .aload_n 1, []), (2, 3, .getfield 69, [5, 0, 201]), (5, 3, .putfield 74, [3, 6, 454]), (8, 1, .aload_n 0, []), (9, 1, .aload_n 1, []), (10, 3, .getfield 75, [5, 4, 216]), (13, 3, .putfield 78, [3, 7, 455]), (16, 1, .aload_n 0, []), (17, 1, .aload_n 1, []), (18, 3, .getfield 79, [5, 5, 220]), (21, 3, .putfield 82, [3, 8, 456]), (24, 1, .aload_n 0, []), (25, 1, .aload_n 1, []), (26, 3, .getfield 83, [5, 6, 224]), (29, 1, .iconst 3, []), (30, 3, .invokestatic 86, [1003, 737]), (33, 3, .putfield 92, [3, 9, 457]), (36, 1, .aload_n 0, []), (37, 1, .iload_n 2, []), (38, 2, .bipush 120, []), (40, 3, .invokestatic 86, [1003, 737]), (43, 3, .putfield 45, [3, 10, 458]), (46, 1, .aload_n 0, []), (47, 1, .iconst (-1), []), (48, 3, .putfield 30, [3, 15, 463]), (51, 1, .aload_n 0, []), (52, 1, .iconst 0, []), (53, 3, .putfield 93, [3, 16, 466]), (56, 1, .aload_n 0, []), (57, 1, .iconst 0, []), (58, 3, .putfield 61, [3, 17, 468]), (61, 1, .iconst 0, []), (62, 1, .istore_n 3, [])], 1),
 ([(63, 1, .iload_n 3, []), (64, 2, .bipush 8, []), (66, 3, .if_icmp .ge 69, [3]), (69, 1, .aload_n 0, []), (70, 3, .getfield 11, [3, 1, 445]), (73, 1, .iload_n 3, []), (74, 1, .aaload, []), (75, 2, .astore 4, []), (77, 2, .aload 4, []), (79, 2, .aload 4, []), (81, 3, .getfield 96, [0, 0, 378]), (84, 3, .getfield 100, [1, 6, 282]), (87, 1, .aload_n 1, []), (88, 3, .getfield 105, [5, 3, 212]), (91, 1, .iload_n 3, []), (92, 1, .iaload, []), (93, 1, .iadd, []), (94, 1, .aload_n 1, []), (95, 3, .getfield 108, [5, 1, 206]), (98, 1, .iload_n 3, []), (99, 1, .iaload, []), (100, 3, .invokevirtual 111, [1, 740, 2]), (103, 1, .iload_n 3, []), (104, 1, .aload_n 1, []), (105, 3, .getfield 114, [5, 8, 230]), (108, 3, .if_icmp .ne 21, [2]), (111, 2, .aload 4, []), (113, 1, .aload_n 1, []), (114, 3, .getfield 117, [5, 9, 233]), (117, 3, .putfield 120, [0, 4, 384]), (120, 2, .aload 4, []), (122, 1, .aload_n 1, []), (123, 3, .getfield 121, [5, 10, 236]), (126, 3, .putfield 124, [0, 5, 386])], 2),
 ([(129, 3, .iinc 3 1, []), (132, 3, .goto (-69), [1])], 0),
 ([(135, 1, .aload_n 0, []), (136, 3, .getfield 82, [3, 8, 456]), (139, 1, .iconst 2, []), (140, 3, .if_icmp .ne 7, [4]), (143, 1, .aload_n 0, []), (144, 3, .invokevirtual 125, [38, 744, 0])], 4),
 ([(147, 1, .return_, [])], 0)]
def bk_38 : List Bk := [([(0, 1, .iconst 0, []), (1, 1, .istore_n 1, [])], 1),
 ([(2, 1, .iload_n 1, []), (3, 2, .bipush 8, []), (5, 3, .if_icmp .ge 81, [5]), (8, 1, .iconst 0, []), (9, 1, .istore_n 2, [])], 2),
 ([(10, 1, .iload_n 2, []), (11, 2, .bipush 8, []), (13, 3, .if_icmp .ge 67, [4]), (16, 1, .aload_n 0, []), (17, 3, .getfield 74, [3, 6, 454]), (20, 1, .iload_n 2, []), (21, 1, .ishr, []), (22, 1, .iconst 1, []), (23, 1, .iand, []), (24, 3, .ifCond .eq 50, [3]), (27, 1, .aload_n 0, []), (28, 3, .getfield 11, [3, 1, 445]), (31, 1, .iload_n 2, []), (32, 1, .aaload, []), (33, 3, .getfield 128, [0, 3, 382]), (36, 1, .aload_n 0, []), (37, 3, .getfield 11, [3, 1, 445]), (40, 1, .iload_n 1, []), (41, 1, .aaload, []), (42, 3, .getfield 128, [0, 3, 382]), (45, 3, .if_icmp .lt 29, [3]), (48, 1, .aload_n 0, []), (49, 3, .getfield 11, [3, 1, 445]), (52, 1, .iload_n 1, []), (53, 1, .aaload, []), (54, 1, .dup, []), (55, 3, .getfield 130, [0, 17, 406]), (58, 1, .aload_n 0, []), (59, 3, .getfield 11, [3, 1, 445]), (62, 1, .iload_n 2, []), (63, 1, .aaload, []), (64, 3, .getfield 96, [0, 0, 378]), (67, 3, .getfield 133, [1, 11, 295]), (70, 1, .ior, []), (71, 3, .putfield 130, [0, 17, 406])], 3),
 ([(74, 3, .iinc 2 1, []), (77, 3, .goto (-67), [2])], 0),
 ([(80, 3, .iinc 1 1, []), (83, 3, .goto (-81), [1])], 0),
 ([(86, 1, .return_, [])], 0)]
def bk_39 : List Bk := [([(0, 1, .aload_n 0, []), (1, 1, .iconst 0, []), (2, 3, .putfield 136, [3, 11, 459]), (5, 1, .iconst 0, []), (6, 1, .istore_n 2, [])], 1),
 ([(7, 1, .iload_n 2, []), (8, 2, .bipush 8, []), (10, 3, .if_icmp .ge 60, [3]), (13, 1, .aload_n 0, []), (14, 3, .getfield 74, [3, 6, 454]), (17, 1, .iload_n 2, []), (18, 1, .ishr, []), (19, 1, .iconst 1, []), (20, 1, .iand, []), (21, 3, .ifCond .eq 43, [2]), (24, 1, .aload_n 0, []), (25, 3, .getfield 11, [3, 1, 445]), (28, 1, .iload_n 2, []), (29, 1, .aaload, []), (30, 1, .astore_n 3, []), (31, 1, .aload_n 3, []), (32, 1, .iload_n 1, []), (33, 3, .invokevirtual 139, [4, 752, 1]), (36, 1, .aload_n 3, []), (37, 1, .aload_n 0, []), (38, 3, .getfield 78, [3, 7, 455]), (41, 3, .invokevirtual 140, [5, 764, 1]), (44, 1, .aload_n 3, []), (45, 3, .getfield 143, [0, 8, 391]), (48, 1, .iconst (-1), []), (49, 3, .if_icmp .eq 15, [2]), (52, 1, .aload_n 0, []), (53, 1, .dup, []), (54, 3, .getfield 136, [3, 11, 459]), (57, 1, .iconst 1, []), (58, 1, .iload_n 2, []), (59, 1, .ishl, []), (60, 1, .ior, []), (61, 3, .putfield 136, [3, 11, 459])], 2),
 ([(64, 3, .iinc 2 1, []), (67, 3, .goto (-60), [1])], 0),
 ([(70, 1, .return_, [])], 0)]
def bk_40 : List Bk := [([(0, 1, .aload_n 0, []), (1, 1, .iconst 0, []), (2, 3, .putfield 146, [3, 12, 460]), (5, 1, .aload_n 0, []), (6, 1, .iconst 0, []), (7, 3, .putfield 149, [3, 13, 461]), (10, 1, .aload_n 0, []), (11, 1, .aload_n 0, []), (12, 3, .getfield 34, [3, 0, 444]), (15, 1, .iload_n 1, []), (16, 3, .invokevirtual 152, [92, 772, 1]), (19, 3, .putfield 158, [3, 14, 462]), (22, 1, .iconst 0, []), (23, 1, .istore_n 2, [])], 1),
 ([(24, 1, .iload_n 2, []), (25, 1, .iconst 3, []), (26, 3, .if_icmp .ge 21, [2]), (29, 1, .aload_n 0, []), (30, 3, .getfield 27, [3, 5, 453]), (33, 1, .iload_n 2, []), (34, 2, .bipush 120, []), (36, 1, .imul, []), (37, 1, .iload_n 1, []), (38, 1, .iadd, []), (39, 1, .iconst (-1), []), (40, 1, .iastore, []), (41, 3, .iinc 2 1, []), (44, 3, .goto (-20), [1])], 0),
 ([(47, 1, .iconst 0, []), (48, 1, .istore_n 2, []), (49, 1, .iconst 0, []), (50, 1, .istore_n 3, [])], 3),
 ([(51, 1, .iload_n 3, []), (52, 2, .bipush 8, []), (54, 3, .if_icmp .ge 134, [9]), (57, 1, .iload_n 2, []), (58, 1, .aload_n 0, []), (59, 3, .getfield 92, [3, 9, 457]), (62, 3, .if_icmp .ge 126, [9]), (65, 1, .aload_n 0, []), (66, 3, .invokevirtual 161, [41, 776, 0]), (69, 2, .istore 4, []), (71, 2, .iload 4, []), (73, 3, .invokestatic 165, [125, 780, 1]), (76, 3, .ifCond .ne 4, [4]), (79, 1, .return_, [])], 0),
 ([(80, 1, .aload_n 0, []), (81, 2, .iload 4, []), (83, 3, .invokevirtual 168, [42, 781, 1]), (86, 26, .lookupswitch 89 #[(1, 26), (2, 69)], [7, 5, 6])], 0),
 ([(112, 1, .aload_n 0, []), (113, 1, .dup, []), (114, 3, .getfield 146, [3, 12, 460]), (117, 1, .iconst 1, []), (118, 2, .iload 4, []), (120, 1, .ishl, []), (121, 1, .ior, []), (122, 3, .putfield 146, [3, 12, 460]), (125, 1, .aload_n 0, []), (126, 3, .getfield 11, [3, 1, 445]), (129, 2, .iload 4, []), (131, 1, .aaload, []), (132, 1, .iload_n 1, []), (133, 3, .putfield 171, [0, 16, 404]), (136, 1, .aload_n 0, []), (137, 3, .getfield 27, [3, 5, 453]), (140, 1, .iload_n 2, []), (141, 2, .bipush 120, []), (143, 1, .imul, []), (144, 1, .iload_n 1, []), (145, 1, .iadd, []), (146, 2, .iload 4, []), (148, 1, .iastore, []), (149, 3, .iinc 2 1, []), (152, 3, .goto 30, [8])], 0),
 ([(155, 1, .aload_n 0, []), (156, 1, .dup, []), (157, 3, .getfield 149, [3, 13, 461]), (160, 1, .iconst 1, []), (161, 2, .iload 4, []), (163, 1, .ishl, []), (164, 1, .ior, []), (165, 3, .putfield 149, [3, 13, 461]), (168, 1, .aload_n 0, []), (169, 3, .invokevirtual 174, [44, 797, 0]), (172, 3, .goto 10, [8])], 0),
 ([(175, 1, .aload_n 0, []), (176, 2, .iload 4, []), (178, 1, .iload_n 1, []), (179, 3, .invokevirtual 177, [46, 805, 2])], 8),
 ([(182, 3, .iinc 3 1, []), (185, 3, .goto (-134), [3])], 0),
 ([(188, 1, .return_, [])], 0)]
def bk_41 : List Bk := [([(0, 1, .aload_n 0, []), (1, 3, .getfield 136, [3, 11, 459]), (4, 1, .aload_n 0, []), (5, 3, .getfield 146, [3, 12, 460]), (8, 1, .iconst (-1), []), (9, 1, .ixor, []), (10, 1, .iand, []), (11, 1, .aload_n 0, []), (12, 3, .getfield 149, [3, 13, 461]), (15, 1, .iconst (-1), []), (16, 1, .ixor, []), (17, 1, .iand, []), (18, 1, .istore_n 1, []), (19, 1, .iconst (-1), []), (20, 1, .istore_n 2, []), (21, 1, .iconst 0, []), (22, 1, .istore_n 3, []), (23, 1, .iconst 0, []), (24, 2, .istore 4, []), (26, 1, .iconst 0, []), (27, 2, .istore 5, [])], 1),
 ([(29, 2, .iload 5, []), (31, 2, .bipush 8, []), (33, 3, .if_icmp .ge 104, [10]), (36, 1, .iload_n 1, []), (37, 2, .iload 5, []), (39, 1, .ishr, []), (40, 1, .iconst 1, []), (41, 1, .iand, []), (42, 3, .ifCond .ne 6, [2]), (45, 3, .goto 86, [9])], 0),
 ([(48, 1, .aload_n 0, []), (49, 3, .getfield 11, [3, 1, 445]), (52, 2, .iload 5, []), (54, 1, .aaload, []), (55, 2, .astore 6, []), (57, 2, .aload 6, []), (59, 3, .getfield 180, [0, 12, 398]), (62, 1, .aload_n 0, []), (63, 3, .getfield 34, [3, 0, 444]), (66, 3, .getfield 183, [7, 1, 175]), (69, 1, .iand, []), (70, 3, .ifCond .eq 7, [3]), (73, 1, .iconst 1, []), (74, 3, .goto 4, [4])], 0),
 ([(77, 1, .iconst 0, [])], 4),
 ([(78, 2, .istore 7, []), (80, 2, .iload 7, []), (82, 2, .iload 4, []), (84, 3, .if_icmp .ne 20, [6]), (87, 2, .aload 6, []), (89, 3, .getfield 186, [0, 15, 402]), (92, 1, .iload_n 3, []), (93, 3, .if_icmp .ge 7, [5]), (96, 1, .iconst 1, []), (97, 3, .goto 9, [7])], 0),
 ([(100, 1, .iconst 0, []), (101, 3, .goto 5, [7])], 0),
 ([(104, 2, .iload 7, [])], 7),
 ([(106, 2, .istore 8, []), (108, 1, .iload_n 2, []), (109, 1, .iconst (-1), []), (110, 3, .if_icmp .eq 8, [8]), (113, 2, .iload 8, []), (115, 3, .ifCond .eq 16, [9])], 8),
 ([(118, 2, .iload 5, []), (120, 1, .istore_n 2, []), (121, 2, .aload 6, []), (123, 3, .getfield 186, [0, 15, 402]), (126, 1, .istore_n 3, []), (127, 2, .iload 7, []), (129, 2, .istore 4, [])], 9),
 ([(131, 3, .iinc 5 1, []), (134, 3, .goto (-105), [1])], 0),
 ([(137, 1, .iload_n 2, []), (138, 1, .ireturn, [])], 0)]
def bk_42 : List Bk := [([(0, 1, .aload_n 0, []), (1, 3, .getfield 11, [3, 1, 445]), (4, 1, .iload_n 1, []), (5, 1, .aaload, []), (6, 1, .astore_n 2, []), (7, 1, .aload_n 2, []), (8, 3, .getfield 96, [0, 0, 378]), (11, 1, .astore_n 3, []), (12, 1, .aload_n 2, []), (13, 3, .getfield 189, [0, 10, 395]), (16, 2, .istore 4, [])], 1),
 ([(18, 2, .iload 4, []), (20, 1, .aload_n 3, []), (21, 3, .getfield 192, [1, 9, 289]), (24, 3, .if_icmp .ge 88, [6]), (27, 1, .aload_n 2, []), (28, 2, .iload 4, []), (30, 3, .putfield 189, [0, 10, 395]), (33, 1, .aload_n 3, []), (34, 2, .iload 4, []), (36, 3, .invokevirtual 195, [25, 785, 1]), (39, 2, .istore 5, []), (41, 2, .iload 5, []), (43, 1, .iconst 1, []), (44, 3, .if_icmp .ne 5, [2]), (47, 1, .iconst 1, []), (48, 1, .ireturn, [])], 0),
 ([(49, 1, .aload_n 3, []), (50, 2, .iload 4, []), (52, 3, .invokevirtual 198, [26, 789, 1]), (55, 2, .istore 6, []), (57, 2, .iload 5, []), (59, 1, .iconst 3, []), (60, 3, .if_icmp .ne 21, [3]), (63, 1, .aload_n 2, []), (64, 1, .dup, []), (65, 3, .getfield 180, [0, 12, 398]), (68, 1, .iconst 1, []), (69, 2, .iload 6, []), (71, 1, .ishl, []), (72, 1, .iconst (-1), []), (73, 1, .ixor, []), (74, 1, .iand, []), (75, 3, .putfield 180, [0, 12, 398]), (78, 3, .goto 28, [5])], 0),
 ([(81, 1, .aload_n 0, []), (82, 1, .iload_n 1, []), (83, 2, .iload 6, []), (85, 3, .invokevirtual 201, [43, 793, 2]), (88, 3, .ifCond .eq 5, [4]), (91, 1, .iconst 2, []), (92, 1, .ireturn, [])], 0),
 ([(93, 1, .aload_n 2, []), (94, 1, .dup, []), (95, 3, .getfield 180, [0, 12, 398]), (98, 1, .iconst 1, []), (99, 2, .iload 6, []), (101, 1, .ishl, []), (102, 1, .ior, []), (103, 3, .putfield 180, [0, 12, 398])], 5),
 ([(106, 3, .iinc 4 1, []), (109, 3, .goto (-91), [1])], 0),
 ([(112, 1, .iconst (-1), []), (113, 1, .ireturn, [])], 0)]
def bk_43 : List Bk := [([(0, 1, .aload_n 0, []), (1, 3, .getfield 11, [3, 1, 445]), (4, 1, .iload_n 1, []), (5, 1, .aaload, []), (6, 1, .astore_n 3, []), (7, 1, .iconst 0, []), (8, 2, .istore 4, []), (10, 1, .iconst 0, []), (11, 2, .istore 5, []), (13, 1, .iconst 0, []), (14, 2, .istore 6, []), (16, 1, .iconst 0, []), (17, 2, .istore 7, [])], 1),
 ([(19, 2, .iload 7, []), (21, 2, .bipush 8, []), (23, 3, .if_icmp .ge 74, [5]), (26, 2, .iload 7, []), (28, 1, .iload_n 1, []), (29, 3, .if_icmp .ne 6, [2]), (32, 3, .goto 59, [4])], 0),
 ([(35, 1, .aload_n 0, []), (36, 3, .getfield 11, [3, 1, 445]), (39, 2, .iload 7, []), (41, 1, .aaload, []), (42, 3, .getfield 180, [0, 12, 398]), (45, 1, .iload_n 2, []), (46, 1, .ishr, []), (47, 1, .iconst 1, []), (48, 1, .iand, []), (49, 3, .ifCond .eq 15, [3]), (52, 2, .iload 4, []), (54, 1, .iconst 1, []), (55, 2, .iload 7, []), (57, 1, .ishl, []), (58, 1, .ior, []), (59, 2, .istore 4, []), (61, 3, .iinc 5 1, [])], 3),
 ([(64, 1, .aload_n 0, []), (65, 3, .getfield 11, [3, 1, 445]), (68, 2, .iload 7, []), (70, 1, .aaload, []), (71, 3, .getfield 180, [0, 12, 398]), (74, 1, .aload_n 3, []), (75, 3, .getfield 130, [0, 17, 406]), (78, 1, .iand, []), (79, 3, .ifCond .eq 12, [4]), (82, 2, .iload 6, []), (84, 1, .iconst 1, []), (85, 2, .iload 7, []), (87, 1, .ishl, []), (88, 1, .ior, []), (89, 2, .istore 6, [])], 4),
 ([(91, 3, .iinc 7 1, []), (94, 3, .goto (-75), [1])], 0),
 ([(97, 1, .iload_n 2, []), (98, 3, .ifCond .lt 23, [6]), (101, 1, .iload_n 2, []), (102, 2, .bipush 6, []), (104, 3, .if_icmp .ge 17, [6]), (107, 2, .iload 5, []), (109, 1, .aload_n 0, []), (110, 3, .getfield 34, [3, 0, 444]), (113, 3, .getfield 205, [7, 2, 177]), (116, 1, .iload_n 2, []), (117, 1, .iaload, []), (118, 3, .if_icmp .lt 7, [7])], 6),
 ([(121, 1, .iconst 1, []), (122, 3, .goto 4, [8])], 0),
 ([(125, 1, .iconst 0, [])], 8),
 ([(126, 2, .istore 7, []), (128, 1, .aload_n 3, []), (129, 2, .iload 7, []), (131, 3, .ifCond .eq 11, [9]), (134, 2, .iload 4, []), (136, 2, .iload 6, []), (138, 1, .ior, []), (139, 3, .goto 5, [10])], 0),
 ([(142, 2, .iload 6, [])], 10),
 ([(144, 3, .putfield 208, [0, 13, 399]), (147, 2, .iload 7, []), (149, 3, .ifCond .ne 19, [11]), (152, 2, .iload 6, []), (154, 3, .ifCond .ne 14, [11]), (157, 1, .aload_n 0, []), (158, 3, .getfield 158, [3, 14, 462]), (161, 1, .iload_n 2, []), (162, 1, .ishr, []), (163, 1, .iconst 1, []), (164, 1, .iand, []), (165, 3, .ifCond .eq 7, [12])], 11),
 ([(168, 1, .iconst 1, []), (169, 3, .goto 4, [13])], 0),
 ([(172, 1, .iconst 0, [])], 13),
 ([(173, 1, .ireturn, [])], 0)]
def bk_44 : List Bk := [([(0, 1, .aload_n 0, []), (1, 3, .getfield 82, [3, 8, 456]), (4, 3, .ifCond .eq 11, [1]), (7, 1, .aload_n 0, []), (8, 3, .getfield 78, [3, 7, 455]), (11, 1, .iconst 2, []), (12, 3, .if_icmp .ne 4, [2])], 1),
 ([(15, 1, .return_, [])], 0),
 ([(16, 1, .iconst 1, []), (17, 1, .istore_n 1, []), (18, 1, .iconst 0, []), (19, 1, .istore_n 2, [])], 3),
 ([(20, 1, .iload_n 2, []), (21, 2, .bipush 8, []), (23, 3, .if_icmp .ge 55, [7]), (26, 1, .iload_n 1, []), (27, 3, .ifCond .eq 51, [7]), (30, 1, .iconst 0, []), (31, 1, .istore_n 1, []), (32, 1, .iconst 0, []), (33, 1, .istore_n 3, [])], 4),
 ([(34, 1, .iload_n 3, []), (35, 2, .bipush 8, []), (37, 3, .if_icmp .ge 35, [6]), (40, 1, .aload_n 0, []), (41, 3, .getfield 149, [3, 13, 461]), (44, 1, .iload_n 3, []), (45, 1, .ishr, []), (46, 1, .iconst 1, []), (47, 1, .iand, []), (48, 3, .ifCond .eq 18, [5]), (51, 1, .aload_n 0, []), (52, 1, .aload_n 0, []), (53, 3, .getfield 11, [3, 1, 445]), (56, 1, .iload_n 3, []), (57, 1, .aaload, []), (58, 3, .invokevirtual 211, [45, 801, 1]), (61, 3, .ifCond .eq 5, [5]), (64, 1, .iconst 1, []), (65, 1, .istore_n 1, [])], 5),
 ([(66, 3, .iinc 3 1, []), (69, 3, .goto (-35), [4])], 0),
 ([(72, 3, .iinc 2 1, []), (75, 3, .goto (-55), [3])], 0),
 ([(78, 1, .return_, [])], 0)]
def bk_45 : List Bk := [([(0, 1, .iconst 0, []), (1, 1, .istore_n 2, []), (2, 1, .iconst 0, []), (3, 1, .istore_n 3, [])], 1),
 ([(4, 1, .iload_n 3, []), (5, 2, .bipush 8, []), (7, 3, .if_icmp .ge 51, [3]), (10, 1, .aload_n 1, []), (11, 3, .getfield 208, [0, 13, 399]), (14, 1, .iload_n 3, []), (15, 1, .ishr, []), (16, 1, .iconst 1, []), (17, 1, .iand, []), (18, 3, .ifCond .eq 34, [2]), (21, 1, .aload_n 0, []), (22, 3, .getfield 11, [3, 1, 445]), (25, 1, .iload_n 3, []), (26, 1, .aaload, []), (27, 3, .getfield 186, [0, 15, 402]), (30, 1, .aload_n 1, []), (31, 3, .getfield 186, [0, 15, 402]), (34, 3, .if_icmp .le 18, [2]), (37, 1, .aload_n 0, []), (38, 3, .getfield 11, [3, 1, 445]), (41, 1, .iload_n 3, []), (42, 1, .aaload, []), (43, 1, .aload_n 1, []), (44, 3, .getfield 186, [0, 15, 402]), (47, 3, .putfield 186, [0, 15, 402]), (50, 1, .iconst 1, []), (51, 1, .istore_n 2, [])], 2),
 ([(52, 3, .iinc 3 1, []), (55, 3, .goto (-51), [1])], 0),
 ([(58, 1, .iload_n 2, []), (59, 1, .ireturn, [])], 0)]
def bk_46 : List Bk := [([(0, 1, .aload_n 0, []), (1, 3, .getfield 11, [3, 1, 445]), (4, 1, .iload_n 1, []), (5, 1, .aaload, []), (6, 1, .astore_n 3, []), (7, 1, .iload_n 2, []), (8, 1, .aload_n 3, []), (9, 3, .getfield 215, [0, 9, 393]), (12, 3, .if_icmp .le 8, [1]), (15, 1, .aload_n 0, []), (16, 1, .iconst 1, []), (17, 3, .putfield 61, [3, 17, 468])], 1),
 ([(20, 1, .aload_n 3, []), (21, 1, .iload_n 2, []), (22, 3, .invokevirtual 218, [7, 809, 1]), (25, 1, .aload_n 0, []), (26, 1, .dup, []), (27, 3, .getfield 136, [3, 11, 459]), (30, 1, .iconst 1, []), (31, 1, .iload_n 1, []), (32, 1, .ishl, []), (33, 1, .iconst (-1), []), (34, 1, .ixor, []), (35, 1, .iand, []), (36, 3, .putfield 136, [3, 11, 459]), (39, 1, .return_, [])], 0)]
def bk_47 : List Bk := [([(0, 1, .iload_n 1, []), (1, 3, .invokestatic 221, [128, 817, 1]), (4, 3, .ifCond .ne 4, [1]), (7, 1, .return_, [])], 0),
 ([(8, 1, .aload_n 0, []), (9, 3, .getfield 17, [3, 2, 448]), (12, 1, .iload_n 1, []), (13, 1, .aload_n 0, []), (14, 3, .getfield 146, [3, 12, 460]), (17, 1, .iastore, []), (18, 1, .aload_n 0, []), (19, 3, .getfield 21, [3, 3, 450]), (22, 1, .iload_n 1, []), (23, 1, .aload_n 0, []), (24, 3, .getfield 149, [3, 13, 461]), (27, 1, .iastore, []), (28, 1, .aload_n 0, []), (29, 3, .getfield 24, [3, 4, 452]), (32, 1, .iload_n 1, []), (33, 1, .aload_n 0, []), (34, 3, .getfield 136, [3, 11, 459]), (37, 1, .iastore, []), (38, 1, .aload_n 0, []), (39, 3, .getfield 30, [3, 15, 463]), (42, 1, .iconst (-1), []), (43, 3, .if_icmp .ne 22, [2]), (46, 1, .aload_n 0, []), (47, 3, .getfield 149, [3, 13, 461]), (50, 1, .aload_n 0, []), (51, 3, .getfield 149, [3, 13, 461]), (54, 1, .iconst 1, []), (55, 1, .isub, []), (56, 1, .iand, []), (57, 3, .ifCond .eq 8, [2]), (60, 1, .aload_n 0, []), (61, 1, .iload_n 1, []), (62, 3, .invokevirtual 224, [48, 818, 1])], 2),
 ([(65, 1, .return_, [])], 0)]
def bk_48 : List Bk := [([(0, 1, .iconst 0, []), (1, 1, .istore_n 2, [])], 1),
 ([(2, 1, .iload_n 2, []), (3, 2, .bipush 8, []), (5, 3, .if_icmp .ge 42, [4]), (8, 1, .aload_n 0, []), (9, 3, .getfield 11, [3, 1, 445]), (12, 1, .iload_n 2, []), (13, 1, .aaload, []), (14, 1, .aload_n 0, []), (15, 3, .getfield 149, [3, 13, 461]), (18, 1, .iload_n 2, []), (19, 1, .ishr, []), (20, 1, .iconst 1, []), (21, 1, .iand, []), (22, 3, .ifCond .eq 15, [2]), (25, 1, .aload_n 0, []), (26, 3, .getfield 11, [3, 1, 445]), (29, 1, .iload_n 2, []), (30, 1, .aaload, []), (31, 3, .getfield 208, [0, 13, 399]), (34, 3, .goto 4, [3])], 0),
 ([(37, 1, .iconst 0, [])], 3),
 ([(38, 3, .putfield 227, [0, 14, 400]), (41, 3, .iinc 2 1, []), (44, 3, .goto (-42), [1])], 0),
 ([(47, 1, .iconst 0, []), (48, 1, .istore_n 2, [])], 5),
 ([(49, 1, .iload_n 2, []), (50, 2, .bipush 8, []), (52, 3, .if_icmp .ge 62, [9]), (55, 1, .iconst 0, []), (56, 1, .istore_n 3, [])], 6),
 ([(57, 1, .iload_n 3, []), (58, 2, .bipush 8, []), (60, 3, .if_icmp .ge 48, [8]), (63, 1, .aload_n 0, []), (64, 3, .getfield 11, [3, 1, 445]), (67, 1, .iload_n 3, []), (68, 1, .aaload, []), (69, 3, .getfield 227, [0, 14, 400]), (72, 1, .iload_n 2, []), (73, 1, .ishr, []), (74, 1, .iconst 1, []), (75, 1, .iand, []), (76, 3, .ifCond .eq 26, [7]), (79, 1, .aload_n 0, []), (80, 3, .getfield 11, [3, 1, 445]), (83, 1, .iload_n 3, []), (84, 1, .aaload, []), (85, 1, .dup, []), (86, 3, .getfield 227, [0, 14, 400]), (89, 1, .aload_n 0, []), (90, 3, .getfield 11, [3, 1, 445]), (93, 1, .iload_n 2, []), (94, 1, .aaload, []), (95, 3, .getfield 227, [0, 14, 400]), (98, 1, .ior, []), (99, 3, .putfield 227, [0, 14, 400])], 7),
 ([(102, 3, .iinc 3 1, []), (105, 3, .goto (-48), [6])], 0),
 ([(108, 3, .iinc 2 1, []), (111, 3, .goto (-62), [5])], 0),
 ([(114, 1, .iconst 0, []), (115, 1, .istore_n 2, [])], 10),
 ([(116, 1, .iload_n 2, []), (117, 2, .bipush 8, []), (119, 3, .if_icmp .ge 42, [12]), (122, 1, .aload_n 0, []), (123, 3, .getfield 11, [3, 1, 445]), (126, 1, .iload_n 2, []), (127, 1, .aaload, []), (128, 3, .getfield 227, [0, 14, 400]), (131, 1, .iload_n 2, []), (132, 1, .ishr, []), (133, 1, .iconst 1, []), (134, 1, .iand, []), (135, 3, .ifCond .eq 20, [11]), (138, 1, .aload_n 0, []), (139, 1, .dup, []), (140, 3, .getfield 93, [3, 16, 466]), (143, 1, .iconst 1, []), (144, 1, .iload_n 2, []), (145, 1, .ishl, []), (146, 1, .ior, []), (147, 3, .putfield 93, [3, 16, 466]), (150, 1, .aload_n 0, []), (151, 1, .iload_n 1, []), (152, 3, .putfield 30, [3, 15, 463])], 11),
 ([(155, 3, .iinc 2 1, []), (158, 3, .goto (-42), [10])], 0),
 ([(161, 1, .return_, [])], 0)]
def bk_49 : List Bk := [([(0, 1, .iconst 0, []), (1, 1, .istore_n 2, [])], 1),
 ([(2, 1, .iload_n 2, []), (3, 2, .bipush 8, []), (5, 3, .if_icmp .ge 69, [4]), (8, 1, .aload_n 0, []), (9, 3, .getfield 146, [3, 12, 460]), (12, 1, .iload_n 2, []), (13, 1, .ishr, []), (14, 1, .iconst 1, []), (15, 1, .iand, []), (16, 3, .ifCond .eq 23, [2]), (19, 1, .aload_n 0, []), (20, 3, .getfield 11, [3, 1, 445]), (23, 1, .iload_n 2, []), (24, 1, .aaload, []), (25, 3, .invokevirtual 230, [6, 826, 0]), (28, 3, .ifCond .eq 11, [2]), (31, 1, .aload_n 0, []), (32, 1, .iload_n 2, []), (33, 1, .iload_n 1, []), (34, 1, .iconst 1, []), (35, 1, .iadd, []), (36, 3, .invokevirtual 177, [46, 805, 2])], 2),
 ([(39, 1, .aload_n 0, []), (40, 3, .getfield 136, [3, 11, 459]), (43, 1, .iload_n 2, []), (44, 1, .ishr, []), (45, 1, .iconst 1, []), (46, 1, .iand, []), (47, 3, .ifCond .eq 21, [3]), (50, 1, .aload_n 0, []), (51, 3, .getfield 11, [3, 1, 445]), (54, 1, .iload_n 2, []), (55, 1, .aaload, []), (56, 3, .getfield 215, [0, 9, 393]), (59, 1, .iload_n 1, []), (60, 3, .if_icmp .gt 8, [3]), (63, 1, .aload_n 0, []), (64, 1, .iconst 1, []), (65, 3, .putfield 61, [3, 17, 468])], 3),
 ([(68, 3, .iinc 2 1, []), (71, 3, .goto (-69), [1])], 0),
 ([(74, 1, .return_, [])], 0)]
def bk_50 : List Bk := [([(0, 1, .iload_n 1, []), (1, 3, .ifCond .lt 34, [1]), (4, 1, .iload_n 1, []), (5, 1, .aload_n 0, []), (6, 3, .getfield 45, [3, 10, 458]), (9, 3, .if_icmp .ge 26, [1]), (12, 1, .iload_n 2, []), (13, 3, .ifCond .lt 22, [1]), (16, 1, .iload_n 2, []), (17, 1, .iconst 3, []), (18, 3, .if_icmp .ge 17, [1]), (21, 1, .aload_n 0, []), (22, 3, .getfield 27, [3, 5, 453]), (25, 1, .iload_n 2, []), (26, 2, .bipush 120, []), (28, 1, .imul, []), (29, 1, .iload_n 1, []), (30, 1, .iadd, []), (31, 1, .iaload, []), (32, 3, .goto 4, [2])], 0),
 ([(35, 1, .iconst (-1), [])], 2),
 ([(36, 1, .ireturn, [])], 0)]
def bk_51 : List Bk := [([(0, 1, .iload_n 2, []), (1, 3, .ifCond .lt 24, [1]), (4, 1, .iload_n 2, []), (5, 1, .aload_n 0, []), (6, 3, .getfield 45, [3, 10, 458]), (9, 3, .if_icmp .ge 16, [1]), (12, 1, .aload_n 0, []), (13, 3, .getfield 24, [3, 4, 452]), (16, 1, .iload_n 2, []), (17, 1, .iaload, []), (18, 1, .iload_n 1, []), (19, 1, .ishr, []), (20, 1, .iconst 1, []), (21, 1, .iand, []), (22, 3, .ifCond .ne 5, [2])], 1),
 ([(25, 1, .iconst 0, []), (26, 1, .ireturn, [])], 0),
 ([(27, 1, .aload_n 0, []), (28, 3, .getfield 17, [3, 2, 448]), (31, 1, .iload_n 2, []), (32, 1, .iaload, []), (33, 1, .iload_n 1, []), (34, 1, .ishr, []), (35, 1, .iconst 1, []), (36, 1, .iand, []), (37, 3, .ifCond .eq 5, [3]), (40, 1, .iconst 1, []), (41, 1, .ireturn, [])], 0),
 ([(42, 1, .aload_n 0, []), (43, 3, .getfield 21, [3, 3, 450]), (46, 1, .iload_n 2, []), (47, 1, .iaload, []), (48, 1, .iload_n 1, []), (49, 1, .ishr, []), (50, 1, .iconst 1, []), (51, 1, .iand, []), (52, 3, .ifCond .eq 7, [4]), (55, 1, .iconst 2, []), (56, 3, .goto 4, [5])], 0),
 ([(59, 1, .iconst 3, [])], 5),
 ([(60, 1, .ireturn, [])], 0)]
def bk_52 : List Bk := [([(0, 1, .iconst 0, []), (1, 1, .istore_n 3, []), (2, 1, .iconst 0, []), (3, 2, .istore 4, [])], 1),
 ([(5, 2, .iload 4, []), (7, 1, .aload_n 0, []), (8, 3, .getfield 45, [3, 10, 458]), (11, 3, .if_icmp .ge 27, [2]), (14, 2, .iload 4, []), (16, 1, .aload_n 1, []), (17, 1, .arraylength, []), (18, 3, .if_icmp .ge 20, [2]), (21, 1, .iload_n 3, []), (22, 1, .aload_n 1, []), (23, 2, .iload 4, []), (25, 1, .iaload, []), (26, 1, .iload_n 2, []), (27, 1, .ishr, []), (28, 1, .iconst 1, []), (29, 1, .iand, []), (30, 1, .iadd, []), (31, 1, .istore_n 3, []), (32, 3, .iinc 4 1, []), (35, 3, .goto (-30), [1])], 0),
 ([(38, 1, .iload_n 3, []), (39, 1, .ireturn, [])], 0)]
def bk_53 : List Bk := [([(0, 1, .iconst 0, []), (1, 1, .istore_n 3, []), (2, 1, .iconst 0, []), (3, 2, .istore 4, [])], 1),
 ([(5, 2, .iload 4, []), (7, 1, .aload_n 0, []), (8, 3, .getfield 45, [3, 10, 458]), (11, 3, .if_icmp .ge 45, [3]), (14, 1, .aload_n 0, []), (15, 3, .getfield 17, [3, 2, 448]), (18, 2, .iload 4, []), (20, 1, .iaload, []), (21, 1, .iload_n 2, []), (22, 1, .iand, []), (23, 3, .ifCond .eq 27, [2]), (26, 1, .iload_n 3, []), (27, 1, .aload_n 0, []), (28, 3, .getfield 24, [3, 4, 452]), (31, 2, .iload 4, []), (33, 1, .iaload, []), (34, 1, .aload_n 0, []), (35, 3, .getfield 17, [3, 2, 448]), (38, 2, .iload 4, []), (40, 1, .iaload, []), (41, 1, .iconst (-1), []), (42, 1, .ixor, []), (43, 1, .iand, []), (44, 1, .iload_n 1, []), (45, 1, .ishr, []), (46, 1, .iconst 1, []), (47, 1, .iand, []), (48, 1, .iadd, []), (49, 1, .istore_n 3, [])], 2),
 ([(50, 3, .iinc 4 1, []), (53, 3, .goto (-48), [1])], 0),
 ([(56, 1, .iload_n 3, []), (57, 1, .ireturn, [])], 0)]
def bk_54 : List Bk := [([(0, 1, .aload_n 0, []), (1, 3, .invokespecial 3, [1001, 512]), (4, 1, .aload_n 0, []), (5, 3, .new 9, [5, 513]), (8, 1, .dup, []), (9, 3, .invokespecial 11, [74, 514, 0]), (12, 3, .putfield 12, [4, 1, 516]), (15, 1, .aload_n 0, []), (16, 2, .bipush 8, []), (18, 2, .newarray .int, []), (20, 3, .putfield 18, [4, 5, 520]), (23, 1, .aload_n 0, []), (24, 2, .bipush 8, []), (26, 2, .newarray .int, []), (28, 3, .putfield 22, [4, 11, 528]), (31, 1, .aload_n 0, []), (32, 1, .iconst 5, []), (33, 2, .newarray .int, []), (35, 3, .putfield 25, [4, 14, 533]), (38, 1, .aload_n 0, []), (39, 1, .aload_n 1, []), (40, 3, .putfield 28, [4, 0, 515]), (43, 1, .aload_n 0, []), (44, 1, .aload_n 2, []), (45, 3, .putfield 31, [4, 2, 517]), (48, 1, .return_, [])], 0)]
def bk_55 : List Bk := [([(0, 1, .aload_n 0, []), (1, 1, .iconst 0, []), (2, 3, .putfield 35, [4, 3, 518]), (5, 1, .aload_n 0, []), (6, 1, .iconst 0, []), (7, 3, .putfield 39, [4, 6, 521]), (10, 1, .aload_n 0, []), (11, 1, .iconst 0, []), (12, 3, .putfield 42, [4, 10, 527]), (15, 1, .aload_n 0, []), (16, 1, .iconst 0, []), (17, 3, .putfield 46, [4, 13, 532]), (20, 1, .return_, [])], 0)]
def bk_56 : List Bk := [([(0, 1, .aload_n 0, []), (1, 3, .getfield 35, [4, 3, 518]), (4, 3, .ifCond .eq 4, [1]), (7, 1, .return_, [])], 0),
 ([(8, 1, .aload_n 0, []), (9, 1, .iconst 1, []), (10, 3, .putfield 35, [4, 3, 518]), (13, 1, .aload_n 0, []), (14, 1, .iconst 0, []), (15, 3, .putfield 49, [4, 4, 519]), (18, 1, .aload_n 0, []), (19, 3, .getfield 12, [4, 1, 516]), (22, 1, .aload_n 0, []), (23, 3, .getfield 28, [4, 0, 515]), (26, 3, .invokevirtual 52, [75, 963, 1]), (29, 1, .aload_n 0, []), (30, 3, .invokevirtual 56, [59, 967, 0]), (33, 1, .istore_n 1, []), (34, 1, .iconst 1, []), (35, 1, .istore_n 2, []), (36, 1, .iconst 0, []), (37, 1, .istore_n 3, [])], 2),
 ([(38, 1, .iload_n 3, []), (39, 2, .bipush 120, []), (41, 3, .if_icmp .ge 106, [8]), (44, 1, .iload_n 2, []), (45, 3, .ifCond .eq 102, [8]), (48, 1, .iconst 0, []), (49, 2, .istore 4, [])], 3),
 ([(51, 2, .iload 4, []), (53, 1, .iload_n 1, []), (54, 3, .if_icmp .ge 28, [4]), (57, 1, .aload_n 0, []), (58, 3, .getfield 12, [4, 1, 516]), (61, 3, .getfield 60, [5, 1, 205]), (64, 1, .aload_n 0, []), (65, 2, .iload 4, []), (67, 3, .invokevirtual 63, [58, 972, 1]), (70, 2, .bipush 90, []), (72, 2, .iload 4, []), (74, 1, .isub, []), (75, 1, .iastore, []), (76, 3, .iinc 4 1, []), (79, 3, .goto (-28), [3])], 0),
 ([(82, 1, .aload_n 0, []), (83, 3, .getfield 31, [4, 2, 517]), (86, 1, .aload_n 0, []), (87, 3, .getfield 12, [4, 1, 516]), (90, 1, .aload_n 0, []), (91, 3, .getfield 12, [4, 1, 516]), (94, 3, .getfield 67, [5, 7, 227]), (97, 1, .iconst 1, []), (98, 3, .invokevirtual 70, [36, 977, 3]), (101, 1, .aload_n 0, []), (102, 3, .getfield 31, [4, 2, 517]), (105, 3, .getfield 76, [3, 17, 469]), (108, 3, .ifCond .ne 9, [5]), (111, 1, .aload_n 0, []), (112, 1, .iconst 1, []), (113, 3, .putfield 49, [4, 4, 519]), (116, 1, .return_, [])], 0),
 ([(117, 1, .aload_n 0, []), (118, 3, .getfield 12, [4, 1, 516]), (121, 3, .invokevirtual 79, [79, 978, 0]), (124, 3, .ifCond .eq 15, [6]), (127, 1, .aload_n 0, []), (128, 1, .iload_n 1, []), (129, 3, .invokevirtual 83, [60, 982, 1]), (132, 3, .ifCond .eq 7, [6]), (135, 1, .iconst 1, []), (136, 3, .goto 4, [7])], 0),
 ([(139, 1, .iconst 0, [])], 7),
 ([(140, 1, .istore_n 2, []), (141, 3, .iinc 3 1, []), (144, 3, .goto (-106), [2])], 0),
 ([(147, 1, .return_, [])], 0)]
def bk_57 : List Bk := [([(0, 1, .aload_n 0, []), (1, 3, .getfield 49, [4, 4, 519]), (4, 3, .ifCond .eq 11, [1]), (7, 1, .aload_n 0, []), (8, 1, .iload_n 1, []), (9, 3, .invokevirtual 63, [58, 972, 1]), (12, 3, .goto 4, [2])], 0),
 ([(15, 1, .iconst (-1), [])], 2),
 ([(16, 1, .ireturn, [])], 0)]
def bk_58 : List Bk := [([(0, 1, .iload_n 1, []), (1, 3, .ifCond .lt 18, [1]), (4, 1, .iload_n 1, []), (5, 2, .bipush 8, []), (7, 3, .if_icmp .ge 12, [1]), (10, 1, .aload_n 0, []), (11, 3, .getfield 18, [4, 5, 520]), (14, 1, .iload_n 1, []), (15, 1, .iaload, []), (16, 3, .goto 4, [2])], 0),
 ([(19, 1, .iconst 0, [])], 2),
 ([(20, 1, .istore_n 2, []), (21, 1, .iload_n 2, []), (22, 3, .invokestatic 87, [125, 976, 1]), (25, 3, .ifCond .eq 7, [3]), (28, 1, .iload_n 2, []), (29, 3, .goto 4, [4])], 0),
 ([(32, 1, .iconst 0, [])], 4),
 ([(33, 1, .ireturn, [])], 0)]
def bk_59 : List Bk := [([(0, 1, .iconst 0, []), (1, 1, .istore_n 1, []), (2, 1, .iconst 0, []), (3, 1, .istore_n 2, [])], 1),
 ([(4, 1, .iload_n 2, []), (5, 2, .bipush 8, []), (7, 3, .if_icmp .ge 30, [3]), (10, 1, .aload_n 0, []), (11, 3, .getfield 28, [4, 0, 515]), (14, 1, .iload_n 2, []), (15, 3, .invokevirtual 90, [78, 971, 1]), (18, 3, .ifCond .eq 13, [2]), (21, 1, .aload_n 0, []), (22, 3, .getfield 18, [4, 5, 520]), (25, 1, .iload_n 1, []), (26, 1, .iload_n 2, []), (27, 1, .iastore, []), (28, 3, .iinc 1 1, [])], 2),
 ([(31, 3, .iinc 2 1, []), (34, 3, .goto (-30), [1])], 0),
 ([(37, 1, .iload_n 1, []), (38, 1, .ireturn, [])], 0)]
def bk_60 : List Bk := [([(0, 1, .iload_n 1, []), (1, 1, .iconst 2, []), (2, 1, .isub, []), (3, 1, .istore_n 2, [])], 1),
 ([(4, 1, .iload_n 2, []), (5, 3, .ifCond .lt 24, [2]), (8, 1, .aload_n 0, []), (9, 1, .iload_n 2, []), (10, 3, .invokevirtual 63, [58, 972, 1]), (13, 1, .aload_n 0, []), (14, 1, .iload_n 2, []), (15, 1, .iconst 1, []), (16, 1, .iadd, []), (17, 3, .invokevirtual 63, [58, 972, 1]), (20, 3, .if_icmp .le 9, [2]), (23, 3, .iinc 2 (-1), []), (26, 3, .goto (-22), [1])], 0),
 ([(29, 1, .iload_n 2, []), (30, 3, .ifCond .lt 9, [3]), (33, 1, .iload_n 1, []), (34, 2, .bipush 8, []), (36, 3, .if_icmp .le 5, [4])], 3),
 ([(39, 1, .iconst 0, []), (40, 1, .ireturn, [])], 0),
 ([(41, 1, .iload_n 1, []), (42, 1, .iconst 1, []), (43, 1, .isub, []), (44, 1, .istore_n 3, [])], 5),
 ([(45, 1, .iload_n 3, []), (46, 1, .iload_n 2, []), (47, 3, .if_icmp .le 22, [6]), (50, 1, .aload_n 0, []), (51, 1, .iload_n 3, []), (52, 3, .invokevirtual 63, [58, 972, 1]), (55, 1, .aload_n 0, []), (56, 1, .iload_n 2, []), (57, 3, .invokevirtual 63, [58, 972, 1]), (60, 3, .if_icmp .ge 9, [6]), (63, 3, .iinc 3 (-1), []), (66, 3, .goto (-21), [5])], 0),
 ([(69, 1, .aload_n 0, []), (70, 1, .iload_n 2, []), (71, 1, .iload_n 3, []), (72, 3, .invokevirtual 93, [61, 986, 2]), (75, 1, .iload_n 2, []), (76, 1, .iconst 1, []), (77, 1, .iadd, []), (78, 2, .istore 4, []), (80, 1, .iload_n 1, []), (81, 1, .iconst 1, []), (82, 1, .isub, []), (83, 2, .istore 5, [])], 7),
 ([(85, 2, .iload 4, []), (87, 2, .iload 5, []), (89, 3, .if_icmp .ge 20, [8]), (92, 1, .aload_n 0, []), (93, 2, .iload 4, []), (95, 2, .iload 5, []), (97, 3, .invokevirtual 93, [61, 986, 2]), (100, 3, .iinc 4 1, []), (103, 3, .iinc 5 (-1), []), (106, 3, .goto (-21), [7])], 0),
 ([(109, 1, .iconst 1, []), (110, 1, .ireturn, [])], 0)]
def bk_61 : List Bk := [([(0, 1, .iload_n 1, []), (1, 3, .ifCond .lt 45, [1]), (4, 1, .iload_n 1, []), (5, 2, .bipush 8, []), (7, 3, .if_icmp .ge 39, [1]), (10, 1, .iload_n 2, []), (11, 3, .ifCond .lt 35, [1]), (14, 1, .iload_n 2, []), (15, 2, .bipush 8, []), (17, 3, .if_icmp .ge 29, [1]), (20, 1, .aload_n 0, []), (21, 3, .getfield 18, [4, 5, 520]), (24, 1, .iload_n 1, []), (25, 1, .iaload, []), (26, 1, .istore_n 3, []), (27, 1, .aload_n 0, []), (28, 3, .getfield 18, [4, 5, 520]), (31, 1, .iload_n 1, []), (32, 1, .aload_n 0, []), (33, 3, .getfield 18, [4, 5, 520]), (36, 1, .iload_n 2, []), (37, 1, .iaload, []), (38, 1, .iastore, []), (39, 1, .aload_n 0, []), (40, 3, .getfield 18, [4, 5, 520]), (43, 1, .iload_n 2, []), (44, 1, .iload_n 3, []), (45, 1, .iastore, [])], 1),
 ([(46, 1, .return_, [])], 0)]
def bk_62 : List Bk := [([(0, 1, .aload_n 0, []), (1, 3, .getfield 12, [4, 1, 516]), (4, 1, .aload_n 0, []), (5, 3, .getfield 28, [4, 0, 515]), (8, 3, .invokevirtual 52, [75, 963, 1]), (11, 1, .aload_n 0, []), (12, 3, .getfield 12, [4, 1, 516]), (15, 1, .iload_n 1, []), (16, 3, .putfield 97, [5, 8, 231]), (19, 1, .aload_n 0, []), (20, 3, .getfield 12, [4, 1, 516]), (23, 1, .iload_n 2, []), (24, 3, .putfield 100, [5, 9, 234]), (27, 1, .iconst 0, []), (28, 1, .istore_n 3, [])], 1),
 ([(29, 1, .iload_n 3, []), (30, 2, .bipush 20, []), (32, 3, .if_icmp .gt 50, [3]), (35, 1, .aload_n 0, []), (36, 3, .getfield 12, [4, 1, 516]), (39, 1, .iload_n 3, []), (40, 3, .putfield 103, [5, 10, 237]), (43, 1, .aload_n 0, []), (44, 3, .getfield 31, [4, 2, 517]), (47, 1, .aload_n 0, []), (48, 3, .getfield 12, [4, 1, 516]), (51, 1, .aload_n 0, []), (52, 3, .getfield 12, [4, 1, 516]), (55, 3, .getfield 67, [5, 7, 227]), (58, 1, .iconst 1, []), (59, 3, .invokevirtual 70, [36, 977, 3]), (62, 1, .aload_n 0, []), (63, 3, .getfield 31, [4, 2, 517]), (66, 3, .getfield 76, [3, 17, 469]), (69, 3, .ifCond .eq 7, [2]), (72, 1, .iload_n 3, []), (73, 1, .iconst 1, []), (74, 1, .isub, []), (75, 1, .ireturn, [])], 0),
 ([(76, 3, .iinc 3 1, []), (79, 3, .goto (-50), [1])], 0),
 ([(82, 2, .bipush 20, []), (84, 1, .ireturn, [])], 0)]
def bk_63 : List Bk := [([(0, 1, .aload_n 0, []), (1, 3, .getfield 39, [4, 6, 521]), (4, 3, .ifCond .eq 4, [1]), (7, 1, .return_, [])], 0),
 ([(8, 1, .aload_n 0, []), (9, 1, .iconst 1, []), (10, 3, .putfield 39, [4, 6, 521]), (13, 1, .aload_n 0, []), (14, 3, .getfield 12, [4, 1, 516]), (17, 1, .aload_n 0, []), (18, 3, .getfield 28, [4, 0, 515]), (21, 3, .invokevirtual 52, [75, 963, 1]), (24, 1, .aload_n 0, []), (25, 1, .aload_n 0, []), (26, 3, .getfield 28, [4, 0, 515]), (29, 3, .getfield 106, [5, 0, 202]), (32, 3, .putfield 109, [4, 7, 522]), (35, 1, .aload_n 0, []), (36, 1, .iconst 0, []), (37, 3, .putfield 112, [4, 8, 524]), (40, 1, .aload_n 0, []), (41, 1, .aload_n 0, []), (42, 3, .getfield 28, [4, 0, 515]), (45, 3, .getfield 106, [5, 0, 202]), (48, 3, .invokestatic 115, [226, 1011, 1]), (51, 3, .putfield 120, [4, 9, 526]), (54, 1, .iconst 0, []), (55, 1, .istore_n 1, [])], 2),
 ([(56, 1, .iload_n 1, []), (57, 3, .sipush 256, []), (60, 3, .if_icmp .ge 28, [4]), (63, 1, .iload_n 1, []), (64, 1, .aload_n 0, []), (65, 3, .getfield 28, [4, 0, 515]), (68, 3, .getfield 106, [5, 0, 202]), (71, 1, .iconst (-1), []), (72, 1, .ixor, []), (73, 1, .iand, []), (74, 3, .ifCond .ne 8, [3]), (77, 1, .aload_n 0, []), (78, 1, .iload_n 1, []), (79, 3, .invokevirtual 123, [64, 1012, 1])], 3),
 ([(82, 3, .iinc 1 1, []), (85, 3, .goto (-29), [2])], 0),
 ([(88, 1, .return_, [])], 0)]
def bk_64 : List Bk := [([(0, 1, .aload_n 0, []), (1, 3, .getfield 12, [4, 1, 516]), (4, 1, .aload_n 0, []), (5, 3, .getfield 28, [4, 0, 515]), (8, 3, .getfield 106, [5, 0, 202]), (11, 1, .iload_n 1, []), (12, 1, .iconst (-1), []), (13, 1, .ixor, []), (14, 1, .iand, []), (15, 3, .putfield 106, [5, 0, 202]), (18, 1, .iconst 0, []), (19, 1, .istore_n 2, []), (20, 1, .iconst 0, []), (21, 1, .istore_n 3, [])], 1),
 ([(22, 1, .iload_n 3, []), (23, 2, .bipush 8, []), (25, 3, .if_icmp .ge 32, [3]), (28, 1, .aload_n 0, []), (29, 3, .getfield 12, [4, 1, 516]), (32, 1, .iload_n 3, []), (33, 3, .invokevirtual 90, [78, 971, 1]), (36, 3, .ifCond .eq 15, [2]), (39, 1, .iload_n 2, []), (40, 1, .aload_n 0, []), (41, 3, .getfield 12, [4, 1, 516]), (44, 3, .getfield 127, [5, 2, 210]), (47, 1, .iload_n 3, []), (48, 1, .iaload, []), (49, 1, .iadd, []), (50, 1, .istore_n 2, [])], 2),
 ([(51, 3, .iinc 3 1, []), (54, 3, .goto (-32), [1])], 0),
 ([(57, 1, .iload_n 1, []), (58, 3, .invokestatic 115, [226, 1011, 1]), (61, 1, .istore_n 3, []), (62, 1, .iload_n 2, []), (63, 1, .aload_n 0, []), (64, 3, .getfield 112, [4, 8, 524]), (67, 3, .if_icmp .lt 19, [4]), (70, 1, .iload_n 2, []), (71, 1, .aload_n 0, []), (72, 3, .getfield 112, [4, 8, 524]), (75, 3, .if_icmp .ne 12, [5]), (78, 1, .iload_n 3, []), (79, 1, .aload_n 0, []), (80, 3, .getfield 120, [4, 9, 526]), (83, 3, .if_icmp .lt 4, [5])], 4),
 ([(86, 1, .return_, [])], 0),
 ([(87, 1, .aload_n 0, []), (88, 3, .getfield 31, [4, 2, 517]), (91, 1, .aload_n 0, []), (92, 3, .getfield 12, [4, 1, 516]), (95, 1, .aload_n 0, []), (96, 3, .getfield 12, [4, 1, 516]), (99, 3, .getfield 67, [5, 7, 227]), (102, 1, .iconst 1, []), (103, 3, .invokevirtual 70, [36, 977, 3]), (106, 1, .aload_n 0, []), (107, 3, .getfield 31, [4, 2, 517]), (110, 3, .getfield 76, [3, 17, 469]), (113, 3, .ifCond .ne 18, [6]), (116, 1, .aload_n 0, []), (117, 1, .iload_n 1, []), (118, 3, .putfield 109, [4, 7, 522]), (121, 1, .aload_n 0, []), (122, 1, .iload_n 2, []), (123, 3, .putfield 112, [4, 8, 524]), (126, 1, .aload_n 0, []), (127, 1, .iload_n 3, []), (128, 3, .putfield 120, [4, 9, 526])], 6),
 ([(131, 1, .return_, [])], 0)]
def bk_65 : List Bk := [([(0, 1, .aload_n 0, []), (1, 3, .getfield 42, [4, 10, 527]), (4, 1, .iload_n 1, []), (5, 3, .if_icmp .ne 4, [1]), (8, 1, .return_, [])], 0),
 ([(9, 1, .aload_n 0, []), (10, 1, .iload_n 1, []), (11, 3, .putfield 42, [4, 10, 527]), (14, 1, .aload_n 0, []), (15, 3, .getfield 12, [4, 1, 516]), (18, 1, .aload_n 0, []), (19, 3, .getfield 28, [4, 0, 515]), (22, 3, .invokevirtual 52, [75, 963, 1]), (25, 1, .aload_n 0, []), (26, 1, .iconst 0, []), (27, 3, .putfield 130, [4, 12, 530]), (30, 1, .iconst 0, []), (31, 1, .istore_n 2, [])], 2),
 ([(32, 1, .iload_n 2, []), (33, 2, .bipush 8, []), (35, 3, .if_icmp .ge 16, [3]), (38, 1, .aload_n 0, []), (39, 3, .getfield 22, [4, 11, 528]), (42, 1, .iload_n 2, []), (43, 1, .iconst (-1), []), (44, 1, .iastore, []), (45, 3, .iinc 2 1, []), (48, 3, .goto (-16), [2])], 0),
 ([(51, 1, .iconst 1, []), (52, 1, .istore_n 2, []), (53, 1, .aload_n 0, []), (54, 3, .getfield 28, [4, 0, 515]), (57, 3, .getfield 106, [5, 0, 202]), (60, 3, .invokestatic 115, [226, 1011, 1]), (63, 1, .istore_n 3, [])], 4),
 ([(64, 1, .iload_n 3, []), (65, 3, .ifCond .le 15, [5]), (68, 1, .iload_n 2, []), (69, 1, .iload_n 1, []), (70, 1, .iconst 1, []), (71, 1, .iadd, []), (72, 1, .imul, []), (73, 1, .istore_n 2, []), (74, 3, .iinc 3 (-1), []), (77, 3, .goto (-13), [4])], 0),
 ([(80, 1, .iconst 0, []), (81, 1, .istore_n 3, [])], 6),
 ([(82, 1, .iload_n 3, []), (83, 1, .iload_n 2, []), (84, 3, .if_icmp .ge 102, [10]), (87, 1, .aload_n 0, []), (88, 1, .iload_n 3, []), (89, 1, .iload_n 1, []), (90, 1, .iconst 1, []), (91, 1, .iadd, []), (92, 3, .invokevirtual 133, [66, 1024, 2]), (95, 1, .aload_n 0, []), (96, 3, .getfield 31, [4, 2, 517]), (99, 1, .aload_n 0, []), (100, 3, .getfield 12, [4, 1, 516]), (103, 1, .aload_n 0, []), (104, 3, .getfield 12, [4, 1, 516]), (107, 3, .getfield 67, [5, 7, 227]), (110, 1, .iconst 0, []), (111, 3, .invokevirtual 70, [36, 977, 3]), (114, 1, .aload_n 0, []), (115, 3, .getfield 31, [4, 2, 517]), (118, 3, .getfield 76, [3, 17, 469]), (121, 3, .ifCond .eq 13, [7]), (124, 1, .aload_n 0, []), (125, 1, .dup, []), (126, 3, .getfield 130, [4, 12, 530]), (129, 1, .iconst 1, []), (130, 1, .iadd, []), (131, 3, .putfield 130, [4, 12, 530])], 7),
 ([(134, 1, .iconst 0, []), (135, 2, .istore 4, [])], 8),
 ([(137, 2, .iload 4, []), (139, 2, .bipush 8, []), (141, 3, .if_icmp .ge 39, [9]), (144, 1, .aload_n 0, []), (145, 3, .getfield 22, [4, 11, 528]), (148, 2, .iload 4, []), (150, 1, .aload_n 0, []), (151, 3, .getfield 22, [4, 11, 528]), (154, 2, .iload 4, []), (156, 1, .iaload, []), (157, 1, .aload_n 0, []), (158, 3, .getfield 31, [4, 2, 517]), (161, 3, .getfield 136, [3, 1, 446]), (164, 2, .iload 4, []), (166, 1, .aaload, []), (167, 3, .invokevirtual 140, [11, 1028, 0]), (170, 3, .invokestatic 145, [1002, 1029]), (173, 1, .iastore, []), (174, 3, .iinc 4 1, []), (177, 3, .goto (-40), [8])], 0),
 ([(180, 3, .iinc 3 1, []), (183, 3, .goto (-101), [6])], 0),
 ([(186, 1, .return_, [])], 0)]
def bk_66 : List Bk := [([(0, 1, .iload_n 1, []), (1, 1, .istore_n 3, []), (2, 1, .iconst 0, []), (3, 2, .istore 4, [])], 1),
 ([(5, 2, .iload 4, []), (7, 2, .bipush 8, []), (9, 3, .if_icmp .ge 42, [3]), (12, 1, .iload_n 2, []), (13, 3, .ifCond .le 38, [3]), (16, 1, .aload_n 0, []), (17, 3, .getfield 28, [4, 0, 515]), (20, 2, .iload 4, []), (22, 3, .invokevirtual 90, [78, 971, 1]), (25, 3, .ifCond .eq 20, [2]), (28, 1, .aload_n 0, []), (29, 3, .getfield 12, [4, 1, 516]), (32, 3, .getfield 151, [5, 3, 213]), (35, 2, .iload 4, []), (37, 1, .iload_n 3, []), (38, 1, .iload_n 2, []), (39, 1, .irem, []), (40, 1, .iastore, []), (41, 1, .iload_n 3, []), (42, 1, .iload_n 2, []), (43, 1, .idiv, []), (44, 1, .istore_n 3, [])], 2),
 ([(45, 3, .iinc 4 1, []), (48, 3, .goto (-43), [1])], 0),
 ([(51, 1, .return_, [])], 0)]
def bk_67 : List Bk := [([(0, 1, .aload_n 0, []), (1, 3, .getfield 12, [4, 1, 516]), (4, 1, .aload_n 0, []), (5, 3, .getfield 28, [4, 0, 515]), (8, 3, .invokevirtual 52, [75, 963, 1]), (11, 1, .iconst 0, []), (12, 1, .istore_n 2, []), (13, 1, .iconst 0, []), (14, 1, .istore_n 3, [])], 1),
 ([(15, 1, .iload_n 3, []), (16, 1, .iconst 2, []), (17, 3, .if_icmp .gt 60, [5]), (20, 1, .iconst 0, []), (21, 2, .istore 4, [])], 2),
 ([(23, 2, .iload 4, []), (25, 1, .iconst 2, []), (26, 3, .if_icmp .gt 45, [4]), (29, 1, .aload_n 0, []), (30, 3, .getfield 12, [4, 1, 516]), (33, 1, .iload_n 3, []), (34, 3, .putfield 154, [5, 4, 217]), (37, 1, .aload_n 0, []), (38, 3, .getfield 12, [4, 1, 516]), (41, 2, .iload 4, []), (43, 3, .putfield 157, [5, 5, 221]), (46, 1, .aload_n 0, []), (47, 1, .aload_n 1, []), (48, 3, .invokevirtual 160, [68, 1045, 1]), (51, 3, .ifCond .eq 14, [3]), (54, 1, .iload_n 2, []), (55, 1, .iconst 1, []), (56, 1, .iconst 3, []), (57, 1, .iload_n 3, []), (58, 1, .imul, []), (59, 2, .iload 4, []), (61, 1, .iadd, []), (62, 1, .ishl, []), (63, 1, .ior, []), (64, 1, .istore_n 2, [])], 3),
 ([(65, 3, .iinc 4 1, []), (68, 3, .goto (-45), [2])], 0),
 ([(71, 3, .iinc 3 1, []), (74, 3, .goto (-59), [1])], 0),
 ([(77, 1, .iload_n 2, []), (78, 1, .ireturn, [])], 0)]
def bk_68 : List Bk := [([(0, 1, .aload_n 1, []), (1, 3, .getfield 164, [6, 2, 335]), (4, 1, .aload_n 0, []), (5, 3, .getfield 12, [4, 1, 516]), (8, 3, .getfield 67, [5, 7, 227]), (11, 3, .invokestatic 169, [1003, 1049]), (14, 1, .istore_n 2, []), (15, 1, .aload_n 0, []), (16, 3, .getfield 31, [4, 2, 517]), (19, 1, .aload_n 0, []), (20, 3, .getfield 12, [4, 1, 516]), (23, 1, .iload_n 2, []), (24, 1, .iconst 0, []), (25, 3, .invokevirtual 70, [36, 977, 3]), (28, 1, .iconst 0, []), (29, 1, .istore_n 3, [])], 1),
 ([(30, 1, .iload_n 3, []), (31, 1, .iload_n 2, []), (32, 3, .if_icmp .ge 58, [6]), (35, 1, .aload_n 1, []), (36, 1, .iload_n 3, []), (37, 3, .invokevirtual 172, [87, 1050, 1]), (40, 2, .istore 4, []), (42, 2, .iload 4, []), (44, 1, .iconst (-1), []), (45, 3, .if_icmp .eq 11, [2]), (48, 2, .iload 4, []), (50, 3, .invokestatic 87, [125, 976, 1]), (53, 3, .ifCond .eq 7, [3])], 2),
 ([(56, 1, .iconst 1, []), (57, 3, .goto 4, [4])], 0),
 ([(60, 1, .iconst 0, [])], 4),
 ([(61, 2, .istore 5, []), (63, 2, .iload 5, []), (65, 3, .ifCond .eq 19, [5]), (68, 2, .iload 4, []), (70, 1, .aload_n 0, []), (71, 3, .getfield 31, [4, 2, 517]), (74, 1, .iload_n 3, []), (75, 1, .iconst 0, []), (76, 3, .invokevirtual 175, [50, 1054, 2]), (79, 3, .if_icmp .eq 5, [5]), (82, 1, .iconst 0, []), (83, 1, .ireturn, [])], 0),
 ([(84, 3, .iinc 3 1, []), (87, 3, .goto (-57), [1])], 0),
 ([(90, 1, .iconst 1, []), (91, 1, .ireturn, [])], 0)]
def bk_69 : List Bk := [([(0, 1, .aload_n 0, []), (1, 3, .getfield 46, [4, 13, 532]), (4, 3, .ifCond .eq 4, [1]), (7, 1, .return_, [])], 0),
 ([(8, 1, .aload_n 0, []), (9, 1, .iconst 1, []), (10, 3, .putfield 46, [4, 13, 532]), (13, 1, .aload_n 0, []), (14, 3, .getfield 12, [4, 1, 516]), (17, 1, .aload_n 0, []), (18, 3, .getfield 28, [4, 0, 515]), (21, 3, .invokevirtual 52, [75, 963, 1]), (24, 1, .iconst 0, []), (25, 1, .istore_n 1, [])], 2),
 ([(26, 1, .iload_n 1, []), (27, 1, .iconst 2, []), (28, 3, .if_icmp .gt 166, [11]), (31, 1, .iconst 0, []), (32, 1, .istore_n 2, [])], 3),
 ([(33, 1, .iload_n 2, []), (34, 2, .bipush 9, []), (36, 3, .if_icmp .ge 152, [10]), (39, 1, .aload_n 0, []), (40, 3, .getfield 12, [4, 1, 516]), (43, 1, .iload_n 2, []), (44, 1, .iconst 3, []), (45, 1, .idiv, []), (46, 3, .putfield 154, [5, 4, 217]), (49, 1, .aload_n 0, []), (50, 3, .getfield 12, [4, 1, 516]), (53, 1, .iload_n 2, []), (54, 1, .iconst 3, []), (55, 1, .irem, []), (56, 3, .putfield 157, [5, 5, 221]), (59, 1, .iload_n 1, []), (60, 1, .aload_n 0, []), (61, 3, .invokevirtual 178, [70, 1063, 0]), (64, 1, .isub, []), (65, 1, .istore_n 3, []), (66, 1, .iload_n 3, []), (67, 3, .ifCond .ne 14, [4]), (70, 1, .aload_n 0, []), (71, 1, .iload_n 1, []), (72, 1, .iconst (-1), []), (73, 1, .iconst (-1), []), (74, 3, .invokevirtual 181, [71, 1067, 3]), (77, 3, .ifCond .eq 4, [4]), (80, 1, .return_, [])], 0),
 ([(81, 1, .iload_n 3, []), (82, 1, .iconst 1, []), (83, 3, .if_icmp .ne 17, [5]), (86, 1, .aload_n 0, []), (87, 3, .getfield 12, [4, 1, 516]), (90, 3, .invokevirtual 79, [79, 978, 0]), (93, 3, .ifCond .eq 7, [5]), (96, 1, .iconst 1, []), (97, 3, .goto 4, [6])], 0),
 ([(100, 1, .iconst 0, [])], 6),
 ([(101, 2, .istore 4, []), (103, 1, .iconst 0, []), (104, 2, .istore 5, [])], 7),
 ([(106, 2, .iload 4, []), (108, 3, .ifCond .eq 74, [9]), (111, 2, .iload 5, []), (113, 2, .bipush 64, []), (115, 3, .if_icmp .ge 67, [9]), (118, 2, .iload 5, []), (120, 2, .bipush 8, []), (122, 1, .idiv, []), (123, 2, .istore 6, []), (125, 2, .iload 5, []), (127, 2, .bipush 8, []), (129, 1, .irem, []), (130, 2, .istore 7, []), (132, 2, .iload 6, []), (134, 2, .iload 7, []), (136, 3, .if_icmp .ge 40, [8]), (139, 1, .aload_n 0, []), (140, 3, .getfield 28, [4, 0, 515]), (143, 2, .iload 6, []), (145, 3, .invokevirtual 90, [78, 971, 1]), (148, 3, .ifCond .eq 28, [8]), (151, 1, .aload_n 0, []), (152, 3, .getfield 28, [4, 0, 515]), (155, 2, .iload 7, []), (157, 3, .invokevirtual 90, [78, 971, 1]), (160, 3, .ifCond .eq 16, [8]), (163, 1, .aload_n 0, []), (164, 1, .iload_n 1, []), (165, 2, .iload 6, []), (167, 2, .iload 7, []), (169, 3, .invokevirtual 181, [71, 1067, 3]), (172, 3, .ifCond .eq 4, [8]), (175, 1, .return_, [])], 0),
 ([(176, 3, .iinc 5 1, []), (179, 3, .goto (-73), [7])], 0),
 ([(182, 3, .iinc 2 1, []), (185, 3, .goto (-152), [3])], 0),
 ([(188, 3, .iinc 1 1, []), (191, 3, .goto (-165), [2])], 0),
 ([(194, 1, .aload_n 0, []), (195, 1, .iconst (-1), []), (196, 1, .iconst (-1), []), (197, 1, .iconst (-1), []), (198, 3, .invokevirtual 185, [73, 1075, 3]), (201, 1, .return_, [])], 0)]
def bk_70 : List Bk := [([(0, 1, .aload_n 0, []), (1, 3, .getfield 12, [4, 1, 516]), (4, 3, .getfield 154, [5, 4, 217]), (7, 1, .aload_n 0, []), (8, 3, .getfield 28, [4, 0, 515]), (11, 3, .getfield 154, [5, 4, 217]), (14, 3, .if_icmp .ne 7, [1]), (17, 1, .iconst 0, []), (18, 3, .goto 4, [2])], 0),
 ([(21, 1, .iconst 1, [])], 2),
 ([(22, 1, .istore_n 1, []), (23, 1, .aload_n 0, []), (24, 3, .getfield 12, [4, 1, 516]), (27, 3, .getfield 157, [5, 5, 221]), (30, 1, .aload_n 0, []), (31, 3, .getfield 28, [4, 0, 515]), (34, 3, .getfield 157, [5, 5, 221]), (37, 3, .if_icmp .ne 7, [3]), (40, 1, .iload_n 1, []), (41, 3, .goto 6, [4])], 0),
 ([(44, 1, .iload_n 1, []), (45, 1, .iconst 1, []), (46, 1, .iadd, [])], 4),
 ([(47, 1, .ireturn, [])], 0)]
def bk_71 : List Bk := [([(0, 1, .aload_n 0, []), (1, 1, .iload_n 2, []), (2, 1, .iload_n 3, []), (3, 3, .invokevirtual 189, [72, 1071, 2]), (6, 1, .aload_n 0, []), (7, 3, .getfield 31, [4, 2, 517]), (10, 1, .aload_n 0, []), (11, 3, .getfield 12, [4, 1, 516]), (14, 1, .aload_n 0, []), (15, 3, .getfield 12, [4, 1, 516]), (18, 3, .getfield 67, [5, 7, 227]), (21, 1, .iconst 1, []), (22, 3, .invokevirtual 70, [36, 977, 3]), (25, 1, .aload_n 0, []), (26, 1, .iload_n 2, []), (27, 1, .iload_n 3, []), (28, 3, .invokevirtual 189, [72, 1071, 2]), (31, 1, .aload_n 0, []), (32, 3, .getfield 31, [4, 2, 517]), (35, 3, .getfield 76, [3, 17, 469]), (38, 3, .ifCond .ne 14, [1]), (41, 1, .aload_n 0, []), (42, 3, .getfield 31, [4, 2, 517]), (45, 3, .getfield 192, [3, 15, 465]), (48, 1, .iconst (-1), []), (49, 3, .if_icmp .eq 5, [2])], 1),
 ([(52, 1, .iconst 0, []), (53, 1, .ireturn, [])], 0),
 ([(54, 1, .aload_n 0, []), (55, 1, .iload_n 1, []), (56, 1, .iload_n 2, []), (57, 1, .iload_n 3, []), (58, 3, .invokevirtual 185, [73, 1075, 3]), (61, 1, .iconst 1, []), (62, 1, .ireturn, [])], 0)]
def bk_72 : List Bk := [([(0, 1, .iload_n 1, []), (1, 3, .invokestatic 87, [125, 976, 1]), (4, 3, .ifCond .eq 48, [1]), (7, 1, .iload_n 2, []), (8, 3, .invokestatic 87, [125, 976, 1]), (11, 3, .ifCond .eq 41, [1]), (14, 1, .aload_n 0, []), (15, 3, .getfield 12, [4, 1, 516]), (18, 3, .getfield 60, [5, 1, 205]), (21, 1, .iload_n 1, []), (22, 1, .iaload, []), (23, 1, .istore_n 3, []), (24, 1, .aload_n 0, []), (25, 3, .getfield 12, [4, 1, 516]), (28, 3, .getfield 60, [5, 1, 205]), (31, 1, .iload_n 1, []), (32, 1, .aload_n 0, []), (33, 3, .getfield 12, [4, 1, 516]), (36, 3, .getfield 60, [5, 1, 205]), (39, 1, .iload_n 2, []), (40, 1, .iaload, []), (41, 1, .iastore, []), (42, 1, .aload_n 0, []), (43, 3, .getfield 12, [4, 1, 516]), (46, 3, .getfield 60, [5, 1, 205]), (49, 1, .iload_n 2, []), (50, 1, .iload_n 3, []), (51, 1, .iastore, [])], 1),
 ([(52, 1, .return_, [])], 0)]
def bk_73 : List Bk := [([(0, 1, .aload_n 0, []), (1, 3, .getfield 25, [4, 14, 533]), (4, 1, .iconst 0, []), (5, 1, .iload_n 1, []), (6, 1, .iastore, []), (7, 1, .aload_n 0, []), (8, 3, .getfield 25, [4, 14, 533]), (11, 1, .iconst 1, []), (12, 1, .aload_n 0, []), (13, 3, .getfield 12, [4, 1, 516]), (16, 3, .getfield 154, [5, 4, 217]), (19, 1, .iastore, []), (20, 1, .aload_n 0, []), (21, 3, .getfield 25, [4, 14, 533]), (24, 1, .iconst 2, []), (25, 1, .aload_n 0, []), (26, 3, .getfield 12, [4, 1, 516]), (29, 3, .getfield 157, [5, 5, 221]), (32, 1, .iastore, []), (33, 1, .aload_n 0, []), (34, 3, .getfield 25, [4, 14, 533]), (37, 1, .iconst 3, []), (38, 1, .iload_n 2, []), (39, 1, .iastore, []), (40, 1, .aload_n 0, []), (41, 3, .getfield 25, [4, 14, 533]), (44, 1, .iconst 4, []), (45, 1, .iload_n 3, []), (46, 1, .iastore, []), (47, 1, .return_, [])], 0)]
def bk_74 : List Bk := [([(0, 1, .aload_n 0, []), (1, 3, .invokespecial 3, [1001, 199]), (4, 1, .aload_n 0, []), (5, 2, .bipush 8, []), (7, 2, .newarray .int, []), (9, 3, .putfield 9, [5, 1, 204]), (12, 1, .aload_n 0, []), (13, 2, .bipush 8, []), (15, 2, .newarray .int, []), (17, 3, .putfield 15, [5, 2, 208]), (20, 1, .aload_n 0, []), (21, 2, .bipush 8, []), (23, 2, .newarray .int, []), (25, 3, .putfield 18, [5, 3, 211]), (28, 1, .aload_n 0, []), (29, 1, .iconst 1, []), (30, 3, .putfield 21, [5, 6, 222]), (33, 1, .aload_n 0, []), (34, 2, .bipush 60, []), (36, 3, .putfield 25, [5, 7, 226]), (39, 1, .aload_n 0, []), (40, 1, .iconst (-1), []), (41, 3, .putfield 28, [5, 8, 229]), (44, 1, .aload_n 0, []), (45, 1, .iconst (-1), []), (46, 3, .putfield 31, [5, 9, 232]), (49, 1, .iconst 0, []), (50, 1, .istore_n 1, [])], 1),
 ([(51, 1, .iload_n 1, []), (52, 2, .bipush 8, []), (54, 3, .if_icmp .ge 26, [2]), (57, 1, .aload_n 0, []), (58, 3, .getfield 9, [5, 1, 204]), (61, 1, .iload_n 1, []), (62, 2, .bipush 10, []), (64, 1, .iload_n 1, []), (65, 1, .isub, []), (66, 1, .iastore, []), (67, 1, .aload_n 0, []), (68, 3, .getfield 15, [5, 2, 208]), (71, 1, .iload_n 1, []), (72, 1, .iconst 1, []), (73, 1, .iastore, []), (74, 3, .iinc 1 1, []), (77, 3, .goto (-26), [1])], 0),
 ([(80, 1, .return_, [])], 0)]
def bk_75 : List Bk := [([(0, 1, .aload_n 0, []), (1, 1, .aload_n 1, []), (2, 3, .getfield 34, [5, 0, 200]), (5, 3, .putfield 34, [5, 0, 200]), (8, 1, .iconst 0, []), (9, 1, .istore_n 2, [])], 1),
 ([(10, 1, .iload_n 2, []), (11, 2, .bipush 8, []), (13, 3, .if_icmp .ge 45, [2]), (16, 1, .aload_n 0, []), (17, 3, .getfield 9, [5, 1, 204]), (20, 1, .iload_n 2, []), (21, 1, .aload_n 1, []), (22, 3, .getfield 9, [5, 1, 204]), (25, 1, .iload_n 2, []), (26, 1, .iaload, []), (27, 1, .iastore, []), (28, 1, .aload_n 0, []), (29, 3, .getfield 15, [5, 2, 208]), (32, 1, .iload_n 2, []), (33, 1, .aload_n 1, []), (34, 3, .getfield 15, [5, 2, 208]), (37, 1, .iload_n 2, []), (38, 1, .iaload, []), (39, 1, .iastore, []), (40, 1, .aload_n 0, []), (41, 3, .getfield 18, [5, 3, 211]), (44, 1, .iload_n 2, []), (45, 1, .aload_n 1, []), (46, 3, .getfield 18, [5, 3, 211]), (49, 1, .iload_n 2, []), (50, 1, .iaload, []), (51, 1, .iastore, []), (52, 3, .iinc 2 1, []), (55, 3, .goto (-45), [1])], 0),
 ([(58, 1, .aload_n 0, []), (59, 1, .aload_n 1, []), (60, 3, .getfield 37, [5, 4, 215]), (63, 3, .putfield 37, [5, 4, 215]), (66, 1, .aload_n 0, []), (67, 1, .aload_n 1, []), (68, 3, .getfield 40, [5, 5, 219]), (71, 3, .putfield 40, [5, 5, 219]), (74, 1, .aload_n 0, []), (75, 1, .aload_n 1, []), (76, 3, .getfield 21, [5, 6, 222]), (79, 3, .putfield 21, [5, 6, 222]), (82, 1, .aload_n 0, []), (83, 1, .aload_n 1, []), (84, 3, .getfield 25, [5, 7, 226]), (87, 3, .putfield 25, [5, 7, 226]), (90, 1, .aload_n 0, []), (91, 1, .aload_n 1, []), (92, 3, .getfield 28, [5, 8, 229]), (95, 3, .putfield 28, [5, 8, 229]), (98, 1, .aload_n 0, []), (99, 1, .aload_n 1, []), (100, 3, .getfield 31, [5, 9, 232]), (103, 3, .putfield 31, [5, 9, 232]), (106, 1, .aload_n 0, []), (107, 1, .aload_n 1, []), (108, 3, .getfield 43, [5, 10, 235]), (111, 3, .putfield 43, [5, 10, 235]), (114, 1, .return_, [])], 0)]
def bk_76 : List Bk := [([(0, 1, .iload_n 1, []), (1, 27, .tableswitch 42 0 2 #[27, 32, 37], [4, 1, 2, 3])], 0),
 ([(28, 1, .aload_n 0, []), (29, 3, .getfield 37, [5, 4, 215]), (32, 1, .ireturn, [])], 0),
 ([(33, 1, .aload_n 0, []), (34, 3, .getfield 40, [5, 5, 219]), (37, 1, .ireturn, [])], 0),
 ([(38, 1, .aload_n 0, []), (39, 3, .getfield 21, [5, 6, 222]), (42, 1, .ireturn, [])], 0),
 ([(43, 1, .aload_n 0, []), (44, 3, .getfield 25, [5, 7, 226]), (47, 1, .ireturn, [])], 0)]
def bk_77 : List Bk := [([(0, 1, .iload_n 1, []), (1, 27, .tableswitch 51 0 2 #[27, 35, 43], [4, 1, 2, 3])], 0),
 ([(28, 1, .aload_n 0, []), (29, 1, .iload_n 2, []), (30, 3, .putfield 37, [5, 4, 215]), (33, 3, .goto 24, [5])], 0),
 ([(36, 1, .aload_n 0, []), (37, 1, .iload_n 2, []), (38, 3, .putfield 40, [5, 5, 219]), (41, 3, .goto 16, [5])], 0),
 ([(44, 1, .aload_n 0, []), (45, 1, .iload_n 2, []), (46, 3, .putfield 21, [5, 6, 222]), (49, 3, .goto 8, [5])], 0),
 ([(52, 1, .aload_n 0, []), (53, 1, .iload_n 2, []), (54, 3, .putfield 25, [5, 7, 226])], 5),
 ([(57, 1, .return_, [])], 0)]
def bk_78 : List Bk := [([(0, 1, .aload_n 0, []), (1, 3, .getfield 34, [5, 0, 200]), (4, 1, .iload_n 1, []), (5, 1, .ishr, []), (6, 1, .iconst 1, []), (7, 1, .iand, []), (8, 3, .ifCond .eq 7, [1]), (11, 1, .iconst 1, []), (12, 3, .goto 4, [2])], 0),
 ([(15, 1, .iconst 0, [])], 2),
 ([(16, 1, .ireturn, [])], 0)]
def bk_79 : List Bk := [([(0, 1, .aload_n 0, []), (1, 3, .getfield 37, [5, 4, 215]), (4, 3, .ifCond .eq 11, [1]), (7, 1, .aload_n 0, []), (8, 3, .getfield 40, [5, 5, 219]), (11, 1, .iconst 2, []), (12, 3, .if_icmp .ne 7, [2])], 1),
 ([(15, 1, .iconst 1, []), (16, 3, .goto 4, [3])], 0),
 ([(19, 1, .iconst 0, [])], 3),
 ([(20, 1, .ireturn, [])], 0)]
def bk_80 : List Bk := [([(0, 1, .iload_n 1, []), (1, 3, .invokestatic 46, [125, 888, 1]), (4, 3, .ifCond .eq 12, [1]), (7, 1, .aload_n 0, []), (8, 3, .getfield 9, [5, 1, 204]), (11, 1, .iload_n 1, []), (12, 1, .iaload, []), (13, 3, .goto 4, [2])], 0),
 ([(16, 1, .iconst 0, [])], 2),
 ([(17, 1, .ireturn, [])], 0)]
def bk_81 : List Bk := [([(0, 1, .iconst 0, []), (1, 1, .istore_n 2, []), (2, 1, .iconst 0, []), (3, 1, .istore_n 3, [])], 1),
 ([(4, 1, .iload_n 3, []), (5, 2, .bipush 8, []), (7, 3, .if_icmp .ge 29, [3]), (10, 1, .aload_n 0, []), (11, 3, .getfield 9, [5, 1, 204]), (14, 1, .iload_n 3, []), (15, 1, .iaload, []), (16, 1, .aload_n 0, []), (17, 1, .iload_n 1, []), (18, 3, .invokevirtual 50, [80, 884, 1]), (21, 3, .if_icmp .ge 9, [2]), (24, 1, .iload_n 2, []), (25, 1, .iconst 1, []), (26, 1, .iload_n 3, []), (27, 1, .ishl, []), (28, 1, .ior, []), (29, 1, .istore_n 2, [])], 2),
 ([(30, 3, .iinc 3 1, []), (33, 3, .goto (-29), [1])], 0),
 ([(36, 1, .iload_n 2, []), (37, 1, .ireturn, [])], 0)]
def bk_82 : List Bk := [([(0, 1, .iload_n 1, []), (1, 1, .iload_n 2, []), (2, 3, .if_icmp .eq 11, [1]), (5, 1, .aload_n 0, []), (6, 1, .iload_n 1, []), (7, 3, .invokevirtual 54, [78, 927, 1]), (10, 3, .ifCond .ne 5, [2])], 1),
 ([(13, 1, .iconst 0, []), (14, 1, .ireturn, [])], 0),
 ([(15, 1, .aload_n 0, []), (16, 1, .iload_n 1, []), (17, 3, .invokevirtual 50, [80, 884, 1]), (20, 1, .aload_n 0, []), (21, 1, .iload_n 2, []), (22, 3, .invokevirtual 50, [80, 884, 1]), (25, 1, .isub, []), (26, 1, .istore_n 3, []), (27, 1, .iload_n 3, []), (28, 3, .ifCond .gt 12, [3]), (31, 1, .iload_n 3, []), (32, 3, .ifCond .ne 12, [4]), (35, 1, .iload_n 1, []), (36, 1, .iload_n 2, []), (37, 3, .if_icmp .ge 7, [4])], 3),
 ([(40, 1, .iconst 1, []), (41, 3, .goto 4, [5])], 0),
 ([(44, 1, .iconst 0, [])], 5),
 ([(45, 1, .ireturn, [])], 0)]
def bk_83 : List Bk := [([(0, 1, .aload_n 0, []), (1, 3, .invokespecial 3, [1001, 329]), (4, 1, .aload_n 0, []), (5, 1, .iconst 1, []), (6, 3, .putfield 9, [6, 0, 330]), (9, 1, .aload_n 0, []), (10, 2, .bipush 60, []), (12, 2, .newarray .int, []), (14, 3, .putfield 15, [6, 3, 337]), (17, 1, .return_, [])], 0)]
def bk_84 : List Bk := [([(0, 1, .aload_n 0, []), (1, 1, .iconst 0, []), (2, 3, .putfield 9, [6, 0, 330]), (5, 1, .aload_n 0, []), (6, 1, .iload_n 1, []), (7, 3, .putfield 19, [6, 1, 332]), (10, 1, .aload_n 0, []), (11, 1, .iload_n 2, []), (12, 3, .putfield 23, [6, 2, 334]), (15, 1, .iconst 0, []), (16, 1, .istore_n 3, [])], 1),
 ([(17, 1, .iload_n 3, []), (18, 2, .bipush 60, []), (20, 3, .if_icmp .ge 16, [2]), (23, 1, .aload_n 0, []), (24, 3, .getfield 15, [6, 3, 337]), (27, 1, .iload_n 3, []), (28, 1, .iconst 0, []), (29, 1, .iastore, []), (30, 3, .iinc 3 1, []), (33, 3, .goto (-16), [1])], 0),
 ([(36, 1, .return_, [])], 0)]
def bk_85 : List Bk := [([(0, 1, .aload_n 0, []), (1, 3, .getfield 9, [6, 0, 330]), (4, 3, .ifCond .eq 5, [1]), (7, 1, .iconst 1, []), (8, 1, .ireturn, [])], 0),
 ([(9, 1, .iload_n 1, []), (10, 1, .aload_n 0, []), (11, 3, .getfield 19, [6, 1, 332]), (14, 3, .if_icmp .eq 5, [2]), (17, 1, .iconst 3, []), (18, 1, .ireturn, [])], 0),
 ([(19, 1, .iload_n 2, []), (20, 3, .ifCond .lt 11, [3]), (23, 1, .iload_n 2, []), (24, 1, .aload_n 0, []), (25, 3, .getfield 23, [6, 2, 334]), (28, 3, .if_icmp .lt 7, [4])], 3),
 ([(31, 1, .iconst 2, []), (32, 3, .goto 4, [5])], 0),
 ([(35, 1, .iconst (-1), [])], 5),
 ([(36, 1, .ireturn, [])], 0)]
def bk_86 : List Bk := [([(0, 1, .iload_n 1, []), (1, 3, .ifCond .lt 21, [1]), (4, 1, .iload_n 2, []), (5, 3, .ifCond .lt 17, [1]), (8, 1, .iload_n 2, []), (9, 1, .aload_n 0, []), (10, 3, .getfield 23, [6, 2, 334]), (13, 1, .iload_n 1, []), (14, 1, .isub, []), (15, 3, .if_icmp .gt 7, [1]), (18, 1, .iconst 1, []), (19, 3, .goto 4, [2])], 0),
 ([(22, 1, .iconst 0, [])], 2),
 ([(23, 1, .ireturn, [])], 0)]
def bk_87 : List Bk := [([(0, 1, .iload_n 1, []), (1, 3, .ifCond .lt 26, [1]), (4, 1, .iload_n 1, []), (5, 1, .aload_n 0, []), (6, 3, .getfield 23, [6, 2, 334]), (9, 3, .if_icmp .ge 18, [1]), (12, 1, .iload_n 1, []), (13, 2, .bipush 60, []), (15, 3, .if_icmp .ge 12, [1]), (18, 1, .aload_n 0, []), (19, 3, .getfield 15, [6, 3, 337]), (22, 1, .iload_n 1, []), (23, 1, .iaload, []), (24, 3, .goto 4, [2])], 0),
 ([(27, 1, .iconst 0, [])], 2),
 ([(28, 1, .ireturn, [])], 0)]
def bk_88 : List Bk := [([(0, 1, .iload_n 1, []), (1, 3, .ifCond .lt 17, [1]), (4, 1, .iload_n 1, []), (5, 1, .aload_n 0, []), (6, 3, .getfield 23, [6, 2, 334]), (9, 3, .if_icmp .ge 9, [1]), (12, 1, .iload_n 1, []), (13, 2, .bipush 60, []), (15, 3, .if_icmp .lt 4, [2])], 1),
 ([(18, 1, .return_, [])], 0),
 ([(19, 1, .aload_n 0, []), (20, 3, .getfield 19, [6, 1, 332]), (23, 3, .ifCond .ne 14, [3]), (26, 1, .aload_n 0, []), (27, 3, .getfield 15, [6, 3, 337]), (30, 1, .iload_n 1, []), (31, 1, .iload_n 2, []), (32, 1, .i2b, []), (33, 1, .iastore, []), (34, 3, .goto 23, [6])], 0),
 ([(37, 1, .aload_n 0, []), (38, 3, .getfield 15, [6, 3, 337]), (41, 1, .iload_n 1, []), (42, 1, .aload_n 0, []), (43, 3, .getfield 19, [6, 1, 332]), (46, 1, .iconst 1, []), (47, 3, .if_icmp .ne 8, [4]), (50, 1, .iload_n 2, []), (51, 1, .i2s, []), (52, 3, .goto 4, [5])], 0),
 ([(55, 1, .iload_n 2, [])], 5),
 ([(56, 1, .iastore, [])], 6),
 ([(57, 1, .return_, [])], 0)]
def bk_89 : List Bk := [([(0, 1, .aload_n 0, []), (1, 3, .invokespecial 3, [1001, 170]), (4, 1, .aload_n 0, []), (5, 2, .bipush 6, []), (7, 2, .newarray .int, []), (9, 3, .putfield 9, [7, 2, 176]), (12, 1, .aload_n 0, []), (13, 2, .bipush 6, []), (15, 2, .newarray .int, []), (17, 3, .putfield 15, [7, 3, 178]), (20, 1, .aload_n 0, []), (21, 2, .bipush 6, []), (23, 2, .newarray .int, []), (25, 3, .putfield 18, [7, 4, 179]), (28, 1, .return_, [])], 0)]
def bk_90 : List Bk := [([(0, 1, .aload_n 0, []), (1, 3, .getfield 21, [7, 0, 171]), (4, 3, .ifCond .lt 12, [1]), (7, 1, .aload_n 0, []), (8, 3, .getfield 21, [7, 0, 171]), (11, 2, .bipush 6, []), (13, 3, .if_icmp .lt 5, [2])], 1),
 ([(16, 1, .iconst (-1), []), (17, 1, .ireturn, [])], 0),
 ([(18, 1, .aload_n 0, []), (19, 3, .getfield 9, [7, 2, 176]), (22, 1, .aload_n 0, []), (23, 3, .getfield 21, [7, 0, 171]), (26, 1, .iload_n 2, []), (27, 1, .iastore, []), (28, 1, .aload_n 0, []), (29, 1, .aload_n 0, []), (30, 3, .getfield 21, [7, 0, 171]), (33, 1, .iconst 1, []), (34, 1, .iconst 0, []), (35, 3, .invokevirtual 25, [91, 605, 3]), (38, 1, .iload_n 1, []), (39, 1, .iconst 2, []), (40, 3, .if_icmp .ne 18, [3]), (43, 1, .aload_n 0, []), (44, 1, .dup, []), (45, 3, .getfield 29, [7, 1, 173]), (48, 1, .iconst 1, []), (49, 1, .aload_n 0, []), (50, 3, .getfield 21, [7, 0, 171]), (53, 1, .ishl, []), (54, 1, .ior, []), (55, 3, .putfield 29, [7, 1, 173])], 3),
 ([(58, 1, .aload_n 0, []), (59, 1, .dup, []), (60, 3, .getfield 21, [7, 0, 171]), (63, 1, .iconst 1, []), (64, 1, .iadd, []), (65, 3, .putfield 21, [7, 0, 171]), (68, 1, .aload_n 0, []), (69, 3, .getfield 21, [7, 0, 171]), (72, 1, .iconst 1, []), (73, 1, .isub, []), (74, 1, .ireturn, [])], 0)]
def bk_91 : List Bk := [([(0, 1, .iload_n 1, []), (1, 3, .ifCond .lt 23, [1]), (4, 1, .iload_n 1, []), (5, 2, .bipush 6, []), (7, 3, .if_icmp .ge 17, [1]), (10, 1, .aload_n 0, []), (11, 3, .getfield 15, [7, 3, 178]), (14, 1, .iload_n 1, []), (15, 1, .iload_n 2, []), (16, 1, .iastore, []), (17, 1, .aload_n 0, []), (18, 3, .getfield 18, [7, 4, 179]), (21, 1, .iload_n 1, []), (22, 1, .iload_n 3, []), (23, 1, .iastore, [])], 1),
 ([(24, 1, .return_, [])], 0)]
def bk_92 : List Bk := [([(0, 1, .iconst 0, []), (1, 1, .istore_n 2, []), (2, 1, .iconst 0, []), (3, 1, .istore_n 3, [])], 1),
 ([(4, 1, .iload_n 3, []), (5, 1, .aload_n 0, []), (6, 3, .getfield 21, [7, 0, 171]), (9, 3, .if_icmp .ge 41, [3]), (12, 1, .iload_n 3, []), (13, 2, .bipush 6, []), (15, 3, .if_icmp .ge 35, [3]), (18, 1, .aload_n 0, []), (19, 3, .getfield 15, [7, 3, 178]), (22, 1, .iload_n 3, []), (23, 1, .iaload, []), (24, 1, .iload_n 1, []), (25, 3, .if_icmp .gt 19, [2]), (28, 1, .iload_n 1, []), (29, 1, .aload_n 0, []), (30, 3, .getfield 18, [7, 4, 179]), (33, 1, .iload_n 3, []), (34, 1, .iaload, []), (35, 3, .if_icmp .gt 9, [2]), (38, 1, .iload_n 2, []), (39, 1, .iconst 1, []), (40, 1, .iload_n 3, []), (41, 1, .ishl, []), (42, 1, .ior, []), (43, 1, .istore_n 2, [])], 2),
 ([(44, 3, .iinc 3 1, []), (47, 3, .goto (-43), [1])], 0),
 ([(50, 1, .iload_n 2, []), (51, 1, .ireturn, [])], 0)]
def bk_93 : List Bk := [([(0, 1, .aload_n 0, []), (1, 3, .invokespecial 1, [1001, 162]), (4, 1, .aload_n 0, []), (5, 3, .new 7, [7, 165]), (8, 1, .dup, []), (9, 3, .invokespecial 9, [89, 167, 0]), (12, 3, .putfield 10, [8, 0, 566]), (15, 1, .aload_n 0, []), (16, 2, .bipush 8, []), (18, 3, .anewarray 16, [13, 192]), (21, 3, .putfield 18, [8, 1, 567]), (24, 1, .aload_n 0, []), (25, 3, .new 22, [5, 194]), (28, 1, .dup, []), (29, 3, .invokespecial 24, [74, 196, 0]), (32, 3, .putfield 25, [8, 2, 568]), (35, 1, .aload_n 0, []), (36, 1, .iconst 4, []), (37, 3, .anewarray 29, [14, 261]), (40, 3, .putfield 31, [8, 6, 572]), (43, 1, .iconst 0, []), (44, 1, .istore_n 1, [])], 1),
 ([(45, 1, .iload_n 1, []), (46, 2, .bipush 8, []), (48, 3, .if_icmp .ge 22, [2]), (51, 1, .aload_n 0, []), (52, 3, .getfield 18, [8, 1, 567]), (55, 1, .iload_n 1, []), (56, 3, .new 16, [1, 192]), (59, 1, .dup, []), (60, 3, .invokespecial 35, [13, 264, 0]), (63, 1, .aastore, []), (64, 3, .iinc 1 1, []), (67, 3, .goto (-22), [1])], 0),
 ([(70, 1, .iconst 0, []), (71, 1, .istore_n 1, [])], 3),
 ([(72, 1, .iload_n 1, []), (73, 1, .iconst 4, []), (74, 3, .if_icmp .ge 22, [4]), (77, 1, .aload_n 0, []), (78, 3, .getfield 31, [8, 6, 572]), (81, 1, .iload_n 1, []), (82, 3, .new 29, [6, 261]), (85, 1, .dup, []), (86, 3, .invokespecial 36, [83, 326, 0]), (89, 1, .aastore, []), (90, 3, .iinc 1 1, []), (93, 3, .goto (-21), [3])], 0),
 ([(96, 1, .aload_n 0, []), (97, 3, .new 37, [2, 348]), (100, 1, .dup, []), (101, 1, .aload_n 0, []), (102, 3, .getfield 10, [8, 0, 566]), (105, 1, .aload_n 0, []), (106, 3, .getfield 18, [8, 1, 567]), (109, 1, .aload_n 0, []), (110, 3, .getfield 25, [8, 2, 568]), (113, 3, .invokespecial 39, [29, 350, 3]), (116, 3, .putfield 42, [8, 3, 569]), (119, 1, .aload_n 0, []), (120, 3, .new 46, [3, 364]), (123, 1, .dup, []), (124, 1, .aload_n 0, []), (125, 3, .getfield 10, [8, 0, 566]), (128, 1, .aload_n 0, []), (129, 3, .getfield 18, [8, 1, 567]), (132, 3, .invokespecial 48, [35, 366, 2]), (135, 3, .putfield 51, [8, 4, 570]), (138, 1, .aload_n 0, []), (139, 3, .new 55, [4, 507]), (142, 1, .dup, []), (143, 1, .aload_n 0, []), (144, 3, .getfield 25, [8, 2, 568]), (147, 3, .new 46, [3, 364]), (150, 1, .dup, []), (151, 1, .aload_n 0, []), (152, 3, .getfield 10, [8, 0, 566]), (155, 1, .aload_n 0, []), (156, 3, .getfield 18, [8, 1, 567]), (159, 3, .invokespecial 48, [35, 366, 2]), (162, 3, .invokespecial 57, [54, 509, 2]), (165, 3, .putfield 60, [8, 5, 571]), (168, 1, .return_, [])], 0)]
def bk_94 : List Bk := [([(0, 1, .iload_n 1, []), (1, 3, .ifCond .lt 8, [1]), (4, 1, .iload_n 1, []), (5, 1, .iconst 2, []), (6, 3, .if_icmp .le 6, [2])], 1),
 ([(9, 2, .bipush (-2), []), (11, 1, .ireturn, [])], 0),
 ([(12, 1, .iload_n 1, []), (13, 1, .iconst 1, []), (14, 3, .if_icmp .ne 21, [5]), (17, 1, .iload_n 2, []), (18, 1, .iconst 2, []), (19, 3, .if_icmp .eq 8, [3]), (22, 1, .iload_n 2, []), (23, 1, .iconst 3, []), (24, 3, .if_icmp .ne 7, [4])], 3),
 ([(27, 1, .iconst 1, []), (28, 3, .goto 17, [7])], 0),
 ([(31, 1, .iconst 0, []), (32, 3, .goto 13, [7])], 0),
 ([(35, 1, .iload_n 2, []), (36, 1, .iconst 1, []), (37, 3, .if_icmp .ne 7, [6]), (40, 1, .iconst 1, []), (41, 3, .goto 4, [7])], 0),
 ([(44, 1, .iconst 0, [])], 7),
 ([(45, 1, .istore_n 3, []), (46, 1, .iload_n 3, []), (47, 3, .ifCond .ne 6, [8]), (50, 2, .bipush (-2), []), (52, 1, .ireturn, [])], 0),
 ([(53, 1, .aload_n 0, []), (54, 3, .getfield 10, [8, 0, 566]), (57, 3, .getfield 64, [7, 0, 172]), (60, 2, .bipush 6, []), (62, 3, .if_icmp .lt 6, [9]), (65, 2, .bipush (-4), []), (67, 1, .ireturn, [])], 0),
 ([(68, 1, .aload_n 0, []), (69, 3, .getfield 10, [8, 0, 566]), (72, 1, .iload_n 1, []), (73, 1, .iload_n 2, []), (74, 3, .invokevirtual 68, [90, 601, 2]), (77, 2, .istore 4, []), (79, 1, .iconst 0, []), (80, 2, .istore 5, [])], 10),
 ([(82, 2, .iload 5, []), (84, 2, .bipush 8, []), (86, 3, .if_icmp .ge 26, [11]), (89, 1, .aload_n 0, []), (90, 3, .getfield 18, [8, 1, 567]), (93, 2, .iload 5, []), (95, 1, .aaload, []), (96, 1, .aload_n 0, []), (97, 3, .getfield 10, [8, 0, 566]), (100, 3, .getfield 64, [7, 0, 172]), (103, 3, .invokevirtual 72, [15, 609, 1]), (106, 3, .iinc 5 1, []), (109, 3, .goto (-27), [10])], 0),
 ([(112, 1, .aload_n 0, []), (113, 3, .invokevirtual 76, [134, 648, 0]), (116, 2, .iload 4, []), (118, 1, .ireturn, [])], 0)]
def bk_95 : List Bk := [([(0, 1, .iload_n 1, []), (1, 3, .ifCond .lt 28, [1]), (4, 1, .iload_n 1, []), (5, 1, .aload_n 0, []), (6, 3, .getfield 10, [8, 0, 566]), (9, 3, .getfield 64, [7, 0, 172]), (12, 3, .if_icmp .ge 17, [1]), (15, 1, .iload_n 2, []), (16, 3, .invokestatic 79, [128, 660, 1]), (19, 3, .ifCond .eq 10, [1]), (22, 1, .iload_n 3, []), (23, 3, .invokestatic 79, [128, 660, 1]), (26, 3, .ifCond .ne 6, [2])], 1),
 ([(29, 2, .bipush (-2), []), (31, 1, .ireturn, [])], 0),
 ([(32, 1, .aload_n 0, []), (33, 3, .getfield 10, [8, 0, 566]), (36, 1, .iload_n 1, []), (37, 1, .iload_n 2, []), (38, 1, .iload_n 3, []), (39, 3, .invokevirtual 83, [91, 663, 3]), (42, 1, .aload_n 0, []), (43, 3, .invokevirtual 76, [134, 648, 0]), (46, 1, .iconst 1, []), (47, 1, .ireturn, [])], 0)]
def bk_96 : List Bk := [([(0, 1, .iload_n 1, []), (1, 3, .invokestatic 87, [125, 668, 1]), (4, 3, .ifCond .eq 14, [1]), (7, 1, .iload_n 2, []), (8, 3, .ifCond .lt 10, [1]), (11, 1, .iload_n 2, []), (12, 3, .sipush 255, []), (15, 3, .if_icmp .le 6, [2])], 1),
 ([(18, 2, .bipush (-2), []), (20, 1, .ireturn, [])], 0),
 ([(21, 1, .aload_n 0, []), (22, 3, .getfield 18, [8, 1, 567]), (25, 1, .iload_n 1, []), (26, 1, .aaload, []), (27, 1, .astore_n 3, []), (28, 1, .aload_n 3, []), (29, 3, .getfield 90, [1, 1, 270]), (32, 2, .bipush 60, []), (34, 3, .if_icmp .lt 6, [3]), (37, 2, .bipush (-4), []), (39, 1, .ireturn, [])], 0),
 ([(40, 1, .aload_n 3, []), (41, 1, .iload_n 2, []), (42, 3, .invokevirtual 93, [14, 671, 1]), (45, 1, .aload_n 3, []), (46, 1, .aload_n 0, []), (47, 3, .getfield 10, [8, 0, 566]), (50, 3, .getfield 64, [7, 0, 172]), (53, 3, .invokevirtual 72, [15, 609, 1]), (56, 1, .aload_n 0, []), (57, 3, .invokevirtual 76, [134, 648, 0]), (60, 1, .aload_n 3, []), (61, 3, .getfield 90, [1, 1, 270]), (64, 1, .ireturn, [])], 0)]
def bk_97 : List Bk := [([(0, 1, .iload_n 1, []), (1, 3, .invokestatic 87, [125, 668, 1]), (4, 3, .ifCond .ne 6, [1]), (7, 2, .bipush (-2), []), (9, 1, .ireturn, [])], 0),
 ([(10, 1, .aload_n 0, []), (11, 3, .getfield 18, [8, 1, 567]), (14, 1, .iload_n 1, []), (15, 1, .aaload, []), (16, 1, .astore_n 2, []), (17, 1, .aload_n 2, []), (18, 3, .getfield 90, [1, 1, 270]), (21, 1, .istore_n 3, []), (22, 1, .aload_n 2, []), (23, 1, .iconst 0, []), (24, 3, .putfield 90, [1, 1, 270]), (27, 1, .aload_n 2, []), (28, 1, .aload_n 0, []), (29, 3, .getfield 10, [8, 0, 566]), (32, 3, .getfield 64, [7, 0, 172]), (35, 3, .invokevirtual 72, [15, 609, 1]), (38, 1, .aload_n 0, []), (39, 3, .invokevirtual 76, [134, 648, 0]), (42, 1, .iload_n 3, []), (43, 1, .ireturn, [])], 0)]
def bk_98 : List Bk := [([(0, 1, .iload_n 1, []), (1, 3, .invokestatic 87, [125, 668, 1]), (4, 3, .ifCond .eq 15, [1]), (7, 1, .aload_n 0, []), (8, 3, .getfield 18, [8, 1, 567]), (11, 1, .iload_n 1, []), (12, 1, .aaload, []), (13, 3, .getfield 96, [1, 3, 273]), (16, 3, .goto 5, [2])], 0),
 ([(19, 2, .bipush (-2), [])], 2),
 ([(21, 1, .ireturn, [])], 0)]
def bk_99 : List Bk := [([(0, 1, .iload_n 1, []), (1, 3, .invokestatic 87, [125, 668, 1]), (4, 3, .ifCond .eq 13, [1]), (7, 1, .iload_n 2, []), (8, 3, .ifCond .lt 9, [1]), (11, 1, .iload_n 2, []), (12, 2, .bipush 8, []), (14, 3, .if_icmp .le 6, [2])], 1),
 ([(17, 2, .bipush (-2), []), (19, 1, .ireturn, [])], 0),
 ([(20, 1, .aload_n 0, []), (21, 3, .getfield 18, [8, 1, 567]), (24, 1, .iload_n 1, []), (25, 1, .aaload, []), (26, 1, .astore_n 3, []), (27, 1, .iload_n 2, []), (28, 1, .iconst 5, []), (29, 3, .if_icmp .gt 14, [3]), (32, 1, .aload_n 3, []), (33, 3, .getfield 96, [1, 3, 273]), (36, 1, .iconst (-1), []), (37, 3, .if_icmp .eq 6, [3]), (40, 2, .bipush (-3), []), (42, 1, .ireturn, [])], 0),
 ([(43, 1, .iload_n 2, []), (44, 48, .tableswitch 98 0 7 #[48, 53, 58, 63, 68, 73, 78, 88], [12, 4, 5, 6, 7, 8, 9, 10, 11])], 0),
 ([(92, 1, .aload_n 3, []), (93, 3, .getfield 99, [1, 4, 277]), (96, 1, .ireturn, [])], 0),
 ([(97, 1, .aload_n 3, []), (98, 3, .getfield 102, [1, 5, 280]), (101, 1, .ireturn, [])], 0),
 ([(102, 1, .aload_n 3, []), (103, 3, .getfield 105, [1, 6, 283]), (106, 1, .ireturn, [])], 0),
 ([(107, 1, .aload_n 3, []), (108, 3, .getfield 108, [1, 10, 292]), (111, 1, .ireturn, [])], 0),
 ([(112, 1, .aload_n 3, []), (113, 3, .getfield 111, [1, 9, 287]), (116, 1, .ireturn, [])], 0),
 ([(117, 1, .aload_n 3, []), (118, 3, .getfield 114, [1, 12, 297]), (121, 1, .ireturn, [])], 0),
 ([(122, 1, .aload_n 0, []), (123, 3, .getfield 25, [8, 2, 568]), (126, 3, .getfield 117, [5, 1, 207]), (129, 1, .iload_n 1, []), (130, 1, .iaload, []), (131, 1, .ireturn, [])], 0),
 ([(132, 1, .aload_n 0, []), (133, 3, .getfield 25, [8, 2, 568]), (136, 3, .getfield 121, [5, 2, 209]), (139, 1, .iload_n 1, []), (140, 1, .iaload, []), (141, 1, .ireturn, [])], 0),
 ([(142, 1, .aload_n 0, []), (143, 3, .getfield 25, [8, 2, 568]), (146, 1, .iload_n 1, []), (147, 3, .invokevirtual 124, [78, 687, 1]), (150, 3, .ifCond .eq 7, [13]), (153, 1, .iconst 1, []), (154, 3, .goto 4, [14])], 0),
 ([(157, 1, .iconst 0, [])], 14),
 ([(158, 1, .ireturn, [])], 0)]
def bk_100 : List Bk := [([(0, 1, .iload_n 1, []), (1, 3, .invokestatic 87, [125, 668, 1]), (4, 3, .ifCond .eq 22, [1]), (7, 1, .iload_n 2, []), (8, 3, .ifCond .lt 18, [1]), (11, 1, .iload_n 2, []), (12, 1, .iconst 1, []), (13, 3, .if_icmp .gt 13, [1]), (16, 1, .iload_n 3, []), (17, 3, .ifCond .lt 9, [1]), (20, 1, .iload_n 3, []), (21, 2, .bipush 99, []), (23, 3, .if_icmp .le 6, [2])], 1),
 ([(26, 2, .bipush (-2), []), (28, 1, .ireturn, [])], 0),
 ([(29, 1, .iload_n 2, []), (30, 3, .ifCond .ne 13, [3]), (33, 1, .aload_n 0, []), (34, 3, .getfield 25, [8, 2, 568]), (37, 3, .getfield 117, [5, 1, 207]), (40, 3, .goto 10, [4])], 0),
 ([(43, 1, .aload_n 0, []), (44, 3, .getfield 25, [8, 2, 568]), (47, 3, .getfield 121, [5, 2, 209])], 4),
 ([(50, 2, .astore 4, []), (52, 2, .aload 4, []), (54, 1, .iload_n 1, []), (55, 1, .iaload, []), (56, 2, .istore 5, []), (58, 2, .aload 4, []), (60, 1, .iload_n 1, []), (61, 1, .iload_n 3, []), (62, 1, .iastore, []), (63, 1, .aload_n 0, []), (64, 3, .invokevirtual 76, [134, 648, 0]), (67, 2, .iload 5, []), (69, 1, .ireturn, [])], 0)]
def bk_101 : List Bk := [([(0, 1, .iload_n 1, []), (1, 3, .invokestatic 87, [125, 668, 1]), (4, 3, .ifCond .ne 6, [1]), (7, 2, .bipush (-2), []), (9, 1, .ireturn, [])], 0),
 ([(10, 1, .aload_n 0, []), (11, 3, .getfield 127, [8, 8, 574]), (14, 1, .iload_n 1, []), (15, 1, .ishr, []), (16, 1, .iconst 1, []), (17, 1, .iand, []), (18, 3, .ifCond .eq 7, [2]), (21, 1, .iconst 1, []), (22, 3, .goto 4, [3])], 0),
 ([(25, 1, .iconst 0, [])], 3),
 ([(26, 1, .iload_n 2, []), (27, 3, .if_icmp .ne 5, [4]), (30, 1, .iconst 0, []), (31, 1, .ireturn, [])], 0),
 ([(32, 1, .aload_n 0, []), (33, 1, .dup, []), (34, 3, .getfield 127, [8, 8, 574]), (37, 1, .iconst 1, []), (38, 1, .iload_n 1, []), (39, 1, .ishl, []), (40, 1, .ixor, []), (41, 3, .putfield 127, [8, 8, 574]), (44, 1, .aload_n 0, []), (45, 3, .invokevirtual 76, [134, 648, 0]), (48, 1, .iconst 1, []), (49, 1, .ireturn, [])], 0)]
def bk_102 : List Bk := [([(0, 1, .iload_n 1, []), (1, 3, .ifCond .lt 24, [1]), (4, 1, .iload_n 1, []), (5, 1, .iconst 3, []), (6, 3, .if_icmp .gt 19, [1]), (9, 1, .iload_n 2, []), (10, 1, .iload_n 1, []), (11, 3, .invokestatic 130, [129, 703, 1]), (14, 3, .if_icmp .lt 11, [1]), (17, 1, .iload_n 2, []), (18, 1, .iload_n 1, []), (19, 3, .invokestatic 134, [130, 706, 1]), (22, 3, .if_icmp .le 6, [2])], 1),
 ([(25, 2, .bipush (-2), []), (27, 1, .ireturn, [])], 0),
 ([(28, 1, .aload_n 0, []), (29, 3, .getfield 25, [8, 2, 568]), (32, 1, .iload_n 1, []), (33, 3, .invokevirtual 137, [76, 709, 1]), (36, 1, .istore_n 3, []), (37, 1, .aload_n 0, []), (38, 3, .getfield 25, [8, 2, 568]), (41, 1, .iload_n 1, []), (42, 1, .iload_n 2, []), (43, 3, .invokevirtual 140, [77, 713, 2]), (46, 1, .aload_n 0, []), (47, 3, .invokevirtual 76, [134, 648, 0]), (50, 1, .iload_n 3, []), (51, 1, .ireturn, [])], 0)]
def bk_103 : List Bk := [([(0, 1, .aload_n 0, []), (1, 1, .iload_n 1, []), (2, 3, .invokevirtual 144, [131, 721, 1]), (5, 3, .ifCond .eq 18, [1]), (8, 1, .iload_n 2, []), (9, 3, .ifCond .lt 14, [1]), (12, 1, .iload_n 2, []), (13, 1, .aload_n 0, []), (14, 3, .getfield 25, [8, 2, 568]), (17, 3, .getfield 147, [5, 6, 225]), (20, 3, .if_icmp .lt 6, [2])], 1),
 ([(23, 2, .bipush (-2), []), (25, 1, .ireturn, [])], 0),
 ([(26, 1, .aload_n 0, []), (27, 3, .invokevirtual 150, [135, 725, 0]), (30, 1, .aload_n 0, []), (31, 3, .getfield 51, [8, 4, 570]), (34, 1, .iload_n 1, []), (35, 1, .iload_n 2, []), (36, 3, .invokevirtual 153, [50, 836, 2]), (39, 1, .ireturn, [])], 0)]
def bk_104 : List Bk := [([(0, 1, .iload_n 1, []), (1, 3, .invokestatic 87, [125, 668, 1]), (4, 3, .ifCond .eq 11, [1]), (7, 1, .aload_n 0, []), (8, 1, .iload_n 2, []), (9, 3, .invokevirtual 144, [131, 721, 1]), (12, 3, .ifCond .ne 6, [2])], 1),
 ([(15, 2, .bipush (-2), []), (17, 1, .ireturn, [])], 0),
 ([(18, 1, .aload_n 0, []), (19, 3, .invokevirtual 150, [135, 725, 0]), (22, 1, .aload_n 0, []), (23, 3, .getfield 51, [8, 4, 570]), (26, 1, .iload_n 1, []), (27, 1, .iload_n 2, []), (28, 3, .invokevirtual 156, [51, 844, 2]), (31, 1, .ireturn, [])], 0)]
def bk_105 : List Bk := [([(0, 1, .iload_n 1, []), (1, 3, .invokestatic 87, [125, 668, 1]), (4, 3, .ifCond .eq 7, [1]), (7, 1, .iload_n 2, []), (8, 3, .ifCond .ge 6, [2])], 1),
 ([(11, 2, .bipush (-2), []), (13, 1, .ireturn, [])], 0),
 ([(14, 1, .aload_n 0, []), (15, 3, .invokevirtual 150, [135, 725, 0]), (18, 1, .aload_n 0, []), (19, 3, .getfield 51, [8, 4, 570]), (22, 3, .getfield 159, [3, 1, 447]), (25, 1, .iload_n 1, []), (26, 1, .aaload, []), (27, 1, .iload_n 2, []), (28, 3, .invokevirtual 163, [8, 852, 1]), (31, 1, .ireturn, [])], 0)]
def bk_106 : List Bk := [([(0, 1, .iload_n 1, []), (1, 3, .invokestatic 87, [125, 668, 1]), (4, 3, .ifCond .eq 13, [1]), (7, 1, .iload_n 2, []), (8, 3, .ifCond .lt 9, [1]), (11, 1, .iload_n 2, []), (12, 2, .bipush 6, []), (14, 3, .if_icmp .le 6, [2])], 1),
 ([(17, 2, .bipush (-2), []), (19, 1, .ireturn, [])], 0),
 ([(20, 1, .aload_n 0, []), (21, 3, .invokevirtual 150, [135, 725, 0]), (24, 1, .aload_n 0, []), (25, 3, .getfield 51, [8, 4, 570]), (28, 3, .getfield 159, [3, 1, 447]), (31, 1, .iload_n 1, []), (32, 1, .aaload, []), (33, 1, .astore_n 3, []), (34, 1, .iload_n 2, []), (35, 37, .tableswitch 96 0 5 #[37, 42, 47, 59, 64, 80], [9, 3, 4, 5, 6, 7, 8])], 0),
 ([(72, 1, .aload_n 3, []), (73, 3, .getfield 168, [0, 6, 388]), (76, 1, .ireturn, [])], 0),
 ([(77, 1, .aload_n 3, []), (78, 3, .invokevirtual 171, [9, 860, 0]), (81, 1, .ireturn, [])], 0),
 ([(82, 1, .aload_n 3, []), (83, 1, .aload_n 0, []), (84, 3, .getfield 25, [8, 2, 568]), (87, 3, .getfield 175, [5, 7, 228]), (90, 3, .invokevirtual 178, [10, 865, 1]), (93, 1, .ireturn, [])], 0),
 ([(94, 1, .aload_n 3, []), (95, 3, .invokevirtual 181, [11, 869, 0]), (98, 1, .ireturn, [])], 0),
 ([(99, 1, .aload_n 0, []), (100, 3, .getfield 51, [8, 4, 570]), (103, 1, .aload_n 0, []), (104, 3, .getfield 51, [8, 4, 570]), (107, 3, .getfield 184, [3, 2, 449]), (110, 1, .iload_n 1, []), (111, 3, .invokevirtual 187, [52, 876, 2]), (114, 1, .ireturn, [])], 0),
 ([(115, 1, .aload_n 0, []), (116, 3, .getfield 51, [8, 4, 570]), (119, 1, .aload_n 0, []), (120, 3, .getfield 51, [8, 4, 570]), (123, 3, .getfield 191, [3, 3, 451]), (126, 1, .iload_n 1, []), (127, 3, .invokevirtual 187, [52, 876, 2]), (130, 1, .ireturn, [])], 0),
 ([(131, 1, .aload_n 0, []), (132, 3, .getfield 51, [8, 4, 570]), (135, 1, .iload_n 1, []), (136, 1, .aload_n 0, []), (137, 3, .getfield 25, [8, 2, 568]), (140, 1, .iload_n 1, []), (141, 3, .invokevirtual 194, [81, 880, 1]), (144, 3, .invokevirtual 197, [53, 889, 2]), (147, 1, .ireturn, [])], 0)]
def bk_107 : List Bk := [([(0, 1, .aload_n 0, []), (1, 3, .invokevirtual 150, [135, 725, 0]), (4, 1, .iconst 0, []), (5, 1, .istore_n 1, []), (6, 1, .iconst 0, []), (7, 1, .istore_n 2, [])], 1),
 ([(8, 1, .iload_n 2, []), (9, 2, .bipush 8, []), (11, 3, .if_icmp .ge 31, [2]), (14, 1, .iload_n 1, []), (15, 1, .aload_n 0, []), (16, 3, .getfield 51, [8, 4, 570]), (19, 3, .getfield 159, [3, 1, 447]), (22, 1, .iload_n 2, []), (23, 1, .aaload, []), (24, 1, .aload_n 0, []), (25, 3, .getfield 25, [8, 2, 568]), (28, 3, .getfield 175, [5, 7, 228]), (31, 3, .invokevirtual 178, [10, 865, 1]), (34, 1, .iadd, []), (35, 1, .istore_n 1, []), (36, 3, .iinc 2 1, []), (39, 3, .goto (-31), [1])], 0),
 ([(42, 1, .iload_n 1, []), (43, 1, .ireturn, [])], 0)]
def bk_108 : List Bk := [([(0, 1, .iload_n 1, []), (1, 3, .ifCond .lt 8, [1]), (4, 1, .iload_n 1, []), (5, 1, .iconst 1, []), (6, 3, .if_icmp .le 6, [2])], 1),
 ([(9, 2, .bipush (-2), []), (11, 1, .ireturn, [])], 0),
 ([(12, 1, .aload_n 0, []), (13, 3, .invokevirtual 150, [135, 725, 0]), (16, 1, .iload_n 1, []), (17, 3, .ifCond .ne 13, [3]), (20, 1, .aload_n 0, []), (21, 3, .getfield 51, [8, 4, 570]), (24, 3, .getfield 200, [3, 15, 464]), (27, 3, .goto 10, [4])], 0),
 ([(30, 1, .aload_n 0, []), (31, 3, .getfield 51, [8, 4, 570]), (34, 3, .getfield 203, [3, 16, 467])], 4),
 ([(37, 1, .ireturn, [])], 0)]
def bk_109 : List Bk := [([(0, 1, .iload_n 1, []), (1, 3, .invokestatic 87, [125, 668, 1]), (4, 3, .ifCond .ne 6, [1]), (7, 2, .bipush (-2), []), (9, 1, .ireturn, [])], 0),
 ([(10, 1, .aload_n 0, []), (11, 3, .getfield 42, [8, 3, 569]), (14, 1, .iload_n 1, []), (15, 3, .invokevirtual 206, [30, 905, 1]), (18, 3, .ifCond .eq 14, [2]), (21, 1, .aload_n 0, []), (22, 3, .getfield 42, [8, 3, 569]), (25, 1, .iload_n 1, []), (26, 3, .invokevirtual 209, [33, 910, 1]), (29, 3, .goto 5, [3])], 0),
 ([(32, 2, .bipush (-3), [])], 3),
 ([(34, 1, .ireturn, [])], 0)]
def bk_110 : List Bk := [([(0, 1, .iload_n 1, []), (1, 3, .invokestatic 87, [125, 668, 1]), (4, 3, .ifCond .ne 6, [1]), (7, 2, .bipush (-2), []), (9, 1, .ireturn, [])], 0),
 ([(10, 1, .aload_n 0, []), (11, 3, .getfield 42, [8, 3, 569]), (14, 1, .iload_n 1, []), (15, 3, .invokevirtual 206, [30, 905, 1]), (18, 3, .ifCond .eq 14, [2]), (21, 1, .aload_n 0, []), (22, 3, .getfield 42, [8, 3, 569]), (25, 1, .iload_n 1, []), (26, 3, .invokevirtual 212, [32, 948, 1]), (29, 3, .goto 5, [3])], 0),
 ([(32, 2, .bipush (-3), [])], 3),
 ([(34, 1, .ireturn, [])], 0)]
def bk_111 : List Bk := [([(0, 1, .aload_n 0, []), (1, 3, .getfield 25, [8, 2, 568]), (4, 3, .getfield 215, [5, 0, 203]), (7, 3, .invokestatic 218, [226, 953, 1]), (10, 1, .istore_n 2, []), (11, 1, .iload_n 1, []), (12, 3, .ifCond .lt 8, [1]), (15, 1, .iload_n 1, []), (16, 1, .iload_n 2, []), (17, 3, .if_icmp .lt 6, [2])], 1),
 ([(20, 2, .bipush (-2), []), (22, 1, .ireturn, [])], 0),
 ([(23, 1, .iload_n 2, []), (24, 1, .iconst 5, []), (25, 3, .if_icmp .le 6, [3]), (28, 2, .bipush (-4), []), (30, 1, .ireturn, [])], 0),
 ([(31, 1, .aload_n 0, []), (32, 3, .getfield 60, [8, 5, 571]), (35, 3, .invokevirtual 223, [56, 959, 0]), (38, 1, .aload_n 0, []), (39, 3, .getfield 60, [8, 5, 571]), (42, 1, .iload_n 1, []), (43, 3, .invokevirtual 226, [57, 990, 1]), (46, 1, .ireturn, [])], 0)]
def bk_112 : List Bk := [([(0, 1, .iload_n 1, []), (1, 3, .invokestatic 87, [125, 668, 1]), (4, 3, .ifCond .eq 17, [1]), (7, 1, .aload_n 0, []), (8, 3, .getfield 18, [8, 1, 567]), (11, 1, .iload_n 1, []), (12, 1, .aaload, []), (13, 1, .iload_n 2, []), (14, 3, .invokevirtual 229, [25, 998, 1]), (17, 1, .iconst 1, []), (18, 3, .if_icmp .eq 6, [2])], 1),
 ([(21, 2, .bipush (-2), []), (23, 1, .ireturn, [])], 0),
 ([(24, 1, .aload_n 0, []), (25, 3, .getfield 25, [8, 2, 568]), (28, 1, .iload_n 1, []), (29, 3, .invokevirtual 124, [78, 687, 1]), (32, 3, .ifCond .eq 15, [3]), (35, 1, .aload_n 0, []), (36, 3, .getfield 60, [8, 5, 571]), (39, 1, .iload_n 1, []), (40, 1, .iload_n 2, []), (41, 3, .invokevirtual 232, [62, 999, 2]), (44, 3, .goto 5, [4])], 0),
 ([(47, 2, .bipush (-3), [])], 4),
 ([(49, 1, .ireturn, [])], 0)]
def bk_113 : List Bk := [([(0, 1, .iload_n 1, []), (1, 3, .ifCond .lt 8, [1]), (4, 1, .iload_n 1, []), (5, 1, .iconst 1, []), (6, 3, .if_icmp .le 6, [2])], 1),
 ([(9, 2, .bipush (-2), []), (11, 1, .ireturn, [])], 0),
 ([(12, 1, .aload_n 0, []), (13, 3, .getfield 60, [8, 5, 571]), (16, 3, .invokevirtual 235, [63, 1007, 0]), (19, 1, .iload_n 1, []), (20, 3, .ifCond .ne 13, [3]), (23, 1, .aload_n 0, []), (24, 3, .getfield 60, [8, 5, 571]), (27, 3, .getfield 238, [4, 7, 523]), (30, 3, .goto 10, [4])], 0),
 ([(33, 1, .aload_n 0, []), (34, 3, .getfield 60, [8, 5, 571]), (37, 3, .getfield 241, [4, 8, 525])], 4),
 ([(40, 1, .ireturn, [])], 0)]
def bk_114 : List Bk := [([(0, 1, .iload_n 1, []), (1, 3, .invokestatic 87, [125, 668, 1]), (4, 3, .ifCond .eq 22, [1]), (7, 1, .iload_n 2, []), (8, 1, .iconst 1, []), (9, 3, .if_icmp .lt 17, [1]), (12, 1, .iload_n 2, []), (13, 1, .iconst 3, []), (14, 3, .if_icmp .gt 12, [1]), (17, 1, .iload_n 3, []), (18, 3, .ifCond .lt 8, [1]), (21, 1, .iload_n 3, []), (22, 1, .iconst 1, []), (23, 3, .if_icmp .le 6, [2])], 1),
 ([(26, 2, .bipush (-2), []), (28, 1, .ireturn, [])], 0),
 ([(29, 1, .aload_n 0, []), (30, 3, .getfield 25, [8, 2, 568]), (33, 3, .getfield 215, [5, 0, 203]), (36, 3, .invokestatic 218, [226, 953, 1]), (39, 1, .iconst 4, []), (40, 3, .if_icmp .le 6, [3]), (43, 2, .bipush (-4), []), (45, 1, .ireturn, [])], 0),
 ([(46, 1, .aload_n 0, []), (47, 3, .getfield 60, [8, 5, 571]), (50, 1, .iload_n 2, []), (51, 3, .invokevirtual 244, [65, 1020, 1]), (54, 1, .iload_n 3, []), (55, 3, .ifCond .ne 15, [4]), (58, 1, .aload_n 0, []), (59, 3, .getfield 60, [8, 5, 571]), (62, 3, .getfield 247, [4, 11, 529]), (65, 1, .iload_n 1, []), (66, 1, .iaload, []), (67, 3, .goto 10, [5])], 0),
 ([(70, 1, .aload_n 0, []), (71, 3, .getfield 60, [8, 5, 571]), (74, 3, .getfield 250, [4, 12, 531])], 5),
 ([(77, 1, .ireturn, [])], 0)]
def bk_115 : List Bk := [([(0, 1, .iload_n 1, []), (1, 3, .invokestatic 253, [126, 1034, 1]), (4, 3, .ifCond .ne 6, [1]), (7, 2, .bipush (-2), []), (9, 1, .ireturn, [])], 0),
 ([(10, 1, .aload_n 0, []), (11, 3, .getfield 31, [8, 6, 572]), (14, 1, .iload_n 1, []), (15, 1, .aaload, []), (16, 3, .getfield 256, [6, 0, 331]), (19, 3, .ifCond .eq 11, [2]), (22, 1, .aload_n 0, []), (23, 1, .iconst 1, []), (24, 3, .invokevirtual 260, [132, 1037, 1]), (27, 3, .goto 16, [3])], 0),
 ([(30, 1, .aload_n 0, []), (31, 3, .getfield 60, [8, 5, 571]), (34, 1, .aload_n 0, []), (35, 3, .getfield 31, [8, 6, 572]), (38, 1, .iload_n 1, []), (39, 1, .aaload, []), (40, 3, .invokevirtual 263, [67, 1041, 1])], 3),
 ([(43, 1, .ireturn, [])], 0)]
def bk_116 : List Bk := [([(0, 1, .iload_n 1, []), (1, 3, .ifCond .lt 8, [1]), (4, 1, .iload_n 1, []), (5, 1, .iconst 4, []), (6, 3, .if_icmp .le 6, [2])], 1),
 ([(9, 2, .bipush (-2), []), (11, 1, .ireturn, [])], 0),
 ([(12, 1, .aload_n 0, []), (13, 3, .getfield 60, [8, 5, 571]), (16, 3, .invokevirtual 267, [69, 1059, 0]), (19, 1, .iload_n 1, []), (20, 3, .ifCond .le 19, [3]), (23, 1, .aload_n 0, []), (24, 3, .getfield 60, [8, 5, 571]), (27, 3, .getfield 270, [4, 14, 534]), (30, 1, .iconst 0, []), (31, 1, .iaload, []), (32, 1, .iconst (-1), []), (33, 3, .if_icmp .ne 6, [3]), (36, 2, .bipush (-3), []), (38, 1, .ireturn, [])], 0),
 ([(39, 1, .aload_n 0, []), (40, 3, .getfield 60, [8, 5, 571]), (43, 3, .getfield 270, [4, 14, 534]), (46, 1, .iload_n 1, []), (47, 1, .iaload, []), (48, 1, .ireturn, [])], 0)]
def bk_117 : List Bk := [([(0, 1, .iload_n 1, []), (1, 3, .invokestatic 253, [126, 1034, 1]), (4, 3, .ifCond .eq 16, [1]), (7, 1, .iload_n 2, []), (8, 3, .invokestatic 273, [127, 1083, 1]), (11, 3, .ifCond .eq 9, [1]), (14, 1, .iload_n 3, []), (15, 2, .bipush 60, []), (17, 3, .if_icmp .le 6, [2])], 1),
 ([(20, 2, .bipush (-2), []), (22, 1, .ireturn, [])], 0),
 ([(23, 1, .iload_n 3, []), (24, 3, .ifCond .ge 9, [3]), (27, 1, .aload_n 0, []), (28, 1, .iconst 5, []), (29, 3, .invokevirtual 260, [132, 1037, 1]), (32, 1, .ireturn, [])], 0),
 ([(33, 1, .aload_n 0, []), (34, 3, .getfield 31, [8, 6, 572]), (37, 1, .iload_n 1, []), (38, 1, .aaload, []), (39, 1, .iload_n 2, []), (40, 1, .iload_n 3, []), (41, 3, .invokevirtual 276, [84, 1086, 2]), (44, 1, .iload_n 3, []), (45, 1, .ireturn, [])], 0)]
def bk_118 : List Bk := [([(0, 1, .iload_n 1, []), (1, 3, .invokestatic 253, [126, 1034, 1]), (4, 3, .ifCond .ne 6, [1]), (7, 2, .bipush (-2), []), (9, 1, .ireturn, [])], 0),
 ([(10, 1, .aload_n 0, []), (11, 3, .getfield 31, [8, 6, 572]), (14, 1, .iload_n 1, []), (15, 1, .aaload, []), (16, 1, .astore_n 2, []), (17, 1, .aload_n 2, []), (18, 3, .getfield 256, [6, 0, 331]), (21, 3, .ifCond .eq 9, [2]), (24, 1, .aload_n 0, []), (25, 1, .iconst 1, []), (26, 3, .invokevirtual 260, [132, 1037, 1]), (29, 1, .ireturn, [])], 0),
 ([(30, 1, .aload_n 2, []), (31, 1, .iconst 1, []), (32, 3, .putfield 256, [6, 0, 331]), (35, 1, .aload_n 2, []), (36, 3, .getfield 279, [6, 2, 336]), (39, 1, .ireturn, [])], 0)]
def bk_119 : List Bk := [([(0, 1, .iload_n 1, []), (1, 3, .invokestatic 253, [126, 1034, 1]), (4, 3, .ifCond .eq 10, [1]), (7, 1, .iload_n 2, []), (8, 3, .invokestatic 273, [127, 1083, 1]), (11, 3, .ifCond .ne 6, [2])], 1),
 ([(14, 2, .bipush (-2), []), (16, 1, .ireturn, [])], 0),
 ([(17, 1, .aload_n 0, []), (18, 3, .getfield 31, [8, 6, 572]), (21, 1, .iload_n 1, []), (22, 1, .aaload, []), (23, 1, .iload_n 2, []), (24, 1, .iload_n 3, []), (25, 3, .invokevirtual 282, [85, 1098, 2]), (28, 2, .istore 5, []), (30, 2, .iload 5, []), (32, 1, .iconst (-1), []), (33, 3, .if_icmp .eq 10, [3]), (36, 1, .aload_n 0, []), (37, 2, .iload 5, []), (39, 3, .invokevirtual 260, [132, 1037, 1]), (42, 1, .ireturn, [])], 0),
 ([(43, 1, .aload_n 0, []), (44, 3, .getfield 31, [8, 6, 572]), (47, 1, .iload_n 1, []), (48, 1, .aaload, []), (49, 1, .iload_n 3, []), (50, 2, .iload 4, []), (52, 3, .invokevirtual 285, [88, 1102, 2]), (55, 1, .iconst 1, []), (56, 1, .ireturn, [])], 0)]
def bk_120 : List Bk := [([(0, 1, .iload_n 1, []), (1, 3, .invokestatic 253, [126, 1034, 1]), (4, 3, .ifCond .eq 10, [1]), (7, 1, .iload_n 2, []), (8, 3, .invokestatic 273, [127, 1083, 1]), (11, 3, .ifCond .ne 7, [2])], 1),
 ([(14, 3, .ldc_w 288, [0, 2147483648, 1110]), (17, 1, .ireturn, [])], 0),
 ([(18, 1, .aload_n 0, []), (19, 3, .getfield 31, [8, 6, 572]), (22, 1, .iload_n 1, []), (23, 1, .aaload, []), (24, 1, .iload_n 2, []), (25, 1, .iload_n 3, []), (26, 3, .invokevirtual 282, [85, 1098, 2]), (29, 2, .istore 4, []), (31, 2, .iload 4, []), (33, 1, .iconst (-1), []), (34, 3, .if_icmp .eq 13, [3]), (37, 1, .aload_n 0, []), (38, 2, .iload 4, []), (40, 3, .putfield 289, [8, 9, 575]), (43, 3, .ldc_w 288, [0, 2147483648, 1110]), (46, 1, .ireturn, [])], 0),
 ([(47, 1, .aload_n 0, []), (48, 3, .getfield 31, [8, 6, 572]), (51, 1, .iload_n 1, []), (52, 1, .aaload, []), (53, 1, .iload_n 3, []), (54, 3, .invokevirtual 292, [87, 1111, 1]), (57, 1, .ireturn, [])], 0)]
def bk_121 : List Bk := [([(0, 1, .iload_n 1, []), (1, 3, .invokestatic 253, [126, 1034, 1]), (4, 3, .ifCond .eq 10, [1]), (7, 1, .iload_n 3, []), (8, 3, .invokestatic 253, [126, 1034, 1]), (11, 3, .ifCond .ne 6, [2])], 1),
 ([(14, 2, .bipush (-2), []), (16, 1, .ireturn, [])], 0),
 ([(17, 1, .aload_n 0, []), (18, 3, .getfield 31, [8, 6, 572]), (21, 1, .iload_n 1, []), (22, 1, .aaload, []), (23, 2, .astore 6, []), (25, 1, .aload_n 0, []), (26, 3, .getfield 31, [8, 6, 572]), (29, 1, .iload_n 3, []), (30, 1, .aaload, []), (31, 2, .astore 7, []), (33, 2, .aload 6, []), (35, 3, .getfield 256, [6, 0, 331]), (38, 3, .ifCond .ne 11, [3]), (41, 2, .aload 7, []), (43, 3, .getfield 256, [6, 0, 331]), (46, 3, .ifCond .eq 9, [4])], 3),
 ([(49, 1, .aload_n 0, []), (50, 1, .iconst 1, []), (51, 3, .invokevirtual 260, [132, 1037, 1]), (54, 1, .ireturn, [])], 0),
 ([(55, 2, .aload 6, []), (57, 3, .getfield 295, [6, 1, 333]), (60, 2, .aload 7, []), (62, 3, .getfield 295, [6, 1, 333]), (65, 3, .if_icmp .eq 9, [5]), (68, 1, .aload_n 0, []), (69, 1, .iconst 4, []), (70, 3, .invokevirtual 260, [132, 1037, 1]), (73, 1, .ireturn, [])], 0),
 ([(74, 2, .aload 6, []), (76, 1, .iload_n 2, []), (77, 2, .iload 5, []), (79, 3, .invokevirtual 298, [86, 1116, 2]), (82, 3, .ifCond .eq 15, [6]), (85, 2, .aload 7, []), (87, 2, .iload 4, []), (89, 2, .iload 5, []), (91, 3, .invokevirtual 298, [86, 1116, 2]), (94, 3, .ifCond .ne 9, [7])], 6),
 ([(97, 1, .aload_n 0, []), (98, 1, .iconst 2, []), (99, 3, .invokevirtual 260, [132, 1037, 1]), (102, 1, .ireturn, [])], 0),
 ([(103, 2, .aload 6, []), (105, 3, .getfield 302, [6, 3, 338]), (108, 1, .iload_n 2, []), (109, 2, .aload 7, []), (111, 3, .getfield 302, [6, 3, 338]), (114, 2, .iload 4, []), (116, 2, .iload 5, []), (118, 3, .invokestatic 305, [1000, 1120]), (121, 1, .iconst 1, []), (122, 1, .ireturn, [])], 0)]
def bk_122 : List Bk := [([(0, 1, .iload_n 1, []), (1, 3, .invokestatic 253, [126, 1034, 1]), (4, 3, .ifCond .ne 6, [1]), (7, 2, .bipush (-2), []), (9, 1, .ireturn, [])], 0),
 ([(10, 1, .aload_n 0, []), (11, 3, .getfield 31, [8, 6, 572]), (14, 1, .iload_n 1, []), (15, 1, .aaload, []), (16, 1, .astore_n 2, []), (17, 1, .aload_n 2, []), (18, 3, .getfield 256, [6, 0, 331]), (21, 3, .ifCond .eq 9, [2]), (24, 1, .aload_n 0, []), (25, 1, .iconst 1, []), (26, 3, .invokevirtual 260, [132, 1037, 1]), (29, 1, .ireturn, [])], 0),
 ([(30, 1, .aload_n 0, []), (31, 3, .invokevirtual 150, [135, 725, 0]), (34, 1, .aload_n 2, []), (35, 3, .getfield 279, [6, 2, 336]), (38, 1, .aload_n 0, []), (39, 3, .getfield 25, [8, 2, 568]), (42, 3, .getfield 175, [5, 7, 228]), (45, 3, .invokestatic 311, [1003, 1127]), (48, 1, .istore_n 3, []), (49, 1, .iconst 0, []), (50, 2, .istore 4, [])], 3),
 ([(52, 2, .iload 4, []), (54, 1, .iload_n 3, []), (55, 3, .if_icmp .ge 25, [4]), (58, 1, .aload_n 2, []), (59, 2, .iload 4, []), (61, 1, .aload_n 0, []), (62, 3, .getfield 51, [8, 4, 570]), (65, 2, .iload 4, []), (67, 1, .iconst 0, []), (68, 3, .invokevirtual 153, [50, 836, 2]), (71, 3, .invokevirtual 285, [88, 1102, 2]), (74, 3, .iinc 4 1, []), (77, 3, .goto (-25), [3])], 0),
 ([(80, 1, .iload_n 3, []), (81, 1, .ireturn, [])], 0)]
def bk_123 : List Bk := [([(0, 1, .iload_n 1, []), (1, 51, .tableswitch 93 0 8 #[51, 59, 67, 72, 77, 77, 77, 77, 88], [7, 1, 2, 3, 4, 5, 5, 5, 5, 6])], 0),
 ([(52, 1, .aload_n 0, []), (53, 3, .getfield 10, [8, 0, 566]), (56, 3, .getfield 64, [7, 0, 172]), (59, 1, .ireturn, [])], 0),
 ([(60, 1, .aload_n 0, []), (61, 3, .getfield 25, [8, 2, 568]), (64, 3, .getfield 215, [5, 0, 203]), (67, 1, .ireturn, [])], 0),
 ([(68, 1, .aload_n 0, []), (69, 3, .invokevirtual 316, [133, 1132, 0]), (72, 1, .ireturn, [])], 0),
 ([(73, 1, .aload_n 0, []), (74, 3, .getfield 127, [8, 8, 574]), (77, 1, .ireturn, [])], 0),
 ([(78, 1, .aload_n 0, []), (79, 3, .getfield 25, [8, 2, 568]), (82, 1, .iload_n 1, []), (83, 1, .iconst 4, []), (84, 1, .isub, []), (85, 3, .invokevirtual 137, [76, 709, 1]), (88, 1, .ireturn, [])], 0),
 ([(89, 1, .aload_n 0, []), (90, 3, .getfield 289, [8, 9, 575]), (93, 1, .ireturn, [])], 0),
 ([(94, 2, .bipush (-2), []), (96, 1, .ireturn, [])], 0)]
def bk_124 : List Bk := [([(0, 3, .ldc2_w 319, [17, 1140]), (3, 1, .lstore_n 1, []), (4, 1, .iconst 0, []), (5, 1, .istore_n 3, [])], 1),
 ([(6, 1, .iload_n 3, []), (7, 2, .bipush 7, []), (9, 3, .if_icmp .gt 22, [2]), (12, 3, .ldc2_w 321, [31, 1141]), (15, 1, .lload_n 1, []), (16, 1, .lmul, []), (17, 1, .aload_n 0, []), (18, 1, .iload_n 3, []), (19, 3, .invokevirtual 323, [123, 1142, 1]), (22, 1, .i2l, []), (23, 1, .ladd, []), (24, 1, .lstore_n 1, []), (25, 3, .iinc 3 1, []), (28, 3, .goto (-22), [1])], 0),
 ([(31, 1, .iconst 0, []), (32, 1, .istore_n 3, [])], 3),
 ([(33, 1, .iload_n 3, []), (34, 2, .bipush 8, []), (36, 3, .if_icmp .ge 53, [6]), (39, 3, .ldc2_w 321, [31, 1141]), (42, 1, .lload_n 1, []), (43, 1, .lmul, []), (44, 1, .aload_n 0, []), (45, 1, .iload_n 3, []), (46, 3, .invokevirtual 326, [98, 1143, 1]), (49, 1, .i2l, []), (50, 1, .ladd, []), (51, 1, .lstore_n 1, []), (52, 1, .iconst 0, []), (53, 2, .istore 4, [])], 4),
 ([(55, 2, .iload 4, []), (57, 2, .bipush 6, []), (59, 3, .if_icmp .gt 24, [5]), (62, 3, .ldc2_w 321, [31, 1141]), (65, 1, .lload_n 1, []), (66, 1, .lmul, []), (67, 1, .aload_n 0, []), (68, 1, .iload_n 3, []), (69, 2, .iload 4, []), (71, 3, .invokevirtual 328, [106, 1144, 2]), (74, 1, .i2l, []), (75, 1, .ladd, []), (76, 1, .lstore_n 1, []), (77, 3, .iinc 4 1, []), (80, 3, .goto (-25), [4])], 0),
 ([(83, 3, .iinc 3 1, []), (86, 3, .goto (-53), [3])], 0),
 ([(89, 1, .iconst 0, []), (90, 1, .istore_n 3, [])], 7),
 ([(91, 1, .iload_n 3, []), (92, 1, .aload_n 0, []), (93, 3, .getfield 25, [8, 2, 568]), (96, 3, .getfield 175, [5, 7, 228]), (99, 3, .if_icmp .ge 23, [8]), (102, 3, .ldc2_w 321, [31, 1141]), (105, 1, .lload_n 1, []), (106, 1, .lmul, []), (107, 1, .aload_n 0, []), (108, 1, .iload_n 3, []), (109, 1, .iconst 0, []), (110, 3, .invokevirtual 331, [103, 1145, 2]), (113, 1, .i2l, []), (114, 1, .ladd, []), (115, 1, .lstore_n 1, []), (116, 3, .iinc 3 1, []), (119, 3, .goto (-28), [7])], 0),
 ([(122, 3, .ldc2_w 321, [31, 1141]), (125, 1, .lload_n 1, []), (126, 1, .lmul, []), (127, 1, .aload_n 0, []), (128, 3, .invokevirtual 334, [107, 1146, 0]), (131, 1, .i2l, []), (132, 1, .ladd, []), (133, 1, .lstore_n 1, []), (134, 3, .ldc2_w 321, [31, 1141]), (137, 1, .lload_n 1, []), (138, 1, .lmul, []), (139, 1, .aload_n 0, []), (140, 1, .iconst 0, []), (141, 3, .invokevirtual 337, [108, 1147, 1]), (144, 1, .i2l, []), (145, 1, .ladd, []), (146, 1, .lstore_n 1, []), (147, 3, .ldc2_w 321, [31, 1141]), (150, 1, .lload_n 1, []), (151, 1, .lmul, []), (152, 1, .aload_n 0, []), (153, 1, .iconst 1, []), (154, 3, .invokevirtual 337, [108, 1147, 1]), (157, 1, .i2l, []), (158, 1, .ladd, []), (159, 1, .lreturn, [])], 0)]
def bk_125 : List Bk := [([(0, 1, .iload_n 0, []), (1, 3, .ifCond .lt 13, [1]), (4, 1, .iload_n 0, []), (5, 2, .bipush 8, []), (7, 3, .if_icmp .ge 7, [1]), (10, 1, .iconst 1, []), (11, 3, .goto 4, [2])], 0),
 ([(14, 1, .iconst 0, [])], 2),
 ([(15, 1, .ireturn, [])], 0)]
def bk_126 : List Bk := [([(0, 1, .iload_n 0, []), (1, 3, .ifCond .lt 12, [1]), (4, 1, .iload_n 0, []), (5, 1, .iconst 4, []), (6, 3, .if_icmp .ge 7, [1]), (9, 1, .iconst 1, []), (10, 3, .goto 4, [2])], 0),
 ([(13, 1, .iconst 0, [])], 2),
 ([(14, 1, .ireturn, [])], 0)]
def bk_127 : List Bk := [([(0, 1, .iload_n 0, []), (1, 3, .ifCond .lt 12, [1]), (4, 1, .iload_n 0, []), (5, 1, .iconst 2, []), (6, 3, .if_icmp .gt 7, [1]), (9, 1, .iconst 1, []), (10, 3, .goto 4, [2])], 0),
 ([(13, 1, .iconst 0, [])], 2),
 ([(14, 1, .ireturn, [])], 0)]
def bk_128 : List Bk := [([(0, 1, .iload_n 0, []), (1, 3, .ifCond .lt 13, [1]), (4, 1, .iload_n 0, []), (5, 2, .bipush 120, []), (7, 3, .if_icmp .ge 7, [1]), (10, 1, .iconst 1, []), (11, 3, .goto 4, [2])], 0),
 ([(14, 1, .iconst 0, [])], 2),
 ([(15, 1, .ireturn, [])], 0)]
def bk_129 : List Bk := [([(0, 1, .iload_n 0, []), (1, 1, .iconst 1, []), (2, 3, .if_icmp .gt 7, [1]), (5, 1, .iconst 0, []), (6, 3, .goto 4, [2])], 0),
 ([(9, 1, .iconst 1, [])], 2),
 ([(10, 1, .ireturn, [])], 0)]
def bk_130 : List Bk := [([(0, 1, .iload_n 0, []), (1, 1, .iconst 1, []), (2, 3, .if_icmp .gt 5, [1]), (5, 1, .iconst 2, []), (6, 1, .ireturn, [])], 0),
 ([(7, 1, .iload_n 0, []), (8, 1, .iconst 2, []), (9, 3, .if_icmp .ne 7, [2]), (12, 1, .iconst 3, []), (13, 3, .goto 5, [3])], 0),
 ([(16, 2, .bipush 120, [])], 3),
 ([(18, 1, .ireturn, [])], 0)]
def bk_131 : List Bk := [([(0, 1, .iload_n 1, []), (1, 3, .ifCond .lt 18, [1]), (4, 1, .iload_n 1, []), (5, 1, .aload_n 0, []), (6, 3, .getfield 25, [8, 2, 568]), (9, 3, .getfield 175, [5, 7, 228]), (12, 3, .if_icmp .ge 7, [1]), (15, 1, .iconst 1, []), (16, 3, .goto 4, [2])], 0),
 ([(19, 1, .iconst 0, [])], 2),
 ([(20, 1, .ireturn, [])], 0)]
def bk_132 : List Bk := [([(0, 1, .aload_n 0, []), (1, 1, .iload_n 1, []), (2, 3, .putfield 289, [8, 9, 575]), (5, 2, .bipush (-10), []), (7, 1, .iload_n 1, []), (8, 1, .isub, []), (9, 1, .ireturn, [])], 0)]
def bk_133 : List Bk := [([(0, 1, .iconst 0, []), (1, 1, .istore_n 1, []), (2, 1, .iconst 0, []), (3, 1, .istore_n 2, [])], 1),
 ([(4, 1, .iload_n 2, []), (5, 2, .bipush 8, []), (7, 3, .if_icmp .ge 21, [2]), (10, 1, .iload_n 1, []), (11, 1, .aload_n 0, []), (12, 3, .getfield 18, [8, 1, 567]), (15, 1, .iload_n 2, []), (16, 1, .aaload, []), (17, 3, .getfield 90, [1, 1, 270]), (20, 1, .iadd, []), (21, 1, .istore_n 1, []), (22, 3, .iinc 2 1, []), (25, 3, .goto (-21), [1])], 0),
 ([(28, 1, .iload_n 1, []), (29, 1, .ireturn, [])], 0)]
def bk_134 : List Bk := [([(0, 1, .iconst 0, []), (1, 1, .istore_n 1, []), (2, 1, .iconst 0, []), (3, 1, .istore_n 2, [])], 1),
 ([(4, 1, .iload_n 2, []), (5, 2, .bipush 8, []), (7, 3, .if_icmp .ge 39, [3]), (10, 1, .aload_n 0, []), (11, 3, .getfield 18, [8, 1, 567]), (14, 1, .iload_n 2, []), (15, 1, .aaload, []), (16, 3, .getfield 96, [1, 3, 273]), (19, 1, .iconst (-1), []), (20, 3, .if_icmp .ne 20, [2]), (23, 1, .aload_n 0, []), (24, 3, .getfield 127, [8, 8, 574]), (27, 1, .iload_n 2, []), (28, 1, .ishr, []), (29, 1, .iconst 1, []), (30, 1, .iand, []), (31, 3, .ifCond .ne 9, [2]), (34, 1, .iload_n 1, []), (35, 1, .iconst 1, []), (36, 1, .iload_n 2, []), (37, 1, .ishl, []), (38, 1, .ior, []), (39, 1, .istore_n 1, [])], 2),
 ([(40, 3, .iinc 2 1, []), (43, 3, .goto (-39), [1])], 0),
 ([(46, 1, .aload_n 0, []), (47, 3, .getfield 25, [8, 2, 568]), (50, 1, .iload_n 1, []), (51, 3, .putfield 215, [5, 0, 203]), (54, 1, .aload_n 0, []), (55, 1, .iconst 0, []), (56, 3, .putfield 340, [8, 7, 573]), (59, 1, .aload_n 0, []), (60, 3, .getfield 60, [8, 5, 571]), (63, 3, .invokevirtual 343, [55, 652, 0]), (66, 1, .return_, [])], 0)]
def bk_135 : List Bk := [([(0, 1, .aload_n 0, []), (1, 3, .getfield 340, [8, 7, 573]), (4, 3, .ifCond .ne 27, [1]), (7, 1, .aload_n 0, []), (8, 3, .getfield 51, [8, 4, 570]), (11, 1, .aload_n 0, []), (12, 3, .getfield 25, [8, 2, 568]), (15, 1, .aload_n 0, []), (16, 3, .getfield 25, [8, 2, 568]), (19, 3, .getfield 175, [5, 7, 228]), (22, 1, .iconst 0, []), (23, 3, .invokevirtual 346, [36, 729, 3]), (26, 1, .aload_n 0, []), (27, 1, .iconst 1, []), (28, 3, .putfield 340, [8, 7, 573])], 1),
 ([(31, 1, .return_, [])], 0)]
def bk_136 : List Bk := [([(0, 1, .aload_n 0, []), (1, 3, .invokespecial 1, [1001, 1153]), (4, 1, .aload_n 0, []), (5, 2, .bipush 6, []), (7, 2, .newarray .int, []), (9, 3, .putfield 7, [9, 1, 1155]), (12, 1, .aload_n 0, []), (13, 2, .bipush 6, []), (15, 2, .newarray .int, []), (17, 3, .putfield 13, [9, 2, 1156]), (20, 1, .aload_n 0, []), (21, 2, .bipush 6, []), (23, 2, .newarray .int, []), (25, 3, .putfield 16, [9, 3, 1157]), (28, 1, .aload_n 0, []), (29, 2, .bipush 6, []), (31, 2, .newarray .int, []), (33, 3, .putfield 19, [9, 4, 1158]), (36, 1, .aload_n 0, []), (37, 2, .bipush 8, []), (39, 2, .newarray .int, []), (41, 3, .putfield 22, [9, 5, 1159]), (44, 1, .aload_n 0, []), (45, 3, .sipush 480, []), (48, 2, .newarray .int, []), (50, 3, .putfield 25, [9, 6, 1160]), (53, 1, .aload_n 0, []), (54, 2, .bipush 8, []), (56, 2, .newarray .int, []), (58, 3, .putfield 28, [9, 7, 1161]), (61, 1, .aload_n 0, []), (62, 2, .bipush 8, []), (64, 2, .newarray .int, []), (66, 3, .putfield 31, [9, 8, 1162]), (69, 1, .aload_n 0, []), (70, 2, .bipush 8, []), (72, 2, .newarray .int, []), (74, 3, .putfield 34, [9, 11, 1165]), (77, 1, .aload_n 0, []), (78, 2, .bipush 8, []), (80, 2, .newarray .int, []), (82, 3, .putfield 37, [9, 12, 1166]), (85, 1, .aload_n 0, []), (86, 2, .bipush 8, []), (88, 2, .newarray .int, []), (90, 3, .putfield 40, [9, 13, 1167]), (93, 1, .aload_n 0, []), (94, 2, .bipush 8, []), (96, 2, .newarray .int, []), (98, 3, .putfield 43, [9, 14, 1168]), (101, 1, .aload_n 0, []), (102, 2, .bipush 8, []), (104, 2, .newarray .int, []), (106, 3, .putfield 46, [9, 15, 1169]), (109, 1, .aload_n 0, []), (110, 3, .sipush 160, []), (113, 2, .newarray .int, []), (115, 3, .putfield 49, [9, 16, 1170]), (118, 1, .aload_n 0, []), (119, 3, .sipush 160, []), (122, 2, .newarray .int, []), (124, 3, .putfield 52, [9, 17, 1171]), (127, 1, .aload_n 0, []), (128, 2, .bipush 8, []), (130, 2, .newarray .int, []), (132, 3, .putfield 55, [9, 18, 1172]), (135, 1, .aload_n 0, []), (136, 1, .iconst 1, []), (137, 3, .putfield 58, [9, 24, 1178]), (140, 1, .aload_n 0, []), (141, 2, .bipush 60, []), (143, 3, .putfield 62, [9, 25, 1179]), (146, 1, .aload_n 0, []), (147, 2, .bipush 8, []), (149, 2, .newarray .int, []), (151, 3, .putfield 65, [9, 28, 1182]), (154, 1, .aload_n 0, []), (155, 2, .bipush 8, []), (157, 2, .newarray .int, []), (159, 3, .putfield 68, [9, 29, 1183]), (162, 1, .aload_n 0, []), (163, 2, .bipush 8, []), (165, 2, .newarray .int, []), (167, 3, .putfield 71, [9, 35, 1189]), (170, 1, .aload_n 0, []), (171, 2, .bipush 8, []), (173, 2, .newarray .int, []), (175, 3, .putfield 74, [9, 36, 1190]), (178, 1, .aload_n 0, []), (179, 3, .sipush 1600, []), (182, 2, .newarray .int, []), (184, 3, .putfield 77, [9, 37, 1191]), (187, 1, .aload_n 0, []), (188, 3, .sipush 1600, []), (191, 2, .newarray .int, []), (193, 3, .putfield 80, [9, 38, 1192]), (196, 1, .aload_n 0, []), (197, 2, .bipush 8, []), (199, 2, .newarray .int, []), (201, 3, .putfield 83, [9, 39, 1193]), (204, 1, .aload_n 0, []), (205, 2, .bipush 8, []), (207, 2, .newarray .int, []), (209, 3, .putfield 86, [9, 40, 1194]), (212, 1, .aload_n 0, []), (213, 2, .bipush 8, []), (215, 2, .newarray .int, []), (217, 3, .putfield 89, [9, 41, 1195]), (220, 1, .aload_n 0, []), (221, 2, .bipush 8, []), (223, 2, .newarray .boolean, []), (225, 3, .putfield 92, [9, 42, 1196]), (228, 1, .aload_n 0, []), (229, 2, .bipush 8, []), (231, 2, .newarray .int, []), (233, 3, .putfield 96, [9, 43, 1197]), (236, 1, .aload_n 0, []), (237, 2, .bipush 8, []), (239, 2, .newarray .int, []), (241, 3, .putfield 99, [9, 44, 1198]), (244, 1, .aload_n 0, []), (245, 2, .bipush 8, []), (247, 2, .newarray .int, []), (249, 3, .putfield 102, [9, 45, 1199]), (252, 1, .aload_n 0, []), (253, 2, .bipush 8, []), (255, 2, .newarray .int, []), (257, 3, .putfield 105, [9, 46, 1200]), (260, 1, .aload_n 0, []), (261, 3, .sipush 600, []), (264, 2, .newarray .int, []), (266, 3, .putfield 108, [9, 47, 1201]), (269, 1, .aload_n 0, []), (270, 3, .sipush 1600, []), (273, 2, .newarray .int, []), (275, 3, .putfield 111, [9, 48, 1202]), (278, 1, .aload_n 0, []), (279, 2, .bipush 6, []), (281, 2, .newarray .int, []), (283, 3, .putfield 114, [9, 52, 1206]), (286, 1, .aload_n 0, []), (287, 2, .bipush 6, []), (289, 2, .newarray .int, []), (291, 3, .putfield 117, [9, 53, 1207]), (294, 1, .aload_n 0, []), (295, 1, .iconst 4, []), (296, 2, .newarray .boolean, []), (298, 3, .putfield 120, [9, 59, 1213]), (301, 1, .aload_n 0, []), (302, 1, .iconst 4, []), (303, 2, .newarray .int, []), (305, 3, .putfield 123, [9, 60, 1214]), (308, 1, .aload_n 0, []), (309, 1, .iconst 4, []), (310, 2, .newarray .int, []), (312, 3, .putfield 126, [9, 61, 1215]), (315, 1, .aload_n 0, []), (316, 3, .sipush 240, []), (319, 2, .newarray .int, []), (321, 3, .putfield 129, [9, 62, 1216]), (324, 1, .aload_n 0, []), (325, 2, .bipush 60, []), (327, 2, .newarray .int, []), (329, 3, .putfield 132, [9, 63, 1217]), (332, 1, .iconst 0, []), (333, 1, .istore_n 1, [])], 1),
 ([(334, 1, .iload_n 1, []), (335, 2, .bipush 8, []), (337, 3, .if_icmp .ge 26, [2]), (340, 1, .aload_n 0, []), (341, 3, .getfield 28, [9, 7, 1161]), (344, 1, .iload_n 1, []), (345, 2, .bipush 10, []), (347, 1, .iload_n 1, []), (348, 1, .isub, []), (349, 1, .iastore, []), (350, 1, .aload_n 0, []), (351, 3, .getfield 31, [9, 8, 1162]), (354, 1, .iload_n 1, []), (355, 1, .iconst 1, []), (356, 1, .iastore, []), (357, 3, .iinc 1 1, []), (360, 3, .goto (-26), [1])], 0),
 ([(363, 1, .return_, [])], 0)]
def bk_137 : List Bk := [([(0, 1, .iload_n 0, []), (1, 1, .iload_n 1, []), (2, 3, .if_icmp .lt 12, [1]), (5, 1, .iload_n 0, []), (6, 1, .iload_n 2, []), (7, 3, .if_icmp .gt 7, [1]), (10, 1, .iconst 1, []), (11, 3, .goto 4, [2])], 0),
 ([(14, 1, .iconst 0, [])], 2),
 ([(15, 1, .ireturn, [])], 0)]
def bk_138 : List Bk := [([(0, 1, .iconst 0, []), (1, 1, .istore_n 1, []), (2, 1, .iconst 0, []), (3, 1, .istore_n 2, [])], 1),
 ([(4, 1, .iload_n 2, []), (5, 2, .bipush 8, []), (7, 3, .if_icmp .ge 17, [2]), (10, 1, .iload_n 1, []), (11, 1, .iload_n 0, []), (12, 1, .iload_n 2, []), (13, 1, .ishr, []), (14, 1, .iconst 1, []), (15, 1, .iand, []), (16, 1, .iadd, []), (17, 1, .istore_n 1, []), (18, 3, .iinc 2 1, []), (21, 3, .goto (-17), [1])], 0),
 ([(24, 1, .iload_n 1, []), (25, 1, .ireturn, [])], 0)]
def bk_139 : List Bk := [([(0, 1, .iload_n 1, []), (1, 1, .iconst 0, []), (2, 1, .iconst 2, []), (3, 3, .invokestatic 135, [137, 1355, 3]), (6, 3, .ifCond .eq 25, [2]), (9, 1, .iload_n 1, []), (10, 1, .iconst 1, []), (11, 3, .if_icmp .ne 15, [1]), (14, 1, .iload_n 2, []), (15, 1, .iconst 2, []), (16, 1, .iconst 3, []), (17, 3, .invokestatic 135, [137, 1355, 3]), (20, 3, .ifCond .eq 11, [2]), (23, 3, .goto 11, [3])], 0),
 ([(26, 1, .iload_n 2, []), (27, 1, .iconst 1, []), (28, 3, .if_icmp .eq 6, [3])], 2),
 ([(31, 2, .bipush (-2), []), (33, 1, .ireturn, [])], 0),
 ([(34, 1, .aload_n 0, []), (35, 3, .getfield 139, [9, 0, 1154]), (38, 2, .bipush 6, []), (40, 3, .if_icmp .ne 6, [4]), (43, 2, .bipush (-4), []), (45, 1, .ireturn, [])], 0),
 ([(46, 1, .aload_n 0, []), (47, 3, .getfield 7, [9, 1, 1155]), (50, 1, .aload_n 0, []), (51, 3, .getfield 139, [9, 0, 1154]), (54, 1, .iload_n 1, []), (55, 1, .iastore, []), (56, 1, .aload_n 0, []), (57, 3, .getfield 13, [9, 2, 1156]), (60, 1, .aload_n 0, []), (61, 3, .getfield 139, [9, 0, 1154]), (64, 1, .iload_n 2, []), (65, 1, .iastore, []), (66, 1, .aload_n 0, []), (67, 3, .getfield 16, [9, 3, 1157]), (70, 1, .aload_n 0, []), (71, 3, .getfield 139, [9, 0, 1154]), (74, 1, .iconst 1, []), (75, 1, .iastore, []), (76, 1, .aload_n 0, []), (77, 3, .getfield 19, [9, 4, 1158]), (80, 1, .aload_n 0, []), (81, 3, .getfield 139, [9, 0, 1154]), (84, 1, .iconst 0, []), (85, 1, .iastore, []), (86, 1, .aload_n 0, []), (87, 1, .dup, []), (88, 3, .getfield 139, [9, 0, 1154]), (91, 1, .iconst 1, []), (92, 1, .iadd, []), (93, 3, .putfield 139, [9, 0, 1154]), (96, 1, .aload_n 0, []), (97, 3, .invokevirtual 142, [141, 1358, 0]), (100, 1, .aload_n 0, []), (101, 3, .getfield 139, [9, 0, 1154]), (104, 1, .iconst 1, []), (105, 1, .isub, []), (106, 1, .ireturn, [])], 0)]
def bk_140 : List Bk := [([(0, 1, .iload_n 1, []), (1, 1, .iconst 0, []), (2, 1, .aload_n 0, []), (3, 3, .getfield 139, [9, 0, 1154]), (6, 1, .iconst 1, []), (7, 1, .isub, []), (8, 3, .invokestatic 135, [137, 1355, 3]), (11, 3, .ifCond .eq 23, [1]), (14, 1, .iload_n 2, []), (15, 1, .iconst 0, []), (16, 2, .bipush 119, []), (18, 3, .invokestatic 135, [137, 1355, 3]), (21, 3, .ifCond .eq 13, [1]), (24, 1, .iload_n 3, []), (25, 1, .iconst 0, []), (26, 2, .bipush 119, []), (28, 3, .invokestatic 135, [137, 1355, 3]), (31, 3, .ifCond .ne 6, [2])], 1),
 ([(34, 2, .bipush (-2), []), (36, 1, .ireturn, [])], 0),
 ([(37, 1, .aload_n 0, []), (38, 3, .getfield 16, [9, 3, 1157]), (41, 1, .iload_n 1, []), (42, 1, .iload_n 2, []), (43, 1, .iastore, []), (44, 1, .aload_n 0, []), (45, 3, .getfield 19, [9, 4, 1158]), (48, 1, .iload_n 1, []), (49, 1, .iload_n 3, []), (50, 1, .iastore, []), (51, 1, .aload_n 0, []), (52, 1, .iconst 0, []), (53, 3, .putfield 145, [9, 26, 1180]), (56, 1, .iconst 1, []), (57, 1, .ireturn, [])], 0)]
def bk_141 : List Bk := [([(0, 1, .aload_n 0, []), (1, 1, .iconst 0, []), (2, 3, .putfield 149, [9, 10, 1164]), (5, 1, .aload_n 0, []), (6, 1, .iconst 0, []), (7, 3, .putfield 145, [9, 26, 1180]), (10, 1, .return_, [])], 0)]
def bk_142 : List Bk := [([(0, 1, .iload_n 0, []), (1, 1, .iconst 0, []), (2, 2, .bipush 7, []), (4, 3, .invokestatic 135, [137, 1355, 3]), (7, 1, .ireturn, [])], 0)]
def bk_143 : List Bk := [([(0, 1, .iload_n 1, []), (1, 3, .invokestatic 152, [142, 1370, 1]), (4, 3, .ifCond .eq 14, [1]), (7, 1, .iload_n 2, []), (8, 1, .iconst 0, []), (9, 3, .sipush 255, []), (12, 3, .invokestatic 135, [137, 1355, 3]), (15, 3, .ifCond .ne 6, [2])], 1),
 ([(18, 2, .bipush (-2), []), (20, 1, .ireturn, [])], 0),
 ([(21, 1, .aload_n 0, []), (22, 3, .getfield 22, [9, 5, 1159]), (25, 1, .iload_n 1, []), (26, 1, .iaload, []), (27, 2, .bipush 60, []), (29, 3, .if_icmp .ne 6, [3]), (32, 2, .bipush (-4), []), (34, 1, .ireturn, [])], 0),
 ([(35, 1, .aload_n 0, []), (36, 3, .getfield 25, [9, 6, 1160]), (39, 2, .bipush 60, []), (41, 1, .iload_n 1, []), (42, 1, .imul, []), (43, 1, .aload_n 0, []), (44, 3, .getfield 22, [9, 5, 1159]), (47, 1, .iload_n 1, []), (48, 1, .iaload, []), (49, 1, .iadd, []), (50, 1, .iload_n 2, []), (51, 1, .iastore, []), (52, 1, .aload_n 0, []), (53, 3, .getfield 22, [9, 5, 1159]), (56, 1, .iload_n 1, []), (57, 1, .dup2, []), (58, 1, .iaload, []), (59, 1, .iconst 1, []), (60, 1, .iadd, []), (61, 1, .iastore, []), (62, 1, .aload_n 0, []), (63, 3, .invokevirtual 142, [141, 1358, 0]), (66, 1, .aload_n 0, []), (67, 3, .getfield 22, [9, 5, 1159]), (70, 1, .iload_n 1, []), (71, 1, .iaload, []), (72, 1, .ireturn, [])], 0)]
def bk_144 : List Bk := [([(0, 1, .iload_n 1, []), (1, 3, .invokestatic 152, [142, 1370, 1]), (4, 3, .ifCond .ne 6, [1]), (7, 2, .bipush (-2), []), (9, 1, .ireturn, [])], 0),
 ([(10, 1, .aload_n 0, []), (11, 3, .getfield 22, [9, 5, 1159]), (14, 1, .iload_n 1, []), (15, 1, .iaload, []), (16, 1, .istore_n 2, []), (17, 1, .aload_n 0, []), (18, 3, .getfield 22, [9, 5, 1159]), (21, 1, .iload_n 1, []), (22, 1, .iconst 0, []), (23, 1, .iastore, []), (24, 1, .aload_n 0, []), (25, 3, .invokevirtual 142, [141, 1358, 0]), (28, 1, .iload_n 2, []), (29, 1, .ireturn, [])], 0)]
def bk_145 : List Bk := [([(0, 1, .aload_n 0, []), (1, 3, .getfield 156, [9, 20, 1174]), (4, 1, .aload_n 0, []), (5, 3, .getfield 22, [9, 5, 1159]), (8, 1, .aload_n 0, []), (9, 3, .getfield 159, [9, 19, 1173]), (12, 1, .iaload, []), (13, 3, .if_icmp .ge 23, [1]), (16, 1, .aload_n 0, []), (17, 3, .getfield 25, [9, 6, 1160]), (20, 2, .bipush 60, []), (22, 1, .aload_n 0, []), (23, 3, .getfield 159, [9, 19, 1173]), (26, 1, .imul, []), (27, 1, .aload_n 0, []), (28, 3, .getfield 156, [9, 20, 1174]), (31, 1, .iadd, []), (32, 1, .iaload, []), (33, 3, .goto 4, [2])], 0),
 ([(36, 1, .iconst (-1), [])], 2),
 ([(37, 1, .ireturn, [])], 0)]
def bk_146 : List Bk := [([(0, 1, .aload_n 0, []), (1, 3, .getfield 162, [9, 21, 1175]), (4, 1, .iconst (-1), []), (5, 3, .if_icmp .ne 19, [1]), (8, 1, .aload_n 0, []), (9, 3, .invokevirtual 165, [145, 1397, 0]), (12, 1, .iload_n 1, []), (13, 3, .if_icmp .eq 11, [1]), (16, 1, .aload_n 0, []), (17, 1, .aload_n 0, []), (18, 3, .getfield 156, [9, 20, 1174]), (21, 3, .putfield 162, [9, 21, 1175])], 1),
 ([(24, 1, .aload_n 0, []), (25, 1, .dup, []), (26, 3, .getfield 156, [9, 20, 1174]), (29, 1, .iconst 1, []), (30, 1, .iadd, []), (31, 3, .putfield 156, [9, 20, 1174]), (34, 1, .return_, [])], 0)]
def bk_147 : List Bk := [([(0, 1, .aload_n 0, []), (1, 3, .getfield 156, [9, 20, 1174]), (4, 2, .istore 4, []), (6, 1, .iconst 0, []), (7, 2, .istore 5, [])], 1),
 ([(9, 1, .aload_n 0, []), (10, 3, .getfield 162, [9, 21, 1175]), (13, 1, .iconst (-1), []), (14, 3, .if_icmp .ne 60, [2]), (17, 1, .aload_n 0, []), (18, 3, .getfield 156, [9, 20, 1174]), (21, 2, .iload 4, []), (23, 1, .iload_n 1, []), (24, 1, .iadd, []), (25, 3, .if_icmp .ge 49, [2]), (28, 1, .aload_n 0, []), (29, 3, .invokevirtual 165, [145, 1397, 0]), (32, 2, .bipush 48, []), (34, 3, .if_icmp .lt 40, [2]), (37, 1, .aload_n 0, []), (38, 3, .invokevirtual 165, [145, 1397, 0]), (41, 2, .bipush 57, []), (43, 3, .if_icmp .gt 31, [2]), (46, 2, .bipush 10, []), (48, 2, .iload 5, []), (50, 1, .imul, []), (51, 1, .aload_n 0, []), (52, 3, .invokevirtual 165, [145, 1397, 0]), (55, 1, .iadd, []), (56, 2, .bipush 48, []), (58, 1, .isub, []), (59, 2, .istore 5, []), (61, 1, .aload_n 0, []), (62, 1, .dup, []), (63, 3, .getfield 156, [9, 20, 1174]), (66, 1, .iconst 1, []), (67, 1, .iadd, []), (68, 3, .putfield 156, [9, 20, 1174]), (71, 3, .goto (-62), [1])], 0),
 ([(74, 1, .aload_n 0, []), (75, 3, .getfield 162, [9, 21, 1175]), (78, 1, .iconst (-1), []), (79, 3, .if_icmp .ne 28, [4]), (82, 1, .aload_n 0, []), (83, 3, .getfield 156, [9, 20, 1174]), (86, 2, .iload 4, []), (88, 3, .if_icmp .eq 13, [3]), (91, 2, .iload 5, []), (93, 1, .iload_n 2, []), (94, 1, .iload_n 3, []), (95, 3, .invokestatic 135, [137, 1355, 3]), (98, 3, .ifCond .ne 9, [4])], 3),
 ([(101, 1, .aload_n 0, []), (102, 2, .iload 4, []), (104, 3, .putfield 162, [9, 21, 1175])], 4),
 ([(107, 2, .iload 5, []), (109, 1, .ireturn, [])], 0)]
def bk_148 : List Bk := [([(0, 1, .aload_n 0, []), (1, 3, .invokevirtual 165, [145, 1397, 0]), (4, 1, .istore_n 2, []), (5, 1, .iload_n 2, []), (6, 2, .bipush 119, []), (8, 3, .if_icmp .ne 7, [1]), (11, 1, .iconst 0, []), (12, 3, .goto 24, [4])], 0),
 ([(15, 1, .iload_n 2, []), (16, 2, .bipush 116, []), (18, 3, .if_icmp .ne 7, [2]), (21, 1, .iconst 1, []), (22, 3, .goto 14, [4])], 0),
 ([(25, 1, .iload_n 2, []), (26, 2, .bipush 103, []), (28, 3, .if_icmp .ne 7, [3]), (31, 1, .iconst 2, []), (32, 3, .goto 4, [4])], 0),
 ([(35, 1, .iconst (-1), [])], 4),
 ([(36, 1, .istore_n 3, []), (37, 1, .iload_n 3, []), (38, 1, .iconst (-1), []), (39, 3, .if_icmp .ne 13, [5]), (42, 1, .aload_n 0, []), (43, 1, .aload_n 0, []), (44, 3, .getfield 156, [9, 20, 1174]), (47, 3, .putfield 162, [9, 21, 1175]), (50, 1, .iload_n 1, []), (51, 1, .ireturn, [])], 0),
 ([(52, 1, .aload_n 0, []), (53, 1, .dup, []), (54, 3, .getfield 156, [9, 20, 1174]), (57, 1, .iconst 1, []), (58, 1, .iadd, []), (59, 3, .putfield 156, [9, 20, 1174]), (62, 1, .aload_n 0, []), (63, 3, .getfield 156, [9, 20, 1174]), (66, 2, .istore 4, []), (68, 1, .aload_n 0, []), (69, 1, .iconst 1, []), (70, 1, .iload_n 3, []), (71, 3, .ifCond .ne 7, [6]), (74, 1, .iconst 1, []), (75, 3, .goto 4, [7])], 0),
 ([(78, 1, .iconst 0, [])], 7),
 ([(79, 1, .iload_n 3, []), (80, 3, .ifCond .ne 8, [8]), (83, 2, .bipush 9, []), (85, 3, .goto 9, [9])], 0),
 ([(88, 1, .aload_n 0, []), (89, 3, .getfield 139, [9, 0, 1154]), (92, 1, .iconst 1, []), (93, 1, .isub, [])], 9),
 ([(94, 3, .invokevirtual 169, [147, 1401, 3]), (97, 2, .istore 5, []), (99, 1, .aload_n 0, []), (100, 3, .getfield 162, [9, 21, 1175]), (103, 1, .iconst (-1), []), (104, 3, .if_icmp .ne 41, [14]), (107, 1, .iload_n 3, []), (108, 3, .ifCond .eq 37, [14]), (111, 1, .iload_n 1, []), (112, 2, .iload 5, []), (114, 1, .ishr, []), (115, 1, .iconst 1, []), (116, 1, .iand, []), (117, 1, .iconst 1, []), (118, 3, .if_icmp .ne 7, [10]), (121, 1, .iconst 1, []), (122, 3, .goto 4, [11])], 0),
 ([(125, 1, .iconst 0, [])], 11),
 ([(126, 1, .iload_n 3, []), (127, 1, .iconst 2, []), (128, 3, .if_icmp .ne 7, [12]), (131, 1, .iconst 1, []), (132, 3, .goto 4, [13])], 0),
 ([(135, 1, .iconst 0, [])], 13),
 ([(136, 3, .if_icmp .eq 9, [14]), (139, 1, .aload_n 0, []), (140, 2, .iload 4, []), (142, 3, .putfield 162, [9, 21, 1175])], 14),
 ([(145, 1, .aload_n 0, []), (146, 3, .getfield 162, [9, 21, 1175]), (149, 1, .iconst (-1), []), (150, 3, .if_icmp .eq 5, [15]), (153, 1, .iload_n 1, []), (154, 1, .ireturn, [])], 0),
 ([(155, 2, .bipush 20, []), (157, 1, .aload_n 0, []), (158, 3, .getfield 159, [9, 19, 1173]), (161, 1, .imul, []), (162, 1, .aload_n 0, []), (163, 3, .getfield 46, [9, 15, 1169]), (166, 1, .aload_n 0, []), (167, 3, .getfield 159, [9, 19, 1173]), (170, 1, .iaload, []), (171, 1, .iadd, []), (172, 2, .istore 6, []), (174, 1, .aload_n 0, []), (175, 3, .getfield 49, [9, 16, 1170]), (178, 2, .iload 6, []), (180, 1, .iload_n 3, []), (181, 1, .iastore, []), (182, 1, .aload_n 0, []), (183, 3, .getfield 52, [9, 17, 1171]), (186, 2, .iload 6, []), (188, 2, .iload 5, []), (190, 1, .iastore, []), (191, 1, .aload_n 0, []), (192, 3, .getfield 46, [9, 15, 1169]), (195, 1, .aload_n 0, []), (196, 3, .getfield 159, [9, 19, 1173]), (199, 1, .dup2, []), (200, 1, .iaload, []), (201, 1, .iconst 1, []), (202, 1, .iadd, []), (203, 1, .iastore, []), (204, 1, .iload_n 3, []), (205, 3, .ifCond .ne 7, [16]), (208, 1, .iload_n 1, []), (209, 3, .goto 25, [18])], 0),
 ([(212, 1, .iload_n 3, []), (213, 1, .iconst 1, []), (214, 3, .if_icmp .ne 12, [17]), (217, 1, .iload_n 1, []), (218, 1, .iconst 1, []), (219, 2, .iload 5, []), (221, 1, .ishl, []), (222, 1, .ior, []), (223, 3, .goto 11, [18])], 0),
 ([(226, 1, .iload_n 1, []), (227, 1, .iconst 1, []), (228, 2, .iload 5, []), (230, 1, .ishl, []), (231, 1, .iconst (-1), []), (232, 1, .ixor, []), (233, 1, .iand, [])], 18),
 ([(234, 1, .ireturn, [])], 0)]
def bk_149 : List Bk := [([(0, 1, .aload_n 0, []), (1, 1, .iload_n 1, []), (2, 3, .putfield 159, [9, 19, 1173]), (5, 1, .aload_n 0, []), (6, 1, .iconst 0, []), (7, 3, .putfield 156, [9, 20, 1174]), (10, 1, .aload_n 0, []), (11, 1, .iconst (-1), []), (12, 3, .putfield 162, [9, 21, 1175]), (15, 1, .aload_n 0, []), (16, 3, .getfield 46, [9, 15, 1169]), (19, 1, .iload_n 1, []), (20, 1, .iconst 0, []), (21, 1, .iastore, []), (22, 1, .aload_n 0, []), (23, 2, .bipush 112, []), (25, 3, .invokevirtual 173, [146, 1393, 1]), (28, 1, .aload_n 0, []), (29, 3, .getfield 37, [9, 12, 1166]), (32, 1, .iload_n 1, []), (33, 1, .aload_n 0, []), (34, 1, .iconst 2, []), (35, 1, .iconst 1, []), (36, 2, .bipush 60, []), (38, 3, .invokevirtual 169, [147, 1401, 3]), (41, 1, .iastore, []), (42, 1, .aload_n 0, []), (43, 2, .bipush 44, []), (45, 3, .invokevirtual 173, [146, 1393, 1]), (48, 1, .aload_n 0, []), (49, 2, .bipush 100, []), (51, 3, .invokevirtual 173, [146, 1393, 1]), (54, 1, .aload_n 0, []), (55, 3, .getfield 40, [9, 13, 1167]), (58, 1, .iload_n 1, []), (59, 1, .aload_n 0, []), (60, 1, .iconst 2, []), (61, 1, .iconst 1, []), (62, 2, .bipush 99, []), (64, 3, .invokevirtual 169, [147, 1401, 3]), (67, 1, .iastore, []), (68, 1, .aload_n 0, []), (69, 2, .bipush 44, []), (71, 3, .invokevirtual 173, [146, 1393, 1]), (74, 1, .aload_n 0, []), (75, 2, .bipush 111, []), (77, 3, .invokevirtual 173, [146, 1393, 1]), (80, 1, .aload_n 0, []), (81, 3, .getfield 43, [9, 14, 1168]), (84, 1, .iload_n 1, []), (85, 1, .aload_n 0, []), (86, 1, .iconst 2, []), (87, 1, .iconst 0, []), (88, 2, .bipush 99, []), (90, 3, .invokevirtual 169, [147, 1401, 3]), (93, 1, .iastore, []), (94, 1, .aload_n 0, []), (95, 2, .bipush 58, []), (97, 3, .invokevirtual 173, [146, 1393, 1]), (100, 1, .iconst 0, []), (101, 1, .istore_n 2, []), (102, 1, .aload_n 0, []), (103, 3, .getfield 162, [9, 21, 1175]), (106, 1, .iconst (-1), []), (107, 3, .if_icmp .ne 7, [1]), (110, 1, .iconst 1, []), (111, 3, .goto 4, [2])], 0),
 ([(114, 1, .iconst 0, [])], 2),
 ([(115, 1, .istore_n 3, [])], 3),
 ([(116, 1, .iload_n 3, []), (117, 3, .ifCond .eq 53, [8]), (120, 1, .aload_n 0, []), (121, 1, .iload_n 2, []), (122, 3, .invokevirtual 177, [148, 1405, 1]), (125, 1, .istore_n 2, []), (126, 1, .aload_n 0, []), (127, 3, .getfield 162, [9, 21, 1175]), (130, 1, .iconst (-1), []), (131, 3, .if_icmp .ne 16, [4]), (134, 1, .aload_n 0, []), (135, 3, .invokevirtual 165, [145, 1397, 0]), (138, 2, .bipush 44, []), (140, 3, .if_icmp .ne 7, [4]), (143, 1, .iconst 1, []), (144, 3, .goto 4, [5])], 0),
 ([(147, 1, .iconst 0, [])], 5),
 ([(148, 1, .istore_n 3, []), (149, 1, .aload_n 0, []), (150, 1, .dup, []), (151, 3, .getfield 156, [9, 20, 1174]), (154, 1, .iload_n 3, []), (155, 3, .ifCond .eq 7, [6]), (158, 1, .iconst 1, []), (159, 3, .goto 4, [7])], 0),
 ([(162, 1, .iconst 0, [])], 7),
 ([(163, 1, .iadd, []), (164, 3, .putfield 156, [9, 20, 1174]), (167, 3, .goto (-51), [3])], 0),
 ([(170, 1, .aload_n 0, []), (171, 3, .getfield 162, [9, 21, 1175]), (174, 1, .iconst (-1), []), (175, 3, .if_icmp .ne 16, [9]), (178, 1, .aload_n 0, []), (179, 3, .getfield 156, [9, 20, 1174]), (182, 1, .aload_n 0, []), (183, 3, .getfield 22, [9, 5, 1159]), (186, 1, .iload_n 1, []), (187, 1, .iaload, []), (188, 3, .if_icmp .lt 19, [10])], 9),
 ([(191, 1, .aload_n 0, []), (192, 3, .getfield 162, [9, 21, 1175]), (195, 1, .iconst (-1), []), (196, 3, .if_icmp .ne 19, [11]), (199, 1, .aload_n 0, []), (200, 1, .iload_n 1, []), (201, 3, .invokevirtual 181, [151, 1409, 1]), (204, 3, .ifCond .ne 11, [11])], 10),
 ([(207, 1, .aload_n 0, []), (208, 1, .aload_n 0, []), (209, 3, .getfield 156, [9, 20, 1174]), (212, 3, .putfield 162, [9, 21, 1175])], 11),
 ([(215, 1, .aload_n 0, []), (216, 3, .getfield 34, [9, 11, 1165]), (219, 1, .iload_n 1, []), (220, 1, .aload_n 0, []), (221, 3, .getfield 162, [9, 21, 1175]), (224, 1, .iastore, []), (225, 1, .aload_n 0, []), (226, 3, .getfield 55, [9, 18, 1172]), (229, 1, .iload_n 1, []), (230, 1, .iload_n 2, []), (231, 1, .iastore, []), (232, 1, .aload_n 0, []), (233, 3, .getfield 46, [9, 15, 1169]), (236, 1, .iload_n 1, []), (237, 1, .aload_n 0, []), (238, 3, .getfield 162, [9, 21, 1175]), (241, 1, .iconst (-1), []), (242, 3, .if_icmp .ne 12, [12]), (245, 1, .aload_n 0, []), (246, 3, .getfield 46, [9, 15, 1169]), (249, 1, .iload_n 1, []), (250, 1, .iaload, []), (251, 3, .goto 4, [13])], 0),
 ([(254, 1, .iconst 0, [])], 13),
 ([(255, 1, .iastore, []), (256, 1, .return_, [])], 0)]
def bk_150 : List Bk := [([(0, 1, .aload_n 0, []), (1, 3, .getfield 149, [9, 10, 1164]), (4, 3, .ifCond .eq 4, [1]), (7, 1, .return_, [])], 0),
 ([(8, 1, .aload_n 0, []), (9, 1, .iconst 1, []), (10, 3, .putfield 149, [9, 10, 1164]), (13, 1, .iconst 0, []), (14, 1, .istore_n 1, [])], 2),
 ([(15, 1, .iload_n 1, []), (16, 2, .bipush 8, []), (18, 3, .if_icmp .ge 14, [3]), (21, 1, .aload_n 0, []), (22, 1, .iload_n 1, []), (23, 3, .invokevirtual 184, [149, 1389, 1]), (26, 3, .iinc 1 1, []), (29, 3, .goto (-14), [2])], 0),
 ([(32, 1, .return_, [])], 0)]
def bk_151 : List Bk := [([(0, 1, .iconst 0, []), (1, 1, .istore_n 2, []), (2, 1, .iconst 0, []), (3, 1, .istore_n 3, [])], 1),
 ([(4, 1, .iload_n 3, []), (5, 1, .aload_n 0, []), (6, 3, .getfield 46, [9, 15, 1169]), (9, 1, .iload_n 1, []), (10, 1, .iaload, []), (11, 3, .if_icmp .ge 41, [4]), (14, 1, .iload_n 2, []), (15, 1, .aload_n 0, []), (16, 3, .getfield 49, [9, 16, 1170]), (19, 2, .bipush 20, []), (21, 1, .iload_n 1, []), (22, 1, .imul, []), (23, 1, .iload_n 3, []), (24, 1, .iadd, []), (25, 1, .iaload, []), (26, 3, .ifCond .ne 17, [2]), (29, 1, .aload_n 0, []), (30, 3, .getfield 52, [9, 17, 1171]), (33, 2, .bipush 20, []), (35, 1, .iload_n 1, []), (36, 1, .imul, []), (37, 1, .iload_n 3, []), (38, 1, .iadd, []), (39, 1, .iaload, []), (40, 3, .goto 4, [3])], 0),
 ([(43, 1, .iconst 0, [])], 3),
 ([(44, 1, .iadd, []), (45, 1, .istore_n 2, []), (46, 3, .iinc 3 1, []), (49, 3, .goto (-45), [1])], 0),
 ([(52, 1, .iload_n 2, []), (53, 1, .ireturn, [])], 0)]
def bk_152 : List Bk := [([(0, 1, .aload_n 0, []), (1, 3, .invokevirtual 187, [150, 1385, 0]), (4, 1, .aload_n 0, []), (5, 3, .getfield 34, [9, 11, 1165]), (8, 1, .iload_n 1, []), (9, 1, .iaload, []), (10, 1, .ireturn, [])], 0)]
def bk_153 : List Bk := [([(0, 1, .iload_n 1, []), (1, 3, .invokestatic 152, [142, 1370, 1]), (4, 3, .ifCond .eq 11, [1]), (7, 1, .aload_n 0, []), (8, 1, .iload_n 1, []), (9, 3, .invokevirtual 190, [152, 1381, 1]), (12, 3, .goto 5, [2])], 0),
 ([(15, 2, .bipush (-2), [])], 2),
 ([(17, 1, .ireturn, [])], 0)]
def bk_154 : List Bk := [([(0, 1, .aload_n 0, []), (1, 3, .invokevirtual 187, [150, 1385, 0]), (4, 1, .iconst 0, []), (5, 1, .istore_n 1, []), (6, 1, .iconst 0, []), (7, 1, .istore_n 2, [])], 1),
 ([(8, 1, .iload_n 2, []), (9, 2, .bipush 8, []), (11, 3, .if_icmp .ge 40, [4]), (14, 1, .iload_n 1, []), (15, 1, .aload_n 0, []), (16, 3, .getfield 34, [9, 11, 1165]), (19, 1, .iload_n 2, []), (20, 1, .iaload, []), (21, 1, .iconst (-1), []), (22, 3, .if_icmp .ne 20, [2]), (25, 1, .aload_n 0, []), (26, 3, .getfield 193, [9, 9, 1163]), (29, 1, .iload_n 2, []), (30, 1, .ishr, []), (31, 1, .iconst 1, []), (32, 1, .iand, []), (33, 3, .ifCond .ne 9, [2]), (36, 1, .iconst 1, []), (37, 1, .iload_n 2, []), (38, 1, .ishl, []), (39, 3, .goto 4, [3])], 0),
 ([(42, 1, .iconst 0, [])], 3),
 ([(43, 1, .ior, []), (44, 1, .istore_n 1, []), (45, 3, .iinc 2 1, []), (48, 3, .goto (-40), [1])], 0),
 ([(51, 1, .iload_n 1, []), (52, 1, .ireturn, [])], 0)]
def bk_155 : List Bk := [([(0, 1, .iload_n 1, []), (1, 3, .invokestatic 152, [142, 1370, 1]), (4, 3, .ifCond .eq 13, [1]), (7, 1, .iload_n 2, []), (8, 1, .iconst 0, []), (9, 2, .bipush 8, []), (11, 3, .invokestatic 135, [137, 1355, 3]), (14, 3, .ifCond .ne 6, [2])], 1),
 ([(17, 2, .bipush (-2), []), (19, 1, .ireturn, [])], 0),
 ([(20, 1, .iload_n 2, []), (21, 1, .iconst 5, []), (22, 3, .if_icmp .le 42, [6]), (25, 1, .iload_n 2, []), (26, 2, .bipush 6, []), (28, 3, .if_icmp .ne 12, [3]), (31, 1, .aload_n 0, []), (32, 3, .getfield 28, [9, 7, 1161]), (35, 1, .iload_n 1, []), (36, 1, .iaload, []), (37, 3, .goto 26, [5])], 0),
 ([(40, 1, .iload_n 2, []), (41, 2, .bipush 7, []), (43, 3, .if_icmp .ne 12, [4]), (46, 1, .aload_n 0, []), (47, 3, .getfield 31, [9, 8, 1162]), (50, 1, .iload_n 1, []), (51, 1, .iaload, []), (52, 3, .goto 11, [5])], 0),
 ([(55, 1, .aload_n 0, []), (56, 3, .invokevirtual 196, [154, 1417, 0]), (59, 1, .iload_n 1, []), (60, 1, .ishr, []), (61, 1, .iconst 1, []), (62, 1, .iand, [])], 5),
 ([(63, 1, .ireturn, [])], 0),
 ([(64, 1, .aload_n 0, []), (65, 1, .iload_n 1, []), (66, 3, .invokevirtual 190, [152, 1381, 1]), (69, 1, .iconst (-1), []), (70, 3, .if_icmp .eq 6, [7]), (73, 2, .bipush (-3), []), (75, 1, .ireturn, [])], 0),
 ([(76, 1, .iload_n 2, []), (77, 35, .tableswitch 69 0 4 #[35, 42, 49, 56, 62], [13, 8, 9, 10, 11, 12])], 0),
 ([(112, 1, .aload_n 0, []), (113, 3, .getfield 37, [9, 12, 1166]), (116, 1, .iload_n 1, []), (117, 1, .iaload, []), (118, 1, .ireturn, [])], 0),
 ([(119, 1, .aload_n 0, []), (120, 3, .getfield 40, [9, 13, 1167]), (123, 1, .iload_n 1, []), (124, 1, .iaload, []), (125, 1, .ireturn, [])], 0),
 ([(126, 1, .aload_n 0, []), (127, 3, .getfield 43, [9, 14, 1168]), (130, 1, .iload_n 1, []), (131, 1, .iaload, []), (132, 1, .ireturn, [])], 0),
 ([(133, 1, .aload_n 0, []), (134, 1, .iload_n 1, []), (135, 3, .invokevirtual 181, [151, 1409, 1]), (138, 1, .ireturn, [])], 0),
 ([(139, 1, .aload_n 0, []), (140, 3, .getfield 46, [9, 15, 1169]), (143, 1, .iload_n 1, []), (144, 1, .iaload, []), (145, 1, .ireturn, [])], 0),
 ([(146, 1, .aload_n 0, []), (147, 3, .getfield 55, [9, 18, 1172]), (150, 1, .iload_n 1, []), (151, 1, .iaload, []), (152, 1, .ireturn, [])], 0)]
def bk_156 : List Bk := [([(0, 1, .iload_n 1, []), (1, 3, .invokestatic 152, [142, 1370, 1]), (4, 3, .ifCond .eq 22, [1]), (7, 1, .iload_n 2, []), (8, 1, .iconst 0, []), (9, 1, .iconst 1, []), (10, 3, .invokestatic 135, [137, 1355, 3]), (13, 3, .ifCond .eq 13, [1]), (16, 1, .iload_n 3, []), (17, 1, .iconst 0, []), (18, 2, .bipush 99, []), (20, 3, .invokestatic 135, [137, 1355, 3]), (23, 3, .ifCond .ne 6, [2])], 1),
 ([(26, 2, .bipush (-2), []), (28, 1, .ireturn, [])], 0),
 ([(29, 1, .iload_n 2, []), (30, 3, .ifCond .ne 12, [3]), (33, 1, .aload_n 0, []), (34, 3, .getfield 28, [9, 7, 1161]), (37, 1, .iload_n 1, []), (38, 1, .iaload, []), (39, 3, .goto 9, [4])], 0),
 ([(42, 1, .aload_n 0, []), (43, 3, .getfield 31, [9, 8, 1162]), (46, 1, .iload_n 1, []), (47, 1, .iaload, [])], 4),
 ([(48, 2, .istore 4, []), (50, 1, .aload_n 0, []), (51, 3, .getfield 28, [9, 7, 1161]), (54, 1, .iload_n 1, []), (55, 1, .iload_n 2, []), (56, 3, .ifCond .ne 7, [5]), (59, 1, .iload_n 3, []), (60, 3, .goto 9, [6])], 0),
 ([(63, 1, .aload_n 0, []), (64, 3, .getfield 28, [9, 7, 1161]), (67, 1, .iload_n 1, []), (68, 1, .iaload, [])], 6),
 ([(69, 1, .iastore, []), (70, 1, .aload_n 0, []), (71, 3, .getfield 31, [9, 8, 1162]), (74, 1, .iload_n 1, []), (75, 1, .iload_n 2, []), (76, 1, .iconst 1, []), (77, 3, .if_icmp .ne 7, [7]), (80, 1, .iload_n 3, []), (81, 3, .goto 9, [8])], 0),
 ([(84, 1, .aload_n 0, []), (85, 3, .getfield 31, [9, 8, 1162]), (88, 1, .iload_n 1, []), (89, 1, .iaload, [])], 8),
 ([(90, 1, .iastore, []), (91, 1, .aload_n 0, []), (92, 1, .iconst 0, []), (93, 3, .putfield 145, [9, 26, 1180]), (96, 2, .iload 4, []), (98, 1, .ireturn, [])], 0)]
def bk_157 : List Bk := [([(0, 1, .iload_n 1, []), (1, 3, .invokestatic 152, [142, 1370, 1]), (4, 3, .ifCond .ne 6, [1]), (7, 2, .bipush (-2), []), (9, 1, .ireturn, [])], 0),
 ([(10, 1, .aload_n 0, []), (11, 3, .getfield 193, [9, 9, 1163]), (14, 1, .iload_n 1, []), (15, 1, .ishr, []), (16, 1, .iconst 1, []), (17, 1, .iand, []), (18, 1, .iconst 1, []), (19, 3, .if_icmp .ne 7, [2]), (22, 1, .iconst 1, []), (23, 3, .goto 4, [3])], 0),
 ([(26, 1, .iconst 0, [])], 3),
 ([(27, 1, .iload_n 2, []), (28, 3, .if_icmp .ne 7, [4]), (31, 1, .iconst 1, []), (32, 3, .goto 4, [5])], 0),
 ([(35, 1, .iconst 0, [])], 5),
 ([(36, 1, .istore_n 3, []), (37, 1, .aload_n 0, []), (38, 1, .iload_n 2, []), (39, 3, .ifCond .eq 14, [6]), (42, 1, .aload_n 0, []), (43, 3, .getfield 193, [9, 9, 1163]), (46, 1, .iconst 1, []), (47, 1, .iload_n 1, []), (48, 1, .ishl, []), (49, 1, .ior, []), (50, 3, .goto 13, [7])], 0),
 ([(53, 1, .aload_n 0, []), (54, 3, .getfield 193, [9, 9, 1163]), (57, 1, .iconst 1, []), (58, 1, .iload_n 1, []), (59, 1, .ishl, []), (60, 1, .iconst (-1), []), (61, 1, .ixor, []), (62, 1, .iand, [])], 7),
 ([(63, 3, .putfield 193, [9, 9, 1163]), (66, 1, .aload_n 0, []), (67, 1, .iconst 0, []), (68, 3, .putfield 145, [9, 26, 1180]), (71, 1, .iload_n 3, []), (72, 3, .ifCond .eq 7, [8]), (75, 1, .iconst 0, []), (76, 3, .goto 4, [9])], 0),
 ([(79, 1, .iconst 1, [])], 9),
 ([(80, 1, .ireturn, [])], 0)]
def bk_158 : List Bk := [([(0, 1, .iload_n 1, []), (1, 3, .ifCond .eq 8, [1]), (4, 1, .iload_n 1, []), (5, 1, .iconst 1, []), (6, 3, .if_icmp .ne 12, [2])], 1),
 ([(9, 1, .iload_n 2, []), (10, 1, .iconst 0, []), (11, 1, .iconst 2, []), (12, 3, .invokestatic 135, [137, 1355, 3]), (15, 3, .goto 37, [5])], 0),
 ([(18, 1, .iload_n 1, []), (19, 1, .iconst 2, []), (20, 3, .if_icmp .ne 12, [3]), (23, 1, .iload_n 2, []), (24, 1, .iconst 1, []), (25, 1, .iconst 3, []), (26, 3, .invokestatic 135, [137, 1355, 3]), (29, 3, .goto 23, [5])], 0),
 ([(32, 1, .iload_n 1, []), (33, 1, .iconst 3, []), (34, 3, .if_icmp .ne 17, [4]), (37, 1, .iload_n 2, []), (38, 1, .iconst 1, []), (39, 2, .bipush 120, []), (41, 3, .invokestatic 135, [137, 1355, 3]), (44, 3, .ifCond .eq 7, [4]), (47, 1, .iconst 1, []), (48, 3, .goto 4, [5])], 0),
 ([(51, 1, .iconst 0, [])], 5),
 ([(52, 1, .istore_n 3, []), (53, 1, .iload_n 3, []), (54, 3, .ifCond .ne 6, [6]), (57, 2, .bipush (-2), []), (59, 1, .ireturn, [])], 0),
 ([(60, 1, .iload_n 1, []), (61, 3, .ifCond .ne 10, [7]), (64, 1, .aload_n 0, []), (65, 3, .getfield 199, [9, 22, 1176]), (68, 3, .goto 31, [10])], 0),
 ([(71, 1, .iload_n 1, []), (72, 1, .iconst 1, []), (73, 3, .if_icmp .ne 10, [8]), (76, 1, .aload_n 0, []), (77, 3, .getfield 202, [9, 23, 1177]), (80, 3, .goto 19, [10])], 0),
 ([(83, 1, .iload_n 1, []), (84, 1, .iconst 2, []), (85, 3, .if_icmp .ne 10, [9]), (88, 1, .aload_n 0, []), (89, 3, .getfield 58, [9, 24, 1178]), (92, 3, .goto 7, [10])], 0),
 ([(95, 1, .aload_n 0, []), (96, 3, .getfield 62, [9, 25, 1179])], 10),
 ([(99, 2, .istore 4, []), (101, 1, .aload_n 0, []), (102, 1, .iload_n 1, []), (103, 3, .ifCond .ne 7, [11]), (106, 1, .iload_n 2, []), (107, 3, .goto 7, [12])], 0),
 ([(110, 1, .aload_n 0, []), (111, 3, .getfield 199, [9, 22, 1176])], 12),
 ([(114, 3, .putfield 199, [9, 22, 1176]), (117, 1, .aload_n 0, []), (118, 1, .iload_n 1, []), (119, 1, .iconst 1, []), (120, 3, .if_icmp .ne 7, [13]), (123, 1, .iload_n 2, []), (124, 3, .goto 7, [14])], 0),
 ([(127, 1, .aload_n 0, []), (128, 3, .getfield 202, [9, 23, 1177])], 14),
 ([(131, 3, .putfield 202, [9, 23, 1177]), (134, 1, .aload_n 0, []), (135, 1, .iload_n 1, []), (136, 1, .iconst 2, []), (137, 3, .if_icmp .ne 7, [15]), (140, 1, .iload_n 2, []), (141, 3, .goto 7, [16])], 0),
 ([(144, 1, .aload_n 0, []), (145, 3, .getfield 58, [9, 24, 1178])], 16),
 ([(148, 3, .putfield 58, [9, 24, 1178]), (151, 1, .aload_n 0, []), (152, 1, .iload_n 1, []), (153, 1, .iconst 3, []), (154, 3, .if_icmp .ne 7, [17]), (157, 1, .iload_n 2, []), (158, 3, .goto 7, [18])], 0),
 ([(161, 1, .aload_n 0, []), (162, 3, .getfield 62, [9, 25, 1179])], 18),
 ([(165, 3, .putfield 62, [9, 25, 1179]), (168, 1, .aload_n 0, []), (169, 1, .iconst 0, []), (170, 3, .putfield 145, [9, 26, 1180]), (173, 2, .iload 4, []), (175, 1, .ireturn, [])], 0)]
def bk_159 : List Bk := [([(0, 1, .aload_n 0, []), (1, 1, .aload_n 0, []), (2, 3, .invokevirtual 196, [154, 1417, 0]), (5, 3, .putfield 205, [9, 27, 1181]), (8, 1, .iconst 0, []), (9, 1, .istore_n 1, [])], 1),
 ([(10, 1, .iload_n 1, []), (11, 2, .bipush 8, []), (13, 3, .if_icmp .ge 28, [2]), (16, 1, .aload_n 0, []), (17, 3, .getfield 65, [9, 28, 1182]), (20, 1, .iload_n 1, []), (21, 1, .aload_n 0, []), (22, 3, .getfield 28, [9, 7, 1161]), (25, 1, .iload_n 1, []), (26, 1, .iaload, []), (27, 1, .iastore, []), (28, 1, .aload_n 0, []), (29, 3, .getfield 68, [9, 29, 1183]), (32, 1, .iload_n 1, []), (33, 1, .iconst 0, []), (34, 1, .iastore, []), (35, 3, .iinc 1 1, []), (38, 3, .goto (-28), [1])], 0),
 ([(41, 1, .aload_n 0, []), (42, 1, .iconst (-1), []), (43, 3, .putfield 208, [9, 30, 1184]), (46, 1, .aload_n 0, []), (47, 1, .aload_n 0, []), (48, 3, .getfield 199, [9, 22, 1176]), (51, 3, .putfield 211, [9, 33, 1187]), (54, 1, .aload_n 0, []), (55, 1, .aload_n 0, []), (56, 3, .getfield 202, [9, 23, 1177]), (59, 3, .putfield 214, [9, 34, 1188]), (62, 1, .return_, [])], 0)]
def bk_160 : List Bk := [([(0, 1, .iconst 0, []), (1, 1, .istore_n 1, [])], 1),
 ([(2, 1, .iload_n 1, []), (3, 2, .bipush 8, []), (5, 3, .if_icmp .ge 44, [2]), (8, 1, .aload_n 0, []), (9, 3, .getfield 71, [9, 35, 1189]), (12, 1, .iload_n 1, []), (13, 1, .iconst 0, []), (14, 1, .iastore, []), (15, 1, .aload_n 0, []), (16, 3, .getfield 74, [9, 36, 1190]), (19, 1, .iload_n 1, []), (20, 1, .iconst 0, []), (21, 1, .iastore, []), (22, 1, .aload_n 0, []), (23, 3, .getfield 89, [9, 41, 1195]), (26, 1, .iload_n 1, []), (27, 1, .iconst 0, []), (28, 1, .iastore, []), (29, 1, .aload_n 0, []), (30, 3, .getfield 92, [9, 42, 1196]), (33, 1, .iload_n 1, []), (34, 1, .iconst 0, []), (35, 1, .bastore, []), (36, 1, .aload_n 0, []), (37, 3, .getfield 96, [9, 43, 1197]), (40, 1, .iload_n 1, []), (41, 1, .iconst (-1), []), (42, 1, .iastore, []), (43, 3, .iinc 1 1, []), (46, 3, .goto (-44), [1])], 0),
 ([(49, 1, .aload_n 0, []), (50, 1, .iconst (-1), []), (51, 3, .putfield 217, [9, 49, 1203]), (54, 1, .aload_n 0, []), (55, 1, .iconst 0, []), (56, 3, .putfield 220, [9, 50, 1204]), (59, 1, .return_, [])], 0)]
def bk_161 : List Bk := [([(0, 1, .iconst 0, []), (1, 1, .istore_n 1, [])], 1),
 ([(2, 1, .iload_n 1, []), (3, 2, .bipush 8, []), (5, 3, .if_icmp .ge 186, [6]), (8, 1, .aload_n 0, []), (9, 3, .getfield 223, [9, 51, 1205]), (12, 1, .aload_n 0, []), (13, 3, .getfield 43, [9, 14, 1168]), (16, 1, .iload_n 1, []), (17, 1, .iaload, []), (18, 1, .isub, []), (19, 1, .aload_n 0, []), (20, 3, .getfield 68, [9, 29, 1183]), (23, 1, .iload_n 1, []), (24, 1, .iaload, []), (25, 1, .isub, []), (26, 1, .istore_n 2, []), (27, 1, .aload_n 0, []), (28, 3, .getfield 205, [9, 27, 1181]), (31, 1, .iload_n 1, []), (32, 1, .ishr, []), (33, 1, .iconst 1, []), (34, 1, .iand, []), (35, 1, .iconst 1, []), (36, 3, .if_icmp .ne 67, [2]), (39, 1, .iload_n 2, []), (40, 3, .ifCond .lt 63, [2]), (43, 1, .iload_n 2, []), (44, 1, .aload_n 0, []), (45, 3, .getfield 37, [9, 12, 1166]), (48, 1, .iload_n 1, []), (49, 1, .iaload, []), (50, 1, .irem, []), (51, 3, .ifCond .ne 52, [2]), (54, 1, .aload_n 0, []), (55, 3, .getfield 77, [9, 37, 1191]), (58, 3, .sipush 200, []), (61, 1, .iload_n 1, []), (62, 1, .imul, []), (63, 1, .aload_n 0, []), (64, 3, .getfield 71, [9, 35, 1189]), (67, 1, .iload_n 1, []), (68, 1, .iaload, []), (69, 1, .iadd, []), (70, 1, .aload_n 0, []), (71, 3, .getfield 223, [9, 51, 1205]), (74, 1, .iastore, []), (75, 1, .aload_n 0, []), (76, 3, .getfield 80, [9, 38, 1192]), (79, 3, .sipush 200, []), (82, 1, .iload_n 1, []), (83, 1, .imul, []), (84, 1, .aload_n 0, []), (85, 3, .getfield 71, [9, 35, 1189]), (88, 1, .iload_n 1, []), (89, 1, .iaload, []), (90, 1, .iadd, []), (91, 1, .iconst (-1), []), (92, 1, .iastore, []), (93, 1, .aload_n 0, []), (94, 3, .getfield 71, [9, 35, 1189]), (97, 1, .iload_n 1, []), (98, 1, .dup2, []), (99, 1, .iaload, []), (100, 1, .iconst 1, []), (101, 1, .iadd, []), (102, 1, .iastore, [])], 2),
 ([(103, 1, .aload_n 0, []), (104, 3, .getfield 92, [9, 42, 1196]), (107, 1, .iload_n 1, []), (108, 1, .baload, []), (109, 3, .ifCond .ne 49, [3]), (112, 1, .aload_n 0, []), (113, 3, .getfield 74, [9, 36, 1190]), (116, 1, .iload_n 1, []), (117, 1, .iaload, []), (118, 1, .aload_n 0, []), (119, 3, .getfield 71, [9, 35, 1189]), (122, 1, .iload_n 1, []), (123, 1, .iaload, []), (124, 3, .if_icmp .ge 34, [3]), (127, 1, .aload_n 0, []), (128, 3, .getfield 92, [9, 42, 1196]), (131, 1, .iload_n 1, []), (132, 1, .iconst 1, []), (133, 1, .bastore, []), (134, 1, .aload_n 0, []), (135, 3, .getfield 83, [9, 39, 1193]), (138, 1, .iload_n 1, []), (139, 1, .iconst 0, []), (140, 1, .iastore, []), (141, 1, .aload_n 0, []), (142, 3, .getfield 86, [9, 40, 1194]), (145, 1, .iload_n 1, []), (146, 1, .iconst 0, []), (147, 1, .iastore, []), (148, 1, .aload_n 0, []), (149, 3, .getfield 74, [9, 36, 1190]), (152, 1, .iload_n 1, []), (153, 1, .dup2, []), (154, 1, .iaload, []), (155, 1, .iconst 1, []), (156, 1, .iadd, []), (157, 1, .iastore, [])], 3),
 ([(158, 1, .aload_n 0, []), (159, 3, .getfield 99, [9, 44, 1198]), (162, 1, .iload_n 1, []), (163, 1, .aload_n 0, []), (164, 3, .getfield 92, [9, 42, 1196]), (167, 1, .iload_n 1, []), (168, 1, .baload, []), (169, 3, .ifCond .eq 7, [4]), (172, 1, .iconst 3, []), (173, 3, .goto 4, [5])], 0),
 ([(176, 1, .iconst 0, [])], 5),
 ([(177, 1, .iastore, []), (178, 1, .aload_n 0, []), (179, 3, .getfield 102, [9, 45, 1199]), (182, 1, .iload_n 1, []), (183, 1, .iconst 0, []), (184, 1, .iastore, []), (185, 3, .iinc 1 1, []), (188, 3, .goto (-186), [1])], 0),
 ([(191, 1, .return_, [])], 0)]
def bk_162 : List Bk := [([(0, 1, .iconst 0, []), (1, 1, .istore_n 2, []), (2, 1, .iconst 0, []), (3, 1, .istore_n 3, [])], 1),
 ([(4, 1, .iload_n 3, []), (5, 2, .bipush 8, []), (7, 3, .if_icmp .ge 22, [2]), (10, 1, .iload_n 2, []), (11, 1, .aload_n 0, []), (12, 3, .getfield 89, [9, 41, 1195]), (15, 1, .iload_n 3, []), (16, 1, .iaload, []), (17, 1, .iload_n 1, []), (18, 1, .ishr, []), (19, 1, .iconst 1, []), (20, 1, .iand, []), (21, 1, .iadd, []), (22, 1, .istore_n 2, []), (23, 3, .iinc 3 1, []), (26, 3, .goto (-22), [1])], 0),
 ([(29, 1, .iload_n 2, []), (30, 1, .ireturn, [])], 0)]
def bk_163 : List Bk := [([(0, 1, .iconst (-1), []), (1, 1, .istore_n 2, []), (2, 1, .iconst 0, []), (3, 1, .istore_n 3, [])], 1),
 ([(4, 1, .iload_n 3, []), (5, 2, .bipush 8, []), (7, 3, .if_icmp .ge 106, [8]), (10, 1, .iconst 0, []), (11, 2, .istore 4, [])], 2),
 ([(13, 2, .iload 4, []), (15, 1, .aload_n 0, []), (16, 3, .getfield 46, [9, 15, 1169]), (19, 1, .iload_n 3, []), (20, 1, .iaload, []), (21, 3, .if_icmp .ge 86, [7]), (24, 1, .aload_n 0, []), (25, 3, .getfield 205, [9, 27, 1181]), (28, 1, .iload_n 3, []), (29, 1, .ishr, []), (30, 1, .iconst 1, []), (31, 1, .iand, []), (32, 1, .iconst 1, []), (33, 3, .if_icmp .ne 74, [7]), (36, 1, .aload_n 0, []), (37, 3, .getfield 49, [9, 16, 1170]), (40, 2, .bipush 20, []), (42, 1, .iload_n 3, []), (43, 1, .imul, []), (44, 2, .iload 4, []), (46, 1, .iadd, []), (47, 1, .iaload, []), (48, 1, .iconst 1, []), (49, 3, .if_icmp .ne 23, [3]), (52, 1, .aload_n 0, []), (53, 3, .getfield 52, [9, 17, 1171]), (56, 2, .bipush 20, []), (58, 1, .iload_n 3, []), (59, 1, .imul, []), (60, 2, .iload 4, []), (62, 1, .iadd, []), (63, 1, .iaload, []), (64, 1, .iload_n 1, []), (65, 3, .if_icmp .ne 7, [3]), (68, 1, .iconst 1, []), (69, 3, .goto 4, [4])], 0),
 ([(72, 1, .iconst 0, [])], 4),
 ([(73, 2, .istore 5, []), (75, 2, .iload 5, []), (77, 3, .ifCond .eq 22, [5]), (80, 1, .aload_n 0, []), (81, 3, .getfield 65, [9, 28, 1182]), (84, 1, .iload_n 3, []), (85, 1, .iaload, []), (86, 1, .iload_n 2, []), (87, 3, .if_icmp .le 12, [5]), (90, 1, .aload_n 0, []), (91, 3, .getfield 65, [9, 28, 1182]), (94, 1, .iload_n 3, []), (95, 1, .iaload, []), (96, 3, .goto 4, [6])], 0),
 ([(99, 1, .iload_n 2, [])], 6),
 ([(100, 1, .istore_n 2, []), (101, 3, .iinc 4 1, []), (104, 3, .goto (-91), [2])], 0),
 ([(107, 3, .iinc 3 1, []), (110, 3, .goto (-106), [1])], 0),
 ([(113, 1, .iload_n 2, []), (114, 1, .ireturn, [])], 0)]
def bk_164 : List Bk := [([(0, 1, .iconst 0, []), (1, 1, .istore_n 2, []), (2, 1, .iconst 0, []), (3, 1, .istore_n 3, [])], 1),
 ([(4, 1, .iload_n 3, []), (5, 1, .aload_n 0, []), (6, 3, .getfield 139, [9, 0, 1154]), (9, 3, .if_icmp .ge 65, [4]), (12, 1, .aload_n 0, []), (13, 3, .getfield 214, [9, 34, 1188]), (16, 1, .iconst 2, []), (17, 3, .if_icmp .ne 57, [4]), (20, 1, .aload_n 0, []), (21, 1, .iload_n 3, []), (22, 3, .invokevirtual 226, [162, 1489, 1]), (25, 1, .aload_n 0, []), (26, 3, .getfield 89, [9, 41, 1195]), (29, 1, .iload_n 1, []), (30, 1, .iaload, []), (31, 1, .iload_n 3, []), (32, 1, .ishr, []), (33, 1, .iconst 1, []), (34, 1, .iand, []), (35, 1, .isub, []), (36, 2, .istore 4, []), (38, 1, .iload_n 2, []), (39, 2, .iload 4, []), (41, 3, .ifCond .le 24, [2]), (44, 1, .aload_n 0, []), (45, 3, .getfield 114, [9, 52, 1206]), (48, 1, .iload_n 3, []), (49, 1, .iaload, []), (50, 1, .aload_n 0, []), (51, 3, .getfield 65, [9, 28, 1182]), (54, 1, .iload_n 1, []), (55, 1, .iaload, []), (56, 3, .if_icmp .lt 9, [2]), (59, 1, .iconst 1, []), (60, 1, .iload_n 3, []), (61, 1, .ishl, []), (62, 3, .goto 4, [3])], 0),
 ([(65, 1, .iconst 0, [])], 3),
 ([(66, 1, .ior, []), (67, 1, .istore_n 2, []), (68, 3, .iinc 3 1, []), (71, 3, .goto (-67), [1])], 0),
 ([(74, 1, .iload_n 2, []), (75, 1, .ireturn, [])], 0)]
def bk_165 : List Bk := [([(0, 1, .aload_n 0, []), (1, 3, .getfield 223, [9, 51, 1205]), (4, 1, .aload_n 0, []), (5, 3, .getfield 16, [9, 3, 1157]), (8, 1, .iload_n 1, []), (9, 1, .iaload, []), (10, 1, .aload_n 0, []), (11, 3, .getfield 19, [9, 4, 1158]), (14, 1, .iload_n 1, []), (15, 1, .iaload, []), (16, 3, .invokestatic 135, [137, 1355, 3]), (19, 1, .ireturn, [])], 0)]
def bk_166 : List Bk := [([(0, 1, .iconst 0, []), (1, 1, .istore_n 3, []), (2, 1, .iconst 0, []), (3, 2, .istore 4, [])], 1),
 ([(5, 2, .iload 4, []), (7, 2, .bipush 8, []), (9, 3, .if_icmp .ge 38, [4]), (12, 1, .iload_n 3, []), (13, 2, .iload 4, []), (15, 1, .iload_n 2, []), (16, 3, .if_icmp .eq 22, [2]), (19, 1, .aload_n 0, []), (20, 3, .getfield 89, [9, 41, 1195]), (23, 2, .iload 4, []), (25, 1, .iaload, []), (26, 1, .iload_n 1, []), (27, 1, .iand, []), (28, 3, .ifCond .eq 10, [2]), (31, 1, .iconst 1, []), (32, 2, .iload 4, []), (34, 1, .ishl, []), (35, 3, .goto 4, [3])], 0),
 ([(38, 1, .iconst 0, [])], 3),
 ([(39, 1, .ior, []), (40, 1, .istore_n 3, []), (41, 3, .iinc 4 1, []), (44, 3, .goto (-39), [1])], 0),
 ([(47, 1, .iload_n 3, []), (48, 1, .ireturn, [])], 0)]
def bk_167 : List Bk := [([(0, 1, .aload_n 0, []), (1, 1, .iload_n 2, []), (2, 3, .invokevirtual 226, [162, 1489, 1]), (5, 1, .aload_n 0, []), (6, 3, .getfield 13, [9, 2, 1156]), (9, 1, .iload_n 2, []), (10, 1, .iaload, []), (11, 3, .if_icmp .lt 7, [1]), (14, 1, .iconst 1, []), (15, 3, .goto 4, [2])], 0),
 ([(18, 1, .iconst 0, [])], 2),
 ([(19, 1, .istore_n 3, []), (20, 1, .aload_n 0, []), (21, 1, .iload_n 1, []), (22, 3, .invokevirtual 229, [164, 1493, 1]), (25, 2, .istore 4, []), (27, 1, .iload_n 3, []), (28, 3, .ifCond .ne 16, [3]), (31, 2, .iload 4, []), (33, 3, .ifCond .ne 11, [3]), (36, 1, .aload_n 0, []), (37, 1, .iload_n 2, []), (38, 3, .invokevirtual 232, [165, 1497, 1]), (41, 3, .ifCond .eq 37, [6])], 3),
 ([(44, 1, .aload_n 0, []), (45, 3, .getfield 99, [9, 44, 1198]), (48, 1, .iload_n 1, []), (49, 1, .iconst 2, []), (50, 1, .iastore, []), (51, 1, .aload_n 0, []), (52, 3, .getfield 102, [9, 45, 1199]), (55, 1, .iload_n 1, []), (56, 1, .aload_n 0, []), (57, 2, .iload 4, []), (59, 1, .iload_n 3, []), (60, 3, .ifCond .eq 9, [4]), (63, 1, .iconst 1, []), (64, 1, .iload_n 2, []), (65, 1, .ishl, []), (66, 3, .goto 4, [5])], 0),
 ([(69, 1, .iconst 0, [])], 5),
 ([(70, 1, .ior, []), (71, 1, .iload_n 1, []), (72, 3, .invokevirtual 235, [166, 1501, 2]), (75, 1, .iastore, []), (76, 1, .iconst 0, []), (77, 1, .ireturn, [])], 0),
 ([(78, 1, .aload_n 0, []), (79, 3, .getfield 89, [9, 41, 1195]), (82, 1, .iload_n 1, []), (83, 1, .dup2, []), (84, 1, .iaload, []), (85, 1, .iconst 1, []), (86, 1, .iload_n 2, []), (87, 1, .ishl, []), (88, 1, .ior, []), (89, 1, .iastore, []), (90, 1, .iconst 1, []), (91, 1, .ireturn, [])], 0)]
def bk_168 : List Bk := [([(0, 1, .aload_n 0, []), (1, 3, .getfield 80, [9, 38, 1192]), (4, 3, .sipush 200, []), (7, 1, .iload_n 1, []), (8, 1, .imul, []), (9, 1, .aload_n 0, []), (10, 3, .getfield 74, [9, 36, 1190]), (13, 1, .iload_n 1, []), (14, 1, .iaload, []), (15, 1, .iadd, []), (16, 1, .iconst 1, []), (17, 1, .isub, []), (18, 1, .iload_n 2, []), (19, 1, .iastore, []), (20, 1, .aload_n 0, []), (21, 3, .getfield 92, [9, 42, 1196]), (24, 1, .iload_n 1, []), (25, 1, .iconst 0, []), (26, 1, .bastore, []), (27, 1, .aload_n 0, []), (28, 3, .getfield 89, [9, 41, 1195]), (31, 1, .iload_n 1, []), (32, 1, .iconst 0, []), (33, 1, .iastore, []), (34, 1, .return_, [])], 0)]
def bk_169 : List Bk := [([(0, 1, .iconst 1, []), (1, 1, .istore_n 2, [])], 1),
 ([(2, 1, .iload_n 2, []), (3, 3, .ifCond .eq 128, [9]), (6, 1, .aload_n 0, []), (7, 3, .getfield 83, [9, 39, 1193]), (10, 1, .iload_n 1, []), (11, 1, .iaload, []), (12, 1, .aload_n 0, []), (13, 3, .getfield 46, [9, 15, 1169]), (16, 1, .iload_n 1, []), (17, 1, .iaload, []), (18, 3, .if_icmp .ge 113, [9]), (21, 2, .bipush 20, []), (23, 1, .iload_n 1, []), (24, 1, .imul, []), (25, 1, .aload_n 0, []), (26, 3, .getfield 83, [9, 39, 1193]), (29, 1, .iload_n 1, []), (30, 1, .iaload, []), (31, 1, .iadd, []), (32, 1, .istore_n 3, []), (33, 1, .aload_n 0, []), (34, 3, .getfield 49, [9, 16, 1170]), (37, 1, .iload_n 3, []), (38, 1, .iaload, []), (39, 3, .ifCond .ne 12, [2]), (42, 1, .aload_n 0, []), (43, 3, .getfield 99, [9, 44, 1198]), (46, 1, .iload_n 1, []), (47, 1, .iconst 1, []), (48, 1, .iastore, []), (49, 1, .iconst 1, []), (50, 1, .ireturn, [])], 0),
 ([(51, 1, .aload_n 0, []), (52, 3, .getfield 49, [9, 16, 1170]), (55, 1, .iload_n 3, []), (56, 1, .iaload, []), (57, 1, .iconst 2, []), (58, 3, .if_icmp .ne 22, [3]), (61, 1, .aload_n 0, []), (62, 3, .getfield 89, [9, 41, 1195]), (65, 1, .iload_n 1, []), (66, 1, .dup2, []), (67, 1, .iaload, []), (68, 1, .iconst 1, []), (69, 1, .aload_n 0, []), (70, 3, .getfield 52, [9, 17, 1171]), (73, 1, .iload_n 3, []), (74, 1, .iaload, []), (75, 1, .ishl, []), (76, 1, .iconst (-1), []), (77, 1, .ixor, []), (78, 1, .iand, []), (79, 1, .iastore, [])], 3),
 ([(80, 1, .aload_n 0, []), (81, 3, .getfield 49, [9, 16, 1170]), (84, 1, .iload_n 3, []), (85, 1, .iaload, []), (86, 1, .iconst 2, []), (87, 3, .if_icmp .eq 17, [4]), (90, 1, .aload_n 0, []), (91, 1, .iload_n 1, []), (92, 1, .aload_n 0, []), (93, 3, .getfield 52, [9, 17, 1171]), (96, 1, .iload_n 3, []), (97, 1, .iaload, []), (98, 3, .invokevirtual 239, [167, 1485, 2]), (101, 3, .ifCond .eq 7, [5])], 4),
 ([(104, 1, .iconst 1, []), (105, 3, .goto 4, [6])], 0),
 ([(108, 1, .iconst 0, [])], 6),
 ([(109, 1, .istore_n 2, []), (110, 1, .aload_n 0, []), (111, 3, .getfield 83, [9, 39, 1193]), (114, 1, .iload_n 1, []), (115, 1, .dup2, []), (116, 1, .iaload, []), (117, 1, .iload_n 2, []), (118, 3, .ifCond .eq 7, [7]), (121, 1, .iconst 1, []), (122, 3, .goto 4, [8])], 0),
 ([(125, 1, .iconst 0, [])], 8),
 ([(126, 1, .iadd, []), (127, 1, .iastore, []), (128, 3, .goto (-126), [1])], 0),
 ([(131, 1, .iload_n 2, []), (132, 3, .ifCond .eq 19, [10]), (135, 1, .aload_n 0, []), (136, 1, .iload_n 1, []), (137, 1, .aload_n 0, []), (138, 3, .getfield 223, [9, 51, 1205]), (141, 3, .invokevirtual 243, [168, 1505, 2]), (144, 1, .aload_n 0, []), (145, 3, .getfield 99, [9, 44, 1198]), (148, 1, .iload_n 1, []), (149, 1, .iconst 0, []), (150, 1, .iastore, [])], 10),
 ([(151, 1, .iconst 0, []), (152, 1, .ireturn, [])], 0)]
def bk_170 : List Bk := [([(0, 1, .aload_n 0, []), (1, 3, .getfield 211, [9, 33, 1187]), (4, 3, .ifCond .ne 15, [1]), (7, 2, .bipush 99, []), (9, 1, .aload_n 0, []), (10, 3, .getfield 65, [9, 28, 1182]), (13, 1, .iload_n 1, []), (14, 1, .iaload, []), (15, 1, .isub, []), (16, 3, .goto 46, [3])], 0),
 ([(19, 1, .aload_n 0, []), (20, 3, .getfield 211, [9, 33, 1187]), (23, 1, .iconst 1, []), (24, 3, .if_icmp .ne 32, [2]), (27, 1, .aload_n 0, []), (28, 3, .getfield 77, [9, 37, 1191]), (31, 3, .sipush 200, []), (34, 1, .iload_n 1, []), (35, 1, .imul, []), (36, 1, .aload_n 0, []), (37, 3, .getfield 74, [9, 36, 1190]), (40, 1, .iload_n 1, []), (41, 1, .iaload, []), (42, 1, .iadd, []), (43, 1, .iconst 1, []), (44, 1, .isub, []), (45, 1, .iaload, []), (46, 1, .aload_n 0, []), (47, 3, .getfield 40, [9, 13, 1167]), (50, 1, .iload_n 1, []), (51, 1, .iaload, []), (52, 1, .iadd, []), (53, 3, .goto 9, [3])], 0),
 ([(56, 1, .aload_n 0, []), (57, 3, .getfield 96, [9, 43, 1197]), (60, 1, .iload_n 1, []), (61, 1, .iaload, [])], 3),
 ([(62, 1, .ireturn, [])], 0)]
def bk_171 : List Bk := [([(0, 1, .iconst 0, []), (1, 1, .istore_n 1, [])], 1),
 ([(2, 1, .iload_n 1, []), (3, 2, .bipush 8, []), (5, 3, .if_icmp .ge 33, [4]), (8, 1, .aload_n 0, []), (9, 3, .getfield 105, [9, 46, 1200]), (12, 1, .iload_n 1, []), (13, 1, .aload_n 0, []), (14, 3, .getfield 92, [9, 42, 1196]), (17, 1, .iload_n 1, []), (18, 1, .baload, []), (19, 3, .ifCond .eq 11, [2]), (22, 1, .aload_n 0, []), (23, 1, .iload_n 1, []), (24, 3, .invokevirtual 247, [170, 1473, 1]), (27, 3, .goto 4, [3])], 0),
 ([(30, 1, .iconst 0, [])], 3),
 ([(31, 1, .iastore, []), (32, 3, .iinc 1 1, []), (35, 3, .goto (-33), [1])], 0),
 ([(38, 1, .aload_n 0, []), (39, 3, .getfield 214, [9, 34, 1188]), (42, 3, .ifCond .le 15, [5]), (45, 1, .aload_n 0, []), (46, 3, .getfield 211, [9, 33, 1187]), (49, 1, .iconst 2, []), (50, 3, .if_icmp .ge 7, [5]), (53, 1, .iconst 1, []), (54, 3, .goto 4, [6])], 0),
 ([(57, 1, .iconst 0, [])], 6),
 ([(58, 1, .istore_n 1, [])], 7),
 ([(59, 1, .iload_n 1, []), (60, 3, .ifCond .eq 79, [13]), (63, 1, .iconst 0, []), (64, 1, .istore_n 1, []), (65, 1, .iconst 0, []), (66, 1, .istore_n 2, [])], 8),
 ([(67, 1, .iload_n 2, []), (68, 2, .bipush 8, []), (70, 3, .if_icmp .ge 66, [12]), (73, 1, .iconst 0, []), (74, 1, .istore_n 3, [])], 9),
 ([(75, 1, .iload_n 3, []), (76, 2, .bipush 8, []), (78, 3, .if_icmp .ge 52, [11]), (81, 1, .aload_n 0, []), (82, 3, .getfield 102, [9, 45, 1199]), (85, 1, .iload_n 2, []), (86, 1, .iaload, []), (87, 1, .iload_n 3, []), (88, 1, .ishr, []), (89, 1, .iconst 1, []), (90, 1, .iand, []), (91, 1, .iconst 1, []), (92, 3, .if_icmp .ne 32, [10]), (95, 1, .aload_n 0, []), (96, 3, .getfield 105, [9, 46, 1200]), (99, 1, .iload_n 2, []), (100, 1, .iaload, []), (101, 1, .aload_n 0, []), (102, 3, .getfield 105, [9, 46, 1200]), (105, 1, .iload_n 3, []), (106, 1, .iaload, []), (107, 3, .if_icmp .ge 17, [10]), (110, 1, .aload_n 0, []), (111, 3, .getfield 105, [9, 46, 1200]), (114, 1, .iload_n 3, []), (115, 1, .aload_n 0, []), (116, 3, .getfield 105, [9, 46, 1200]), (119, 1, .iload_n 2, []), (120, 1, .iaload, []), (121, 1, .iastore, []), (122, 1, .iconst 1, []), (123, 1, .istore_n 1, [])], 10),
 ([(124, 3, .iinc 3 1, []), (127, 3, .goto (-52), [9])], 0),
 ([(130, 3, .iinc 2 1, []), (133, 3, .goto (-66), [8])], 0),
 ([(136, 3, .goto (-77), [7])], 0),
 ([(139, 1, .return_, [])], 0)]
def bk_172 : List Bk := [([(0, 1, .iconst 0, []), (1, 1, .istore_n 2, [])], 1),
 ([(2, 1, .iload_n 2, []), (3, 1, .aload_n 0, []), (4, 3, .getfield 139, [9, 0, 1154]), (7, 3, .if_icmp .ge 35, [3]), (10, 1, .aload_n 0, []), (11, 3, .getfield 89, [9, 41, 1195]), (14, 1, .iload_n 1, []), (15, 1, .iaload, []), (16, 1, .iload_n 2, []), (17, 1, .ishr, []), (18, 1, .iconst 1, []), (19, 1, .iand, []), (20, 1, .iconst 1, []), (21, 3, .if_icmp .ne 15, [2]), (24, 1, .aload_n 0, []), (25, 3, .getfield 7, [9, 1, 1155]), (28, 1, .iload_n 2, []), (29, 1, .iaload, []), (30, 1, .iconst 2, []), (31, 3, .if_icmp .ne 5, [2]), (34, 1, .iconst 1, []), (35, 1, .ireturn, [])], 0),
 ([(36, 3, .iinc 2 1, []), (39, 3, .goto (-37), [1])], 0),
 ([(42, 1, .iconst 0, []), (43, 1, .ireturn, [])], 0)]
def bk_173 : List Bk := [([(0, 1, .aload_n 0, []), (1, 3, .invokevirtual 250, [171, 1469, 0]), (4, 1, .iconst (-1), []), (5, 1, .istore_n 1, []), (6, 1, .iconst 0, []), (7, 1, .istore_n 2, []), (8, 1, .iconst 0, []), (9, 1, .istore_n 3, [])], 1),
 ([(10, 1, .iload_n 3, []), (11, 2, .bipush 8, []), (13, 3, .if_icmp .ge 100, [11]), (16, 1, .aload_n 0, []), (17, 3, .getfield 92, [9, 42, 1196]), (20, 1, .iload_n 3, []), (21, 1, .baload, []), (22, 3, .ifCond .eq 85, [10]), (25, 1, .aload_n 0, []), (26, 3, .getfield 99, [9, 44, 1198]), (29, 1, .iload_n 3, []), (30, 1, .iaload, []), (31, 1, .iconst 3, []), (32, 3, .if_icmp .ne 75, [10]), (35, 1, .aload_n 0, []), (36, 1, .iload_n 3, []), (37, 3, .invokevirtual 253, [172, 1477, 1]), (40, 2, .istore 4, []), (42, 1, .iload_n 1, []), (43, 1, .iconst (-1), []), (44, 3, .if_icmp .eq 33, [3]), (47, 2, .iload 4, []), (49, 3, .ifCond .eq 7, [2]), (52, 1, .iload_n 2, []), (53, 3, .ifCond .eq 24, [3])], 2),
 ([(56, 2, .iload 4, []), (58, 1, .iload_n 2, []), (59, 3, .if_icmp .ne 22, [4]), (62, 1, .aload_n 0, []), (63, 3, .getfield 105, [9, 46, 1200]), (66, 1, .iload_n 3, []), (67, 1, .iaload, []), (68, 1, .aload_n 0, []), (69, 3, .getfield 105, [9, 46, 1200]), (72, 1, .iload_n 1, []), (73, 1, .iaload, []), (74, 3, .if_icmp .ge 7, [4])], 3),
 ([(77, 1, .iconst 1, []), (78, 3, .goto 4, [5])], 0),
 ([(81, 1, .iconst 0, [])], 5),
 ([(82, 2, .istore 5, []), (84, 2, .iload 5, []), (86, 3, .ifCond .eq 7, [6]), (89, 1, .iload_n 3, []), (90, 3, .goto 4, [7])], 0),
 ([(93, 1, .iload_n 1, [])], 7),
 ([(94, 1, .istore_n 1, []), (95, 2, .iload 5, []), (97, 3, .ifCond .eq 8, [8]), (100, 2, .iload 4, []), (102, 3, .goto 4, [9])], 0),
 ([(105, 1, .iload_n 2, [])], 9),
 ([(106, 1, .istore_n 2, [])], 10),
 ([(107, 3, .iinc 3 1, []), (110, 3, .goto (-100), [1])], 0),
 ([(113, 1, .iload_n 1, []), (114, 1, .ireturn, [])], 0)]
def bk_174 : List Bk := [([(0, 1, .iconst 0, []), (1, 1, .istore_n 1, [])], 1),
 ([(2, 1, .iload_n 1, []), (3, 1, .aload_n 0, []), (4, 3, .getfield 58, [9, 24, 1178]), (7, 3, .if_icmp .ge 71, [8]), (10, 1, .iconst (-1), []), (11, 1, .istore_n 2, []), (12, 1, .aload_n 0, []), (13, 3, .invokevirtual 256, [173, 1465, 0]), (16, 1, .istore_n 3, [])], 2),
 ([(17, 1, .iload_n 2, []), (18, 1, .iconst (-1), []), (19, 3, .if_icmp .ne 39, [7]), (22, 1, .iload_n 3, []), (23, 1, .iconst (-1), []), (24, 3, .if_icmp .eq 34, [7]), (27, 1, .aload_n 0, []), (28, 1, .iload_n 3, []), (29, 3, .invokevirtual 259, [169, 1481, 1]), (32, 3, .ifCond .eq 7, [3]), (35, 1, .iload_n 3, []), (36, 3, .goto 4, [4])], 0),
 ([(39, 1, .iconst (-1), [])], 4),
 ([(40, 1, .istore_n 2, []), (41, 1, .iload_n 2, []), (42, 1, .iconst (-1), []), (43, 3, .if_icmp .ne 10, [5]), (46, 1, .aload_n 0, []), (47, 3, .invokevirtual 256, [173, 1465, 0]), (50, 3, .goto 4, [6])], 0),
 ([(53, 1, .iconst (-1), [])], 6),
 ([(54, 1, .istore_n 3, []), (55, 3, .goto (-38), [2])], 0),
 ([(58, 1, .aload_n 0, []), (59, 3, .getfield 108, [9, 47, 1201]), (62, 1, .iconst 3, []), (63, 1, .aload_n 0, []), (64, 3, .getfield 223, [9, 51, 1205]), (67, 1, .imul, []), (68, 1, .iload_n 1, []), (69, 1, .iadd, []), (70, 1, .iload_n 2, []), (71, 1, .iastore, []), (72, 3, .iinc 1 1, []), (75, 3, .goto (-73), [1])], 0),
 ([(78, 1, .return_, [])], 0)]
def bk_175 : List Bk := [([(0, 1, .iconst 0, []), (1, 1, .istore_n 1, []), (2, 1, .iconst 0, []), (3, 1, .istore_n 2, [])], 1),
 ([(4, 1, .iload_n 2, []), (5, 2, .bipush 8, []), (7, 3, .if_icmp .ge 80, [8]), (10, 1, .aload_n 0, []), (11, 3, .getfield 102, [9, 45, 1199]), (14, 1, .iload_n 2, []), (15, 1, .iaload, []), (16, 1, .istore_n 3, []), (17, 1, .iconst 0, []), (18, 2, .istore 4, [])], 2),
 ([(20, 2, .iload 4, []), (22, 2, .bipush 8, []), (24, 3, .if_icmp .ge 49, [7]), (27, 1, .iconst 0, []), (28, 2, .istore 5, [])], 3),
 ([(30, 2, .iload 5, []), (32, 2, .bipush 8, []), (34, 3, .if_icmp .ge 33, [6]), (37, 1, .iload_n 3, []), (38, 1, .iload_n 3, []), (39, 2, .iload 5, []), (41, 1, .ishr, []), (42, 1, .iconst 1, []), (43, 1, .iand, []), (44, 1, .iconst 1, []), (45, 3, .if_icmp .ne 13, [4]), (48, 1, .aload_n 0, []), (49, 3, .getfield 102, [9, 45, 1199]), (52, 2, .iload 5, []), (54, 1, .iaload, []), (55, 3, .goto 4, [5])], 0),
 ([(58, 1, .iconst 0, [])], 5),
 ([(59, 1, .ior, []), (60, 1, .istore_n 3, []), (61, 3, .iinc 5 1, []), (64, 3, .goto (-34), [3])], 0),
 ([(67, 3, .iinc 4 1, []), (70, 3, .goto (-50), [2])], 0),
 ([(73, 1, .iload_n 1, []), (74, 1, .iload_n 3, []), (75, 1, .iconst 1, []), (76, 1, .iload_n 2, []), (77, 1, .ishl, []), (78, 1, .iand, []), (79, 1, .ior, []), (80, 1, .istore_n 1, []), (81, 3, .iinc 2 1, []), (84, 3, .goto (-80), [1])], 0),
 ([(87, 1, .iload_n 1, []), (88, 1, .ireturn, [])], 0)]
def bk_176 : List Bk := [([(0, 1, .aload_n 0, []), (1, 3, .getfield 52, [9, 17, 1171]), (4, 2, .bipush 20, []), (6, 1, .iload_n 1, []), (7, 1, .imul, []), (8, 1, .iload_n 2, []), (9, 1, .iadd, []), (10, 1, .iaload, []), (11, 1, .iload_n 1, []), (12, 1, .aload_n 0, []), (13, 3, .getfield 208, [9, 30, 1184]), (16, 3, .if_icmp .ne 18, [1]), (19, 1, .iload_n 2, []), (20, 1, .aload_n 0, []), (21, 3, .getfield 262, [9, 31, 1185]), (24, 3, .if_icmp .ne 10, [1]), (27, 1, .aload_n 0, []), (28, 3, .getfield 265, [9, 32, 1186]), (31, 3, .goto 4, [2])], 0),
 ([(34, 1, .iconst 0, [])], 2),
 ([(35, 1, .iadd, []), (36, 1, .ireturn, [])], 0)]
def bk_177 : List Bk := [([(0, 1, .iconst 0, []), (1, 1, .istore_n 1, [])], 1),
 ([(2, 1, .iload_n 1, []), (3, 2, .bipush 8, []), (5, 3, .if_icmp .ge 179, [5]), (8, 1, .aload_n 0, []), (9, 3, .getfield 99, [9, 44, 1198]), (12, 1, .iload_n 1, []), (13, 1, .iaload, []), (14, 1, .iconst 1, []), (15, 3, .if_icmp .ne 163, [4]), (18, 1, .aload_n 0, []), (19, 3, .getfield 96, [9, 43, 1197]), (22, 1, .iload_n 1, []), (23, 1, .aload_n 0, []), (24, 3, .getfield 223, [9, 51, 1205]), (27, 1, .iastore, []), (28, 1, .aload_n 0, []), (29, 3, .getfield 86, [9, 40, 1194]), (32, 1, .iload_n 1, []), (33, 1, .dup2, []), (34, 1, .iaload, []), (35, 1, .iconst 1, []), (36, 1, .iadd, []), (37, 1, .iastore, []), (38, 1, .aload_n 0, []), (39, 3, .getfield 86, [9, 40, 1194]), (42, 1, .iload_n 1, []), (43, 1, .iaload, []), (44, 1, .aload_n 0, []), (45, 1, .iload_n 1, []), (46, 1, .aload_n 0, []), (47, 3, .getfield 83, [9, 39, 1193]), (50, 1, .iload_n 1, []), (51, 1, .iaload, []), (52, 3, .invokevirtual 268, [176, 1517, 2]), (55, 3, .if_icmp .ne 123, [4]), (58, 1, .aload_n 0, []), (59, 3, .getfield 86, [9, 40, 1194]), (62, 1, .iload_n 1, []), (63, 1, .iconst 0, []), (64, 1, .iastore, []), (65, 1, .aload_n 0, []), (66, 3, .getfield 83, [9, 39, 1193]), (69, 1, .iload_n 1, []), (70, 1, .dup2, []), (71, 1, .iaload, []), (72, 1, .iconst 1, []), (73, 1, .iadd, []), (74, 1, .iastore, [])], 2),
 ([(75, 1, .aload_n 0, []), (76, 3, .getfield 83, [9, 39, 1193]), (79, 1, .iload_n 1, []), (80, 1, .iaload, []), (81, 1, .aload_n 0, []), (82, 3, .getfield 46, [9, 15, 1169]), (85, 1, .iload_n 1, []), (86, 1, .iaload, []), (87, 3, .if_icmp .ge 65, [3]), (90, 1, .aload_n 0, []), (91, 3, .getfield 49, [9, 16, 1170]), (94, 2, .bipush 20, []), (96, 1, .iload_n 1, []), (97, 1, .imul, []), (98, 1, .aload_n 0, []), (99, 3, .getfield 83, [9, 39, 1193]), (102, 1, .iload_n 1, []), (103, 1, .iaload, []), (104, 1, .iadd, []), (105, 1, .iaload, []), (106, 1, .iconst 2, []), (107, 3, .if_icmp .ne 45, [3]), (110, 1, .aload_n 0, []), (111, 3, .getfield 89, [9, 41, 1195]), (114, 1, .iload_n 1, []), (115, 1, .dup2, []), (116, 1, .iaload, []), (117, 1, .iconst 1, []), (118, 1, .aload_n 0, []), (119, 3, .getfield 52, [9, 17, 1171]), (122, 2, .bipush 20, []), (124, 1, .iload_n 1, []), (125, 1, .imul, []), (126, 1, .aload_n 0, []), (127, 3, .getfield 83, [9, 39, 1193]), (130, 1, .iload_n 1, []), (131, 1, .iaload, []), (132, 1, .iadd, []), (133, 1, .iaload, []), (134, 1, .ishl, []), (135, 1, .iconst (-1), []), (136, 1, .ixor, []), (137, 1, .iand, []), (138, 1, .iastore, []), (139, 1, .aload_n 0, []), (140, 3, .getfield 83, [9, 39, 1193]), (143, 1, .iload_n 1, []), (144, 1, .dup2, []), (145, 1, .iaload, []), (146, 1, .iconst 1, []), (147, 1, .iadd, []), (148, 1, .iastore, []), (149, 3, .goto (-74), [2])], 0),
 ([(152, 1, .aload_n 0, []), (153, 3, .getfield 83, [9, 39, 1193]), (156, 1, .iload_n 1, []), (157, 1, .iaload, []), (158, 1, .aload_n 0, []), (159, 3, .getfield 46, [9, 15, 1169]), (162, 1, .iload_n 1, []), (163, 1, .iaload, []), (164, 3, .if_icmp .ne 14, [4]), (167, 1, .aload_n 0, []), (168, 1, .iload_n 1, []), (169, 1, .aload_n 0, []), (170, 3, .getfield 223, [9, 51, 1205]), (173, 1, .iconst 1, []), (174, 1, .iadd, []), (175, 3, .invokevirtual 243, [168, 1505, 2])], 4),
 ([(178, 3, .iinc 1 1, []), (181, 3, .goto (-179), [1])], 0),
 ([(184, 1, .return_, [])], 0)]
def bk_178 : List Bk := [([(0, 1, .aload_n 0, []), (1, 3, .invokevirtual 271, [160, 1449, 0]), (4, 1, .iconst 0, []), (5, 1, .istore_n 1, [])], 1),
 ([(6, 1, .iload_n 1, []), (7, 1, .aload_n 0, []), (8, 3, .getfield 139, [9, 0, 1154]), (11, 3, .if_icmp .ge 20, [2]), (14, 1, .aload_n 0, []), (15, 3, .getfield 114, [9, 52, 1206]), (18, 1, .iload_n 1, []), (19, 1, .aload_n 0, []), (20, 1, .iload_n 1, []), (21, 3, .invokevirtual 274, [163, 1453, 1]), (24, 1, .iastore, []), (25, 3, .iinc 1 1, []), (28, 3, .goto (-22), [1])], 0),
 ([(31, 1, .aload_n 0, []), (32, 1, .iconst 0, []), (33, 3, .putfield 223, [9, 51, 1205])], 3),
 ([(36, 1, .aload_n 0, []), (37, 3, .getfield 223, [9, 51, 1205]), (40, 1, .aload_n 0, []), (41, 3, .getfield 62, [9, 25, 1179]), (44, 3, .if_icmp .ge 97, [9]), (47, 1, .aload_n 0, []), (48, 3, .invokevirtual 277, [161, 1457, 0]), (51, 1, .aload_n 0, []), (52, 3, .invokevirtual 280, [174, 1461, 0]), (55, 1, .aload_n 0, []), (56, 3, .getfield 217, [9, 49, 1203]), (59, 1, .iconst (-1), []), (60, 3, .if_icmp .ne 10, [4]), (63, 1, .aload_n 0, []), (64, 3, .invokevirtual 283, [175, 1509, 0]), (67, 3, .goto 4, [5])], 0),
 ([(70, 1, .iconst 0, [])], 5),
 ([(71, 1, .istore_n 1, []), (72, 1, .iload_n 1, []), (73, 3, .ifCond .eq 16, [6]), (76, 1, .aload_n 0, []), (77, 1, .aload_n 0, []), (78, 3, .getfield 223, [9, 51, 1205]), (81, 3, .putfield 217, [9, 49, 1203]), (84, 1, .aload_n 0, []), (85, 1, .iload_n 1, []), (86, 3, .putfield 220, [9, 50, 1204])], 6),
 ([(89, 1, .iconst 0, []), (90, 1, .istore_n 2, [])], 7),
 ([(91, 1, .iload_n 2, []), (92, 2, .bipush 8, []), (94, 3, .if_icmp .ge 30, [8]), (97, 1, .aload_n 0, []), (98, 3, .getfield 111, [9, 48, 1202]), (101, 3, .sipush 200, []), (104, 1, .iload_n 2, []), (105, 1, .imul, []), (106, 1, .aload_n 0, []), (107, 3, .getfield 223, [9, 51, 1205]), (110, 1, .iadd, []), (111, 1, .aload_n 0, []), (112, 3, .getfield 99, [9, 44, 1198]), (115, 1, .iload_n 2, []), (116, 1, .iaload, []), (117, 1, .iastore, []), (118, 3, .iinc 2 1, []), (121, 3, .goto (-30), [7])], 0),
 ([(124, 1, .aload_n 0, []), (125, 3, .invokevirtual 286, [177, 1513, 0]), (128, 1, .aload_n 0, []), (129, 1, .dup, []), (130, 3, .getfield 223, [9, 51, 1205]), (133, 1, .iconst 1, []), (134, 1, .iadd, []), (135, 3, .putfield 223, [9, 51, 1205]), (138, 3, .goto (-102), [3])], 0),
 ([(141, 1, .return_, [])], 0)]
def bk_179 : List Bk := [([(0, 1, .iconst 0, []), (1, 1, .istore_n 2, []), (2, 1, .iconst 0, []), (3, 1, .istore_n 3, [])], 1),
 ([(4, 1, .iload_n 3, []), (5, 1, .aload_n 0, []), (6, 3, .getfield 71, [9, 35, 1189]), (9, 1, .iload_n 1, []), (10, 1, .iaload, []), (11, 3, .if_icmp .ge 82, [6]), (14, 1, .aload_n 0, []), (15, 3, .getfield 77, [9, 37, 1191]), (18, 3, .sipush 200, []), (21, 1, .iload_n 1, []), (22, 1, .imul, []), (23, 1, .iload_n 3, []), (24, 1, .iadd, []), (25, 1, .iaload, []), (26, 1, .aload_n 0, []), (27, 3, .getfield 40, [9, 13, 1167]), (30, 1, .iload_n 1, []), (31, 1, .iaload, []), (32, 1, .iadd, []), (33, 2, .istore 4, []), (35, 1, .aload_n 0, []), (36, 3, .getfield 80, [9, 38, 1192]), (39, 3, .sipush 200, []), (42, 1, .iload_n 1, []), (43, 1, .imul, []), (44, 1, .iload_n 3, []), (45, 1, .iadd, []), (46, 1, .iaload, []), (47, 2, .istore 5, []), (49, 1, .iload_n 2, []), (50, 2, .iload 5, []), (52, 1, .iconst (-1), []), (53, 3, .if_icmp .ne 20, [3]), (56, 2, .iload 4, []), (58, 1, .aload_n 0, []), (59, 3, .getfield 62, [9, 25, 1179]), (62, 3, .if_icmp .gt 7, [2]), (65, 1, .iconst 1, []), (66, 3, .goto 19, [5])], 0),
 ([(69, 1, .iconst 0, []), (70, 3, .goto 15, [5])], 0),
 ([(73, 2, .iload 5, []), (75, 2, .iload 4, []), (77, 3, .if_icmp .le 7, [4]), (80, 1, .iconst 1, []), (81, 3, .goto 4, [5])], 0),
 ([(84, 1, .iconst 0, [])], 5),
 ([(85, 1, .iadd, []), (86, 1, .istore_n 2, []), (87, 3, .iinc 3 1, []), (90, 3, .goto (-86), [1])], 0),
 ([(93, 1, .iload_n 2, []), (94, 1, .ireturn, [])], 0)]
def bk_180 : List Bk := [([(0, 1, .iconst 0, []), (1, 1, .istore_n 1, []), (2, 1, .iconst 0, []), (3, 1, .istore_n 2, [])], 1),
 ([(4, 1, .iload_n 2, []), (5, 2, .bipush 8, []), (7, 3, .if_icmp .ge 17, [2]), (10, 1, .iload_n 1, []), (11, 1, .aload_n 0, []), (12, 1, .iload_n 2, []), (13, 3, .invokevirtual 289, [179, 1541, 1]), (16, 1, .iadd, []), (17, 1, .istore_n 1, []), (18, 3, .iinc 2 1, []), (21, 3, .goto (-17), [1])], 0),
 ([(24, 1, .iload_n 1, []), (25, 1, .ireturn, [])], 0)]
def bk_181 : List Bk := [([(0, 1, .aload_n 0, []), (1, 3, .invokevirtual 187, [150, 1385, 0]), (4, 1, .aload_n 0, []), (5, 3, .getfield 145, [9, 26, 1180]), (8, 3, .ifCond .ne 16, [1]), (11, 1, .aload_n 0, []), (12, 3, .invokevirtual 292, [159, 1441, 0]), (15, 1, .aload_n 0, []), (16, 3, .invokevirtual 295, [178, 1445, 0]), (19, 1, .aload_n 0, []), (20, 1, .iconst 1, []), (21, 3, .putfield 145, [9, 26, 1180])], 1),
 ([(24, 1, .return_, [])], 0)]
def bk_182 : List Bk := [([(0, 1, .iload_n 1, []), (1, 1, .iconst 0, []), (2, 1, .aload_n 0, []), (3, 3, .getfield 62, [9, 25, 1179]), (6, 1, .iconst 1, []), (7, 1, .isub, []), (8, 3, .invokestatic 135, [137, 1355, 3]), (11, 3, .ifCond .eq 17, [1]), (14, 1, .iload_n 2, []), (15, 1, .iconst 0, []), (16, 1, .aload_n 0, []), (17, 3, .getfield 58, [9, 24, 1178]), (20, 1, .iconst 1, []), (21, 1, .isub, []), (22, 3, .invokestatic 135, [137, 1355, 3]), (25, 3, .ifCond .ne 6, [2])], 1),
 ([(28, 2, .bipush (-2), []), (30, 1, .ireturn, [])], 0),
 ([(31, 1, .aload_n 0, []), (32, 3, .invokevirtual 298, [181, 1437, 0]), (35, 1, .aload_n 0, []), (36, 3, .getfield 108, [9, 47, 1201]), (39, 1, .iconst 3, []), (40, 1, .iload_n 1, []), (41, 1, .imul, []), (42, 1, .iload_n 2, []), (43, 1, .iadd, []), (44, 1, .iaload, []), (45, 1, .ireturn, [])], 0)]
def bk_183 : List Bk := [([(0, 1, .iload_n 1, []), (1, 3, .invokestatic 152, [142, 1370, 1]), (4, 3, .ifCond .eq 17, [1]), (7, 1, .iload_n 2, []), (8, 1, .iconst 0, []), (9, 1, .aload_n 0, []), (10, 3, .getfield 62, [9, 25, 1179]), (13, 1, .iconst 1, []), (14, 1, .isub, []), (15, 3, .invokestatic 135, [137, 1355, 3]), (18, 3, .ifCond .ne 6, [2])], 1),
 ([(21, 2, .bipush (-2), []), (23, 1, .ireturn, [])], 0),
 ([(24, 1, .aload_n 0, []), (25, 3, .invokevirtual 298, [181, 1437, 0]), (28, 1, .aload_n 0, []), (29, 3, .getfield 111, [9, 48, 1202]), (32, 3, .sipush 200, []), (35, 1, .iload_n 1, []), (36, 1, .imul, []), (37, 1, .iload_n 2, []), (38, 1, .iadd, []), (39, 1, .iaload, []), (40, 1, .ireturn, [])], 0)]
def bk_184 : List Bk := [([(0, 1, .iload_n 1, []), (1, 3, .invokestatic 152, [142, 1370, 1]), (4, 3, .ifCond .eq 7, [1]), (7, 1, .iload_n 2, []), (8, 3, .ifCond .ge 6, [2])], 1),
 ([(11, 2, .bipush (-2), []), (13, 1, .ireturn, [])], 0),
 ([(14, 1, .aload_n 0, []), (15, 3, .invokevirtual 298, [181, 1437, 0]), (18, 1, .iload_n 2, []), (19, 1, .aload_n 0, []), (20, 3, .getfield 71, [9, 35, 1189]), (23, 1, .iload_n 1, []), (24, 1, .iaload, []), (25, 3, .if_icmp .ge 18, [3]), (28, 1, .aload_n 0, []), (29, 3, .getfield 80, [9, 38, 1192]), (32, 3, .sipush 200, []), (35, 1, .iload_n 1, []), (36, 1, .imul, []), (37, 1, .iload_n 2, []), (38, 1, .iadd, []), (39, 1, .iaload, []), (40, 3, .goto 4, [4])], 0),
 ([(43, 1, .iconst (-1), [])], 4),
 ([(44, 1, .ireturn, [])], 0)]
def bk_185 : List Bk := [([(0, 1, .iconst 0, []), (1, 1, .istore_n 2, []), (2, 1, .iconst 0, []), (3, 1, .istore_n 3, [])], 1),
 ([(4, 1, .iload_n 3, []), (5, 1, .aload_n 0, []), (6, 3, .getfield 71, [9, 35, 1189]), (9, 1, .iload_n 1, []), (10, 1, .iaload, []), (11, 3, .if_icmp .ge 33, [4]), (14, 1, .iload_n 2, []), (15, 1, .aload_n 0, []), (16, 3, .getfield 80, [9, 38, 1192]), (19, 3, .sipush 200, []), (22, 1, .iload_n 1, []), (23, 1, .imul, []), (24, 1, .iload_n 3, []), (25, 1, .iadd, []), (26, 1, .iaload, []), (27, 1, .iconst (-1), []), (28, 3, .if_icmp .ne 7, [2]), (31, 1, .iconst 0, []), (32, 3, .goto 4, [3])], 0),
 ([(35, 1, .iconst 1, [])], 3),
 ([(36, 1, .iadd, []), (37, 1, .istore_n 2, []), (38, 3, .iinc 3 1, []), (41, 3, .goto (-37), [1])], 0),
 ([(44, 1, .iload_n 2, []), (45, 1, .ireturn, [])], 0)]
def bk_186 : List Bk := [([(0, 1, .iconst (-1), []), (1, 1, .istore_n 2, []), (2, 1, .iconst 0, []), (3, 1, .istore_n 3, [])], 1),
 ([(4, 1, .iload_n 3, []), (5, 1, .aload_n 0, []), (6, 3, .getfield 71, [9, 35, 1189]), (9, 1, .iload_n 1, []), (10, 1, .iaload, []), (11, 3, .if_icmp .ge 69, [6]), (14, 1, .aload_n 0, []), (15, 3, .getfield 80, [9, 38, 1192]), (18, 3, .sipush 200, []), (21, 1, .iload_n 1, []), (22, 1, .imul, []), (23, 1, .iload_n 3, []), (24, 1, .iadd, []), (25, 1, .iaload, []), (26, 1, .iconst (-1), []), (27, 3, .if_icmp .ne 7, [2]), (30, 1, .iconst (-1), []), (31, 3, .goto 28, [3])], 0),
 ([(34, 1, .aload_n 0, []), (35, 3, .getfield 80, [9, 38, 1192]), (38, 3, .sipush 200, []), (41, 1, .iload_n 1, []), (42, 1, .imul, []), (43, 1, .iload_n 3, []), (44, 1, .iadd, []), (45, 1, .iaload, []), (46, 1, .aload_n 0, []), (47, 3, .getfield 77, [9, 37, 1191]), (50, 3, .sipush 200, []), (53, 1, .iload_n 1, []), (54, 1, .imul, []), (55, 1, .iload_n 3, []), (56, 1, .iadd, []), (57, 1, .iaload, []), (58, 1, .isub, [])], 3),
 ([(59, 2, .istore 4, []), (61, 2, .iload 4, []), (63, 1, .iload_n 2, []), (64, 3, .if_icmp .le 8, [4]), (67, 2, .iload 4, []), (69, 3, .goto 4, [5])], 0),
 ([(72, 1, .iload_n 2, [])], 5),
 ([(73, 1, .istore_n 2, []), (74, 3, .iinc 3 1, []), (77, 3, .goto (-73), [1])], 0),
 ([(80, 1, .iload_n 2, []), (81, 1, .ireturn, [])], 0)]
def bk_187 : List Bk := [([(0, 1, .iconst 0, []), (1, 1, .istore_n 3, []), (2, 1, .iconst 0, []), (3, 2, .istore 4, [])], 1),
 ([(5, 2, .iload 4, []), (7, 1, .aload_n 0, []), (8, 3, .getfield 62, [9, 25, 1179]), (11, 3, .if_icmp .ge 34, [4]), (14, 1, .iload_n 3, []), (15, 1, .aload_n 0, []), (16, 3, .getfield 111, [9, 48, 1202]), (19, 3, .sipush 200, []), (22, 1, .iload_n 1, []), (23, 1, .imul, []), (24, 2, .iload 4, []), (26, 1, .iadd, []), (27, 1, .iaload, []), (28, 1, .iload_n 2, []), (29, 3, .if_icmp .ne 7, [2]), (32, 1, .iconst 1, []), (33, 3, .goto 4, [3])], 0),
 ([(36, 1, .iconst 0, [])], 3),
 ([(37, 1, .iadd, []), (38, 1, .istore_n 3, []), (39, 3, .iinc 4 1, []), (42, 3, .goto (-37), [1])], 0),
 ([(45, 1, .iload_n 3, []), (46, 1, .ireturn, [])], 0)]
def bk_188 : List Bk := [([(0, 1, .iconst 0, []), (1, 1, .istore_n 2, []), (2, 1, .iconst 0, []), (3, 1, .istore_n 3, [])], 1),
 ([(4, 1, .iload_n 3, []), (5, 1, .aload_n 0, []), (6, 3, .getfield 62, [9, 25, 1179]), (9, 3, .if_icmp .ge 102, [9]), (12, 1, .iconst 0, []), (13, 2, .istore 4, []), (15, 1, .iconst 0, []), (16, 2, .istore 5, [])], 2),
 ([(18, 2, .iload 5, []), (20, 2, .bipush 8, []), (22, 3, .if_icmp .ge 54, [6]), (25, 2, .iload 4, []), (27, 3, .ifCond .ne 36, [3]), (30, 1, .aload_n 0, []), (31, 3, .getfield 111, [9, 48, 1202]), (34, 3, .sipush 200, []), (37, 2, .iload 5, []), (39, 1, .imul, []), (40, 1, .iload_n 3, []), (41, 1, .iadd, []), (42, 1, .iaload, []), (43, 1, .iconst 1, []), (44, 3, .if_icmp .ne 23, [4]), (47, 1, .aload_n 0, []), (48, 3, .getfield 28, [9, 7, 1161]), (51, 2, .iload 5, []), (53, 1, .iaload, []), (54, 1, .aload_n 0, []), (55, 3, .getfield 28, [9, 7, 1161]), (58, 1, .iload_n 1, []), (59, 1, .iaload, []), (60, 3, .if_icmp .ge 7, [4])], 3),
 ([(63, 1, .iconst 1, []), (64, 3, .goto 4, [5])], 0),
 ([(67, 1, .iconst 0, [])], 5),
 ([(68, 2, .istore 4, []), (70, 3, .iinc 5 1, []), (73, 3, .goto (-55), [2])], 0),
 ([(76, 1, .iload_n 2, []), (77, 2, .iload 4, []), (79, 3, .ifCond .eq 23, [7]), (82, 1, .aload_n 0, []), (83, 3, .getfield 111, [9, 48, 1202]), (86, 3, .sipush 200, []), (89, 1, .iload_n 1, []), (90, 1, .imul, []), (91, 1, .iload_n 3, []), (92, 1, .iadd, []), (93, 1, .iaload, []), (94, 1, .iconst 1, []), (95, 3, .if_icmp .le 7, [7]), (98, 1, .iconst 1, []), (99, 3, .goto 4, [8])], 0),
 ([(102, 1, .iconst 0, [])], 8),
 ([(103, 1, .iadd, []), (104, 1, .istore_n 2, []), (105, 3, .iinc 3 1, []), (108, 3, .goto (-104), [1])], 0),
 ([(111, 1, .iload_n 2, []), (112, 1, .ireturn, [])], 0)]
def bk_189 : List Bk := [([(0, 1, .iload_n 2, []), (1, 39, .tableswitch 78 0 5 #[39, 46, 52, 58, 64, 71], [7, 1, 2, 3, 4, 5, 6])], 0),
 ([(40, 1, .aload_n 0, []), (41, 3, .getfield 71, [9, 35, 1189]), (44, 1, .iload_n 1, []), (45, 1, .iaload, []), (46, 1, .ireturn, [])], 0),
 ([(47, 1, .aload_n 0, []), (48, 1, .iload_n 1, []), (49, 3, .invokevirtual 301, [185, 1537, 1]), (52, 1, .ireturn, [])], 0),
 ([(53, 1, .aload_n 0, []), (54, 1, .iload_n 1, []), (55, 3, .invokevirtual 289, [179, 1541, 1]), (58, 1, .ireturn, [])], 0),
 ([(59, 1, .aload_n 0, []), (60, 1, .iload_n 1, []), (61, 3, .invokevirtual 304, [186, 1545, 1]), (64, 1, .ireturn, [])], 0),
 ([(65, 1, .aload_n 0, []), (66, 1, .iload_n 1, []), (67, 1, .iconst 1, []), (68, 3, .invokevirtual 307, [187, 1549, 2]), (71, 1, .ireturn, [])], 0),
 ([(72, 1, .aload_n 0, []), (73, 1, .iload_n 1, []), (74, 1, .iconst 2, []), (75, 3, .invokevirtual 307, [187, 1549, 2]), (78, 1, .ireturn, [])], 0),
 ([(79, 1, .aload_n 0, []), (80, 1, .iload_n 1, []), (81, 3, .invokevirtual 310, [188, 1553, 1]), (84, 1, .ireturn, [])], 0)]
def bk_190 : List Bk := [([(0, 1, .iload_n 1, []), (1, 3, .invokestatic 152, [142, 1370, 1]), (4, 3, .ifCond .eq 13, [1]), (7, 1, .iload_n 2, []), (8, 1, .iconst 0, []), (9, 2, .bipush 6, []), (11, 3, .invokestatic 135, [137, 1355, 3]), (14, 3, .ifCond .ne 6, [2])], 1),
 ([(17, 2, .bipush (-2), []), (19, 1, .ireturn, [])], 0),
 ([(20, 1, .aload_n 0, []), (21, 3, .invokevirtual 298, [181, 1437, 0]), (24, 1, .aload_n 0, []), (25, 1, .iload_n 1, []), (26, 1, .iload_n 2, []), (27, 3, .invokevirtual 313, [189, 1533, 2]), (30, 1, .ireturn, [])], 0)]
def bk_191 : List Bk := [([(0, 1, .aload_n 0, []), (1, 3, .invokevirtual 298, [181, 1437, 0]), (4, 1, .aload_n 0, []), (5, 3, .invokevirtual 316, [180, 1561, 0]), (8, 1, .ireturn, [])], 0)]
def bk_192 : List Bk := [([(0, 1, .iload_n 1, []), (1, 1, .iconst 0, []), (2, 1, .iconst 1, []), (3, 3, .invokestatic 135, [137, 1355, 3]), (6, 3, .ifCond .ne 6, [1]), (9, 2, .bipush (-2), []), (11, 1, .ireturn, [])], 0),
 ([(12, 1, .aload_n 0, []), (13, 3, .invokevirtual 298, [181, 1437, 0]), (16, 1, .iload_n 1, []), (17, 3, .ifCond .ne 10, [2]), (20, 1, .aload_n 0, []), (21, 3, .getfield 217, [9, 49, 1203]), (24, 3, .goto 7, [3])], 0),
 ([(27, 1, .aload_n 0, []), (28, 3, .getfield 220, [9, 50, 1204])], 3),
 ([(31, 1, .ireturn, [])], 0)]
def bk_193 : List Bk := [([(0, 1, .aload_n 0, []), (1, 3, .getfield 28, [9, 7, 1161]), (4, 1, .iload_n 1, []), (5, 1, .iaload, []), (6, 1, .aload_n 0, []), (7, 3, .getfield 28, [9, 7, 1161]), (10, 1, .iload_n 2, []), (11, 1, .iaload, []), (12, 3, .if_icmp .gt 23, [1]), (15, 1, .aload_n 0, []), (16, 3, .getfield 28, [9, 7, 1161]), (19, 1, .iload_n 1, []), (20, 1, .iaload, []), (21, 1, .aload_n 0, []), (22, 3, .getfield 28, [9, 7, 1161]), (25, 1, .iload_n 2, []), (26, 1, .iaload, []), (27, 3, .if_icmp .ne 12, [2]), (30, 1, .iload_n 1, []), (31, 1, .iload_n 2, []), (32, 3, .if_icmp .ge 7, [2])], 1),
 ([(35, 1, .iconst 1, []), (36, 3, .goto 4, [3])], 0),
 ([(39, 1, .iconst 0, [])], 3),
 ([(40, 1, .ireturn, [])], 0)]
def bk_194 : List Bk := [([(0, 1, .iconst 0, []), (1, 1, .istore_n 3, [])], 1),
 ([(2, 1, .iload_n 3, []), (3, 1, .aload_n 0, []), (4, 3, .getfield 46, [9, 15, 1169]), (7, 1, .iload_n 1, []), (8, 1, .iaload, []), (9, 3, .if_icmp .ge 41, [3]), (12, 1, .aload_n 0, []), (13, 3, .getfield 49, [9, 16, 1170]), (16, 2, .bipush 20, []), (18, 1, .iload_n 1, []), (19, 1, .imul, []), (20, 1, .iload_n 3, []), (21, 1, .iadd, []), (22, 1, .iaload, []), (23, 1, .iconst 1, []), (24, 3, .if_icmp .ne 20, [2]), (27, 1, .aload_n 0, []), (28, 3, .getfield 52, [9, 17, 1171]), (31, 2, .bipush 20, []), (33, 1, .iload_n 1, []), (34, 1, .imul, []), (35, 1, .iload_n 3, []), (36, 1, .iadd, []), (37, 1, .iaload, []), (38, 1, .iload_n 2, []), (39, 3, .if_icmp .ne 5, [2]), (42, 1, .iconst 1, []), (43, 1, .ireturn, [])], 0),
 ([(44, 3, .iinc 3 1, []), (47, 3, .goto (-45), [1])], 0),
 ([(50, 1, .iconst 0, []), (51, 1, .ireturn, [])], 0)]
def bk_195 : List Bk := [([(0, 1, .aload_n 0, []), (1, 3, .getfield 52, [9, 17, 1171]), (4, 2, .bipush 20, []), (6, 1, .iload_n 1, []), (7, 1, .imul, []), (8, 1, .iload_n 2, []), (9, 1, .iadd, []), (10, 1, .iaload, []), (11, 1, .istore_n 3, []), (12, 1, .iconst 0, []), (13, 2, .istore 4, []), (15, 1, .iload_n 2, []), (16, 1, .iconst 1, []), (17, 1, .iadd, []), (18, 2, .istore 5, [])], 1),
 ([(20, 2, .iload 5, []), (22, 1, .aload_n 0, []), (23, 3, .getfield 46, [9, 15, 1169]), (26, 1, .iload_n 1, []), (27, 1, .iaload, []), (28, 3, .if_icmp .ge 69, [5]), (31, 2, .bipush 20, []), (33, 1, .iload_n 1, []), (34, 1, .imul, []), (35, 2, .iload 5, []), (37, 1, .iadd, []), (38, 2, .istore 6, []), (40, 1, .aload_n 0, []), (41, 3, .getfield 49, [9, 16, 1170]), (44, 2, .iload 6, []), (46, 1, .iaload, []), (47, 1, .iconst 2, []), (48, 3, .if_icmp .ne 17, [2]), (51, 1, .aload_n 0, []), (52, 3, .getfield 52, [9, 17, 1171]), (55, 2, .iload 6, []), (57, 1, .iaload, []), (58, 1, .iload_n 3, []), (59, 3, .if_icmp .ne 6, [2]), (62, 2, .iload 4, []), (64, 1, .ireturn, [])], 0),
 ([(65, 2, .iload 4, []), (67, 1, .aload_n 0, []), (68, 3, .getfield 49, [9, 16, 1170]), (71, 2, .iload 6, []), (73, 1, .iaload, []), (74, 3, .ifCond .ne 13, [3]), (77, 1, .aload_n 0, []), (78, 3, .getfield 52, [9, 17, 1171]), (81, 2, .iload 6, []), (83, 1, .iaload, []), (84, 3, .goto 4, [4])], 0),
 ([(87, 1, .iconst 0, [])], 4),
 ([(88, 1, .iadd, []), (89, 2, .istore 4, []), (91, 3, .iinc 5 1, []), (94, 3, .goto (-74), [1])], 0),
 ([(97, 2, .iload 4, []), (99, 1, .ireturn, [])], 0)]
def bk_196 : List Bk := [([(0, 1, .aload_n 0, []), (1, 3, .invokevirtual 196, [154, 1417, 0]), (4, 1, .istore_n 2, []), (5, 1, .iconst 0, []), (6, 1, .istore_n 3, []), (7, 1, .iconst 0, []), (8, 2, .istore 4, [])], 1),
 ([(10, 2, .iload 4, []), (12, 1, .aload_n 0, []), (13, 3, .getfield 139, [9, 0, 1154]), (16, 3, .if_icmp .ge 108, [12]), (19, 1, .aload_n 0, []), (20, 3, .getfield 7, [9, 1, 1155]), (23, 2, .iload 4, []), (25, 1, .iaload, []), (26, 1, .iconst 2, []), (27, 3, .if_icmp .ne 7, [2]), (30, 1, .iconst 1, []), (31, 3, .goto 4, [3])], 0),
 ([(34, 1, .iconst 0, [])], 3),
 ([(35, 2, .istore 5, []), (37, 1, .iconst 0, []), (38, 2, .istore 6, [])], 4),
 ([(40, 2, .iload 6, []), (42, 2, .bipush 8, []), (44, 3, .if_icmp .ge 58, [9]), (47, 2, .iload 5, []), (49, 3, .ifCond .ne 40, [6]), (52, 1, .iload_n 2, []), (53, 2, .iload 6, []), (55, 1, .ishr, []), (56, 1, .iconst 1, []), (57, 1, .iand, []), (58, 1, .iconst 1, []), (59, 3, .if_icmp .ne 34, [7]), (62, 2, .iload 6, []), (64, 1, .iload_n 1, []), (65, 3, .if_icmp .eq 13, [5]), (68, 1, .aload_n 0, []), (69, 2, .iload 6, []), (71, 1, .iload_n 1, []), (72, 3, .invokevirtual 319, [193, 1585, 2]), (75, 3, .ifCond .eq 18, [7])], 5),
 ([(78, 1, .aload_n 0, []), (79, 2, .iload 6, []), (81, 2, .iload 4, []), (83, 3, .invokevirtual 322, [194, 1589, 2]), (86, 3, .ifCond .eq 7, [7])], 6),
 ([(89, 1, .iconst 1, []), (90, 3, .goto 4, [8])], 0),
 ([(93, 1, .iconst 0, [])], 8),
 ([(94, 2, .istore 5, []), (96, 3, .iinc 6 1, []), (99, 3, .goto (-59), [4])], 0),
 ([(102, 1, .iload_n 3, []), (103, 2, .iload 5, []), (105, 3, .ifCond .eq 10, [10]), (108, 1, .iconst 1, []), (109, 2, .iload 4, []), (111, 1, .ishl, []), (112, 3, .goto 4, [11])], 0),
 ([(115, 1, .iconst 0, [])], 11),
 ([(116, 1, .ior, []), (117, 1, .istore_n 3, []), (118, 3, .iinc 4 1, []), (121, 3, .goto (-111), [1])], 0),
 ([(124, 1, .iconst 0, []), (125, 2, .istore 4, []), (127, 1, .iconst 0, []), (128, 2, .istore 5, [])], 13),
 ([(130, 2, .iload 5, []), (132, 2, .bipush 8, []), (134, 3, .if_icmp .ge 148, [24]), (137, 1, .iload_n 2, []), (138, 2, .iload 5, []), (140, 1, .ishr, []), (141, 1, .iconst 1, []), (142, 1, .iand, []), (143, 1, .iconst 1, []), (144, 3, .if_icmp .ne 23, [14]), (147, 2, .iload 5, []), (149, 1, .iload_n 1, []), (150, 3, .if_icmp .eq 17, [14]), (153, 1, .aload_n 0, []), (154, 2, .iload 5, []), (156, 1, .iload_n 1, []), (157, 3, .invokevirtual 319, [193, 1585, 2]), (160, 3, .ifCond .ne 7, [14]), (163, 1, .iconst 1, []), (164, 3, .goto 4, [15])], 0),
 ([(167, 1, .iconst 0, [])], 15),
 ([(168, 2, .istore 6, []), (170, 1, .iconst 0, []), (171, 2, .istore 7, [])], 16),
 ([(173, 2, .iload 7, []), (175, 1, .aload_n 0, []), (176, 3, .getfield 46, [9, 15, 1169]), (179, 2, .iload 5, []), (181, 1, .iaload, []), (182, 3, .if_icmp .ge 94, [23]), (185, 2, .iload 6, []), (187, 3, .ifCond .eq 89, [23]), (190, 1, .aload_n 0, []), (191, 3, .getfield 49, [9, 16, 1170]), (194, 2, .bipush 20, []), (196, 2, .iload 5, []), (198, 1, .imul, []), (199, 2, .iload 7, []), (201, 1, .iadd, []), (202, 1, .iaload, []), (203, 1, .iconst 1, []), (204, 3, .if_icmp .ne 28, [17]), (207, 1, .iload_n 3, []), (208, 1, .aload_n 0, []), (209, 3, .getfield 52, [9, 17, 1171]), (212, 2, .bipush 20, []), (214, 2, .iload 5, []), (216, 1, .imul, []), (217, 2, .iload 7, []), (219, 1, .iadd, []), (220, 1, .iaload, []), (221, 1, .ishr, []), (222, 1, .iconst 1, []), (223, 1, .iand, []), (224, 1, .iconst 1, []), (225, 3, .if_icmp .ne 7, [17]), (228, 1, .iconst 1, []), (229, 3, .goto 4, [18])], 0),
 ([(232, 1, .iconst 0, [])], 18),
 ([(233, 2, .istore 8, []), (235, 2, .iload 8, []), (237, 3, .ifCond .eq 14, [19]), (240, 1, .aload_n 0, []), (241, 2, .iload 5, []), (243, 2, .iload 7, []), (245, 3, .invokevirtual 325, [195, 1593, 2]), (248, 3, .goto 4, [20])], 0),
 ([(251, 1, .iconst 0, [])], 20),
 ([(252, 2, .istore 9, []), (254, 2, .iload 9, []), (256, 2, .iload 4, []), (258, 3, .if_icmp .le 8, [21]), (261, 2, .iload 9, []), (263, 3, .goto 5, [22])], 0),
 ([(266, 2, .iload 4, [])], 22),
 ([(268, 2, .istore 4, []), (270, 3, .iinc 7 1, []), (273, 3, .goto (-100), [16])], 0),
 ([(276, 3, .iinc 5 1, []), (279, 3, .goto (-149), [13])], 0),
 ([(282, 2, .iload 4, []), (284, 1, .ireturn, [])], 0)]
def bk_197 : List Bk := [([(0, 1, .aload_n 0, []), (1, 3, .getfield 199, [9, 22, 1176]), (4, 3, .ifCond .ne 35, [1]), (7, 1, .aload_n 0, []), (8, 3, .getfield 202, [9, 23, 1177]), (11, 1, .iconst 2, []), (12, 3, .if_icmp .ne 27, [1]), (15, 1, .aload_n 0, []), (16, 3, .getfield 58, [9, 24, 1178]), (19, 1, .iconst 1, []), (20, 3, .if_icmp .ne 19, [1]), (23, 1, .aload_n 0, []), (24, 3, .invokevirtual 196, [154, 1417, 0]), (27, 1, .iload_n 1, []), (28, 1, .ishr, []), (29, 1, .iconst 1, []), (30, 1, .iand, []), (31, 1, .iconst 1, []), (32, 3, .if_icmp .ne 7, [1]), (35, 1, .iconst 1, []), (36, 3, .goto 4, [2])], 0),
 ([(39, 1, .iconst 0, [])], 2),
 ([(40, 1, .ireturn, [])], 0)]
def bk_198 : List Bk := [([(0, 1, .aload_n 0, []), (1, 1, .iload_n 1, []), (2, 3, .invokevirtual 181, [151, 1409, 1]), (5, 1, .aload_n 0, []), (6, 1, .iload_n 1, []), (7, 3, .invokevirtual 328, [196, 1581, 1]), (10, 1, .iadd, []), (11, 1, .istore_n 2, []), (12, 1, .aload_n 0, []), (13, 3, .invokevirtual 196, [154, 1417, 0]), (16, 1, .istore_n 3, []), (17, 1, .iload_n 2, []), (18, 2, .istore 4, []), (20, 1, .iconst (-1), []), (21, 2, .istore 5, [])], 1),
 ([(23, 2, .iload 4, []), (25, 2, .iload 5, []), (27, 3, .if_icmp .eq 99, [6]), (30, 2, .iload 4, []), (32, 3, .sipush 400, []), (35, 3, .if_icmp .gt 91, [6]), (38, 2, .iload 4, []), (40, 2, .istore 5, []), (42, 1, .iload_n 2, []), (43, 2, .istore 4, []), (45, 1, .iconst 0, []), (46, 2, .istore 6, [])], 2),
 ([(48, 2, .iload 6, []), (50, 2, .bipush 8, []), (52, 3, .if_icmp .ge 71, [5]), (55, 2, .iload 4, []), (57, 1, .iload_n 3, []), (58, 2, .iload 6, []), (60, 1, .ishr, []), (61, 1, .iconst 1, []), (62, 1, .iand, []), (63, 1, .iconst 1, []), (64, 3, .if_icmp .ne 49, [3]), (67, 2, .iload 6, []), (69, 1, .iload_n 1, []), (70, 3, .if_icmp .eq 43, [3]), (73, 1, .aload_n 0, []), (74, 2, .iload 6, []), (76, 1, .iload_n 1, []), (77, 3, .invokevirtual 319, [193, 1585, 2]), (80, 3, .ifCond .eq 33, [3]), (83, 2, .iload 5, []), (85, 1, .aload_n 0, []), (86, 3, .getfield 37, [9, 12, 1166]), (89, 2, .iload 6, []), (91, 1, .iaload, []), (92, 1, .iadd, []), (93, 1, .iconst 1, []), (94, 1, .isub, []), (95, 1, .aload_n 0, []), (96, 3, .getfield 37, [9, 12, 1166]), (99, 2, .iload 6, []), (101, 1, .iaload, []), (102, 1, .idiv, []), (103, 1, .aload_n 0, []), (104, 2, .iload 6, []), (106, 3, .invokevirtual 181, [151, 1409, 1]), (109, 1, .imul, []), (110, 3, .goto 4, [4])], 0),
 ([(113, 1, .iconst 0, [])], 4),
 ([(114, 1, .iadd, []), (115, 2, .istore 4, []), (117, 3, .iinc 6 1, []), (120, 3, .goto (-72), [2])], 0),
 ([(123, 3, .goto (-100), [1])], 0),
 ([(126, 2, .iload 4, []), (128, 3, .sipush 400, []), (131, 3, .if_icmp .le 7, [7]), (134, 1, .iconst (-1), []), (135, 3, .goto 5, [8])], 0),
 ([(138, 2, .iload 4, [])], 8),
 ([(140, 1, .ireturn, [])], 0)]
def bk_199 : List Bk := [([(0, 1, .iload_n 1, []), (1, 3, .invokestatic 152, [142, 1370, 1]), (4, 3, .ifCond .ne 6, [1]), (7, 2, .bipush (-2), []), (9, 1, .ireturn, [])], 0),
 ([(10, 1, .aload_n 0, []), (11, 1, .iload_n 1, []), (12, 3, .invokevirtual 331, [197, 1573, 1]), (15, 3, .ifCond .eq 11, [2]), (18, 1, .aload_n 0, []), (19, 1, .iload_n 1, []), (20, 3, .invokevirtual 334, [198, 1577, 1]), (23, 3, .goto 5, [3])], 0),
 ([(26, 2, .bipush (-3), [])], 3),
 ([(28, 1, .ireturn, [])], 0)]
def bk_200 : List Bk := [([(0, 1, .iload_n 1, []), (1, 3, .invokestatic 152, [142, 1370, 1]), (4, 3, .ifCond .ne 6, [1]), (7, 2, .bipush (-2), []), (9, 1, .ireturn, [])], 0),
 ([(10, 1, .aload_n 0, []), (11, 1, .iload_n 1, []), (12, 3, .invokevirtual 331, [197, 1573, 1]), (15, 3, .ifCond .eq 11, [2]), (18, 1, .aload_n 0, []), (19, 1, .iload_n 1, []), (20, 3, .invokevirtual 328, [196, 1581, 1]), (23, 3, .goto 5, [3])], 0),
 ([(26, 2, .bipush (-3), [])], 3),
 ([(28, 1, .ireturn, [])], 0)]
def bk_201 : List Bk := [([(0, 1, .aload_n 0, []), (1, 3, .invokevirtual 295, [178, 1445, 0]), (4, 1, .aload_n 0, []), (5, 1, .iconst 0, []), (6, 3, .putfield 145, [9, 26, 1180]), (9, 1, .aload_n 0, []), (10, 3, .invokevirtual 316, [180, 1561, 0]), (13, 1, .ireturn, [])], 0)]
def bk_202 : List Bk := [([(0, 1, .iload_n 1, []), (1, 1, .iconst 2, []), (2, 1, .isub, []), (3, 1, .istore_n 2, [])], 1),
 ([(4, 1, .iload_n 2, []), (5, 3, .ifCond .lt 26, [2]), (8, 1, .aload_n 0, []), (9, 3, .getfield 117, [9, 53, 1207]), (12, 1, .iload_n 2, []), (13, 1, .iaload, []), (14, 1, .aload_n 0, []), (15, 3, .getfield 117, [9, 53, 1207]), (18, 1, .iload_n 2, []), (19, 1, .iconst 1, []), (20, 1, .iadd, []), (21, 1, .iaload, []), (22, 3, .if_icmp .le 9, [2]), (25, 3, .iinc 2 (-1), []), (28, 3, .goto (-24), [1])], 0),
 ([(31, 1, .iload_n 2, []), (32, 3, .ifCond .ge 5, [3]), (35, 1, .iconst 0, []), (36, 1, .ireturn, [])], 0),
 ([(37, 1, .iload_n 1, []), (38, 1, .iconst 1, []), (39, 1, .isub, []), (40, 1, .istore_n 3, [])], 4),
 ([(41, 1, .aload_n 0, []), (42, 3, .getfield 117, [9, 53, 1207]), (45, 1, .iload_n 3, []), (46, 1, .iaload, []), (47, 1, .aload_n 0, []), (48, 3, .getfield 117, [9, 53, 1207]), (51, 1, .iload_n 2, []), (52, 1, .iaload, []), (53, 3, .if_icmp .ge 9, [5]), (56, 3, .iinc 3 (-1), []), (59, 3, .goto (-18), [4])], 0),
 ([(62, 1, .aload_n 0, []), (63, 3, .getfield 117, [9, 53, 1207]), (66, 1, .iload_n 2, []), (67, 1, .iaload, []), (68, 2, .istore 4, []), (70, 1, .aload_n 0, []), (71, 3, .getfield 117, [9, 53, 1207]), (74, 1, .iload_n 2, []), (75, 1, .aload_n 0, []), (76, 3, .getfield 117, [9, 53, 1207]), (79, 1, .iload_n 3, []), (80, 1, .iaload, []), (81, 1, .iastore, []), (82, 1, .aload_n 0, []), (83, 3, .getfield 117, [9, 53, 1207]), (86, 1, .iload_n 3, []), (87, 2, .iload 4, []), (89, 1, .iastore, []), (90, 1, .iload_n 2, []), (91, 1, .iconst 1, []), (92, 1, .iadd, []), (93, 2, .istore 5, []), (95, 1, .iload_n 1, []), (96, 1, .iconst 1, []), (97, 1, .isub, []), (98, 2, .istore 6, [])], 6),
 ([(100, 2, .iload 5, []), (102, 2, .iload 6, []), (104, 3, .if_icmp .ge 44, [7]), (107, 1, .aload_n 0, []), (108, 3, .getfield 117, [9, 53, 1207]), (111, 2, .iload 5, []), (113, 1, .iaload, []), (114, 2, .istore 4, []), (116, 1, .aload_n 0, []), (117, 3, .getfield 117, [9, 53, 1207]), (120, 2, .iload 5, []), (122, 1, .aload_n 0, []), (123, 3, .getfield 117, [9, 53, 1207]), (126, 2, .iload 6, []), (128, 1, .iaload, []), (129, 1, .iastore, []), (130, 1, .aload_n 0, []), (131, 3, .getfield 117, [9, 53, 1207]), (134, 2, .iload 6, []), (136, 2, .iload 4, []), (138, 1, .iastore, []), (139, 3, .iinc 5 1, []), (142, 3, .iinc 6 (-1), []), (145, 3, .goto (-45), [6])], 0),
 ([(148, 1, .iconst 1, []), (149, 1, .ireturn, [])], 0)]
def bk_203 : List Bk := [([(0, 1, .iconst 0, []), (1, 1, .istore_n 2, []), (2, 1, .iconst 0, []), (3, 1, .istore_n 3, [])], 1),
 ([(4, 1, .iload_n 3, []), (5, 2, .bipush 8, []), (7, 3, .if_icmp .ge 28, [3]), (10, 1, .iload_n 1, []), (11, 1, .iload_n 3, []), (12, 1, .ishr, []), (13, 1, .iconst 1, []), (14, 1, .iand, []), (15, 1, .iconst 1, []), (16, 3, .if_icmp .ne 13, [2]), (19, 1, .aload_n 0, []), (20, 3, .getfield 117, [9, 53, 1207]), (23, 1, .iload_n 2, []), (24, 1, .iload_n 3, []), (25, 1, .iastore, []), (26, 3, .iinc 2 1, [])], 2),
 ([(29, 3, .iinc 3 1, []), (32, 3, .goto (-28), [1])], 0),
 ([(35, 1, .aload_n 0, []), (36, 3, .invokevirtual 292, [159, 1441, 0]), (39, 1, .iconst 1, []), (40, 1, .istore_n 3, [])], 4),
 ([(41, 1, .iload_n 3, []), (42, 3, .ifCond .eq 53, [8]), (45, 1, .iconst 0, []), (46, 2, .istore 4, [])], 5),
 ([(48, 2, .iload 4, []), (50, 1, .iload_n 2, []), (51, 3, .if_icmp .ge 26, [6]), (54, 1, .aload_n 0, []), (55, 3, .getfield 65, [9, 28, 1182]), (58, 1, .aload_n 0, []), (59, 3, .getfield 117, [9, 53, 1207]), (62, 2, .iload 4, []), (64, 1, .iaload, []), (65, 2, .bipush 90, []), (67, 2, .iload 4, []), (69, 1, .isub, []), (70, 1, .iastore, []), (71, 3, .iinc 4 1, []), (74, 3, .goto (-26), [5])], 0),
 ([(77, 1, .aload_n 0, []), (78, 3, .invokevirtual 337, [201, 1612, 0]), (81, 3, .ifCond .ne 5, [7]), (84, 1, .iconst 1, []), (85, 1, .ireturn, [])], 0),
 ([(86, 1, .aload_n 0, []), (87, 1, .iload_n 2, []), (88, 3, .invokevirtual 340, [202, 1616, 1]), (91, 1, .istore_n 3, []), (92, 3, .goto (-51), [4])], 0),
 ([(95, 1, .iconst 0, []), (96, 1, .ireturn, [])], 0)]
def bk_204 : List Bk := [([(0, 1, .aload_n 0, []), (1, 3, .invokevirtual 196, [154, 1417, 0]), (4, 1, .istore_n 2, []), (5, 1, .iload_n 1, []), (6, 1, .iconst 0, []), (7, 1, .iload_n 2, []), (8, 3, .invokestatic 343, [138, 1605, 1]), (11, 1, .iconst 1, []), (12, 1, .isub, []), (13, 3, .invokestatic 135, [137, 1355, 3]), (16, 3, .ifCond .ne 6, [1]), (19, 2, .bipush (-2), []), (21, 1, .ireturn, [])], 0),
 ([(22, 1, .iload_n 2, []), (23, 3, .invokestatic 343, [138, 1605, 1]), (26, 1, .iconst 5, []), (27, 3, .if_icmp .le 6, [2]), (30, 2, .bipush (-4), []), (32, 1, .ireturn, [])], 0),
 ([(33, 1, .aload_n 0, []), (34, 1, .iload_n 2, []), (35, 3, .invokevirtual 346, [203, 1608, 1]), (38, 3, .ifCond .eq 12, [3]), (41, 1, .aload_n 0, []), (42, 3, .getfield 117, [9, 53, 1207]), (45, 1, .iload_n 1, []), (46, 1, .iaload, []), (47, 3, .goto 4, [4])], 0),
 ([(50, 1, .iconst (-1), [])], 4),
 ([(51, 1, .ireturn, [])], 0)]
def bk_205 : List Bk := [([(0, 1, .iload_n 1, []), (1, 3, .invokestatic 152, [142, 1370, 1]), (4, 3, .ifCond .eq 7, [1]), (7, 1, .iload_n 2, []), (8, 3, .ifCond .ge 6, [2])], 1),
 ([(11, 2, .bipush (-2), []), (13, 1, .ireturn, [])], 0),
 ([(14, 1, .aload_n 0, []), (15, 3, .invokevirtual 187, [150, 1385, 0]), (18, 1, .iload_n 2, []), (19, 1, .aload_n 0, []), (20, 3, .getfield 46, [9, 15, 1169]), (23, 1, .iload_n 1, []), (24, 1, .iaload, []), (25, 3, .if_icmp .ge 17, [3]), (28, 1, .aload_n 0, []), (29, 3, .getfield 49, [9, 16, 1170]), (32, 2, .bipush 20, []), (34, 1, .iload_n 1, []), (35, 1, .imul, []), (36, 1, .iload_n 2, []), (37, 1, .iadd, []), (38, 1, .iaload, []), (39, 3, .ifCond .eq 6, [4])], 3),
 ([(42, 2, .bipush (-2), []), (44, 1, .ireturn, [])], 0),
 ([(45, 1, .aload_n 0, []), (46, 3, .invokevirtual 196, [154, 1417, 0]), (49, 1, .iload_n 1, []), (50, 1, .ishr, []), (51, 1, .iconst 1, []), (52, 1, .iand, []), (53, 3, .ifCond .ne 6, [5]), (56, 2, .bipush (-3), []), (58, 1, .ireturn, [])], 0),
 ([(59, 1, .aload_n 0, []), (60, 3, .invokevirtual 292, [159, 1441, 0]), (63, 1, .aload_n 0, []), (64, 1, .iload_n 1, []), (65, 3, .putfield 208, [9, 30, 1184]), (68, 1, .aload_n 0, []), (69, 1, .iload_n 2, []), (70, 3, .putfield 262, [9, 31, 1185]), (73, 1, .aload_n 0, []), (74, 1, .iconst 0, []), (75, 3, .putfield 265, [9, 32, 1186])], 6),
 ([(78, 1, .aload_n 0, []), (79, 3, .getfield 265, [9, 32, 1186]), (82, 2, .bipush 21, []), (84, 3, .if_icmp .ge 23, [7]), (87, 1, .aload_n 0, []), (88, 3, .invokevirtual 337, [201, 1612, 0]), (91, 3, .ifCond .ne 16, [7]), (94, 1, .aload_n 0, []), (95, 1, .dup, []), (96, 3, .getfield 265, [9, 32, 1186]), (99, 1, .iconst 1, []), (100, 1, .iadd, []), (101, 3, .putfield 265, [9, 32, 1186]), (104, 3, .goto (-26), [6])], 0),
 ([(107, 1, .aload_n 0, []), (108, 1, .iconst (-1), []), (109, 3, .putfield 208, [9, 30, 1184]), (112, 1, .aload_n 0, []), (113, 3, .getfield 265, [9, 32, 1186]), (116, 1, .iconst 1, []), (117, 1, .isub, []), (118, 1, .ireturn, [])], 0)]
def bk_206 : List Bk := [([(0, 1, .iconst 0, []), (1, 1, .istore_n 2, []), (2, 1, .iconst 0, []), (3, 1, .istore_n 3, [])], 1),
 ([(4, 1, .iload_n 3, []), (5, 2, .bipush 8, []), (7, 3, .if_icmp .ge 31, [4]), (10, 1, .iload_n 2, []), (11, 1, .iload_n 1, []), (12, 1, .iload_n 3, []), (13, 1, .ishr, []), (14, 1, .iconst 1, []), (15, 1, .iand, []), (16, 1, .iconst 1, []), (17, 3, .if_icmp .ne 12, [2]), (20, 1, .aload_n 0, []), (21, 3, .getfield 31, [9, 8, 1162]), (24, 1, .iload_n 3, []), (25, 1, .iaload, []), (26, 3, .goto 4, [3])], 0),
 ([(29, 1, .iconst 0, [])], 3),
 ([(30, 1, .iadd, []), (31, 1, .istore_n 2, []), (32, 3, .iinc 3 1, []), (35, 3, .goto (-31), [1])], 0),
 ([(38, 1, .iload_n 2, []), (39, 1, .ireturn, [])], 0)]
def bk_207 : List Bk := [([(0, 1, .iload_n 1, []), (1, 1, .iconst 0, []), (2, 1, .iconst 1, []), (3, 3, .invokestatic 135, [137, 1355, 3]), (6, 3, .ifCond .ne 6, [1]), (9, 2, .bipush (-2), []), (11, 1, .ireturn, [])], 0),
 ([(12, 1, .aload_n 0, []), (13, 3, .invokevirtual 196, [154, 1417, 0]), (16, 1, .istore_n 2, []), (17, 1, .iload_n 2, []), (18, 1, .istore_n 3, []), (19, 1, .iconst 0, []), (20, 2, .istore 4, []), (22, 1, .iconst 1, []), (23, 2, .istore 5, [])], 2),
 ([(25, 2, .iload 5, []), (27, 3, .ifCond .eq 119, [12]), (30, 1, .aload_n 0, []), (31, 1, .iload_n 2, []), (32, 2, .iload 4, []), (34, 1, .iconst (-1), []), (35, 1, .ixor, []), (36, 1, .iand, []), (37, 3, .invokevirtual 349, [206, 1628, 1]), (40, 1, .aload_n 0, []), (41, 1, .iload_n 2, []), (42, 1, .iload_n 3, []), (43, 1, .iconst (-1), []), (44, 1, .ixor, []), (45, 1, .iand, []), (46, 3, .invokevirtual 349, [206, 1628, 1]), (49, 1, .isub, []), (50, 2, .istore 6, []), (52, 2, .iload 6, []), (54, 3, .ifCond .ne 16, [3]), (57, 1, .iload_n 3, []), (58, 3, .invokestatic 343, [138, 1605, 1]), (61, 2, .iload 4, []), (63, 3, .invokestatic 343, [138, 1605, 1]), (66, 1, .isub, []), (67, 3, .goto 5, [4])], 0),
 ([(70, 2, .iload 6, [])], 4),
 ([(72, 2, .istore 6, []), (74, 2, .iload 6, []), (76, 3, .ifCond .ne 10, [5]), (79, 1, .iload_n 3, []), (80, 2, .iload 4, []), (82, 1, .isub, []), (83, 3, .goto 5, [6])], 0),
 ([(86, 2, .iload 6, [])], 6),
 ([(88, 2, .istore 6, []), (90, 2, .iload 6, []), (92, 3, .ifCond .le 31, [9]), (95, 1, .aload_n 0, []), (96, 3, .invokevirtual 292, [159, 1441, 0]), (99, 1, .aload_n 0, []), (100, 1, .iload_n 2, []), (101, 2, .iload 4, []), (103, 1, .iconst (-1), []), (104, 1, .ixor, []), (105, 1, .iand, []), (106, 3, .putfield 205, [9, 27, 1181]), (109, 1, .aload_n 0, []), (110, 3, .invokevirtual 337, [201, 1612, 0]), (113, 3, .ifCond .ne 8, [7]), (116, 2, .iload 4, []), (118, 3, .goto 4, [8])], 0),
 ([(121, 1, .iload_n 3, [])], 8),
 ([(122, 1, .istore_n 3, [])], 9),
 ([(123, 2, .iload 4, []), (125, 1, .iload_n 2, []), (126, 1, .isub, []), (127, 1, .iload_n 2, []), (128, 1, .iand, []), (129, 2, .istore 4, []), (131, 2, .iload 4, []), (133, 3, .ifCond .eq 7, [10]), (136, 1, .iconst 1, []), (137, 3, .goto 4, [11])], 0),
 ([(140, 1, .iconst 0, [])], 11),
 ([(141, 2, .istore 5, []), (143, 3, .goto (-118), [2])], 0),
 ([(146, 1, .iload_n 1, []), (147, 3, .ifCond .ne 7, [13]), (150, 1, .iload_n 3, []), (151, 3, .goto 12, [14])], 0),
 ([(154, 1, .aload_n 0, []), (155, 1, .iload_n 2, []), (156, 1, .iload_n 3, []), (157, 1, .iconst (-1), []), (158, 1, .ixor, []), (159, 1, .iand, []), (160, 3, .invokevirtual 349, [206, 1628, 1])], 14),
 ([(163, 1, .ireturn, [])], 0)]
def bk_208 : List Bk := [([(0, 1, .iload_n 1, []), (1, 3, .invokestatic 152, [142, 1370, 1]), (4, 3, .ifCond .eq 21, [1]), (7, 1, .iload_n 2, []), (8, 1, .iconst 1, []), (9, 1, .iconst 3, []), (10, 3, .invokestatic 135, [137, 1355, 3]), (13, 3, .ifCond .eq 12, [1]), (16, 1, .iload_n 3, []), (17, 1, .iconst 0, []), (18, 1, .iconst 1, []), (19, 3, .invokestatic 135, [137, 1355, 3]), (22, 3, .ifCond .ne 6, [2])], 1),
 ([(25, 2, .bipush (-2), []), (27, 1, .ireturn, [])], 0),
 ([(28, 1, .aload_n 0, []), (29, 3, .invokevirtual 196, [154, 1417, 0]), (32, 2, .istore 4, []), (34, 2, .iload 4, []), (36, 3, .invokestatic 343, [138, 1605, 1]), (39, 1, .iconst 4, []), (40, 3, .if_icmp .le 6, [3]), (43, 2, .bipush (-4), []), (45, 1, .ireturn, [])], 0),
 ([(46, 1, .iconst 1, []), (47, 2, .istore 5, []), (49, 1, .iconst 0, []), (50, 2, .istore 6, [])], 4),
 ([(52, 2, .iload 6, []), (54, 2, .iload 4, []), (56, 3, .invokestatic 343, [138, 1605, 1]), (59, 3, .if_icmp .ge 17, [5]), (62, 2, .iload 5, []), (64, 1, .iload_n 2, []), (65, 1, .iconst 1, []), (66, 1, .iadd, []), (67, 1, .imul, []), (68, 2, .istore 5, []), (70, 3, .iinc 6 1, []), (73, 3, .goto (-21), [4])], 0),
 ([(76, 1, .iconst (-1), []), (77, 2, .istore 6, []), (79, 1, .iconst 0, []), (80, 2, .istore 7, []), (82, 1, .aload_n 0, []), (83, 3, .invokevirtual 292, [159, 1441, 0]), (86, 1, .iconst 0, []), (87, 2, .istore 8, [])], 6),
 ([(89, 2, .iload 8, []), (91, 2, .iload 5, []), (93, 3, .if_icmp .ge 121, [17]), (96, 2, .iload 8, []), (98, 2, .istore 9, []), (100, 1, .iconst 0, []), (101, 2, .istore 10, [])], 7),
 ([(103, 2, .iload 10, []), (105, 2, .bipush 8, []), (107, 3, .if_icmp .ge 61, [12]), (110, 1, .aload_n 0, []), (111, 3, .getfield 68, [9, 29, 1183]), (114, 2, .iload 10, []), (116, 2, .iload 4, []), (118, 2, .iload 10, []), (120, 1, .ishr, []), (121, 1, .iconst 1, []), (122, 1, .iand, []), (123, 1, .iconst 1, []), (124, 3, .if_icmp .ne 12, [8]), (127, 2, .iload 9, []), (129, 1, .iload_n 2, []), (130, 1, .iconst 1, []), (131, 1, .iadd, []), (132, 1, .irem, []), (133, 3, .goto 4, [9])], 0),
 ([(136, 1, .iconst 0, [])], 9),
 ([(137, 1, .iastore, []), (138, 2, .iload 4, []), (140, 2, .iload 10, []), (142, 1, .ishr, []), (143, 1, .iconst 1, []), (144, 1, .iand, []), (145, 1, .iconst 1, []), (146, 3, .if_icmp .ne 12, [10]), (149, 2, .iload 9, []), (151, 1, .iload_n 2, []), (152, 1, .iconst 1, []), (153, 1, .iadd, []), (154, 1, .idiv, []), (155, 3, .goto 5, [11])], 0),
 ([(158, 2, .iload 9, [])], 11),
 ([(160, 2, .istore 9, []), (162, 3, .iinc 10 1, []), (165, 3, .goto (-62), [7])], 0),
 ([(168, 2, .iload 7, []), (170, 1, .aload_n 0, []), (171, 3, .invokevirtual 337, [201, 1612, 0]), (174, 3, .ifCond .le 7, [13]), (177, 1, .iconst 1, []), (178, 3, .goto 4, [14])], 0),
 ([(181, 1, .iconst 0, [])], 14),
 ([(182, 1, .iadd, []), (183, 2, .istore 7, []), (185, 1, .aload_n 0, []), (186, 1, .iload_n 1, []), (187, 3, .invokevirtual 304, [186, 1545, 1]), (190, 2, .istore 10, []), (192, 2, .iload 10, []), (194, 2, .iload 6, []), (196, 3, .if_icmp .le 8, [15]), (199, 2, .iload 10, []), (201, 3, .goto 5, [16])], 0),
 ([(204, 2, .iload 6, [])], 16),
 ([(206, 2, .istore 6, []), (208, 3, .iinc 8 1, []), (211, 3, .goto (-122), [6])], 0),
 ([(214, 1, .iload_n 3, []), (215, 3, .ifCond .ne 8, [18]), (218, 2, .iload 6, []), (220, 3, .goto 5, [19])], 0),
 ([(223, 2, .iload 7, [])], 19),
 ([(225, 1, .ireturn, [])], 0)]
def bk_209 : List Bk := [([(0, 1, .iload_n 1, []), (1, 3, .invokestatic 352, [215, 1640, 1]), (4, 3, .ifCond .ne 6, [1]), (7, 2, .bipush (-2), []), (9, 1, .ireturn, [])], 0),
 ([(10, 1, .aload_n 0, []), (11, 3, .getfield 120, [9, 59, 1213]), (14, 1, .iload_n 1, []), (15, 1, .baload, []), (16, 3, .ifCond .ne 9, [2]), (19, 1, .aload_n 0, []), (20, 1, .iconst 1, []), (21, 3, .invokevirtual 355, [214, 1643, 1]), (24, 1, .ireturn, [])], 0),
 ([(25, 1, .iconst 0, []), (26, 1, .istore_n 2, []), (27, 1, .iconst 0, []), (28, 1, .istore_n 3, [])], 3),
 ([(29, 1, .iload_n 3, []), (30, 2, .bipush 9, []), (32, 3, .if_icmp .ge 131, [11]), (35, 1, .aload_n 0, []), (36, 3, .invokevirtual 292, [159, 1441, 0]), (39, 1, .aload_n 0, []), (40, 1, .iload_n 3, []), (41, 1, .iconst 3, []), (42, 1, .idiv, []), (43, 3, .putfield 211, [9, 33, 1187]), (46, 1, .aload_n 0, []), (47, 1, .iload_n 3, []), (48, 1, .iconst 3, []), (49, 1, .irem, []), (50, 3, .putfield 214, [9, 34, 1188]), (53, 1, .aload_n 0, []), (54, 3, .invokevirtual 337, [201, 1612, 0]), (57, 2, .istore 4, []), (59, 1, .iconst 1, []), (60, 2, .istore 5, []), (62, 1, .iconst 0, []), (63, 2, .istore 6, [])], 4),
 ([(65, 2, .iload 6, []), (67, 1, .aload_n 0, []), (68, 3, .getfield 62, [9, 25, 1179]), (71, 3, .if_icmp .ge 71, [8]), (74, 2, .iload 6, []), (76, 1, .aload_n 0, []), (77, 3, .getfield 126, [9, 61, 1215]), (80, 1, .iload_n 1, []), (81, 1, .iaload, []), (82, 3, .if_icmp .ge 60, [8]), (85, 1, .aload_n 0, []), (86, 3, .getfield 129, [9, 62, 1216]), (89, 2, .bipush 60, []), (91, 1, .iload_n 1, []), (92, 1, .imul, []), (93, 2, .iload 6, []), (95, 1, .iadd, []), (96, 1, .iaload, []), (97, 2, .istore 7, []), (99, 2, .iload 5, []), (101, 3, .ifCond .eq 32, [6]), (104, 2, .iload 7, []), (106, 1, .iconst (-1), []), (107, 2, .bipush 7, []), (109, 3, .invokestatic 135, [137, 1355, 3]), (112, 3, .ifCond .eq 17, [5]), (115, 2, .iload 7, []), (117, 1, .aload_n 0, []), (118, 3, .getfield 108, [9, 47, 1201]), (121, 1, .iconst 3, []), (122, 2, .iload 6, []), (124, 1, .imul, []), (125, 1, .iaload, []), (126, 3, .if_icmp .ne 7, [6])], 5),
 ([(129, 1, .iconst 1, []), (130, 3, .goto 4, [7])], 0),
 ([(133, 1, .iconst 0, [])], 7),
 ([(134, 2, .istore 5, []), (136, 3, .iinc 6 1, []), (139, 3, .goto (-74), [4])], 0),
 ([(142, 1, .iload_n 2, []), (143, 2, .iload 5, []), (145, 3, .ifCond .eq 9, [9]), (148, 1, .iconst 1, []), (149, 1, .iload_n 3, []), (150, 1, .ishl, []), (151, 3, .goto 4, [10])], 0),
 ([(154, 1, .iconst 0, [])], 10),
 ([(155, 1, .ior, []), (156, 1, .istore_n 2, []), (157, 3, .iinc 3 1, []), (160, 3, .goto (-131), [3])], 0),
 ([(163, 1, .iload_n 2, []), (164, 1, .ireturn, [])], 0)]
def bk_210 : List Bk := [([(0, 1, .aload_n 0, []), (1, 3, .invokevirtual 292, [159, 1441, 0]), (4, 1, .aload_n 0, []), (5, 1, .iload_n 1, []), (6, 3, .putfield 211, [9, 33, 1187]), (9, 1, .aload_n 0, []), (10, 1, .iload_n 2, []), (11, 3, .putfield 214, [9, 34, 1188]), (14, 1, .iload_n 3, []), (15, 1, .iconst (-1), []), (16, 3, .if_icmp .eq 33, [1]), (19, 1, .aload_n 0, []), (20, 3, .getfield 65, [9, 28, 1182]), (23, 1, .iload_n 3, []), (24, 1, .iaload, []), (25, 2, .istore 5, []), (27, 1, .aload_n 0, []), (28, 3, .getfield 65, [9, 28, 1182]), (31, 1, .iload_n 3, []), (32, 1, .aload_n 0, []), (33, 3, .getfield 65, [9, 28, 1182]), (36, 2, .iload 4, []), (38, 1, .iaload, []), (39, 1, .iastore, []), (40, 1, .aload_n 0, []), (41, 3, .getfield 65, [9, 28, 1182]), (44, 2, .iload 4, []), (46, 2, .iload 5, []), (48, 1, .iastore, [])], 1),
 ([(49, 1, .aload_n 0, []), (50, 3, .invokevirtual 337, [201, 1612, 0]), (53, 3, .ifCond .ne 15, [2]), (56, 1, .aload_n 0, []), (57, 3, .getfield 217, [9, 49, 1203]), (60, 1, .iconst (-1), []), (61, 3, .if_icmp .ne 7, [2]), (64, 1, .iconst 1, []), (65, 3, .goto 4, [3])], 0),
 ([(68, 1, .iconst 0, [])], 3),
 ([(69, 1, .ireturn, [])], 0)]
def bk_211 : List Bk := [([(0, 1, .aload_n 0, []), (1, 3, .getfield 358, [9, 54, 1208]), (4, 1, .iconst (-1), []), (5, 3, .if_icmp .eq 11, [1]), (8, 1, .iload_n 1, []), (9, 1, .aload_n 0, []), (10, 3, .getfield 358, [9, 54, 1208]), (13, 3, .if_icmp .ge 43, [2])], 1),
 ([(16, 1, .aload_n 0, []), (17, 1, .iload_n 2, []), (18, 1, .iload_n 3, []), (19, 2, .iload 4, []), (21, 2, .iload 5, []), (23, 3, .invokevirtual 361, [210, 1659, 4]), (26, 3, .ifCond .eq 30, [2]), (29, 1, .aload_n 0, []), (30, 1, .iload_n 1, []), (31, 3, .putfield 358, [9, 54, 1208]), (34, 1, .aload_n 0, []), (35, 1, .iload_n 2, []), (36, 3, .putfield 365, [9, 55, 1209]), (39, 1, .aload_n 0, []), (40, 1, .iload_n 3, []), (41, 3, .putfield 368, [9, 56, 1210]), (44, 1, .aload_n 0, []), (45, 2, .iload 4, []), (47, 3, .putfield 371, [9, 57, 1211]), (50, 1, .aload_n 0, []), (51, 2, .iload 5, []), (53, 3, .putfield 374, [9, 58, 1212])], 2),
 ([(56, 1, .return_, [])], 0)]
def bk_212 : List Bk := [([(0, 1, .aload_n 0, []), (1, 3, .invokevirtual 196, [154, 1417, 0]), (4, 1, .istore_n 1, []), (5, 1, .aload_n 0, []), (6, 1, .iconst (-1), []), (7, 3, .putfield 358, [9, 54, 1208]), (10, 1, .iconst 0, []), (11, 1, .istore_n 2, [])], 1),
 ([(12, 1, .iload_n 2, []), (13, 2, .bipush 9, []), (15, 3, .if_icmp .ge 126, [11]), (18, 1, .iload_n 2, []), (19, 1, .iconst 3, []), (20, 1, .idiv, []), (21, 1, .aload_n 0, []), (22, 3, .getfield 199, [9, 22, 1176]), (25, 3, .if_icmp .ne 7, [2]), (28, 1, .iconst 0, []), (29, 3, .goto 4, [3])], 0),
 ([(32, 1, .iconst 1, [])], 3),
 ([(33, 1, .iload_n 2, []), (34, 1, .iconst 3, []), (35, 1, .irem, []), (36, 1, .aload_n 0, []), (37, 3, .getfield 202, [9, 23, 1177]), (40, 3, .if_icmp .ne 7, [4]), (43, 1, .iconst 0, []), (44, 3, .goto 4, [5])], 0),
 ([(47, 1, .iconst 1, [])], 5),
 ([(48, 1, .iadd, []), (49, 1, .istore_n 3, []), (50, 1, .aload_n 0, []), (51, 1, .iload_n 3, []), (52, 1, .iload_n 2, []), (53, 1, .iconst 3, []), (54, 1, .idiv, []), (55, 1, .iload_n 2, []), (56, 1, .iconst 3, []), (57, 1, .irem, []), (58, 1, .iconst (-1), []), (59, 1, .iconst (-1), []), (60, 3, .invokevirtual 377, [211, 1655, 5]), (63, 1, .iconst 0, []), (64, 2, .istore 4, [])], 6),
 ([(66, 2, .iload 4, []), (68, 2, .bipush 8, []), (70, 3, .if_icmp .ge 65, [10]), (73, 1, .iload_n 3, []), (74, 1, .iconst 2, []), (75, 3, .if_icmp .ge 60, [10]), (78, 2, .iload 4, []), (80, 1, .iconst 1, []), (81, 1, .iadd, []), (82, 2, .istore 5, [])], 7),
 ([(84, 2, .iload 5, []), (86, 2, .bipush 8, []), (88, 3, .if_icmp .ge 41, [9]), (91, 1, .iload_n 1, []), (92, 2, .iload 4, []), (94, 1, .ishr, []), (95, 1, .iload_n 1, []), (96, 2, .iload 5, []), (98, 1, .ishr, []), (99, 1, .iand, []), (100, 1, .iconst 1, []), (101, 1, .iand, []), (102, 1, .iconst 1, []), (103, 3, .if_icmp .ne 20, [8]), (106, 1, .aload_n 0, []), (107, 1, .iload_n 3, []), (108, 1, .iconst 1, []), (109, 1, .iadd, []), (110, 1, .iload_n 2, []), (111, 1, .iconst 3, []), (112, 1, .idiv, []), (113, 1, .iload_n 2, []), (114, 1, .iconst 3, []), (115, 1, .irem, []), (116, 2, .iload 4, []), (118, 2, .iload 5, []), (120, 3, .invokevirtual 377, [211, 1655, 5])], 8),
 ([(123, 3, .iinc 5 1, []), (126, 3, .goto (-42), [7])], 0),
 ([(129, 3, .iinc 4 1, []), (132, 3, .goto (-66), [6])], 0),
 ([(135, 3, .iinc 2 1, []), (138, 3, .goto (-126), [1])], 0),
 ([(141, 1, .return_, [])], 0)]
def bk_213 : List Bk := [([(0, 1, .iload_n 1, []), (1, 1, .iconst 0, []), (2, 1, .iconst 4, []), (3, 3, .invokestatic 135, [137, 1355, 3]), (6, 3, .ifCond .ne 6, [1]), (9, 2, .bipush (-2), []), (11, 1, .ireturn, [])], 0),
 ([(12, 1, .aload_n 0, []), (13, 3, .invokevirtual 381, [212, 1651, 0]), (16, 1, .iload_n 1, []), (17, 3, .ifCond .ne 8, [2]), (20, 1, .aload_n 0, []), (21, 3, .getfield 358, [9, 54, 1208]), (24, 1, .ireturn, [])], 0),
 ([(25, 1, .aload_n 0, []), (26, 3, .getfield 358, [9, 54, 1208]), (29, 1, .iconst (-1), []), (30, 3, .if_icmp .ne 8, [3]), (33, 2, .bipush (-3), []), (35, 3, .goto 43, [7])], 0),
 ([(38, 1, .iload_n 1, []), (39, 1, .iconst 1, []), (40, 3, .if_icmp .ne 10, [4]), (43, 1, .aload_n 0, []), (44, 3, .getfield 365, [9, 55, 1209]), (47, 3, .goto 31, [7])], 0),
 ([(50, 1, .iload_n 1, []), (51, 1, .iconst 2, []), (52, 3, .if_icmp .ne 10, [5]), (55, 1, .aload_n 0, []), (56, 3, .getfield 368, [9, 56, 1210]), (59, 3, .goto 19, [7])], 0),
 ([(62, 1, .iload_n 1, []), (63, 1, .iconst 3, []), (64, 3, .if_icmp .ne 10, [6]), (67, 1, .aload_n 0, []), (68, 3, .getfield 371, [9, 57, 1211]), (71, 3, .goto 7, [7])], 0),
 ([(74, 1, .aload_n 0, []), (75, 3, .getfield 374, [9, 58, 1212])], 7),
 ([(78, 1, .ireturn, [])], 0)]
def bk_214 : List Bk := [([(0, 1, .aload_n 0, []), (1, 1, .iload_n 1, []), (2, 3, .putfield 384, [9, 64, 1218]), (5, 2, .bipush (-10), []), (7, 1, .iload_n 1, []), (8, 1, .isub, []), (9, 1, .ireturn, [])], 0)]
def bk_215 : List Bk := [([(0, 1, .iload_n 0, []), (1, 1, .iconst 0, []), (2, 1, .iconst 3, []), (3, 3, .invokestatic 135, [137, 1355, 3]), (6, 1, .ireturn, [])], 0)]
def bk_216 : List Bk := [([(0, 1, .iload_n 1, []), (1, 3, .invokestatic 352, [215, 1640, 1]), (4, 3, .ifCond .eq 18, [1]), (7, 1, .iload_n 2, []), (8, 1, .iconst 0, []), (9, 1, .iconst 2, []), (10, 3, .invokestatic 135, [137, 1355, 3]), (13, 3, .ifCond .eq 9, [1]), (16, 1, .iload_n 3, []), (17, 2, .bipush 60, []), (19, 3, .if_icmp .le 6, [2])], 1),
 ([(22, 2, .bipush (-2), []), (24, 1, .ireturn, [])], 0),
 ([(25, 1, .iload_n 3, []), (26, 3, .ifCond .ge 9, [3]), (29, 1, .aload_n 0, []), (30, 1, .iconst 5, []), (31, 3, .invokevirtual 355, [214, 1643, 1]), (34, 1, .ireturn, [])], 0),
 ([(35, 1, .aload_n 0, []), (36, 3, .getfield 120, [9, 59, 1213]), (39, 1, .iload_n 1, []), (40, 1, .iconst 1, []), (41, 1, .bastore, []), (42, 1, .aload_n 0, []), (43, 3, .getfield 123, [9, 60, 1214]), (46, 1, .iload_n 1, []), (47, 1, .iload_n 2, []), (48, 1, .iastore, []), (49, 1, .aload_n 0, []), (50, 3, .getfield 126, [9, 61, 1215]), (53, 1, .iload_n 1, []), (54, 1, .iload_n 3, []), (55, 1, .iastore, []), (56, 1, .iconst 0, []), (57, 2, .istore 4, [])], 4),
 ([(59, 2, .iload 4, []), (61, 2, .bipush 60, []), (63, 3, .if_icmp .ge 22, [5]), (66, 1, .aload_n 0, []), (67, 3, .getfield 129, [9, 62, 1216]), (70, 2, .bipush 60, []), (72, 1, .iload_n 1, []), (73, 1, .imul, []), (74, 2, .iload 4, []), (76, 1, .iadd, []), (77, 1, .iconst 0, []), (78, 1, .iastore, []), (79, 3, .iinc 4 1, []), (82, 3, .goto (-23), [4])], 0),
 ([(85, 1, .iload_n 3, []), (86, 1, .ireturn, [])], 0)]
def bk_217 : List Bk := [([(0, 1, .iload_n 1, []), (1, 3, .invokestatic 352, [215, 1640, 1]), (4, 3, .ifCond .ne 6, [1]), (7, 2, .bipush (-2), []), (9, 1, .ireturn, [])], 0),
 ([(10, 1, .aload_n 0, []), (11, 3, .getfield 120, [9, 59, 1213]), (14, 1, .iload_n 1, []), (15, 1, .baload, []), (16, 3, .ifCond .ne 9, [2]), (19, 1, .aload_n 0, []), (20, 1, .iconst 1, []), (21, 3, .invokevirtual 355, [214, 1643, 1]), (24, 1, .ireturn, [])], 0),
 ([(25, 1, .aload_n 0, []), (26, 3, .getfield 120, [9, 59, 1213]), (29, 1, .iload_n 1, []), (30, 1, .iconst 0, []), (31, 1, .bastore, []), (32, 1, .aload_n 0, []), (33, 3, .getfield 126, [9, 61, 1215]), (36, 1, .iload_n 1, []), (37, 1, .iaload, []), (38, 1, .ireturn, [])], 0)]
def bk_218 : List Bk := [([(0, 1, .aload_n 0, []), (1, 3, .getfield 120, [9, 59, 1213]), (4, 1, .iload_n 1, []), (5, 1, .baload, []), (6, 3, .ifCond .ne 7, [1]), (9, 1, .iconst 1, []), (10, 3, .goto 38, [4])], 0),
 ([(13, 1, .aload_n 0, []), (14, 3, .getfield 123, [9, 60, 1214]), (17, 1, .iload_n 1, []), (18, 1, .iaload, []), (19, 1, .iload_n 2, []), (20, 3, .if_icmp .eq 7, [2]), (23, 1, .iconst 3, []), (24, 3, .goto 24, [4])], 0),
 ([(27, 1, .iload_n 3, []), (28, 1, .iconst 0, []), (29, 1, .aload_n 0, []), (30, 3, .getfield 126, [9, 61, 1215]), (33, 1, .iload_n 1, []), (34, 1, .iaload, []), (35, 1, .iconst 1, []), (36, 1, .isub, []), (37, 3, .invokestatic 135, [137, 1355, 3]), (40, 3, .ifCond .eq 7, [3]), (43, 1, .iconst 0, []), (44, 3, .goto 4, [4])], 0),
 ([(47, 1, .iconst 2, [])], 4),
 ([(48, 1, .ireturn, [])], 0)]
def bk_219 : List Bk := [([(0, 1, .aload_n 0, []), (1, 3, .getfield 129, [9, 62, 1216]), (4, 2, .bipush 60, []), (6, 1, .iload_n 1, []), (7, 1, .imul, []), (8, 1, .iload_n 2, []), (9, 1, .iadd, []), (10, 1, .aload_n 0, []), (11, 3, .getfield 123, [9, 60, 1214]), (14, 1, .iload_n 1, []), (15, 1, .iaload, []), (16, 3, .ifCond .ne 8, [1]), (19, 1, .iload_n 3, []), (20, 1, .i2b, []), (21, 3, .goto 19, [3])], 0),
 ([(24, 1, .aload_n 0, []), (25, 3, .getfield 123, [9, 60, 1214]), (28, 1, .iload_n 1, []), (29, 1, .iaload, []), (30, 1, .iconst 1, []), (31, 3, .if_icmp .ne 8, [2]), (34, 1, .iload_n 3, []), (35, 1, .i2s, []), (36, 3, .goto 4, [3])], 0),
 ([(39, 1, .iload_n 3, [])], 3),
 ([(40, 1, .iastore, []), (41, 1, .return_, [])], 0)]
def bk_220 : List Bk := [([(0, 1, .iload_n 1, []), (1, 3, .invokestatic 352, [215, 1640, 1]), (4, 3, .ifCond .eq 12, [1]), (7, 1, .iload_n 2, []), (8, 1, .iconst 0, []), (9, 1, .iconst 2, []), (10, 3, .invokestatic 135, [137, 1355, 3]), (13, 3, .ifCond .ne 6, [2])], 1),
 ([(16, 2, .bipush (-2), []), (18, 1, .ireturn, [])], 0),
 ([(19, 1, .aload_n 0, []), (20, 1, .iload_n 1, []), (21, 1, .iload_n 2, []), (22, 1, .iload_n 3, []), (23, 3, .invokevirtual 387, [218, 1675, 3]), (26, 2, .istore 5, []), (28, 2, .iload 5, []), (30, 3, .ifCond .le 10, [3]), (33, 1, .aload_n 0, []), (34, 2, .iload 5, []), (36, 3, .invokevirtual 355, [214, 1643, 1]), (39, 1, .ireturn, [])], 0),
 ([(40, 1, .aload_n 0, []), (41, 1, .iload_n 1, []), (42, 1, .iload_n 3, []), (43, 2, .iload 4, []), (45, 3, .invokevirtual 390, [219, 1679, 3]), (48, 1, .iconst 1, []), (49, 1, .ireturn, [])], 0)]
def bk_221 : List Bk := [([(0, 1, .iload_n 1, []), (1, 3, .invokestatic 352, [215, 1640, 1]), (4, 3, .ifCond .eq 12, [1]), (7, 1, .iload_n 2, []), (8, 1, .iconst 0, []), (9, 1, .iconst 2, []), (10, 3, .invokestatic 135, [137, 1355, 3]), (13, 3, .ifCond .ne 7, [2])], 1),
 ([(16, 3, .ldc_w 394, [0, 2147483648, 1687]), (19, 1, .ireturn, [])], 0),
 ([(20, 1, .aload_n 0, []), (21, 1, .iload_n 1, []), (22, 1, .iload_n 2, []), (23, 1, .iload_n 3, []), (24, 3, .invokevirtual 387, [218, 1675, 3]), (27, 2, .istore 4, []), (29, 2, .iload 4, []), (31, 3, .ifCond .le 13, [3]), (34, 1, .aload_n 0, []), (35, 2, .iload 4, []), (37, 3, .putfield 384, [9, 64, 1218]), (40, 3, .ldc_w 394, [0, 2147483648, 1687]), (43, 1, .ireturn, [])], 0),
 ([(44, 1, .aload_n 0, []), (45, 3, .getfield 129, [9, 62, 1216]), (48, 2, .bipush 60, []), (50, 1, .iload_n 1, []), (51, 1, .imul, []), (52, 1, .iload_n 3, []), (53, 1, .iadd, []), (54, 1, .iaload, []), (55, 1, .ireturn, [])], 0)]
def bk_222 : List Bk := [([(0, 1, .iload_n 1, []), (1, 3, .invokestatic 352, [215, 1640, 1]), (4, 3, .ifCond .eq 10, [1]), (7, 1, .iload_n 3, []), (8, 3, .invokestatic 352, [215, 1640, 1]), (11, 3, .ifCond .ne 6, [2])], 1),
 ([(14, 2, .bipush (-2), []), (16, 1, .ireturn, [])], 0),
 ([(17, 1, .aload_n 0, []), (18, 3, .getfield 120, [9, 59, 1213]), (21, 1, .iload_n 1, []), (22, 1, .baload, []), (23, 3, .ifCond .eq 12, [3]), (26, 1, .aload_n 0, []), (27, 3, .getfield 120, [9, 59, 1213]), (30, 1, .iload_n 3, []), (31, 1, .baload, []), (32, 3, .ifCond .ne 9, [4])], 3),
 ([(35, 1, .aload_n 0, []), (36, 1, .iconst 1, []), (37, 3, .invokevirtual 355, [214, 1643, 1]), (40, 1, .ireturn, [])], 0),
 ([(41, 1, .aload_n 0, []), (42, 3, .getfield 123, [9, 60, 1214]), (45, 1, .iload_n 1, []), (46, 1, .iaload, []), (47, 1, .aload_n 0, []), (48, 3, .getfield 123, [9, 60, 1214]), (51, 1, .iload_n 3, []), (52, 1, .iaload, []), (53, 3, .if_icmp .eq 9, [5]), (56, 1, .aload_n 0, []), (57, 1, .iconst 4, []), (58, 3, .invokevirtual 355, [214, 1643, 1]), (61, 1, .ireturn, [])], 0),
 ([(62, 1, .iload_n 2, []), (63, 3, .ifCond .lt 48, [6]), (66, 2, .iload 4, []), (68, 3, .ifCond .lt 43, [6]), (71, 2, .iload 5, []), (73, 3, .ifCond .lt 38, [6]), (76, 1, .iload_n 2, []), (77, 1, .i2l, []), (78, 2, .iload 5, []), (80, 1, .i2l, []), (81, 1, .ladd, []), (82, 1, .aload_n 0, []), (83, 3, .getfield 126, [9, 61, 1215]), (86, 1, .iload_n 1, []), (87, 1, .iaload, []), (88, 1, .i2l, []), (89, 1, .lcmp, []), (90, 3, .ifCond .gt 21, [6]), (93, 2, .iload 4, []), (95, 1, .i2l, []), (96, 2, .iload 5, []), (98, 1, .i2l, []), (99, 1, .ladd, []), (100, 1, .aload_n 0, []), (101, 3, .getfield 126, [9, 61, 1215]), (104, 1, .iload_n 3, []), (105, 1, .iaload, []), (106, 1, .i2l, []), (107, 1, .lcmp, []), (108, 3, .ifCond .le 9, [7])], 6),
 ([(111, 1, .aload_n 0, []), (112, 1, .iconst 2, []), (113, 3, .invokevirtual 355, [214, 1643, 1]), (116, 1, .ireturn, [])], 0),
 ([(117, 1, .iconst 0, []), (118, 2, .istore 6, [])], 8),
 ([(120, 2, .iload 6, []), (122, 2, .iload 5, []), (124, 3, .if_icmp .ge 30, [9]), (127, 1, .aload_n 0, []), (128, 3, .getfield 132, [9, 63, 1217]), (131, 2, .iload 6, []), (133, 1, .aload_n 0, []), (134, 3, .getfield 129, [9, 62, 1216]), (137, 2, .bipush 60, []), (139, 1, .iload_n 1, []), (140, 1, .imul, []), (141, 1, .iload_n 2, []), (142, 1, .iadd, []), (143, 2, .iload 6, []), (145, 1, .iadd, []), (146, 1, .iaload, []), (147, 1, .iastore, []), (148, 3, .iinc 6 1, []), (151, 3, .goto (-31), [8])], 0),
 ([(154, 1, .iconst 0, []), (155, 2, .istore 6, [])], 10),
 ([(157, 2, .iload 6, []), (159, 2, .iload 5, []), (161, 3, .if_icmp .ge 31, [11]), (164, 1, .aload_n 0, []), (165, 3, .getfield 129, [9, 62, 1216]), (168, 2, .bipush 60, []), (170, 1, .iload_n 3, []), (171, 1, .imul, []), (172, 2, .iload 4, []), (174, 1, .iadd, []), (175, 2, .iload 6, []), (177, 1, .iadd, []), (178, 1, .aload_n 0, []), (179, 3, .getfield 132, [9, 63, 1217]), (182, 2, .iload 6, []), (184, 1, .iaload, []), (185, 1, .iastore, []), (186, 3, .iinc 6 1, []), (189, 3, .goto (-32), [10])], 0),
 ([(192, 1, .iconst 1, []), (193, 1, .ireturn, [])], 0)]
def bk_223 : List Bk := [([(0, 1, .iload_n 1, []), (1, 3, .invokestatic 352, [215, 1640, 1]), (4, 3, .ifCond .ne 6, [1]), (7, 2, .bipush (-2), []), (9, 1, .ireturn, [])], 0),
 ([(10, 1, .aload_n 0, []), (11, 3, .getfield 120, [9, 59, 1213]), (14, 1, .iload_n 1, []), (15, 1, .baload, []), (16, 3, .ifCond .ne 9, [2]), (19, 1, .aload_n 0, []), (20, 1, .iconst 1, []), (21, 3, .invokevirtual 355, [214, 1643, 1]), (24, 1, .ireturn, [])], 0),
 ([(25, 1, .aload_n 0, []), (26, 3, .invokevirtual 298, [181, 1437, 0]), (29, 1, .iconst 0, []), (30, 1, .istore_n 2, [])], 3),
 ([(31, 1, .iload_n 2, []), (32, 1, .aload_n 0, []), (33, 3, .getfield 62, [9, 25, 1179]), (36, 3, .if_icmp .ge 33, [4]), (39, 1, .iload_n 2, []), (40, 1, .aload_n 0, []), (41, 3, .getfield 126, [9, 61, 1215]), (44, 1, .iload_n 1, []), (45, 1, .iaload, []), (46, 3, .if_icmp .ge 23, [4]), (49, 1, .aload_n 0, []), (50, 1, .iload_n 1, []), (51, 1, .iload_n 2, []), (52, 1, .aload_n 0, []), (53, 3, .getfield 108, [9, 47, 1201]), (56, 1, .iconst 3, []), (57, 1, .iload_n 2, []), (58, 1, .imul, []), (59, 1, .iaload, []), (60, 3, .invokevirtual 390, [219, 1679, 3]), (63, 3, .iinc 2 1, []), (66, 3, .goto (-35), [3])], 0),
 ([(69, 1, .iload_n 2, []), (70, 1, .ireturn, [])], 0)]
def bk_224 : List Bk := [([(0, 1, .iload_n 1, []), (1, 51, .tableswitch 149 0 8 #[51, 56, 61, 119, 124, 129, 134, 139, 144], [10, 1, 2, 3, 4, 5, 6, 7, 8, 9])], 0),
 ([(52, 1, .aload_n 0, []), (53, 3, .getfield 139, [9, 0, 1154]), (56, 1, .ireturn, [])], 0),
 ([(57, 1, .aload_n 0, []), (58, 3, .invokevirtual 196, [154, 1417, 0]), (61, 1, .ireturn, [])], 0),
 ([(62, 1, .aload_n 0, []), (63, 3, .getfield 22, [9, 5, 1159]), (66, 1, .iconst 0, []), (67, 1, .iaload, []), (68, 1, .aload_n 0, []), (69, 3, .getfield 22, [9, 5, 1159]), (72, 1, .iconst 1, []), (73, 1, .iaload, []), (74, 1, .iadd, []), (75, 1, .aload_n 0, []), (76, 3, .getfield 22, [9, 5, 1159]), (79, 1, .iconst 2, []), (80, 1, .iaload, []), (81, 1, .iadd, []), (82, 1, .aload_n 0, []), (83, 3, .getfield 22, [9, 5, 1159]), (86, 1, .iconst 3, []), (87, 1, .iaload, []), (88, 1, .iadd, []), (89, 1, .aload_n 0, []), (90, 3, .getfield 22, [9, 5, 1159]), (93, 1, .iconst 4, []), (94, 1, .iaload, []), (95, 1, .iadd, []), (96, 1, .aload_n 0, []), (97, 3, .getfield 22, [9, 5, 1159]), (100, 1, .iconst 5, []), (101, 1, .iaload, []), (102, 1, .iadd, []), (103, 1, .aload_n 0, []), (104, 3, .getfield 22, [9, 5, 1159]), (107, 2, .bipush 6, []), (109, 1, .iaload, []), (110, 1, .iadd, []), (111, 1, .aload_n 0, []), (112, 3, .getfield 22, [9, 5, 1159]), (115, 2, .bipush 7, []), (117, 1, .iaload, []), (118, 1, .iadd, []), (119, 1, .ireturn, [])], 0),
 ([(120, 1, .aload_n 0, []), (121, 3, .getfield 193, [9, 9, 1163]), (124, 1, .ireturn, [])], 0),
 ([(125, 1, .aload_n 0, []), (126, 3, .getfield 199, [9, 22, 1176]), (129, 1, .ireturn, [])], 0),
 ([(130, 1, .aload_n 0, []), (131, 3, .getfield 202, [9, 23, 1177]), (134, 1, .ireturn, [])], 0),
 ([(135, 1, .aload_n 0, []), (136, 3, .getfield 58, [9, 24, 1178]), (139, 1, .ireturn, [])], 0),
 ([(140, 1, .aload_n 0, []), (141, 3, .getfield 62, [9, 25, 1179]), (144, 1, .ireturn, [])], 0),
 ([(145, 1, .aload_n 0, []), (146, 3, .getfield 384, [9, 64, 1218]), (149, 1, .ireturn, [])], 0),
 ([(150, 2, .bipush (-2), []), (152, 1, .ireturn, [])], 0)]
def bk_225 : List Bk := [([(0, 3, .ldc2_w 395, [17, 1704]), (3, 1, .lstore_n 1, []), (4, 1, .iconst 0, []), (5, 1, .istore_n 3, [])], 1),
 ([(6, 1, .iload_n 3, []), (7, 2, .bipush 8, []), (9, 3, .if_icmp .ge 22, [2]), (12, 3, .ldc2_w 397, [31, 1705]), (15, 1, .lload_n 1, []), (16, 1, .lmul, []), (17, 1, .aload_n 0, []), (18, 1, .iload_n 3, []), (19, 3, .invokevirtual 399, [224, 1706, 1]), (22, 1, .i2l, []), (23, 1, .ladd, []), (24, 1, .lstore_n 1, []), (25, 3, .iinc 3 1, []), (28, 3, .goto (-22), [1])], 0),
 ([(31, 1, .aload_n 0, []), (32, 3, .invokevirtual 298, [181, 1437, 0]), (35, 1, .iconst 0, []), (36, 1, .istore_n 3, [])], 3),
 ([(37, 1, .iload_n 3, []), (38, 2, .bipush 8, []), (40, 3, .if_icmp .ge 54, [6]), (43, 3, .ldc2_w 397, [31, 1705]), (46, 1, .lload_n 1, []), (47, 1, .lmul, []), (48, 1, .aload_n 0, []), (49, 3, .getfield 34, [9, 11, 1165]), (52, 1, .iload_n 3, []), (53, 1, .iaload, []), (54, 1, .i2l, []), (55, 1, .ladd, []), (56, 1, .lstore_n 1, []), (57, 1, .iconst 0, []), (58, 2, .istore 4, [])], 4),
 ([(60, 2, .iload 4, []), (62, 2, .bipush 7, []), (64, 3, .if_icmp .ge 24, [5]), (67, 3, .ldc2_w 397, [31, 1705]), (70, 1, .lload_n 1, []), (71, 1, .lmul, []), (72, 1, .aload_n 0, []), (73, 1, .iload_n 3, []), (74, 2, .iload 4, []), (76, 3, .invokevirtual 313, [189, 1533, 2]), (79, 1, .i2l, []), (80, 1, .ladd, []), (81, 1, .lstore_n 1, []), (82, 3, .iinc 4 1, []), (85, 3, .goto (-25), [4])], 0),
 ([(88, 3, .iinc 3 1, []), (91, 3, .goto (-54), [3])], 0),
 ([(94, 1, .iconst 0, []), (95, 1, .istore_n 3, [])], 7),
 ([(96, 1, .iload_n 3, []), (97, 1, .aload_n 0, []), (98, 3, .getfield 62, [9, 25, 1179]), (101, 3, .if_icmp .ge 25, [8]), (104, 3, .ldc2_w 397, [31, 1705]), (107, 1, .lload_n 1, []), (108, 1, .lmul, []), (109, 1, .aload_n 0, []), (110, 3, .getfield 108, [9, 47, 1201]), (113, 1, .iconst 3, []), (114, 1, .iload_n 3, []), (115, 1, .imul, []), (116, 1, .iaload, []), (117, 1, .i2l, []), (118, 1, .ladd, []), (119, 1, .lstore_n 1, []), (120, 3, .iinc 3 1, []), (123, 3, .goto (-27), [7])], 0),
 ([(126, 3, .ldc2_w 397, [31, 1705]), (129, 1, .lload_n 1, []), (130, 1, .lmul, []), (131, 1, .aload_n 0, []), (132, 3, .invokevirtual 316, [180, 1561, 0]), (135, 1, .i2l, []), (136, 1, .ladd, []), (137, 1, .lstore_n 1, []), (138, 3, .ldc2_w 397, [31, 1705]), (141, 1, .lload_n 1, []), (142, 1, .lmul, []), (143, 1, .aload_n 0, []), (144, 3, .getfield 217, [9, 49, 1203]), (147, 1, .i2l, []), (148, 1, .ladd, []), (149, 1, .lstore_n 1, []), (150, 3, .ldc2_w 397, [31, 1705]), (153, 1, .lload_n 1, []), (154, 1, .lmul, []), (155, 1, .aload_n 0, []), (156, 3, .getfield 220, [9, 50, 1204]), (159, 1, .i2l, []), (160, 1, .ladd, []), (161, 1, .lreturn, [])], 0)]
def bk_226 : List Bk := [([(0, 1, .iload_n 0, []), (1, 1, .iload_n 0, []), (2, 1, .iconst 1, []), (3, 1, .iushr, []), (4, 3, .ldc_w 265, [1431655765, 0, 956]), (7, 1, .iand, []), (8, 1, .isub, []), (9, 1, .istore_n 0, []), (10, 1, .iload_n 0, []), (11, 3, .ldc_w 266, [858993459, 0, 957]), (14, 1, .iand, []), (15, 1, .iload_n 0, []), (16, 1, .iconst 2, []), (17, 1, .iushr, []), (18, 3, .ldc_w 266, [858993459, 0, 957]), (21, 1, .iand, []), (22, 1, .iadd, []), (23, 1, .istore_n 0, []), (24, 1, .iload_n 0, []), (25, 1, .iload_n 0, []), (26, 1, .iconst 4, []), (27, 1, .iushr, []), (28, 1, .iadd, []), (29, 3, .ldc_w 267, [252645135, 0, 958]), (32, 1, .iand, []), (33, 1, .istore_n 0, []), (34, 1, .iload_n 0, []), (35, 1, .iload_n 0, []), (36, 2, .bipush 8, []), (38, 1, .iushr, []), (39, 1, .iadd, []), (40, 1, .istore_n 0, []), (41, 1, .iload_n 0, []), (42, 1, .iload_n 0, []), (43, 2, .bipush 16, []), (45, 1, .iushr, []), (46, 1, .iadd, []), (47, 1, .istore_n 0, []), (48, 1, .iload_n 0, []), (49, 2, .bipush 63, []), (51, 1, .iand, []), (52, 1, .ireturn, [])], 0)]
def bk_227 : List Bk := [([(0, 3, .new 7, [8, 157]), (3, 1, .dup, []), (4, 3, .invokespecial 9, [93, 159, 0]), (7, 1, .astore_n 1, []), (8, 3, .new 10, [9, 1148]), (11, 1, .dup, []), (12, 3, .invokespecial 12, [136, 1150, 0]), (15, 1, .astore_n 2, []), (16, 1, .iconst 0, []), (17, 1, .istore_n 3, [])], 1),
 ([(18, 1, .iload_n 3, []), (19, 1, .aload_n 0, []), (20, 1, .arraylength, []), (21, 2, .bipush 6, []), (23, 1, .isub, []), (24, 3, .if_icmp .gt 1134, [38]), (27, 1, .aload_n 0, []), (28, 1, .iload_n 3, []), (29, 1, .iaload, []), (30, 2, .bipush 31, []), (32, 1, .iand, []), (33, 139, .tableswitch 1119 0 30 #[139, 172, 215, 248, 271, 294, 327, 370, 419, 452, 485, 518, 551, 584, 597, 620, 643, 666, 689, 722, 745, 788, 811, 834, 877, 900, 953, 996, 1059, 1082, 1105], [37, 2, 3, 4, 5, 6, 7, 8, 9, 14, 15, 16, 17, 18, 19, 20, 21, 22, 23, 24, 25, 26, 27, 28, 29, 30, 31, 32, 33, 34, 35, 36])], 0),
 ([(172, 1, .aload_n 1, []), (173, 1, .aload_n 0, []), (174, 1, .iload_n 3, []), (175, 1, .iconst 1, []), (176, 1, .iadd, []), (177, 1, .iaload, []), (178, 1, .aload_n 0, []), (179, 1, .iload_n 3, []), (180, 1, .iconst 2, []), (181, 1, .iadd, []), (182, 1, .iaload, []), (183, 3, .invokevirtual 13, [94, 597, 2]), (186, 1, .aload_n 2, []), (187, 1, .aload_n 0, []), (188, 1, .iload_n 3, []), (189, 1, .iconst 1, []), (190, 1, .iadd, []), (191, 1, .iaload, []), (192, 1, .aload_n 0, []), (193, 1, .iload_n 3, []), (194, 1, .iconst 2, []), (195, 1, .iadd, []), (196, 1, .iaload, []), (197, 3, .invokevirtual 17, [139, 1351, 2]), (200, 3, .if_icmp .eq 952, [37]), (203, 1, .iconst 0, []), (204, 1, .ireturn, [])], 0),
 ([(205, 1, .aload_n 1, []), (206, 1, .aload_n 0, []), (207, 1, .iload_n 3, []), (208, 1, .iconst 1, []), (209, 1, .iadd, []), (210, 1, .iaload, []), (211, 1, .aload_n 0, []), (212, 1, .iload_n 3, []), (213, 1, .iconst 2, []), (214, 1, .iadd, []), (215, 1, .iaload, []), (216, 1, .aload_n 0, []), (217, 1, .iload_n 3, []), (218, 1, .iconst 3, []), (219, 1, .iadd, []), (220, 1, .iaload, []), (221, 3, .invokevirtual 18, [95, 656, 3]), (224, 1, .aload_n 2, []), (225, 1, .aload_n 0, []), (226, 1, .iload_n 3, []), (227, 1, .iconst 1, []), (228, 1, .iadd, []), (229, 1, .iaload, []), (230, 1, .aload_n 0, []), (231, 1, .iload_n 3, []), (232, 1, .iconst 2, []), (233, 1, .iadd, []), (234, 1, .iaload, []), (235, 1, .aload_n 0, []), (236, 1, .iload_n 3, []), (237, 1, .iconst 3, []), (238, 1, .iadd, []), (239, 1, .iaload, []), (240, 3, .invokevirtual 22, [140, 1362, 3]), (243, 3, .if_icmp .eq 909, [37]), (246, 1, .iconst 0, []), (247, 1, .ireturn, [])], 0),
 ([(248, 1, .aload_n 1, []), (249, 1, .aload_n 0, []), (250, 1, .iload_n 3, []), (251, 1, .iconst 1, []), (252, 1, .iadd, []), (253, 1, .iaload, []), (254, 1, .aload_n 0, []), (255, 1, .iload_n 3, []), (256, 1, .iconst 2, []), (257, 1, .iadd, []), (258, 1, .iaload, []), (259, 3, .invokevirtual 23, [96, 664, 2]), (262, 1, .aload_n 2, []), (263, 1, .aload_n 0, []), (264, 1, .iload_n 3, []), (265, 1, .iconst 1, []), (266, 1, .iadd, []), (267, 1, .iaload, []), (268, 1, .aload_n 0, []), (269, 1, .iload_n 3, []), (270, 1, .iconst 2, []), (271, 1, .iadd, []), (272, 1, .iaload, []), (273, 3, .invokevirtual 26, [143, 1366, 2]), (276, 3, .if_icmp .eq 876, [37]), (279, 1, .iconst 0, []), (280, 1, .ireturn, [])], 0),
 ([(281, 1, .aload_n 1, []), (282, 1, .aload_n 0, []), (283, 1, .iload_n 3, []), (284, 1, .iconst 1, []), (285, 1, .iadd, []), (286, 1, .iaload, []), (287, 3, .invokevirtual 27, [97, 675, 1]), (290, 1, .aload_n 2, []), (291, 1, .aload_n 0, []), (292, 1, .iload_n 3, []), (293, 1, .iconst 1, []), (294, 1, .iadd, []), (295, 1, .iaload, []), (296, 3, .invokevirtual 31, [144, 1373, 1]), (299, 3, .if_icmp .eq 853, [37]), (302, 1, .iconst 0, []), (303, 1, .ireturn, [])], 0),
 ([(304, 1, .aload_n 1, []), (305, 1, .aload_n 0, []), (306, 1, .iload_n 3, []), (307, 1, .iconst 1, []), (308, 1, .iadd, []), (309, 1, .iaload, []), (310, 3, .invokevirtual 32, [98, 679, 1]), (313, 1, .aload_n 2, []), (314, 1, .aload_n 0, []), (315, 1, .iload_n 3, []), (316, 1, .iconst 1, []), (317, 1, .iadd, []), (318, 1, .iaload, []), (319, 3, .invokevirtual 35, [153, 1377, 1]), (322, 3, .if_icmp .eq 830, [37]), (325, 1, .iconst 0, []), (326, 1, .ireturn, [])], 0),
 ([(327, 1, .aload_n 1, []), (328, 1, .aload_n 0, []), (329, 1, .iload_n 3, []), (330, 1, .iconst 1, []), (331, 1, .iadd, []), (332, 1, .iaload, []), (333, 1, .aload_n 0, []), (334, 1, .iload_n 3, []), (335, 1, .iconst 2, []), (336, 1, .iadd, []), (337, 1, .iaload, []), (338, 3, .invokevirtual 36, [99, 683, 2]), (341, 1, .aload_n 2, []), (342, 1, .aload_n 0, []), (343, 1, .iload_n 3, []), (344, 1, .iconst 1, []), (345, 1, .iadd, []), (346, 1, .iaload, []), (347, 1, .aload_n 0, []), (348, 1, .iload_n 3, []), (349, 1, .iconst 2, []), (350, 1, .iadd, []), (351, 1, .iaload, []), (352, 3, .invokevirtual 39, [155, 1413, 2]), (355, 3, .if_icmp .eq 797, [37]), (358, 1, .iconst 0, []), (359, 1, .ireturn, [])], 0),
 ([(360, 1, .aload_n 1, []), (361, 1, .aload_n 0, []), (362, 1, .iload_n 3, []), (363, 1, .iconst 1, []), (364, 1, .iadd, []), (365, 1, .iaload, []), (366, 1, .aload_n 0, []), (367, 1, .iload_n 3, []), (368, 1, .iconst 2, []), (369, 1, .iadd, []), (370, 1, .iaload, []), (371, 1, .aload_n 0, []), (372, 1, .iload_n 3, []), (373, 1, .iconst 3, []), (374, 1, .iadd, []), (375, 1, .iaload, []), (376, 3, .invokevirtual 40, [100, 691, 3]), (379, 1, .aload_n 2, []), (380, 1, .aload_n 0, []), (381, 1, .iload_n 3, []), (382, 1, .iconst 1, []), (383, 1, .iadd, []), (384, 1, .iaload, []), (385, 1, .aload_n 0, []), (386, 1, .iload_n 3, []), (387, 1, .iconst 2, []), (388, 1, .iadd, []), (389, 1, .iaload, []), (390, 1, .aload_n 0, []), (391, 1, .iload_n 3, []), (392, 1, .iconst 3, []), (393, 1, .iadd, []), (394, 1, .iaload, []), (395, 3, .invokevirtual 43, [156, 1421, 3]), (398, 3, .if_icmp .eq 754, [37]), (401, 1, .iconst 0, []), (402, 1, .ireturn, [])], 0),
 ([(403, 1, .aload_n 1, []), (404, 1, .aload_n 0, []), (405, 1, .iload_n 3, []), (406, 1, .iconst 1, []), (407, 1, .iadd, []), (408, 1, .iaload, []), (409, 1, .aload_n 0, []), (410, 1, .iload_n 3, []), (411, 1, .iconst 2, []), (412, 1, .iadd, []), (413, 1, .iaload, []), (414, 3, .ifCond .eq 7, [10]), (417, 1, .iconst 1, []), (418, 3, .goto 4, [11])], 0),
 ([(421, 1, .iconst 0, [])], 11),
 ([(422, 3, .invokevirtual 44, [101, 695, 2]), (425, 1, .aload_n 2, []), (426, 1, .aload_n 0, []), (427, 1, .iload_n 3, []), (428, 1, .iconst 1, []), (429, 1, .iadd, []), (430, 1, .iaload, []), (431, 1, .aload_n 0, []), (432, 1, .iload_n 3, []), (433, 1, .iconst 2, []), (434, 1, .iadd, []), (435, 1, .iaload, []), (436, 3, .ifCond .eq 7, [12]), (439, 1, .iconst 1, []), (440, 3, .goto 4, [13])], 0),
 ([(443, 1, .iconst 0, [])], 13),
 ([(444, 3, .invokevirtual 48, [157, 1425, 2]), (447, 3, .if_icmp .eq 705, [37]), (450, 1, .iconst 0, []), (451, 1, .ireturn, [])], 0),
 ([(452, 1, .aload_n 1, []), (453, 1, .aload_n 0, []), (454, 1, .iload_n 3, []), (455, 1, .iconst 1, []), (456, 1, .iadd, []), (457, 1, .iaload, []), (458, 1, .aload_n 0, []), (459, 1, .iload_n 3, []), (460, 1, .iconst 2, []), (461, 1, .iadd, []), (462, 1, .iaload, []), (463, 3, .invokevirtual 49, [102, 699, 2]), (466, 1, .aload_n 2, []), (467, 1, .aload_n 0, []), (468, 1, .iload_n 3, []), (469, 1, .iconst 1, []), (470, 1, .iadd, []), (471, 1, .iaload, []), (472, 1, .aload_n 0, []), (473, 1, .iload_n 3, []), (474, 1, .iconst 2, []), (475, 1, .iadd, []), (476, 1, .iaload, []), (477, 3, .invokevirtual 52, [158, 1429, 2]), (480, 3, .if_icmp .eq 672, [37]), (483, 1, .iconst 0, []), (484, 1, .ireturn, [])], 0),
 ([(485, 1, .aload_n 1, []), (486, 1, .aload_n 0, []), (487, 1, .iload_n 3, []), (488, 1, .iconst 1, []), (489, 1, .iadd, []), (490, 1, .iaload, []), (491, 1, .aload_n 0, []), (492, 1, .iload_n 3, []), (493, 1, .iconst 2, []), (494, 1, .iadd, []), (495, 1, .iaload, []), (496, 3, .invokevirtual 53, [103, 717, 2]), (499, 1, .aload_n 2, []), (500, 1, .aload_n 0, []), (501, 1, .iload_n 3, []), (502, 1, .iconst 1, []), (503, 1, .iadd, []), (504, 1, .iaload, []), (505, 1, .aload_n 0, []), (506, 1, .iload_n 3, []), (507, 1, .iconst 2, []), (508, 1, .iadd, []), (509, 1, .iaload, []), (510, 3, .invokevirtual 56, [182, 1433, 2]), (513, 3, .if_icmp .eq 639, [37]), (516, 1, .iconst 0, []), (517, 1, .ireturn, [])], 0),
 ([(518, 1, .aload_n 1, []), (519, 1, .aload_n 0, []), (520, 1, .iload_n 3, []), (521, 1, .iconst 1, []), (522, 1, .iadd, []), (523, 1, .iaload, []), (524, 1, .aload_n 0, []), (525, 1, .iload_n 3, []), (526, 1, .iconst 2, []), (527, 1, .iadd, []), (528, 1, .iaload, []), (529, 3, .invokevirtual 57, [104, 840, 2]), (532, 1, .aload_n 2, []), (533, 1, .aload_n 0, []), (534, 1, .iload_n 3, []), (535, 1, .iconst 1, []), (536, 1, .iadd, []), (537, 1, .iaload, []), (538, 1, .aload_n 0, []), (539, 1, .iload_n 3, []), (540, 1, .iconst 2, []), (541, 1, .iadd, []), (542, 1, .iaload, []), (543, 3, .invokevirtual 60, [183, 1521, 2]), (546, 3, .if_icmp .eq 606, [37]), (549, 1, .iconst 0, []), (550, 1, .ireturn, [])], 0),
 ([(551, 1, .aload_n 1, []), (552, 1, .aload_n 0, []), (553, 1, .iload_n 3, []), (554, 1, .iconst 1, []), (555, 1, .iadd, []), (556, 1, .iaload, []), (557, 1, .aload_n 0, []), (558, 1, .iload_n 3, []), (559, 1, .iconst 2, []), (560, 1, .iadd, []), (561, 1, .iaload, []), (562, 3, .invokevirtual 61, [105, 848, 2]), (565, 1, .aload_n 2, []), (566, 1, .aload_n 0, []), (567, 1, .iload_n 3, []), (568, 1, .iconst 1, []), (569, 1, .iadd, []), (570, 1, .iaload, []), (571, 1, .aload_n 0, []), (572, 1, .iload_n 3, []), (573, 1, .iconst 2, []), (574, 1, .iadd, []), (575, 1, .iaload, []), (576, 3, .invokevirtual 64, [184, 1525, 2]), (579, 3, .if_icmp .eq 573, [37]), (582, 1, .iconst 0, []), (583, 1, .ireturn, [])], 0),
 ([(584, 1, .aload_n 1, []), (585, 1, .aload_n 0, []), (586, 1, .iload_n 3, []), (587, 1, .iconst 1, []), (588, 1, .iadd, []), (589, 1, .iaload, []), (590, 1, .aload_n 0, []), (591, 1, .iload_n 3, []), (592, 1, .iconst 2, []), (593, 1, .iadd, []), (594, 1, .iaload, []), (595, 3, .invokevirtual 65, [106, 856, 2]), (598, 1, .aload_n 2, []), (599, 1, .aload_n 0, []), (600, 1, .iload_n 3, []), (601, 1, .iconst 1, []), (602, 1, .iadd, []), (603, 1, .iaload, []), (604, 1, .aload_n 0, []), (605, 1, .iload_n 3, []), (606, 1, .iconst 2, []), (607, 1, .iadd, []), (608, 1, .iaload, []), (609, 3, .invokevirtual 68, [190, 1529, 2]), (612, 3, .if_icmp .eq 540, [37]), (615, 1, .iconst 0, []), (616, 1, .ireturn, [])], 0),
 ([(617, 1, .aload_n 1, []), (618, 3, .invokevirtual 69, [107, 893, 0]), (621, 1, .aload_n 2, []), (622, 3, .invokevirtual 73, [191, 1557, 0]), (625, 3, .if_icmp .eq 527, [37]), (628, 1, .iconst 0, []), (629, 1, .ireturn, [])], 0),
 ([(630, 1, .aload_n 1, []), (631, 1, .aload_n 0, []), (632, 1, .iload_n 3, []), (633, 1, .iconst 1, []), (634, 1, .iadd, []), (635, 1, .iaload, []), (636, 3, .invokevirtual 74, [108, 897, 1]), (639, 1, .aload_n 2, []), (640, 1, .aload_n 0, []), (641, 1, .iload_n 3, []), (642, 1, .iconst 1, []), (643, 1, .iadd, []), (644, 1, .iaload, []), (645, 3, .invokevirtual 77, [192, 1565, 1]), (648, 3, .if_icmp .eq 504, [37]), (651, 1, .iconst 0, []), (652, 1, .ireturn, [])], 0),
 ([(653, 1, .aload_n 1, []), (654, 1, .aload_n 0, []), (655, 1, .iload_n 3, []), (656, 1, .iconst 1, []), (657, 1, .iadd, []), (658, 1, .iaload, []), (659, 3, .invokevirtual 78, [109, 901, 1]), (662, 1, .aload_n 2, []), (663, 1, .aload_n 0, []), (664, 1, .iload_n 3, []), (665, 1, .iconst 1, []), (666, 1, .iadd, []), (667, 1, .iaload, []), (668, 3, .invokevirtual 81, [199, 1569, 1]), (671, 3, .if_icmp .eq 481, [37]), (674, 1, .iconst 0, []), (675, 1, .ireturn, [])], 0),
 ([(676, 1, .aload_n 1, []), (677, 1, .aload_n 0, []), (678, 1, .iload_n 3, []), (679, 1, .iconst 1, []), (680, 1, .iadd, []), (681, 1, .iaload, []), (682, 3, .invokevirtual 82, [110, 944, 1]), (685, 1, .aload_n 2, []), (686, 1, .aload_n 0, []), (687, 1, .iload_n 3, []), (688, 1, .iconst 1, []), (689, 1, .iadd, []), (690, 1, .iaload, []), (691, 3, .invokevirtual 85, [200, 1597, 1]), (694, 3, .if_icmp .eq 458, [37]), (697, 1, .iconst 0, []), (698, 1, .ireturn, [])], 0),
 ([(699, 1, .aload_n 1, []), (700, 1, .aload_n 0, []), (701, 1, .iload_n 3, []), (702, 1, .iconst 1, []), (703, 1, .iadd, []), (704, 1, .iaload, []), (705, 3, .invokevirtual 86, [111, 949, 1]), (708, 1, .aload_n 2, []), (709, 1, .aload_n 0, []), (710, 1, .iload_n 3, []), (711, 1, .iconst 1, []), (712, 1, .iadd, []), (713, 1, .iaload, []), (714, 3, .invokevirtual 89, [204, 1601, 1]), (717, 3, .if_icmp .eq 435, [37]), (720, 1, .iconst 0, []), (721, 1, .ireturn, [])], 0),
 ([(722, 1, .aload_n 1, []), (723, 1, .aload_n 0, []), (724, 1, .iload_n 3, []), (725, 1, .iconst 1, []), (726, 1, .iadd, []), (727, 1, .iaload, []), (728, 1, .aload_n 0, []), (729, 1, .iload_n 3, []), (730, 1, .iconst 2, []), (731, 1, .iadd, []), (732, 1, .iaload, []), (733, 3, .invokevirtual 90, [112, 994, 2]), (736, 1, .aload_n 2, []), (737, 1, .aload_n 0, []), (738, 1, .iload_n 3, []), (739, 1, .iconst 1, []), (740, 1, .iadd, []), (741, 1, .iaload, []), (742, 1, .aload_n 0, []), (743, 1, .iload_n 3, []), (744, 1, .iconst 2, []), (745, 1, .iadd, []), (746, 1, .iaload, []), (747, 3, .invokevirtual 93, [205, 1620, 2]), (750, 3, .if_icmp .eq 402, [37]), (753, 1, .iconst 0, []), (754, 1, .ireturn, [])], 0),
 ([(755, 1, .aload_n 1, []), (756, 1, .aload_n 0, []), (757, 1, .iload_n 3, []), (758, 1, .iconst 1, []), (759, 1, .iadd, []), (760, 1, .iaload, []), (761, 3, .invokevirtual 94, [113, 1003, 1]), (764, 1, .aload_n 2, []), (765, 1, .aload_n 0, []), (766, 1, .iload_n 3, []), (767, 1, .iconst 1, []), (768, 1, .iadd, []), (769, 1, .iaload, []), (770, 3, .invokevirtual 97, [207, 1624, 1]), (773, 3, .if_icmp .eq 379, [37]), (776, 1, .iconst 0, []), (777, 1, .ireturn, [])], 0),
 ([(778, 1, .aload_n 1, []), (779, 1, .aload_n 0, []), (780, 1, .iload_n 3, []), (781, 1, .iconst 1, []), (782, 1, .iadd, []), (783, 1, .iaload, []), (784, 1, .aload_n 0, []), (785, 1, .iload_n 3, []), (786, 1, .iconst 2, []), (787, 1, .iadd, []), (788, 1, .iaload, []), (789, 1, .aload_n 0, []), (790, 1, .iload_n 3, []), (791, 1, .iconst 3, []), (792, 1, .iadd, []), (793, 1, .iaload, []), (794, 3, .invokevirtual 98, [114, 1016, 3]), (797, 1, .aload_n 2, []), (798, 1, .aload_n 0, []), (799, 1, .iload_n 3, []), (800, 1, .iconst 1, []), (801, 1, .iadd, []), (802, 1, .iaload, []), (803, 1, .aload_n 0, []), (804, 1, .iload_n 3, []), (805, 1, .iconst 2, []), (806, 1, .iadd, []), (807, 1, .iaload, []), (808, 1, .aload_n 0, []), (809, 1, .iload_n 3, []), (810, 1, .iconst 3, []), (811, 1, .iadd, []), (812, 1, .iaload, []), (813, 3, .invokevirtual 101, [208, 1632, 3]), (816, 3, .if_icmp .eq 336, [37]), (819, 1, .iconst 0, []), (820, 1, .ireturn, [])], 0),
 ([(821, 1, .aload_n 1, []), (822, 1, .aload_n 0, []), (823, 1, .iload_n 3, []), (824, 1, .iconst 1, []), (825, 1, .iadd, []), (826, 1, .iaload, []), (827, 3, .invokevirtual 102, [115, 1030, 1]), (830, 1, .aload_n 2, []), (831, 1, .aload_n 0, []), (832, 1, .iload_n 3, []), (833, 1, .iconst 1, []), (834, 1, .iadd, []), (835, 1, .iaload, []), (836, 3, .invokevirtual 105, [209, 1636, 1]), (839, 3, .if_icmp .eq 313, [37]), (842, 1, .iconst 0, []), (843, 1, .ireturn, [])], 0),
 ([(844, 1, .aload_n 1, []), (845, 1, .aload_n 0, []), (846, 1, .iload_n 3, []), (847, 1, .iconst 1, []), (848, 1, .iadd, []), (849, 1, .iaload, []), (850, 3, .invokevirtual 106, [116, 1055, 1]), (853, 1, .aload_n 2, []), (854, 1, .aload_n 0, []), (855, 1, .iload_n 3, []), (856, 1, .iconst 1, []), (857, 1, .iadd, []), (858, 1, .iaload, []), (859, 3, .invokevirtual 109, [213, 1647, 1]), (862, 3, .if_icmp .eq 290, [37]), (865, 1, .iconst 0, []), (866, 1, .ireturn, [])], 0),
 ([(867, 1, .aload_n 1, []), (868, 1, .aload_n 0, []), (869, 1, .iload_n 3, []), (870, 1, .iconst 1, []), (871, 1, .iadd, []), (872, 1, .iaload, []), (873, 1, .aload_n 0, []), (874, 1, .iload_n 3, []), (875, 1, .iconst 2, []), (876, 1, .iadd, []), (877, 1, .iaload, []), (878, 1, .aload_n 0, []), (879, 1, .iload_n 3, []), (880, 1, .iconst 3, []), (881, 1, .iadd, []), (882, 1, .iaload, []), (883, 3, .invokevirtual 110, [117, 1079, 3]), (886, 1, .aload_n 2, []), (887, 1, .aload_n 0, []), (888, 1, .iload_n 3, []), (889, 1, .iconst 1, []), (890, 1, .iadd, []), (891, 1, .iaload, []), (892, 1, .aload_n 0, []), (893, 1, .iload_n 3, []), (894, 1, .iconst 2, []), (895, 1, .iadd, []), (896, 1, .iaload, []), (897, 1, .aload_n 0, []), (898, 1, .iload_n 3, []), (899, 1, .iconst 3, []), (900, 1, .iadd, []), (901, 1, .iaload, []), (902, 3, .invokevirtual 113, [216, 1663, 3]), (905, 3, .if_icmp .eq 247, [37]), (908, 1, .iconst 0, []), (909, 1, .ireturn, [])], 0),
 ([(910, 1, .aload_n 1, []), (911, 1, .aload_n 0, []), (912, 1, .iload_n 3, []), (913, 1, .iconst 1, []), (914, 1, .iadd, []), (915, 1, .iaload, []), (916, 3, .invokevirtual 114, [118, 1090, 1]), (919, 1, .aload_n 2, []), (920, 1, .aload_n 0, []), (921, 1, .iload_n 3, []), (922, 1, .iconst 1, []), (923, 1, .iadd, []), (924, 1, .iaload, []), (925, 3, .invokevirtual 117, [217, 1667, 1]), (928, 3, .if_icmp .eq 224, [37]), (931, 1, .iconst 0, []), (932, 1, .ireturn, [])], 0),
 ([(933, 1, .aload_n 1, []), (934, 1, .aload_n 0, []), (935, 1, .iload_n 3, []), (936, 1, .iconst 1, []), (937, 1, .iadd, []), (938, 1, .iaload, []), (939, 1, .aload_n 0, []), (940, 1, .iload_n 3, []), (941, 1, .iconst 2, []), (942, 1, .iadd, []), (943, 1, .iaload, []), (944, 1, .aload_n 0, []), (945, 1, .iload_n 3, []), (946, 1, .iconst 3, []), (947, 1, .iadd, []), (948, 1, .iaload, []), (949, 1, .aload_n 0, []), (950, 1, .iload_n 3, []), (951, 1, .iconst 4, []), (952, 1, .iadd, []), (953, 1, .iaload, []), (954, 3, .invokevirtual 118, [119, 1094, 4]), (957, 1, .aload_n 2, []), (958, 1, .aload_n 0, []), (959, 1, .iload_n 3, []), (960, 1, .iconst 1, []), (961, 1, .iadd, []), (962, 1, .iaload, []), (963, 1, .aload_n 0, []), (964, 1, .iload_n 3, []), (965, 1, .iconst 2, []), (966, 1, .iadd, []), (967, 1, .iaload, []), (968, 1, .aload_n 0, []), (969, 1, .iload_n 3, []), (970, 1, .iconst 3, []), (971, 1, .iadd, []), (972, 1, .iaload, []), (973, 1, .aload_n 0, []), (974, 1, .iload_n 3, []), (975, 1, .iconst 4, []), (976, 1, .iadd, []), (977, 1, .iaload, []), (978, 3, .invokevirtual 122, [220, 1671, 4]), (981, 3, .if_icmp .eq 171, [37]), (984, 1, .iconst 0, []), (985, 1, .ireturn, [])], 0),
 ([(986, 1, .aload_n 1, []), (987, 1, .aload_n 0, []), (988, 1, .iload_n 3, []), (989, 1, .iconst 1, []), (990, 1, .iadd, []), (991, 1, .iaload, []), (992, 1, .aload_n 0, []), (993, 1, .iload_n 3, []), (994, 1, .iconst 2, []), (995, 1, .iadd, []), (996, 1, .iaload, []), (997, 1, .aload_n 0, []), (998, 1, .iload_n 3, []), (999, 1, .iconst 3, []), (1000, 1, .iadd, []), (1001, 1, .iaload, []), (1002, 3, .invokevirtual 123, [120, 1106, 3]), (1005, 1, .aload_n 2, []), (1006, 1, .aload_n 0, []), (1007, 1, .iload_n 3, []), (1008, 1, .iconst 1, []), (1009, 1, .iadd, []), (1010, 1, .iaload, []), (1011, 1, .aload_n 0, []), (1012, 1, .iload_n 3, []), (1013, 1, .iconst 2, []), (1014, 1, .iadd, []), (1015, 1, .iaload, []), (1016, 1, .aload_n 0, []), (1017, 1, .iload_n 3, []), (1018, 1, .iconst 3, []), (1019, 1, .iadd, []), (1020, 1, .iaload, []), (1021, 3, .invokevirtual 126, [221, 1683, 3]), (1024, 3, .if_icmp .eq 128, [37]), (1027, 1, .iconst 0, []), (1028, 1, .ireturn, [])], 0),
 ([(1029, 1, .aload_n 1, []), (1030, 1, .aload_n 0, []), (1031, 1, .iload_n 3, []), (1032, 1, .iconst 1, []), (1033, 1, .iadd, []), (1034, 1, .iaload, []), (1035, 1, .aload_n 0, []), (1036, 1, .iload_n 3, []), (1037, 1, .iconst 2, []), (1038, 1, .iadd, []), (1039, 1, .iaload, []), (1040, 1, .aload_n 0, []), (1041, 1, .iload_n 3, []), (1042, 1, .iconst 3, []), (1043, 1, .iadd, []), (1044, 1, .iaload, []), (1045, 1, .aload_n 0, []), (1046, 1, .iload_n 3, []), (1047, 1, .iconst 4, []), (1048, 1, .iadd, []), (1049, 1, .iaload, []), (1050, 1, .aload_n 0, []), (1051, 1, .iload_n 3, []), (1052, 1, .iconst 5, []), (1053, 1, .iadd, []), (1054, 1, .iaload, []), (1055, 3, .invokevirtual 127, [121, 1112, 5]), (1058, 1, .aload_n 2, []), (1059, 1, .aload_n 0, []), (1060, 1, .iload_n 3, []), (1061, 1, .iconst 1, []), (1062, 1, .iadd, []), (1063, 1, .iaload, []), (1064, 1, .aload_n 0, []), (1065, 1, .iload_n 3, []), (1066, 1, .iconst 2, []), (1067, 1, .iadd, []), (1068, 1, .iaload, []), (1069, 1, .aload_n 0, []), (1070, 1, .iload_n 3, []), (1071, 1, .iconst 3, []), (1072, 1, .iadd, []), (1073, 1, .iaload, []), (1074, 1, .aload_n 0, []), (1075, 1, .iload_n 3, []), (1076, 1, .iconst 4, []), (1077, 1, .iadd, []), (1078, 1, .iaload, []), (1079, 1, .aload_n 0, []), (1080, 1, .iload_n 3, []), (1081, 1, .iconst 5, []), (1082, 1, .iadd, []), (1083, 1, .iaload, []), (1084, 3, .invokevirtual 131, [222, 1688, 5]), (1087, 3, .if_icmp .eq 65, [37]), (1090, 1, .iconst 0, []), (1091, 1, .ireturn, [])], 0),
 ([(1092, 1, .aload_n 1, []), (1093, 1, .aload_n 0, []), (1094, 1, .iload_n 3, []), (1095, 1, .iconst 1, []), (1096, 1, .iadd, []), (1097, 1, .iaload, []), (1098, 3, .invokevirtual 132, [122, 1123, 1]), (1101, 1, .aload_n 2, []), (1102, 1, .aload_n 0, []), (1103, 1, .iload_n 3, []), (1104, 1, .iconst 1, []), (1105, 1, .iadd, []), (1106, 1, .iaload, []), (1107, 3, .invokevirtual 135, [223, 1692, 1]), (1110, 3, .if_icmp .eq 42, [37]), (1113, 1, .iconst 0, []), (1114, 1, .ireturn, [])], 0),
 ([(1115, 1, .aload_n 1, []), (1116, 1, .aload_n 0, []), (1117, 1, .iload_n 3, []), (1118, 1, .iconst 1, []), (1119, 1, .iadd, []), (1120, 1, .iaload, []), (1121, 3, .invokevirtual 136, [123, 1128, 1]), (1124, 1, .aload_n 2, []), (1125, 1, .aload_n 0, []), (1126, 1, .iload_n 3, []), (1127, 1, .iconst 1, []), (1128, 1, .iadd, []), (1129, 1, .iaload, []), (1130, 3, .invokevirtual 139, [224, 1696, 1]), (1133, 3, .if_icmp .eq 19, [37]), (1136, 1, .iconst 0, []), (1137, 1, .ireturn, [])], 0),
 ([(1138, 1, .aload_n 1, []), (1139, 3, .invokevirtual 140, [124, 1136, 0]), (1142, 1, .aload_n 2, []), (1143, 3, .invokevirtual 144, [225, 1700, 0]), (1146, 1, .lcmp, []), (1147, 3, .ifCond .eq 5, [37]), (1150, 1, .iconst 0, []), (1151, 1, .ireturn, [])], 0),
 ([(1152, 3, .iinc 3 6, []), (1155, 3, .goto (-1137), [1])], 0),
 ([(1158, 1, .iconst 1, []), (1159, 1, .ireturn, [])], 0)]
def bkT : List (List Bk) := [bk_0, bk_1, bk_2, bk_3, bk_4, bk_5, bk_6, bk_7, bk_8, bk_9, bk_10, bk_11, bk_12, bk_13, bk_14, bk_15, bk_16, bk_17, bk_18, bk_19, bk_20, bk_21, bk_22, bk_23, bk_24, bk_25, bk_26, bk_27, bk_28, bk_29, bk_30, bk_31, bk_32, bk_33, bk_34, bk_35, bk_36, bk_37, bk_38, bk_39, bk_40, bk_41, bk_42, bk_43, bk_44, bk_45, bk_46, bk_47, bk_48, bk_49, bk_50, bk_51, bk_52, bk_53, bk_54, bk_55, bk_56, bk_57, bk_58, bk_59, bk_60, bk_61, bk_62, bk_63, bk_64, bk_65, bk_66, bk_67, bk_68, bk_69, bk_70, bk_71, bk_72, bk_73, bk_74, bk_75, bk_76, bk_77, bk_78, bk_79, bk_80, bk_81, bk_82, bk_83, bk_84, bk_85, bk_86, bk_87, bk_88, bk_89, bk_90, bk_91, bk_92, bk_93, bk_94, bk_95, bk_96, bk_97, bk_98, bk_99, bk_100, bk_101, bk_102, bk_103, bk_104, bk_105, bk_106, bk_107, bk_108, bk_109, bk_110, bk_111, bk_112, bk_113, bk_114, bk_115, bk_116, bk_117, bk_118, bk_119, bk_120, bk_121, bk_122, bk_123, bk_124, bk_125, bk_126, bk_127, bk_128, bk_129, bk_130, bk_131, bk_132, bk_133, bk_134, bk_135, bk_136, bk_137, bk_138, bk_139, bk_140, bk_141, bk_142, bk_143, bk_144, bk_145, bk_146, bk_147, bk_148, bk_149, bk_150, bk_151, bk_152, bk_153, bk_154, bk_155, bk_156, bk_157, bk_158, bk_159, bk_160, bk_161, bk_162, bk_163, bk_164, bk_165, bk_166, bk_167, bk_168, bk_169, bk_170, bk_171, bk_172, bk_173, bk_174, bk_175, bk_176, bk_177, bk_178, bk_179, bk_180, bk_181, bk_182, bk_183, bk_184, bk_185, bk_186, bk_187, bk_188, bk_189, bk_190, bk_191, bk_192, bk_193, bk_194, bk_195, bk_196, bk_197, bk_198, bk_199, bk_200, bk_201, bk_202, bk_203, bk_204, bk_205, bk_206, bk_207, bk_208, bk_209, bk_210, bk_211, bk_212, bk_213, bk_214, bk_215, bk_216, bk_217, bk_218, bk_219, bk_220, bk_221, bk_222, bk_223, bk_224, bk_225, bk_226, bk_227]
/-- name, code, locals, answer, own class, frames, words of locals, number of the class, places of its words -/
def mtT_0 : List Mt := [(yX0_init, cX0_init, 2, none, RX0, 1, 21, 0, [375, 374, 0, 151]),
 (yX0_begin, cX0_begin, 3, none, RX0, 0, 0, 0, [743, 742, 21, 151]),
 (yX0_comingOf, cX0_comingOf, 2, (some .int), RX0, 0, 0, 0, [759, 758, 25, 151]),
 (yX0_dueOf, cX0_dueOf, 2, (some .int), RX0, 0, 0, 0, [763, 762, 26, 151]),
 (yX0_meetJobs, cX0_meetJobs, 2, none, RX0, 1, 21, 0, [755, 754, 24, 151]),
 (yX0_setKey, cX0_setKey, 2, none, RX0, 0, 0, 0, [767, 766, 27, 151]),
 (yX0_worksOn, cX0_worksOn, 3, (some .boolean), RX0, 1, 21, 0, [829, 828, 42, 151]),
 (yX0_endJob, cX0_endJob, 2, none, RX0, 0, 0, 0, [812, 811, 38, 151]),
 (yX0_doneOf, cX0_doneOf, 2, (some .int), RX0, 0, 0, 0, [855, 854, 46, 151]),
 (yX0_doneJobs, cX0_doneJobs, 3, (some .int), RX0, 1, 21, 0, [863, 862, 47, 151]),
 (yX0_lateJobs, cX0_lateJobs, 5, (some .int), RX0, 1, 21, 0, [868, 867, 48, 151]),
 (yX0_longestResponse, cX0_longestResponse, 4, (some .int), RX0, 1, 21, 0, [872, 871, 49, 151]),
 (yX0_isBehind, cX0_isBehind, 3, (some .boolean), RX0, 1, 21, 0, [835, 834, 43, 151]),
 (yX1_init, cX1_init, 1, none, RX1, 1, 21, 1, [266, 265, 0, 147]),
 (yX1_append, cX1_append, 2, none, RX1, 0, 0, 1, [674, 673, 13, 147]),
 (yX1_read, cX1_read, 3, none, RX1, 3, 69, 1, [612, 611, 2, 147]),
 (yX1_clearSteps, cX1_clearSteps, 1, none, RX1, 0, 0, 1, [616, 615, 3, 147]),
 (yX1_byteAt, cX1_byteAt, 2, (some .int), RX1, 0, 0, 1, [628, 627, 6, 147]),
 (yX1_figureAt, cX1_figureAt, 3, (some .int), RX1, 1, 21, 1, [632, 631, 7, 147]),
 (yX1_pass, cX1_pass, 2, none, RX1, 1, 21, 1, [624, 623, 5, 147]),
 (yX1_readNumber, cX1_readNumber, 7, (some .int), RX1, 2, 43, 1, [620, 619, 4, 147]),
 (yX1_readStep, cX1_readStep, 4, none, RX1, 2, 43, 1, [636, 635, 8, 147]),
 (yX1_kindOfSign, cX1_kindOfSign, 1, (some .int), RX1, 0, 0, 1, [639, 638, 0, 147]),
 (yX1_mayBe, cX1_mayBe, 5, (some .boolean), RX1, 0, 0, 1, [643, 642, 9, 147]),
 (yX1_keepStep, cX1_keepStep, 3, none, RX1, 0, 0, 1, [647, 646, 10, 147]),
 (yX1_kindAt, cX1_kindAt, 2, (some .int), RX1, 0, 0, 1, [788, 787, 32, 147]),
 (yX1_figureOfStep, cX1_figureOfStep, 2, (some .int), RX1, 0, 0, 1, [792, 791, 33, 147]),
 (yX1_longestHold, cX1_longestHold, 4, (some .int), RX1, 2, 46, 1, [931, 930, 59, 147]),
 (yX1_workHolding, cX1_workHolding, 6, (some .int), RX1, 1, 21, 1, [937, 936, 60, 147]),
 (yX2_init, cX2_init, 4, none, RX2, 1, 21, 2, [352, 351, 0, 149]),
 (yX2_canReckon, cX2_canReckon, 2, (some .boolean), RX2, 1, 21, 2, [908, 907, 54, 149]),
 (yX2_planOf, cX2_planOf, 2, (some (.object "OneKnife$Plan")), RX2, 1, 20, 2, [917, 916, 56, 149]),
 (yX2_heldOf, cX2_heldOf, 5, (some .int), RX2, 3, 69, 2, [922, 921, 57, 149]),
 (yX2_boundOf, cX2_boundOf, 6, (some .int), RX2, 4, 93, 2, [913, 912, 55, 149]),
 (yX2_workAhead, cX2_workAhead, 6, (some .int), RX2, 3, 64, 2, [943, 942, 61, 149]),
 (yX3_init, cX3_init, 4, none, RX3, 2, 42, 3, [368, 367, 0, 150]),
 (yX3_go, cX3_go, 5, none, RX3, 3, 77, 3, [732, 731, 19, 150]),
 (yX3_begin, cX3_begin, 5, none, RX3, 1, 22, 3, [736, 735, 20, 150]),
 (yX3_bar, cX3_bar, 3, none, RX3, 0, 0, 3, [747, 746, 22, 150]),
 (yX3_meetJobs, cX3_meetJobs, 4, none, RX3, 2, 42, 3, [751, 750, 23, 150])]
def mtT_1 : List Mt := [(yX3_choose, cX3_choose, 5, none, RX3, 2, 53, 3, [771, 770, 28, 150]),
 (yX3_next, cX3_next, 9, (some .int), RX3, 0, 0, 3, [779, 778, 30, 150]),
 (yX3_goOn, cX3_goOn, 7, (some .int), RX3, 1, 27, 3, [784, 783, 31, 150]),
 (yX3_mustWait, cX3_mustWait, 8, (some .boolean), RX3, 0, 0, 3, [796, 795, 34, 150]),
 (yX3_lend, cX3_lend, 4, none, RX3, 1, 23, 3, [800, 799, 35, 150]),
 (yX3_lendFrom, cX3_lendFrom, 4, (some .boolean), RX3, 0, 0, 3, [804, 803, 36, 150]),
 (yX3_end, cX3_end, 4, none, RX3, 1, 21, 3, [808, 807, 37, 150]),
 (yX3_note, cX3_note, 2, none, RX3, 1, 23, 3, [816, 815, 39, 150]),
 (yX3_lookForRing, cX3_lookForRing, 4, none, RX3, 0, 0, 3, [821, 820, 40, 150]),
 (yX3_work, cX3_work, 3, none, RX3, 2, 44, 3, [825, 824, 41, 150]),
 (yX3_chosenAt, cX3_chosenAt, 3, (some .int), RX3, 0, 0, 3, [839, 838, 44, 150]),
 (yX3_stateOf, cX3_stateOf, 3, (some .int), RX3, 0, 0, 3, [847, 846, 45, 150]),
 (yX3_ticksIn, cX3_ticksIn, 5, (some .int), RX3, 0, 0, 3, [879, 878, 50, 150]),
 (yX3_ticksBehind, cX3_ticksBehind, 5, (some .int), RX3, 0, 0, 3, [892, 891, 53, 150]),
 (yX4_init, cX4_init, 3, none, RX4, 2, 42, 4, [511, 510, 0, 152]),
 (yX4_forget, cX4_forget, 1, none, RX4, 0, 0, 4, [655, 654, 12, 152]),
 (yX4_findBest, cX4_findBest, 5, none, RX4, 4, 101, 4, [962, 961, 62, 152]),
 (yX4_bestAt, cX4_bestAt, 2, (some .int), RX4, 2, 42, 4, [993, 992, 69, 152]),
 (yX4_orderAt, cX4_orderAt, 3, (some .int), RX4, 1, 20, 4, [975, 974, 65, 152]),
 (yX4_firstOrder, cX4_firstOrder, 3, (some .int), RX4, 1, 21, 4, [970, 969, 64, 152]),
 (yX4_nextOrder, cX4_nextOrder, 6, (some .boolean), RX4, 2, 42, 4, [985, 984, 67, 152]),
 (yX4_swapOrder, cX4_swapOrder, 4, none, RX4, 0, 0, 4, [989, 988, 68, 152]),
 (yX4_slackOf, cX4_slackOf, 4, (some .int), RX4, 4, 101, 4, [1002, 1001, 70, 152]),
 (yX4_findShed, cX4_findShed, 2, none, RX4, 5, 124, 4, [1010, 1009, 71, 152]),
 (yX4_tryToShed, cX4_tryToShed, 4, none, RX4, 4, 101, 4, [1015, 1014, 72, 152]),
 (yX4_findWhatever, cX4_findWhatever, 5, none, RX4, 4, 101, 4, [1023, 1022, 73, 152]),
 (yX4_delayBy, cX4_delayBy, 5, none, RX4, 1, 21, 4, [1027, 1026, 74, 152]),
 (yX4_fitting, cX4_fitting, 5, (some .int), RX4, 5, 126, 4, [1044, 1043, 76, 152]),
 (yX4_goesAs, cX4_goesAs, 6, (some .boolean), RX4, 4, 101, 4, [1048, 1047, 77, 152]),
 (yX4_findMended, cX4_findMended, 8, none, RX4, 5, 124, 4, [1062, 1061, 79, 152]),
 (yX4_changesOfRules, cX4_changesOfRules, 2, (some .int), RX4, 0, 0, 4, [1066, 1065, 80, 152]),
 (yX4_mends, cX4_mends, 4, (some .boolean), RX4, 4, 101, 4, [1070, 1069, 81, 152]),
 (yX4_swapRanks, cX4_swapRanks, 4, none, RX4, 1, 20, 4, [1074, 1073, 82, 152]),
 (yX4_keepMending, cX4_keepMending, 4, none, RX4, 0, 0, 4, [1078, 1077, 83, 152]),
 (yX5_init, cX5_init, 2, none, RX5, 1, 21, 5, [198, 197, 0, 146]),
 (yX5_become, cX5_become, 3, none, RX5, 0, 0, 5, [966, 965, 63, 146]),
 (yX5_partOf, cX5_partOf, 2, (some .int), RX5, 0, 0, 5, [712, 711, 15, 146]),
 (yX5_changePart, cX5_changePart, 3, none, RX5, 0, 0, 5, [716, 715, 16, 146]),
 (yX5_has, cX5_has, 2, (some .boolean), RX5, 0, 0, 5, [690, 689, 14, 146]),
 (yX5_goesByRanks, cX5_goesByRanks, 1, (some .boolean), RX5, 0, 0, 5, [981, 980, 66, 146])]
def mtT_2 : List Mt := [(yX5_rankOf, cX5_rankOf, 2, (some .int), RX5, 1, 20, 5, [887, 886, 52, 146]),
 (yX5_lesser, cX5_lesser, 4, (some .int), RX5, 2, 41, 5, [883, 882, 51, 146]),
 (yX5_goesAhead, cX5_goesAhead, 4, (some .boolean), RX5, 2, 41, 5, [926, 925, 58, 146]),
 (yX6_init, cX6_init, 1, none, RX6, 1, 21, 6, [328, 327, 0, 148]),
 (yX6_renew, cX6_renew, 4, none, RX6, 0, 0, 6, [1089, 1088, 84, 148]),
 (yX6_faultOf, cX6_faultOf, 3, (some .int), RX6, 0, 0, 6, [1101, 1100, 85, 148]),
 (yX6_hasRow, cX6_hasRow, 3, (some .boolean), RX6, 0, 0, 6, [1119, 1118, 87, 148]),
 (yX6_itemAt, cX6_itemAt, 2, (some .int), RX6, 0, 0, 6, [1053, 1052, 78, 148]),
 (yX6_become, cX6_become, 3, none, RX6, 0, 0, 6, [1105, 1104, 86, 148]),
 (yX7_init, cX7_init, 1, none, RX7, 1, 21, 7, [169, 168, 0, 145]),
 (yX7_more, cX7_more, 3, (some .int), RX7, 1, 23, 7, [604, 603, 0, 145]),
 (yX7_breakIt, cX7_breakIt, 4, none, RX7, 0, 0, 7, [608, 607, 1, 145]),
 (yX7_brokenIn, cX7_brokenIn, 4, (some .int), RX7, 0, 0, 7, [775, 774, 29, 145]),
 (yX8_init, cX8_init, 2, none, RX8, 3, 65, 8, [161, 160, 0, 144]),
 (yX8_thing, cX8_thing, 6, (some .int), RX8, 4, 91, 8, [600, 598, 599, 144]),
 (yX8_broken, cX8_broken, 4, (some .int), RX8, 2, 42, 8, [659, 657, 658, 144]),
 (yX8_type, cX8_type, 4, (some .int), RX8, 4, 91, 8, [667, 665, 666, 144]),
 (yX8_wipe, cX8_wipe, 4, (some .int), RX8, 4, 91, 8, [678, 676, 677, 144]),
 (yX8_fault, cX8_fault, 2, (some .int), RX8, 1, 20, 8, [682, 680, 681, 144]),
 (yX8_about, cX8_about, 4, (some .int), RX8, 1, 21, 8, [686, 684, 685, 144]),
 (yX8_set, cX8_set, 6, (some .int), RX8, 2, 42, 8, [694, 692, 693, 144]),
 (yX8_drop, cX8_drop, 3, (some .int), RX8, 2, 42, 8, [698, 696, 697, 144]),
 (yX8_rule, cX8_rule, 4, (some .int), RX8, 2, 42, 8, [702, 700, 701, 144]),
 (yX8_who, cX8_who, 3, (some .int), RX8, 5, 121, 8, [720, 718, 719, 144]),
 (yX8_state, cX8_state, 3, (some .int), RX8, 5, 121, 8, [843, 841, 842, 144]),
 (yX8_done, cX8_done, 3, (some .int), RX8, 5, 121, 8, [851, 849, 850, 144]),
 (yX8_told, cX8_told, 4, (some .int), RX8, 5, 121, 8, [859, 857, 858, 144]),
 (yX8_late, cX8_late, 3, (some .int), RX8, 5, 121, 8, [896, 894, 895, 144]),
 (yX8_ring, cX8_ring, 2, (some .int), RX8, 5, 121, 8, [900, 898, 899, 144]),
 (yX8_bound, cX8_bound, 2, (some .int), RX8, 5, 118, 8, [904, 902, 903, 144]),
 (yX8_held, cX8_held, 2, (some .int), RX8, 4, 93, 8, [947, 945, 946, 144]),
 (yX8_best, cX8_best, 3, (some .int), RX8, 5, 125, 8, [952, 950, 951, 144]),
 (yX8_slack, cX8_slack, 3, (some .int), RX8, 5, 124, 8, [997, 995, 996, 144]),
 (yX8_shed, cX8_shed, 2, (some .int), RX8, 6, 145, 8, [1006, 1004, 1005, 144]),
 (yX8_whatever, cX8_whatever, 4, (some .int), RX8, 5, 125, 8, [1019, 1017, 1018, 144]),
 (yX8_fits, cX8_fits, 2, (some .int), RX8, 6, 150, 8, [1033, 1031, 1032, 144]),
 (yX8_mended, cX8_mended, 2, (some .int), RX8, 6, 151, 8, [1058, 1056, 1057, 144]),
 (yX8_sheet, cX8_sheet, 4, (some .int), RX8, 1, 23, 8, [1082, 1080, 1081, 144]),
 (yX8_lose, cX8_lose, 3, (some .int), RX8, 1, 21, 8, [1093, 1091, 1092, 144]),
 (yX8_put, cX8_put, 6, (some .int), RX8, 1, 22, 8, [1097, 1095, 1096, 144])]
def mtT_3 : List Mt := [(yX8_get, cX8_get, 5, (some .int), RX8, 1, 22, 8, [1109, 1107, 1108, 144]),
 (yX8_copy, cX8_copy, 8, (some .int), RX8, 1, 40, 8, [1115, 1113, 1114, 144]),
 (yX8_write, cX8_write, 5, (some .int), RX8, 5, 121, 8, [1126, 1124, 1125, 144]),
 (yX8_count, cX8_count, 2, (some .int), RX8, 1, 22, 8, [1131, 1129, 1130, 144]),
 (yX8_digest, cX8_digest, 5, (some .long), RX8, 6, 144, 8, [1139, 1137, 1138, 144]),
 (yX8_isTask, cX8_isTask, 1, (some .boolean), RX8, 0, 0, 8, [670, 669, 0, 144]),
 (yX8_isSheet, cX8_isSheet, 1, (some .boolean), RX8, 0, 0, 8, [1036, 1035, 0, 144]),
 (yX8_isType, cX8_isType, 1, (some .boolean), RX8, 0, 0, 8, [1085, 1084, 0, 144]),
 (yX8_isTickEver, cX8_isTickEver, 1, (some .boolean), RX8, 0, 0, 8, [662, 661, 0, 144]),
 (yX8_leastOfRule, cX8_leastOfRule, 1, (some .int), RX8, 0, 0, 8, [705, 704, 0, 144]),
 (yX8_mostOfRule, cX8_mostOfRule, 1, (some .int), RX8, 0, 0, 8, [708, 707, 0, 144]),
 (yX8_isTick, cX8_isTick, 2, (some .boolean), RX8, 0, 0, 8, [724, 723, 17, 144]),
 (yX8_find, cX8_find, 2, (some .int), RX8, 0, 0, 8, [1040, 1039, 75, 144]),
 (yX8_bytes, cX8_bytes, 3, (some .int), RX8, 0, 0, 8, [1135, 1134, 88, 144]),
 (yX8_change, cX8_change, 3, none, RX8, 1, 20, 8, [651, 650, 11, 144]),
 (yX8_goOnce, cX8_goOnce, 1, none, RX8, 4, 101, 8, [728, 727, 18, 144]),
 (yX9_init, cX9_init, 2, none, RX9, 1, 21, 9, [1152, 1151, 0, 153]),
 (yX9_in, cX9_in, 3, (some .boolean), RX9, 0, 0, 9, [1357, 1356, 0, 153]),
 (yX9_ones, cX9_ones, 3, (some .int), RX9, 0, 0, 9, [1607, 1606, 0, 153]),
 (yX9_thing, cX9_thing, 3, (some .int), RX9, 1, 22, 9, [1354, 1352, 1353, 153]),
 (yX9_broken, cX9_broken, 4, (some .int), RX9, 1, 22, 9, [1365, 1363, 1364, 153]),
 (yX9_changes, cX9_changes, 1, none, RX9, 0, 0, 9, [1361, 1360, 89, 153]),
 (yX9_isTask, cX9_isTask, 1, (some .boolean), RX9, 1, 22, 9, [1372, 1371, 0, 153]),
 (yX9_type, cX9_type, 3, (some .int), RX9, 2, 42, 9, [1369, 1367, 1368, 153]),
 (yX9_wipe, cX9_wipe, 3, (some .int), RX9, 2, 42, 9, [1376, 1374, 1375, 153]),
 (yX9_byteNow, cX9_byteNow, 1, (some .int), RX9, 0, 0, 9, [1400, 1399, 94, 153]),
 (yX9_expects, cX9_expects, 2, none, RX9, 1, 20, 9, [1396, 1395, 93, 153]),
 (yX9_number, cX9_number, 6, (some .int), RX9, 1, 22, 9, [1404, 1403, 95, 153]),
 (yX9_stepRead, cX9_stepRead, 7, (some .int), RX9, 2, 47, 9, [1408, 1407, 96, 153]),
 (yX9_readsTask, cX9_readsTask, 4, none, RX9, 3, 73, 9, [1392, 1391, 92, 153]),
 (yX9_reads, cX9_reads, 2, none, RX9, 4, 96, 9, [1388, 1387, 91, 153]),
 (yX9_workOf, cX9_workOf, 4, (some .int), RX9, 0, 0, 9, [1412, 1411, 97, 153]),
 (yX9_faultOf, cX9_faultOf, 2, (some .int), RX9, 5, 117, 9, [1384, 1383, 90, 153]),
 (yX9_fault, cX9_fault, 2, (some .int), RX9, 6, 138, 9, [1380, 1378, 1379, 153]),
 (yX9_those, cX9_those, 3, (some .int), RX9, 5, 117, 9, [1420, 1419, 98, 153]),
 (yX9_about, cX9_about, 3, (some .int), RX9, 6, 139, 9, [1416, 1414, 1415, 153]),
 (yX9_set, cX9_set, 5, (some .int), RX9, 2, 42, 9, [1424, 1422, 1423, 153]),
 (yX9_drop, cX9_drop, 4, (some .int), RX9, 2, 42, 9, [1428, 1426, 1427, 153]),
 (yX9_rule, cX9_rule, 5, (some .int), RX9, 1, 22, 9, [1432, 1430, 1431, 153]),
 (yX9_asTold, cX9_asTold, 2, none, RX9, 6, 139, 9, [1444, 1443, 100, 153])]
def mtT_4 : List Mt := [(yX9_begins, cX9_begins, 2, none, RX9, 0, 0, 9, [1452, 1451, 102, 153]),
 (yX9_comes, cX9_comes, 3, none, RX9, 0, 0, 9, [1460, 1459, 104, 153]),
 (yX9_havingMany, cX9_havingMany, 4, (some .int), RX9, 0, 0, 9, [1492, 1491, 112, 153]),
 (yX9_highest, cX9_highest, 6, (some .int), RX9, 0, 0, 9, [1456, 1455, 103, 153]),
 (yX9_upward, cX9_upward, 5, (some .int), RX9, 1, 23, 9, [1496, 1495, 113, 153]),
 (yX9_isBroken, cX9_isBroken, 2, (some .boolean), RX9, 1, 22, 9, [1500, 1499, 114, 153]),
 (yX9_having, cX9_having, 5, (some .int), RX9, 0, 0, 9, [1504, 1503, 115, 153]),
 (yX9_takes, cX9_takes, 5, (some .boolean), RX9, 2, 47, 9, [1488, 1487, 111, 153]),
 (yX9_ends, cX9_ends, 3, none, RX9, 0, 0, 9, [1508, 1507, 116, 153]),
 (yX9_does, cX9_does, 4, (some .boolean), RX9, 3, 71, 9, [1484, 1483, 110, 153]),
 (yX9_keyOf, cX9_keyOf, 2, (some .int), RX9, 0, 0, 9, [1476, 1475, 108, 153]),
 (yX9_forces, cX9_forces, 4, none, RX9, 1, 21, 9, [1472, 1471, 107, 153]),
 (yX9_hasFire, cX9_hasFire, 3, (some .boolean), RX9, 0, 0, 9, [1480, 1479, 109, 153]),
 (yX9_bestNow, cX9_bestNow, 6, (some .int), RX9, 2, 44, 9, [1468, 1467, 106, 153]),
 (yX9_chooses, cX9_chooses, 4, none, RX9, 4, 94, 9, [1464, 1463, 105, 153]),
 (yX9_ringNow, cX9_ringNow, 6, (some .int), RX9, 0, 0, 9, [1512, 1511, 117, 153]),
 (yX9_ticksOf, cX9_ticksOf, 3, (some .int), RX9, 0, 0, 9, [1520, 1519, 119, 153]),
 (yX9_works, cX9_works, 2, none, RX9, 1, 22, 9, [1516, 1515, 118, 153]),
 (yX9_runs, cX9_runs, 3, none, RX9, 5, 117, 9, [1448, 1447, 101, 153]),
 (yX9_lateOf, cX9_lateOf, 6, (some .int), RX9, 0, 0, 9, [1544, 1543, 122, 153]),
 (yX9_lateAll, cX9_lateAll, 3, (some .int), RX9, 1, 25, 9, [1564, 1563, 126, 153]),
 (yX9_runTold, cX9_runTold, 1, none, RX9, 7, 160, 9, [1440, 1439, 99, 153]),
 (yX9_who, cX9_who, 3, (some .int), RX9, 8, 180, 9, [1436, 1434, 1435, 153]),
 (yX9_state, cX9_state, 3, (some .int), RX9, 8, 180, 9, [1524, 1522, 1523, 153]),
 (yX9_done, cX9_done, 3, (some .int), RX9, 8, 180, 9, [1528, 1526, 1527, 153]),
 (yX9_doneMany, cX9_doneMany, 4, (some .int), RX9, 0, 0, 9, [1540, 1539, 121, 153]),
 (yX9_longest, cX9_longest, 5, (some .int), RX9, 0, 0, 9, [1548, 1547, 123, 153]),
 (yX9_ticksIn, cX9_ticksIn, 5, (some .int), RX9, 0, 0, 9, [1552, 1551, 124, 153]),
 (yX9_behind, cX9_behind, 6, (some .int), RX9, 0, 0, 9, [1556, 1555, 125, 153]),
 (yX9_toldOf, cX9_toldOf, 3, (some .int), RX9, 1, 25, 9, [1536, 1535, 120, 153]),
 (yX9_told, cX9_told, 3, (some .int), RX9, 8, 180, 9, [1532, 1530, 1531, 153]),
 (yX9_late, cX9_late, 1, (some .int), RX9, 8, 180, 9, [1560, 1558, 1559, 153]),
 (yX9_ring, cX9_ring, 2, (some .int), RX9, 8, 180, 9, [1568, 1566, 1567, 153]),
 (yX9_goesAhead, cX9_goesAhead, 3, (some .boolean), RX9, 0, 0, 9, [1588, 1587, 130, 153]),
 (yX9_doesTake, cX9_doesTake, 4, (some .boolean), RX9, 0, 0, 9, [1592, 1591, 131, 153]),
 (yX9_workFrom, cX9_workFrom, 7, (some .int), RX9, 0, 0, 9, [1596, 1595, 132, 153]),
 (yX9_heldOf, cX9_heldOf, 10, (some .int), RX9, 6, 139, 9, [1584, 1583, 129, 153]),
 (yX9_isBounded, cX9_isBounded, 2, (some .boolean), RX9, 6, 139, 9, [1576, 1575, 127, 153]),
 (yX9_boundOf, cX9_boundOf, 7, (some .int), RX9, 7, 168, 9, [1580, 1579, 128, 153]),
 (yX9_bound, cX9_bound, 2, (some .int), RX9, 8, 194, 9, [1572, 1570, 1571, 153])]
def mtT_5 : List Mt := [(yX9_held, cX9_held, 2, (some .int), RX9, 7, 168, 9, [1600, 1598, 1599, 153]),
 (yX9_triedLate, cX9_triedLate, 1, (some .int), RX9, 6, 139, 9, [1615, 1614, 134, 153]),
 (yX9_turns, cX9_turns, 7, (some .boolean), RX9, 0, 0, 9, [1619, 1618, 135, 153]),
 (yX9_ranksBest, cX9_ranksBest, 5, (some .boolean), RX9, 7, 160, 9, [1611, 1610, 133, 153]),
 (yX9_best, cX9_best, 3, (some .int), RX9, 8, 184, 9, [1604, 1602, 1603, 153]),
 (yX9_slack, cX9_slack, 3, (some .int), RX9, 7, 160, 9, [1623, 1621, 1622, 153]),
 (yX9_worthOfSet, cX9_worthOfSet, 4, (some .int), RX9, 0, 0, 9, [1631, 1630, 136, 153]),
 (yX9_shed, cX9_shed, 7, (some .int), RX9, 7, 160, 9, [1627, 1625, 1626, 153]),
 (yX9_whatever, cX9_whatever, 11, (some .int), RX9, 7, 160, 9, [1635, 1633, 1634, 153]),
 (yX9_fits, cX9_fits, 8, (some .int), RX9, 7, 160, 9, [1639, 1637, 1638, 153]),
 (yX9_isWell, cX9_isWell, 6, (some .boolean), RX9, 7, 160, 9, [1662, 1661, 140, 153]),
 (yX9_tries, cX9_tries, 6, none, RX9, 8, 185, 9, [1658, 1657, 139, 153]),
 (yX9_mends, cX9_mends, 6, none, RX9, 9, 210, 9, [1654, 1653, 138, 153]),
 (yX9_mended, cX9_mended, 2, (some .int), RX9, 10, 235, 9, [1650, 1648, 1649, 153]),
 (yX9_meets, cX9_meets, 2, (some .int), RX9, 0, 0, 9, [1646, 1645, 137, 153]),
 (yX9_isSheet, cX9_isSheet, 1, (some .boolean), RX9, 1, 22, 9, [1642, 1641, 0, 153]),
 (yX9_sheet, cX9_sheet, 5, (some .int), RX9, 2, 42, 9, [1666, 1664, 1665, 153]),
 (yX9_lose, cX9_lose, 2, (some .int), RX9, 2, 42, 9, [1670, 1668, 1669, 153]),
 (yX9_lacks, cX9_lacks, 4, (some .int), RX9, 1, 22, 9, [1678, 1677, 141, 153]),
 (yX9_lay, cX9_lay, 4, none, RX9, 0, 0, 9, [1682, 1681, 142, 153]),
 (yX9_put, cX9_put, 6, (some .int), RX9, 2, 45, 9, [1674, 1672, 1673, 153]),
 (yX9_get, cX9_get, 5, (some .int), RX9, 2, 45, 9, [1686, 1684, 1685, 153]),
 (yX9_copy, cX9_copy, 7, (some .int), RX9, 2, 42, 9, [1691, 1689, 1690, 153]),
 (yX9_write, cX9_write, 3, (some .int), RX9, 8, 180, 9, [1695, 1693, 1694, 153]),
 (yX9_count, cX9_count, 2, (some .int), RX9, 6, 139, 9, [1699, 1697, 1698, 153]),
 (yX9_digest, cX9_digest, 5, (some .long), RX9, 8, 180, 9, [1703, 1701, 1702, 153]),
 (yJ6_bitCount_0f7a4, cJ6_bitCount_0f7a4, 1, (some .int), RJ6, 0, 0, 99, [955, 954, 0, 155]),
 (yL_law, cL_law, 4, (some .boolean), RL, 11, 256, 99, [0, 0, 0, 0])]
def mtT : List Mt := mtT_0 ++ mtT_1 ++ mtT_2 ++ mtT_3 ++ mtT_4 ++ mtT_5
end
section
/-! the small machine's cells as a world of the kit -/
def isNst (w : Jvm.Cond) : Bool := match w with
  | .fieldLinkNest _ _ _ _ _ _ => true
  | .methodLinkNest _ _ _ _ => true
  | _ => false
def bigW : List Jvm.Cond := lw_tbl.filter goodWord
def nstW : List Jvm.Cond := lw_tbl.filter isNst
theorem bigW_of {i : Nat} {w : Jvm.Cond} (h : lw_tbl[i]? = some w) (hg : goodWord w = true) : w ∈ bigW := List.mem_filter.mpr ⟨List.mem_of_getElem? h, hg⟩
theorem nstW_of {i : Nat} {w : Jvm.Cond} (h : lw_tbl[i]? = some w) (hg : isNst w = true) : w ∈ nstW := List.mem_filter.mpr ⟨List.mem_of_getElem? h, hg⟩
def ty5 (cA : Nat → ClassId) : List (ClassId × FieldType) := [(cA 0, .int), (cA 1, .boolean), (cA 2, .object RX0), (cA 3, .object RX1), (cA 4, .object RX6)]
def rfo (n0 b r : Nat) : Option Nat := match r with
  | 0 => none
  | 1 => some b
  | c + 2 => some (n0 + c)
def cvR (n0 b r : Nat) : Value := va_rf (rfo n0 b r)
def cv (n0 b : Nat) (v : AV) : Value := match v with
  | .inl i => .int (Int32.ofInt i)
  | .inr (.inl l) => .long (Int64.ofInt l)
  | .inr (.inr (.inl r)) => cvR n0 b r
  | .inr (.inr (.inr _)) => .null
def cfs (n0 b : Nat) (R : Rfs) (M : Mem) (c kd : Nat) : List Value := (List.range (cnN kd)).map (fun k => if ftk kd k = 2 then cvR n0 b (R c k) else .int (Int32.ofInt (M c k)))
def ce (n0 b : Nat) (cA : Nat → ClassId) (R : Rfs) (M : Mem) (c : Nat) (q : Nat × Nat) : va_E :=
  if q.1 < 10 then .inr (q.1, cfs n0 b R M c q.1)
  else if q.1 < 12 then .inl (cA (q.1 - 10), q.2, .inl (fun j => Int32.ofInt (M c j)))
  else .inl (cA (q.1 - 10), q.2, .inr (.inr (.inr (.inr (fun j => rfo n0 b (R c j))))))
def wd (n0 b : Nat) (cA : Nat → ClassId) (σ : Sg) : va_W := (List.range σ.1.length).map (fun c => (n0 + c, ce n0 b cA σ.2.1 σ.2.2 c (σ.1.getD c (0, 0))))
theorem wd_len (n0 b : Nat) (cA : Nat → ClassId) (σ : Sg) : (wd n0 b cA σ).length = σ.1.length := by simp [wd]
theorem wd_get {n0 b : Nat} {cA : Nat → ClassId} {σ : Sg} {c : Nat} {q : Nat × Nat} (h : σ.1[c]? = some q) : (wd n0 b cA σ)[c]? = some (n0 + c, ce n0 b cA σ.2.1 σ.2.2 c q) := by
  have hl : c < σ.1.length := (List.getElem?_eq_some_iff.mp h).1
  have hq : σ.1.getD c (0, 0) = q := by simp [List.getD_eq_getElem?_getD, h]
  unfold wd
  rw [List.getElem?_map, List.getElem?_range hl, Option.map_some, hq]
theorem wd_set {n0 b : Nat} {cA : Nat → ClassId} {K : List (Nat × Nat)} {R R' : Rfs} {M M' : Mem} {c : Nat} {q : Nat × Nat} {x : va_E} (h : K[c]? = some q) (hx : ce n0 b cA R' M' c q = x)
    (ho : ∀ c' q', c' ≠ c → ce n0 b cA R' M' c' q' = ce n0 b cA R M c' q') : (wd n0 b cA (K, R, M)).set c (n0 + c, x) = wd n0 b cA (K, R', M') := by
  have hl : c < K.length := (List.getElem?_eq_some_iff.mp h).1
  apply List.ext_getElem?
  intro i
  by_cases hi : i = c
  · subst hi
    rw [List.getElem?_set_self (by rw [wd_len]; exact hl), wd_get (σ := (K, R', M')) h, hx]
  · rw [List.getElem?_set_ne (Ne.symm hi)]
    cases hk : K[i]? with
    | some q' => rw [wd_get (σ := (K, R, M)) hk, wd_get (σ := (K, R', M')) hk, ho i q' hi]
    | none =>
      have hi2 : K.length ≤ i := by simpa using hk
      rw [List.getElem?_eq_none (by rw [wd_len]; exact hi2), List.getElem?_eq_none (by rw [wd_len]; exact hi2)]
theorem wd_push {n0 b : Nat} {cA : Nat → ClassId} {K : List (Nat × Nat)} {R R' : Rfs} {M M' : Mem} {q : Nat × Nat} {x : va_E} (hx : ce n0 b cA R' M' K.length q = x)
    (ho : ∀ c' q', c' ≠ K.length → ce n0 b cA R' M' c' q' = ce n0 b cA R M c' q') : wd n0 b cA (K, R, M) ++ [(n0 + K.length, x)] = wd n0 b cA (K ++ [q], R', M') := by
  have e : (List.range K.length).map (fun c => (n0 + c, ce n0 b cA R' M' c ((K ++ [q]).getD c (0, 0)))) = (List.range K.length).map (fun c => (n0 + c, ce n0 b cA R M c (K.getD c (0, 0)))) := by
    apply List.map_congr_left
    intro i hi
    have hi' : i < K.length := List.mem_range.mp hi
    rw [ho i _ (Nat.ne_of_lt hi')]
    simp [List.getD_eq_getElem?_getD, List.getElem?_append_left hi']
  unfold wd
  simp only [List.length_append, List.length_singleton, List.range_succ, List.map_append, List.map_cons, List.map_nil]
  rw [e, ← hx]
  simp [List.getD_eq_getElem?_getD]
theorem wd_D (n0 b : Nat) (cA : Nat → ClassId) (σ : Sg) : va_D (fun q => n0 ≤ q) (wd n0 b cA σ) := by
  have key : ∀ (i : Nat) (p : Nat × va_E), (wd n0 b cA σ)[i]? = some p → p.1 = n0 + i := by
    intro i p h
    have hl : i < σ.1.length := by rw [← wd_len n0 b cA σ]; exact (List.getElem?_eq_some_iff.mp h).1
    rw [wd_get (List.getElem?_eq_getElem hl)] at h
    cases h
    rfl
  exact ⟨fun i j p q hi hj hpq => by have := key i p hi; have := key j q hj; omega, fun k q h => by rw [key k q h]; exact Nat.le_add_right _ _⟩
def slN (K : List (Nat × Nat)) : Nat := (K.map (fun q => q.2)).sum
theorem slN_push (K : List (Nat × Nat)) (q : Nat × Nat) : slN (K ++ [q]) = slN K + q.2 := by simp [slN]
def inL (i : Int) : Prop := -9223372036854775808 ≤ i ∧ i ≤ 9223372036854775807
def okv (v : AV) : Prop := match v with
  | .inl x => inR x
  | .inr (.inl x) => inL x
  | _ => True
def INV (ls st : List AV) (σ : Sg) : Prop := (∀ v ∈ ls, okv v) ∧ (∀ v ∈ st, okv v) ∧ (∀ c j, inR (σ.2.2 c j)) ∧ ∀ q ∈ σ.1, q.2 ≤ 100000
def WH (n0 b L : Nat) (sx : Int → Int) (D : va_G) (cA : Nat → ClassId) (s : State) (σ : Sg) (H : Heap) : Prop :=
  H.size = n0 + σ.1.length ∧ va_P D vwCl (wd n0 b cA σ) H ∧ va_X b L (fun j => Int32.ofInt (sx j)) s H ∧ b < n0 ∧ L ≤ 100000 ∧ ∀ j, inR (sx j)
/-! the locals -/
def isU (v : AV) : Bool := match v with
  | .inr (.inr (.inr _)) => true
  | _ => false
def lst (n0 b : Nat) (ls : List AV) : List (Nat × Value) := (List.range ls.length).filterMap (fun i => match ls[i]? with
  | some v => if isU v = true then none else some (i, cv n0 b v)
  | none => none)
theorem lst_mem {n0 b : Nat} {ls : List AV} {i : Nat} {v : AV} (h : ls[i]? = some v) (hu : isU v = false) : (i, cv n0 b v) ∈ lst n0 b ls := by
  refine List.mem_filterMap.mpr ⟨i, List.mem_range.mpr (List.getElem?_eq_some_iff.mp h).1, ?_⟩
  simp [h, hu]
theorem lst_of {n0 b : Nat} {ls : List AV} {q : Nat × Value} (h : q ∈ lst n0 b ls) : ∃ v, ls[q.1]? = some v ∧ isU v = false ∧ q.2 = cv n0 b v := by
  obtain ⟨i, -, hi⟩ := List.mem_filterMap.mp h
  cases hv : ls[i]? with
  | none => rw [hv] at hi; cases hi
  | some v =>
    rw [hv] at hi
    dsimp only at hi
    by_cases hu : isU v = true
    · rw [if_pos hu] at hi; cases hi
    · rw [if_neg hu] at hi
      cases hi
      exact ⟨v, hv, by simpa using hu, rfl⟩
def LH (n0 b : Nat) (lsA : Array Slot) (nL : Nat) (ls : List AV) : Prop := ls.length = nL ∧ lv_has lsA nL (lst n0 b ls)
theorem LH.get {n0 b nL : Nat} {lsA : Array Slot} {ls : List AV} (h : LH n0 b lsA nL ls) {i : Nat} {v : AV} (hv : ls[i]? = some v) (hu : isU v = false) : lsA[i]? = some (.val (cv n0 b v)) := h.2.2.2 _ (lst_mem hv hu)
theorem LH.place {n0 b nL : Nat} {lsA : Array Slot} {ls : List AV} (_ : LH n0 b lsA nL ls) {i : Nat} {v : AV} (hv : ls[i]? = some v) (hu : isU v = false) : ∃ k : Nat, (lst n0 b ls)[k]? = some (i, cv n0 b v) := List.getElem?_of_mem (lst_mem hv hu)
theorem cv_cat {n0 b : Nat} {v : AV} (h : cat2 v = false) : (cv n0 b v).category = 1 := by
  rcases v with x | x | r | u
  · rfl
  · simp [cat2] at h
  · show (va_rf (rfo n0 b r)).category = 1
    cases rfo n0 b r <;> rfl
  · rfl
theorem cv_catn (n0 b : Nat) (v : AV) : (cv n0 b v).category = catn v := by
  rcases v with x | x | r | u
  · rfl
  · rfl
  · show (va_rf (rfo n0 b r)).category = 1
    cases rfo n0 b r <;> rfl
  · rfl
theorem cv_catS (n0 b : Nat) (st : List AV) : ((st.map (cv n0 b)).map fun v => v.category).sum = catS st := by
  induction st with
  | nil => rfl
  | cons v r ih => simp only [List.map_cons, List.sum_cons, catS] at ih ⊢; rw [ih, cv_catn]
theorem getD_prev {ls : List AV} {i j : Nat} {w : AV} (h : ls[j]? = some w) (e : j + 1 = i) (hc : cat2 (ls.getD (i - 1) vU) = false) : cat2 w = false := by
  subst e
  rw [Nat.add_sub_cancel, List.getD_eq_getElem?_getD, h] at hc
  exact hc
theorem LH.st1 {n0 b nL : Nat} {lsA lsB : Array Slot} {ls : List AV} (h : LH n0 b lsA nL ls) {i : Nat} {v : AV} (hc : cat2 (ls.getD (i - 1) vU) = false) (hi : i < ls.length)
    (hB : lv_has lsB nL ((i, cv n0 b v) :: (lst n0 b ls).filter (fun q => !(q.1 == i) && !(q.1 + 1 == i && q.2.category == 2)))) : LH n0 b lsB nL (ls.set i v) := by
  refine ⟨by rw [List.length_set]; exact h.1, hB.1, hB.2.1, fun q hq => hB.2.2 q ?_⟩
  obtain ⟨w, h1, h2, h3⟩ := lst_of hq
  obtain ⟨j, q2⟩ := q
  dsimp only at h1 h3
  subst h3
  by_cases hj : j = i
  · subst hj
    rw [List.getElem?_set_self hi] at h1
    cases h1
    exact List.mem_cons_self
  · rw [List.getElem?_set_ne (Ne.symm hj)] at h1
    refine List.mem_cons_of_mem _ (List.mem_filter.mpr ⟨lst_mem h1 h2, ?_⟩)
    by_cases hj2 : j + 1 = i
    · have := cv_cat (n0 := n0) (b := b) (getD_prev h1 hj2 hc)
      simp [hj, this]
    · simp [hj, hj2]
theorem LH.st2 {n0 b nL : Nat} {lsA lsB : Array Slot} {ls : List AV} (h : LH n0 b lsA nL ls) {i : Nat} {v : AV} (hc : cat2 (ls.getD (i - 1) vU) = false) (hi : i + 1 < ls.length)
    (hB : lv_has lsB nL ((i, cv n0 b v) :: (lst n0 b ls).filter (fun q => !(q.1 == i) && (!(q.1 == i + 1) && !(q.1 + 1 == i && q.2.category == 2))))) : LH n0 b lsB nL ((ls.set i v).set (i + 1) vU) := by
  refine ⟨by rw [List.length_set, List.length_set]; exact h.1, hB.1, hB.2.1, fun q hq => hB.2.2 q ?_⟩
  obtain ⟨w, h1, h2, h3⟩ := lst_of hq
  obtain ⟨j, q2⟩ := q
  dsimp only at h1 h3
  subst h3
  by_cases hk : j = i + 1
  · subst hk
    rw [List.getElem?_set_self (by rw [List.length_set]; exact hi)] at h1
    cases h1
    simp [isU] at h2
  · rw [List.getElem?_set_ne (Ne.symm hk)] at h1
    by_cases hj : j = i
    · subst hj
      rw [List.getElem?_set_self (by omega)] at h1
      cases h1
      exact List.mem_cons_self
    · rw [List.getElem?_set_ne (Ne.symm hj)] at h1
      refine List.mem_cons_of_mem _ (List.mem_filter.mpr ⟨lst_mem h1 h2, ?_⟩)
      by_cases hj2 : j + 1 = i
      · have := cv_cat (n0 := n0) (b := b) (getD_prev h1 hj2 hc)
        simp [hj, hk, this]
      · simp [hj, hk, hj2]
theorem mem_set_ok {ls : List AV} {i : Nat} {v : AV} (h : ∀ w ∈ ls, okv w) (hv : okv v) : ∀ w ∈ ls.set i v, okv w := fun w hw => by
  rcases List.mem_or_eq_of_mem_set hw with h1 | h1
  · exact h w h1
  · rw [h1]; exact hv
/-! numbers -/
theorem n32 {x : Int} (h : inR x) : (Int32.ofInt x).toInt = x := Int32.toInt_ofInt_of_le h.1 (by have := h.2; omega)
theorem n64 {x : Int} (h : inL x) : (Int64.ofInt x).toInt = x := Int64.toInt_ofInt_of_le h.1 (by have := h.2; omega)
theorem r32 (x : Int32) : inR x.toInt := ⟨x.le_toInt, by have := x.toInt_lt; omega⟩
theorem r64 (x : Int64) : inL x.toInt := ⟨x.le_toInt, by have := x.toInt_lt; omega⟩
theorem n32_eq {x y : Int} (hx : inR x) (hy : inR y) : Int32.ofInt x = Int32.ofInt y ↔ x = y := by rw [← Int32.toInt_inj, n32 hx, n32 hy]
theorem n32_lt {x y : Int} (hx : inR x) (hy : inR y) : Int32.ofInt x < Int32.ofInt y ↔ x < y := by rw [Int32.lt_iff_toInt_lt, n32 hx, n32 hy]
theorem n32_le {x y : Int} (hx : inR x) (hy : inR y) : Int32.ofInt x ≤ Int32.ofInt y ↔ x ≤ y := by rw [Int32.le_iff_toInt_le, n32 hx, n32 hy]
theorem n32_nat {x : Int} (h : 0 ≤ x) : Int32.ofInt x = nI x.toNat := by
  obtain ⟨n, rfl⟩ := Int.eq_ofNat_of_zero_le h
  rfl
theorem n32_cl {x : Int} (h0 : 0 ≤ x) (h : inR x) : (Int32.ofInt x).toNatClampNeg = x.toNat := by
  rw [n32_nat h0]; exact nI_clamp (by have := h.2; omega)
theorem n32_in {x : Int} {n : Nat} (h0 : 0 ≤ x) (h : inR x) (hn : x < n) : vp_in (Int32.ofInt x) n := by
  rw [n32_nat h0]
  refine fun q => q.elim (fun q => nI_pos (by have := h.2; omega) q) (fun q => ?_)
  rw [nI_clamp (by have := h.2; omega)] at q
  omega
theorem n32_div {x y : Int} (hx : 0 ≤ x) (hy : 0 < y) (h1 : inR x) (h2 : inR y) : Int32.ofInt x / Int32.ofInt y = Int32.ofInt (x / y) := by
  rw [n32_nat hx, n32_nat (Int.le_of_lt hy), pk_div (by have := h1.2; omega) (by omega) (by have := h2.2; omega), n32_nat (Int.ediv_nonneg hx (Int.le_of_lt hy))]
  congr 1
  obtain ⟨n, rfl⟩ := Int.eq_ofNat_of_zero_le hx
  obtain ⟨k, rfl⟩ := Int.eq_ofNat_of_zero_le (Int.le_of_lt hy)
  show n / k = _
  rw [← Int.natCast_ediv, Int.toNat_natCast]
theorem n32_mod {x y : Int} (hx : 0 ≤ x) (hy : 0 < y) (h1 : inR x) (h2 : inR y) : Int32.ofInt x - Int32.ofInt x / Int32.ofInt y * Int32.ofInt y = Int32.ofInt (x % y) := by
  rw [n32_nat hx, n32_nat (Int.le_of_lt hy), pk_rem (by have := h1.2; omega) (by omega) (by have := h2.2; omega), n32_nat (Int.emod_nonneg _ (by omega))]
  congr 1
  obtain ⟨n, rfl⟩ := Int.eq_ofNat_of_zero_le hx
  obtain ⟨k, rfl⟩ := Int.eq_ofNat_of_zero_le (Int.le_of_lt hy)
  show n % k = _
  rw [← Int.natCast_emod, Int.toNat_natCast]
theorem sm_31 : ∀ n, n < 31 → ((nI n &&& 31).toBitVec.smod 32).toNat = n := by decide +kernel
theorem um_31 : ∀ n, n < 31 → (((nI n).toUInt32 &&& Int32.toUInt32 31).toBitVec % 32).toNat = n := by decide +kernel
theorem n32_shl {x y : Int} (hx : 0 ≤ x) (hy : 0 ≤ y) (hy2 : y ≤ 30) (h : x * 2 ^ y.toNat ≤ 2147483647) : Int32.ofInt x <<< (Int32.ofInt y &&& 31) = Int32.ofInt (x * 2 ^ y.toNat) := by
  obtain ⟨n, rfl⟩ := Int.eq_ofNat_of_zero_le hx
  obtain ⟨k, rfl⟩ := Int.eq_ofNat_of_zero_le hy
  have h3 : n * 2 ^ k ≤ 2147483647 := by
    have : ((n * 2 ^ k : Nat) : Int) ≤ 2147483647 := by simpa using h
    omega
  have h4 := pk_shlN (n := n) (nI k &&& 31) k (sm_31 k (by omega)) (by omega)
  have h5 : (n : Int) * 2 ^ (k : Int).toNat = ((n * 2 ^ k : Nat) : Int) := by simp
  rw [h5]
  exact h4
theorem n32_shr {x y : Int} (hx : 0 ≤ x) (hy : 0 ≤ y) (hy2 : y ≤ 30) (h : inR x) : Int32.ofInt x >>> (Int32.ofInt y &&& 31) = Int32.ofInt (x / 2 ^ y.toNat) := by
  obtain ⟨n, rfl⟩ := Int.eq_ofNat_of_zero_le hx
  obtain ⟨k, rfl⟩ := Int.eq_ofNat_of_zero_le hy
  have h4 := pk_shrN (n := n) (by have := h.2; omega) (nI k &&& 31) k (sm_31 k (by omega))
  have h5 : (n : Int) / 2 ^ (k : Int).toNat = ((n / 2 ^ k : Nat) : Int) := by simp
  rw [h5]
  exact h4
theorem n32_ushr {x y : Int} (hx : 0 ≤ x) (hy : 0 ≤ y) (hy2 : y ≤ 30) (h : inR x) : ((Int32.ofInt x).toUInt32 >>> ((Int32.ofInt y).toUInt32 &&& Int32.toUInt32 31)).toInt32 = Int32.ofInt (x / 2 ^ y.toNat) := by
  obtain ⟨n, rfl⟩ := Int.eq_ofNat_of_zero_le hx
  obtain ⟨k, rfl⟩ := Int.eq_ofNat_of_zero_le hy
  have h4 := pk_ushrN (n := n) (by have := h.2; omega) (nI k) k (um_31 k (by omega))
  have h5 : (n : Int) / 2 ^ (k : Int).toNat = ((n / 2 ^ k : Nat) : Int) := by simp
  rw [h5]
  exact h4
theorem two_pow_pos (k : Nat) : (1 : Int) ≤ 2 ^ k := by
  have : 0 < (2 : Int) ^ k := Int.pow_pos (by omega)
  omega
theorem div_in {x : Int} (k : Nat) (hx : 0 ≤ x) (h : inR x) : inR (x / 2 ^ k) := by
  have h1 : 0 ≤ x / 2 ^ k := Int.ediv_nonneg hx (by have := two_pow_pos k; omega)
  have h2 : x / 2 ^ k ≤ x := Int.ediv_le_self _ hx
  have := h.2
  exact ⟨by omega, by omega⟩
end
section
/-! one row an instruction, over the small machine's states -/
def Cx (p : Program) (s : State) (m : MethodId) (args : Array Value) (c : Code) (cc : ByteArray) (nL : Nat) (own : String) (D : va_G) (cA : Nat → ClassId) : Prop :=
  p.tables.exec = Jvm.exec ∧ c.code = cc ∧ c.maxLocals = nL ∧ s.vm.findClass own = some m.cls ∧ (∀ w ∈ bigW, w.before args s = true) ∧ va_K D vwCl (ty5 cA) s ∧ (∀ w ∈ nstW, w.before args s = true) ∧ va_AO RX0 s ∧ va_AO RX1 s ∧ va_AO RX6 s
def GW (p : Program) (l : Launch) (e : Env) (R : Room) (s : State) (m : MethodId) (args : Array Value) (below : List Frame) (meth : Method) (c : Code) (Q : State → Prop) (nL n0 b L : Nat) (sx : Int → Int) (D : va_G) (cA : Nat → ClassId) (k0 s0 : Nat) (pc : Nat) (ls st : List AV) (σ : Sg) : Prop :=
  ∀ (H : Heap) (locs : List Loc) (lsA : Array Slot), INV ls st σ → WH n0 b L sx D cA s σ H → (∀ q ∈ locs, n0 ≤ q.base) → LH n0 b lsA nL ls → k0 ≤ σ.1.length → s0 ≤ slN σ.1 → s.heap.size = n0 + k0 →
    W p l e R s m args below meth c H locs (σ.1.length - k0) (slN σ.1 - s0) Q (F0 m pc lsA (st.map (cv n0 b)))
theorem INV.pop {ls st : List AV} {v : AV} {σ : Sg} (I : INV ls (v :: st) σ) : INV ls st σ := ⟨I.1, fun w h => I.2.1 w (List.mem_cons_of_mem _ h), I.2.2⟩
theorem INV.push {ls st : List AV} {v : AV} {σ : Sg} (I : INV ls st σ) (h : okv v) : INV ls (v :: st) σ := ⟨I.1, fun w hw => by
  rcases List.mem_cons.mp hw with rfl | hw
  · exact h
  · exact I.2.1 w hw, I.2.2⟩
theorem INV.hd {ls st : List AV} {v : AV} {σ : Sg} (I : INV ls (v :: st) σ) : okv v := I.2.1 v List.mem_cons_self
theorem INV.set {ls st : List AV} {σ : Sg} (I : INV ls st σ) {i : Nat} {v : AV} (h : okv v) : INV (ls.set i v) st σ := ⟨mem_set_ok I.1 h, I.2⟩
theorem INV.at {ls st : List AV} {σ : Sg} (I : INV ls st σ) {i : Nat} {v : AV} (h : ls[i]? = some v) : okv v := I.1 v (List.mem_of_getElem? h)
theorem INV.mem {ls st : List AV} {K : List (Nat × Nat)} {R R' : Rfs} {M M' : Mem} (I : INV ls st (K, R, M)) (h : ∀ c j, inR (M' c j)) : INV ls st (K, R', M') := ⟨I.1, I.2.1, h, I.2.2.2⟩
section GS
variable {p : Program} {l : Launch} {e : Env} {R : Room} {s : State} {m : MethodId} {args : Array Value} {below : List Frame} {meth : Method} {c : Code} {Q : State → Prop} {cc : ByteArray} {nL : Nat} {own : String} {n0 b L k0 s0 : Nat} {sx : Int → Int} {D : va_G} {cA : Nat → ClassId}
theorem gs_of {pc pc' : Nat} {ls st ls' st' : List AV} {σ : Sg} (k : GW p l e R s m args below meth c Q nL n0 b L sx D cA k0 s0 pc' ls' st' σ) (hI : INV ls st σ → INV ls' st' σ)
    (h : ∀ (H : Heap) (locs : List Loc) (lsA : Array Slot) (cells slots : Nat), INV ls st σ → WH n0 b L sx D cA s σ H → LH n0 b lsA nL ls → (∀ lsB : Array Slot, LH n0 b lsB nL ls' → W p l e R s m args below meth c H locs cells slots Q (F0 m pc' lsB (st'.map (cv n0 b)))) → W p l e R s m args below meth c H locs cells slots Q (F0 m pc lsA (st.map (cv n0 b))))
    : GW p l e R s m args below meth c Q nL n0 b L sx D cA k0 s0 pc ls st σ := fun H locs lsA I hW hL hl h1 h2 h3 => h H locs lsA _ _ I hW hl fun lsB hB => k H locs lsB (hI I) hW hL hB h1 h2 h3
theorem gs_iconst (C : Cx p s m args c cc nL own D cA) {pc : Nat} {ls st : List AV} {σ : Sg} {n : Int} (hd : decode cc pc = .ok (.iconst n, 1)) (hr : inR n) (k : GW p l e R s m args below meth c Q nL n0 b L sx D cA k0 s0 (pc + 1) ls (vI n :: st) σ) : GW p l e R s m args below meth c Q nL n0 b L sx D cA k0 s0 pc ls st σ :=
  gs_of k (fun I => I.push hr) (fun _ _ lsA _ _ _ _ hl kk => lv_iconst C.1 C.2.1 hd rfl (kk lsA hl))
theorem gs_bipush (C : Cx p s m args c cc nL own D cA) {pc : Nat} {ls st : List AV} {σ : Sg} {n : Int} (hd : decode cc pc = .ok (.bipush n, 2)) (hr : -128 ≤ n ∧ n ≤ 127) (k : GW p l e R s m args below meth c Q nL n0 b L sx D cA k0 s0 (pc + 2) ls (vI n :: st) σ) : GW p l e R s m args below meth c Q nL n0 b L sx D cA k0 s0 pc ls st σ :=
  gs_of k (fun I => I.push (show inR n from ⟨by omega, by omega⟩)) (fun _ _ lsA _ _ _ _ hl kk => lv_bipush (v := Int32.ofInt n) C.1 C.2.1 hd (by
    apply Int32.toInt_inj.mp
    rw [n32 ⟨by omega, by omega⟩, Int8.toInt_toInt32, Int8.toInt_ofInt_of_le (by omega) (by omega)]) (kk lsA hl))
theorem gs_sipush (C : Cx p s m args c cc nL own D cA) {pc : Nat} {ls st : List AV} {σ : Sg} {n : Int} (hd : decode cc pc = .ok (.sipush n, 3)) (hr : -32768 ≤ n ∧ n ≤ 32767) (k : GW p l e R s m args below meth c Q nL n0 b L sx D cA k0 s0 (pc + 3) ls (vI n :: st) σ) : GW p l e R s m args below meth c Q nL n0 b L sx D cA k0 s0 pc ls st σ :=
  gs_of k (fun I => I.push (show inR n from ⟨by omega, by omega⟩)) (fun _ _ lsA _ _ _ _ hl kk => lv_sipush (v := Int32.ofInt n) C.1 C.2.1 hd (by
    apply Int32.toInt_inj.mp
    rw [n32 ⟨by omega, by omega⟩, Int16.toInt_toInt32, Int16.toInt_ofInt_of_le (by omega) (by omega)]) (kk lsA hl))
theorem gs_ldcw (C : Cx p s m args c cc nL own D cA) {pc index : Nat} {ls st : List AV} {σ : Sg} {n : Int} (hd : decode cc pc = .ok (.ldc_w index, 3)) (hw : Jvm.Cond.constant own index (Int32.ofInt n) ∈ bigW) (hr : inR n) (k : GW p l e R s m args below meth c Q nL n0 b L sx D cA k0 s0 (pc + 3) ls (vI n :: st) σ) : GW p l e R s m args below meth c Q nL n0 b L sx D cA k0 s0 pc ls st σ :=
  gs_of k (fun I => I.push hr) (fun _ _ lsA _ _ _ _ hl kk => lv_ldcw C.1 C.2.1 C.2.2.2.1 (C.2.2.2.2.1 _ hw) hd (kk lsA hl))
theorem gs_ldc2w (C : Cx p s m args c cc nL own D cA) {pc index : Nat} {ls st : List AV} {σ : Sg} {n : Int} (hd : decode cc pc = .ok (.ldc2_w index, 3)) (hw : Jvm.Cond.constantLong own index (Int64.ofInt n) ∈ bigW) (hr : inL n) (k : GW p l e R s m args below meth c Q nL n0 b L sx D cA k0 s0 (pc + 3) ls (vL n :: st) σ) : GW p l e R s m args below meth c Q nL n0 b L sx D cA k0 s0 pc ls st σ :=
  gs_of k (fun I => I.push hr) (fun _ _ lsA _ _ _ _ hl kk => lv_ldc2 C.1 C.2.1 C.2.2.2.1 (C.2.2.2.2.1 _ hw) hd (kk lsA hl))
theorem gs_iload (C : Cx p s m args c cc nL own D cA) {pc i : Nat} {ls st : List AV} {σ : Sg} {x : Int} (hd : decode cc pc = .ok (.iload i, 2)) (hx : ls[i]? = some (vI x)) (k : GW p l e R s m args below meth c Q nL n0 b L sx D cA k0 s0 (pc + 2) ls (vI x :: st) σ) : GW p l e R s m args below meth c Q nL n0 b L sx D cA k0 s0 pc ls st σ :=
  gs_of k (fun I => I.push (I.at hx)) (fun _ _ lsA _ _ _ _ hl kk => lv_iload C.1 C.2.1 hd (hl.get hx rfl) (kk lsA hl))
theorem gs_iload_n (C : Cx p s m args c cc nL own D cA) {pc : Nat} {i : Fin 4} {ls st : List AV} {σ : Sg} {x : Int} (hd : decode cc pc = .ok (.iload_n i, 1)) (hx : ls[i.val]? = some (vI x)) (k : GW p l e R s m args below meth c Q nL n0 b L sx D cA k0 s0 (pc + 1) ls (vI x :: st) σ) : GW p l e R s m args below meth c Q nL n0 b L sx D cA k0 s0 pc ls st σ :=
  gs_of k (fun I => I.push (I.at hx)) (fun _ _ lsA _ _ _ _ hl kk => lv_iload_n C.1 C.2.1 hd rfl (hl.get hx rfl) (kk lsA hl))
theorem gs_lload_n (C : Cx p s m args c cc nL own D cA) {pc : Nat} {i : Fin 4} {ls st : List AV} {σ : Sg} {x : Int} (hd : decode cc pc = .ok (.lload_n i, 1)) (hx : ls[i.val]? = some (vL x)) (k : GW p l e R s m args below meth c Q nL n0 b L sx D cA k0 s0 (pc + 1) ls (vL x :: st) σ) : GW p l e R s m args below meth c Q nL n0 b L sx D cA k0 s0 pc ls st σ :=
  gs_of k (fun I => I.push (I.at hx)) (fun _ _ lsA _ _ _ _ hl kk => lv_lload_n C.1 C.2.1 hd rfl (hl.get hx rfl) (kk lsA hl))
theorem cvR_pos (n0 b r : Nat) : ∃ x : Nat, cvR n0 b (r + 1) = .ref x := by
  cases r with
  | zero => exact ⟨b, rfl⟩
  | succ r => exact ⟨n0 + r, rfl⟩
theorem gs_aload (C : Cx p s m args c cc nL own D cA) {pc i r : Nat} {ls st : List AV} {σ : Sg} (hd : decode cc pc = .ok (.aload i, 2)) (hx : ls[i]? = some (vR (r + 1))) (k : GW p l e R s m args below meth c Q nL n0 b L sx D cA k0 s0 (pc + 2) ls (vR (r + 1) :: st) σ) : GW p l e R s m args below meth c Q nL n0 b L sx D cA k0 s0 pc ls st σ :=
  gs_of k (fun I => I.push trivial) (fun _ _ lsA _ _ _ _ hl kk => by
    obtain ⟨x, hx2⟩ := cvR_pos n0 b r
    have h1 := hl.get hx rfl
    have h2 := kk lsA hl
    simp only [List.map_cons, cv] at h1 h2 ⊢
    rw [hx2] at h1 h2
    exact lv_aload C.1 C.2.1 hd h1 h2)
theorem gs_aload_n (C : Cx p s m args c cc nL own D cA) {pc r : Nat} {i : Fin 4} {ls st : List AV} {σ : Sg} (hd : decode cc pc = .ok (.aload_n i, 1)) (hx : ls[i.val]? = some (vR (r + 1))) (k : GW p l e R s m args below meth c Q nL n0 b L sx D cA k0 s0 (pc + 1) ls (vR (r + 1) :: st) σ) : GW p l e R s m args below meth c Q nL n0 b L sx D cA k0 s0 pc ls st σ :=
  gs_of k (fun I => I.push trivial) (fun _ _ lsA _ _ _ _ hl kk => by
    obtain ⟨x, hx2⟩ := cvR_pos n0 b r
    have h1 := hl.get hx rfl
    have h2 := kk lsA hl
    simp only [List.map_cons, cv] at h1 h2 ⊢
    rw [hx2] at h1 h2
    exact lv_aload_n C.1 C.2.1 hd rfl h1 h2)
theorem gs_istore (C : Cx p s m args c cc nL own D cA) {pc i : Nat} {ls st : List AV} {σ : Sg} {x : Int} (hd : decode cc pc = .ok (.istore i, 2)) (hi : i < ls.length) (hc : cat2 (ls.getD (i - 1) vU) = false) (k : GW p l e R s m args below meth c Q nL n0 b L sx D cA k0 s0 (pc + 2) (ls.set i (vI x)) st σ) : GW p l e R s m args below meth c Q nL n0 b L sx D cA k0 s0 pc ls (vI x :: st) σ :=
  gs_of k (fun I => I.pop.set I.hd) (fun _ _ lsA _ _ _ _ hl kk => lv_istore (nL := nL) (lv := lst n0 b ls) C.1 C.2.1 hd hl.2 (by rw [← hl.1]; exact hi) rfl (fun lsB hB => kk lsB (hl.st1 (v := vI x) hc hi hB)))
theorem gs_istore_n (C : Cx p s m args c cc nL own D cA) {pc : Nat} {i : Fin 4} {ls st : List AV} {σ : Sg} {x : Int} (hd : decode cc pc = .ok (.istore_n i, 1)) (hi : i.val < ls.length) (hc : cat2 (ls.getD (i.val - 1) vU) = false) (k : GW p l e R s m args below meth c Q nL n0 b L sx D cA k0 s0 (pc + 1) (ls.set i.val (vI x)) st σ) : GW p l e R s m args below meth c Q nL n0 b L sx D cA k0 s0 pc ls (vI x :: st) σ :=
  gs_of k (fun I => I.pop.set I.hd) (fun _ _ lsA _ _ _ _ hl kk => lv_istore_n (nL := nL) (lv := lst n0 b ls) C.1 C.2.1 hd rfl hl.2 (by rw [← hl.1]; exact hi) rfl (fun lsB hB => kk lsB (hl.st1 (v := vI x) hc hi hB)))
theorem gs_lstore_n (C : Cx p s m args c cc nL own D cA) {pc : Nat} {i : Fin 4} {ls st : List AV} {σ : Sg} {x : Int} (hd : decode cc pc = .ok (.lstore_n i, 1)) (hi : i.val + 1 < ls.length) (hc : cat2 (ls.getD (i.val - 1) vU) = false) (k : GW p l e R s m args below meth c Q nL n0 b L sx D cA k0 s0 (pc + 1) ((ls.set i.val (vL x)).set (i.val + 1) vU) st σ) : GW p l e R s m args below meth c Q nL n0 b L sx D cA k0 s0 pc ls (vL x :: st) σ :=
  gs_of k (fun I => (I.pop.set I.hd).set trivial) (fun _ _ lsA _ _ _ _ hl kk => lv_lstore_n (nL := nL) (lv := lst n0 b ls) C.1 C.2.1 hd rfl hl.2 (by rw [← hl.1]; exact hi) rfl (fun lsB hB => kk lsB (hl.st2 (v := vL x) hc hi hB)))
theorem gs_astore (C : Cx p s m args c cc nL own D cA) {pc i x : Nat} {ls st : List AV} {σ : Sg} (hd : decode cc pc = .ok (.astore i, 2)) (hi : i < ls.length) (hc : cat2 (ls.getD (i - 1) vU) = false) (k : GW p l e R s m args below meth c Q nL n0 b L sx D cA k0 s0 (pc + 2) (ls.set i (vR (x + 2))) st σ) : GW p l e R s m args below meth c Q nL n0 b L sx D cA k0 s0 pc ls (vR (x + 2) :: st) σ :=
  gs_of k (fun I => I.pop.set I.hd) (fun _ _ lsA _ _ _ _ hl kk => lv_astore (nL := nL) (lv := lst n0 b ls) C.1 C.2.1 hd hl.2 (by rw [← hl.1]; exact hi) rfl (fun lsB hB => kk lsB (hl.st1 (v := vR (x + 2)) hc hi hB)))
theorem gs_astore_n (C : Cx p s m args c cc nL own D cA) {pc x : Nat} {i : Fin 4} {ls st : List AV} {σ : Sg} (hd : decode cc pc = .ok (.astore_n i, 1)) (hi : i.val < ls.length) (hc : cat2 (ls.getD (i.val - 1) vU) = false) (k : GW p l e R s m args below meth c Q nL n0 b L sx D cA k0 s0 (pc + 1) (ls.set i.val (vR (x + 2))) st σ) : GW p l e R s m args below meth c Q nL n0 b L sx D cA k0 s0 pc ls (vR (x + 2) :: st) σ :=
  gs_of k (fun I => I.pop.set I.hd) (fun _ _ lsA _ _ _ _ hl kk => lv_astore_n (nL := nL) (lv := lst n0 b ls) C.1 C.2.1 hd rfl hl.2 (by rw [← hl.1]; exact hi) rfl (fun lsB hB => kk lsB (hl.st1 (v := vR (x + 2)) hc hi hB)))
theorem gs_iinc (C : Cx p s m args c cc nL own D cA) {pc i : Nat} {n : Int} {ls st : List AV} {σ : Sg} {x : Int} (hd : decode cc pc = .ok (.iinc i n, 3)) (hx : ls[i]? = some (vI x)) (hr : inR (x + n)) (hc : cat2 (ls.getD (i - 1) vU) = false) (k : GW p l e R s m args below meth c Q nL n0 b L sx D cA k0 s0 (pc + 3) (ls.set i (vI (x + n))) st σ) : GW p l e R s m args below meth c Q nL n0 b L sx D cA k0 s0 pc ls st σ :=
  gs_of k (fun I => I.set hr) (fun _ _ lsA _ _ _ _ hl kk => by
    have hi : i < ls.length := (List.getElem?_eq_some_iff.mp hx).1
    obtain ⟨q, hq⟩ := hl.place hx rfl
    exact lv_iinc (nL := nL) (lv := lst n0 b ls) (v := Int32.ofInt (x + n)) C.1 C.2.1 hd hl.2 hq (Int32.ofInt_add x n).symm (by rw [← hl.1]; exact hi) rfl (fun lsB hB => kk lsB (hl.st1 (v := vI (x + n)) hc hi hB)))
theorem gs_iadd (C : Cx p s m args c cc nL own D cA) {pc : Nat} {ls st : List AV} {σ : Sg} {x y : Int} (hd : decode cc pc = .ok (.iadd, 1)) (hr : inR (x + y)) (k : GW p l e R s m args below meth c Q nL n0 b L sx D cA k0 s0 (pc + 1) ls (vI (x + y) :: st) σ) : GW p l e R s m args below meth c Q nL n0 b L sx D cA k0 s0 pc ls (vI y :: vI x :: st) σ :=
  gs_of k (fun I => I.pop.pop.push hr) (fun _ _ lsA _ _ _ _ hl kk => lv_iadd C.1 C.2.1 hd (by rw [← Int32.ofInt_add]; exact kk lsA hl))
theorem gs_isub (C : Cx p s m args c cc nL own D cA) {pc : Nat} {ls st : List AV} {σ : Sg} {x y : Int} (hd : decode cc pc = .ok (.isub, 1)) (hr : inR (x - y)) (k : GW p l e R s m args below meth c Q nL n0 b L sx D cA k0 s0 (pc + 1) ls (vI (x - y) :: st) σ) : GW p l e R s m args below meth c Q nL n0 b L sx D cA k0 s0 pc ls (vI y :: vI x :: st) σ :=
  gs_of k (fun I => I.pop.pop.push hr) (fun _ _ lsA _ _ _ _ hl kk => lv_isub C.1 C.2.1 hd (by rw [← Int32.ofInt_sub]; exact kk lsA hl))
theorem gs_imul (C : Cx p s m args c cc nL own D cA) {pc : Nat} {ls st : List AV} {σ : Sg} {x y : Int} (hd : decode cc pc = .ok (.imul, 1)) (hr : inR (x * y)) (k : GW p l e R s m args below meth c Q nL n0 b L sx D cA k0 s0 (pc + 1) ls (vI (x * y) :: st) σ) : GW p l e R s m args below meth c Q nL n0 b L sx D cA k0 s0 pc ls (vI y :: vI x :: st) σ :=
  gs_of k (fun I => I.pop.pop.push hr) (fun _ _ lsA _ _ _ _ hl kk => lv_imul C.1 C.2.1 hd (by rw [← Int32.ofInt_mul]; exact kk lsA hl))
theorem nz32 {y : Int} (hy : 0 < y) (h : inR y) : ¬ Int32.ofInt y = 0 := fun q => by
  have := (n32_eq (y := 0) h ⟨by omega, by omega⟩).mp q
  omega
theorem gs_idiv (C : Cx p s m args c cc nL own D cA) {pc : Nat} {ls st : List AV} {σ : Sg} {x y : Int} (hd : decode cc pc = .ok (.idiv, 1)) (hx : 0 ≤ x) (hy : 0 < y) (k : GW p l e R s m args below meth c Q nL n0 b L sx D cA k0 s0 (pc + 1) ls (vI (x / y) :: st) σ) : GW p l e R s m args below meth c Q nL n0 b L sx D cA k0 s0 pc ls (vI y :: vI x :: st) σ :=
  gs_of k (fun I => I.pop.pop.push (show inR (x / y) from by
    have h1 : inR x := I.pop.hd
    have h2 := Int.ediv_nonneg hx (Int.le_of_lt hy)
    have h3 := Int.ediv_le_self y hx
    have := h1.2
    exact ⟨by omega, by omega⟩)) (fun _ _ lsA _ _ I _ hl kk => lv_idiv C.1 C.2.1 hd (nz32 hy I.hd) (by rw [n32_div hx hy I.pop.hd I.hd]; exact kk lsA hl))
theorem gs_irem (C : Cx p s m args c cc nL own D cA) {pc : Nat} {ls st : List AV} {σ : Sg} {x y : Int} (hd : decode cc pc = .ok (.irem, 1)) (hx : 0 ≤ x) (hy : 0 < y) (k : GW p l e R s m args below meth c Q nL n0 b L sx D cA k0 s0 (pc + 1) ls (vI (x % y) :: st) σ) : GW p l e R s m args below meth c Q nL n0 b L sx D cA k0 s0 pc ls (vI y :: vI x :: st) σ :=
  gs_of k (fun I => I.pop.pop.push (show inR (x % y) from by
    have h1 : inR y := I.hd
    have h2 := Int.emod_nonneg x (show y ≠ 0 by omega)
    have h3 := Int.emod_lt_of_pos x hy
    have := h1.2
    exact ⟨by omega, by omega⟩)) (fun _ _ lsA _ _ I _ hl kk => lv_irem C.1 C.2.1 hd (nz32 hy I.hd) (by rw [n32_mod hx hy I.pop.hd I.hd]; exact kk lsA hl))
theorem gs_ineg (C : Cx p s m args c cc nL own D cA) {pc : Nat} {ls st : List AV} {σ : Sg} {x : Int} (hd : decode cc pc = .ok (.ineg, 1)) (hr : inR (-x)) (k : GW p l e R s m args below meth c Q nL n0 b L sx D cA k0 s0 (pc + 1) ls (vI (-x) :: st) σ) : GW p l e R s m args below meth c Q nL n0 b L sx D cA k0 s0 pc ls (vI x :: st) σ :=
  gs_of k (fun I => I.pop.push hr) (fun _ _ lsA _ _ _ _ hl kk => lv_ineg C.1 C.2.1 hd (by rw [← Int32.ofInt_neg]; exact kk lsA hl))
theorem gs_iand (C : Cx p s m args c cc nL own D cA) {pc : Nat} {ls st : List AV} {σ : Sg} {x y : Int} (hd : decode cc pc = .ok (.iand, 1)) (k : GW p l e R s m args below meth c Q nL n0 b L sx D cA k0 s0 (pc + 1) ls (vI (iAnd x y) :: st) σ) : GW p l e R s m args below meth c Q nL n0 b L sx D cA k0 s0 pc ls (vI y :: vI x :: st) σ :=
  gs_of k (fun I => I.pop.pop.push (r32 _)) (fun _ _ lsA _ _ _ _ hl kk => lv_iand C.1 C.2.1 hd (by have h := kk lsA hl; simp only [List.map_cons, cv, iAnd, Int32.ofInt_toInt] at h; exact h))
theorem gs_ior (C : Cx p s m args c cc nL own D cA) {pc : Nat} {ls st : List AV} {σ : Sg} {x y : Int} (hd : decode cc pc = .ok (.ior, 1)) (k : GW p l e R s m args below meth c Q nL n0 b L sx D cA k0 s0 (pc + 1) ls (vI (iOr x y) :: st) σ) : GW p l e R s m args below meth c Q nL n0 b L sx D cA k0 s0 pc ls (vI y :: vI x :: st) σ :=
  gs_of k (fun I => I.pop.pop.push (r32 _)) (fun _ _ lsA _ _ _ _ hl kk => lv_ior C.1 C.2.1 hd (by have h := kk lsA hl; simp only [List.map_cons, cv, iOr, Int32.ofInt_toInt] at h; exact h))
theorem gs_ixor (C : Cx p s m args c cc nL own D cA) {pc : Nat} {ls st : List AV} {σ : Sg} {x y : Int} (hd : decode cc pc = .ok (.ixor, 1)) (k : GW p l e R s m args below meth c Q nL n0 b L sx D cA k0 s0 (pc + 1) ls (vI (iXor x y) :: st) σ) : GW p l e R s m args below meth c Q nL n0 b L sx D cA k0 s0 pc ls (vI y :: vI x :: st) σ :=
  gs_of k (fun I => I.pop.pop.push (r32 _)) (fun _ _ lsA _ _ _ _ hl kk => lv_ixor C.1 C.2.1 hd (by have h := kk lsA hl; simp only [List.map_cons, cv, iXor, Int32.ofInt_toInt] at h; exact h))
theorem gs_ishl (C : Cx p s m args c cc nL own D cA) {pc : Nat} {ls st : List AV} {σ : Sg} {x y : Int} (hd : decode cc pc = .ok (.ishl, 1)) (hx : 0 ≤ x) (hy : 0 ≤ y) (hy2 : y ≤ 30) (h : x * 2 ^ y.toNat ≤ 2147483647) (k : GW p l e R s m args below meth c Q nL n0 b L sx D cA k0 s0 (pc + 1) ls (vI (x * 2 ^ y.toNat) :: st) σ) : GW p l e R s m args below meth c Q nL n0 b L sx D cA k0 s0 pc ls (vI y :: vI x :: st) σ :=
  gs_of k (fun I => I.pop.pop.push (show inR _ from ⟨by have := Int.mul_nonneg hx (Int.le_of_lt (show (0 : Int) < 2 ^ y.toNat from Int.pow_pos (by omega))); omega, by omega⟩)) (fun _ _ lsA _ _ _ _ hl kk => lv_ishl C.1 C.2.1 hd (by rw [n32_shl hx hy hy2 h]; exact kk lsA hl))
theorem gs_ishr (C : Cx p s m args c cc nL own D cA) {pc : Nat} {ls st : List AV} {σ : Sg} {x y : Int} (hd : decode cc pc = .ok (.ishr, 1)) (hx : 0 ≤ x) (hy : 0 ≤ y) (hy2 : y ≤ 30) (k : GW p l e R s m args below meth c Q nL n0 b L sx D cA k0 s0 (pc + 1) ls (vI (x / 2 ^ y.toNat) :: st) σ) : GW p l e R s m args below meth c Q nL n0 b L sx D cA k0 s0 pc ls (vI y :: vI x :: st) σ :=
  gs_of k (fun I => I.pop.pop.push (div_in _ hx I.pop.hd)) (fun _ _ lsA _ _ I _ hl kk => lv_ishr C.1 C.2.1 hd (by rw [n32_shr hx hy hy2 I.pop.hd]; exact kk lsA hl))
theorem gs_iushr (C : Cx p s m args c cc nL own D cA) {pc : Nat} {ls st : List AV} {σ : Sg} {x y : Int} (hd : decode cc pc = .ok (.iushr, 1)) (hx : 0 ≤ x) (hy : 0 ≤ y) (hy2 : y ≤ 30) (k : GW p l e R s m args below meth c Q nL n0 b L sx D cA k0 s0 (pc + 1) ls (vI (x / 2 ^ y.toNat) :: st) σ) : GW p l e R s m args below meth c Q nL n0 b L sx D cA k0 s0 pc ls (vI y :: vI x :: st) σ :=
  gs_of k (fun I => I.pop.pop.push (div_in _ hx I.pop.hd)) (fun _ _ lsA _ _ I _ hl kk => lv_iushr C.1 C.2.1 hd (n32_ushr hx hy hy2 I.pop.hd) (kk lsA hl))
theorem gs_i2l (C : Cx p s m args c cc nL own D cA) {pc : Nat} {ls st : List AV} {σ : Sg} {x : Int} (hd : decode cc pc = .ok (.i2l, 1)) (k : GW p l e R s m args below meth c Q nL n0 b L sx D cA k0 s0 (pc + 1) ls (vL x :: st) σ) : GW p l e R s m args below meth c Q nL n0 b L sx D cA k0 s0 pc ls (vI x :: st) σ :=
  gs_of k (fun I => I.pop.push (show inL x from by have h : inR x := I.hd; have := h.1; have := h.2; exact ⟨by omega, by omega⟩)) (fun _ _ lsA _ _ I _ hl kk => lv_i2l (v := Int64.ofInt x) C.1 C.2.1 hd (by
    have h : inR x := I.hd
    have h1 := h.1
    have h2 := h.2
    apply Int64.toInt_inj.mp
    rw [Int32.toInt_toInt64, n32 h, n64 ⟨by omega, by omega⟩]) (kk lsA hl))
theorem gs_i2b (C : Cx p s m args c cc nL own D cA) {pc : Nat} {ls st : List AV} {σ : Sg} {x : Int} (hd : decode cc pc = .ok (.i2b, 1)) (k : GW p l e R s m args below meth c Q nL n0 b L sx D cA k0 s0 (pc + 1) ls (vI (i2B x) :: st) σ) : GW p l e R s m args below meth c Q nL n0 b L sx D cA k0 s0 pc ls (vI x :: st) σ :=
  gs_of k (fun I => I.pop.push (r32 _)) (fun _ _ lsA _ _ _ _ hl kk => lv_i2b (v := Int32.ofInt (i2B x)) C.1 C.2.1 hd (by unfold i2B; rw [Int32.ofInt_toInt]) (kk lsA hl))
theorem gs_i2s (C : Cx p s m args c cc nL own D cA) {pc : Nat} {ls st : List AV} {σ : Sg} {x : Int} (hd : decode cc pc = .ok (.i2s, 1)) (k : GW p l e R s m args below meth c Q nL n0 b L sx D cA k0 s0 (pc + 1) ls (vI (i2S x) :: st) σ) : GW p l e R s m args below meth c Q nL n0 b L sx D cA k0 s0 pc ls (vI x :: st) σ :=
  gs_of k (fun I => I.pop.push (r32 _)) (fun _ _ lsA _ _ _ _ hl kk => lv_i2s (v := Int32.ofInt (i2S x)) C.1 C.2.1 hd (by unfold i2S; rw [Int32.ofInt_toInt]) (kk lsA hl))
theorem gs_ladd (C : Cx p s m args c cc nL own D cA) {pc : Nat} {ls st : List AV} {σ : Sg} {x y : Int} (hd : decode cc pc = .ok (.ladd, 1)) (k : GW p l e R s m args below meth c Q nL n0 b L sx D cA k0 s0 (pc + 1) ls (vL (lAdd x y) :: st) σ) : GW p l e R s m args below meth c Q nL n0 b L sx D cA k0 s0 pc ls (vL y :: vL x :: st) σ :=
  gs_of k (fun I => I.pop.pop.push (r64 _)) (fun _ _ lsA _ _ _ _ hl kk => lv_ladd C.1 C.2.1 hd (by have h := kk lsA hl; simp only [List.map_cons, cv, lAdd, Int64.ofInt_toInt] at h; exact h))
theorem gs_lmul (C : Cx p s m args c cc nL own D cA) {pc : Nat} {ls st : List AV} {σ : Sg} {x y : Int} (hd : decode cc pc = .ok (.lmul, 1)) (k : GW p l e R s m args below meth c Q nL n0 b L sx D cA k0 s0 (pc + 1) ls (vL (lMul x y) :: st) σ) : GW p l e R s m args below meth c Q nL n0 b L sx D cA k0 s0 pc ls (vL y :: vL x :: st) σ :=
  gs_of k (fun I => I.pop.pop.push (r64 _)) (fun _ _ lsA _ _ _ _ hl kk => lv_lmul C.1 C.2.1 hd (by have h := kk lsA hl; simp only [List.map_cons, cv, lMul, Int64.ofInt_toInt] at h; exact h))
theorem gs_lcmp (C : Cx p s m args c cc nL own D cA) {pc : Nat} {ls st : List AV} {σ : Sg} {x y : Int} (hd : decode cc pc = .ok (.lcmp, 1)) (k : GW p l e R s m args below meth c Q nL n0 b L sx D cA k0 s0 (pc + 1) ls (vI (if x < y then -1 else if x = y then 0 else 1) :: st) σ) : GW p l e R s m args below meth c Q nL n0 b L sx D cA k0 s0 pc ls (vL y :: vL x :: st) σ :=
  gs_of k (fun I => I.pop.pop.push (show inR _ from by (repeat' split) <;> exact ⟨by omega, by omega⟩)) (fun _ _ lsA _ _ I _ hl kk => W.lcmp C.1 C.2.1 hd (by
    have h := kk lsA hl
    have hx : inL x := I.pop.hd
    have hy : inL y := I.hd
    have e : lg_cmp (Int64.ofInt x) (Int64.ofInt y) = Int32.ofInt (if x < y then -1 else if x = y then 0 else 1) := by
      unfold lg_cmp
      simp only [gt_iff_lt, Int64.lt_iff_toInt_lt, ← Int64.toInt_inj, n64 hx, n64 hy]
      by_cases h1 : x < y
      · rw [if_neg (by omega), if_neg (by omega), if_pos h1]; rfl
      · by_cases h2 : x = y
        · rw [if_neg (by omega), if_pos h2, if_neg h1, if_pos h2]; rfl
        · rw [if_pos (by omega), if_neg h1, if_neg h2]; rfl
    rw [e]
    exact h))
theorem gs_dup (C : Cx p s m args c cc nL own D cA) {pc : Nat} {ls st : List AV} {σ : Sg} {v : AV} (hd : decode cc pc = .ok (.dup, 1)) (hc : cat2 v = false) (k : GW p l e R s m args below meth c Q nL n0 b L sx D cA k0 s0 (pc + 1) ls (v :: v :: st) σ) : GW p l e R s m args below meth c Q nL n0 b L sx D cA k0 s0 pc ls (v :: st) σ :=
  gs_of k (fun I => I.push I.hd) (fun _ _ lsA _ _ _ _ hl kk => lv_dup C.1 C.2.1 hd (cv_cat hc) (kk lsA hl))
theorem gs_dup2 (C : Cx p s m args c cc nL own D cA) {pc : Nat} {ls st : List AV} {σ : Sg} {v w : AV} (hd : decode cc pc = .ok (.dup2, 1)) (hc : cat2 v = false) (hc2 : cat2 w = false) (k : GW p l e R s m args below meth c Q nL n0 b L sx D cA k0 s0 (pc + 1) ls (v :: w :: v :: w :: st) σ) : GW p l e R s m args below meth c Q nL n0 b L sx D cA k0 s0 pc ls (v :: w :: st) σ :=
  gs_of k (fun I => (I.push I.pop.hd).push I.hd) (fun _ _ lsA _ _ _ _ hl kk => lv_dup2_11 C.1 C.2.1 hd (cv_cat hc) (cv_cat hc2) (kk lsA hl))
theorem gs_goto (C : Cx p s m args c cc nL own D cA) {pc tgt : Nat} {off : Int} {ls st : List AV} {σ : Sg} (hd : decode cc pc = .ok (.goto off, 3)) (ht : (pc : Int) + off = (tgt : Int)) (k : GW p l e R s m args below meth c Q nL n0 b L sx D cA k0 s0 tgt ls st σ) : GW p l e R s m args below meth c Q nL n0 b L sx D cA k0 s0 pc ls st σ :=
  gs_of k (fun I => I) (fun _ _ lsA _ _ _ _ hl kk => lv_goto C.1 C.2.1 hd ht (kk lsA hl))
theorem gs_if2 {pc t1 t2 : Nat} {ls st ls' st' : List AV} {σ : Sg} {P : Prop} (hI : INV ls st σ → INV ls' st' σ)
    (h : ∀ (H : Heap) (locs : List Loc) (lsA : Array Slot) (cells slots : Nat), INV ls st σ → LH n0 b lsA nL ls → (P → W p l e R s m args below meth c H locs cells slots Q (F0 m t1 lsA (st'.map (cv n0 b)))) → (¬ P → W p l e R s m args below meth c H locs cells slots Q (F0 m t2 lsA (st'.map (cv n0 b)))) → W p l e R s m args below meth c H locs cells slots Q (F0 m pc lsA (st.map (cv n0 b))))
    (hls : ls' = ls) (k1 : P → GW p l e R s m args below meth c Q nL n0 b L sx D cA k0 s0 t1 ls' st' σ) (k2 : ¬ P → GW p l e R s m args below meth c Q nL n0 b L sx D cA k0 s0 t2 ls' st' σ) : GW p l e R s m args below meth c Q nL n0 b L sx D cA k0 s0 pc ls st σ := fun H locs lsA I hW hL hl h1 h2 h3 => by
  subst hls
  exact h H locs lsA _ _ I hl (fun q => k1 q H locs lsA (hI I) hW hL hl h1 h2 h3) (fun q => k2 q H locs lsA (hI I) hW hL hl h1 h2 h3)
theorem z32 : inR 0 := ⟨by omega, by omega⟩
theorem gs_if (C : Cx p s m args c cc nL own D cA) {pc tgt : Nat} {off : Int} {ls st : List AV} {σ : Sg} {x : Int} {c0 : Jvm.ClassFile.Cond} (hd : decode cc pc = .ok (.ifCond c0 off, 3)) (ht : (pc : Int) + off = (tgt : Int)) (k1 : cnd c0 x 0 = true → GW p l e R s m args below meth c Q nL n0 b L sx D cA k0 s0 tgt ls st σ) (k2 : ¬ cnd c0 x 0 = true → GW p l e R s m args below meth c Q nL n0 b L sx D cA k0 s0 (pc + 3) ls st σ) : GW p l e R s m args below meth c Q nL n0 b L sx D cA k0 s0 pc ls (vI x :: st) σ := by
  refine gs_if2 (fun I => I.pop) (fun H locs lsA cells slots I hl q1 q2 => ?_) rfl k1 k2
  have hx : inR x := I.hd
  cases c0
  · exact lv_if_eq C.1 C.2.1 hd ht (fun z => q1 (by simpa [cnd] using (n32_eq hx z32).mp z)) (fun z => q2 (by simpa [cnd] using fun z2 => z ((n32_eq hx z32).mpr z2)))
  · exact lv_if_ne C.1 C.2.1 hd ht (fun z => q1 (by simpa [cnd] using fun z2 => z ((n32_eq hx z32).mpr z2))) (fun z => q2 (by simpa [cnd] using (n32_eq hx z32).mp z))
  · exact lv_if_lt C.1 C.2.1 hd ht (fun z => q1 (by simpa [cnd] using (n32_lt hx z32).mp z)) (fun z => q2 (by have := fun z2 => z ((n32_lt hx z32).mpr z2); simpa [cnd] using this))
  · exact lv_if_ge C.1 C.2.1 hd ht (fun z => q1 (by simpa [cnd] using (n32_le z32 hx).mp z)) (fun z => q2 (by have := fun z2 => z ((n32_le z32 hx).mpr z2); simpa [cnd] using this))
  · exact lv_if_gt C.1 C.2.1 hd ht (fun z => q1 (by simpa [cnd] using (n32_lt z32 hx).mp z)) (fun z => q2 (by have := fun z2 => z ((n32_lt z32 hx).mpr z2); simpa [cnd] using this))
  · exact lv_if_le C.1 C.2.1 hd ht (fun z => q1 (by simpa [cnd] using (n32_le hx z32).mp z)) (fun z => q2 (by have := fun z2 => z ((n32_le hx z32).mpr z2); simpa [cnd] using this))
theorem gs_icmp (C : Cx p s m args c cc nL own D cA) {pc tgt : Nat} {off : Int} {ls st : List AV} {σ : Sg} {x y : Int} {c0 : Jvm.ClassFile.Cond} (hd : decode cc pc = .ok (.if_icmp c0 off, 3)) (ht : (pc : Int) + off = (tgt : Int)) (k1 : cnd c0 x y = true → GW p l e R s m args below meth c Q nL n0 b L sx D cA k0 s0 tgt ls st σ) (k2 : ¬ cnd c0 x y = true → GW p l e R s m args below meth c Q nL n0 b L sx D cA k0 s0 (pc + 3) ls st σ) : GW p l e R s m args below meth c Q nL n0 b L sx D cA k0 s0 pc ls (vI y :: vI x :: st) σ := by
  refine gs_if2 (fun I => I.pop.pop) (fun H locs lsA cells slots I hl q1 q2 => ?_) rfl k1 k2
  have hx : inR x := I.pop.hd
  have hy : inR y := I.hd
  cases c0
  · exact lv_icmp_eq C.1 C.2.1 hd ht (fun z => q1 (by simpa [cnd] using (n32_eq hx hy).mp z)) (fun z => q2 (by simpa [cnd] using fun z2 => z ((n32_eq hx hy).mpr z2)))
  · exact lv_icmp_ne C.1 C.2.1 hd ht (fun z => q1 (by simpa [cnd] using fun z2 => z ((n32_eq hx hy).mpr z2))) (fun z => q2 (by simpa [cnd] using (n32_eq hx hy).mp z))
  · exact lv_icmp_lt C.1 C.2.1 hd ht (fun z => q1 (by simpa [cnd] using (n32_lt hx hy).mp z)) (fun z => q2 (by have := fun z2 => z ((n32_lt hx hy).mpr z2); simpa [cnd] using this))
  · exact lv_icmp_ge C.1 C.2.1 hd ht (fun z => q1 (by simpa [cnd] using (n32_le hy hx).mp z)) (fun z => q2 (by have := fun z2 => z ((n32_le hy hx).mpr z2); simpa [cnd] using this))
  · exact lv_icmp_gt C.1 C.2.1 hd ht (fun z => q1 (by simpa [cnd] using (n32_lt hy hx).mp z)) (fun z => q2 (by have := fun z2 => z ((n32_lt hy hx).mpr z2); simpa [cnd] using this))
  · exact lv_icmp_le C.1 C.2.1 hd ht (fun z => q1 (by simpa [cnd] using (n32_le hx hy).mp z)) (fun z => q2 (by have := fun z2 => z ((n32_le hx hy).mpr z2); simpa [cnd] using this))
theorem gs_tswIn (C : Cx p s m args c cc nL own D cA) {pc tgt len : Nat} {off dflt lo hi : Int} {offs : Array Int} {ls st : List AV} {σ : Sg} {x : Int} (hd : decode cc pc = .ok (.tableswitch dflt lo hi offs, len)) (h1 : lo ≤ x) (h2 : x ≤ hi) (ho : offs[(x - lo).toNat]? = some off) (ht : (pc : Int) + off = (tgt : Int)) (k : GW p l e R s m args below meth c Q nL n0 b L sx D cA k0 s0 tgt ls st σ) : GW p l e R s m args below meth c Q nL n0 b L sx D cA k0 s0 pc ls (vI x :: st) σ :=
  gs_of k (fun I => I.pop) (fun _ _ lsA _ _ I _ hl kk => lv_tableIn C.1 C.2.1 hd (by rw [n32 I.hd]; omega) (by rw [n32 I.hd]; omega) (by rw [n32 I.hd]; exact ho) ht (kk lsA hl))
theorem gs_tswOut (C : Cx p s m args c cc nL own D cA) {pc tgt len : Nat} {dflt lo hi : Int} {offs : Array Int} {ls st : List AV} {σ : Sg} {x : Int} (hd : decode cc pc = .ok (.tableswitch dflt lo hi offs, len)) (h : x < lo ∨ hi < x) (ht : (pc : Int) + dflt = (tgt : Int)) (k : GW p l e R s m args below meth c Q nL n0 b L sx D cA k0 s0 tgt ls st σ) : GW p l e R s m args below meth c Q nL n0 b L sx D cA k0 s0 pc ls (vI x :: st) σ :=
  gs_of k (fun I => I.pop) (fun _ _ lsA _ _ I _ hl kk => lv_tableOut C.1 C.2.1 hd (by rw [n32 I.hd]; exact h) ht (kk lsA hl))
theorem gs_lsw (C : Cx p s m args c cc nL own D cA) {pc tgt len : Nat} {off dflt : Int} {ps : Array (Int × Int)} {ls st : List AV} {σ : Sg} {x : Int} (hd : decode cc pc = .ok (.lookupswitch dflt ps, len)) (hp : (ps.toList.zip (ps.toList.drop 1)).all (fun (a, next) => a.1 < next.1) = true) (ho : Op.lookupswitch.offset ps.toList dflt x = off) (ht : (pc : Int) + off = (tgt : Int)) (k : GW p l e R s m args below meth c Q nL n0 b L sx D cA k0 s0 tgt ls st σ) : GW p l e R s m args below meth c Q nL n0 b L sx D cA k0 s0 pc ls (vI x :: st) σ :=
  gs_of k (fun I => I.pop) (fun _ _ lsA _ _ I _ hl kk => lv_lookup C.1 C.2.1 hd hp (by rw [n32 I.hd]; exact ho) ht (kk lsA hl))
end GS
end
section
theorem lay_in {ws : List Jvm.Cond} (ps : List Nat) (h : ws = ps.filterMap (fun i => lw_tbl[i]?)) (hg : ws.all goodWord = true) : ∀ w ∈ ws, w ∈ bigW := by
  intro w hw
  have h1 := List.all_eq_true.mp hg w hw
  rw [h] at hw
  obtain ⟨i, -, hi⟩ := List.mem_filterMap.mp hw
  exact bigW_of hi h1
theorem layX0 : ∀ w ∈ u_ws RX0 TX0 18, w ∈ bigW := lay_in [407, 409, 411, 413, 415, 417, 419, 421, 423, 425, 427, 429, 431, 433, 435, 437, 439, 441] (by decide +kernel) (by decide +kernel)
theorem layX1 : ∀ w ∈ u_ws RX1 TX1 13, w ∈ bigW := lay_in [298, 300, 302, 304, 306, 308, 310, 312, 314, 316, 318, 320, 322] (by decide +kernel) (by decide +kernel)
theorem layX2 : ∀ w ∈ u_ws RX2 TX2 3, w ∈ bigW := lay_in [357, 359, 361] (by decide +kernel) (by decide +kernel)
theorem layX3 : ∀ w ∈ u_ws RX3 TX3 18, w ∈ bigW := lay_in [470, 472, 474, 476, 478, 480, 482, 484, 486, 488, 490, 492, 494, 496, 498, 500, 502, 504] (by decide +kernel) (by decide +kernel)
theorem layX4 : ∀ w ∈ u_ws RX4 TX4 15, w ∈ bigW := lay_in [535, 537, 539, 541, 543, 545, 547, 549, 551, 553, 555, 557, 559, 561, 563] (by decide +kernel) (by decide +kernel)
theorem layX5 : ∀ w ∈ u_ws RX5 TX5 11, w ∈ bigW := lay_in [238, 240, 242, 244, 246, 248, 250, 252, 254, 256, 258] (by decide +kernel) (by decide +kernel)
theorem layX6 : ∀ w ∈ u_ws RX6 TX6 4, w ∈ bigW := lay_in [339, 341, 343, 345] (by decide +kernel) (by decide +kernel)
theorem layX7 : ∀ w ∈ u_ws RX7 TX7 5, w ∈ bigW := lay_in [180, 182, 184, 186, 188] (by decide +kernel) (by decide +kernel)
theorem layX8 : ∀ w ∈ u_ws RX8 TX8 10, w ∈ bigW := lay_in [576, 578, 580, 582, 584, 586, 588, 590, 592, 594] (by decide +kernel) (by decide +kernel)
theorem layX9 : ∀ w ∈ u_ws RX9 TX9 65, w ∈ bigW := lay_in [1219, 1221, 1223, 1225, 1227, 1229, 1231, 1233, 1235, 1237, 1239, 1241, 1243, 1245, 1247, 1249, 1251, 1253, 1255, 1257, 1259, 1261, 1263, 1265, 1267, 1269, 1271, 1273, 1275, 1277, 1279, 1281, 1283, 1285, 1287, 1289, 1291, 1293, 1295, 1297, 1299, 1301, 1303, 1305, 1307, 1309, 1311, 1313, 1315, 1317, 1319, 1321, 1323, 1325, 1327, 1329, 1331, 1333, 1335, 1337, 1339, 1341, 1343, 1345, 1347] (by decide +kernel) (by decide +kernel)
def clD (ci : Nat) : vw_C := vwCl.getD ci (RX0, TX0, 18)
def tyD (ci : Nat) : Nat → FieldType := ([tyX0, tyX1, tyX2, tyX3, tyX4, tyX5, tyX6, tyX7, tyX8, tyX9] : List (Nat → FieldType)).getD ci tyX0
theorem cl_10 {P : Nat → Prop} (h0 : P 0) (h1 : P 1) (h2 : P 2) (h3 : P 3) (h4 : P 4) (h5 : P 5) (h6 : P 6) (h7 : P 7) (h8 : P 8) (h9 : P 9) : ∀ ci, ci < 10 → P ci := by
  intro ci h
  rcases (show ci = 0 ∨ ci = 1 ∨ ci = 2 ∨ ci = 3 ∨ ci = 4 ∨ ci = 5 ∨ ci = 6 ∨ ci = 7 ∨ ci = 8 ∨ ci = 9 by omega) with rfl | rfl | rfl | rfl | rfl | rfl | rfl | rfl | rfl | rfl <;> assumption
theorem cl_get : ∀ ci, ci < 10 → vwCl[ci]? = some (clD ci) := cl_10 rfl rfl rfl rfl rfl rfl rfl rfl rfl rfl
theorem cl_N : ∀ ci, ci < 10 → (clD ci).2.2 = cnN ci := cl_10 rfl rfl rfl rfl rfl rfl rfl rfl rfl rfl
theorem cl_lay : ∀ ci, ci < 10 → ∀ w ∈ u_ws (clD ci).1 (clD ci).2.1 (clD ci).2.2, w ∈ bigW := cl_10 layX0 layX1 layX2 layX3 layX4 layX5 layX6 layX7 layX8 layX9
theorem cl_ty : ∀ ci, ci < 10 → ∀ k, k < (clD ci).2.2 → parseFieldDescriptor ((clD ci).2.1 k).2.2.1 = some (tyD ci k) := cl_10 tyX0_ok tyX1_ok tyX2_ok tyX3_ok tyX4_ok tyX5_ok tyX6_ok tyX7_ok tyX8_ok tyX9_ok
theorem cl_nm : ∀ ci, ci < 10 → ∀ a, a < (clD ci).2.2 → ∀ b, b < (clD ci).2.2 → a ≠ b → ((clD ci).2.1 a).2.1 ≠ ((clD ci).2.1 b).2.1 := cl_10 nmX0 nmX1 nmX2 nmX3 nmX4 nmX5 nmX6 nmX7 nmX8 nmX9
def tkd (t : FieldType) : Nat := match t with
  | .int => 0
  | .boolean => 1
  | .object _ => 2
  | .array _ => 2
  | _ => 3
theorem cl_tk : ∀ ci, ci < 10 → ∀ k, k < cnN ci → tkd (tyD ci k) = ftk ci k := by decide +kernel
theorem tkd_0 {t : FieldType} (h : tkd t = 0) : t = .int := by cases t <;> simp [tkd] at h ⊢
theorem tkd_1 {t : FieldType} (h : tkd t = 1) : t = .boolean := by cases t <;> simp [tkd] at h ⊢
theorem tkd_2 {t : FieldType} (h : tkd t = 2) : (∃ n, t = .object n) ∨ ∃ u, t = .array u := by cases t <;> simp [tkd] at h ⊢
theorem tkd_lt : ∀ ci, ci < 10 → ∀ k, k < cnN ci → ftk ci k = 0 ∨ ftk ci k = 1 ∨ ftk ci k = 2 := by decide +kernel
section GH
variable {p : Program} {l : Launch} {e : Env} {R : Room} {s : State} {m : MethodId} {args : Array Value} {below : List Frame} {meth : Method} {c : Code} {Q : State → Prop} {cc : ByteArray} {nL : Nat} {own : String} {n0 b L k0 s0 : Nat} {sx : Int → Int} {D : va_G} {cA : Nat → ClassId}
theorem gs_end {ls st : List AV} {σ σ' : Sg} {pc : Nat} {H : Heap} {lsA : Array Slot} {cells slots : Nat} (k : GW p l e R s m args below meth c Q nL n0 b L sx D cA k0 s0 pc ls st σ') (I : INV ls st σ') (hW : WH n0 b L sx D cA s σ H) (hl : LH n0 b lsA nL ls) (hk0 : k0 ≤ σ'.1.length) (hs0 : s0 ≤ slN σ'.1) (hsz : s.heap.size = n0 + k0)
    (hc : cells = σ'.1.length - k0) (hs : slots = slN σ'.1 - s0) {H1 : Heap} {locs1 : List Loc} (hP : va_P D vwCl (wd n0 b cA σ') H1) (hS : va_S (fun q => n0 ≤ q) H H1 locs1) (hlow : n0 + σ'.1.length ≤ H1.size) : W p l e R s m args below meth c H1 locs1 cells slots Q (F0 m pc lsA (st.map (cv n0 b))) := by
  intro T hT X
  have hz := X.heapSize
  rw [hT, hsz] at hz
  have hz2 : H1.size = n0 + σ'.1.length := by omega
  subst hc
  subst hs
  obtain ⟨w1, w2, w3, w4, w5, w6⟩ := hW
  exact k H1 locs1 lsA I ⟨hz2, hP, w3.kept (hS.2.1 b (by omega) (by omega)), w4, w5, w6⟩ hS.2.2 hl hk0 hs0 hsz T hT X
theorem gs_same {ls st : List AV} {K : List (Nat × Nat)} {R0 R1 : Rfs} {M0 M1 : Mem} {pc : Nat} {H : Heap} {lsA : Array Slot} (k : GW p l e R s m args below meth c Q nL n0 b L sx D cA k0 s0 pc ls st (K, R1, M1)) (I : INV ls st (K, R1, M1)) (hW : WH n0 b L sx D cA s (K, R0, M0) H) (hl : LH n0 b lsA nL ls) (hk0 : k0 ≤ K.length) (hs0 : s0 ≤ slN K) (hsz : s.heap.size = n0 + k0)
    {H1 : Heap} {locs1 : List Loc} (hP : va_P D vwCl (wd n0 b cA (K, R1, M1)) H1) (hS : va_S (fun q => n0 ≤ q) H H1 locs1) : W p l e R s m args below meth c H1 locs1 (K.length - k0) (slN K - s0) Q (F0 m pc lsA (st.map (cv n0 b))) :=
  gs_end k I hW hl hk0 hs0 hsz rfl rfl hP hS (by have := hW.1; have := hS.1; dsimp only at *; omega)
theorem vaS_rf {n0 : Nat} {H : Heap} {locs : List Loc} (h : ∀ q ∈ locs, n0 ≤ q.base) : va_S (fun q => n0 ≤ q) H H locs := ⟨Nat.le_refl _, fun _ _ _ => rfl, h⟩
theorem cfs_at {R0 : Rfs} {M0 : Mem} {c0 ci k : Nat} (hk : k < cnN ci) : (cfs n0 b R0 M0 c0 ci)[k]? = some (if ftk ci k = 2 then cvR n0 b (R0 c0 k) else .int (Int32.ofInt (M0 c0 k))) := by
  unfold cfs
  rw [List.getElem?_map, List.getElem?_range hk, Option.map_some]
theorem cfs_len (R0 : Rfs) (M0 : Mem) (c0 ci : Nat) : (cfs n0 b R0 M0 c0 ci).length = cnN ci := by simp [cfs]
theorem ce_ob {R0 : Rfs} {M0 : Mem} {c0 : Nat} {q : Nat × Nat} (h : q.1 < 10) : ce n0 b cA R0 M0 c0 q = .inr (q.1, cfs n0 b R0 M0 c0 q.1) := by simp [ce, h]
theorem cfs_set {R0 : Rfs} {M0 : Mem} {c0 ci k : Nat} {v : Value} {R1 : Rfs} {M1 : Mem} (hk : k < cnN ci) (hv : (if ftk ci k = 2 then cvR n0 b (R1 c0 k) else .int (Int32.ofInt (M1 c0 k))) = v)
    (hR : ∀ j : Nat, j ≠ k → R1 c0 j = R0 c0 j) (hM : ∀ j : Nat, j ≠ k → M1 c0 j = M0 c0 j) : cfs n0 b R1 M1 c0 ci = (cfs n0 b R0 M0 c0 ci).set k v := by
  apply List.ext_getElem?
  intro i
  by_cases hi : i < cnN ci
  · rw [cfs_at hi]
    by_cases hik : i = k
    · subst hik
      rw [List.getElem?_set_self (by rw [cfs_len]; exact hi), hv]
    · rw [List.getElem?_set_ne (Ne.symm hik), cfs_at hi, hR i hik, hM i hik]
  · rw [List.getElem?_eq_none (by rw [cfs_len]; omega), List.getElem?_eq_none (by rw [List.length_set, cfs_len]; omega)]
theorem ce_other {R0 R1 : Rfs} {M0 M1 : Mem} {c0 : Nat} (hR : R1 c0 = R0 c0) (hM : M1 c0 = M0 c0) (q : Nat × Nat) : ce n0 b cA R1 M1 c0 q = ce n0 b cA R0 M0 c0 q := by
  simp only [ce, cfs, hR, hM]
theorem mset_ne {M0 : Mem} {c0 c1 : Nat} {k v : Int} (h : c1 ≠ c0) : mset M0 c0 k v c1 = M0 c1 := by funext j; simp [mset, h]
theorem rset_ne {R0 : Rfs} {c0 c1 : Nat} {k : Int} {v : Nat} (h : c1 ≠ c0) : rset R0 c0 k v c1 = R0 c1 := by funext j; simp [rset, h]
/-- a field's word: of the own class, or of a nest mate -/
def fldW (own : String) (index : Nat) (q : String × String × String × Bool) : Prop := Jvm.Cond.fieldLink own index q.1 q.2.1 q.2.2.1 ∈ bigW ∨ Jvm.Cond.fieldLinkNest own index q.1 q.2.1 q.2.2.1 "OneKnife" ∈ nstW
theorem gs_get (C : Cx p s m args c cc nL own D cA) {pc index ci k c0 n : Nat} {ls st : List AV} {σ : Sg} (hd : decode cc pc = .ok (.getfield index, 3)) (hK : σ.1[c0]? = some (ci, n)) (hci : ci < 10) (hk : k < cnN ci) (hw : fldW own index ((clD ci).2.1 k)) (kk : GW p l e R s m args below meth c Q nL n0 b L sx D cA k0 s0 (pc + 3) ls ((if ftk ci k = 2 then vR (σ.2.1 c0 k) else vI (σ.2.2 c0 k)) :: st) σ) : GW p l e R s m args below meth c Q nL n0 b L sx D cA k0 s0 pc ls (vR (c0 + 2) :: st) σ := by
  refine gs_of kk (fun I => I.pop.push (by
    split
    · trivial
    · exact I.2.2.1 c0 k)) (fun H locs lsA cells slots I hW hl k2 => ?_)
  have h2 := k2 lsA hl
  have he := wd_get (n0 := n0) (b := b) (cA := cA) hK
  rw [ce_ob hci] at he
  have hv := cfs_at (n0 := n0) (b := b) (R0 := σ.2.1) (M0 := σ.2.2) (c0 := c0) hk
  have hkN : k < (clD ci).2.2 := by rw [cl_N ci hci]; exact hk
  have e : cv n0 b (if ftk ci k = 2 then vR (σ.2.1 c0 k) else vI (σ.2.2 c0 k)) = (if ftk ci k = 2 then cvR n0 b (σ.2.1 c0 k) else .int (Int32.ofInt (σ.2.2 c0 k))) := by split <;> rfl
  simp only [List.map_cons] at h2
  rw [e] at h2
  rcases hw with hw | hw
  · exact va_get (D := D) C.1 C.2.1 C.2.2.2.2.1 (cl_lay ci hci) C.2.2.2.1 C.2.2.2.2.2.1 hW.2.1 c0 he (cl_get ci hci) k hkN (C.2.2.2.2.1 _ hw) (fun _ h => h) hv hd h2
  · exact va_getN (D := D) C.1 C.2.1 C.2.2.2.2.1 (cl_lay ci hci) C.2.2.2.1 C.2.2.2.2.2.1 hW.2.1 c0 he (cl_get ci hci) k hkN (C.2.2.2.2.2.2.1 _ hw) (fun _ h => h) hv hd h2
/-- a field's store, in general -/
theorem gs_put0 (C : Cx p s m args c cc nL own D cA) {pc index ci k c0 n : Nat} {ls st : List AV} {K : List (Nat × Nat)} {R0 R1 : Rfs} {M0 M1 : Mem} {v : AV} (hd : decode cc pc = .ok (.putfield index, 3)) (hK : K[c0]? = some (ci, n)) (hci : ci < 10) (hk : k < cnN ci) (hw : fldW own index ((clD ci).2.1 k))
    (hfin : ((clD ci).2.1 k).2.2.2 = false ∨ (((clD ci).2.1 k).2.2.2 = true ∧ meth.name = "<init>" ∧ ((clD ci).2.1 k).1 = own ∧ Jvm.Cond.fieldLink own index ((clD ci).2.1 k).1 ((clD ci).2.1 k).2.1 ((clD ci).2.1 k).2.2.1 ∈ bigW))
    (hn : narrow (tyD ci k) (cv n0 b v) = cv n0 b v) (hfit : fits (tyD ci k) (cv n0 b v) = true) (hv : (if ftk ci k = 2 then cvR n0 b (R1 c0 k) else .int (Int32.ofInt (M1 c0 k))) = cv n0 b v)
    (hR : ∀ j : Nat, j ≠ k → R1 c0 j = R0 c0 j) (hM : ∀ j : Nat, j ≠ k → M1 c0 j = M0 c0 j) (hRo : ∀ c', c' ≠ c0 → R1 c' = R0 c') (hMo : ∀ c', c' ≠ c0 → M1 c' = M0 c') (hIn : (∀ c j, inR (M0 c j)) → ∀ c j, inR (M1 c j) )
    (kk : GW p l e R s m args below meth c Q nL n0 b L sx D cA k0 s0 (pc + 3) ls st (K, R1, M1)) : GW p l e R s m args below meth c Q nL n0 b L sx D cA k0 s0 pc ls (v :: vR (c0 + 2) :: st) (K, R0, M0) := by
  intro H locs lsA I hW hL hl h1 h2 h3
  have he := wd_get (n0 := n0) (b := b) (cA := cA) (σ := (K, R0, M0)) hK
  rw [ce_ob hci] at he
  have hkN : k < (clD ci).2.2 := by rw [cl_N ci hci]; exact hk
  have hset : (wd n0 b cA (K, R0, M0)).set c0 (n0 + c0, .inr (ci, (cfs n0 b R0 M0 c0 ci).set k (cv n0 b v))) = wd n0 b cA (K, R1, M1) :=
    wd_set hK (by rw [ce_ob hci, cfs_set hk hv hR hM]) (fun c' q' hc' => ce_other (hRo c' hc') (hMo c' hc') q')
  have hI' : INV ls st (K, R1, M1) := I.pop.pop.mem (hIn I.2.2.1)
  have hend : ∀ (H1 : Heap) (locs1 : List Loc), va_P D vwCl ((wd n0 b cA (K, R0, M0)).set c0 (n0 + c0, .inr (ci, (cfs n0 b R0 M0 c0 ci).set k (cv n0 b v)))) H1 → va_D (fun q => n0 ≤ q) ((wd n0 b cA (K, R0, M0)).set c0 (n0 + c0, .inr (ci, (cfs n0 b R0 M0 c0 ci).set k (cv n0 b v)))) → va_S (fun q => n0 ≤ q) H H1 locs1 → W p l e R s m args below meth c H1 locs1 (K.length - k0) (slN K - s0) Q (F0 m (pc + 3) lsA (st.map (cv n0 b))) := fun H1 locs1 hP _ hS => by
    rw [hset] at hP
    exact gs_same kk hI' hW hl h1 h2 h3 hP hS
  have hlen : k < (cfs n0 b R0 M0 c0 ci).length := by rw [cfs_len]; exact hk
  rcases hfin with hf | ⟨hf, hf2, hf3, hf4⟩
  · rcases hw with hw | hw
    · exact va_put (D := D) C.1 C.2.1 C.2.2.2.2.1 (cl_lay ci hci) (tyD ci) (cl_ty ci hci) (cl_nm ci hci) C.2.2.2.1 C.2.2.2.2.2.1 hW.2.1 (wd_D n0 b cA (K, R0, M0)) (vaS_rf hL) c0 he (cl_get ci hci) k hkN (C.2.2.2.2.1 _ hw) (fun _ h => h) hf (cl_ty ci hci k hkN) hn hfit hlen hd hend
    · exact va_putN (D := D) C.1 C.2.1 C.2.2.2.2.1 (cl_lay ci hci) (tyD ci) (cl_ty ci hci) (cl_nm ci hci) C.2.2.2.1 C.2.2.2.2.2.1 hW.2.1 (wd_D n0 b cA (K, R0, M0)) (vaS_rf hL) c0 he (cl_get ci hci) k hkN (C.2.2.2.2.2.2.1 _ hw) (fun _ h => h) hf (cl_ty ci hci k hkN) hn hfit hlen hd hend
  · exact va_putF (D := D) C.1 C.2.1 C.2.2.2.2.1 (cl_lay ci hci) (tyD ci) (cl_ty ci hci) (cl_nm ci hci) C.2.2.2.1 C.2.2.2.2.2.1 hW.2.1 (wd_D n0 b cA (K, R0, M0)) (vaS_rf hL) c0 he (cl_get ci hci) k hkN (C.2.2.2.2.1 _ hf4) (fun _ h => h) hf hf2 hf3 (cl_ty ci hci k hkN) hn hfit hlen hd hend
def finW (own : String) (index : Nat) (meth : Method) (q : String × String × String × Bool) : Prop := q.2.2.2 = false ∨ (q.2.2.2 = true ∧ meth.name = "<init>" ∧ q.1 = own ∧ Jvm.Cond.fieldLink own index q.1 q.2.1 q.2.2.1 ∈ bigW)
theorem mset_eq (M0 : Mem) (c0 : Nat) (k v : Int) : mset M0 c0 k v c0 k = v := by simp [mset]
theorem mset_nk {M0 : Mem} {c0 : Nat} {k v j : Int} (h : j ≠ k) : mset M0 c0 k v c0 j = M0 c0 j := by simp [mset, h]
theorem rset_eq (R0 : Rfs) (c0 : Nat) (k : Int) (v : Nat) : rset R0 c0 k v c0 k = v := by simp [rset]
theorem rset_nk {R0 : Rfs} {c0 : Nat} {k j : Int} {v : Nat} (h : j ≠ k) : rset R0 c0 k v c0 j = R0 c0 j := by simp [rset, h]
theorem mset_in {M0 : Mem} {c0 : Nat} {k v : Int} (h : ∀ c j, inR (M0 c j)) (hv : inR v) : ∀ c j, inR (mset M0 c0 k v c j) := by
  intro c j
  unfold mset
  split
  · exact hv
  · exact h c j
theorem gs_putI (C : Cx p s m args c cc nL own D cA) {pc index ci k c0 n : Nat} {x : Int} {ls st : List AV} {σ : Sg} (hd : decode cc pc = .ok (.putfield index, 3)) (hK : σ.1[c0]? = some (ci, n)) (hci : ci < 10) (hk : k < cnN ci) (hw : fldW own index ((clD ci).2.1 k)) (hfin : finW own index meth ((clD ci).2.1 k))
    (hf2 : ¬ ftk ci k = 2) (hx : ftk ci k = 0 ∨ x = 0 ∨ x = 1) (kk : GW p l e R s m args below meth c Q nL n0 b L sx D cA k0 s0 (pc + 3) ls st (σ.1, σ.2.1, mset σ.2.2 c0 k x)) : GW p l e R s m args below meth c Q nL n0 b L sx D cA k0 s0 pc ls (vI x :: vR (c0 + 2) :: st) σ := by
  intro H locs lsA I hW hL hl h1 h2 h3
  have hx0 : inR x := I.hd
  have hr := cl_tk ci hci k hk
  have h5 : narrow (tyD ci k) (cv n0 b (vI x)) = cv n0 b (vI x) ∧ fits (tyD ci k) (cv n0 b (vI x)) = true := by
    rcases tkd_lt ci hci k hk with h | h | h
    · rw [tkd_0 (hr.trans h)]; exact ⟨rfl, rfl⟩
    · rw [tkd_1 (hr.trans h)]
      rcases hx with h0 | rfl | rfl
      · omega
      · exact ⟨rfl, rfl⟩
      · exact ⟨rfl, rfl⟩
    · exact absurd h hf2
  refine gs_put0 (R0 := σ.2.1) (M0 := σ.2.2) (K := σ.1) C hd hK hci hk hw hfin h5.1 h5.2 ?_ (fun _ _ => rfl) (fun j hj => mset_nk (by omega)) (fun _ _ => rfl) (fun c' hc' => mset_ne hc') (fun h => mset_in h hx0) kk H locs lsA I hW hL hl h1 h2 h3
  rw [if_neg hf2, mset_eq]; rfl
theorem gs_putR (C : Cx p s m args c cc nL own D cA) {pc index ci k c0 n x : Nat} {ls st : List AV} {σ : Sg} (hd : decode cc pc = .ok (.putfield index, 3)) (hK : σ.1[c0]? = some (ci, n)) (hci : ci < 10) (hk : k < cnN ci) (hw : fldW own index ((clD ci).2.1 k)) (hfin : finW own index meth ((clD ci).2.1 k))
    (hf2 : ftk ci k = 2) (kk : GW p l e R s m args below meth c Q nL n0 b L sx D cA k0 s0 (pc + 3) ls st (σ.1, rset σ.2.1 c0 k x, σ.2.2)) : GW p l e R s m args below meth c Q nL n0 b L sx D cA k0 s0 pc ls (vR x :: vR (c0 + 2) :: st) σ := by
  have hr := cl_tk ci hci k hk
  have h5 : narrow (tyD ci k) (cv n0 b (vR x)) = cv n0 b (vR x) ∧ fits (tyD ci k) (cv n0 b (vR x)) = true := by
    show narrow (tyD ci k) (va_rf (rfo n0 b x)) = va_rf (rfo n0 b x) ∧ fits (tyD ci k) (va_rf (rfo n0 b x)) = true
    rcases tkd_2 (hr.trans hf2) with ⟨u, hu⟩ | ⟨u, hu⟩ <;> rw [hu] <;> cases rfo n0 b x <;> exact ⟨rfl, rfl⟩
  refine gs_put0 (R0 := σ.2.1) (M0 := σ.2.2) (K := σ.1) C hd hK hci hk hw hfin h5.1 h5.2 ?_ (fun j hj => rset_nk (by omega)) (fun _ _ => rfl) (fun c' hc' => rset_ne hc') (fun _ _ => rfl) (fun h => h) kk
  rw [if_pos hf2, rset_eq]; rfl
end GH
end
section
section GA
variable {p : Program} {l : Launch} {e : Env} {R : Room} {s : State} {m : MethodId} {args : Array Value} {below : List Frame} {meth : Method} {c : Code} {Q : State → Prop} {cc : ByteArray} {nL : Nat} {own : String} {n0 b L k0 s0 : Nat} {sx : Int → Int} {D : va_G} {cA : Nat → ClassId}
theorem ce_ia {R0 : Rfs} {M0 : Mem} {c0 n : Nat} : ce n0 b cA R0 M0 c0 (10, n) = .inl (cA 0, n, .inl (fun j => Int32.ofInt (M0 c0 j))) := by simp [ce]
theorem ce_za {R0 : Rfs} {M0 : Mem} {c0 n : Nat} : ce n0 b cA R0 M0 c0 (11, n) = .inl (cA 1, n, .inl (fun j => Int32.ofInt (M0 c0 j))) := by simp [ce]
theorem ce_qa {R0 : Rfs} {M0 : Mem} {c0 n kd : Nat} (h : 12 ≤ kd) : ce n0 b cA R0 M0 c0 (kd, n) = .inl (cA (kd - 10), n, .inr (.inr (.inr (.inr (fun j => rfo n0 b (R0 c0 j)))))) := by
  have h1 : ¬ kd < 10 := by omega
  have h2 : ¬ kd < 12 := by omega
  simp [ce, h1, h2]
def elC (kd : Nat) : Nat := ([0, 1, 6] : List Nat).getD (kd - 12) 0
theorem ty5_at {kd : Nat} (h1 : 12 ≤ kd) (h2 : kd ≤ 14) : (ty5 cA)[kd - 10]? = some (cA (kd - 10), .object (clD (elC kd)).1) := by
  rcases (show kd = 12 ∨ kd = 13 ∨ kd = 14 by omega) with rfl | rfl | rfl <;> rfl
theorem elC_lt {kd : Nat} (h1 : 12 ≤ kd) (h2 : kd ≤ 14) : elC kd < 10 := by
  rcases (show kd = 12 ∨ kd = 13 ∨ kd = 14 by omega) with rfl | rfl | rfl <;> decide
theorem toN {j : Int} (h : 0 ≤ j) : ((j.toNat : Nat) : Int) = j := Int.toNat_of_nonneg h
theorem gs_iald (C : Cx p s m args c cc nL own D cA) {pc c0 n : Nat} {j : Int} {ls st : List AV} {σ : Sg} (hd : decode cc pc = .ok (.iaload, 1)) (hK : σ.1[c0]? = some (10, n)) (h0 : 0 ≤ j) (h1 : j < n) (kk : GW p l e R s m args below meth c Q nL n0 b L sx D cA k0 s0 (pc + 1) ls (vI (σ.2.2 c0 j) :: st) σ) : GW p l e R s m args below meth c Q nL n0 b L sx D cA k0 s0 pc ls (vI j :: vR (c0 + 2) :: st) σ := by
  refine gs_of kk (fun I => I.pop.pop.push (I.2.2.1 c0 j)) (fun H locs lsA cells slots I hW hl k2 => ?_)
  have he := wd_get (n0 := n0) (b := b) (cA := cA) hK
  rw [ce_ia] at he
  refine va_iald C.1 C.2.1 C.2.2.2.2.2.1 hW.2.1 c0 0 he rfl (n32_in h0 I.hd h1) hd ?_
  rw [n32_cl h0 I.hd, toN h0]
  exact k2 lsA hl
theorem gs_zald (C : Cx p s m args c cc nL own D cA) {pc c0 n : Nat} {j : Int} {ls st : List AV} {σ : Sg} (hd : decode cc pc = .ok (.baload, 1)) (hK : σ.1[c0]? = some (11, n)) (h0 : 0 ≤ j) (h1 : j < n) (kk : GW p l e R s m args below meth c Q nL n0 b L sx D cA k0 s0 (pc + 1) ls (vI (σ.2.2 c0 j) :: st) σ) : GW p l e R s m args below meth c Q nL n0 b L sx D cA k0 s0 pc ls (vI j :: vR (c0 + 2) :: st) σ := by
  refine gs_of kk (fun I => I.pop.pop.push (I.2.2.1 c0 j)) (fun H locs lsA cells slots I hW hl k2 => ?_)
  have he := wd_get (n0 := n0) (b := b) (cA := cA) hK
  rw [ce_za] at he
  refine va_zald C.1 C.2.1 C.2.2.2.2.2.1 hW.2.1 c0 1 he rfl (n32_in h0 I.hd h1) hd ?_
  rw [n32_cl h0 I.hd, toN h0]
  exact k2 lsA hl
theorem gs_qald (C : Cx p s m args c cc nL own D cA) {pc c0 n kd : Nat} {j : Int} {ls st : List AV} {σ : Sg} (hd : decode cc pc = .ok (.aaload, 1)) (hK : σ.1[c0]? = some (kd, n)) (hk1 : 12 ≤ kd) (hk2 : kd ≤ 14) (h0 : 0 ≤ j) (h1 : j < n) (kk : GW p l e R s m args below meth c Q nL n0 b L sx D cA k0 s0 (pc + 1) ls (vR (σ.2.1 c0 j) :: st) σ) : GW p l e R s m args below meth c Q nL n0 b L sx D cA k0 s0 pc ls (vI j :: vR (c0 + 2) :: st) σ := by
  refine gs_of kk (fun I => I.pop.pop.push trivial) (fun H locs lsA cells slots I hW hl k2 => ?_)
  have he := wd_get (n0 := n0) (b := b) (cA := cA) hK
  rw [ce_qa hk1] at he
  refine va_aldq C.1 C.2.1 C.2.2.2.2.2.1 hW.2.1 c0 (kd - 10) he (ty5_at hk1 hk2) (n32_in h0 I.hd h1) hd ?_
  rw [n32_cl h0 I.hd, toN h0]
  exact k2 lsA hl
theorem gs_sld (C : Cx p s m args c cc nL own D cA) {pc : Nat} {j : Int} {ls st : List AV} {σ : Sg} (hd : decode cc pc = .ok (.iaload, 1)) (h0 : 0 ≤ j) (h1 : j < L) (kk : GW p l e R s m args below meth c Q nL n0 b L sx D cA k0 s0 (pc + 1) ls (vI (sx j) :: st) σ) : GW p l e R s m args below meth c Q nL n0 b L sx D cA k0 s0 pc ls (vI j :: vR 1 :: st) σ := by
  intro H locs lsA I hW hL hl h1' h2' h3'
  have hlt : b < H.size := by have := hW.1; have := hW.2.2.2.1; omega
  refine va_sld (A := fun q => n0 ≤ q) C.1 C.2.1 hW.2.2.1 hlt (by have := hW.2.2.2.1; omega) (vaS_rf hL) (n32_in h0 I.hd h1) hd ?_
  rw [n32_cl h0 I.hd, toN h0]
  exact kk H locs lsA (I.pop.pop.push (hW.2.2.2.2.2 j)) hW hL hl h1' h2' h3'
theorem gs_slen (C : Cx p s m args c cc nL own D cA) {pc : Nat} {ls st : List AV} {σ : Sg} (hd : decode cc pc = .ok (.arraylength, 1)) (kk : GW p l e R s m args below meth c Q nL n0 b L sx D cA k0 s0 (pc + 1) ls (vI L :: st) σ) : GW p l e R s m args below meth c Q nL n0 b L sx D cA k0 s0 pc ls (vR 1 :: st) σ := by
  intro H locs lsA I hW hL hl h1' h2' h3'
  have hlt : b < H.size := by have := hW.1; have := hW.2.2.2.1; omega
  refine va_slen (A := fun q => n0 ≤ q) C.1 C.2.1 hW.2.2.1 hlt (by have := hW.2.2.2.1; omega) (vaS_rf hL) hd ?_
  exact kk H locs lsA (I.pop.push (show inR (L : Int) from by have := hW.2.2.2.2.1; exact ⟨by omega, by omega⟩)) hW hL hl h1' h2' h3'
theorem gs_alen (C : Cx p s m args c cc nL own D cA) {pc c0 n kd : Nat} {ls st : List AV} {σ : Sg} (hd : decode cc pc = .ok (.arraylength, 1)) (hK : σ.1[c0]? = some (kd, n)) (hk1 : 10 ≤ kd) (hk2 : kd ≤ 14) (kk : GW p l e R s m args below meth c Q nL n0 b L sx D cA k0 s0 (pc + 1) ls (vI n :: st) σ) : GW p l e R s m args below meth c Q nL n0 b L sx D cA k0 s0 pc ls (vR (c0 + 2) :: st) σ := by
  refine gs_of kk (fun I => I.pop.push (show inR (n : Int) from by have := I.2.2.2 _ (List.mem_of_getElem? hK); dsimp only at this; exact ⟨by omega, by omega⟩)) (fun H locs lsA cells slots I hW hl k2 => ?_)
  have he := wd_get (n0 := n0) (b := b) (cA := cA) hK
  rcases (show kd = 10 ∨ kd = 11 ∨ 12 ≤ kd by omega) with rfl | rfl | h
  · rw [ce_ia] at he
    exact va_alen C.1 C.2.1 C.2.2.2.2.2.1 hW.2.1 c0 0 he (ty := .int) rfl (v := Int32.ofInt n) rfl hd (k2 lsA hl)
  · rw [ce_za] at he
    exact va_alen C.1 C.2.1 C.2.2.2.2.2.1 hW.2.1 c0 1 he (ty := .boolean) rfl (v := Int32.ofInt n) rfl hd (k2 lsA hl)
  · rw [ce_qa h] at he
    exact va_alen C.1 C.2.1 C.2.2.2.2.2.1 hW.2.1 c0 (kd - 10) he (ty5_at h hk2) (v := Int32.ofInt n) rfl hd (k2 lsA hl)
theorem upd_mset {M0 : Mem} {c0 : Nat} {j x : Int} (h0 : 0 ≤ j) : upd (fun i : Nat => Int32.ofInt (M0 c0 i)) j.toNat (Int32.ofInt x) = fun i : Nat => Int32.ofInt (mset M0 c0 j x c0 i) := by
  funext i
  unfold upd
  by_cases h : i = j.toNat
  · rw [if_pos h, h, toN h0, mset_eq]
  · rw [if_neg h, mset_nk (by omega)]
theorem gs_iast (C : Cx p s m args c cc nL own D cA) {pc c0 n : Nat} {j x : Int} {ls st : List AV} {σ : Sg} (hd : decode cc pc = .ok (.iastore, 1)) (hK : σ.1[c0]? = some (10, n)) (h0 : 0 ≤ j) (h1 : j < n) (kk : GW p l e R s m args below meth c Q nL n0 b L sx D cA k0 s0 (pc + 1) ls st (σ.1, σ.2.1, mset σ.2.2 c0 j x)) : GW p l e R s m args below meth c Q nL n0 b L sx D cA k0 s0 pc ls (vI x :: vI j :: vR (c0 + 2) :: st) σ := by
  intro H locs lsA I hW hL hl h1' h2' h3'
  have he := wd_get (n0 := n0) (b := b) (cA := cA) hK
  rw [ce_ia] at he
  have hx : inR x := I.hd
  refine va_iast C.1 C.2.1 C.2.2.2.2.2.1 hW.2.1 (wd_D n0 b cA σ) (vaS_rf hL) c0 0 he rfl (n32_in h0 I.pop.hd h1) hd (fun H1 locs1 hP _ hS => ?_)
  rw [n32_cl h0 I.pop.hd, upd_mset h0, wd_set (K := σ.1) (R := σ.2.1) (M := σ.2.2) (R' := σ.2.1) (M' := mset σ.2.2 c0 j x) hK ce_ia (fun c' q' hc' => ce_other rfl (mset_ne hc') q')] at hP
  exact gs_same (R0 := σ.2.1) (M0 := σ.2.2) kk (I.pop.pop.pop.mem (mset_in I.2.2.1 hx)) hW hl h1' h2' h3' hP hS
theorem gs_zast (C : Cx p s m args c cc nL own D cA) {pc c0 n : Nat} {j x : Int} {ls st : List AV} {σ : Sg} (hd : decode cc pc = .ok (.bastore, 1)) (hK : σ.1[c0]? = some (11, n)) (h0 : 0 ≤ j) (h1 : j < n) (hx01 : x = 0 ∨ x = 1) (kk : GW p l e R s m args below meth c Q nL n0 b L sx D cA k0 s0 (pc + 1) ls st (σ.1, σ.2.1, mset σ.2.2 c0 j x)) : GW p l e R s m args below meth c Q nL n0 b L sx D cA k0 s0 pc ls (vI x :: vI j :: vR (c0 + 2) :: st) σ := by
  intro H locs lsA I hW hL hl h1' h2' h3'
  have he := wd_get (n0 := n0) (b := b) (cA := cA) hK
  rw [ce_za] at he
  have hx : inR x := I.hd
  have hz : vp_nar .boolean (Int32.ofInt x) = Int32.ofInt x := by rcases hx01 with rfl | rfl <;> decide +kernel
  refine va_zast C.1 C.2.1 C.2.2.2.2.2.1 hW.2.1 (wd_D n0 b cA σ) (vaS_rf hL) c0 1 he rfl (n32_in h0 I.pop.hd h1) hd (fun H1 locs1 hP _ hS => ?_)
  rw [hz, n32_cl h0 I.pop.hd, upd_mset h0, wd_set (K := σ.1) (R := σ.2.1) (M := σ.2.2) (R' := σ.2.1) (M' := mset σ.2.2 c0 j x) hK ce_za (fun c' q' hc' => ce_other rfl (mset_ne hc') q')] at hP
  exact gs_same (R0 := σ.2.1) (M0 := σ.2.2) kk (I.pop.pop.pop.mem (mset_in I.2.2.1 hx)) hW hl h1' h2' h3' hP hS
theorem upd_rset {R0 : Rfs} {c0 d : Nat} {j : Int} (h0 : 0 ≤ j) : va_up (fun i : Nat => rfo n0 b (R0 c0 i)) j.toNat (some (n0 + d)) = fun i : Nat => rfo n0 b (rset R0 c0 j (d + 2) c0 i) := by
  funext i
  unfold va_up
  by_cases h : i = j.toNat
  · rw [if_pos h, h, toN h0, rset_eq]; rfl
  · rw [if_neg h, rset_nk (by omega)]
theorem gs_qast (C : Cx p s m args c cc nL own D cA) {pc c0 n kd d nd : Nat} {j : Int} {ls st : List AV} {σ : Sg} (hd : decode cc pc = .ok (.aastore, 1)) (hK : σ.1[c0]? = some (kd, n)) (hk1 : 12 ≤ kd) (hk2 : kd ≤ 14) (hV : σ.1[d]? = some (elC kd, nd)) (h0 : 0 ≤ j) (h1 : j < n) (kk : GW p l e R s m args below meth c Q nL n0 b L sx D cA k0 s0 (pc + 1) ls st (σ.1, rset σ.2.1 c0 j (d + 2), σ.2.2)) : GW p l e R s m args below meth c Q nL n0 b L sx D cA k0 s0 pc ls (vR (d + 2) :: vI j :: vR (c0 + 2) :: st) σ := by
  intro H locs lsA I hW hL hl h1' h2' h3'
  have he := wd_get (n0 := n0) (b := b) (cA := cA) hK
  rw [ce_qa hk1] at he
  have hv := wd_get (n0 := n0) (b := b) (cA := cA) hV
  rw [ce_ob (elC_lt hk1 hk2)] at hv
  refine va_astq (r := clD (elC kd)) C.1 C.2.1 C.2.2.2.2.2.1 hW.2.1 (wd_D n0 b cA σ) (vaS_rf hL) c0 (kd - 10) d (elC kd) he (ty5_at hk1 hk2) hv (cl_get _ (elC_lt hk1 hk2)) (n32_in h0 I.pop.hd h1) hd (fun H1 locs1 hP _ hS => ?_)
  rw [n32_cl h0 I.pop.hd, upd_rset h0, wd_set (K := σ.1) (R := σ.2.1) (M := σ.2.2) (R' := rset σ.2.1 c0 j (d + 2)) (M' := σ.2.2) hK (ce_qa hk1) (fun c' q' hc' => ce_other (rset_ne hc') rfl q')] at hP
  exact gs_same (R0 := σ.2.1) (M0 := σ.2.2) kk (I.pop.pop.pop.mem I.2.2.1) hW hl h1' h2' h3' hP hS
theorem mcpy_in {M0 : Mem} {c0 d : Nat} {sp dp n : Int} (h : ∀ c j, inR (M0 c j)) : ∀ c j, inR (mcpy M0 c0 sp d dp n c j) := by
  intro c j
  unfold mcpy
  split
  · exact h _ _
  · exact h c j
theorem gs_copy (C : Cx p s m args c cc nL own D cA) {pc index c0 d nc nd : Nat} {n dp sp : Int} {ls : List AV} {σ : Sg} (hd : decode cc pc = .ok (.invokestatic index, 3)) (hlink : Jvm.Cond.methodLink own index arraycopyName ∈ bigW) (hnat : Jvm.Cond.native arraycopyName ∈ bigW) (hstat : Jvm.Cond.static arraycopyName ∈ bigW) (hini : Jvm.Cond.initialized "java/lang/System" ∈ bigW)
    (hK : σ.1[c0]? = some (10, nc)) (hV : σ.1[d]? = some (10, nd)) (h0 : 0 ≤ n) (h1 : 0 ≤ dp) (h2 : 0 ≤ sp) (h3 : sp + n ≤ nc) (h4 : dp + n ≤ nd) (hfr : 1 ≤ R.frames) (hlo : 40 ≤ R.locals)
    (kk : GW p l e R s m args below meth c Q nL n0 b L sx D cA k0 s0 (pc + 3) ls [] (σ.1, σ.2.1, mcpy σ.2.2 c0 sp d dp n)) : GW p l e R s m args below meth c Q nL n0 b L sx D cA k0 s0 pc ls [vI n, vI dp, vR (d + 2), vI sp, vR (c0 + 2)] σ := by
  intro H locs lsA I hW hL hl h1' h2' h3'
  have he := wd_get (n0 := n0) (b := b) (cA := cA) hK
  rw [ce_ia] at he
  have hv := wd_get (n0 := n0) (b := b) (cA := cA) hV
  rw [ce_ia] at hv
  have in1 : inR n := I.hd
  have in2 : inR dp := I.pop.hd
  have in3 : inR sp := I.pop.pop.pop.hd
  have ng : ∀ {x : Int}, 0 ≤ x → inR x → ¬ Int32.ofInt x < 0 := fun hx hi q => by
    have := (n32_lt (y := 0) hi z32).mp q
    omega
  refine va_copyi C.1 C.2.1 (C.2.2.1.trans hl.2.1.symm) C.2.2.2.1 (C.2.2.2.2.1 _ hlink) (C.2.2.2.2.1 _ hnat) (C.2.2.2.2.1 _ hstat) (C.2.2.2.2.1 _ hini) C.2.2.2.2.2.1 hW.2.1 (wd_D n0 b cA σ) (vaS_rf hL) c0 d 0 0 (ty := .int) he hv rfl rfl rfl (ng h2 in3) (ng h1 in2) (ng h0 in1)
    (by rw [n32_cl h2 in3, n32_cl h0 in1]; omega) (by rw [n32_cl h1 in2, n32_cl h0 in1]; omega) (fun _ _ => rfl) hfr (Nat.le_trans (Nat.le_of_ble_eq_true rfl) hlo) hd (fun H1 locs1 hP _ hS => ?_)
  have e : va_cpy (fun i : Nat => Int32.ofInt (σ.2.2 c0 i)) (fun i : Nat => Int32.ofInt (σ.2.2 d i)) sp.toNat dp.toNat n.toNat = fun i : Nat => Int32.ofInt (mcpy σ.2.2 c0 sp d dp n d i) := by
    funext i
    unfold va_cpy mcpy
    by_cases h : dp.toNat ≤ i ∧ i < dp.toNat + n.toNat
    · rw [if_pos h, if_pos ⟨rfl, by omega, by omega⟩]
      dsimp only
      rw [show ((sp.toNat + (i - dp.toNat) : Nat) : Int) = sp + ((i : Int) - dp) by omega]
    · rw [if_neg h, if_neg (fun q => h ⟨by omega, by omega⟩)]
  rw [n32_cl h2 in3, n32_cl h1 in2, n32_cl h0 in1, e, wd_set (K := σ.1) (R := σ.2.1) (M := σ.2.2) (R' := σ.2.1) (M' := mcpy σ.2.2 c0 sp d dp n) hV ce_ia (fun c' q' hc' => ce_other rfl (by funext k; simp [mcpy, hc']) q')] at hP
  exact gs_same (R0 := σ.2.1) (M0 := σ.2.2) (st := []) kk (I.pop.pop.pop.pop.pop.mem (mcpy_in I.2.2.1)) hW hl h1' h2' h3' hP hS
theorem gs_objinit (C : Cx p s m args c cc nL own D cA) {pc index c0 : Nat} {ls st : List AV} {σ : Sg} (hd : decode cc pc = .ok (.invokespecial index, 3)) (hlink : Jvm.Cond.methodLink own index Lib.objectInit ∈ bigW) (hinst : Jvm.Cond.instanceMethod Lib.objectInit ∈ bigW) (hcode : Jvm.Cond.code Lib.objectInit ⟨#[0xb1]⟩ 1 none ∈ bigW) (hs : catS st ≤ 8) (hfr : 1 ≤ R.frames) (hlo : 20 ≤ R.locals)
    (kk : GW p l e R s m args below meth c Q nL n0 b L sx D cA k0 s0 (pc + 3) ls st σ) : GW p l e R s m args below meth c Q nL n0 b L sx D cA k0 s0 pc ls (vR (c0 + 2) :: st) σ := by
  refine gs_of kk (fun I => I.pop) (fun H locs lsA cells slots I hW hl k2 => ?_)
  refine W.objInit C.1 C.2.1 C.2.2.2.1 (C.2.2.2.2.1 _ hlink) (C.2.2.2.2.1 _ hinst) (C.2.2.2.2.1 _ hcode) rfl (hl.2.1.trans C.2.2.1.symm) rfl hd hfr ?_ (k2 lsA hl)
  have h := lv_room (pc := pc) (ls := lsA) (rest := []) (m := m) (st := st.map (cv n0 b)) (by rw [cv_catS]; exact hs)
  exact Nat.le_trans (Nat.add_le_add_right h 12) hlo
theorem gs_mmax (C : Cx p s m args c cc nL own D cA) {pc index : Nat} {x y : Int} {ls st : List AV} {σ : Sg} (hd : decode cc pc = .ok (.invokestatic index, 3)) (hlink : Jvm.Cond.methodLink own index Lib.Math.max.name ∈ bigW) (hstat : Jvm.Cond.static Lib.Math.max.name ∈ bigW) (hini : Jvm.Cond.initialized "java/lang/Math" ∈ bigW) (hcode : Jvm.Cond.code Lib.Math.max.name Lib.Math.max.code 2 (some .int) ∈ bigW)
    (hs : catS st ≤ 8) (hfr : 1 ≤ R.frames) (hlo : 21 ≤ R.locals) (hcells : σ.1.length - k0 ≤ R.cells) (hslots : slN σ.1 - s0 ≤ R.slots) (kk : GW p l e R s m args below meth c Q nL n0 b L sx D cA k0 s0 (pc + 3) ls (vI (max x y) :: st) σ) : GW p l e R s m args below meth c Q nL n0 b L sx D cA k0 s0 pc ls (vI y :: vI x :: st) σ := by
  intro H locs lsA I hW hL hl h1' h2' h3'
  have hx : inR x := I.pop.hd
  have hy : inR y := I.hd
  have h2 := kk H locs lsA (I.pop.pop.push (show inR (max x y) from by have := hx.1; have := hx.2; have := hy.1; have := hy.2; exact ⟨by omega, by omega⟩)) hW hL hl h1' h2' h3'
  refine va_mmax C.1 C.2.1 (C.2.2.1.trans hl.2.1.symm) C.2.2.2.1 (C.2.2.2.2.1 _ hlink) (C.2.2.2.2.1 _ hstat) (C.2.2.2.2.1 _ hini) (C.2.2.2.2.1 _ hcode) hfr (by rw [cv_catS]; omega) hcells hslots hd ?_
  have e : (if Int32.ofInt x < Int32.ofInt y then Int32.ofInt y else Int32.ofInt x) = Int32.ofInt (max x y) := by
    simp only [n32_lt hx hy]
    by_cases h : x < y
    · rw [if_pos h, Int.max_eq_right (by omega)]
    · rw [if_neg h, Int.max_eq_left (by omega)]
  rw [e]
  exact h2
theorem gs_mmin (C : Cx p s m args c cc nL own D cA) {pc index : Nat} {x y : Int} {ls st : List AV} {σ : Sg} (hd : decode cc pc = .ok (.invokestatic index, 3)) (hlink : Jvm.Cond.methodLink own index Lib.Math.min.name ∈ bigW) (hstat : Jvm.Cond.static Lib.Math.min.name ∈ bigW) (hini : Jvm.Cond.initialized "java/lang/Math" ∈ bigW) (hcode : Jvm.Cond.code Lib.Math.min.name Lib.Math.min.code 2 (some .int) ∈ bigW)
    (hs : catS st ≤ 8) (hfr : 1 ≤ R.frames) (hlo : 21 ≤ R.locals) (hcells : σ.1.length - k0 ≤ R.cells) (hslots : slN σ.1 - s0 ≤ R.slots) (kk : GW p l e R s m args below meth c Q nL n0 b L sx D cA k0 s0 (pc + 3) ls (vI (min x y) :: st) σ) : GW p l e R s m args below meth c Q nL n0 b L sx D cA k0 s0 pc ls (vI y :: vI x :: st) σ := by
  intro H locs lsA I hW hL hl h1' h2' h3'
  have hx : inR x := I.pop.hd
  have hy : inR y := I.hd
  have h2 := kk H locs lsA (I.pop.pop.push (show inR (min x y) from by have := hx.1; have := hx.2; have := hy.1; have := hy.2; exact ⟨by omega, by omega⟩)) hW hL hl h1' h2' h3'
  refine va_mmin C.1 C.2.1 (C.2.2.1.trans hl.2.1.symm) C.2.2.2.1 (C.2.2.2.2.1 _ hlink) (C.2.2.2.2.1 _ hstat) (C.2.2.2.2.1 _ hini) (C.2.2.2.2.1 _ hcode) hfr (by rw [cv_catS]; omega) hcells hslots hd ?_
  have e : (if Int32.ofInt y < Int32.ofInt x then Int32.ofInt y else Int32.ofInt x) = Int32.ofInt (min x y) := by
    simp only [n32_lt hy hx]
    by_cases h : y < x
    · rw [if_pos h, Int.min_eq_right (by omega)]
    · rw [if_neg h, Int.min_eq_left (by omega)]
  rw [e]
  exact h2
theorem new_q {σ : Sg} {e0 : va_E} {q : Nat} {H1 : Heap} (hP : va_P D vwCl (wd n0 b cA σ ++ [(q, e0)]) H1) (hD : va_D (fun q => n0 ≤ q) (wd n0 b cA σ ++ [(q, e0)])) (hz : H1.size ≤ n0 + (σ.1.length + 1)) : q = n0 + σ.1.length := by
  have hl : (wd n0 b cA σ ++ [(q, e0)])[σ.1.length]? = some (q, e0) := by
    rw [List.getElem?_append_right (by rw [wd_len]; exact Nat.le_refl _), wd_len, Nat.sub_self]; rfl
  have h1 : q < H1.size := (hP _ _ hl).lt
  have h2 : n0 ≤ q := hD.2 _ _ hl
  rcases Nat.lt_or_ge q (n0 + σ.1.length) with h | h
  · exfalso
    have hc : q - n0 < σ.1.length := by omega
    have h3 : (wd n0 b cA σ ++ [(q, e0)])[q - n0]? = some (n0 + (q - n0), ce n0 b cA σ.2.1 σ.2.2 (q - n0) σ.1[q - n0]) := by
      rw [List.getElem?_append_left (by rw [wd_len]; exact hc)]
      exact wd_get (List.getElem?_eq_getElem hc)
    have := hD.1 _ _ _ _ h3 hl (by dsimp only; omega)
    omega
  · omega
theorem mclr_in {M0 : Mem} {c0 : Nat} (h : ∀ c j, inR (M0 c j)) : ∀ c j, inR (mclr M0 c0 c j) := by
  intro c j
  unfold mclr
  split
  · exact z32
  · exact h c j
theorem INV.grow {ls st : List AV} {σ : Sg} {q : Nat × Nat} {v : AV} (I : INV ls st σ) (hq : q.2 ≤ 100000) (hv : okv v) {R' : Rfs} {c0 : Nat} : INV ls (v :: st) (σ.1 ++ [q], R', mclr σ.2.2 c0) := ⟨I.1, (I.push hv).2.1, mclr_in I.2.2.1, fun x hx => by
  rcases List.mem_append.mp hx with h | h
  · exact I.2.2.2 x h
  · rw [List.mem_singleton.mp h]; exact hq⟩
theorem mclr_ne {M0 : Mem} {c0 c1 : Nat} (h : c1 ≠ c0) : mclr M0 c0 c1 = M0 c1 := by funext j; simp [mclr, h]
theorem rclr_ne {R0 : Rfs} {c0 c1 : Nat} (h : c1 ≠ c0) : rclr R0 c0 c1 = R0 c1 := by funext j; simp [rclr, h]
/-- behind any making of a cell -/
theorem gs_made {pc : Nat} {ls st : List AV} {σ : Sg} {q : Nat × Nat} {H : Heap} {lsA : Array Slot} {cells slots : Nat} (I : INV ls st σ) (hq2 : q.2 ≤ 100000) (kk : GW p l e R s m args below meth c Q nL n0 b L sx D cA k0 s0 pc ls (vR (σ.1.length + 2) :: st) (σ.1 ++ [q], rclr σ.2.1 σ.1.length, mclr σ.2.2 σ.1.length)) (hW : WH n0 b L sx D cA s σ H) (hl : LH n0 b lsA nL ls) (hk0 : k0 ≤ σ.1.length) (hs0 : s0 ≤ slN σ.1) (hsz : s.heap.size = n0 + k0)
    (hc : cells = σ.1.length - k0 + 1) (hs : slots = slN σ.1 - s0 + q.2) {a : Nat} {H1 : Heap} {locs1 : List Loc} (hP : va_P D vwCl (wd n0 b cA σ ++ [(a, ce n0 b cA (rclr σ.2.1 σ.1.length) (mclr σ.2.2 σ.1.length) σ.1.length q)]) H1) (hD : va_D (fun q => n0 ≤ q) (wd n0 b cA σ ++ [(a, ce n0 b cA (rclr σ.2.1 σ.1.length) (mclr σ.2.2 σ.1.length) σ.1.length q)])) (hS : va_S (fun q => n0 ≤ q) H H1 locs1) :
    W p l e R s m args below meth c H1 locs1 cells slots Q (F0 m pc lsA (.ref a :: st.map (cv n0 b))) := by
  intro T hT X
  have hz := X.heapSize
  rw [hT, hsz] at hz
  have ha := new_q hP hD (by omega)
  subst ha
  have hlow : n0 + σ.1.length < H1.size := by
    have hl : (wd n0 b cA σ ++ [(n0 + σ.1.length, ce n0 b cA (rclr σ.2.1 σ.1.length) (mclr σ.2.2 σ.1.length) σ.1.length q)])[σ.1.length]? = some (n0 + σ.1.length, ce n0 b cA (rclr σ.2.1 σ.1.length) (mclr σ.2.2 σ.1.length) σ.1.length q) := by
      rw [List.getElem?_append_right (by rw [wd_len]; exact Nat.le_refl _), wd_len, Nat.sub_self]; rfl
    exact (hP _ _ hl).lt
  rw [wd_push (K := σ.1) (R := σ.2.1) (M := σ.2.2) (R' := rclr σ.2.1 σ.1.length) (M' := mclr σ.2.2 σ.1.length) (q := q) rfl (fun c' q' hc' => ce_other (rclr_ne hc') (mclr_ne hc') q')] at hP
  exact gs_end (st := vR (σ.1.length + 2) :: st) kk (I.grow (v := vR (σ.1.length + 2)) hq2 trivial) hW hl (by rw [List.length_append]; omega) (by rw [slN_push]; omega) hsz (by rw [hc, List.length_append, List.length_singleton]; omega) (by rw [hs, slN_push]; omega) hP hS (by rw [List.length_append, List.length_singleton]; omega) T hT X
theorem gs_new (C : Cx p s m args c cc nL own D cA) {pc index ci : Nat} {ls st : List AV} {σ : Sg} (hd : decode cc pc = .ok (.new index, 3)) (hci : ci < 10) (hcl : Jvm.Cond.classLink own index (clD ci).1 ∈ bigW) (hinst : Jvm.Cond.instantiable (clD ci).1 (clD ci).2.2 ∈ bigW) (hini : Jvm.Cond.initialized (clD ci).1 ∈ bigW) (hcells : σ.1.length - k0 + 1 ≤ R.cells) (hslots : slN σ.1 - s0 + cnN ci ≤ R.slots)
    (kk : GW p l e R s m args below meth c Q nL n0 b L sx D cA k0 s0 (pc + 3) ls (vR (σ.1.length + 2) :: st) (σ.1 ++ [(ci, cnN ci)], rclr σ.2.1 σ.1.length, mclr σ.2.2 σ.1.length)) : GW p l e R s m args below meth c Q nL n0 b L sx D cA k0 s0 pc ls st σ := by
  intro H locs lsA I hW hL hl h1' h2' h3'
  have hc100 : cnN ci ≤ 100000 := by
    have : ∀ ci, ci < 10 → cnN ci ≤ 100000 := by decide +kernel
    exact this ci hci
  refine va_new (fs := cfs n0 b (rclr σ.2.1 σ.1.length) (mclr σ.2.2 σ.1.length) σ.1.length ci) C.1 C.2.1 C.2.2.2.2.1 (cl_lay ci hci) (tyD ci) (cl_ty ci hci) C.2.2.2.1 (C.2.2.2.2.1 _ hcl) (C.2.2.2.2.1 _ hinst) (C.2.2.2.2.1 _ hini) C.2.2.2.2.2.1 hW.2.1 (wd_D n0 b cA σ) (vaS_rf hL) (fun q hq => by have := hW.1; exact Nat.le_trans (by omega) hq) (cl_get ci hci) (fun j hj => ?_) hcells (by rw [cl_N ci hci]; exact hslots) hd (fun q H1 hP hD hS => ?_)
  · have hj2 : j < cnN ci := by rw [← cl_N ci hci]; exact hj
    have hr := cl_tk ci hci j hj2
    have e : vp_V (cfs n0 b (rclr σ.2.1 σ.1.length) (mclr σ.2.2 σ.1.length) σ.1.length ci) j = if ftk ci j = 2 then .null else .int 0 := by
      unfold vp_V
      rw [List.getD_eq_getElem?_getD, cfs_at hj2]
      simp only [rclr, mclr, if_true, Option.getD_some]
      rfl
    rw [e]
    rcases tkd_lt ci hci j hj2 with h | h | h
    · rw [tkd_0 (hr.trans h), h]; rfl
    · rw [tkd_1 (hr.trans h), h]; rfl
    · rw [h, if_pos rfl]
      rcases tkd_2 (hr.trans h) with ⟨u, hu⟩ | ⟨u, hu⟩ <;> rw [hu] <;> rfl
  · exact gs_made (q := (ci, cnN ci)) I hc100 kk hW hl h1' h2' h3' rfl (by rw [cl_N ci hci]) (by rw [ce_ob hci]; exact hP) (by rw [ce_ob hci]; exact hD) hS
theorem same_cls {s : State} {c1 c2 : ClassId} {ty : FieldType} (h1 : va_RA s c1 ty) (h2 : va_RA s c2 ty) : c1 = c2 := by
  cases ty with
  | object C0 =>
    obtain ⟨_, _, _, _, _, h3⟩ := h1
    obtain ⟨_, _, _, _, _, h4⟩ := h2
    exact Option.some.inj (h3.symm.trans h4)
  | _ => exact Option.some.inj (Eq.trans (Eq.symm h1) h2)
theorem last_ty {cl : List vw_C} {tys : List (ClassId × FieldType)} {q : ClassId × FieldType} {U : State} (h : va_K D cl (tys ++ [q]) U) : va_RA U q.1 q.2 := by
  refine (h.2 tys.length q ?_).2
  rw [List.getElem?_append_right (Nat.le_refl _), Nat.sub_self]; rfl
theorem gs_newarr (C : Cx p s m args c cc nL own D cA) {pc kd : Nat} {at0 : ArrayType} {ty : FieldType} {x : Int} {ls st : List AV} {σ : Sg} (hd : decode cc pc = .ok (.newarray at0, 2)) (hk : (kd = 10 ∧ at0 = .int ∧ ty = .int) ∨ (kd = 11 ∧ at0 = .boolean ∧ ty = .boolean)) (harr : Jvm.Cond.arrayClass ty ∈ bigW) (h0 : 0 ≤ x) (h1 : x ≤ 100000) (hcells : σ.1.length - k0 + 1 ≤ R.cells) (hslots : slN σ.1 - s0 + x.toNat ≤ R.slots)
    (kk : GW p l e R s m args below meth c Q nL n0 b L sx D cA k0 s0 (pc + 2) ls (vR (σ.1.length + 2) :: st) (σ.1 ++ [(kd, x.toNat)], rclr σ.2.1 σ.1.length, mclr σ.2.2 σ.1.length)) : GW p l e R s m args below meth c Q nL n0 b L sx D cA k0 s0 pc ls (vI x :: st) σ := by
  intro H locs lsA I hW hL hl h1' h2' h3'
  have hx : inR x := I.hd
  have hty : newarray.typeOf at0 = ty := by rcases hk with ⟨_, rfl, rfl⟩ | ⟨_, rfl, rfl⟩ <;> rfl
  have hdef : defaultValue ty = .int 0 := by rcases hk with ⟨_, rfl, rfl⟩ | ⟨_, rfl, rfl⟩ <;> rfl
  have hby : x.toNat * componentBytes ty ≤ 536870912 := by
    have : componentBytes ty ≤ 4 := by rcases hk with ⟨_, rfl, rfl⟩ | ⟨_, rfl, rfl⟩ <;> decide
    exact Nat.le_trans (Nat.mul_le_mul_left _ this) (by omega)
  have hold : va_RA s (cA (kd - 10)) ty := by
    rcases hk with ⟨rfl, _, rfl⟩ | ⟨rfl, _, rfl⟩
    · exact (C.2.2.2.2.2.1.2 0 _ rfl).2
    · exact (C.2.2.2.2.2.1.2 1 _ rfl).2
  refine va_newa (atype := at0) (a0 := (x.toNat, .inl (fun _ => 0))) C.1 C.2.1 (by rw [hty]; exact C.2.2.2.2.1 _ harr) hty C.2.2.2.2.2.1 hW.2.1 (wd_D n0 b cA σ) (vaS_rf hL) (fun q hq => by have := hW.1; exact Nat.le_trans (by omega) hq) (fun cB => by rw [vp_cell_i, hdef]) (fun q => by have := (n32_lt (y := 0) hx z32).mp q; omega) (n32_cl h0 hx) hby hcells hslots hd (fun q cB H1 hKn hP hD hS => ?_)
  have hcB := same_cls (last_ty hKn) hold
  dsimp only at hcB
  subst hcB
  have hce : ce n0 b cA (rclr σ.2.1 σ.1.length) (mclr σ.2.2 σ.1.length) σ.1.length (kd, x.toNat) = .inl (cA (kd - 10), x.toNat, .inl (fun _ => 0)) := by
    rcases hk with ⟨rfl, _, _⟩ | ⟨rfl, _, _⟩
    · rw [ce_ia]; simp [mclr]
    · rw [ce_za]; simp [mclr]
  exact gs_made (q := (kd, x.toNat)) I.pop (by dsimp only; omega) kk hW hl h1' h2' h3' rfl rfl (by rw [hce]; exact hP) (by rw [hce]; exact hD) hS
theorem gs_newq (C : Cx p s m args c cc nL own D cA) {pc index kd : Nat} {x : Int} {ls st : List AV} {σ : Sg} (hd : decode cc pc = .ok (.anewarray index, 3)) (hk1 : 12 ≤ kd) (hk2 : kd ≤ 14) (hcl : Jvm.Cond.classLink own index (clD (elC kd)).1 ∈ bigW) (h0 : 0 ≤ x) (h1 : x ≤ 100000) (hcells : σ.1.length - k0 + 1 ≤ R.cells) (hslots : slN σ.1 - s0 + x.toNat ≤ R.slots)
    (kk : GW p l e R s m args below meth c Q nL n0 b L sx D cA k0 s0 (pc + 3) ls (vR (σ.1.length + 2) :: st) (σ.1 ++ [(kd, x.toNat)], rclr σ.2.1 σ.1.length, mclr σ.2.2 σ.1.length)) : GW p l e R s m args below meth c Q nL n0 b L sx D cA k0 s0 pc ls (vI x :: st) σ := by
  intro H locs lsA I hW hL hl h1' h2' h3'
  have hx : inR x := I.hd
  have hao : va_AO (clD (elC kd)).1 s := by
    rcases (show kd = 12 ∨ kd = 13 ∨ kd = 14 by omega) with rfl | rfl | rfl
    · exact C.2.2.2.2.2.2.2.1
    · exact C.2.2.2.2.2.2.2.2.1
    · exact C.2.2.2.2.2.2.2.2.2
  have hold : va_RA s (cA (kd - 10)) (.object (clD (elC kd)).1) := (C.2.2.2.2.2.1.2 (kd - 10) _ (ty5_at hk1 hk2)).2
  refine va_newq C.1 C.2.1 C.2.2.2.1 (C.2.2.2.2.1 _ hcl) hao C.2.2.2.2.2.1 hW.2.1 (wd_D n0 b cA σ) (vaS_rf hL) (fun q hq => by have := hW.1; exact Nat.le_trans (by omega) hq) (fun q => by have := (n32_lt (y := 0) hx z32).mp q; omega) (n32_cl h0 hx) (by omega) hcells hslots hd (fun q cB H1 hKn hP hD hS => ?_)
  have hcB := same_cls (last_ty hKn) hold
  dsimp only at hcB
  subst hcB
  have hce : ce n0 b cA (rclr σ.2.1 σ.1.length) (mclr σ.2.2 σ.1.length) σ.1.length (kd, x.toNat) = .inl (cA (kd - 10), x.toNat, .inr (.inr (.inr (.inr (fun _ => none))))) := by
    rw [ce_qa hk1]; simp [rclr]; rfl
  exact gs_made (q := (kd, x.toNat)) I.pop (by dsimp only; omega) kk hW hl h1' h2' h3' rfl rfl (by rw [hce]; exact hP) (by rw [hce]; exact hD) hS
end GA
end
section
/-! the program of the small machine, and what a look at the tables says of it -/
def mtD : Mt := (⟨"", "", ""⟩, code, 0, none, "", 0, 0, 0, [])
def mt (mi : Nat) : Mt := mtT.getD mi mtD
def mY (mi : Nat) : MethodName := (mt mi).1
def mC (mi : Nat) : ByteArray := (mt mi).2.1
def mL (mi : Nat) : Nat := (mt mi).2.2.1
def mR (mi : Nat) : Option FieldType := (mt mi).2.2.2.1
def mO (mi : Nat) : String := (mt mi).2.2.2.2.1
def mF (mi : Nat) : Nat := (mt mi).2.2.2.2.2.1
def mW (mi : Nat) : Nat := (mt mi).2.2.2.2.2.2.1
def mK (mi : Nat) : Nat := (mt mi).2.2.2.2.2.2.2.1
def mH (mi : Nat) : List Nat := (mt mi).2.2.2.2.2.2.2.2
def bks (mi : Nat) : List Bk := bkT.getD mi []
def blk (mi j : Nat) : Bk := (bks mi).getD j ([], 0)
def spc (mi j : Nat) : Nat := match (blk mi j).1 with
  | e :: _ => e.1
  | [] => 0
def nxp (mi : Nat) (es : List En) (fl : Nat) : Nat := match es with
  | e :: _ => e.1
  | [] => spc mi fl
def tgo (mi pc : Nat) (off : Int) (j : Nat) : Bool := decide ((pc : Int) + off = (spc mi j : Int)) && decide (j < (bks mi).length)
def wdo (h : Nat) (w : Jvm.Cond) : Bool := decide (lw_tbl[h]? = some w)
def fldo (mi idx ci k h : Nat) : Bool :=
  let q := (clD ci).2.1 k
  (wdo h (.fieldLink (mO mi) idx q.1 q.2.1 q.2.2.1) || wdo h (.fieldLinkNest (mO mi) idx q.1 q.2.1 q.2.2.1 "OneKnife")) && decide (ci < 10) && decide (k < cnN ci)
def lnko (mi idx h : Nat) (y : MethodName) : Bool := wdo h (.methodLink (mO mi) idx y) || wdo h (.methodLinkNest (mO mi) idx y "OneKnife")
def depo (mi mi' np : Nat) : Bool := decide (mi' < 227) && decide (mF mi' + 1 ≤ mF mi) && decide (8 + (mL mi' + 11) + mW mi' ≤ mW mi) && decide ((parseMethodDescriptor (mY mi').desc).map (fun d => d.parameters.length) = some np)
def okI (mi : Nat) (e : En) : Bool :=
  match e.2.2.1 with
  | .iconst n => decide (e.2.1 = 1) && decide (inR n)
  | .bipush n => decide (e.2.1 = 2) && decide (-128 ≤ n ∧ n ≤ 127)
  | .sipush n => decide (e.2.1 = 3) && decide (-32768 ≤ n ∧ n ≤ 32767)
  | .ldc_w i => decide (e.2.1 = 3) && (match e.2.2.2 with
    | a :: b :: h :: _ => wdo h (.constant (mO mi) i (Int32.ofInt ((a : Int) - b))) && decide (inR ((a : Int) - b))
    | _ => false)
  | .ldc2_w i => decide (e.2.1 = 3) && (match e.2.2.2 with
    | a :: h :: _ => wdo h (.constantLong (mO mi) i (Int64.ofInt a)) && decide (a ≤ 1000)
    | _ => false)
  | .iload _ | .aload _ | .istore _ | .astore _ => decide (e.2.1 = 2)
  | .iinc _ _ => decide (e.2.1 = 3)
  | .goto off => match e.2.2.2 with
    | j :: _ => decide (e.2.1 = 3) && tgo mi e.1 off j
    | _ => false
  | .ifCond _ off => match e.2.2.2 with
    | j :: _ => decide (e.2.1 = 3) && tgo mi e.1 off j
    | _ => false
  | .if_icmp _ off => match e.2.2.2 with
    | j :: _ => decide (e.2.1 = 3) && tgo mi e.1 off j
    | _ => false
  | .tableswitch d lo hi offs => tgo mi e.1 d (e.2.2.2.getD 0 0) && decide (hi = lo + offs.toList.length - 1) && (List.range offs.toList.length).all (fun i => tgo mi e.1 (offs.toList.getD i 0) (e.2.2.2.getD (i + 1) 0))
  | .lookupswitch d ps => (ps.toList.zip (ps.toList.drop 1)).all (fun (a, next) => decide (a.1 < next.1)) && tgo mi e.1 d (e.2.2.2.getD 0 0) && (List.range ps.toList.length).all (fun i => tgo mi e.1 (ps.toList.getD i (0, 0)).2 (e.2.2.2.getD (i + 1) 0))
  | .getfield i => decide (e.2.1 = 3) && (match e.2.2.2 with
    | ci :: k :: h :: _ => fldo mi i ci k h
    | _ => false)
  | .putfield i => decide (e.2.1 = 3) && (match e.2.2.2 with
    | ci :: k :: h :: _ => fldo mi i ci k h && (decide (((clD ci).2.1 k).2.2.2 = false) || (decide ((mY mi).name = "<init>") && decide (((clD ci).2.1 k).1 = mO mi) && wdo h (.fieldLink (mO mi) i ((clD ci).2.1 k).1 ((clD ci).2.1 k).2.1 ((clD ci).2.1 k).2.2.1)))
    | _ => false)
  | .new i => decide (e.2.1 = 3) && (match e.2.2.2 with
    | ci :: h :: _ => decide (ci < 10) && wdo h (.classLink (mO mi) i (clD ci).1)
    | _ => false)
  | .newarray _ => decide (e.2.1 = 2)
  | .anewarray i => decide (e.2.1 = 3) && (match e.2.2.2 with
    | kd :: h :: _ => decide (12 ≤ kd) && decide (kd ≤ 14) && wdo h (.classLink (mO mi) i (clD (elC kd)).1)
    | _ => false)
  | .invokevirtual i => decide (e.2.1 = 3) && (match e.2.2.2 with
    | mi' :: h :: np :: _ => lnko mi i h (mY mi') && depo mi mi' np && wdo ((mH mi').getD 1 0) (.instanceMethod (mY mi')) && wdo ((mH mi').getD 2 0) (.selects (mY mi').cls (mY mi') (mY mi')) && decide (mK mi' < 10) && decide ((clD (mK mi')).1 = (mY mi').cls)
    | _ => false)
  | .invokestatic i => decide (e.2.1 = 3) && (match e.2.2.2 with
    | mi' :: h :: np :: _ => lnko mi i h (mY mi') && depo mi mi' np && wdo ((mH mi').getD 1 0) (.static (mY mi'))
    | t :: h :: [] => ((decide (t = 1000) && wdo h (.methodLink (mO mi) i arraycopyName) && decide (40 ≤ mW mi)) || (decide (t = 1002) && wdo h (.methodLink (mO mi) i Lib.Math.max.name)) || (decide (t = 1003) && wdo h (.methodLink (mO mi) i Lib.Math.min.name))) && decide (1 ≤ mF mi) && decide (21 ≤ mW mi)
    | _ => false)
  | .invokespecial i => decide (e.2.1 = 3) && (match e.2.2.2 with
    | mi' :: h :: np :: _ => lnko mi i h (mY mi') && depo mi mi' np && wdo ((mH mi').getD 1 0) (.instanceMethod (mY mi')) && decide ((mY mi').name = "<init>") && decide (mR mi' = none) && decide (mK mi' < 10) && decide ((clD (mK mi')).1 = (mY mi').cls)
    | t :: h :: [] => decide (t = 1001) && wdo h (.methodLink (mO mi) i Lib.objectInit) && decide (1 ≤ mF mi) && decide (20 ≤ mW mi)
    | _ => false)
  | _ => decide (e.2.1 = 1)
def dcE (mi : Nat) (e : En) : Bool := decide (decode (mC mi) e.1 = .ok (e.2.2.1, e.2.1))
def ents (mi : Nat) : List En := (bks mi).flatMap (fun b => b.1)
def noF (i : Instr) : Bool := match i with
  | .goto _ => true
  | .tableswitch _ _ _ _ => true
  | .lookupswitch _ _ => true
  | .ireturn => true
  | .areturn => true
  | .lreturn => true
  | .return_ => true
  | _ => false
def okEs (mi : Nat) : List En → Nat → Bool
  | [], fl => decide (fl < (bks mi).length)
  | e :: es, fl => okI mi e && (noF e.2.2.1 || decide (nxp mi es fl = e.1 + e.2.1)) && okEs mi es fl
def okB (mi : Nat) : Bool := decide (spc mi 0 = 0) && decide (0 < (bks mi).length) && (bks mi).all (fun b => decide (b.1 ≠ []) && okEs mi b.1 b.2)
def okM (mi : Nat) : Bool := wdo ((mH mi).getD 0 0) (.code (mY mi) (mC mi) (mL mi) (mR mi)) && wdo ((mH mi).getD 3 0) (.initialized (mY mi).cls) && decide (mO mi = (mY mi).cls) && plainName (mY mi).cls && decide ((mY mi).cls ≠ "java/lang/invoke/MethodHandle") && decide ((mY mi).cls ≠ "java/lang/invoke/VarHandle") && goodWord (.code (mY mi) (mC mi) (mL mi) (mR mi))
theorem sp_go {α : Type} {f : α → Bool} {l : List α} {a n : Nat} (h1 : ((l.drop a).take n).all f = true) (h2 : (l.drop (a + n)).all f = true) : (l.drop a).all f = true := by
  rw [← List.take_append_drop n (l.drop a), List.all_append, h1, List.drop_drop, h2]
  rfl
theorem sp_end {α : Type} {f : α → Bool} {l : List α} {a : Nat} (h : l.length ≤ a) : (l.drop a).all f = true := by rw [List.drop_eq_nil_of_le h]; rfl
end
section
section EL
variable {α : Type} {z : α}
theorem p1I_e {st : List AV} {f : Int → List AV → Option α} (h : p1I st f = some z) : ∃ x r, st = vI x :: r ∧ f x r = some z := by
  unfold p1I at h
  split at h
  · exact ⟨_, _, rfl, h⟩
  · cases h
theorem p2I_e {st : List AV} {f : Int → Int → List AV → Option α} (h : p2I st f = some z) : ∃ x y r, st = vI y :: vI x :: r ∧ f x y r = some z := by
  unfold p2I at h
  split at h
  · exact ⟨_, _, _, rfl, h⟩
  · cases h
theorem p2L_e {st : List AV} {f : Int → Int → List AV → Option α} (h : p2L st f = some z) : ∃ x y r, st = vL y :: vL x :: r ∧ f x y r = some z := by
  unfold p2L at h
  split at h
  · exact ⟨_, _, _, rfl, h⟩
  · cases h
theorem p1R_e {st : List AV} {f : Nat → List AV → Option α} (h : p1R st f = some z) : ∃ c r, st = vR (c + 2) :: r ∧ f c r = some z := by
  unfold p1R at h
  split at h
  · exact ⟨_, _, rfl, h⟩
  · cases h
theorem p2IR_e {st : List AV} {f : Int → Nat → List AV → Option α} (h : p2IR st f = some z) : ∃ j c r, st = vI j :: vR (c + 1) :: r ∧ f j c r = some z := by
  unfold p2IR at h
  split at h
  · exact ⟨_, _, _, rfl, h⟩
  · cases h
theorem p3_e {st : List AV} {f : AV → Int → Nat → List AV → Option α} (h : p3 st f = some z) : ∃ v j c r, st = v :: vI j :: vR (c + 2) :: r ∧ f v j c r = some z := by
  unfold p3 at h
  split at h
  · exact ⟨_, _, _, _, rfl, h⟩
  · cases h
theorem gI_e {ls : List AV} {i : Nat} {f : Int → Option α} (h : gI ls i f = some z) : ∃ x, ls[i]? = some (vI x) ∧ f x = some z := by
  unfold gI at h
  split at h
  · exact ⟨_, by assumption, h⟩
  · cases h
theorem gL_e {ls : List AV} {i : Nat} {f : Int → Option α} (h : gL ls i f = some z) : ∃ x, ls[i]? = some (vL x) ∧ f x = some z := by
  unfold gL at h
  split at h
  · exact ⟨_, by assumption, h⟩
  · cases h
theorem gR_e {ls : List AV} {i : Nat} {f : Nat → Option α} (h : gR ls i f = some z) : ∃ r, ls[i]? = some (vR (r + 1)) ∧ f (r + 1) = some z := by
  unfold gR at h
  split at h
  · exact ⟨_, by assumption, h⟩
  · cases h
theorem oI_e {v : AV} {f : Int → Option α} (h : oI v f = some z) : ∃ x, v = vI x ∧ f x = some z := by
  unfold oI at h
  split at h
  · exact ⟨_, rfl, h⟩
  · cases h
theorem oR_e {v : AV} {f : Nat → Option α} (h : oR v f = some z) : ∃ x, v = vR x ∧ f x = some z := by
  unfold oR at h
  split at h
  · exact ⟨_, rfl, h⟩
  · cases h
theorem sto1_e {ls : List AV} {i : Nat} {v : AV} {f : List AV → Option α} (h : sto1 ls i v f = some z) : i < ls.length ∧ cat2 (ls.getD (i - 1) vU) = false ∧ f (ls.set i v) = some z := by
  unfold sto1 at h
  split at h
  · next q => exact ⟨q.1, q.2, h⟩
  · cases h
theorem sto2_e {ls : List AV} {i : Nat} {v : AV} {f : List AV → Option α} (h : sto2 ls i v f = some z) : i + 1 < ls.length ∧ cat2 (ls.getD (i - 1) vU) = false ∧ f ((ls.set i v).set (i + 1) vU) = some z := by
  unfold sto2 at h
  split at h
  · next q => exact ⟨q.1, q.2.1, h⟩
  · cases h
theorem a1_e {a : List Nat} {f : Nat → Option α} (h : a1 a f = some z) : ∃ x r, a = x :: r ∧ f x = some z := by
  unfold a1 at h
  split at h
  · exact ⟨_, _, rfl, h⟩
  · cases h
theorem a2_e {a : List Nat} {f : Nat → Nat → Option α} (h : a2 a f = some z) : ∃ x y r, a = x :: y :: r ∧ f x y = some z := by
  unfold a2 at h
  split at h
  · exact ⟨_, _, _, rfl, h⟩
  · cases h
theorem ite_e {P : Prop} [Decidable P] {a : Option α} (h : (if P then a else none) = some z) : P ∧ a = some z := by
  by_cases hp : P
  · rw [if_pos hp] at h; exact ⟨hp, h⟩
  · rw [if_neg hp] at h; cases h
theorem kd_e {K : List (Nat × Nat)} {c : Nat} {f : Nat → Nat → Option α} (h : (match K[c]? with
    | some (kd, n) => f kd n
    | none => none) = some z) : ∃ kd n, K[c]? = some (kd, n) ∧ f kd n = some z := by
  split at h
  · exact ⟨_, _, by assumption, h⟩
  · cases h
end EL
theorem wdo_e {h : Nat} {w : Jvm.Cond} (q : wdo h w = true) : lw_tbl[h]? = some w := of_decide_eq_true q
theorem tgo_e {mi pc j : Nat} {off : Int} (q : tgo mi pc off j = true) : (pc : Int) + off = (spc mi j : Int) ∧ j < (bks mi).length := by
  simp only [tgo, Bool.and_eq_true, decide_eq_true_eq] at q
  exact q
theorem fldo_e {mi idx ci k h : Nat} (q : fldo mi idx ci k h = true) : fldW (mO mi) idx ((clD ci).2.1 k) ∧ ci < 10 ∧ k < cnN ci := by
  simp only [fldo, Bool.and_eq_true, Bool.or_eq_true, decide_eq_true_eq] at q
  refine ⟨?_, q.1.2, q.2⟩
  rcases q.1.1 with h1 | h1
  · exact Or.inl (bigW_of (wdo_e h1) rfl)
  · exact Or.inr (nstW_of (wdo_e h1) rfl)
theorem lks_off (ps : List (Int × Int)) (d x : Int) : Op.lookupswitch.offset ps d x = match lks ps x with
    | 0 => d
    | k + 1 => (ps.getD k (0, 0)).2 := by
  induction ps with
  | nil => simp [Op.lookupswitch.offset, lks]
  | cons q r ih =>
    obtain ⟨a, o⟩ := q
    by_cases h : x = a
    · subst h
      simp [Op.lookupswitch.offset, lks]
    · simp only [lks, h, if_false]
      have e : Op.lookupswitch.offset ((a, o) :: r) d x = Op.lookupswitch.offset r d x := by
        simp [Op.lookupswitch.offset, h, Ne.symm h]
      rw [e, ih]
      cases lks r x <;> simp
theorem lks_lt (ps : List (Int × Int)) (x : Int) {k : Nat} (h : lks ps x = k + 1) : k < ps.length := by
  induction ps generalizing k with
  | nil => simp [lks] at h
  | cons q r ih =>
    simp only [lks] at h
    split at h
    · have : k = 0 := by omega
      subst this
      simp
    · split at h
      · cases h
      · next k2 hk =>
        have := ih hk
        simp only [List.length_cons]
        omega
end
section
theorem hw_nat : Jvm.Cond.native arraycopyName ∈ bigW := bigW_of (i := 1122) (by decide +kernel) rfl
theorem hw_acs : Jvm.Cond.static arraycopyName ∈ bigW := bigW_of (i := 1121) (by decide +kernel) rfl
theorem hw_sys : Jvm.Cond.initialized "java/lang/System" ∈ bigW := bigW_of (i := 156) (by decide +kernel) rfl
theorem hw_mth : Jvm.Cond.initialized "java/lang/Math" ∈ bigW := bigW_of (i := 154) (by decide +kernel) rfl
theorem hw_maxs : Jvm.Cond.static Lib.Math.max.name ∈ bigW := bigW_of (i := 874) (by decide +kernel) rfl
theorem hw_maxc : Jvm.Cond.code Lib.Math.max.name Lib.Math.max.code 2 (some .int) ∈ bigW := bigW_of (i := 875) (by decide +kernel) rfl
theorem hw_mins : Jvm.Cond.static Lib.Math.min.name ∈ bigW := bigW_of (i := 738) (by decide +kernel) rfl
theorem hw_minc : Jvm.Cond.code Lib.Math.min.name Lib.Math.min.code 2 (some .int) ∈ bigW := bigW_of (i := 739) (by decide +kernel) rfl
theorem hw_oii : Jvm.Cond.instanceMethod Lib.objectInit ∈ bigW := bigW_of (i := 163) (by decide +kernel) rfl
theorem hw_oic : Jvm.Cond.code Lib.objectInit ⟨#[0xb1]⟩ 1 none ∈ bigW := bigW_of (i := 164) (by decide +kernel) rfl
theorem hw_ai : Jvm.Cond.arrayClass .int ∈ bigW := bigW_of (i := 191) (by decide +kernel) rfl
theorem hw_az : Jvm.Cond.arrayClass .boolean ∈ bigW := bigW_of (i := 1350) (by decide +kernel) rfl
theorem hw_inst : ∀ ci, ci < 10 → Jvm.Cond.instantiable (clD ci).1 (clD ci).2.2 ∈ bigW := cl_10 (bigW_of (i := 372) (by decide +kernel) rfl) (bigW_of (i := 263) (by decide +kernel) rfl) (bigW_of (i := 349) (by decide +kernel) rfl) (bigW_of (i := 365) (by decide +kernel) rfl) (bigW_of (i := 508) (by decide +kernel) rfl) (bigW_of (i := 195) (by decide +kernel) rfl) (bigW_of (i := 325) (by decide +kernel) rfl) (bigW_of (i := 166) (by decide +kernel) rfl) (bigW_of (i := 158) (by decide +kernel) rfl) (bigW_of (i := 1149) (by decide +kernel) rfl)
theorem hw_init : ∀ ci, ci < 10 → Jvm.Cond.initialized (clD ci).1 ∈ bigW := cl_10 (bigW_of (i := 151) (by decide +kernel) rfl) (bigW_of (i := 147) (by decide +kernel) rfl) (bigW_of (i := 149) (by decide +kernel) rfl) (bigW_of (i := 150) (by decide +kernel) rfl) (bigW_of (i := 152) (by decide +kernel) rfl) (bigW_of (i := 146) (by decide +kernel) rfl) (bigW_of (i := 148) (by decide +kernel) rfl) (bigW_of (i := 145) (by decide +kernel) rfl) (bigW_of (i := 144) (by decide +kernel) rfl) (bigW_of (i := 153) (by decide +kernel) rfl)
section SS
variable {p : Program} {l : Launch} {e : Env} {R : Room} {s : State} {m : MethodId} {args : Array Value} {below : List Frame} {meth : Method} {c : Code} {Q : State → Prop} {cc : ByteArray} {nL : Nat} {own : String} {n0 b L k0 s0 : Nat} {sx : Int → Int} {D : va_G} {cA : Nat → ClassId}
set_option maxHeartbeats 4000000 in
theorem stp_sound {mi : Nat} {e0 : En} {ls st ls' st' : List AV} {σ σ' : Sg} {j : Nat} (C : Cx p s m args c (mC mi) nL (mO mi) D cA)
    (hok : okI mi e0 = true) (hdc : dcE mi e0 = true) (h : stp sx L e0 ls st σ = some (j, ls', st', σ')) (hin : (mY mi).name = "<init>" → meth.name = "<init>") (hfr : mF mi ≤ R.frames) (hlo : mW mi ≤ R.locals)
    (hcl : σ'.1.length - k0 ≤ R.cells) (hsl : slN σ'.1 - s0 ≤ R.slots)
    (k : GW p l e R s m args below meth c Q nL n0 b L sx D cA k0 s0 (if j = 0 then e0.1 + e0.2.1 else spc mi (j - 1)) ls' st' σ') : GW p l e R s m args below meth c Q nL n0 b L sx D cA k0 s0 e0.1 ls st σ := by
  obtain ⟨pc, ln, ins, aux⟩ := e0
  have hd : decode (mC mi) pc = .ok (ins, ln) := of_decide_eq_true hdc
  dsimp only at k ⊢
  cases ins
  case iconst n =>
    simp only [okI, Bool.and_eq_true, decide_eq_true_eq] at hok
    obtain ⟨rfl, h2⟩ := hok
    cases h
    exact gs_iconst C hd h2 k
  case bipush n =>
    simp only [okI, Bool.and_eq_true, decide_eq_true_eq] at hok
    obtain ⟨rfl, h2⟩ := hok
    cases h
    exact gs_bipush C hd h2 k
  case sipush n =>
    simp only [okI, Bool.and_eq_true, decide_eq_true_eq] at hok
    obtain ⟨rfl, h2⟩ := hok
    cases h
    exact gs_sipush C hd h2 k
  case ldc_w i =>
    simp only [stp] at h
    obtain ⟨x, y, r, hst0, h0⟩ := a2_e h
    clear h
    subst hst0
    have h := h0
    clear h0
    cases h
    cases r with
    | nil => simp [okI] at hok
    | cons z r =>
      simp only [okI, Bool.and_eq_true, decide_eq_true_eq] at hok
      obtain ⟨rfl, h2, h3⟩ := hok
      exact gs_ldcw C hd (bigW_of (wdo_e h2) rfl) h3 k
  case ldc2_w i =>
    simp only [stp] at h
    obtain ⟨x, r, hst0, h0⟩ := a1_e h
    clear h
    subst hst0
    have h := h0
    clear h0
    cases h
    cases r with
    | nil => simp [okI] at hok
    | cons z r =>
      simp only [okI, Bool.and_eq_true, decide_eq_true_eq] at hok
      obtain ⟨rfl, h2, h3⟩ := hok
      exact gs_ldc2w C hd (bigW_of (wdo_e h2) rfl) ⟨by omega, by omega⟩ k
  case iload i =>
    simp only [stp] at h
    obtain ⟨x, hx, h⟩ := gI_e h
    cases h
    simp only [okI, decide_eq_true_eq] at hok
    subst hok
    exact gs_iload C hd hx k
  case iload_n i =>
    simp only [stp] at h
    obtain ⟨x, hx, h⟩ := gI_e h
    cases h
    simp only [okI, decide_eq_true_eq] at hok
    subst hok
    exact gs_iload_n C hd hx k
  case lload_n i =>
    simp only [stp] at h
    obtain ⟨x, hx, h⟩ := gL_e h
    cases h
    simp only [okI, decide_eq_true_eq] at hok
    subst hok
    exact gs_lload_n C hd hx k
  case aload i =>
    simp only [stp] at h
    obtain ⟨x, hx, h⟩ := gR_e h
    cases h
    simp only [okI, decide_eq_true_eq] at hok
    subst hok
    exact gs_aload C hd hx k
  case aload_n i =>
    simp only [stp] at h
    obtain ⟨x, hx, h⟩ := gR_e h
    cases h
    simp only [okI, decide_eq_true_eq] at hok
    subst hok
    exact gs_aload_n C hd hx k
  case istore i =>
    simp only [stp] at h
    obtain ⟨x, r, hst0, h0⟩ := p1I_e h
    clear h
    subst hst0
    have h := h0
    clear h0
    obtain ⟨h1, h2, h⟩ := sto1_e h
    cases h
    simp only [okI, decide_eq_true_eq] at hok
    subst hok
    exact gs_istore C hd h1 h2 k
  case istore_n i =>
    simp only [stp] at h
    obtain ⟨x, r, hst0, h0⟩ := p1I_e h
    clear h
    subst hst0
    have h := h0
    clear h0
    obtain ⟨h1, h2, h⟩ := sto1_e h
    cases h
    simp only [okI, decide_eq_true_eq] at hok
    subst hok
    exact gs_istore_n C hd h1 h2 k
  case lstore_n i =>
    simp only [stp] at h
    split at h
    · obtain ⟨h1, h2, h⟩ := sto2_e h
      cases h
      simp only [okI, decide_eq_true_eq] at hok
      subst hok
      exact gs_lstore_n C hd h1 h2 k
    · cases h
  case astore i =>
    simp only [stp] at h
    obtain ⟨x, r, hst0, h0⟩ := p1R_e h
    clear h
    subst hst0
    have h := h0
    clear h0
    obtain ⟨h1, h2, h⟩ := sto1_e h
    cases h
    simp only [okI, decide_eq_true_eq] at hok
    subst hok
    exact gs_astore C hd h1 h2 k
  case astore_n i =>
    simp only [stp] at h
    obtain ⟨x, r, hst0, h0⟩ := p1R_e h
    clear h
    subst hst0
    have h := h0
    clear h0
    obtain ⟨h1, h2, h⟩ := sto1_e h
    cases h
    simp only [okI, decide_eq_true_eq] at hok
    subst hok
    exact gs_astore_n C hd h1 h2 k
  case iinc i n =>
    simp only [stp] at h
    obtain ⟨x, hx, h⟩ := gI_e h
    obtain ⟨hr, h⟩ := ite_e h
    obtain ⟨h1, h2, h⟩ := sto1_e h
    cases h
    simp only [okI, decide_eq_true_eq] at hok
    subst hok
    exact gs_iinc C hd hx hr h2 k
  case iadd =>
    simp only [stp] at h
    obtain ⟨x, y, r, hst0, h0⟩ := p2I_e h
    clear h
    subst hst0
    have h := h0
    clear h0
    obtain ⟨hr, h⟩ := ite_e h
    cases h
    simp only [okI, decide_eq_true_eq] at hok
    subst hok
    exact gs_iadd C hd hr k
  case isub =>
    simp only [stp] at h
    obtain ⟨x, y, r, hst0, h0⟩ := p2I_e h
    clear h
    subst hst0
    have h := h0
    clear h0
    obtain ⟨hr, h⟩ := ite_e h
    cases h
    simp only [okI, decide_eq_true_eq] at hok
    subst hok
    exact gs_isub C hd hr k
  case imul =>
    simp only [stp] at h
    obtain ⟨x, y, r, hst0, h0⟩ := p2I_e h
    clear h
    subst hst0
    have h := h0
    clear h0
    obtain ⟨hr, h⟩ := ite_e h
    cases h
    simp only [okI, decide_eq_true_eq] at hok
    subst hok
    exact gs_imul C hd hr k
  case idiv =>
    simp only [stp] at h
    obtain ⟨x, y, r, hst0, h0⟩ := p2I_e h
    clear h
    subst hst0
    have h := h0
    clear h0
    obtain ⟨hr, h⟩ := ite_e h
    cases h
    simp only [okI, decide_eq_true_eq] at hok
    subst hok
    exact gs_idiv C hd hr.1 hr.2 k
  case irem =>
    simp only [stp] at h
    obtain ⟨x, y, r, hst0, h0⟩ := p2I_e h
    clear h
    subst hst0
    have h := h0
    clear h0
    obtain ⟨hr, h⟩ := ite_e h
    cases h
    simp only [okI, decide_eq_true_eq] at hok
    subst hok
    exact gs_irem C hd hr.1 hr.2 k
  case ineg =>
    simp only [stp] at h
    obtain ⟨x, r, hst0, h0⟩ := p1I_e h
    clear h
    subst hst0
    have h := h0
    clear h0
    obtain ⟨hr, h⟩ := ite_e h
    cases h
    simp only [okI, decide_eq_true_eq] at hok
    subst hok
    exact gs_ineg C hd hr k
  case iand =>
    simp only [stp] at h
    obtain ⟨x, y, r, hst0, h0⟩ := p2I_e h
    clear h
    subst hst0
    have h := h0
    clear h0
    cases h
    simp only [okI, decide_eq_true_eq] at hok
    subst hok
    exact gs_iand C hd k
  case ior =>
    simp only [stp] at h
    obtain ⟨x, y, r, hst0, h0⟩ := p2I_e h
    clear h
    subst hst0
    have h := h0
    clear h0
    cases h
    simp only [okI, decide_eq_true_eq] at hok
    subst hok
    exact gs_ior C hd k
  case ixor =>
    simp only [stp] at h
    obtain ⟨x, y, r, hst0, h0⟩ := p2I_e h
    clear h
    subst hst0
    have h := h0
    clear h0
    cases h
    simp only [okI, decide_eq_true_eq] at hok
    subst hok
    exact gs_ixor C hd k
  case ishl =>
    simp only [stp] at h
    obtain ⟨x, y, r, hst0, h0⟩ := p2I_e h
    clear h
    subst hst0
    have h := h0
    clear h0
    obtain ⟨hr, h⟩ := ite_e h
    cases h
    simp only [okI, decide_eq_true_eq] at hok
    subst hok
    exact gs_ishl C hd hr.1 hr.2.1 hr.2.2.1 hr.2.2.2 k
  case ishr =>
    simp only [stp] at h
    obtain ⟨x, y, r, hst0, h0⟩ := p2I_e h
    clear h
    subst hst0
    have h := h0
    clear h0
    obtain ⟨hr, h⟩ := ite_e h
    cases h
    simp only [okI, decide_eq_true_eq] at hok
    subst hok
    exact gs_ishr C hd hr.1 hr.2.1 hr.2.2 k
  case iushr =>
    simp only [stp] at h
    obtain ⟨x, y, r, hst0, h0⟩ := p2I_e h
    clear h
    subst hst0
    have h := h0
    clear h0
    obtain ⟨hr, h⟩ := ite_e h
    cases h
    simp only [okI, decide_eq_true_eq] at hok
    subst hok
    exact gs_iushr C hd hr.1 hr.2.1 hr.2.2 k
  case i2l =>
    simp only [stp] at h
    obtain ⟨x, r, hst0, h0⟩ := p1I_e h
    clear h
    subst hst0
    have h := h0
    clear h0
    cases h
    simp only [okI, decide_eq_true_eq] at hok
    subst hok
    exact gs_i2l C hd k
  case i2b =>
    simp only [stp] at h
    obtain ⟨x, r, hst0, h0⟩ := p1I_e h
    clear h
    subst hst0
    have h := h0
    clear h0
    cases h
    simp only [okI, decide_eq_true_eq] at hok
    subst hok
    exact gs_i2b C hd k
  case i2s =>
    simp only [stp] at h
    obtain ⟨x, r, hst0, h0⟩ := p1I_e h
    clear h
    subst hst0
    have h := h0
    clear h0
    cases h
    simp only [okI, decide_eq_true_eq] at hok
    subst hok
    exact gs_i2s C hd k
  case ladd =>
    simp only [stp] at h
    obtain ⟨x, y, r, hst0, h0⟩ := p2L_e h
    clear h
    subst hst0
    have h := h0
    clear h0
    cases h
    simp only [okI, decide_eq_true_eq] at hok
    subst hok
    exact gs_ladd C hd k
  case lmul =>
    simp only [stp] at h
    obtain ⟨x, y, r, hst0, h0⟩ := p2L_e h
    clear h
    subst hst0
    have h := h0
    clear h0
    cases h
    simp only [okI, decide_eq_true_eq] at hok
    subst hok
    exact gs_lmul C hd k
  case lcmp =>
    simp only [stp] at h
    obtain ⟨x, y, r, hst0, h0⟩ := p2L_e h
    clear h
    subst hst0
    have h := h0
    clear h0
    cases h
    simp only [okI, decide_eq_true_eq] at hok
    subst hok
    exact gs_lcmp C hd k
  case dup =>
    simp only [stp] at h
    split at h
    · obtain ⟨hr, h⟩ := ite_e h
      cases h
      simp only [okI, decide_eq_true_eq] at hok
      subst hok
      exact gs_dup C hd hr k
    · cases h
  case dup2 =>
    simp only [stp] at h
    split at h
    · obtain ⟨hr, h⟩ := ite_e h
      cases h
      simp only [okI, decide_eq_true_eq] at hok
      subst hok
      exact gs_dup2 C hd hr.1 hr.2 k
    · cases h
  case goto off =>
    simp only [stp] at h
    obtain ⟨x, r, hst0, h0⟩ := a1_e h
    clear h
    subst hst0
    have h := h0
    clear h0
    cases h
    simp only [okI, Bool.and_eq_true, decide_eq_true_eq] at hok
    obtain ⟨rfl, h2⟩ := hok
    exact gs_goto C hd (tgo_e h2).1 k
  case ifCond c0 off =>
    simp only [stp] at h
    obtain ⟨x, r, hst0, h0⟩ := p1I_e h
    clear h
    subst hst0
    have h := h0
    clear h0
    obtain ⟨y, r2, hst0, h0⟩ := a1_e h
    clear h
    subst hst0
    have h := h0
    clear h0
    cases h
    simp only [okI, Bool.and_eq_true, decide_eq_true_eq] at hok
    obtain ⟨rfl, h2⟩ := hok
    exact gs_if C hd (tgo_e h2).1 (fun q => by rw [if_pos q] at k; exact k) (fun q => by rw [if_neg q] at k; exact k)
  case if_icmp c0 off =>
    simp only [stp] at h
    obtain ⟨x, x2, r, hst0, h0⟩ := p2I_e h
    clear h
    subst hst0
    have h := h0
    clear h0
    obtain ⟨y, r2, hst0, h0⟩ := a1_e h
    clear h
    subst hst0
    have h := h0
    clear h0
    cases h
    simp only [okI, Bool.and_eq_true, decide_eq_true_eq] at hok
    obtain ⟨rfl, h2⟩ := hok
    exact gs_icmp C hd (tgo_e h2).1 (fun q => by rw [if_pos q] at k; exact k) (fun q => by rw [if_neg q] at k; exact k)
  case tableswitch d lo hi offs =>
    simp only [stp] at h
    obtain ⟨x, r, hst0, h0⟩ := p1I_e h
    clear h
    subst hst0
    have h := h0
    clear h0
    cases h
    simp only [okI, Bool.and_eq_true, decide_eq_true_eq, List.all_eq_true, List.mem_range] at hok
    obtain ⟨⟨h1, h2⟩, h3⟩ := hok
    rw [if_neg (Nat.succ_ne_zero _), Nat.add_sub_cancel] at k
    by_cases hx : lo ≤ x ∧ x ≤ hi
    · rw [if_pos hx] at k
      have hlt : (x - lo).toNat < offs.toList.length := by omega
      have h4 := h3 _ hlt
      refine gs_tswIn C hd hx.1 hx.2 (off := offs.toList.getD (x - lo).toNat 0) ?_ (tgo_e h4).1 k
      rw [← Array.getElem?_toList, List.getD_eq_getElem?_getD, List.getElem?_eq_getElem hlt]
      rfl
    · rw [if_neg hx] at k
      exact gs_tswOut C hd (by omega) (tgo_e h1).1 k
  case lookupswitch d ps =>
    simp only [stp] at h
    obtain ⟨x, r, hst0, h0⟩ := p1I_e h
    clear h
    subst hst0
    have h := h0
    clear h0
    cases h
    simp only [okI, Bool.and_eq_true] at hok
    obtain ⟨⟨h1, h2⟩, h3⟩ := hok
    rw [if_neg (Nat.succ_ne_zero _), Nat.add_sub_cancel] at k
    cases hk : lks ps.toList x with
    | zero =>
      rw [hk] at k
      refine gs_lsw C hd h1 (off := d) ?_ (tgo_e h2).1 k
      rw [lks_off, hk]
    | succ q =>
      rw [hk] at k
      have h4 := List.all_eq_true.mp h3 q (List.mem_range.mpr (lks_lt _ _ hk))
      refine gs_lsw C hd h1 (off := (ps.toList.getD q (0, 0)).2) ?_ (tgo_e h4).1 k
      rw [lks_off, hk]
  case getfield i =>
    simp only [stp] at h
    obtain ⟨c0, r, hst0, h0⟩ := p1R_e h
    clear h
    subst hst0
    have h := h0
    clear h0
    obtain ⟨ci, kk, r2, hst0, h0⟩ := a2_e h
    clear h
    subst hst0
    have h := h0
    clear h0
    obtain ⟨kd, n, hK, h⟩ := kd_e h
    obtain ⟨⟨hst1, q2, q3⟩, h0⟩ := ite_e h
    clear h
    subst hst1
    have h := h0
    clear h0
    cases h
    cases r2 with
    | nil => simp [okI] at hok
    | cons z r2 =>
      simp only [okI, Bool.and_eq_true, decide_eq_true_eq] at hok
      obtain ⟨rfl, h2⟩ := hok
      exact gs_get C hd hK q2 q3 (fldo_e h2).1 k
  case putfield i =>
    simp only [stp] at h
    split at h
    · obtain ⟨ci, kk, r2, hst0, h0⟩ := a2_e h
      clear h
      subst hst0
      have h := h0
      clear h0
      obtain ⟨kd, n, hK, h⟩ := kd_e h
      obtain ⟨⟨hst1, q2, q3⟩, h0⟩ := ite_e h
      clear h
      subst hst1
      have h := h0
      clear h0
      cases r2 with
      | nil => simp [okI] at hok
      | cons z r2 =>
        simp only [okI, Bool.and_eq_true, decide_eq_true_eq, Bool.or_eq_true] at hok
        obtain ⟨rfl, h2, h3⟩ := hok
        have hfin : finW (mO mi) i meth ((clD kd).2.1 kk) := by
          rcases Bool.eq_false_or_eq_true ((clD kd).2.1 kk).2.2.2 with hb | hb
          · rcases h3 with h3 | ⟨⟨h3, h4⟩, h5⟩
            · rw [h3] at hb; cases hb
            · exact Or.inr ⟨hb, hin h3, h4, bigW_of (wdo_e h5) rfl⟩
          · exact Or.inl hb
        by_cases hf : ftk kd kk = 2
        · rw [if_pos hf] at h
          obtain ⟨x, hst0, h0⟩ := oR_e h
          clear h
          subst hst0
          have h := h0
          clear h0
          cases h
          exact gs_putR C hd hK q2 q3 (fldo_e h2).1 hfin hf k
        · rw [if_neg hf] at h
          obtain ⟨x, hst0, h0⟩ := oI_e h
          clear h
          subst hst0
          have h := h0
          clear h0
          obtain ⟨hx, h⟩ := ite_e h
          cases h
          exact gs_putI C hd hK q2 q3 (fldo_e h2).1 hfin hf hx k
    · cases h
  case iaload =>
    simp only [stp] at h
    obtain ⟨i, c0, r, hst0, h0⟩ := p2IR_e h
    clear h
    subst hst0
    have h := h0
    clear h0
    simp only [okI, decide_eq_true_eq] at hok
    subst hok
    cases c0 with
    | zero =>
      obtain ⟨hx, h⟩ := ite_e h
      cases h
      exact gs_sld C hd hx.1 hx.2 k
    | succ c0 =>
      obtain ⟨kd, n, hK, h⟩ := kd_e h
      obtain ⟨⟨hst1, q2, q3⟩, h0⟩ := ite_e h
      clear h
      subst hst1
      have h := h0
      clear h0
      cases h
      exact gs_iald C hd hK q2 q3 k
  case baload =>
    simp only [stp] at h
    obtain ⟨i, c0, r, hst0, h0⟩ := p2IR_e h
    clear h
    subst hst0
    have h := h0
    clear h0
    simp only [okI, decide_eq_true_eq] at hok
    subst hok
    cases c0 with
    | zero => cases h
    | succ c0 =>
      obtain ⟨kd, n, hK, h⟩ := kd_e h
      obtain ⟨⟨hst1, q2, q3⟩, h0⟩ := ite_e h
      clear h
      subst hst1
      have h := h0
      clear h0
      cases h
      exact gs_zald C hd hK q2 q3 k
  case aaload =>
    simp only [stp] at h
    obtain ⟨i, c0, r, hst0, h0⟩ := p2IR_e h
    clear h
    subst hst0
    have h := h0
    clear h0
    simp only [okI, decide_eq_true_eq] at hok
    subst hok
    cases c0 with
    | zero => cases h
    | succ c0 =>
      obtain ⟨kd, n, hK, h⟩ := kd_e h
      obtain ⟨⟨q0, q1, q2, q3⟩, h⟩ := ite_e h
      cases h
      exact gs_qald C hd hK q0 q1 q2 q3 k
  case iastore =>
    simp only [stp] at h
    obtain ⟨v, i, c0, r, hst0, h0⟩ := p3_e h
    clear h
    subst hst0
    have h := h0
    clear h0
    obtain ⟨x, hst0, h0⟩ := oI_e h
    clear h
    subst hst0
    have h := h0
    clear h0
    obtain ⟨kd, n, hK, h⟩ := kd_e h
    obtain ⟨⟨hst1, q2, q3⟩, h0⟩ := ite_e h
    clear h
    subst hst1
    have h := h0
    clear h0
    cases h
    simp only [okI, decide_eq_true_eq] at hok
    subst hok
    exact gs_iast C hd hK q2 q3 k
  case bastore =>
    simp only [stp] at h
    obtain ⟨v, i, c0, r, hst0, h0⟩ := p3_e h
    clear h
    subst hst0
    have h := h0
    clear h0
    obtain ⟨x, hst0, h0⟩ := oI_e h
    clear h
    subst hst0
    have h := h0
    clear h0
    obtain ⟨kd, n, hK, h⟩ := kd_e h
    obtain ⟨⟨hst1, q2, q3, q4⟩, h0⟩ := ite_e h
    clear h
    subst hst1
    have h := h0
    clear h0
    cases h
    simp only [okI, decide_eq_true_eq] at hok
    subst hok
    exact gs_zast C hd hK q2 q3 q4 k
  case aastore =>
    simp only [stp] at h
    obtain ⟨v, i, c0, r, hst0, h0⟩ := p3_e h
    clear h
    subst hst0
    have h := h0
    clear h0
    obtain ⟨x, hst0, h0⟩ := oR_e h
    clear h
    subst hst0
    have h := h0
    clear h0
    simp only [okI, decide_eq_true_eq] at hok
    subst hok
    split at h
    · split at h
      · obtain ⟨⟨q0, q1, q2, q3, q4⟩, h⟩ := ite_e h
        cases h
        subst q2
        exact gs_qast C hd (by assumption) q0 q1 (by assumption) q3 q4 k
      · cases h
    · cases h
  case arraylength =>
    simp only [okI, decide_eq_true_eq] at hok
    subst hok
    simp only [stp] at h
    split at h
    · cases h
      exact gs_slen C hd k
    · obtain ⟨kd, n, hK, h⟩ := kd_e h
      obtain ⟨⟨q0, q1⟩, h⟩ := ite_e h
      cases h
      exact gs_alen C hd hK q0 q1 k
    · cases h
  case new i =>
    simp only [stp] at h
    obtain ⟨ci, r, hst0, h0⟩ := a1_e h
    clear h
    subst hst0
    have h := h0
    clear h0
    obtain ⟨hci, h⟩ := ite_e h
    cases h
    cases r with
    | nil => simp [okI] at hok
    | cons z r =>
      simp only [okI, Bool.and_eq_true, decide_eq_true_eq] at hok
      obtain ⟨rfl, h1, h2⟩ := hok
      intro H locs lsA I hW hL hl h1' h2' h3'
      simp only [List.length_append, List.length_singleton, slN_push] at hcl hsl
      exact gs_new C hd hci (bigW_of (wdo_e h2) rfl) (hw_inst ci hci) (hw_init ci hci) (by omega) (by omega) k H locs lsA I hW hL hl h1' h2' h3'
  case newarray t =>
    simp only [stp] at h
    obtain ⟨x, r, hst0, h0⟩ := p1I_e h
    clear h
    subst hst0
    have h := h0
    clear h0
    obtain ⟨⟨q0, q1, q2⟩, h⟩ := ite_e h
    cases h
    simp only [okI, decide_eq_true_eq] at hok
    subst hok
    intro H locs lsA I hW hL hl h1' h2' h3'
    simp only [List.length_append, List.length_singleton, slN_push] at hcl hsl
    rcases q2 with rfl | rfl
    · exact gs_newarr (ty := .int) C hd (Or.inl ⟨rfl, rfl, rfl⟩) hw_ai q0 q1 (by omega) (by omega) k H locs lsA I hW hL hl h1' h2' h3'
    · exact gs_newarr (ty := .boolean) C hd (Or.inr ⟨rfl, rfl, rfl⟩) hw_az q0 q1 (by omega) (by omega) k H locs lsA I hW hL hl h1' h2' h3'
  case anewarray i =>
    simp only [stp] at h
    obtain ⟨x, r, hst0, h0⟩ := p1I_e h
    clear h
    subst hst0
    have h := h0
    clear h0
    obtain ⟨kd, r2, hst0, h0⟩ := a1_e h
    clear h
    subst hst0
    have h := h0
    clear h0
    obtain ⟨⟨q0, q1, q2, q3⟩, h⟩ := ite_e h
    cases h
    cases r2 with
    | nil => simp [okI] at hok
    | cons z r2 =>
      simp only [okI, Bool.and_eq_true, decide_eq_true_eq] at hok
      obtain ⟨rfl, h1, h2⟩ := hok
      intro H locs lsA I hW hL hl h1' h2' h3'
      simp only [List.length_append, List.length_singleton, slN_push] at hcl hsl
      exact gs_newq C hd q2 q3 (bigW_of (wdo_e h2) rfl) q0 q1 (by omega) (by omega) k H locs lsA I hW hL hl h1' h2' h3'
  case invokestatic i =>
    simp only [stp] at h
    obtain ⟨t, r, hst0, h0⟩ := a1_e h
    clear h
    subst hst0
    have h := h0
    clear h0
    have key : r.length = 1 → ln = 3 ∧ 1 ≤ mF mi ∧ 21 ≤ mW mi ∧ ∃ hh, r = [hh] ∧ ((t = 1000 ∧ lw_tbl[hh]? = some (.methodLink (mO mi) i arraycopyName) ∧ 40 ≤ mW mi) ∨ (t = 1002 ∧ lw_tbl[hh]? = some (.methodLink (mO mi) i Lib.Math.max.name)) ∨ (t = 1003 ∧ lw_tbl[hh]? = some (.methodLink (mO mi) i Lib.Math.min.name))) := by
      intro hr
      match r, hr with
      | [hh], _ =>
        simp only [okI, Bool.and_eq_true, Bool.or_eq_true, decide_eq_true_eq] at hok
        obtain ⟨h1, ⟨h2, h3⟩, h4⟩ := hok
        refine ⟨h1, h3, h4, hh, rfl, ?_⟩
        rcases h2 with (⟨⟨h2, h5⟩, h6⟩ | ⟨h2, h5⟩) | ⟨h2, h5⟩
        · exact Or.inl ⟨h2, wdo_e h5, h6⟩
        · exact Or.inr (Or.inl ⟨h2, wdo_e h5⟩)
        · exact Or.inr (Or.inr ⟨h2, wdo_e h5⟩)
    have key2 : r.length ≠ 1 → t < 227 := by
      intro hr
      match r, hr with
      | [], _ => simp [okI] at hok
      | hh :: np :: r2, _ =>
        simp only [okI, depo, Bool.and_eq_true, decide_eq_true_eq] at hok
        exact hok.2.1.2.1.1.1
    have key3 : 1000 ≤ t → r.length = 1 := fun ht => Decidable.byContradiction fun q => by have := key2 q; omega
    split at h
    · next ht =>
      subst ht
      obtain ⟨rfl, k1, k2, hh, rfl, k3⟩ := key (key3 (by omega))
      rcases k3 with ⟨-, k3, k4⟩ | ⟨k3, -⟩ | ⟨k3, -⟩
      · split at h
        · split at h
          · obtain ⟨⟨hst1, hst2, q1, q2, q3, q4, q5⟩, h0⟩ := ite_e h
            clear h
            subst hst1
            subst hst2
            cases h0
            exact gs_copy C hd (bigW_of k3 rfl) hw_nat hw_acs hw_sys (by assumption) (by assumption) q1 q2 q3 q4 q5 (by omega) (by omega) k
          · cases h
        · cases h
      · omega
      · omega
    · split at h
      · next ht =>
        subst ht
        obtain ⟨rfl, k1, k2, hh, rfl, k3⟩ := key (key3 (by omega))
        obtain ⟨x, y, r, hst0, h0⟩ := p2I_e h
        clear h
        subst hst0
        have h := h0
        clear h0
        obtain ⟨hs, h⟩ := ite_e h
        cases h
        rcases k3 with ⟨k3, -⟩ | ⟨-, k3⟩ | ⟨k3, -⟩
        · omega
        · exact gs_mmax C hd (bigW_of k3 rfl) hw_maxs hw_mth hw_maxc hs (by omega) (by omega) hcl hsl k
        · omega
      · split at h
        · next ht =>
          subst ht
          obtain ⟨rfl, k1, k2, hh, rfl, k3⟩ := key (key3 (by omega))
          obtain ⟨x, y, r, hst0, h0⟩ := p2I_e h
          clear h
          subst hst0
          have h := h0
          clear h0
          obtain ⟨hs, h⟩ := ite_e h
          cases h
          rcases k3 with ⟨k3, -⟩ | ⟨k3, -⟩ | ⟨-, k3⟩
          · omega
          · omega
          · exact gs_mmin C hd (bigW_of k3 rfl) hw_mins hw_mth hw_minc hs (by omega) (by omega) hcl hsl k
        · cases h
  case invokespecial i =>
    simp only [stp] at h
    obtain ⟨t, r, hst0, h0⟩ := a1_e h
    clear h
    subst hst0
    have h := h0
    clear h0
    obtain ⟨ht, h⟩ := ite_e h
    subst ht
    obtain ⟨c0, r3, hst0, h0⟩ := p1R_e h
    clear h
    subst hst0
    have h := h0
    clear h0
    obtain ⟨hs, h⟩ := ite_e h
    cases h
    match r, hok with
    | [], hok => simp [okI] at hok
    | [hh], hok =>
      simp only [okI, Bool.and_eq_true, decide_eq_true_eq] at hok
      obtain ⟨rfl, ⟨⟨-, h2⟩, h3⟩, h4⟩ := hok
      exact gs_objinit C hd (bigW_of (wdo_e h2) rfl) hw_oii hw_oic hs (by omega) (by omega) k
    | hh :: np :: r2, hok =>
      simp only [okI, depo, Bool.and_eq_true, decide_eq_true_eq] at hok
      have := hok.2.1.1.1.1.1.2.1.1.1
      omega
  all_goals (exfalso; simp [stp] at h)
end SS
end
section
def ini (mi : Nat) (av : List AV) : List AV := av ++ List.replicate (mL mi - av.length) vU
def rtV (mi : Nat) (e : En) (st : List AV) : Option (Option AV) := match e.2.2.1 with
  | .ireturn => match st with
    | [.inl v] => match mR mi with
      | some .int => some (some (vI v))
      | some .boolean => if v = 0 ∨ v = 1 then some (some (vI v)) else none
      | _ => none
    | _ => none
  | .lreturn => match st with
    | [.inr (.inl v)] => match mR mi with
      | some .long => some (some (vL v))
      | _ => none
    | _ => none
  | .areturn => match st with
    | [.inr (.inr (.inl r))] => match mR mi with
      | some (.object _) => some (some (vR r))
      | _ => none
    | _ => none
  | .return_ => match st with
    | [] => match mR mi with
      | none => some none
      | _ => none
    | _ => none
  | _ => none
def clR (mi' np : Nat) (st : List AV) (σ : Sg) : Option (Nat × List AV × List AV) := if np + 1 ≤ mL mi' ∧ np ≤ st.length ∧ (st.take np).all (fun v => !cat2 v) = true then (match st.drop np with
  | .inr (.inr (.inl (c + 2))) :: r => match σ.1[c]? with
    | some (kd, _) => if kd = mK mi' ∧ catS r ≤ 8 then some (mi', vR (c + 2) :: (st.take np).reverse, r) else none
    | none => none
  | _ => none) else none
def clV (e : En) (st : List AV) (σ : Sg) : Option (Nat × List AV × List AV) := match e.2.2.1 with
  | .invokestatic _ => match e.2.2.2 with
    | mi' :: _ :: np :: _ => if np ≤ mL mi' ∧ np ≤ st.length ∧ (st.take np).all (fun v => !cat2 v) = true ∧ catS (st.drop np) ≤ 8 then some (mi', (st.take np).reverse, st.drop np) else none
    | _ => none
  | .invokevirtual _ => match e.2.2.2 with
    | mi' :: _ :: np :: _ => clR mi' np st σ
    | _ => none
  | .invokespecial _ => match e.2.2.2 with
    | mi' :: _ :: np :: _ => clR mi' np st σ
    | _ => none
  | _ => none
def run (sx : Int → Int) (L : Nat) : Nat → Nat → List En → Nat → List AV → List AV → Sg → Option (Option AV × Sg)
  | 0, _, _, _, _, _, _ => none
  | n + 1, mi, [], fl, ls, st, σ => run sx L n mi (blk mi fl).1 (blk mi fl).2 ls st σ
  | n + 1, mi, e :: es, fl, ls, st, σ =>
    match rtV mi e st with
    | some rv => some (rv, σ)
    | none => match clV e st σ with
      | some (mi', av, rest) => match run sx L n mi' (blk mi' 0).1 (blk mi' 0).2 (ini mi' av) [] σ with
        | some (rv, σ') => run sx L n mi es fl ls (rv.toList ++ rest) σ'
        | none => none
      | none => match stp sx L e ls st σ with
        | some (0, ls', st', σ') => run sx L n mi es fl ls' st' σ'
        | some (j + 1, ls', st', σ') => run sx L n mi (blk mi j).1 (blk mi j).2 ls' st' σ'
        | none => none
set_option maxHeartbeats 4000000 in
theorem stp_mono {sx : Int → Int} {L : Nat} {e0 : En} {ls st ls' st' : List AV} {σ σ' : Sg} {j : Nat} (h : stp sx L e0 ls st σ = some (j, ls', st', σ')) : ∃ t, σ'.1 = σ.1 ++ t := by
  obtain ⟨pc, ln, ins, aux⟩ := e0
  cases ins <;> simp only [stp, p1I, p2I, p2L, p1R, p2IR, p3, gI, gL, gR, oI, oR, sto1, sto2, a1, a2] at h <;> (repeat' (split at h)) <;> first | (cases h; done) | (cases h; first | exact ⟨[], (List.append_nil _).symm⟩ | exact ⟨_, rfl⟩)
theorem run_mono {sx : Int → Int} {L : Nat} : ∀ (n mi : Nat) (es : List En) (fl : Nat) (ls st : List AV) (σ : Sg) (rv : Option AV) (σ' : Sg), run sx L n mi es fl ls st σ = some (rv, σ') → ∃ t, σ'.1 = σ.1 ++ t := by
  intro n
  induction n with
  | zero => intro mi es fl ls st σ rv σ' h; simp [run] at h
  | succ n ih =>
    intro mi es fl ls st σ rv σ' h
    cases es with
    | nil => exact ih _ _ _ _ _ _ _ _ h
    | cons e0 es =>
      simp only [run] at h
      split at h
      · cases h; exact ⟨[], (List.append_nil _).symm⟩
      · split at h
        · split at h
          · next h2 =>
            obtain ⟨t1, e1⟩ := ih _ _ _ _ _ _ _ _ h2
            obtain ⟨t2, e2⟩ := ih _ _ _ _ _ _ _ _ h
            exact ⟨t1 ++ t2, by rw [e2, e1, List.append_assoc]⟩
          · cases h
        · split at h
          · next h2 =>
            obtain ⟨t1, e1⟩ := stp_mono h2
            obtain ⟨t2, e2⟩ := ih _ _ _ _ _ _ _ _ h
            exact ⟨t1 ++ t2, by rw [e2, e1, List.append_assoc]⟩
          · next h2 =>
            obtain ⟨t1, e1⟩ := stp_mono h2
            obtain ⟨t2, e2⟩ := ih _ _ _ _ _ _ _ _ h
            exact ⟨t1 ++ t2, by rw [e2, e1, List.append_assoc]⟩
          · cases h
theorem run_len {sx : Int → Int} {L n mi : Nat} {es : List En} {fl : Nat} {ls st : List AV} {σ σ' : Sg} {rv : Option AV} (h : run sx L n mi es fl ls st σ = some (rv, σ')) : σ.1.length ≤ σ'.1.length ∧ slN σ.1 ≤ slN σ'.1 := by
  obtain ⟨t, e⟩ := run_mono _ _ _ _ _ _ _ _ _ h
  rw [e]
  simp [slN]
theorem stp_len {sx : Int → Int} {L : Nat} {e0 : En} {ls st ls' st' : List AV} {σ σ' : Sg} {j : Nat} (h : stp sx L e0 ls st σ = some (j, ls', st', σ')) : σ.1.length ≤ σ'.1.length ∧ slN σ.1 ≤ slN σ'.1 := by
  obtain ⟨t, e⟩ := stp_mono h
  rw [e]
  simp [slN]
end
section
theorem goodB {w : Jvm.Cond} (h : w ∈ bigW) : GoodIn bigW (w :: bigW) := fun v hv => by
  have hm : v ∈ bigW := by
    rcases List.mem_cons.mp hv with rfl | q
    · exact h
    · exact q
  exact ⟨hm, good_of_word (List.mem_filter.mp hm).2⟩
/-- what the tables of a state say -/
def CWd (D : va_G) (cA : Nat → ClassId) (U : State) : Prop := va_K D vwCl (ty5 cA) U ∧ (∀ w ∈ nstW, va_Nw w U) ∧ va_AO RX0 U ∧ va_AO RX1 U ∧ va_AO RX6 U
theorem nst_tab {w : Jvm.Cond} (h : w ∈ nstW) : w.onTables = true := by
  have := (List.mem_filter.mp h).2
  cases w <;> first | rfl | (simp [isNst] at this; done)
theorem CWd.same {D : va_G} {cA : Nat → ClassId} {u U : State} (h : u.vm = U.vm) (C : CWd D cA u) : CWd D cA U := by
  have ha : u.vm.Alike U.vm := by rw [h]; exact Vm.Alike.refl _
  exact ⟨C.1.moved ha, fun w hw => (C.2.1 w hw).same (nst_tab hw) h, C.2.2.1.moved ha, C.2.2.2.1.moved ha, C.2.2.2.2.moved ha⟩
theorem CWd.warm {D : va_G} {cA : Nat → ClassId} {u U : State} (h : u.WarmedH U.vm) (C : CWd D cA u) : CWd D cA U := by
  refine ⟨C.1.moved h.alike, fun w hw => ?_, C.2.2.1.moved h.alike, C.2.2.2.1.moved h.alike, C.2.2.2.2.moved h.alike⟩
  have h1 := C.2.1 w hw
  have h2 := (List.mem_filter.mp hw).2
  cases w <;> first | exact va_Nw.warmF h h1 | exact va_Nw.warmM h h1 | (simp [isNst] at h2; done)
theorem WH.moved {n0 b L : Nat} {sx : Int → Int} {D : va_G} {cA : Nat → ClassId} {u U : State} {σ : Sg} {H : Heap} (h : u.vm.Alike U.vm) (W0 : WH n0 b L sx D cA u σ H) : WH n0 b L sx D cA U σ H := ⟨W0.1, W0.2.1, W0.2.2.1.moved h, W0.2.2.2⟩
def pureI (rv : Option AV) (σ : Sg) : Prop := (∀ v, rv = some v → okv v) ∧ (∀ c j, inR (σ.2.2 c j)) ∧ ∀ q ∈ σ.1, q.2 ≤ 100000
def QcR (n0 b L : Nat) (sx : Int → Int) (D : va_G) (cA : Nat → ClassId) (σ' : Sg) (rv : Option AV) : Array Value → State → Outcome → State → Prop := fun _ _ o t => o = .returned (rv.map (cv n0 b)) ∧ WH n0 b L sx D cA t σ' t.heap ∧ pureI rv σ'
def retIn (rv : Option AV) : Instr := match rv with
  | none => .return_
  | some (.inl _) => .ireturn
  | some (.inr (.inl _)) => .lreturn
  | some (.inr (.inr _)) => .areturn
def rtOk (ret : Option FieldType) (rv : Option AV) : Prop := match ret, rv with
  | none, none => True
  | some .int, some (.inl _) => True
  | some .boolean, some (.inl v) => v = 0 ∨ v = 1
  | some .long, some (.inr (.inl _)) => True
  | some (.object _), some (.inr (.inr (.inl _))) => True
  | _, _ => False
theorem rtV_e {mi : Nat} {pc ln : Nat} {ins : Instr} {aux : List Nat} {st : List AV} {rv : Option AV} (h : rtV mi (pc, ln, ins, aux) st = some rv) : ins = retIn rv ∧ rtOk (mR mi) rv ∧ st = rv.toList := by
  unfold rtV at h
  (repeat' (split at h)) <;> first | (cases h; done) | (cases h; dsimp only at *; subst_vars; simp_all [retIn, rtOk]; done) | skip
section SR
variable {p : Program} {l : Launch} {e : Env} {R : Room} {s : State} {m : MethodId} {args : Array Value} {below : List Frame} {meth : Method} {c : Code} {Q : State → Prop} {cc : ByteArray} {nL : Nat} {own : String} {n0 b L k0 s0 : Nat} {sx : Int → Int} {D : va_G} {cA : Nat → ClassId}
/-- what the method's end asks for -/
def RCx (p : Program) (l : Launch) (e : Env) (R : Room) (s : State) (m : MethodId) (args : Array Value) (below : List Frame) (meth : Method) (c : Code) (Q : State → Prop) (n0 b L : Nat) (sx : Int → Int) (D : va_G) (cA : Nat → ClassId) (k0 s0 : Nat) (cc : ByteArray) (ret : Option FieldType) (rv : Option AV) (σ' : Sg) : Prop :=
  ∀ (H : Heap) (locs : List Loc) (lsA : Array Slot) (pc : Nat), pureI rv σ' → WH n0 b L sx D cA s σ' H → (∀ q ∈ locs, n0 ≤ q.base) → k0 ≤ σ'.1.length → s0 ≤ slN σ'.1 → decode cc pc = .ok (retIn rv, 1) → rtOk ret rv → W p l e R s m args below meth c H locs (σ'.1.length - k0) (slN σ'.1 - s0) Q (F0 m pc lsA (rv.toList.map (cv n0 b)))
/-- behind a call -/
theorem gs_call {pc : Nat} {ls st rest : List AV} {σ σ' : Sg} {rv : Option AV} {a : Array Value} (hlen : σ.1.length ≤ σ'.1.length ∧ slN σ.1 ≤ slN σ'.1) (hrest : ∀ v ∈ rest, v ∈ st)
    (hr : ∀ (H : Heap) (locs : List Loc) (lsA : Array Slot), INV ls st σ → WH n0 b L sx D cA s σ H → LH n0 b lsA nL ls → k0 ≤ σ.1.length → s0 ≤ slN σ.1 → va_Run p l e R s m args below meth c H locs (σ.1.length - k0) (slN σ.1 - s0) (σ'.1.length - σ.1.length) (slN σ'.1 - slN σ.1) (F0 m pc lsA (st.map (cv n0 b))) (rest.map (cv n0 b)) (QcR n0 b L sx D cA σ' rv a) (fun q => n0 ≤ q))
    (kk : GW p l e R s m args below meth c Q nL n0 b L sx D cA k0 s0 (pc + 3) ls (rv.toList ++ rest) σ') : GW p l e R s m args below meth c Q nL n0 b L sx D cA k0 s0 pc ls st σ := by
  intro H locs lsA I hW hL hl h1 h2 h3 T hT X
  obtain ⟨v, st₀, t, T', L', h0, X', hL', e1, e2, ⟨hv, hW', hp⟩, hst⟩ := hr H locs lsA I hW hl h1 h2 T hT X
  cases hv
  have ea : σ.1.length - k0 + (σ'.1.length - σ.1.length) = σ'.1.length - k0 := by omega
  have eb : slN σ.1 - s0 + (slN σ'.1 - slN σ.1) = slN σ'.1 - s0 := by omega
  rw [ea, eb] at X'
  have hW2 : WH n0 b L sx D cA s σ' T'.heap := by
    rw [e1]
    refine hW'.moved ?_
    rw [← e2]
    exact X'.warmed.alike.symm
  have hI : INV ls (rv.toList ++ rest) σ' := by
    refine ⟨I.1, fun w hw => ?_, hp.2.1, hp.2.2⟩
    rcases List.mem_append.mp hw with q | q
    · cases rv with
      | none => cases q
      | some z => rw [List.mem_singleton.mp q]; exact hp.1 z rfl
    · exact I.2.1 w (hrest w q)
  obtain ⟨t2, a1, b1⟩ := kk T'.heap (locs ++ L') lsA hI hW2 (fun q hq => by
    rcases List.mem_append.mp hq with h | h
    · exact hL q h
    · exact hL' q h) hl (by omega) (by omega) h3 T' rfl X'
  refine ⟨t2, hst t2 ?_, b1⟩
  have e : ((rv.map (cv n0 b)).toList ++ rest.map (cv n0 b)) = (rv.toList ++ rest).map (cv n0 b) := by cases rv <;> simp
  rw [e]
  exact a1
end SR
/-- the small machine's run is the machine's -/
def Snd (sx : Int → Int) (L n : Nat) : Prop := ∀ (mi : Nat) (es : List En) (fl : Nat) (ls st : List AV) (σ : Sg) (rv : Option AV) (σ' : Sg), run sx L n mi es fl ls st σ = some (rv, σ') → okEs mi es fl = true → es.all (dcE mi) = true → okB mi = true → (ents mi).all (dcE mi) = true →
  ∀ {p : Program} {l : Launch} {e : Env} {R : Room} {s : State} {m : MethodId} {args : Array Value} {below : List Frame} {meth : Method} {c : Code} {Q : State → Prop} {n0 b k0 s0 : Nat} {D : va_G} {cA : Nat → ClassId},
    Cx p s m args c (mC mi) (mL mi) (mO mi) D cA → ((mY mi).name = "<init>" → meth.name = "<init>") → mF mi ≤ R.frames → mW mi ≤ R.locals → σ'.1.length - k0 ≤ R.cells → slN σ'.1 - s0 ≤ R.slots →
    RCx p l e R s m args below meth c Q n0 b L sx D cA k0 s0 (mC mi) (mR mi) rv σ' → GW p l e R s m args below meth c Q (mL mi) n0 b L sx D cA k0 s0 (nxp mi es fl) ls st σ
theorem okB_e {mi : Nat} (h : okB mi = true) : spc mi 0 = 0 ∧ 0 < (bks mi).length ∧ ∀ bk ∈ bks mi, bk.1 ≠ [] ∧ okEs mi bk.1 bk.2 = true := by
  simp only [okB, Bool.and_eq_true, decide_eq_true_eq, List.all_eq_true] at h
  exact ⟨h.1.1, h.1.2, fun bk hb => h.2 bk hb⟩
theorem blk_cases (mi j : Nat) : blk mi j ∈ bks mi ∨ blk mi j = ([], 0) := by
  unfold blk
  rw [List.getD_eq_getElem?_getD]
  cases hj : (bks mi)[j]? with
  | none => exact Or.inr rfl
  | some q => exact Or.inl (List.mem_of_getElem? hj)
theorem blk_ok {mi : Nat} (h : okB mi = true) (j : Nat) : okEs mi (blk mi j).1 (blk mi j).2 = true ∧ nxp mi (blk mi j).1 (blk mi j).2 = spc mi j := by
  obtain ⟨h1, h2, h3⟩ := okB_e h
  rcases blk_cases mi j with hb | hb
  · obtain ⟨h4, h5⟩ := h3 _ hb
    refine ⟨h5, ?_⟩
    unfold nxp spc
    cases hq : (blk mi j).1 with
    | nil => exact absurd hq h4
    | cons e0 es => rfl
  · have e : spc mi j = 0 := by unfold spc; rw [hb]
    rw [hb, e]
    exact ⟨by simp [okEs, h2], h1⟩
theorem blk_dc {mi : Nat} (h : (ents mi).all (dcE mi) = true) (j : Nat) : (blk mi j).1.all (dcE mi) = true := by
  rcases blk_cases mi j with hb | hb
  · exact List.all_eq_true.mpr fun e0 he => List.all_eq_true.mp h e0 (List.mem_flatMap.mpr ⟨blk mi j, hb, he⟩)
  · rw [hb]; rfl
end
section
theorem okM_e {mi : Nat} (h : okM mi = true) : Jvm.Cond.code (mY mi) (mC mi) (mL mi) (mR mi) ∈ bigW ∧ Jvm.Cond.initialized (mY mi).cls ∈ bigW ∧ mO mi = (mY mi).cls ∧ plainName (mY mi).cls = true ∧ (mY mi).cls ≠ "java/lang/invoke/MethodHandle" ∧ (mY mi).cls ≠ "java/lang/invoke/VarHandle" := by
  simp only [okM, Bool.and_eq_true, decide_eq_true_eq] at h
  obtain ⟨⟨⟨⟨⟨⟨h1, h2⟩, h3⟩, h4⟩, h5⟩, h6⟩, h7⟩ := h
  exact ⟨bigW_of (wdo_e h1) h7, bigW_of (wdo_e h2) rfl, h3, h4, h5, h6⟩
theorem ini_len {mi : Nat} {av : List AV} (h : av.length ≤ mL mi) : (ini mi av).length = mL mi := by simp [ini]; omega
theorem sl_len {n0 b : Nat} {av : List AV} (h2 : ∀ v ∈ av, cat2 v = false) : (lg_sl (av.map (cv n0 b))).length = av.length := by
  induction av with
  | nil => rfl
  | cons v r ih =>
    have h3 := cv_cat (n0 := n0) (b := b) (h2 v List.mem_cons_self)
    have h4 := ih (fun w hw => h2 w (List.mem_cons_of_mem _ hw))
    simp only [lg_sl, List.map_cons, List.flatMap_cons, List.length_append, List.length_cons] at h4 ⊢
    rw [if_neg (by omega), h4]
    simp
    omega
theorem args_at {n0 b : Nat} : ∀ (av : List AV) (k i : Nat) (v : AV), (∀ v ∈ av, cat2 v = false) → av[i]? = some v → (k + i, cv n0 b v) ∈ lv_args k (av.map (cv n0 b)) := by
  intro av
  induction av with
  | nil => intro k i v _ h; simp at h
  | cons w r ih =>
    intro k i v h2 h
    have h3 := cv_cat (n0 := n0) (b := b) (h2 w List.mem_cons_self)
    cases i with
    | zero =>
      simp at h
      subst h
      simp [lv_args]
    | succ i =>
      rw [List.getElem?_cons_succ] at h
      have h4 := ih (k + 1) i v (fun w hw => h2 w (List.mem_cons_of_mem _ hw)) h
      simp only [List.map_cons, lv_args]
      rw [if_neg (by omega)]
      refine List.mem_cons_of_mem _ ?_
      rw [show k + (i + 1) = k + 1 + i by omega]
      exact h4
theorem LH_entry {n0 b mi : Nat} {av : List AV} (h1 : av.length ≤ mL mi) (h2 : ∀ v ∈ av, cat2 v = false) : LH n0 b ((lg_sl (av.map (cv n0 b)) ++ List.replicate (mL mi - (lg_sl (av.map (cv n0 b))).length) Slot.unset).toArray) (mL mi) (ini mi av) := by
  have hl := lv_entry (av.map (cv n0 b)) (n := mL mi) (by rw [sl_len h2]; exact h1)
  refine ⟨ini_len h1, hl.1, hl.2.1, fun q hq => ?_⟩
  obtain ⟨w, h3, h4, h5⟩ := lst_of hq
  obtain ⟨i, q2⟩ := q
  dsimp only at h3 h5
  subst h5
  refine hl.2.2 (i, cv n0 b w) ?_
  rcases Nat.lt_or_ge i av.length with hi | hi
  · unfold ini at h3
    rw [List.getElem?_append_left hi] at h3
    have := args_at (n0 := n0) (b := b) av 0 i w h2 h3
    rwa [Nat.zero_add] at this
  · unfold ini at h3
    rw [List.getElem?_append_right hi] at h3
    have := List.eq_of_mem_replicate (List.mem_of_getElem? h3)
    subst this
    simp [isU] at h4
theorem met_run {sx : Int → Int} {L n : Nat} (IH : Snd sx L n) {mi' : Nat} {av : List AV} {σ σ' : Sg} {rv : Option AV} (h : run sx L n mi' (blk mi' 0).1 (blk mi' 0).2 (ini mi' av) [] σ = some (rv, σ')) (hB : okB mi' = true) (hD : (ents mi').all (dcE mi') = true) (hM : okM mi' = true)
    (h1 : av.length ≤ mL mi') (h2 : ∀ v ∈ av, cat2 v = false) (h3 : ∀ v ∈ av, okv v) (h4 : ∀ c j, inR (σ.2.2 c j)) (h5 : ∀ q ∈ σ.1, q.2 ≤ 100000) (l : Launch) (n0 b : Nat) (D : va_G) (cA : Nat → ClassId) :
    Met l (mY mi') (Jvm.Cond.code (mY mi') (mC mi') (mL mi') (mR mi') :: bigW) { frames := mF mi', cells := σ'.1.length - σ.1.length, slots := slN σ'.1 - slN σ.1, locals := mW mi' } (va_Pc (av.map (cv n0 b)) (fun U => CWd D cA U ∧ WH n0 b L sx D cA U σ U.heap)) (QcR n0 b L sx D cA σ' rv) (σ'.1.length - σ.1.length) (slN σ'.1 - slN σ.1) (fun q => n0 ≤ q) := by
  obtain ⟨m1, m2, m3, m4, m5, m6⟩ := okM_e hM
  refine Met.ofW (cc := mC mi') (maxL := mL mi') (ret := mR mi') m4 rfl ?_
  intro p e s m args below meth c s₁ B hml hv
  obtain ⟨rfl, hcw, hWH⟩ := hv
  have hts := atoms_spec (ws := Jvm.Cond.code (mY mi') (mC mi') (mL mi') (mR mi') :: bigW) B.pre
  have hown : s.vm.findClass (mO mi') = some m.cls := by rw [m3]; exact findClass_of_methodNamed B.named
  have hlocks := B.notSynchronized
  have hname : meth.name = (mY mi').name := (name_of_methodNamed B.named B.method).1
  have C : Cx p s m (av.map (cv n0 b)).toArray c (mC mi') (mL mi') (mO mi') D cA := ⟨B.exec, B.bytes, hml, hown, fun w hw => hts w (List.mem_cons_of_mem _ hw), hcw.1, fun w hw => (hcw.2.1 w hw).use (nst_tab hw), hcw.2.2.1, hcw.2.2.2.1, hcw.2.2.2.2⟩
  rw [lg_entry_eq]
  have G := IH mi' _ _ _ _ _ _ _ h (blk_ok hB 0).1 (blk_dc hD 0) hB hD (p := p) (l := l) (e := e) (R := (headSpec (Jvm.Cond.code (mY mi') (mC mi') (mL mi') (mR mi') :: bigW) { frames := mF mi', cells := σ'.1.length - σ.1.length, slots := slN σ'.1 - slN σ.1, locals := mW mi' }).room) (s := s) (m := m) (args := (av.map (cv n0 b)).toArray) (below := below) (meth := meth) (c := c) (Q := MQ below (QcR n0 b L sx D cA σ' rv) (av.map (cv n0 b)).toArray s (σ'.1.length - σ.1.length) (slN σ'.1 - slN σ.1) (fun q => n0 ≤ q)) (n0 := n0) (b := b) (k0 := σ.1.length) (s0 := slN σ.1) (D := D) (cA := cA)
    C (fun q => hname.trans q) (Nat.le_refl _) (Nat.le_refl _) (Nat.le_refl _) (Nat.le_refl _) ?_
  · rw [(blk_ok hB 0).2, (okB_e hB).1] at G
    have G2 := G s.heap [] _ ⟨fun v hv => ?_, (fun v hv => by cases hv), h4, h5⟩ hWH (fun q hq => by cases hq) (LH_entry h1 h2) (Nat.le_refl _) (Nat.le_refl _) hWH.1
    · simp only [Nat.sub_self, List.map_nil] at G2
      exact G2
    · rcases List.mem_append.mp hv with q | q
      · exact h3 v q
      · rw [List.eq_of_mem_replicate q]; trivial
  · intro H locs lsA pc hp hW hL q1 q2 hd hrt
    have hQ : ∀ t : State, t.heap = H → s.WarmedH t.vm → WH n0 b L sx D cA t σ' t.heap := fun t ht hWt => by rw [ht]; exact hW.moved hWt.alike
    have hr := B.returns
    rcases rv with _ | v | v | r | u
    · refine W.vret B.exec B.bytes ?_ (fun t ht hWt => ⟨rfl, hQ t ht hWt, hp⟩) hL hd
      rw [hr]
      revert hrt
      cases mR mi' with
      | none => intro _; rfl
      | some ty => intro q; cases ty <;> simp [rtOk] at q
    · have hz : ∃ ty, mR mi' = some ty ∧ narrow ty (.int (Int32.ofInt v)) = .int (Int32.ofInt v) := by
        revert hrt
        cases mR mi' with
        | none => intro q; simp [rtOk] at q
        | some ty =>
          intro q
          refine ⟨ty, rfl, ?_⟩
          cases ty <;> simp only [rtOk] at q
          case int => rfl
          case boolean => rcases q with rfl | rfl <;> rfl
      obtain ⟨ty, hty, hnar⟩ := hz
      exact W.zret (v := Int32.ofInt v) B.exec B.bytes (hr.trans hty) hnar (fun t ht hWt => ⟨rfl, hQ t ht hWt, hp⟩) hL hd
    · refine W.lret (v := Int64.ofInt v) B.exec B.bytes ?_ (fun t ht hWt => ⟨rfl, hQ t ht hWt, hp⟩) hL hd
      rw [hr]
      revert hrt
      cases mR mi' with
      | none => intro q; simp [rtOk] at q
      | some ty => intro q; cases ty <;> simp [rtOk] at q; rfl
    · have hz : ∃ nm, mR mi' = some (.object nm) := by
        revert hrt
        cases mR mi' with
        | none => intro q; simp [rtOk] at q
        | some ty => intro q; cases ty <;> simp [rtOk] at q; exact ⟨_, rfl⟩
      obtain ⟨nm, hnm⟩ := hz
      exact W.aret (v := cvR n0 b r) B.exec B.bytes (hr.trans hnm) (Or.inl ⟨nm, rfl⟩) (by unfold cvR; cases rfo n0 b r; exact Or.inl rfl; exact Or.inr ⟨_, rfl⟩) (fun t ht hWt => ⟨rfl, hQ t ht hWt, hp⟩) hL hd
    · exfalso
      revert hrt
      cases mR mi' with
      | none => intro q; simp [rtOk] at q
      | some ty => intro q; cases ty <;> simp [rtOk] at q

theorem GW.intro {p : Program} {l : Launch} {e : Env} {R : Room} {s : State} {m : MethodId} {args : Array Value} {below : List Frame} {meth : Method} {c : Code} {Q : State → Prop} {nL n0 b L k0 s0 : Nat} {sx : Int → Int} {D : va_G} {cA : Nat → ClassId} {pc : Nat} {ls st : List AV} {σ : Sg}
    (h : INV ls st σ → GW p l e R s m args below meth c Q nL n0 b L sx D cA k0 s0 pc ls st σ) : GW p l e R s m args below meth c Q nL n0 b L sx D cA k0 s0 pc ls st σ := fun H locs lsA I => h I H locs lsA I
theorem clR_e {mi' np : Nat} {st : List AV} {σ : Sg} {z : Nat × List AV × List AV} (h : clR mi' np st σ = some z) : ∃ c r n, np + 1 ≤ mL mi' ∧ np ≤ st.length ∧ (∀ v ∈ st.take np, cat2 v = false) ∧ st.drop np = vR (c + 2) :: r ∧ σ.1[c]? = some (mK mi', n) ∧ catS r ≤ 8 ∧ z = (mi', vR (c + 2) :: (st.take np).reverse, r) := by
  unfold clR at h
  obtain ⟨⟨h1, h2, h3⟩, h⟩ := ite_e h
  split at h
  · next c r hd =>
    split at h
    · next kd n hk =>
      obtain ⟨⟨h4, h5⟩, h0⟩ := ite_e h
      clear h
      subst h4
      cases h0
      exact ⟨c, r, n, h1, h2, fun v hv => by simpa using List.all_eq_true.mp h3 v hv, hd, hk, h5, rfl⟩
    · cases h
  · cases h
theorem lnko_e {mi i h : Nat} {y : MethodName} (q : lnko mi i h y = true) : Jvm.Cond.methodLink (mO mi) i y ∈ bigW ∨ Jvm.Cond.methodLinkNest (mO mi) i y "OneKnife" ∈ nstW := by
  simp only [lnko, Bool.or_eq_true] at q
  rcases q with q | q
  · exact Or.inl (bigW_of (wdo_e q) rfl)
  · exact Or.inr (nstW_of (wdo_e q) rfl)
theorem depo_e {mi mi' np : Nat} (q : depo mi mi' np = true) : mi' < 227 ∧ mF mi' + 1 ≤ mF mi ∧ 8 + (mL mi' + 11) + mW mi' ≤ mW mi ∧ (parseMethodDescriptor (mY mi').desc).map (fun d => d.parameters.length) = some np := by
  simp only [depo, Bool.and_eq_true, decide_eq_true_eq] at q
  exact ⟨q.1.1.1, q.1.1.2, q.1.2, q.2⟩
theorem Pc_blind {n0 b L : Nat} {sx : Int → Int} {D : va_G} {cA : Nat → ClassId} {av : List Value} {σ : Sg} : FrameBlind (va_Pc av (fun U => CWd D cA U ∧ WH n0 b L sx D cA U σ U.heap)) := fun a U g mk q => ⟨q.1, q.2.1.same (u := U) (U := U.calling g mk a) rfl, q.2.2.moved (u := U) (U := U.calling g mk a) (Vm.Alike.refl U.vm)⟩
section SC
variable {p : Program} {l : Launch} {e : Env} {R : Room} {s : State} {m : MethodId} {args : Array Value} {below : List Frame} {meth : Method} {c : Code} {Q : State → Prop} {cc : ByteArray} {nL : Nat} {own : String} {n0 b L k0 s0 : Nat} {sx : Int → Int} {D : va_G} {cA : Nat → ClassId}
theorem Cx.wd {mi : Nat} (C : Cx p s m args c cc nL own D cA) : CWd D cA s := ⟨C.2.2.2.2.2.1, fun w hw => va_Nw.of (nst_tab hw) (C.2.2.2.2.2.2.1 w hw), C.2.2.2.2.2.2.2.1, C.2.2.2.2.2.2.2.2.1, C.2.2.2.2.2.2.2.2.2⟩
theorem Pc_holds {H : Heap} {σ : Sg} {av : List Value} (C : Cx p s m args c cc nL own D cA) (hW : WH n0 b L sx D cA s σ H) : ∀ U : State, U.heap = H → s.WarmedH U.vm → va_Pc av (fun U => CWd D cA U ∧ WH n0 b L sx D cA U σ U.heap) av.toArray U := fun U hU hw => ⟨rfl, (Cx.wd (mi := 0) C).warm hw, by rw [hU]; exact hW.moved hw.alike⟩
theorem pm_len {y : MethodName} {n : Nat} (h : (parseMethodDescriptor y.desc).map (fun d => d.parameters.length) = some n) : ∀ sig, parseMethodDescriptor y.desc = some sig → n = sig.parameters.length := fun sig hs => by
  rw [hs] at h
  exact (Option.some.inj h).symm
theorem call_run {n mi mi' np i h pc ln : Nat} {ins : Instr} {aux : List Nat} {ls st rest av : List AV} {σ σ1 : Sg} {rv1 : Option AV} (IH : Snd sx L n) (hbm : ∀ mi, mi < 227 → (okB mi = true ∧ okM mi = true) ∧ (ents mi).all (dcE mi) = true)
    (C : Cx p s m args c (mC mi) nL (mO mi) D cA) (hd : decode (mC mi) pc = .ok (ins, ln)) (hok : okI mi (pc, ln, ins, aux) = true) (hc : clV (pc, ln, ins, aux) st σ = some (mi', av, rest)) (hr : run sx L n mi' (blk mi' 0).1 (blk mi' 0).2 (ini mi' av) [] σ = some (rv1, σ1))
    (hfr : mF mi ≤ R.frames) (hlo : mW mi ≤ R.locals) (hcl : σ1.1.length - k0 ≤ R.cells) (hsl : slN σ1.1 - s0 ≤ R.slots) (kk : GW p l e R s m args below meth c Q nL n0 b L sx D cA k0 s0 (pc + 3) ls (rv1.toList ++ rest) σ1) : ln = 3 ∧ GW p l e R s m args below meth c Q nL n0 b L sx D cA k0 s0 pc ls st σ := by
  have hlen := run_len hr
  unfold clV at hc
  dsimp only at hc
  split at hc
  · split at hc
    · next i2 aux2 mi2 hh np2 r2 =>
      obtain ⟨⟨q1, q2, q3, q4⟩, hc⟩ := ite_e hc
      cases hc
      simp only [okI, Bool.and_eq_true, decide_eq_true_eq] at hok
      obtain ⟨rfl, ⟨hl, hdp⟩, hst⟩ := hok
      obtain ⟨d1, d2, d3, d4⟩ := depo_e hdp
      obtain ⟨⟨b1, b2⟩, b3⟩ := hbm _ d1
      obtain ⟨m1, m2, m3, m4, m5, m6⟩ := okM_e b2
      have hstat : Jvm.Cond.static (mY mi') ∈ bigW := bigW_of (wdo_e hst) rfl
      have hav : (List.take np2 st).reverse.length = np2 := by simp; omega
      have hc2 : ∀ v ∈ (List.take np2 st).reverse, cat2 v = false := fun v hv => by simpa using List.all_eq_true.mp q3 v (List.mem_reverse.mp hv)
      refine ⟨rfl, gs_call (a := ((List.take np2 st).reverse.map (cv n0 b)).toArray) hlen (fun v hv => List.mem_of_mem_drop hv) (fun H locs lsA I hW hlh h1 h2 => ?_) kk⟩
      have hM := met_run IH hr b1 b3 b2 (by rw [hav]; exact q1) hc2 (fun v hv => I.2.1 v (List.mem_of_mem_take (List.mem_reverse.mp hv))) I.2.2.1 I.2.2.2 l n0 b D cA
      have hstack : st.map (cv n0 b) = ((List.take np2 st).reverse.map (cv n0 b)).reverse ++ (List.drop np2 st).map (cv n0 b) := by
        rw [← List.map_reverse, List.reverse_reverse, ← List.map_append, List.take_append_drop]
      have hfit : σ.1.length - k0 + (σ1.1.length - σ.1.length) ≤ R.cells ∧ slN σ.1 - s0 + (slN σ1.1 - slN σ.1) ≤ R.slots := by constructor <;> omega
      rcases lnko_e hl with hl1 | hl1
      · exact va_runS ⟨C.1, C.2.1, C.2.2.1, C.2.2.2.1, C.2.2.2.2.1⟩ hM ⟨callB_of np2 C.2.2.2.2.1 (goodB m1) rfl rfl rfl (C.2.2.2.2.1 _ m2) (C.2.2.2.2.1 _ hl1) ⟨m5, m6, d4⟩ ⟨Nat.le_trans d2 hfr, Nat.le_trans d3 hlo⟩, C.2.2.2.2.1 _ hstat⟩ ⟨Pc_blind, Pc_holds C hW⟩ rfl (by simp; omega) hlh.2.1 hstack (lv_room (by rw [cv_catS]; exact q4)) hd hfit
      · exact va_runSN ⟨C.1, C.2.1, C.2.2.1, C.2.2.2.1, C.2.2.2.2.1⟩ hM ⟨va_cnB np2 C.2.2.2.2.1 (goodB m1) rfl rfl rfl ((Cx.wd (mi := 0) C).2.1 _ hl1) (C.2.2.2.2.1 _ m2) ⟨m5, m6, d4⟩ ⟨Nat.le_trans d2 hfr, Nat.le_trans d3 hlo⟩, C.2.2.2.2.1 _ hstat, trivial⟩ ⟨Pc_blind, Pc_holds C hW⟩ rfl (by simp; omega) hlh.2.1 hstack (lv_room (by rw [cv_catS]; exact q4)) hd hfit
    · cases hc
  · split at hc
    · next i2 aux2 mi2 hh np2 r2 =>
      obtain ⟨c0, r0, n1, q1, q2, q3, q4, q5, q6, hz⟩ := clR_e hc
      cases hz
      simp only [okI, Bool.and_eq_true, decide_eq_true_eq] at hok
      obtain ⟨rfl, ⟨⟨⟨⟨hl, hdp⟩, hst⟩, hse⟩, hk10⟩, hcls⟩ := hok
      obtain ⟨d1, d2, d3, d4⟩ := depo_e hdp
      obtain ⟨⟨b1, b2⟩, b3⟩ := hbm _ d1
      obtain ⟨m1, m2, m3, m4, m5, m6⟩ := okM_e b2
      have hinst : Jvm.Cond.instanceMethod (mY mi') ∈ bigW := bigW_of (wdo_e hst) rfl
      have hsel : Jvm.Cond.selects (mY mi').cls (mY mi') (mY mi') ∈ bigW := bigW_of (wdo_e hse) rfl
      have hav : (List.take np2 st).reverse.length = np2 := by simp; omega
      have hc2 : ∀ v ∈ vR (c0 + 2) :: (List.take np2 st).reverse, cat2 v = false := fun v hv => by
        rcases List.mem_cons.mp hv with rfl | hv
        · rfl
        · exact q3 v (List.mem_reverse.mp hv)
      refine ⟨rfl, gs_call (a := ((vR (c0 + 2) :: (List.take np2 st).reverse).map (cv n0 b)).toArray) hlen (fun v hv => List.mem_of_mem_drop (i := np2) (by rw [q4]; exact List.mem_cons_of_mem _ hv)) (fun H locs lsA I hW hlh h1 h2 => ?_) kk⟩
      have hM := met_run IH hr b1 b3 b2 (by rw [List.length_cons, hav]; exact q1) hc2 (fun v hv => by
        rcases List.mem_cons.mp hv with rfl | hv
        · trivial
        · exact I.2.1 v (List.mem_of_mem_take (List.mem_reverse.mp hv))) I.2.2.1 I.2.2.2 l n0 b D cA
      have hstack : st.map (cv n0 b) = ((List.take np2 st).reverse.map (cv n0 b)).reverse ++ .ref (n0 + c0) :: rest.map (cv n0 b) := by
        have e : Value.ref (n0 + c0) :: rest.map (cv n0 b) = (List.drop np2 st).map (cv n0 b) := by rw [q4]; rfl
        rw [e, ← List.map_reverse, List.reverse_reverse, ← List.map_append, List.take_append_drop]
      have hfit : σ.1.length - k0 + (σ1.1.length - σ.1.length) ≤ R.cells ∧ slN σ.1 - s0 + (slN σ1.1 - slN σ.1) ≤ R.slots := by constructor <;> omega
      have he := wd_get (n0 := n0) (b := b) (cA := cA) q5
      rw [ce_ob hk10] at he
      have hrecv := va_recv C.2.2.2.2.2.1 hW.2.1 (cl_get _ hk10) he
      rw [hcls] at hrecv
      rcases lnko_e hl with hl1 | hl1
      · exact va_runV (C := (mY mi').cls) ⟨C.1, C.2.1, C.2.2.1, C.2.2.2.1, C.2.2.2.2.1⟩ hM ⟨callB_of np2 C.2.2.2.2.1 (goodB m1) rfl rfl rfl (C.2.2.2.2.1 _ m2) (C.2.2.2.2.1 _ hl1) ⟨m5, m6, d4⟩ ⟨Nat.le_trans d2 hfr, Nat.le_trans d3 hlo⟩, C.2.2.2.2.1 _ hinst, C.2.2.2.2.1 _ hsel⟩ ⟨Pc_blind, hrecv, Pc_holds C hW⟩ rfl (by simp; omega) hlh.2.1 hstack (lv_room (by rw [cv_catS]; exact q6)) hd hfit
      · exact va_runVN (C := (mY mi').cls) ⟨C.1, C.2.1, C.2.2.1, C.2.2.2.1, C.2.2.2.2.1⟩ hM ⟨va_cnB np2 C.2.2.2.2.1 (goodB m1) rfl rfl rfl ((Cx.wd (mi := 0) C).2.1 _ hl1) (C.2.2.2.2.1 _ m2) ⟨m5, m6, d4⟩ ⟨Nat.le_trans d2 hfr, Nat.le_trans d3 hlo⟩, C.2.2.2.2.1 _ hinst, C.2.2.2.2.1 _ hsel⟩ ⟨Pc_blind, hrecv, Pc_holds C hW⟩ rfl (by simp; omega) hlh.2.1 hstack (lv_room (by rw [cv_catS]; exact q6)) hd hfit
    · cases hc
  · split at hc
    · next i2 aux2 mi2 hh np2 r2 =>
      obtain ⟨c0, r0, n1, q1, q2, q3, q4, q5, q6, hz⟩ := clR_e hc
      cases hz
      simp only [okI, Bool.and_eq_true, decide_eq_true_eq] at hok
      obtain ⟨rfl, ⟨⟨⟨⟨⟨hl, hdp⟩, hst⟩, hini⟩, hnone⟩, hk10⟩, hcls⟩ := hok
      obtain ⟨d1, d2, d3, d4⟩ := depo_e hdp
      obtain ⟨⟨b1, b2⟩, b3⟩ := hbm _ d1
      obtain ⟨m1, m2, m3, m4, m5, m6⟩ := okM_e b2
      have hinst : Jvm.Cond.instanceMethod (mY mi') ∈ bigW := bigW_of (wdo_e hst) rfl
      have hav : (List.take np2 st).reverse.length = np2 := by simp; omega
      have hc2 : ∀ v ∈ vR (c0 + 2) :: (List.take np2 st).reverse, cat2 v = false := fun v hv => by
        rcases List.mem_cons.mp hv with rfl | hv
        · rfl
        · exact q3 v (List.mem_reverse.mp hv)
      refine ⟨rfl, gs_call (a := ((vR (c0 + 2) :: (List.take np2 st).reverse).map (cv n0 b)).toArray) hlen (fun v hv => List.mem_of_mem_drop (i := np2) (by rw [q4]; exact List.mem_cons_of_mem _ hv)) (fun H locs lsA I hW hlh h1 h2 => ?_) kk⟩
      have hM := met_run IH hr b1 b3 b2 (by rw [List.length_cons, hav]; exact q1) hc2 (fun v hv => by
        rcases List.mem_cons.mp hv with rfl | hv
        · trivial
        · exact I.2.1 v (List.mem_of_mem_take (List.mem_reverse.mp hv))) I.2.2.1 I.2.2.2 l n0 b D cA
      rw [hnone] at hM m1
      have hstack : st.map (cv n0 b) = ((List.take np2 st).reverse.map (cv n0 b)).reverse ++ .ref (n0 + c0) :: rest.map (cv n0 b) := by
        have e : Value.ref (n0 + c0) :: rest.map (cv n0 b) = (List.drop np2 st).map (cv n0 b) := by rw [q4]; rfl
        rw [e, ← List.map_reverse, List.reverse_reverse, ← List.map_append, List.take_append_drop]
      have hfit : σ.1.length - k0 + (σ1.1.length - σ.1.length) ≤ R.cells ∧ slN σ.1 - s0 + (slN σ1.1 - slN σ.1) ≤ R.slots := by constructor <;> omega
      rcases lnko_e hl with hl1 | hl1
      · exact va_runI ⟨C.1, C.2.1, C.2.2.1, C.2.2.2.1, C.2.2.2.2.1⟩ hM ⟨callB_of np2 C.2.2.2.2.1 (goodB m1) rfl rfl rfl (C.2.2.2.2.1 _ m2) (C.2.2.2.2.1 _ hl1) ⟨m5, m6, d4⟩ ⟨Nat.le_trans d2 hfr, Nat.le_trans d3 hlo⟩, hini, C.2.2.2.2.1 _ hinst⟩ ⟨Pc_blind, Pc_holds C hW⟩ rfl (by simp; omega) hlh.2.1 hstack (lv_room (by rw [cv_catS]; exact q6)) hd hfit
      · exact va_runIN ⟨C.1, C.2.1, C.2.2.1, C.2.2.2.1, C.2.2.2.2.1⟩ hM ⟨va_cnB np2 C.2.2.2.2.1 (goodB m1) rfl rfl rfl ((Cx.wd (mi := 0) C).2.1 _ hl1) (C.2.2.2.2.1 _ m2) ⟨m5, m6, d4⟩ ⟨Nat.le_trans d2 hfr, Nat.le_trans d3 hlo⟩, hini, C.2.2.2.2.1 _ hinst⟩ ⟨Pc_blind, Pc_holds C hW⟩ rfl (by simp; omega) hlh.2.1 hstack (lv_room (by rw [cv_catS]; exact q6)) hd hfit
    · cases hc
  · cases hc
theorem snd_all (sx : Int → Int) (L : Nat) (hbm : ∀ mi, mi < 227 → (okB mi = true ∧ okM mi = true) ∧ (ents mi).all (dcE mi) = true) : ∀ n, Snd sx L n := by
  intro n
  induction n with
  | zero => intro mi es fl ls st σ rv σ' h; simp [run] at h
  | succ n ih =>
    intro mi es fl ls st σ rv σ' h hes hdc hB hD p l e R s m args below meth c Q n0 b k0 s0 D cA C hin hfr hlo hcl hsl hrc
    cases es with
    | nil =>
      have h2 := ih mi _ _ _ _ _ _ _ h (blk_ok hB fl).1 (blk_dc hD fl) hB hD C hin hfr hlo hcl hsl hrc
      rw [(blk_ok hB fl).2] at h2
      exact h2
    | cons e0 es =>
      obtain ⟨pc, ln, ins, aux⟩ := e0
      simp only [okEs, Bool.and_eq_true, Bool.or_eq_true, decide_eq_true_eq] at hes
      obtain ⟨⟨hok, hnx⟩, hes⟩ := hes
      simp only [List.all_cons, Bool.and_eq_true] at hdc
      obtain ⟨hd0, hdc⟩ := hdc
      have hd : decode (mC mi) pc = .ok (ins, ln) := of_decide_eq_true hd0
      show GW p l e R s m args below meth c Q (mL mi) n0 b L sx D cA k0 s0 pc ls st σ
      simp only [run] at h
      split at h
      · next rv1 hr =>
        cases h
        obtain ⟨rfl, h2, rfl⟩ := rtV_e hr
        intro H locs lsA I hW hL hlh q1 q2 q3
        have hln : ln = 1 := by
          rcases rv with _ | v | v | r | u <;> simpa [okI, retIn] using hok
        subst hln
        exact hrc H locs lsA pc ⟨fun v hv => I.2.1 v (by rw [hv]; exact List.mem_singleton.mpr rfl), I.2.2.1, I.2.2.2⟩ hW hL q1 q2 hd h2
      · split at h
        · next mi' av rest hc =>
          split at h
          · next rv1 σ1 hr =>
            have hlen := run_len h
            have hnof : noF ins = false := by
              revert hc
              cases ins <;> first | (intro _; rfl) | (intro hc; simp [clV] at hc; done)
            have k2 := ih mi _ _ _ _ _ _ _ h hes hdc hB hD C hin hfr hlo hcl hsl hrc
            have h3 : nxp mi es fl = pc + ln := by
              rcases hnx with q | q
              · rw [hnof] at q; cases q
              · exact q
            have hl3 : ln = 3 := by
              revert hc hok
              cases ins <;> first | (intro _ hc; simp [clV] at hc; done) | (intro q _; simp only [okI, Bool.and_eq_true, decide_eq_true_eq] at q; exact q.1)
            rw [h3, hl3] at k2
            exact (call_run (np := 0) (i := 0) (h := 0) ih hbm C hd hok hc hr hfr hlo (by omega) (by omega) k2).2
          · cases h
        · split at h
          · next ls' st' σ1 hs =>
            have hlen := run_len h
            have k2 := ih mi _ _ _ _ _ _ _ h hes hdc hB hD C hin hfr hlo hcl hsl hrc
            refine stp_sound C hok hd0 hs hin hfr hlo (by omega) (by omega) ?_
            rw [if_pos rfl]
            rcases hnx with q | q
            · exfalso
              revert hs q
              cases ins <;> first | (intro _ q; simp [noF] at q; done) | (intro hs _; simp [stp, p1I, a1] at hs; done) | (intro hs _; simp only [stp, p1I, a1] at hs; (repeat' (split at hs)) <;> simp at hs; done)
            · dsimp only
              rw [← q]
              exact k2
          · next j ls' st' σ1 hs =>
            have hlen := run_len h
            have k2 := ih mi _ _ _ _ _ _ _ h (blk_ok hB j).1 (blk_dc hD j) hB hD C hin hfr hlo hcl hsl hrc
            rw [(blk_ok hB j).2] at k2
            refine stp_sound C hok hd0 hs hin hfr hlo (by omega) (by omega) ?_
            rw [if_neg (Nat.succ_ne_zero _)]
            exact k2
          · cases h
end SC
end
section
theorem dc_0_0 : (((ents 0).drop 0).take 13).all (dcE 0) = true := by decide +kernel
theorem dcM_0 : ((ents 0).drop 0).all (dcE 0) = true := sp_go dc_0_0 (sp_end (by decide +kernel))
theorem dc_1_0 : (((ents 1).drop 0).take 31).all (dcE 1) = true := by decide +kernel
theorem dcM_1 : ((ents 1).drop 0).all (dcE 1) = true := sp_go dc_1_0 (sp_end (by decide +kernel))
theorem dc_2_0 : (((ents 2).drop 0).take 9).all (dcE 2) = true := by decide +kernel
theorem dcM_2 : ((ents 2).drop 0).all (dcE 2) = true := sp_go dc_2_0 (sp_end (by decide +kernel))
theorem dc_3_0 : (((ents 3).drop 0).take 13).all (dcE 3) = true := by decide +kernel
theorem dcM_3 : ((ents 3).drop 0).all (dcE 3) = true := sp_go dc_3_0 (sp_end (by decide +kernel))
theorem dc_4_0 : (((ents 4).drop 0).take 57).all (dcE 4) = true := by decide +kernel
theorem dcM_4 : ((ents 4).drop 0).all (dcE 4) = true := sp_go dc_4_0 (sp_end (by decide +kernel))
theorem dc_5_0 : (((ents 5).drop 0).take 19).all (dcE 5) = true := by decide +kernel
theorem dcM_5 : ((ents 5).drop 0).all (dcE 5) = true := sp_go dc_5_0 (sp_end (by decide +kernel))
theorem dc_6_0 : (((ents 6).drop 0).take 63).all (dcE 6) = true := by decide +kernel
theorem dc_6_1 : (((ents 6).drop 63).take 16).all (dcE 6) = true := by decide +kernel
theorem dcM_6 : ((ents 6).drop 0).all (dcE 6) = true := sp_go dc_6_0 (sp_go dc_6_1 (sp_end (by decide +kernel)))
theorem dc_7_0 : (((ents 7).drop 0).take 20).all (dcE 7) = true := by decide +kernel
theorem dcM_7 : ((ents 7).drop 0).all (dcE 7) = true := sp_go dc_7_0 (sp_end (by decide +kernel))
theorem dc_8_0 : (((ents 8).drop 0).take 16).all (dcE 8) = true := by decide +kernel
theorem dcM_8 : ((ents 8).drop 0).all (dcE 8) = true := sp_go dc_8_0 (sp_end (by decide +kernel))
theorem dc_9_0 : (((ents 9).drop 0).take 18).all (dcE 9) = true := by decide +kernel
theorem dcM_9 : ((ents 9).drop 0).all (dcE 9) = true := sp_go dc_9_0 (sp_end (by decide +kernel))
theorem dc_10_0 : (((ents 10).drop 0).take 31).all (dcE 10) = true := by decide +kernel
theorem dcM_10 : ((ents 10).drop 0).all (dcE 10) = true := sp_go dc_10_0 (sp_end (by decide +kernel))
theorem dc_11_0 : (((ents 11).drop 0).take 27).all (dcE 11) = true := by decide +kernel
theorem dcM_11 : ((ents 11).drop 0).all (dcE 11) = true := sp_go dc_11_0 (sp_end (by decide +kernel))
theorem dc_12_0 : (((ents 12).drop 0).take 23).all (dcE 12) = true := by decide +kernel
theorem dcM_12 : ((ents 12).drop 0).all (dcE 12) = true := sp_go dc_12_0 (sp_end (by decide +kernel))
theorem dc_13_0 : (((ents 13).drop 0).take 15).all (dcE 13) = true := by decide +kernel
theorem dcM_13 : ((ents 13).drop 0).all (dcE 13) = true := sp_go dc_13_0 (sp_end (by decide +kernel))
theorem dc_14_0 : (((ents 14).drop 0).take 20).all (dcE 14) = true := by decide +kernel
theorem dcM_14 : ((ents 14).drop 0).all (dcE 14) = true := sp_go dc_14_0 (sp_end (by decide +kernel))
theorem dc_15_0 : (((ents 15).drop 0).take 57).all (dcE 15) = true := by decide +kernel
theorem dc_15_1 : (((ents 15).drop 57).take 24).all (dcE 15) = true := by decide +kernel
theorem dcM_15 : ((ents 15).drop 0).all (dcE 15) = true := sp_go dc_15_0 (sp_go dc_15_1 (sp_end (by decide +kernel)))
theorem dc_16_0 : (((ents 16).drop 0).take 13).all (dcE 16) = true := by decide +kernel
theorem dcM_16 : ((ents 16).drop 0).all (dcE 16) = true := sp_go dc_16_0 (sp_end (by decide +kernel))
theorem dc_17_0 : (((ents 17).drop 0).take 16).all (dcE 17) = true := by decide +kernel
theorem dcM_17 : ((ents 17).drop 0).all (dcE 17) = true := sp_go dc_17_0 (sp_end (by decide +kernel))
theorem dc_18_0 : (((ents 18).drop 0).take 16).all (dcE 18) = true := by decide +kernel
theorem dcM_18 : ((ents 18).drop 0).all (dcE 18) = true := sp_go dc_18_0 (sp_end (by decide +kernel))
theorem dc_19_0 : (((ents 19).drop 0).take 23).all (dcE 19) = true := by decide +kernel
theorem dcM_19 : ((ents 19).drop 0).all (dcE 19) = true := sp_go dc_19_0 (sp_end (by decide +kernel))
theorem dc_20_0 : (((ents 20).drop 0).take 57).all (dcE 20) = true := by decide +kernel
theorem dcM_20 : ((ents 20).drop 0).all (dcE 20) = true := sp_go dc_20_0 (sp_end (by decide +kernel))
theorem dc_21_0 : (((ents 21).drop 0).take 50).all (dcE 21) = true := by decide +kernel
theorem dcM_21 : ((ents 21).drop 0).all (dcE 21) = true := sp_go dc_21_0 (sp_end (by decide +kernel))
theorem dc_22_0 : (((ents 22).drop 0).take 17).all (dcE 22) = true := by decide +kernel
theorem dcM_22 : ((ents 22).drop 0).all (dcE 22) = true := sp_go dc_22_0 (sp_end (by decide +kernel))
theorem dc_23_0 : (((ents 23).drop 0).take 40).all (dcE 23) = true := by decide +kernel
theorem dcM_23 : ((ents 23).drop 0).all (dcE 23) = true := sp_go dc_23_0 (sp_end (by decide +kernel))
theorem dc_24_0 : (((ents 24).drop 0).take 67).all (dcE 24) = true := by decide +kernel
theorem dcM_24 : ((ents 24).drop 0).all (dcE 24) = true := sp_go dc_24_0 (sp_end (by decide +kernel))
theorem dc_25_0 : (((ents 25).drop 0).take 16).all (dcE 25) = true := by decide +kernel
theorem dcM_25 : ((ents 25).drop 0).all (dcE 25) = true := sp_go dc_25_0 (sp_end (by decide +kernel))
theorem dc_26_0 : (((ents 26).drop 0).take 16).all (dcE 26) = true := by decide +kernel
theorem dcM_26 : ((ents 26).drop 0).all (dcE 26) = true := sp_go dc_26_0 (sp_end (by decide +kernel))
theorem dc_27_0 : (((ents 27).drop 0).take 31).all (dcE 27) = true := by decide +kernel
theorem dcM_27 : ((ents 27).drop 0).all (dcE 27) = true := sp_go dc_27_0 (sp_end (by decide +kernel))
theorem dc_28_0 : (((ents 28).drop 0).take 41).all (dcE 28) = true := by decide +kernel
theorem dcM_28 : ((ents 28).drop 0).all (dcE 28) = true := sp_go dc_28_0 (sp_end (by decide +kernel))
theorem dc_29_0 : (((ents 29).drop 0).take 12).all (dcE 29) = true := by decide +kernel
theorem dcM_29 : ((ents 29).drop 0).all (dcE 29) = true := sp_go dc_29_0 (sp_end (by decide +kernel))
theorem dc_30_0 : (((ents 30).drop 0).take 23).all (dcE 30) = true := by decide +kernel
theorem dcM_30 : ((ents 30).drop 0).all (dcE 30) = true := sp_go dc_30_0 (sp_end (by decide +kernel))
theorem dc_31_0 : (((ents 31).drop 0).take 10).all (dcE 31) = true := by decide +kernel
theorem dcM_31 : ((ents 31).drop 0).all (dcE 31) = true := sp_go dc_31_0 (sp_end (by decide +kernel))
theorem dc_32_0 : (((ents 32).drop 0).take 64).all (dcE 32) = true := by decide +kernel
theorem dcM_32 : ((ents 32).drop 0).all (dcE 32) = true := sp_go dc_32_0 (sp_end (by decide +kernel))
theorem dc_33_0 : (((ents 33).drop 0).take 37).all (dcE 33) = true := by decide +kernel
theorem dcM_33 : ((ents 33).drop 0).all (dcE 33) = true := sp_go dc_33_0 (sp_end (by decide +kernel))
theorem dc_34_0 : (((ents 34).drop 0).take 41).all (dcE 34) = true := by decide +kernel
theorem dcM_34 : ((ents 34).drop 0).all (dcE 34) = true := sp_go dc_34_0 (sp_end (by decide +kernel))
theorem dc_35_0 : (((ents 35).drop 0).take 50).all (dcE 35) = true := by decide +kernel
theorem dcM_35 : ((ents 35).drop 0).all (dcE 35) = true := sp_go dc_35_0 (sp_end (by decide +kernel))
theorem dc_36_0 : (((ents 36).drop 0).take 49).all (dcE 36) = true := by decide +kernel
theorem dcM_36 : ((ents 36).drop 0).all (dcE 36) = true := sp_go dc_36_0 (sp_end (by decide +kernel))
theorem dc_37_0 : (((ents 37).drop 0).take 60).all (dcE 37) = true := by decide +kernel
theorem dc_37_1 : (((ents 37).drop 60).take 17).all (dcE 37) = true := by decide +kernel
theorem dcM_37 : ((ents 37).drop 0).all (dcE 37) = true := sp_go dc_37_0 (sp_go dc_37_1 (sp_end (by decide +kernel)))
theorem dc_38_0 : (((ents 38).drop 0).take 47).all (dcE 38) = true := by decide +kernel
theorem dcM_38 : ((ents 38).drop 0).all (dcE 38) = true := sp_go dc_38_0 (sp_end (by decide +kernel))
theorem dc_39_0 : (((ents 39).drop 0).take 42).all (dcE 39) = true := by decide +kernel
theorem dcM_39 : ((ents 39).drop 0).all (dcE 39) = true := sp_go dc_39_0 (sp_end (by decide +kernel))
theorem dc_40_0 : (((ents 40).drop 0).take 47).all (dcE 40) = true := by decide +kernel
theorem dc_40_1 : (((ents 40).drop 47).take 46).all (dcE 40) = true := by decide +kernel
theorem dcM_40 : ((ents 40).drop 0).all (dcE 40) = true := sp_go dc_40_0 (sp_go dc_40_1 (sp_end (by decide +kernel)))
theorem dc_41_0 : (((ents 41).drop 0).take 64).all (dcE 41) = true := by decide +kernel
theorem dc_41_1 : (((ents 41).drop 64).take 12).all (dcE 41) = true := by decide +kernel
theorem dcM_41 : ((ents 41).drop 0).all (dcE 41) = true := sp_go dc_41_0 (sp_go dc_41_1 (sp_end (by decide +kernel)))
theorem dc_42_0 : (((ents 42).drop 0).take 64).all (dcE 42) = true := by decide +kernel
theorem dcM_42 : ((ents 42).drop 0).all (dcE 42) = true := sp_go dc_42_0 (sp_end (by decide +kernel))
theorem dc_43_0 : (((ents 43).drop 0).take 51).all (dcE 43) = true := by decide +kernel
theorem dc_43_1 : (((ents 43).drop 51).take 43).all (dcE 43) = true := by decide +kernel
theorem dcM_43 : ((ents 43).drop 0).all (dcE 43) = true := sp_go dc_43_0 (sp_go dc_43_1 (sp_end (by decide +kernel)))
theorem dc_44_0 : (((ents 44).drop 0).take 45).all (dcE 44) = true := by decide +kernel
theorem dcM_44 : ((ents 44).drop 0).all (dcE 44) = true := sp_go dc_44_0 (sp_end (by decide +kernel))
theorem dc_45_0 : (((ents 45).drop 0).take 35).all (dcE 45) = true := by decide +kernel
theorem dcM_45 : ((ents 45).drop 0).all (dcE 45) = true := sp_go dc_45_0 (sp_end (by decide +kernel))
theorem dc_46_0 : (((ents 46).drop 0).take 26).all (dcE 46) = true := by decide +kernel
theorem dcM_46 : ((ents 46).drop 0).all (dcE 46) = true := sp_go dc_46_0 (sp_end (by decide +kernel))
theorem dc_47_0 : (((ents 47).drop 0).take 38).all (dcE 47) = true := by decide +kernel
theorem dcM_47 : ((ents 47).drop 0).all (dcE 47) = true := sp_go dc_47_0 (sp_end (by decide +kernel))
theorem dc_48_0 : (((ents 48).drop 0).take 55).all (dcE 48) = true := by decide +kernel
theorem dc_48_1 : (((ents 48).drop 55).take 37).all (dcE 48) = true := by decide +kernel
theorem dcM_48 : ((ents 48).drop 0).all (dcE 48) = true := sp_go dc_48_0 (sp_go dc_48_1 (sp_end (by decide +kernel)))
theorem dc_49_0 : (((ents 49).drop 0).take 44).all (dcE 49) = true := by decide +kernel
theorem dcM_49 : ((ents 49).drop 0).all (dcE 49) = true := sp_go dc_49_0 (sp_end (by decide +kernel))
theorem dc_50_0 : (((ents 50).drop 0).take 22).all (dcE 50) = true := by decide +kernel
theorem dcM_50 : ((ents 50).drop 0).all (dcE 50) = true := sp_go dc_50_0 (sp_end (by decide +kernel))
theorem dc_51_0 : (((ents 51).drop 0).take 41).all (dcE 51) = true := by decide +kernel
theorem dcM_51 : ((ents 51).drop 0).all (dcE 51) = true := sp_go dc_51_0 (sp_end (by decide +kernel))
theorem dc_52_0 : (((ents 52).drop 0).take 26).all (dcE 52) = true := by decide +kernel
theorem dcM_52 : ((ents 52).drop 0).all (dcE 52) = true := sp_go dc_52_0 (sp_end (by decide +kernel))
theorem dc_53_0 : (((ents 53).drop 0).take 37).all (dcE 53) = true := by decide +kernel
theorem dcM_53 : ((ents 53).drop 0).all (dcE 53) = true := sp_go dc_53_0 (sp_end (by decide +kernel))
theorem dc_54_0 : (((ents 54).drop 0).take 26).all (dcE 54) = true := by decide +kernel
theorem dcM_54 : ((ents 54).drop 0).all (dcE 54) = true := sp_go dc_54_0 (sp_end (by decide +kernel))
theorem dc_55_0 : (((ents 55).drop 0).take 13).all (dcE 55) = true := by decide +kernel
theorem dcM_55 : ((ents 55).drop 0).all (dcE 55) = true := sp_go dc_55_0 (sp_end (by decide +kernel))
theorem dc_56_0 : (((ents 56).drop 0).take 60).all (dcE 56) = true := by decide +kernel
theorem dc_56_1 : (((ents 56).drop 60).take 16).all (dcE 56) = true := by decide +kernel
theorem dcM_56 : ((ents 56).drop 0).all (dcE 56) = true := sp_go dc_56_0 (sp_go dc_56_1 (sp_end (by decide +kernel)))
theorem dc_57_0 : (((ents 57).drop 0).take 9).all (dcE 57) = true := by decide +kernel
theorem dcM_57 : ((ents 57).drop 0).all (dcE 57) = true := sp_go dc_57_0 (sp_end (by decide +kernel))
theorem dc_58_0 : (((ents 58).drop 0).take 19).all (dcE 58) = true := by decide +kernel
theorem dcM_58 : ((ents 58).drop 0).all (dcE 58) = true := sp_go dc_58_0 (sp_end (by decide +kernel))
theorem dc_59_0 : (((ents 59).drop 0).take 22).all (dcE 59) = true := by decide +kernel
theorem dcM_59 : ((ents 59).drop 0).all (dcE 59) = true := sp_go dc_59_0 (sp_end (by decide +kernel))
theorem dc_60_0 : (((ents 60).drop 0).take 64).all (dcE 60) = true := by decide +kernel
theorem dcM_60 : ((ents 60).drop 0).all (dcE 60) = true := sp_go dc_60_0 (sp_end (by decide +kernel))
theorem dc_61_0 : (((ents 61).drop 0).take 29).all (dcE 61) = true := by decide +kernel
theorem dcM_61 : ((ents 61).drop 0).all (dcE 61) = true := sp_go dc_61_0 (sp_end (by decide +kernel))
theorem dc_62_0 : (((ents 62).drop 0).take 43).all (dcE 62) = true := by decide +kernel
theorem dcM_62 : ((ents 62).drop 0).all (dcE 62) = true := sp_go dc_62_0 (sp_end (by decide +kernel))
theorem dc_63_0 : (((ents 63).drop 0).take 45).all (dcE 63) = true := by decide +kernel
theorem dcM_63 : ((ents 63).drop 0).all (dcE 63) = true := sp_go dc_63_0 (sp_end (by decide +kernel))
theorem dc_64_0 : (((ents 64).drop 0).take 68).all (dcE 64) = true := by decide +kernel
theorem dc_64_1 : (((ents 64).drop 68).take 3).all (dcE 64) = true := by decide +kernel
theorem dcM_64 : ((ents 64).drop 0).all (dcE 64) = true := sp_go dc_64_0 (sp_go dc_64_1 (sp_end (by decide +kernel)))
theorem dc_65_0 : (((ents 65).drop 0).take 48).all (dcE 65) = true := by decide +kernel
theorem dc_65_1 : (((ents 65).drop 48).take 48).all (dcE 65) = true := by decide +kernel
theorem dc_65_2 : (((ents 65).drop 96).take 4).all (dcE 65) = true := by decide +kernel
theorem dcM_65 : ((ents 65).drop 0).all (dcE 65) = true := sp_go dc_65_0 (sp_go dc_65_1 (sp_go dc_65_2 (sp_end (by decide +kernel))))
theorem dc_66_0 : (((ents 66).drop 0).take 29).all (dcE 66) = true := by decide +kernel
theorem dcM_66 : ((ents 66).drop 0).all (dcE 66) = true := sp_go dc_66_0 (sp_end (by decide +kernel))
theorem dc_67_0 : (((ents 67).drop 0).take 45).all (dcE 67) = true := by decide +kernel
theorem dcM_67 : ((ents 67).drop 0).all (dcE 67) = true := sp_go dc_67_0 (sp_end (by decide +kernel))
theorem dc_68_0 : (((ents 68).drop 0).take 48).all (dcE 68) = true := by decide +kernel
theorem dcM_68 : ((ents 68).drop 0).all (dcE 68) = true := sp_go dc_68_0 (sp_end (by decide +kernel))
theorem dc_69_0 : (((ents 69).drop 0).take 44).all (dcE 69) = true := by decide +kernel
theorem dc_69_1 : (((ents 69).drop 44).take 44).all (dcE 69) = true := by decide +kernel
theorem dc_69_2 : (((ents 69).drop 88).take 18).all (dcE 69) = true := by decide +kernel
theorem dcM_69 : ((ents 69).drop 0).all (dcE 69) = true := sp_go dc_69_0 (sp_go dc_69_1 (sp_go dc_69_2 (sp_end (by decide +kernel))))
theorem dc_70_0 : (((ents 70).drop 0).take 24).all (dcE 70) = true := by decide +kernel
theorem dcM_70 : ((ents 70).drop 0).all (dcE 70) = true := sp_go dc_70_0 (sp_end (by decide +kernel))
theorem dc_71_0 : (((ents 71).drop 0).take 35).all (dcE 71) = true := by decide +kernel
theorem dcM_71 : ((ents 71).drop 0).all (dcE 71) = true := sp_go dc_71_0 (sp_end (by decide +kernel))
theorem dc_72_0 : (((ents 72).drop 0).take 29).all (dcE 72) = true := by decide +kernel
theorem dcM_72 : ((ents 72).drop 0).all (dcE 72) = true := sp_go dc_72_0 (sp_end (by decide +kernel))
theorem dc_73_0 : (((ents 73).drop 0).take 30).all (dcE 73) = true := by decide +kernel
theorem dcM_73 : ((ents 73).drop 0).all (dcE 73) = true := sp_go dc_73_0 (sp_end (by decide +kernel))
theorem dc_74_0 : (((ents 74).drop 0).take 46).all (dcE 74) = true := by decide +kernel
theorem dcM_74 : ((ents 74).drop 0).all (dcE 74) = true := sp_go dc_74_0 (sp_end (by decide +kernel))
theorem dc_75_0 : (((ents 75).drop 0).take 64).all (dcE 75) = true := by decide +kernel
theorem dcM_75 : ((ents 75).drop 0).all (dcE 75) = true := sp_go dc_75_0 (sp_end (by decide +kernel))
theorem dc_76_0 : (((ents 76).drop 0).take 14).all (dcE 76) = true := by decide +kernel
theorem dcM_76 : ((ents 76).drop 0).all (dcE 76) = true := sp_go dc_76_0 (sp_end (by decide +kernel))
theorem dc_77_0 : (((ents 77).drop 0).take 18).all (dcE 77) = true := by decide +kernel
theorem dcM_77 : ((ents 77).drop 0).all (dcE 77) = true := sp_go dc_77_0 (sp_end (by decide +kernel))
theorem dc_78_0 : (((ents 78).drop 0).take 11).all (dcE 78) = true := by decide +kernel
theorem dcM_78 : ((ents 78).drop 0).all (dcE 78) = true := sp_go dc_78_0 (sp_end (by decide +kernel))
theorem dc_79_0 : (((ents 79).drop 0).take 11).all (dcE 79) = true := by decide +kernel
theorem dcM_79 : ((ents 79).drop 0).all (dcE 79) = true := sp_go dc_79_0 (sp_end (by decide +kernel))
theorem dc_80_0 : (((ents 80).drop 0).take 10).all (dcE 80) = true := by decide +kernel
theorem dcM_80 : ((ents 80).drop 0).all (dcE 80) = true := sp_go dc_80_0 (sp_end (by decide +kernel))
theorem dc_81_0 : (((ents 81).drop 0).take 25).all (dcE 81) = true := by decide +kernel
theorem dcM_81 : ((ents 81).drop 0).all (dcE 81) = true := sp_go dc_81_0 (sp_end (by decide +kernel))
theorem dc_82_0 : (((ents 82).drop 0).take 28).all (dcE 82) = true := by decide +kernel
theorem dcM_82 : ((ents 82).drop 0).all (dcE 82) = true := sp_go dc_82_0 (sp_end (by decide +kernel))
theorem dc_83_0 : (((ents 83).drop 0).take 10).all (dcE 83) = true := by decide +kernel
theorem dcM_83 : ((ents 83).drop 0).all (dcE 83) = true := sp_go dc_83_0 (sp_end (by decide +kernel))
theorem dc_84_0 : (((ents 84).drop 0).take 22).all (dcE 84) = true := by decide +kernel
theorem dcM_84 : ((ents 84).drop 0).all (dcE 84) = true := sp_go dc_84_0 (sp_end (by decide +kernel))
theorem dc_85_0 : (((ents 85).drop 0).take 21).all (dcE 85) = true := by decide +kernel
theorem dcM_85 : ((ents 85).drop 0).all (dcE 85) = true := sp_go dc_85_0 (sp_end (by decide +kernel))
theorem dc_86_0 : (((ents 86).drop 0).take 14).all (dcE 86) = true := by decide +kernel
theorem dcM_86 : ((ents 86).drop 0).all (dcE 86) = true := sp_go dc_86_0 (sp_end (by decide +kernel))
theorem dc_87_0 : (((ents 87).drop 0).take 16).all (dcE 87) = true := by decide +kernel
theorem dcM_87 : ((ents 87).drop 0).all (dcE 87) = true := sp_go dc_87_0 (sp_end (by decide +kernel))
theorem dc_88_0 : (((ents 88).drop 0).take 33).all (dcE 88) = true := by decide +kernel
theorem dcM_88 : ((ents 88).drop 0).all (dcE 88) = true := sp_go dc_88_0 (sp_end (by decide +kernel))
theorem dc_89_0 : (((ents 89).drop 0).take 15).all (dcE 89) = true := by decide +kernel
theorem dcM_89 : ((ents 89).drop 0).all (dcE 89) = true := sp_go dc_89_0 (sp_end (by decide +kernel))
theorem dc_90_0 : (((ents 90).drop 0).take 44).all (dcE 90) = true := by decide +kernel
theorem dcM_90 : ((ents 90).drop 0).all (dcE 90) = true := sp_go dc_90_0 (sp_end (by decide +kernel))
theorem dc_91_0 : (((ents 91).drop 0).take 16).all (dcE 91) = true := by decide +kernel
theorem dcM_91 : ((ents 91).drop 0).all (dcE 91) = true := sp_go dc_91_0 (sp_end (by decide +kernel))
theorem dc_92_0 : (((ents 92).drop 0).take 33).all (dcE 92) = true := by decide +kernel
theorem dcM_92 : ((ents 92).drop 0).all (dcE 92) = true := sp_go dc_92_0 (sp_end (by decide +kernel))
theorem dc_93_0 : (((ents 93).drop 0).take 53).all (dcE 93) = true := by decide +kernel
theorem dc_93_1 : (((ents 93).drop 53).take 30).all (dcE 93) = true := by decide +kernel
theorem dcM_93 : ((ents 93).drop 0).all (dcE 93) = true := sp_go dc_93_0 (sp_go dc_93_1 (sp_end (by decide +kernel)))
theorem dc_94_0 : (((ents 94).drop 0).take 63).all (dcE 94) = true := by decide +kernel
theorem dcM_94 : ((ents 94).drop 0).all (dcE 94) = true := sp_go dc_94_0 (sp_end (by decide +kernel))
theorem dc_95_0 : (((ents 95).drop 0).take 25).all (dcE 95) = true := by decide +kernel
theorem dcM_95 : ((ents 95).drop 0).all (dcE 95) = true := sp_go dc_95_0 (sp_end (by decide +kernel))
theorem dc_96_0 : (((ents 96).drop 0).take 34).all (dcE 96) = true := by decide +kernel
theorem dcM_96 : ((ents 96).drop 0).all (dcE 96) = true := sp_go dc_96_0 (sp_end (by decide +kernel))
theorem dc_97_0 : (((ents 97).drop 0).take 25).all (dcE 97) = true := by decide +kernel
theorem dcM_97 : ((ents 97).drop 0).all (dcE 97) = true := sp_go dc_97_0 (sp_end (by decide +kernel))
theorem dc_98_0 : (((ents 98).drop 0).take 11).all (dcE 98) = true := by decide +kernel
theorem dcM_98 : ((ents 98).drop 0).all (dcE 98) = true := sp_go dc_98_0 (sp_end (by decide +kernel))
theorem dc_99_0 : (((ents 99).drop 0).take 56).all (dcE 99) = true := by decide +kernel
theorem dc_99_1 : (((ents 99).drop 56).take 9).all (dcE 99) = true := by decide +kernel
theorem dcM_99 : ((ents 99).drop 0).all (dcE 99) = true := sp_go dc_99_0 (sp_go dc_99_1 (sp_end (by decide +kernel)))
theorem dc_100_0 : (((ents 100).drop 0).take 37).all (dcE 100) = true := by decide +kernel
theorem dcM_100 : ((ents 100).drop 0).all (dcE 100) = true := sp_go dc_100_0 (sp_end (by decide +kernel))
theorem dc_101_0 : (((ents 101).drop 0).take 31).all (dcE 101) = true := by decide +kernel
theorem dcM_101 : ((ents 101).drop 0).all (dcE 101) = true := sp_go dc_101_0 (sp_end (by decide +kernel))
theorem dc_102_0 : (((ents 102).drop 0).take 29).all (dcE 102) = true := by decide +kernel
theorem dcM_102 : ((ents 102).drop 0).all (dcE 102) = true := sp_go dc_102_0 (sp_end (by decide +kernel))
theorem dc_103_0 : (((ents 103).drop 0).take 21).all (dcE 103) = true := by decide +kernel
theorem dcM_103 : ((ents 103).drop 0).all (dcE 103) = true := sp_go dc_103_0 (sp_end (by decide +kernel))
theorem dc_104_0 : (((ents 104).drop 0).take 17).all (dcE 104) = true := by decide +kernel
theorem dcM_104 : ((ents 104).drop 0).all (dcE 104) = true := sp_go dc_104_0 (sp_end (by decide +kernel))
theorem dc_105_0 : (((ents 105).drop 0).take 17).all (dcE 105) = true := by decide +kernel
theorem dcM_105 : ((ents 105).drop 0).all (dcE 105) = true := sp_go dc_105_0 (sp_end (by decide +kernel))
theorem dc_106_0 : (((ents 106).drop 0).take 60).all (dcE 106) = true := by decide +kernel
theorem dcM_106 : ((ents 106).drop 0).all (dcE 106) = true := sp_go dc_106_0 (sp_end (by decide +kernel))
theorem dc_107_0 : (((ents 107).drop 0).take 25).all (dcE 107) = true := by decide +kernel
theorem dcM_107 : ((ents 107).drop 0).all (dcE 107) = true := sp_go dc_107_0 (sp_end (by decide +kernel))
theorem dc_108_0 : (((ents 108).drop 0).take 19).all (dcE 108) = true := by decide +kernel
theorem dcM_108 : ((ents 108).drop 0).all (dcE 108) = true := sp_go dc_108_0 (sp_end (by decide +kernel))
theorem dc_109_0 : (((ents 109).drop 0).take 17).all (dcE 109) = true := by decide +kernel
theorem dcM_109 : ((ents 109).drop 0).all (dcE 109) = true := sp_go dc_109_0 (sp_end (by decide +kernel))
theorem dc_110_0 : (((ents 110).drop 0).take 17).all (dcE 110) = true := by decide +kernel
theorem dcM_110 : ((ents 110).drop 0).all (dcE 110) = true := sp_go dc_110_0 (sp_end (by decide +kernel))
theorem dc_111_0 : (((ents 111).drop 0).take 25).all (dcE 111) = true := by decide +kernel
theorem dcM_111 : ((ents 111).drop 0).all (dcE 111) = true := sp_go dc_111_0 (sp_end (by decide +kernel))
theorem dc_112_0 : (((ents 112).drop 0).take 26).all (dcE 112) = true := by decide +kernel
theorem dcM_112 : ((ents 112).drop 0).all (dcE 112) = true := sp_go dc_112_0 (sp_end (by decide +kernel))
theorem dc_113_0 : (((ents 113).drop 0).take 20).all (dcE 113) = true := by decide +kernel
theorem dcM_113 : ((ents 113).drop 0).all (dcE 113) = true := sp_go dc_113_0 (sp_end (by decide +kernel))
theorem dc_114_0 : (((ents 114).drop 0).take 40).all (dcE 114) = true := by decide +kernel
theorem dcM_114 : ((ents 114).drop 0).all (dcE 114) = true := sp_go dc_114_0 (sp_end (by decide +kernel))
theorem dc_115_0 : (((ents 115).drop 0).take 23).all (dcE 115) = true := by decide +kernel
theorem dcM_115 : ((ents 115).drop 0).all (dcE 115) = true := sp_go dc_115_0 (sp_end (by decide +kernel))
theorem dc_116_0 : (((ents 116).drop 0).take 27).all (dcE 116) = true := by decide +kernel
theorem dcM_116 : ((ents 116).drop 0).all (dcE 116) = true := sp_go dc_116_0 (sp_end (by decide +kernel))
theorem dc_117_0 : (((ents 117).drop 0).take 26).all (dcE 117) = true := by decide +kernel
theorem dcM_117 : ((ents 117).drop 0).all (dcE 117) = true := sp_go dc_117_0 (sp_end (by decide +kernel))
theorem dc_118_0 : (((ents 118).drop 0).take 23).all (dcE 118) = true := by decide +kernel
theorem dcM_118 : ((ents 118).drop 0).all (dcE 118) = true := sp_go dc_118_0 (sp_end (by decide +kernel))
theorem dc_119_0 : (((ents 119).drop 0).take 32).all (dcE 119) = true := by decide +kernel
theorem dcM_119 : ((ents 119).drop 0).all (dcE 119) = true := sp_go dc_119_0 (sp_end (by decide +kernel))
theorem dc_120_0 : (((ents 120).drop 0).take 31).all (dcE 120) = true := by decide +kernel
theorem dcM_120 : ((ents 120).drop 0).all (dcE 120) = true := sp_go dc_120_0 (sp_end (by decide +kernel))
theorem dc_121_0 : (((ents 121).drop 0).take 61).all (dcE 121) = true := by decide +kernel
theorem dcM_121 : ((ents 121).drop 0).all (dcE 121) = true := sp_go dc_121_0 (sp_end (by decide +kernel))
theorem dc_122_0 : (((ents 122).drop 0).take 43).all (dcE 122) = true := by decide +kernel
theorem dcM_122 : ((ents 122).drop 0).all (dcE 122) = true := sp_go dc_122_0 (sp_end (by decide +kernel))
theorem dc_123_0 : (((ents 123).drop 0).take 28).all (dcE 123) = true := by decide +kernel
theorem dcM_123 : ((ents 123).drop 0).all (dcE 123) = true := sp_go dc_123_0 (sp_end (by decide +kernel))
theorem dc_124_0 : (((ents 124).drop 0).take 56).all (dcE 124) = true := by decide +kernel
theorem dc_124_1 : (((ents 124).drop 56).take 40).all (dcE 124) = true := by decide +kernel
theorem dcM_124 : ((ents 124).drop 0).all (dcE 124) = true := sp_go dc_124_0 (sp_go dc_124_1 (sp_end (by decide +kernel)))
theorem dc_125_0 : (((ents 125).drop 0).take 9).all (dcE 125) = true := by decide +kernel
theorem dcM_125 : ((ents 125).drop 0).all (dcE 125) = true := sp_go dc_125_0 (sp_end (by decide +kernel))
theorem dc_126_0 : (((ents 126).drop 0).take 9).all (dcE 126) = true := by decide +kernel
theorem dcM_126 : ((ents 126).drop 0).all (dcE 126) = true := sp_go dc_126_0 (sp_end (by decide +kernel))
theorem dc_127_0 : (((ents 127).drop 0).take 9).all (dcE 127) = true := by decide +kernel
theorem dcM_127 : ((ents 127).drop 0).all (dcE 127) = true := sp_go dc_127_0 (sp_end (by decide +kernel))
theorem dc_128_0 : (((ents 128).drop 0).take 9).all (dcE 128) = true := by decide +kernel
theorem dcM_128 : ((ents 128).drop 0).all (dcE 128) = true := sp_go dc_128_0 (sp_end (by decide +kernel))
theorem dc_129_0 : (((ents 129).drop 0).take 7).all (dcE 129) = true := by decide +kernel
theorem dcM_129 : ((ents 129).drop 0).all (dcE 129) = true := sp_go dc_129_0 (sp_end (by decide +kernel))
theorem dc_130_0 : (((ents 130).drop 0).take 12).all (dcE 130) = true := by decide +kernel
theorem dcM_130 : ((ents 130).drop 0).all (dcE 130) = true := sp_go dc_130_0 (sp_end (by decide +kernel))
theorem dc_131_0 : (((ents 131).drop 0).take 11).all (dcE 131) = true := by decide +kernel
theorem dcM_131 : ((ents 131).drop 0).all (dcE 131) = true := sp_go dc_131_0 (sp_end (by decide +kernel))
theorem dc_132_0 : (((ents 132).drop 0).take 7).all (dcE 132) = true := by decide +kernel
theorem dcM_132 : ((ents 132).drop 0).all (dcE 132) = true := sp_go dc_132_0 (sp_end (by decide +kernel))
theorem dc_133_0 : (((ents 133).drop 0).take 19).all (dcE 133) = true := by decide +kernel
theorem dcM_133 : ((ents 133).drop 0).all (dcE 133) = true := sp_go dc_133_0 (sp_end (by decide +kernel))
theorem dc_134_0 : (((ents 134).drop 0).take 40).all (dcE 134) = true := by decide +kernel
theorem dcM_134 : ((ents 134).drop 0).all (dcE 134) = true := sp_go dc_134_0 (sp_end (by decide +kernel))
theorem dc_135_0 : (((ents 135).drop 0).take 16).all (dcE 135) = true := by decide +kernel
theorem dcM_135 : ((ents 135).drop 0).all (dcE 135) = true := sp_go dc_135_0 (sp_end (by decide +kernel))
theorem dc_136_0 : (((ents 136).drop 0).take 24).all (dcE 136) = true := by decide +kernel
theorem dc_136_1 : (((ents 136).drop 24).take 24).all (dcE 136) = true := by decide +kernel
theorem dc_136_2 : (((ents 136).drop 48).take 24).all (dcE 136) = true := by decide +kernel
theorem dc_136_3 : (((ents 136).drop 72).take 24).all (dcE 136) = true := by decide +kernel
theorem dc_136_4 : (((ents 136).drop 96).take 24).all (dcE 136) = true := by decide +kernel
theorem dc_136_5 : (((ents 136).drop 120).take 24).all (dcE 136) = true := by decide +kernel
theorem dc_136_6 : (((ents 136).drop 144).take 24).all (dcE 136) = true := by decide +kernel
theorem dc_136_7 : (((ents 136).drop 168).take 16).all (dcE 136) = true := by decide +kernel
theorem dcM_136 : ((ents 136).drop 0).all (dcE 136) = true := sp_go dc_136_0 (sp_go dc_136_1 (sp_go dc_136_2 (sp_go dc_136_3 (sp_go dc_136_4 (sp_go dc_136_5 (sp_go dc_136_6 (sp_go dc_136_7 (sp_end (by decide +kernel)))))))))
theorem dc_137_0 : (((ents 137).drop 0).take 10).all (dcE 137) = true := by decide +kernel
theorem dcM_137 : ((ents 137).drop 0).all (dcE 137) = true := sp_go dc_137_0 (sp_end (by decide +kernel))
theorem dc_138_0 : (((ents 138).drop 0).take 19).all (dcE 138) = true := by decide +kernel
theorem dcM_138 : ((ents 138).drop 0).all (dcE 138) = true := sp_go dc_138_0 (sp_end (by decide +kernel))
theorem dc_139_0 : (((ents 139).drop 0).take 62).all (dcE 139) = true := by decide +kernel
theorem dcM_139 : ((ents 139).drop 0).all (dcE 139) = true := sp_go dc_139_0 (sp_end (by decide +kernel))
theorem dc_140_0 : (((ents 140).drop 0).take 35).all (dcE 140) = true := by decide +kernel
theorem dcM_140 : ((ents 140).drop 0).all (dcE 140) = true := sp_go dc_140_0 (sp_end (by decide +kernel))
theorem dc_141_0 : (((ents 141).drop 0).take 7).all (dcE 141) = true := by decide +kernel
theorem dcM_141 : ((ents 141).drop 0).all (dcE 141) = true := sp_go dc_141_0 (sp_end (by decide +kernel))
theorem dc_142_0 : (((ents 142).drop 0).take 5).all (dcE 142) = true := by decide +kernel
theorem dcM_142 : ((ents 142).drop 0).all (dcE 142) = true := sp_go dc_142_0 (sp_end (by decide +kernel))
theorem dc_143_0 : (((ents 143).drop 0).take 45).all (dcE 143) = true := by decide +kernel
theorem dcM_143 : ((ents 143).drop 0).all (dcE 143) = true := sp_go dc_143_0 (sp_end (by decide +kernel))
theorem dc_144_0 : (((ents 144).drop 0).take 19).all (dcE 144) = true := by decide +kernel
theorem dcM_144 : ((ents 144).drop 0).all (dcE 144) = true := sp_go dc_144_0 (sp_end (by decide +kernel))
theorem dc_145_0 : (((ents 145).drop 0).take 21).all (dcE 145) = true := by decide +kernel
theorem dcM_145 : ((ents 145).drop 0).all (dcE 145) = true := sp_go dc_145_0 (sp_end (by decide +kernel))
theorem dc_146_0 : (((ents 146).drop 0).take 19).all (dcE 146) = true := by decide +kernel
theorem dcM_146 : ((ents 146).drop 0).all (dcE 146) = true := sp_go dc_146_0 (sp_end (by decide +kernel))
theorem dc_147_0 : (((ents 147).drop 0).take 57).all (dcE 147) = true := by decide +kernel
theorem dcM_147 : ((ents 147).drop 0).all (dcE 147) = true := sp_go dc_147_0 (sp_end (by decide +kernel))
theorem dc_148_0 : (((ents 148).drop 0).take 38).all (dcE 148) = true := by decide +kernel
theorem dc_148_1 : (((ents 148).drop 38).take 38).all (dcE 148) = true := by decide +kernel
theorem dc_148_2 : (((ents 148).drop 76).take 38).all (dcE 148) = true := by decide +kernel
theorem dc_148_3 : (((ents 148).drop 114).take 24).all (dcE 148) = true := by decide +kernel
theorem dcM_148 : ((ents 148).drop 0).all (dcE 148) = true := sp_go dc_148_0 (sp_go dc_148_1 (sp_go dc_148_2 (sp_go dc_148_3 (sp_end (by decide +kernel)))))
theorem dc_149_0 : (((ents 149).drop 0).take 35).all (dcE 149) = true := by decide +kernel
theorem dc_149_1 : (((ents 149).drop 35).take 35).all (dcE 149) = true := by decide +kernel
theorem dc_149_2 : (((ents 149).drop 70).take 35).all (dcE 149) = true := by decide +kernel
theorem dc_149_3 : (((ents 149).drop 105).take 35).all (dcE 149) = true := by decide +kernel
theorem dc_149_4 : (((ents 149).drop 140).take 7).all (dcE 149) = true := by decide +kernel
theorem dcM_149 : ((ents 149).drop 0).all (dcE 149) = true := sp_go dc_149_0 (sp_go dc_149_1 (sp_go dc_149_2 (sp_go dc_149_3 (sp_go dc_149_4 (sp_end (by decide +kernel))))))
theorem dc_150_0 : (((ents 150).drop 0).take 18).all (dcE 150) = true := by decide +kernel
theorem dcM_150 : ((ents 150).drop 0).all (dcE 150) = true := sp_go dc_150_0 (sp_end (by decide +kernel))
theorem dc_151_0 : (((ents 151).drop 0).take 36).all (dcE 151) = true := by decide +kernel
theorem dcM_151 : ((ents 151).drop 0).all (dcE 151) = true := sp_go dc_151_0 (sp_end (by decide +kernel))
theorem dc_152_0 : (((ents 152).drop 0).take 7).all (dcE 152) = true := by decide +kernel
theorem dcM_152 : ((ents 152).drop 0).all (dcE 152) = true := sp_go dc_152_0 (sp_end (by decide +kernel))
theorem dc_153_0 : (((ents 153).drop 0).take 9).all (dcE 153) = true := by decide +kernel
theorem dcM_153 : ((ents 153).drop 0).all (dcE 153) = true := sp_go dc_153_0 (sp_end (by decide +kernel))
theorem dc_154_0 : (((ents 154).drop 0).take 34).all (dcE 154) = true := by decide +kernel
theorem dcM_154 : ((ents 154).drop 0).all (dcE 154) = true := sp_go dc_154_0 (sp_end (by decide +kernel))
theorem dc_155_0 : (((ents 155).drop 0).take 58).all (dcE 155) = true := by decide +kernel
theorem dc_155_1 : (((ents 155).drop 58).take 16).all (dcE 155) = true := by decide +kernel
theorem dcM_155 : ((ents 155).drop 0).all (dcE 155) = true := sp_go dc_155_0 (sp_go dc_155_1 (sp_end (by decide +kernel)))
theorem dc_156_0 : (((ents 156).drop 0).take 57).all (dcE 156) = true := by decide +kernel
theorem dcM_156 : ((ents 156).drop 0).all (dcE 156) = true := sp_go dc_156_0 (sp_end (by decide +kernel))
theorem dc_157_0 : (((ents 157).drop 0).take 50).all (dcE 157) = true := by decide +kernel
theorem dcM_157 : ((ents 157).drop 0).all (dcE 157) = true := sp_go dc_157_0 (sp_end (by decide +kernel))
theorem dc_158_0 : (((ents 158).drop 0).take 51).all (dcE 158) = true := by decide +kernel
theorem dc_158_1 : (((ents 158).drop 51).take 43).all (dcE 158) = true := by decide +kernel
theorem dcM_158 : ((ents 158).drop 0).all (dcE 158) = true := sp_go dc_158_0 (sp_go dc_158_1 (sp_end (by decide +kernel)))
theorem dc_159_0 : (((ents 159).drop 0).take 36).all (dcE 159) = true := by decide +kernel
theorem dcM_159 : ((ents 159).drop 0).all (dcE 159) = true := sp_go dc_159_0 (sp_end (by decide +kernel))
theorem dc_160_0 : (((ents 160).drop 0).take 39).all (dcE 160) = true := by decide +kernel
theorem dcM_160 : ((ents 160).drop 0).all (dcE 160) = true := sp_go dc_160_0 (sp_end (by decide +kernel))
theorem dc_161_0 : (((ents 161).drop 0).take 46).all (dcE 161) = true := by decide +kernel
theorem dc_161_1 : (((ents 161).drop 46).take 46).all (dcE 161) = true := by decide +kernel
theorem dc_161_2 : (((ents 161).drop 92).take 33).all (dcE 161) = true := by decide +kernel
theorem dcM_161 : ((ents 161).drop 0).all (dcE 161) = true := sp_go dc_161_0 (sp_go dc_161_1 (sp_go dc_161_2 (sp_end (by decide +kernel))))
theorem dc_162_0 : (((ents 162).drop 0).take 22).all (dcE 162) = true := by decide +kernel
theorem dcM_162 : ((ents 162).drop 0).all (dcE 162) = true := sp_go dc_162_0 (sp_end (by decide +kernel))
theorem dc_163_0 : (((ents 163).drop 0).take 68).all (dcE 163) = true := by decide +kernel
theorem dcM_163 : ((ents 163).drop 0).all (dcE 163) = true := sp_go dc_163_0 (sp_end (by decide +kernel))
theorem dc_164_0 : (((ents 164).drop 0).take 48).all (dcE 164) = true := by decide +kernel
theorem dcM_164 : ((ents 164).drop 0).all (dcE 164) = true := sp_go dc_164_0 (sp_end (by decide +kernel))
theorem dc_165_0 : (((ents 165).drop 0).take 12).all (dcE 165) = true := by decide +kernel
theorem dcM_165 : ((ents 165).drop 0).all (dcE 165) = true := sp_go dc_165_0 (sp_end (by decide +kernel))
theorem dc_166_0 : (((ents 166).drop 0).take 29).all (dcE 166) = true := by decide +kernel
theorem dcM_166 : ((ents 166).drop 0).all (dcE 166) = true := sp_go dc_166_0 (sp_end (by decide +kernel))
theorem dc_167_0 : (((ents 167).drop 0).take 59).all (dcE 167) = true := by decide +kernel
theorem dcM_167 : ((ents 167).drop 0).all (dcE 167) = true := sp_go dc_167_0 (sp_end (by decide +kernel))
theorem dc_168_0 : (((ents 168).drop 0).take 25).all (dcE 168) = true := by decide +kernel
theorem dcM_168 : ((ents 168).drop 0).all (dcE 168) = true := sp_go dc_168_0 (sp_end (by decide +kernel))
theorem dc_169_0 : (((ents 169).drop 0).take 58).all (dcE 169) = true := by decide +kernel
theorem dc_169_1 : (((ents 169).drop 58).take 42).all (dcE 169) = true := by decide +kernel
theorem dcM_169 : ((ents 169).drop 0).all (dcE 169) = true := sp_go dc_169_0 (sp_go dc_169_1 (sp_end (by decide +kernel)))
theorem dc_170_0 : (((ents 170).drop 0).take 38).all (dcE 170) = true := by decide +kernel
theorem dcM_170 : ((ents 170).drop 0).all (dcE 170) = true := sp_go dc_170_0 (sp_end (by decide +kernel))
theorem dc_171_0 : (((ents 171).drop 0).take 64).all (dcE 171) = true := by decide +kernel
theorem dc_171_1 : (((ents 171).drop 64).take 17).all (dcE 171) = true := by decide +kernel
theorem dcM_171 : ((ents 171).drop 0).all (dcE 171) = true := sp_go dc_171_0 (sp_go dc_171_1 (sp_end (by decide +kernel)))
theorem dc_172_0 : (((ents 172).drop 0).take 28).all (dcE 172) = true := by decide +kernel
theorem dcM_172 : ((ents 172).drop 0).all (dcE 172) = true := sp_go dc_172_0 (sp_end (by decide +kernel))
theorem dc_173_0 : (((ents 173).drop 0).take 65).all (dcE 173) = true := by decide +kernel
theorem dcM_173 : ((ents 173).drop 0).all (dcE 173) = true := sp_go dc_173_0 (sp_end (by decide +kernel))
theorem dc_174_0 : (((ents 174).drop 0).take 47).all (dcE 174) = true := by decide +kernel
theorem dcM_174 : ((ents 174).drop 0).all (dcE 174) = true := sp_go dc_174_0 (sp_end (by decide +kernel))
theorem dc_175_0 : (((ents 175).drop 0).take 54).all (dcE 175) = true := by decide +kernel
theorem dcM_175 : ((ents 175).drop 0).all (dcE 175) = true := sp_go dc_175_0 (sp_end (by decide +kernel))
theorem dc_176_0 : (((ents 176).drop 0).take 22).all (dcE 176) = true := by decide +kernel
theorem dcM_176 : ((ents 176).drop 0).all (dcE 176) = true := sp_go dc_176_0 (sp_end (by decide +kernel))
theorem dc_177_0 : (((ents 177).drop 0).take 48).all (dcE 177) = true := by decide +kernel
theorem dc_177_1 : (((ents 177).drop 48).take 48).all (dcE 177) = true := by decide +kernel
theorem dc_177_2 : (((ents 177).drop 96).take 26).all (dcE 177) = true := by decide +kernel
theorem dcM_177 : ((ents 177).drop 0).all (dcE 177) = true := sp_go dc_177_0 (sp_go dc_177_1 (sp_go dc_177_2 (sp_end (by decide +kernel))))
theorem dc_178_0 : (((ents 178).drop 0).take 63).all (dcE 178) = true := by decide +kernel
theorem dc_178_1 : (((ents 178).drop 63).take 14).all (dcE 178) = true := by decide +kernel
theorem dcM_178 : ((ents 178).drop 0).all (dcE 178) = true := sp_go dc_178_0 (sp_go dc_178_1 (sp_end (by decide +kernel)))
theorem dc_179_0 : (((ents 179).drop 0).take 57).all (dcE 179) = true := by decide +kernel
theorem dcM_179 : ((ents 179).drop 0).all (dcE 179) = true := sp_go dc_179_0 (sp_end (by decide +kernel))
theorem dc_180_0 : (((ents 180).drop 0).take 17).all (dcE 180) = true := by decide +kernel
theorem dcM_180 : ((ents 180).drop 0).all (dcE 180) = true := sp_go dc_180_0 (sp_end (by decide +kernel))
theorem dc_181_0 : (((ents 181).drop 0).take 13).all (dcE 181) = true := by decide +kernel
theorem dcM_181 : ((ents 181).drop 0).all (dcE 181) = true := sp_go dc_181_0 (sp_end (by decide +kernel))
theorem dc_182_0 : (((ents 182).drop 0).take 29).all (dcE 182) = true := by decide +kernel
theorem dcM_182 : ((ents 182).drop 0).all (dcE 182) = true := sp_go dc_182_0 (sp_end (by decide +kernel))
theorem dc_183_0 : (((ents 183).drop 0).take 24).all (dcE 183) = true := by decide +kernel
theorem dcM_183 : ((ents 183).drop 0).all (dcE 183) = true := sp_go dc_183_0 (sp_end (by decide +kernel))
theorem dc_184_0 : (((ents 184).drop 0).take 26).all (dcE 184) = true := by decide +kernel
theorem dcM_184 : ((ents 184).drop 0).all (dcE 184) = true := sp_go dc_184_0 (sp_end (by decide +kernel))
theorem dc_185_0 : (((ents 185).drop 0).take 30).all (dcE 185) = true := by decide +kernel
theorem dcM_185 : ((ents 185).drop 0).all (dcE 185) = true := sp_go dc_185_0 (sp_end (by decide +kernel))
theorem dc_186_0 : (((ents 186).drop 0).take 51).all (dcE 186) = true := by decide +kernel
theorem dcM_186 : ((ents 186).drop 0).all (dcE 186) = true := sp_go dc_186_0 (sp_end (by decide +kernel))
theorem dc_187_0 : (((ents 187).drop 0).take 28).all (dcE 187) = true := by decide +kernel
theorem dcM_187 : ((ents 187).drop 0).all (dcE 187) = true := sp_go dc_187_0 (sp_end (by decide +kernel))
theorem dc_188_0 : (((ents 188).drop 0).take 64).all (dcE 188) = true := by decide +kernel
theorem dcM_188 : ((ents 188).drop 0).all (dcE 188) = true := sp_go dc_188_0 (sp_end (by decide +kernel))
theorem dc_189_0 : (((ents 189).drop 0).take 33).all (dcE 189) = true := by decide +kernel
theorem dcM_189 : ((ents 189).drop 0).all (dcE 189) = true := sp_go dc_189_0 (sp_end (by decide +kernel))
theorem dc_190_0 : (((ents 190).drop 0).take 17).all (dcE 190) = true := by decide +kernel
theorem dcM_190 : ((ents 190).drop 0).all (dcE 190) = true := sp_go dc_190_0 (sp_end (by decide +kernel))
theorem dc_191_0 : (((ents 191).drop 0).take 5).all (dcE 191) = true := by decide +kernel
theorem dcM_191 : ((ents 191).drop 0).all (dcE 191) = true := sp_go dc_191_0 (sp_end (by decide +kernel))
theorem dc_192_0 : (((ents 192).drop 0).take 17).all (dcE 192) = true := by decide +kernel
theorem dcM_192 : ((ents 192).drop 0).all (dcE 192) = true := sp_go dc_192_0 (sp_end (by decide +kernel))
theorem dc_193_0 : (((ents 193).drop 0).take 25).all (dcE 193) = true := by decide +kernel
theorem dcM_193 : ((ents 193).drop 0).all (dcE 193) = true := sp_go dc_193_0 (sp_end (by decide +kernel))
theorem dc_194_0 : (((ents 194).drop 0).take 34).all (dcE 194) = true := by decide +kernel
theorem dcM_194 : ((ents 194).drop 0).all (dcE 194) = true := sp_go dc_194_0 (sp_end (by decide +kernel))
theorem dc_195_0 : (((ents 195).drop 0).take 59).all (dcE 195) = true := by decide +kernel
theorem dcM_195 : ((ents 195).drop 0).all (dcE 195) = true := sp_go dc_195_0 (sp_end (by decide +kernel))
theorem dc_196_0 : (((ents 196).drop 0).take 31).all (dcE 196) = true := by decide +kernel
theorem dc_196_1 : (((ents 196).drop 31).take 31).all (dcE 196) = true := by decide +kernel
theorem dc_196_2 : (((ents 196).drop 62).take 31).all (dcE 196) = true := by decide +kernel
theorem dc_196_3 : (((ents 196).drop 93).take 31).all (dcE 196) = true := by decide +kernel
theorem dc_196_4 : (((ents 196).drop 124).take 28).all (dcE 196) = true := by decide +kernel
theorem dcM_196 : ((ents 196).drop 0).all (dcE 196) = true := sp_go dc_196_0 (sp_go dc_196_1 (sp_go dc_196_2 (sp_go dc_196_3 (sp_go dc_196_4 (sp_end (by decide +kernel))))))
theorem dc_197_0 : (((ents 197).drop 0).take 23).all (dcE 197) = true := by decide +kernel
theorem dcM_197 : ((ents 197).drop 0).all (dcE 197) = true := sp_go dc_197_0 (sp_end (by decide +kernel))
theorem dc_198_0 : (((ents 198).drop 0).take 63).all (dcE 198) = true := by decide +kernel
theorem dc_198_1 : (((ents 198).drop 63).take 14).all (dcE 198) = true := by decide +kernel
theorem dcM_198 : ((ents 198).drop 0).all (dcE 198) = true := sp_go dc_198_0 (sp_go dc_198_1 (sp_end (by decide +kernel)))
theorem dc_199_0 : (((ents 199).drop 0).take 15).all (dcE 199) = true := by decide +kernel
theorem dcM_199 : ((ents 199).drop 0).all (dcE 199) = true := sp_go dc_199_0 (sp_end (by decide +kernel))
theorem dc_200_0 : (((ents 200).drop 0).take 15).all (dcE 200) = true := by decide +kernel
theorem dcM_200 : ((ents 200).drop 0).all (dcE 200) = true := sp_go dc_200_0 (sp_end (by decide +kernel))
theorem dc_201_0 : (((ents 201).drop 0).take 8).all (dcE 201) = true := by decide +kernel
theorem dcM_201 : ((ents 201).drop 0).all (dcE 201) = true := sp_go dc_201_0 (sp_end (by decide +kernel))
theorem dc_202_0 : (((ents 202).drop 0).take 60).all (dcE 202) = true := by decide +kernel
theorem dc_202_1 : (((ents 202).drop 60).take 30).all (dcE 202) = true := by decide +kernel
theorem dcM_202 : ((ents 202).drop 0).all (dcE 202) = true := sp_go dc_202_0 (sp_go dc_202_1 (sp_end (by decide +kernel)))
theorem dc_203_0 : (((ents 203).drop 0).take 57).all (dcE 203) = true := by decide +kernel
theorem dcM_203 : ((ents 203).drop 0).all (dcE 203) = true := sp_go dc_203_0 (sp_end (by decide +kernel))
theorem dc_204_0 : (((ents 204).drop 0).take 30).all (dcE 204) = true := by decide +kernel
theorem dcM_204 : ((ents 204).drop 0).all (dcE 204) = true := sp_go dc_204_0 (sp_end (by decide +kernel))
theorem dc_205_0 : (((ents 205).drop 0).take 68).all (dcE 205) = true := by decide +kernel
theorem dcM_205 : ((ents 205).drop 0).all (dcE 205) = true := sp_go dc_205_0 (sp_end (by decide +kernel))
theorem dc_206_0 : (((ents 206).drop 0).take 27).all (dcE 206) = true := by decide +kernel
theorem dcM_206 : ((ents 206).drop 0).all (dcE 206) = true := sp_go dc_206_0 (sp_end (by decide +kernel))
theorem dc_207_0 : (((ents 207).drop 0).take 54).all (dcE 207) = true := by decide +kernel
theorem dc_207_1 : (((ents 207).drop 54).take 41).all (dcE 207) = true := by decide +kernel
theorem dcM_207 : ((ents 207).drop 0).all (dcE 207) = true := sp_go dc_207_0 (sp_go dc_207_1 (sp_end (by decide +kernel)))
theorem dc_208_0 : (((ents 208).drop 0).take 39).all (dcE 208) = true := by decide +kernel
theorem dc_208_1 : (((ents 208).drop 39).take 39).all (dcE 208) = true := by decide +kernel
theorem dc_208_2 : (((ents 208).drop 78).take 39).all (dcE 208) = true := by decide +kernel
theorem dc_208_3 : (((ents 208).drop 117).take 4).all (dcE 208) = true := by decide +kernel
theorem dcM_208 : ((ents 208).drop 0).all (dcE 208) = true := sp_go dc_208_0 (sp_go dc_208_1 (sp_go dc_208_2 (sp_go dc_208_3 (sp_end (by decide +kernel)))))
theorem dc_209_0 : (((ents 209).drop 0).take 54).all (dcE 209) = true := by decide +kernel
theorem dc_209_1 : (((ents 209).drop 54).take 40).all (dcE 209) = true := by decide +kernel
theorem dcM_209 : ((ents 209).drop 0).all (dcE 209) = true := sp_go dc_209_0 (sp_go dc_209_1 (sp_end (by decide +kernel)))
theorem dc_210_0 : (((ents 210).drop 0).take 40).all (dcE 210) = true := by decide +kernel
theorem dcM_210 : ((ents 210).drop 0).all (dcE 210) = true := sp_go dc_210_0 (sp_end (by decide +kernel))
theorem dc_211_0 : (((ents 211).drop 0).take 31).all (dcE 211) = true := by decide +kernel
theorem dcM_211 : ((ents 211).drop 0).all (dcE 211) = true := sp_go dc_211_0 (sp_end (by decide +kernel))
theorem dc_212_0 : (((ents 212).drop 0).take 63).all (dcE 212) = true := by decide +kernel
theorem dc_212_1 : (((ents 212).drop 63).take 25).all (dcE 212) = true := by decide +kernel
theorem dcM_212 : ((ents 212).drop 0).all (dcE 212) = true := sp_go dc_212_0 (sp_go dc_212_1 (sp_end (by decide +kernel)))
theorem dc_213_0 : (((ents 213).drop 0).take 41).all (dcE 213) = true := by decide +kernel
theorem dcM_213 : ((ents 213).drop 0).all (dcE 213) = true := sp_go dc_213_0 (sp_end (by decide +kernel))
theorem dc_214_0 : (((ents 214).drop 0).take 7).all (dcE 214) = true := by decide +kernel
theorem dcM_214 : ((ents 214).drop 0).all (dcE 214) = true := sp_go dc_214_0 (sp_end (by decide +kernel))
theorem dc_215_0 : (((ents 215).drop 0).take 5).all (dcE 215) = true := by decide +kernel
theorem dcM_215 : ((ents 215).drop 0).all (dcE 215) = true := sp_go dc_215_0 (sp_end (by decide +kernel))
theorem dc_216_0 : (((ents 216).drop 0).take 52).all (dcE 216) = true := by decide +kernel
theorem dcM_216 : ((ents 216).drop 0).all (dcE 216) = true := sp_go dc_216_0 (sp_end (by decide +kernel))
theorem dc_217_0 : (((ents 217).drop 0).take 24).all (dcE 217) = true := by decide +kernel
theorem dcM_217 : ((ents 217).drop 0).all (dcE 217) = true := sp_go dc_217_0 (sp_end (by decide +kernel))
theorem dc_218_0 : (((ents 218).drop 0).take 29).all (dcE 218) = true := by decide +kernel
theorem dcM_218 : ((ents 218).drop 0).all (dcE 218) = true := sp_go dc_218_0 (sp_end (by decide +kernel))
theorem dc_219_0 : (((ents 219).drop 0).take 27).all (dcE 219) = true := by decide +kernel
theorem dcM_219 : ((ents 219).drop 0).all (dcE 219) = true := sp_go dc_219_0 (sp_end (by decide +kernel))
theorem dc_220_0 : (((ents 220).drop 0).take 29).all (dcE 220) = true := by decide +kernel
theorem dcM_220 : ((ents 220).drop 0).all (dcE 220) = true := sp_go dc_220_0 (sp_end (by decide +kernel))
theorem dc_221_0 : (((ents 221).drop 0).take 32).all (dcE 221) = true := by decide +kernel
theorem dcM_221 : ((ents 221).drop 0).all (dcE 221) = true := sp_go dc_221_0 (sp_end (by decide +kernel))
theorem dc_222_0 : (((ents 222).drop 0).take 46).all (dcE 222) = true := by decide +kernel
theorem dc_222_1 : (((ents 222).drop 46).take 46).all (dcE 222) = true := by decide +kernel
theorem dc_222_2 : (((ents 222).drop 92).take 21).all (dcE 222) = true := by decide +kernel
theorem dcM_222 : ((ents 222).drop 0).all (dcE 222) = true := sp_go dc_222_0 (sp_go dc_222_1 (sp_go dc_222_2 (sp_end (by decide +kernel))))
theorem dc_223_0 : (((ents 223).drop 0).take 42).all (dcE 223) = true := by decide +kernel
theorem dcM_223 : ((ents 223).drop 0).all (dcE 223) = true := sp_go dc_223_0 (sp_end (by decide +kernel))
theorem dc_224_0 : (((ents 224).drop 0).take 58).all (dcE 224) = true := by decide +kernel
theorem dc_224_1 : (((ents 224).drop 58).take 10).all (dcE 224) = true := by decide +kernel
theorem dcM_224 : ((ents 224).drop 0).all (dcE 224) = true := sp_go dc_224_0 (sp_go dc_224_1 (sp_end (by decide +kernel)))
end
section
theorem dc_225_0 : (((ents 225).drop 0).take 55).all (dcE 225) = true := by decide +kernel
theorem dc_225_1 : (((ents 225).drop 55).take 43).all (dcE 225) = true := by decide +kernel
theorem dcM_225 : ((ents 225).drop 0).all (dcE 225) = true := sp_go dc_225_0 (sp_go dc_225_1 (sp_end (by decide +kernel)))
theorem dc_226_0 : (((ents 226).drop 0).take 42).all (dcE 226) = true := by decide +kernel
theorem dcM_226 : ((ents 226).drop 0).all (dcE 226) = true := sp_go dc_226_0 (sp_end (by decide +kernel))
theorem dc_227_0 : (((ents 227).drop 0).take 7).all (dcE 227) = true := by decide +kernel
theorem dc_227_1 : (((ents 227).drop 7).take 7).all (dcE 227) = true := by decide +kernel
theorem dc_227_2 : (((ents 227).drop 14).take 7).all (dcE 227) = true := by decide +kernel
theorem dc_227_3 : (((ents 227).drop 21).take 7).all (dcE 227) = true := by decide +kernel
theorem dc_227_4 : (((ents 227).drop 28).take 7).all (dcE 227) = true := by decide +kernel
theorem dc_227_5 : (((ents 227).drop 35).take 7).all (dcE 227) = true := by decide +kernel
theorem dc_227_6 : (((ents 227).drop 42).take 7).all (dcE 227) = true := by decide +kernel
theorem dc_227_7 : (((ents 227).drop 49).take 7).all (dcE 227) = true := by decide +kernel
theorem dc_227_8 : (((ents 227).drop 56).take 7).all (dcE 227) = true := by decide +kernel
theorem dc_227_9 : (((ents 227).drop 63).take 7).all (dcE 227) = true := by decide +kernel
theorem dc_227_10 : (((ents 227).drop 70).take 7).all (dcE 227) = true := by decide +kernel
theorem dc_227_11 : (((ents 227).drop 77).take 7).all (dcE 227) = true := by decide +kernel
theorem dc_227_12 : (((ents 227).drop 84).take 7).all (dcE 227) = true := by decide +kernel
theorem dc_227_13 : (((ents 227).drop 91).take 7).all (dcE 227) = true := by decide +kernel
theorem dc_227_14 : (((ents 227).drop 98).take 7).all (dcE 227) = true := by decide +kernel
theorem dc_227_15 : (((ents 227).drop 105).take 7).all (dcE 227) = true := by decide +kernel
theorem dc_227_16 : (((ents 227).drop 112).take 7).all (dcE 227) = true := by decide +kernel
theorem dc_227_17 : (((ents 227).drop 119).take 7).all (dcE 227) = true := by decide +kernel
theorem dc_227_18 : (((ents 227).drop 126).take 7).all (dcE 227) = true := by decide +kernel
theorem dc_227_19 : (((ents 227).drop 133).take 7).all (dcE 227) = true := by decide +kernel
theorem dc_227_20 : (((ents 227).drop 140).take 7).all (dcE 227) = true := by decide +kernel
theorem dc_227_21 : (((ents 227).drop 147).take 7).all (dcE 227) = true := by decide +kernel
theorem dc_227_22 : (((ents 227).drop 154).take 7).all (dcE 227) = true := by decide +kernel
theorem dc_227_23 : (((ents 227).drop 161).take 7).all (dcE 227) = true := by decide +kernel
theorem dc_227_24 : (((ents 227).drop 168).take 7).all (dcE 227) = true := by decide +kernel
theorem dc_227_25 : (((ents 227).drop 175).take 7).all (dcE 227) = true := by decide +kernel
theorem dc_227_26 : (((ents 227).drop 182).take 7).all (dcE 227) = true := by decide +kernel
theorem dc_227_27 : (((ents 227).drop 189).take 7).all (dcE 227) = true := by decide +kernel
theorem dc_227_28 : (((ents 227).drop 196).take 7).all (dcE 227) = true := by decide +kernel
theorem dc_227_29 : (((ents 227).drop 203).take 7).all (dcE 227) = true := by decide +kernel
theorem dc_227_30 : (((ents 227).drop 210).take 7).all (dcE 227) = true := by decide +kernel
theorem dc_227_31 : (((ents 227).drop 217).take 7).all (dcE 227) = true := by decide +kernel
theorem dc_227_32 : (((ents 227).drop 224).take 7).all (dcE 227) = true := by decide +kernel
theorem dc_227_33 : (((ents 227).drop 231).take 7).all (dcE 227) = true := by decide +kernel
theorem dc_227_34 : (((ents 227).drop 238).take 7).all (dcE 227) = true := by decide +kernel
theorem dc_227_35 : (((ents 227).drop 245).take 7).all (dcE 227) = true := by decide +kernel
theorem dc_227_36 : (((ents 227).drop 252).take 7).all (dcE 227) = true := by decide +kernel
theorem dc_227_37 : (((ents 227).drop 259).take 7).all (dcE 227) = true := by decide +kernel
theorem dc_227_38 : (((ents 227).drop 266).take 7).all (dcE 227) = true := by decide +kernel
theorem dc_227_39 : (((ents 227).drop 273).take 7).all (dcE 227) = true := by decide +kernel
theorem dc_227_40 : (((ents 227).drop 280).take 7).all (dcE 227) = true := by decide +kernel
theorem dc_227_41 : (((ents 227).drop 287).take 7).all (dcE 227) = true := by decide +kernel
theorem dc_227_42 : (((ents 227).drop 294).take 7).all (dcE 227) = true := by decide +kernel
theorem dc_227_43 : (((ents 227).drop 301).take 7).all (dcE 227) = true := by decide +kernel
theorem dc_227_44 : (((ents 227).drop 308).take 7).all (dcE 227) = true := by decide +kernel
theorem dc_227_45 : (((ents 227).drop 315).take 7).all (dcE 227) = true := by decide +kernel
theorem dc_227_46 : (((ents 227).drop 322).take 7).all (dcE 227) = true := by decide +kernel
theorem dc_227_47 : (((ents 227).drop 329).take 7).all (dcE 227) = true := by decide +kernel
theorem dc_227_48 : (((ents 227).drop 336).take 7).all (dcE 227) = true := by decide +kernel
theorem dc_227_49 : (((ents 227).drop 343).take 7).all (dcE 227) = true := by decide +kernel
theorem dc_227_50 : (((ents 227).drop 350).take 7).all (dcE 227) = true := by decide +kernel
theorem dc_227_51 : (((ents 227).drop 357).take 7).all (dcE 227) = true := by decide +kernel
theorem dc_227_52 : (((ents 227).drop 364).take 7).all (dcE 227) = true := by decide +kernel
theorem dc_227_53 : (((ents 227).drop 371).take 7).all (dcE 227) = true := by decide +kernel
theorem dc_227_54 : (((ents 227).drop 378).take 7).all (dcE 227) = true := by decide +kernel
theorem dc_227_55 : (((ents 227).drop 385).take 7).all (dcE 227) = true := by decide +kernel
theorem dc_227_56 : (((ents 227).drop 392).take 7).all (dcE 227) = true := by decide +kernel
theorem dc_227_57 : (((ents 227).drop 399).take 7).all (dcE 227) = true := by decide +kernel
theorem dc_227_58 : (((ents 227).drop 406).take 7).all (dcE 227) = true := by decide +kernel
theorem dc_227_59 : (((ents 227).drop 413).take 7).all (dcE 227) = true := by decide +kernel
theorem dc_227_60 : (((ents 227).drop 420).take 7).all (dcE 227) = true := by decide +kernel
theorem dc_227_61 : (((ents 227).drop 427).take 7).all (dcE 227) = true := by decide +kernel
theorem dc_227_62 : (((ents 227).drop 434).take 7).all (dcE 227) = true := by decide +kernel
theorem dc_227_63 : (((ents 227).drop 441).take 7).all (dcE 227) = true := by decide +kernel
theorem dc_227_64 : (((ents 227).drop 448).take 7).all (dcE 227) = true := by decide +kernel
theorem dc_227_65 : (((ents 227).drop 455).take 7).all (dcE 227) = true := by decide +kernel
theorem dc_227_66 : (((ents 227).drop 462).take 7).all (dcE 227) = true := by decide +kernel
theorem dc_227_67 : (((ents 227).drop 469).take 7).all (dcE 227) = true := by decide +kernel
theorem dc_227_68 : (((ents 227).drop 476).take 7).all (dcE 227) = true := by decide +kernel
theorem dc_227_69 : (((ents 227).drop 483).take 7).all (dcE 227) = true := by decide +kernel
theorem dc_227_70 : (((ents 227).drop 490).take 7).all (dcE 227) = true := by decide +kernel
theorem dc_227_71 : (((ents 227).drop 497).take 7).all (dcE 227) = true := by decide +kernel
theorem dc_227_72 : (((ents 227).drop 504).take 7).all (dcE 227) = true := by decide +kernel
theorem dc_227_73 : (((ents 227).drop 511).take 7).all (dcE 227) = true := by decide +kernel
theorem dc_227_74 : (((ents 227).drop 518).take 7).all (dcE 227) = true := by decide +kernel
theorem dc_227_75 : (((ents 227).drop 525).take 7).all (dcE 227) = true := by decide +kernel
theorem dc_227_76 : (((ents 227).drop 532).take 7).all (dcE 227) = true := by decide +kernel
theorem dc_227_77 : (((ents 227).drop 539).take 7).all (dcE 227) = true := by decide +kernel
theorem dc_227_78 : (((ents 227).drop 546).take 7).all (dcE 227) = true := by decide +kernel
theorem dc_227_79 : (((ents 227).drop 553).take 7).all (dcE 227) = true := by decide +kernel
theorem dc_227_80 : (((ents 227).drop 560).take 7).all (dcE 227) = true := by decide +kernel
theorem dc_227_81 : (((ents 227).drop 567).take 7).all (dcE 227) = true := by decide +kernel
theorem dc_227_82 : (((ents 227).drop 574).take 7).all (dcE 227) = true := by decide +kernel
theorem dc_227_83 : (((ents 227).drop 581).take 7).all (dcE 227) = true := by decide +kernel
theorem dc_227_84 : (((ents 227).drop 588).take 7).all (dcE 227) = true := by decide +kernel
theorem dc_227_85 : (((ents 227).drop 595).take 7).all (dcE 227) = true := by decide +kernel
theorem dc_227_86 : (((ents 227).drop 602).take 7).all (dcE 227) = true := by decide +kernel
theorem dc_227_87 : (((ents 227).drop 609).take 7).all (dcE 227) = true := by decide +kernel
theorem dc_227_88 : (((ents 227).drop 616).take 7).all (dcE 227) = true := by decide +kernel
theorem dc_227_89 : (((ents 227).drop 623).take 7).all (dcE 227) = true := by decide +kernel
theorem dc_227_90 : (((ents 227).drop 630).take 7).all (dcE 227) = true := by decide +kernel
theorem dc_227_91 : (((ents 227).drop 637).take 7).all (dcE 227) = true := by decide +kernel
theorem dc_227_92 : (((ents 227).drop 644).take 7).all (dcE 227) = true := by decide +kernel
theorem dc_227_93 : (((ents 227).drop 651).take 7).all (dcE 227) = true := by decide +kernel
theorem dc_227_94 : (((ents 227).drop 658).take 7).all (dcE 227) = true := by decide +kernel
theorem dc_227_95 : (((ents 227).drop 665).take 7).all (dcE 227) = true := by decide +kernel
theorem dc_227_96 : (((ents 227).drop 672).take 7).all (dcE 227) = true := by decide +kernel
theorem dc_227_97 : (((ents 227).drop 679).take 7).all (dcE 227) = true := by decide +kernel
theorem dc_227_98 : (((ents 227).drop 686).take 7).all (dcE 227) = true := by decide +kernel
theorem dc_227_99 : (((ents 227).drop 693).take 7).all (dcE 227) = true := by decide +kernel
theorem dc_227_100 : (((ents 227).drop 700).take 7).all (dcE 227) = true := by decide +kernel
theorem dc_227_101 : (((ents 227).drop 707).take 7).all (dcE 227) = true := by decide +kernel
theorem dc_227_102 : (((ents 227).drop 714).take 7).all (dcE 227) = true := by decide +kernel
theorem dc_227_103 : (((ents 227).drop 721).take 7).all (dcE 227) = true := by decide +kernel
theorem dc_227_104 : (((ents 227).drop 728).take 7).all (dcE 227) = true := by decide +kernel
theorem dc_227_105 : (((ents 227).drop 735).take 7).all (dcE 227) = true := by decide +kernel
theorem dc_227_106 : (((ents 227).drop 742).take 7).all (dcE 227) = true := by decide +kernel
theorem dc_227_107 : (((ents 227).drop 749).take 7).all (dcE 227) = true := by decide +kernel
theorem dc_227_108 : (((ents 227).drop 756).take 7).all (dcE 227) = true := by decide +kernel
theorem dc_227_109 : (((ents 227).drop 763).take 7).all (dcE 227) = true := by decide +kernel
theorem dc_227_110 : (((ents 227).drop 770).take 7).all (dcE 227) = true := by decide +kernel
theorem dc_227_111 : (((ents 227).drop 777).take 7).all (dcE 227) = true := by decide +kernel
theorem dc_227_112 : (((ents 227).drop 784).take 7).all (dcE 227) = true := by decide +kernel
theorem dc_227_113 : (((ents 227).drop 791).take 7).all (dcE 227) = true := by decide +kernel
theorem dc_227_114 : (((ents 227).drop 798).take 7).all (dcE 227) = true := by decide +kernel
theorem dc_227_115 : (((ents 227).drop 805).take 7).all (dcE 227) = true := by decide +kernel
theorem dcM_227 : ((ents 227).drop 0).all (dcE 227) = true := sp_go dc_227_0 (sp_go dc_227_1 (sp_go dc_227_2 (sp_go dc_227_3 (sp_go dc_227_4 (sp_go dc_227_5 (sp_go dc_227_6 (sp_go dc_227_7 (sp_go dc_227_8 (sp_go dc_227_9 (sp_go dc_227_10 (sp_go dc_227_11 (sp_go dc_227_12 (sp_go dc_227_13 (sp_go dc_227_14 (sp_go dc_227_15 (sp_go dc_227_16 (sp_go dc_227_17 (sp_go dc_227_18 (sp_go dc_227_19 (sp_go dc_227_20 (sp_go dc_227_21 (sp_go dc_227_22 (sp_go dc_227_23 (sp_go dc_227_24 (sp_go dc_227_25 (sp_go dc_227_26 (sp_go dc_227_27 (sp_go dc_227_28 (sp_go dc_227_29 (sp_go dc_227_30 (sp_go dc_227_31 (sp_go dc_227_32 (sp_go dc_227_33 (sp_go dc_227_34 (sp_go dc_227_35 (sp_go dc_227_36 (sp_go dc_227_37 (sp_go dc_227_38 (sp_go dc_227_39 (sp_go dc_227_40 (sp_go dc_227_41 (sp_go dc_227_42 (sp_go dc_227_43 (sp_go dc_227_44 (sp_go dc_227_45 (sp_go dc_227_46 (sp_go dc_227_47 (sp_go dc_227_48 (sp_go dc_227_49 (sp_go dc_227_50 (sp_go dc_227_51 (sp_go dc_227_52 (sp_go dc_227_53 (sp_go dc_227_54 (sp_go dc_227_55 (sp_go dc_227_56 (sp_go dc_227_57 (sp_go dc_227_58 (sp_go dc_227_59 (sp_go dc_227_60 (sp_go dc_227_61 (sp_go dc_227_62 (sp_go dc_227_63 (sp_go dc_227_64 (sp_go dc_227_65 (sp_go dc_227_66 (sp_go dc_227_67 (sp_go dc_227_68 (sp_go dc_227_69 (sp_go dc_227_70 (sp_go dc_227_71 (sp_go dc_227_72 (sp_go dc_227_73 (sp_go dc_227_74 (sp_go dc_227_75 (sp_go dc_227_76 (sp_go dc_227_77 (sp_go dc_227_78 (sp_go dc_227_79 (sp_go dc_227_80 (sp_go dc_227_81 (sp_go dc_227_82 (sp_go dc_227_83 (sp_go dc_227_84 (sp_go dc_227_85 (sp_go dc_227_86 (sp_go dc_227_87 (sp_go dc_227_88 (sp_go dc_227_89 (sp_go dc_227_90 (sp_go dc_227_91 (sp_go dc_227_92 (sp_go dc_227_93 (sp_go dc_227_94 (sp_go dc_227_95 (sp_go dc_227_96 (sp_go dc_227_97 (sp_go dc_227_98 (sp_go dc_227_99 (sp_go dc_227_100 (sp_go dc_227_101 (sp_go dc_227_102 (sp_go dc_227_103 (sp_go dc_227_104 (sp_go dc_227_105 (sp_go dc_227_106 (sp_go dc_227_107 (sp_go dc_227_108 (sp_go dc_227_109 (sp_go dc_227_110 (sp_go dc_227_111 (sp_go dc_227_112 (sp_go dc_227_113 (sp_go dc_227_114 (sp_go dc_227_115 (sp_end (by decide +kernel)))))))))))))))))))))))))))))))))))))))))))))))))))))))))))))))))))))))))))))))))))))))))))))))))))))))))))))))))))))
end
section
theorem okBs_0 : (List.range 12).all (fun i => okB (0 + i) && okM (0 + i)) = true := by decide +kernel
theorem okBs_12 : (List.range 12).all (fun i => okB (12 + i) && okM (12 + i)) = true := by decide +kernel
theorem okBs_24 : (List.range 12).all (fun i => okB (24 + i) && okM (24 + i)) = true := by decide +kernel
theorem okBs_36 : (List.range 12).all (fun i => okB (36 + i) && okM (36 + i)) = true := by decide +kernel
theorem okBs_48 : (List.range 12).all (fun i => okB (48 + i) && okM (48 + i)) = true := by decide +kernel
theorem okBs_60 : (List.range 12).all (fun i => okB (60 + i) && okM (60 + i)) = true := by decide +kernel
theorem okBs_72 : (List.range 12).all (fun i => okB (72 + i) && okM (72 + i)) = true := by decide +kernel
theorem okBs_84 : (List.range 12).all (fun i => okB (84 + i) && okM (84 + i)) = true := by decide +kernel
theorem okBs_96 : (List.range 12).all (fun i => okB (96 + i) && okM (96 + i)) = true := by decide +kernel
theorem okBs_108 : (List.range 12).all (fun i => okB (108 + i) && okM (108 + i)) = true := by decide +kernel
theorem okBs_120 : (List.range 12).all (fun i => okB (120 + i) && okM (120 + i)) = true := by decide +kernel
theorem okBs_132 : (List.range 12).all (fun i => okB (132 + i) && okM (132 + i)) = true := by decide +kernel
theorem okBs_144 : (List.range 12).all (fun i => okB (144 + i) && okM (144 + i)) = true := by decide +kernel
theorem okBs_156 : (List.range 12).all (fun i => okB (156 + i) && okM (156 + i)) = true := by decide +kernel
theorem okBs_168 : (List.range 12).all (fun i => okB (168 + i) && okM (168 + i)) = true := by decide +kernel
theorem okBs_180 : (List.range 12).all (fun i => okB (180 + i) && okM (180 + i)) = true := by decide +kernel
theorem okBs_192 : (List.range 12).all (fun i => okB (192 + i) && okM (192 + i)) = true := by decide +kernel
theorem okBs_204 : (List.range 12).all (fun i => okB (204 + i) && okM (204 + i)) = true := by decide +kernel
theorem okBs_216 : (List.range 11).all (fun i => okB (216 + i) && okM (216 + i)) = true := by decide +kernel
theorem okB_law : okB 227 = true := by decide +kernel
theorem okBM : ∀ mi, mi < 227 → okB mi = true ∧ okM mi = true := by
  intro mi h
  rcases (show mi < 12 ∨ (12 ≤ mi ∧ mi < 24) ∨ (24 ≤ mi ∧ mi < 36) ∨ (36 ≤ mi ∧ mi < 48) ∨ (48 ≤ mi ∧ mi < 60) ∨ (60 ≤ mi ∧ mi < 72) ∨ (72 ≤ mi ∧ mi < 84) ∨ (84 ≤ mi ∧ mi < 96) ∨ (96 ≤ mi ∧ mi < 108) ∨ (108 ≤ mi ∧ mi < 120) ∨ (120 ≤ mi ∧ mi < 132) ∨ (132 ≤ mi ∧ mi < 144) ∨ (144 ≤ mi ∧ mi < 156) ∨ (156 ≤ mi ∧ mi < 168) ∨ (168 ≤ mi ∧ mi < 180) ∨ (180 ≤ mi ∧ mi < 192) ∨ (192 ≤ mi ∧ mi < 204) ∨ (204 ≤ mi ∧ mi < 216) ∨ (216 ≤ mi ∧ mi < 227) by omega) with h1 | h1 | h1 | h1 | h1 | h1 | h1 | h1 | h1 | h1 | h1 | h1 | h1 | h1 | h1 | h1 | h1 | h1 | h1
  · have h2 := List.all_eq_true.mp okBs_0 (mi - 0) (List.mem_range.mpr (by omega))
    rw [show 0 + (mi - 0) = mi by omega, Bool.and_eq_true] at h2
    exact h2
  · have h2 := List.all_eq_true.mp okBs_12 (mi - 12) (List.mem_range.mpr (by omega))
    rw [show 12 + (mi - 12) = mi by omega, Bool.and_eq_true] at h2
    exact h2
  · have h2 := List.all_eq_true.mp okBs_24 (mi - 24) (List.mem_range.mpr (by omega))
    rw [show 24 + (mi - 24) = mi by omega, Bool.and_eq_true] at h2
    exact h2
  · have h2 := List.all_eq_true.mp okBs_36 (mi - 36) (List.mem_range.mpr (by omega))
    rw [show 36 + (mi - 36) = mi by omega, Bool.and_eq_true] at h2
    exact h2
  · have h2 := List.all_eq_true.mp okBs_48 (mi - 48) (List.mem_range.mpr (by omega))
    rw [show 48 + (mi - 48) = mi by omega, Bool.and_eq_true] at h2
    exact h2
  · have h2 := List.all_eq_true.mp okBs_60 (mi - 60) (List.mem_range.mpr (by omega))
    rw [show 60 + (mi - 60) = mi by omega, Bool.and_eq_true] at h2
    exact h2
  · have h2 := List.all_eq_true.mp okBs_72 (mi - 72) (List.mem_range.mpr (by omega))
    rw [show 72 + (mi - 72) = mi by omega, Bool.and_eq_true] at h2
    exact h2
  · have h2 := List.all_eq_true.mp okBs_84 (mi - 84) (List.mem_range.mpr (by omega))
    rw [show 84 + (mi - 84) = mi by omega, Bool.and_eq_true] at h2
    exact h2
  · have h2 := List.all_eq_true.mp okBs_96 (mi - 96) (List.mem_range.mpr (by omega))
    rw [show 96 + (mi - 96) = mi by omega, Bool.and_eq_true] at h2
    exact h2
  · have h2 := List.all_eq_true.mp okBs_108 (mi - 108) (List.mem_range.mpr (by omega))
    rw [show 108 + (mi - 108) = mi by omega, Bool.and_eq_true] at h2
    exact h2
  · have h2 := List.all_eq_true.mp okBs_120 (mi - 120) (List.mem_range.mpr (by omega))
    rw [show 120 + (mi - 120) = mi by omega, Bool.and_eq_true] at h2
    exact h2
  · have h2 := List.all_eq_true.mp okBs_132 (mi - 132) (List.mem_range.mpr (by omega))
    rw [show 132 + (mi - 132) = mi by omega, Bool.and_eq_true] at h2
    exact h2
  · have h2 := List.all_eq_true.mp okBs_144 (mi - 144) (List.mem_range.mpr (by omega))
    rw [show 144 + (mi - 144) = mi by omega, Bool.and_eq_true] at h2
    exact h2
  · have h2 := List.all_eq_true.mp okBs_156 (mi - 156) (List.mem_range.mpr (by omega))
    rw [show 156 + (mi - 156) = mi by omega, Bool.and_eq_true] at h2
    exact h2
  · have h2 := List.all_eq_true.mp okBs_168 (mi - 168) (List.mem_range.mpr (by omega))
    rw [show 168 + (mi - 168) = mi by omega, Bool.and_eq_true] at h2
    exact h2
  · have h2 := List.all_eq_true.mp okBs_180 (mi - 180) (List.mem_range.mpr (by omega))
    rw [show 180 + (mi - 180) = mi by omega, Bool.and_eq_true] at h2
    exact h2
  · have h2 := List.all_eq_true.mp okBs_192 (mi - 192) (List.mem_range.mpr (by omega))
    rw [show 192 + (mi - 192) = mi by omega, Bool.and_eq_true] at h2
    exact h2
  · have h2 := List.all_eq_true.mp okBs_204 (mi - 204) (List.mem_range.mpr (by omega))
    rw [show 204 + (mi - 204) = mi by omega, Bool.and_eq_true] at h2
    exact h2
  · have h2 := List.all_eq_true.mp okBs_216 (mi - 216) (List.mem_range.mpr (by omega))
    rw [show 216 + (mi - 216) = mi by omega, Bool.and_eq_true] at h2
    exact h2
theorem dcA0 : ∀ mi, mi < 228 → ((ents mi).drop 0).all (dcE mi) = true := lt_s (lt_s (lt_s (lt_s (lt_s (lt_s (lt_s (lt_s (lt_s (lt_s (lt_s (lt_s (lt_s (lt_s (lt_s (lt_s (lt_s (lt_s (lt_s (lt_s (lt_s (lt_s (lt_s (lt_s (lt_s (lt_s (lt_s (lt_s (lt_s (lt_s (lt_s (lt_s (lt_s (lt_s (lt_s (lt_s (lt_s (lt_s (lt_s (lt_s (lt_s (lt_s (lt_s (lt_s (lt_s (lt_s (lt_s (lt_s (lt_s (lt_s (lt_s (lt_s (lt_s (lt_s (lt_s (lt_s (lt_s (lt_s (lt_s (lt_s (lt_s (lt_s (lt_s (lt_s (lt_s (lt_s (lt_s (lt_s (lt_s (lt_s (lt_s (lt_s (lt_s (lt_s (lt_s (lt_s (lt_s (lt_s (lt_s (lt_s (lt_s (lt_s (lt_s (lt_s (lt_s (lt_s (lt_s (lt_s (lt_s (lt_s (lt_s (lt_s (lt_s (lt_s (lt_s (lt_s (lt_s (lt_s (lt_s (lt_s (lt_s (lt_s (lt_s (lt_s (lt_s (lt_s (lt_s (lt_s (lt_s (lt_s (lt_s (lt_s (lt_s (lt_s (lt_s (lt_s (lt_s (lt_s (lt_s (lt_s (lt_s (lt_s (lt_s (lt_s (lt_s (lt_s (lt_s (lt_s (lt_s (lt_s (lt_s (lt_s (lt_s (lt_s (lt_s (lt_s (lt_s (lt_s (lt_s (lt_s (lt_s (lt_s (lt_s (lt_s (lt_s (lt_s (lt_s (lt_s (lt_s (lt_s (lt_s (lt_s (lt_s (lt_s (lt_s (lt_s (lt_s (lt_s (lt_s (lt_s (lt_s (lt_s (lt_s (lt_s (lt_s (lt_s (lt_s (lt_s (lt_s (lt_s (lt_s (lt_s (lt_s (lt_s (lt_s (lt_s (lt_s (lt_s (lt_s (lt_s (lt_s (lt_s (lt_s (lt_s (lt_s (lt_s (lt_s (lt_s (lt_s (lt_s (lt_s (lt_s (lt_s (lt_s (lt_s (lt_s (lt_s (lt_s (lt_s (lt_s (lt_s (lt_s (lt_s (lt_s (lt_s (lt_s (lt_s (lt_s (lt_s (lt_s (lt_s (lt_s (lt_s (lt_s (lt_s (lt_s (lt_s (lt_s (lt_s (lt_s (lt_s (lt_s (lt_s (lt_s (lt_s (lt_s (lt_s (lt_s (lt_0) dcM_0) dcM_1) dcM_2) dcM_3) dcM_4) dcM_5) dcM_6) dcM_7) dcM_8) dcM_9) dcM_10) dcM_11) dcM_12) dcM_13) dcM_14) dcM_15) dcM_16) dcM_17) dcM_18) dcM_19) dcM_20) dcM_21) dcM_22) dcM_23) dcM_24) dcM_25) dcM_26) dcM_27) dcM_28) dcM_29) dcM_30) dcM_31) dcM_32) dcM_33) dcM_34) dcM_35) dcM_36) dcM_37) dcM_38) dcM_39) dcM_40) dcM_41) dcM_42) dcM_43) dcM_44) dcM_45) dcM_46) dcM_47) dcM_48) dcM_49) dcM_50) dcM_51) dcM_52) dcM_53) dcM_54) dcM_55) dcM_56) dcM_57) dcM_58) dcM_59) dcM_60) dcM_61) dcM_62) dcM_63) dcM_64) dcM_65) dcM_66) dcM_67) dcM_68) dcM_69) dcM_70) dcM_71) dcM_72) dcM_73) dcM_74) dcM_75) dcM_76) dcM_77) dcM_78) dcM_79) dcM_80) dcM_81) dcM_82) dcM_83) dcM_84) dcM_85) dcM_86) dcM_87) dcM_88) dcM_89) dcM_90) dcM_91) dcM_92) dcM_93) dcM_94) dcM_95) dcM_96) dcM_97) dcM_98) dcM_99) dcM_100) dcM_101) dcM_102) dcM_103) dcM_104) dcM_105) dcM_106) dcM_107) dcM_108) dcM_109) dcM_110) dcM_111) dcM_112) dcM_113) dcM_114) dcM_115) dcM_116) dcM_117) dcM_118) dcM_119) dcM_120) dcM_121) dcM_122) dcM_123) dcM_124) dcM_125) dcM_126) dcM_127) dcM_128) dcM_129) dcM_130) dcM_131) dcM_132) dcM_133) dcM_134) dcM_135) dcM_136) dcM_137) dcM_138) dcM_139) dcM_140) dcM_141) dcM_142) dcM_143) dcM_144) dcM_145) dcM_146) dcM_147) dcM_148) dcM_149) dcM_150) dcM_151) dcM_152) dcM_153) dcM_154) dcM_155) dcM_156) dcM_157) dcM_158) dcM_159) dcM_160) dcM_161) dcM_162) dcM_163) dcM_164) dcM_165) dcM_166) dcM_167) dcM_168) dcM_169) dcM_170) dcM_171) dcM_172) dcM_173) dcM_174) dcM_175) dcM_176) dcM_177) dcM_178) dcM_179) dcM_180) dcM_181) dcM_182) dcM_183) dcM_184) dcM_185) dcM_186) dcM_187) dcM_188) dcM_189) dcM_190) dcM_191) dcM_192) dcM_193) dcM_194) dcM_195) dcM_196) dcM_197) dcM_198) dcM_199) dcM_200) dcM_201) dcM_202) dcM_203) dcM_204) dcM_205) dcM_206) dcM_207) dcM_208) dcM_209) dcM_210) dcM_211) dcM_212) dcM_213) dcM_214) dcM_215) dcM_216) dcM_217) dcM_218) dcM_219) dcM_220) dcM_221) dcM_222) dcM_223) dcM_224) dcM_225) dcM_226) dcM_227
theorem dcA : ∀ mi, mi < 228 → (ents mi).all (dcE mi) = true := fun mi h => dcA0 mi h
end
section
/-! the two constructors, by reckoning: nothing of them reads the script -/
def usS (ins : Instr) (st : List AV) : Bool := match ins with
  | .iaload => match st with
    | _ :: .inr (.inr (.inl 1)) :: _ => true
    | _ => false
  | .arraylength => match st with
    | .inr (.inr (.inl 1)) :: _ => true
    | _ => false
  | _ => false
def stq (e : En) (ls st : List AV) (σ : Sg) : Rs := if usS e.2.2.1 st = true then none else stp (fun _ => 0) 0 e ls st σ
def rnq : Nat → Nat → List En → Nat → List AV → List AV → Sg → Option (Option AV × Sg)
  | 0, _, _, _, _, _, _ => none
  | n + 1, mi, [], fl, ls, st, σ => rnq n mi (blk mi fl).1 (blk mi fl).2 ls st σ
  | n + 1, mi, e :: es, fl, ls, st, σ =>
    match rtV mi e st with
    | some rv => some (rv, σ)
    | none => match clV e st σ with
      | some (mi', av, rest) => match rnq n mi' (blk mi' 0).1 (blk mi' 0).2 (ini mi' av) [] σ with
        | some (rv, σ') => rnq n mi es fl ls (rv.toList ++ rest) σ'
        | none => none
      | none => match stq e ls st σ with
        | some (0, ls', st', σ') => rnq n mi es fl ls' st' σ'
        | some (j + 1, ls', st', σ') => rnq n mi (blk mi j).1 (blk mi j).2 ls' st' σ'
        | none => none
theorem stq_stp {sx : Int → Int} {L : Nat} {e0 : En} {ls st : List AV} {σ : Sg} {z : Nat × List AV × List AV × Sg} (h : stq e0 ls st σ = some z) : stp sx L e0 ls st σ = some z := by
  obtain ⟨pc, ln, ins, aux⟩ := e0
  unfold stq at h
  split at h
  · cases h
  · next hu =>
    cases ins
    case iaload =>
      rw [← h]
      dsimp only [stp]
      unfold p2IR
      split
      · next x j c r =>
        cases c with
        | zero => exact absurd rfl hu
        | succ c => rfl
      · rfl
    case arraylength =>
      rw [← h]
      dsimp only [stp]
      split
      · exact absurd rfl hu
      · rfl
      · rfl
    all_goals (rw [← h]; rfl)
theorem rnq_run {sx : Int → Int} {L : Nat} : ∀ (n mi : Nat) (es : List En) (fl : Nat) (ls st : List AV) (σ : Sg) (z : Option AV × Sg), rnq n mi es fl ls st σ = some z → run sx L n mi es fl ls st σ = some z := by
  intro n
  induction n with
  | zero => intro mi es fl ls st σ z h; simp [rnq] at h
  | succ n ih =>
    intro mi es fl ls st σ z h
    cases es with
    | nil => exact ih _ _ _ _ _ _ _ h
    | cons e0 es =>
      simp only [rnq] at h
      simp only [run]
      cases hr : rtV mi e0 st with
      | some rv =>
        simp only [hr] at h ⊢
        exact h
      | none =>
        simp only [hr] at h ⊢
        cases hc : clV e0 st σ with
        | some q =>
          obtain ⟨mi', av, rest⟩ := q
          simp only [hc] at h ⊢
          cases h2 : rnq n mi' (blk mi' 0).1 (blk mi' 0).2 (ini mi' av) [] σ with
          | some w =>
            obtain ⟨rv, σ'⟩ := w
            simp only [h2] at h
            rw [ih _ _ _ _ _ _ _ h2]
            exact ih _ _ _ _ _ _ _ h
          | none =>
            simp only [h2] at h
            cases h
        | none =>
          simp only [hc] at h ⊢
          cases h2 : stq e0 ls st σ with
          | some w =>
            obtain ⟨k, ls', st', σ'⟩ := w
            simp only [h2] at h
            rw [stq_stp h2]
            cases k with
            | zero => exact ih _ _ _ _ _ _ _ h
            | succ k => exact ih _ _ _ _ _ _ _ h
          | none =>
            simp only [h2] at h
            cases h
def σE : Sg := ([], fun _ _ => 0, fun _ _ => 0)
def σN (σ : Sg) (ci : Nat) : Sg := (σ.1 ++ [(ci, cnN ci)], rclr σ.2.1 σ.1.length, mclr σ.2.2 σ.1.length)
def ctA : Option (Option AV × Sg) := rnq 20000 93 (blk 93 0).1 (blk 93 0).2 (ini 93 [vR 2]) [] (σN σE 8)
def isN (z : Option (Option AV × Sg)) : Bool := match z with
  | some (none, _) => true
  | _ => false
theorem ctA_ok : isN ctA = true := by decide +kernel
def outS (z : Option (Option AV × Sg)) : Sg := match z with
  | some (_, σ) => σ
  | none => σE
def σ1 : Sg := outS ctA
def ctB : Option (Option AV × Sg) := rnq 20000 136 (blk 136 0).1 (blk 136 0).2 (ini 136 [vR 106]) [] (σN σ1 9)
def σ2 : Sg := outS ctB
theorem ctB_ok : isN ctB = true := by decide +kernel
/-- the kinds of the cells, behind both constructors -/
def K0 : List (Nat × Nat) := [(8, 10), (7, 5), (10, 6), (10, 6), (10, 6), (13, 8), (5, 11), (10, 8), (10, 8), (10, 8), (14, 4)] ++
  ((List.range 8).flatMap fun _ => [(1, 13), (10, 60), (10, 20), (10, 20)]) ++ ((List.range 4).flatMap fun _ => [(6, 4), (10, 60)]) ++ [(2, 3)] ++
  ([(3, 18), (12, 8), (10, 120), (10, 120), (10, 120), (10, 360)] ++ (List.range 8).flatMap fun _ => [(0, 18), (10, 120)]) ++ [(4, 15)] ++
  ([(3, 18), (12, 8), (10, 120), (10, 120), (10, 120), (10, 360)] ++ (List.range 8).flatMap fun _ => [(0, 18), (10, 120)]) ++ [(5, 11), (10, 8), (10, 8), (10, 8), (10, 8), (10, 8), (10, 5)] ++
  [(9, 65), (10, 6), (10, 6), (10, 6), (10, 6), (10, 8), (10, 480), (10, 8), (10, 8), (10, 8), (10, 8), (10, 8), (10, 8), (10, 8), (10, 160), (10, 160), (10, 8), (10, 8), (10, 8), (10, 8), (10, 8), (10, 1600), (10, 1600), (10, 8), (10, 8), (10, 8), (11, 8), (10, 8), (10, 8), (10, 8), (10, 8), (10, 600), (10, 1600), (10, 6), (10, 6), (11, 4), (10, 4), (10, 4), (10, 240), (10, 60)]
theorem K0_eq : σ2.1 = K0 := by decide +kernel
end
section
/-! what a run from a block comes to, and how it is reckoned forward -/
theorem run_up {sx : Int → Int} {L : Nat} : ∀ (n mi : Nat) (es : List En) (fl : Nat) (ls st : List AV) (σ : Sg) (z : Option AV × Sg), run sx L n mi es fl ls st σ = some z → ∀ k, run sx L (n + k) mi es fl ls st σ = some z := by
  intro n
  induction n with
  | zero => intro mi es fl ls st σ z h; simp [run] at h
  | succ n ih =>
    intro mi es fl ls st σ z h k
    rw [show n + 1 + k = (n + k) + 1 by omega]
    cases es with
    | nil => exact ih _ _ _ _ _ _ _ h k
    | cons e0 es =>
      simp only [run] at h ⊢
      split at h
      · exact h
      · split at h
        · split at h
          · next h2 =>
            rw [ih _ _ _ _ _ _ _ h2 k]
            exact ih _ _ _ _ _ _ _ h k
          · cases h
        · split at h
          · exact ih _ _ _ _ _ _ _ h k
          · exact ih _ _ _ _ _ _ _ h k
          · cases h
section WP
variable (sx : Int → Int) (L : Nat) (K : List (Nat × Nat)) (R : Rfs)
/-- from a place inside a block, over fixed kinds and references -/
def Re (mi : Nat) (es : List En) (fl : Nat) (ls st : List AV) (M : Mem) (Q : Option AV → Mem → Prop) : Prop := ∃ (n : Nat) (rv : Option AV) (M' : Mem), run sx L n mi es fl ls st (K, R, M) = some (rv, (K, R, M')) ∧ Q rv M'
def Rn (mi j : Nat) (ls st : List AV) (M : Mem) (Q : Option AV → Mem → Prop) : Prop := Re sx L K R mi (blk mi j).1 (blk mi j).2 ls st M Q
def Mq (mi : Nat) (av : List AV) (M : Mem) (Q : Option AV → Mem → Prop) : Prop := Rn sx L K R mi 0 (ini mi av) [] M Q
def kin (c ci : Nat) : Prop := ∃ n, K[c]? = some (ci, n)
def arr (c kd : Nat) (j : Int) : Prop := ∃ n, K[c]? = some (kd, n) ∧ 0 ≤ j ∧ j < n
def arq (c : Nat) (j : Int) : Prop := ∃ kd n, K[c]? = some (kd, n) ∧ 12 ≤ kd ∧ kd ≤ 14 ∧ 0 ≤ j ∧ j < n
def aln (c n : Nat) : Prop := ∃ kd, K[c]? = some (kd, n) ∧ 10 ≤ kd ∧ kd ≤ 14
def cpk (c d : Nat) (sp dp n : Int) : Prop := ∃ nc nd, K[c]? = some (10, nc) ∧ K[d]? = some (10, nd) ∧ 0 ≤ n ∧ 0 ≤ dp ∧ 0 ≤ sp ∧ sp + n ≤ nc ∧ dp + n ≤ nd
def fv (M : Mem) (ci k c : Nat) : AV := if ftk ci k = 2 then vR (R c k) else vI (M c k)
def pfc (ci k : Nat) (x : Int) : Prop := if ftk ci k = 0 then True else if ftk ci k = 1 then x = 0 ∨ x = 1 else False
def rkd (mi : Nat) : Nat := match mR mi with
  | none => 0
  | some .int => 1
  | some .boolean => 2
  | some .long => 3
  | some (.object _) => 4
  | _ => 5
def rvk (k : Nat) (f : List AV → Mem → Prop) (rv : Option AV) (M' : Mem) : Prop := match k with
  | 0 => rv = none ∧ f [] M'
  | 1 => ∃ x, rv = some (vI x) ∧ f [vI x] M'
  | 2 => ∃ x, rv = some (vI x) ∧ f [vI x] M'
  | 3 => ∃ x, rv = some (vL x) ∧ f [vL x] M'
  | 4 => ∃ x, rv = some (vR x) ∧ f [vR x] M'
  | _ => False
def cdP (c : Jvm.ClassFile.Cond) (x y : Int) : Prop := match c with
  | .eq => x = y
  | .ne => ¬ x = y
  | .lt => x < y
  | .ge => y ≤ x
  | .gt => y < x
  | .le => x ≤ y
def w1I (st : List AV) (f : Int → List AV → Prop) : Prop := match st with
  | .inl x :: r => f x r
  | _ => False
def w2I (st : List AV) (f : Int → Int → List AV → Prop) : Prop := match st with
  | .inl y :: .inl x :: r => f x y r
  | _ => False
def w2L (st : List AV) (f : Int → Int → List AV → Prop) : Prop := match st with
  | .inr (.inl y) :: .inr (.inl x) :: r => f x y r
  | _ => False
def w1L (st : List AV) (f : Int → List AV → Prop) : Prop := match st with
  | .inr (.inl x) :: r => f x r
  | _ => False
def w1R (st : List AV) (f : Nat → List AV → Prop) : Prop := match st with
  | .inr (.inr (.inl (c + 2))) :: r => f c r
  | _ => False
def wIR (st : List AV) (f : Int → Nat → List AV → Prop) : Prop := match st with
  | .inl j :: .inr (.inr (.inl (c + 2))) :: r => f j c r
  | _ => False
def wIX (st : List AV) (f : Int → List AV → Prop) (g : Int → Nat → List AV → Prop) : Prop := match st with
  | .inl j :: .inr (.inr (.inl 1)) :: r => f j r
  | .inl j :: .inr (.inr (.inl (c + 2))) :: r => g j c r
  | _ => False
def wIIR (st : List AV) (f : Int → Int → Nat → List AV → Prop) : Prop := match st with
  | .inl x :: .inl j :: .inr (.inr (.inl (c + 2))) :: r => f x j c r
  | _ => False
def wPF (st : List AV) (f : Int → Nat → List AV → Prop) : Prop := match st with
  | .inl x :: .inr (.inr (.inl (c + 2))) :: r => f x c r
  | _ => False
def wAL (st : List AV) (f : List AV → Prop) (g : Nat → List AV → Prop) : Prop := match st with
  | .inr (.inr (.inl 1)) :: r => f r
  | .inr (.inr (.inl (c + 2))) :: r => g c r
  | _ => False
def lI (ls : List AV) (i : Nat) (f : Int → Prop) : Prop := match ls[i]? with
  | some (.inl x) => f x
  | _ => False
def lL (ls : List AV) (i : Nat) (f : Int → Prop) : Prop := match ls[i]? with
  | some (.inr (.inl x)) => f x
  | _ => False
def lR (ls : List AV) (i : Nat) (f : Nat → Prop) : Prop := match ls[i]? with
  | some (.inr (.inr (.inl (r + 1)))) => f (r + 1)
  | _ => False
def s1 (ls : List AV) (i : Nat) (v : AV) (f : List AV → Prop) : Prop := (i < ls.length ∧ cat2 (ls.getD (i - 1) vU) = false) ∧ f (ls.set i v)
def s2 (ls : List AV) (i : Nat) (v : AV) (f : List AV → Prop) : Prop := (i + 1 < ls.length ∧ cat2 (ls.getD (i - 1) vU) = false ∧ cat2 (ls.getD (i + 1) vU) = false) ∧ f ((ls.set i v).set (i + 1) vU)
def wA1 (a : List Nat) (f : Nat → Prop) : Prop := match a with
  | x :: _ => f x
  | _ => False
def wA2 (a : List Nat) (f : Nat → Nat → Prop) : Prop := match a with
  | x :: y :: _ => f x y
  | _ => False
def wA3 (a : List Nat) (f : Nat → Nat → Prop) : Prop := match a with
  | x :: _ :: y :: _ => f x y
  | _ => False
def dpU (st : List AV) (f : AV → List AV → Prop) : Prop := match st with
  | v :: r => cat2 v = false ∧ f v r
  | _ => False
def dp2 (st : List AV) (f : AV → AV → List AV → Prop) : Prop := match st with
  | v :: w :: r => (cat2 v = false ∧ cat2 w = false) ∧ f v w r
  | _ => False
/-- the first n of the stack, in the order of the parameters -/
def pops : Nat → List AV → List AV → (List AV → List AV → Prop) → Prop
  | 0, st, acc, f => f acc st
  | n + 1, v :: st, acc, f => cat2 v = false ∧ pops n st (v :: acc) f
  | _ + 1, [], _, _ => False
def swt (f : Nat → Prop) (x : Int) : Int → List Nat → Prop
  | _, [] => True
  | k, j :: r => (x = k → f j) ∧ swt f x (k + 1) r
def lsw (f : Nat → Prop) (x : Int) : List (Int × Int) → List Nat → Prop
  | [], _ => True
  | _, [] => False
  | q :: ps, j :: r => (x = q.1 → f j) ∧ (¬ x = q.1 → lsw f x ps r)
def lno (x : Int) : List (Int × Int) → Prop
  | [] => True
  | q :: ps => ¬ x = q.1 ∧ lno x ps
def cpy5 (st : List AV) (f : Int → Int → Nat → Int → Nat → Prop) : Prop := match st with
  | [.inl n, .inl dp, .inr (.inr (.inl (d + 2))), .inl sp, .inr (.inr (.inl (c + 2)))] => f n dp d sp c
  | _ => False
def wpc (mi : Nat) : List En → Nat → List AV → List AV → Mem → (Option AV → Mem → Prop) → Prop
  | [], fl, ls, st, M, Q => Rn sx L K R mi fl ls st M Q
  | e :: es, fl, ls, st, M, Q =>
    match e.2.2.1 with
    | .iconst n => wpc mi es fl ls (vI n :: st) M Q
    | .bipush n => wpc mi es fl ls (vI n :: st) M Q
    | .sipush n => wpc mi es fl ls (vI n :: st) M Q
    | .ldc_w _ => wA2 e.2.2.2 fun a b => wpc mi es fl ls (vI ((a : Int) - b) :: st) M Q
    | .ldc2_w _ => wA1 e.2.2.2 fun a => wpc mi es fl ls (vL a :: st) M Q
    | .iload i => lI ls i fun x => wpc mi es fl ls (vI x :: st) M Q
    | .iload_n k => lI ls k.val fun x => wpc mi es fl ls (vI x :: st) M Q
    | .lload_n k => lL ls k.val fun x => wpc mi es fl ls (vL x :: st) M Q
    | .aload i => lR ls i fun x => wpc mi es fl ls (vR x :: st) M Q
    | .aload_n k => lR ls k.val fun x => wpc mi es fl ls (vR x :: st) M Q
    | .istore i => w1I st fun x r => s1 ls i (vI x) fun ls' => wpc mi es fl ls' r M Q
    | .istore_n k => w1I st fun x r => s1 ls k.val (vI x) fun ls' => wpc mi es fl ls' r M Q
    | .lstore_n k => w1L st fun x r => s2 ls k.val (vL x) fun ls' => wpc mi es fl ls' r M Q
    | .astore i => w1R st fun x r => s1 ls i (vR (x + 2)) fun ls' => wpc mi es fl ls' r M Q
    | .astore_n k => w1R st fun x r => s1 ls k.val (vR (x + 2)) fun ls' => wpc mi es fl ls' r M Q
    | .iinc i n => lI ls i fun x => inR (x + n) ∧ s1 ls i (vI (x + n)) fun ls' => wpc mi es fl ls' st M Q
    | .iadd => w2I st fun x y r => inR (x + y) ∧ wpc mi es fl ls (vI (x + y) :: r) M Q
    | .isub => w2I st fun x y r => inR (x - y) ∧ wpc mi es fl ls (vI (x - y) :: r) M Q
    | .imul => w2I st fun x y r => inR (x * y) ∧ wpc mi es fl ls (vI (x * y) :: r) M Q
    | .idiv => w2I st fun x y r => (0 ≤ x ∧ 0 < y) ∧ wpc mi es fl ls (vI (x / y) :: r) M Q
    | .irem => w2I st fun x y r => (0 ≤ x ∧ 0 < y) ∧ wpc mi es fl ls (vI (x % y) :: r) M Q
    | .ineg => w1I st fun x r => inR (-x) ∧ wpc mi es fl ls (vI (-x) :: r) M Q
    | .iand => w2I st fun x y r => wpc mi es fl ls (vI (iAnd x y) :: r) M Q
    | .ior => w2I st fun x y r => wpc mi es fl ls (vI (iOr x y) :: r) M Q
    | .ixor => w2I st fun x y r => wpc mi es fl ls (vI (iXor x y) :: r) M Q
    | .ishl => w2I st fun x y r => (0 ≤ x ∧ 0 ≤ y ∧ y ≤ 30 ∧ x * 2 ^ y.toNat ≤ 2147483647) ∧ wpc mi es fl ls (vI (x * 2 ^ y.toNat) :: r) M Q
    | .ishr => w2I st fun x y r => (0 ≤ x ∧ 0 ≤ y ∧ y ≤ 30) ∧ wpc mi es fl ls (vI (x / 2 ^ y.toNat) :: r) M Q
    | .iushr => w2I st fun x y r => (0 ≤ x ∧ 0 ≤ y ∧ y ≤ 30) ∧ wpc mi es fl ls (vI (x / 2 ^ y.toNat) :: r) M Q
    | .i2l => w1I st fun x r => wpc mi es fl ls (vL x :: r) M Q
    | .i2b => w1I st fun x r => wpc mi es fl ls (vI (i2B x) :: r) M Q
    | .i2s => w1I st fun x r => wpc mi es fl ls (vI (i2S x) :: r) M Q
    | .ladd => w2L st fun x y r => wpc mi es fl ls (vL (lAdd x y) :: r) M Q
    | .lmul => w2L st fun x y r => wpc mi es fl ls (vL (lMul x y) :: r) M Q
    | .lcmp => w2L st fun x y r => wpc mi es fl ls (vI (if x < y then -1 else if x = y then 0 else 1) :: r) M Q
    | .dup => dpU st fun v r => wpc mi es fl ls (v :: v :: r) M Q
    | .dup2 => dp2 st fun v w r => wpc mi es fl ls (v :: w :: v :: w :: r) M Q
    | .goto _ => wA1 e.2.2.2 fun j => Rn sx L K R mi j ls st M Q
    | .ifCond c _ => w1I st fun x r => wA1 e.2.2.2 fun j => (cdP c x 0 → Rn sx L K R mi j ls r M Q) ∧ (¬ cdP c x 0 → wpc mi es fl ls r M Q)
    | .if_icmp c _ => w2I st fun x y r => wA1 e.2.2.2 fun j => (cdP c x y → Rn sx L K R mi j ls r M Q) ∧ (¬ cdP c x y → wpc mi es fl ls r M Q)
    | .tableswitch _ lo hi _ => w1I st fun x r => match e.2.2.2 with
      | d :: js => (x < lo ∨ hi < x → Rn sx L K R mi d ls r M Q) ∧ swt (fun j => Rn sx L K R mi j ls r M Q) x lo js
      | [] => False
    | .lookupswitch _ ps => w1I st fun x r => match e.2.2.2 with
      | d :: js => (lno x ps.toList → Rn sx L K R mi d ls r M Q) ∧ lsw (fun j => Rn sx L K R mi j ls r M Q) x ps.toList js
      | [] => False
    | .getfield _ => w1R st fun c r => wA2 e.2.2.2 fun ci k => kin K c ci ∧ wpc mi es fl ls (fv R M ci k c :: r) M Q
    | .putfield _ => wPF st fun x c r => wA2 e.2.2.2 fun ci k => (kin K c ci ∧ pfc ci k x) ∧ wpc mi es fl ls r (mset M c k x) Q
    | .iaload => wIX st (fun j r => (0 ≤ j ∧ j < L) ∧ wpc mi es fl ls (vI (sx j) :: r) M Q) fun j c r => arr K c 10 j ∧ wpc mi es fl ls (vI (M c j) :: r) M Q
    | .baload => wIR st fun j c r => arr K c 11 j ∧ wpc mi es fl ls (vI (M c j) :: r) M Q
    | .aaload => wIR st fun j c r => arq K c j ∧ wpc mi es fl ls (vR (R c j) :: r) M Q
    | .iastore => wIIR st fun x j c r => arr K c 10 j ∧ wpc mi es fl ls r (mset M c j x) Q
    | .bastore => wIIR st fun x j c r => (arr K c 11 j ∧ (x = 0 ∨ x = 1)) ∧ wpc mi es fl ls r (mset M c j x) Q
    | .arraylength => wAL st (fun r => wpc mi es fl ls (vI L :: r) M Q) fun c r => ∃ n, aln K c n ∧ wpc mi es fl ls (vI n :: r) M Q
    | .invokestatic _ => match e.2.2.2 with
      | [t, _] => if t = 1000 then cpy5 st fun n dp d sp c => cpk K c d sp dp n ∧ wpc mi es fl ls [] (mcpy M c sp d dp n) Q
        else if t = 1002 then w2I st fun x y r => catS r ≤ 8 ∧ wpc mi es fl ls (vI (max x y) :: r) M Q
        else if t = 1003 then w2I st fun x y r => catS r ≤ 8 ∧ wpc mi es fl ls (vI (min x y) :: r) M Q
        else False
      | mi' :: _ :: np :: _ => pops np st [] fun av r => catS r ≤ 8 ∧ Mq sx L K R mi' av M (rvk (rkd mi') fun vs M' => wpc mi es fl ls (vs ++ r) M' Q)
      | _ => False
    | .invokevirtual _ => match e.2.2.2 with
      | mi' :: _ :: np :: _ => pops np st [] fun av r => w1R r fun c r => (kin K c (mK mi') ∧ catS r ≤ 8) ∧ Mq sx L K R mi' (vR (c + 2) :: av) M (rvk (rkd mi') fun vs M' => wpc mi es fl ls (vs ++ r) M' Q)
      | _ => False
    | .ireturn => match st with
      | [.inl x] => (rkd mi = 1 ∨ (rkd mi = 2 ∧ (x = 0 ∨ x = 1))) ∧ Q (some (vI x)) M
      | _ => False
    | .lreturn => match st with
      | [.inr (.inl x)] => rkd mi = 3 ∧ Q (some (vL x)) M
      | _ => False
    | .areturn => match st with
      | [.inr (.inr (.inl x))] => rkd mi = 4 ∧ Q (some (vR x)) M
      | _ => False
    | .return_ => match st with
      | [] => rkd mi = 0 ∧ Q none M
      | _ => False
    | _ => False
end WP
end
section
def ck2 (e : En) : Bool := match e.2.2.1 with
  | .invokestatic _ => match e.2.2.2 with
    | mi' :: _ :: np :: _ => decide (np ≤ mL mi')
    | _ => true
  | .invokevirtual _ => match e.2.2.2 with
    | mi' :: _ :: np :: _ => decide (np + 1 ≤ mL mi')
    | _ => true
  | .tableswitch _ lo hi _ => decide (hi - lo + 2 ≤ (e.2.2.2.length : Int))
  | .lookupswitch _ ps => decide (ps.toList.length + 1 ≤ e.2.2.2.length)
  | _ => true
section EW
theorem w1I_e {st : List AV} {f : Int → List AV → Prop} (h : w1I st f) : ∃ x r, st = vI x :: r ∧ f x r := by
  unfold w1I at h
  split at h
  · exact ⟨_, _, rfl, h⟩
  · exact h.elim
theorem w2I_e {st : List AV} {f : Int → Int → List AV → Prop} (h : w2I st f) : ∃ x y r, st = vI y :: vI x :: r ∧ f x y r := by
  unfold w2I at h
  split at h
  · exact ⟨_, _, _, rfl, h⟩
  · exact h.elim
theorem w2L_e {st : List AV} {f : Int → Int → List AV → Prop} (h : w2L st f) : ∃ x y r, st = vL y :: vL x :: r ∧ f x y r := by
  unfold w2L at h
  split at h
  · exact ⟨_, _, _, rfl, h⟩
  · exact h.elim
theorem w1L_e {st : List AV} {f : Int → List AV → Prop} (h : w1L st f) : ∃ x r, st = vL x :: r ∧ f x r := by
  unfold w1L at h
  split at h
  · exact ⟨_, _, rfl, h⟩
  · exact h.elim
theorem w1R_e {st : List AV} {f : Nat → List AV → Prop} (h : w1R st f) : ∃ c r, st = vR (c + 2) :: r ∧ f c r := by
  unfold w1R at h
  split at h
  · exact ⟨_, _, rfl, h⟩
  · exact h.elim
theorem wIR_e {st : List AV} {f : Int → Nat → List AV → Prop} (h : wIR st f) : ∃ j c r, st = vI j :: vR (c + 2) :: r ∧ f j c r := by
  unfold wIR at h
  split at h
  · exact ⟨_, _, _, rfl, h⟩
  · exact h.elim
theorem wIX_e {st : List AV} {f : Int → List AV → Prop} {g : Int → Nat → List AV → Prop} (h : wIX st f g) : (∃ j r, st = vI j :: vR 1 :: r ∧ f j r) ∨ ∃ j c r, st = vI j :: vR (c + 2) :: r ∧ g j c r := by
  unfold wIX at h
  split at h
  · exact Or.inl ⟨_, _, rfl, h⟩
  · exact Or.inr ⟨_, _, _, rfl, h⟩
  · exact h.elim
theorem wIIR_e {st : List AV} {f : Int → Int → Nat → List AV → Prop} (h : wIIR st f) : ∃ x j c r, st = vI x :: vI j :: vR (c + 2) :: r ∧ f x j c r := by
  unfold wIIR at h
  split at h
  · exact ⟨_, _, _, _, rfl, h⟩
  · exact h.elim
theorem wPF_e {st : List AV} {f : Int → Nat → List AV → Prop} (h : wPF st f) : ∃ x c r, st = vI x :: vR (c + 2) :: r ∧ f x c r := by
  unfold wPF at h
  split at h
  · exact ⟨_, _, _, rfl, h⟩
  · exact h.elim
theorem wAL_e {st : List AV} {f : List AV → Prop} {g : Nat → List AV → Prop} (h : wAL st f g) : (∃ r, st = vR 1 :: r ∧ f r) ∨ ∃ c r, st = vR (c + 2) :: r ∧ g c r := by
  unfold wAL at h
  split at h
  · exact Or.inl ⟨_, rfl, h⟩
  · exact Or.inr ⟨_, _, rfl, h⟩
  · exact h.elim
theorem lI_e {ls : List AV} {i : Nat} {f : Int → Prop} (h : lI ls i f) : ∃ x, ls[i]? = some (vI x) ∧ f x := by
  unfold lI at h
  split at h
  · exact ⟨_, by assumption, h⟩
  · exact h.elim
theorem lL_e {ls : List AV} {i : Nat} {f : Int → Prop} (h : lL ls i f) : ∃ x, ls[i]? = some (vL x) ∧ f x := by
  unfold lL at h
  split at h
  · exact ⟨_, by assumption, h⟩
  · exact h.elim
theorem lR_e {ls : List AV} {i : Nat} {f : Nat → Prop} (h : lR ls i f) : ∃ r, ls[i]? = some (vR (r + 1)) ∧ f (r + 1) := by
  unfold lR at h
  split at h
  · exact ⟨_, by assumption, h⟩
  · exact h.elim
theorem wA1_e {a : List Nat} {f : Nat → Prop} (h : wA1 a f) : ∃ x r, a = x :: r ∧ f x := by
  unfold wA1 at h
  split at h
  · exact ⟨_, _, rfl, h⟩
  · exact h.elim
theorem wA2_e {a : List Nat} {f : Nat → Nat → Prop} (h : wA2 a f) : ∃ x y r, a = x :: y :: r ∧ f x y := by
  unfold wA2 at h
  split at h
  · exact ⟨_, _, _, rfl, h⟩
  · exact h.elim
theorem dpU_e {st : List AV} {f : AV → List AV → Prop} (h : dpU st f) : ∃ v r, st = v :: r ∧ cat2 v = false ∧ f v r := by
  unfold dpU at h
  split at h
  · exact ⟨_, _, rfl, h⟩
  · exact h.elim
theorem dp2_e {st : List AV} {f : AV → AV → List AV → Prop} (h : dp2 st f) : ∃ v w r, st = v :: w :: r ∧ (cat2 v = false ∧ cat2 w = false) ∧ f v w r := by
  unfold dp2 at h
  split at h
  · exact ⟨_, _, _, rfl, h⟩
  · exact h.elim
theorem cpy5_e {st : List AV} {f : Int → Int → Nat → Int → Nat → Prop} (h : cpy5 st f) : ∃ n dp d sp c, st = [vI n, vI dp, vR (d + 2), vI sp, vR (c + 2)] ∧ f n dp d sp c := by
  unfold cpy5 at h
  split at h
  · exact ⟨_, _, _, _, _, rfl, h⟩
  · exact h.elim
theorem pops_e : ∀ (n : Nat) (st acc : List AV) (f : List AV → List AV → Prop), pops n st acc f → n ≤ st.length ∧ (∀ v ∈ st.take n, cat2 v = false) ∧ f ((st.take n).reverse ++ acc) (st.drop n) := by
  intro n
  induction n with
  | zero => intro st acc f h; exact ⟨Nat.zero_le _, by simp, by simpa [pops] using h⟩
  | succ n ih =>
    intro st acc f h
    cases st with
    | nil => exact h.elim
    | cons v st =>
      obtain ⟨h1, h2⟩ := h
      obtain ⟨h3, h4, h5⟩ := ih st (v :: acc) f h2
      refine ⟨by simp; omega, fun w hw => ?_, ?_⟩
      · rw [List.take_succ_cons] at hw
        rcases List.mem_cons.mp hw with rfl | hw
        · exact h1
        · exact h4 w hw
      · simpa [List.append_assoc] using h5
theorem swt_e {f : Nat → Prop} {x : Int} : ∀ (js : List Nat) (k : Int), swt f x k js → ∀ i, i < js.length → x = k + i → f (js.getD i 0) := by
  intro js
  induction js with
  | nil => intro k _ i hi; simp at hi
  | cons j r ih =>
    intro k h i hi hx
    cases i with
    | zero => simpa using h.1 (by omega)
    | succ i =>
      simp only [List.length_cons] at hi
      have := ih (k + 1) h.2 i (by omega) (by omega)
      simpa using this
theorem lsw_e {f : Nat → Prop} {x : Int} : ∀ (ps : List (Int × Int)) (js : List Nat), ps.length ≤ js.length → lsw f x ps js → ∀ k, lks ps x = k + 1 → f (js.getD k 0) := by
  intro ps
  induction ps with
  | nil => intro js _ _ k hk; simp [lks] at hk
  | cons q ps ih =>
    intro js hl h k hk
    cases js with
    | nil => exact h.elim
    | cons j r =>
      simp only [lks] at hk
      split at hk
      · next hx =>
        have : k = 0 := by omega
        subst this
        simpa using h.1 hx
      · next hx =>
        split at hk
        · cases hk
        · next k2 hk2 =>
          have : k = k2 + 1 := by omega
          subst this
          simpa using ih r (by simpa using hl) (h.2 hx) k2 hk2
theorem lno_e {x : Int} : ∀ (ps : List (Int × Int)), lks ps x = 0 → lno x ps := by
  intro ps
  induction ps with
  | nil => intro _; trivial
  | cons q ps ih =>
    intro h
    simp only [lks] at h
    split at h
    · cases h
    · next hx =>
      split at h
      · next h2 => exact ⟨hx, ih h2⟩
      · cases h
theorem cdP_iff (c : Jvm.ClassFile.Cond) (x y : Int) : cnd c x y = true ↔ cdP c x y := by cases c <;> simp [cnd, cdP]
end EW
section WS
variable {sx : Int → Int} {L : Nat} {K : List (Nat × Nat)} {R : Rfs} {mi : Nat} {Q : Option AV → Mem → Prop}
theorem Re_step {e0 : En} {es : List En} {fl : Nat} {ls st ls' st' : List AV} {M M' : Mem} (hr : rtV mi e0 st = none) (hc : clV e0 st (K, R, M) = none) (hs : stp sx L e0 ls st (K, R, M) = some (0, ls', st', (K, R, M'))) (k : Re sx L K R mi es fl ls' st' M' Q) : Re sx L K R mi (e0 :: es) fl ls st M Q := by
  obtain ⟨n, rv, M2, h, hq⟩ := k
  exact ⟨n + 1, rv, M2, by simp only [run, hr, hc, hs]; exact h, hq⟩
theorem Re_jump {e0 : En} {es : List En} {fl j : Nat} {ls st ls' st' : List AV} {M M' : Mem} (hr : rtV mi e0 st = none) (hc : clV e0 st (K, R, M) = none) (hs : stp sx L e0 ls st (K, R, M) = some (j + 1, ls', st', (K, R, M'))) (k : Rn sx L K R mi j ls' st' M' Q) : Re sx L K R mi (e0 :: es) fl ls st M Q := by
  obtain ⟨n, rv, M2, h, hq⟩ := k
  exact ⟨n + 1, rv, M2, by simp only [run, hr, hc, hs]; exact h, hq⟩
theorem Re_call {e0 : En} {es : List En} {fl mi' : Nat} {ls st av rest : List AV} {M : Mem} (hr : rtV mi e0 st = none) (hc : clV e0 st (K, R, M) = some (mi', av, rest)) (k : Mq sx L K R mi' av M (fun rv M' => Re sx L K R mi es fl ls (rv.toList ++ rest) M' Q)) : Re sx L K R mi (e0 :: es) fl ls st M Q := by
  obtain ⟨n, rv, M2, h, n2, rv2, M3, h2, hq⟩ := k
  refine ⟨n + n2 + 1, rv2, M3, ?_, hq⟩
  have e1 := run_up _ _ _ _ _ _ _ _ h n2
  have e2 := run_up _ _ _ _ _ _ _ _ h2 n
  rw [Nat.add_comm] at e2
  simp only [run, hr, hc, e1]
  exact e2
theorem Re_ret {e0 : En} {es : List En} {fl : Nat} {ls st : List AV} {M : Mem} {rv : Option AV} (hr : rtV mi e0 st = some rv) (k : Q rv M) : Re sx L K R mi (e0 :: es) fl ls st M Q := ⟨1, rv, M, by simp only [run, hr], k⟩
theorem Re.mono {es : List En} {fl : Nat} {ls st : List AV} {M : Mem} {Q' : Option AV → Mem → Prop} (h : Re sx L K R mi es fl ls st M Q) (hq : ∀ rv M', Q rv M' → Q' rv M') : Re sx L K R mi es fl ls st M Q' := by
  obtain ⟨n, rv, M2, h, h2⟩ := h
  exact ⟨n, rv, M2, h, hq _ _ h2⟩
theorem Mq.mono {av : List AV} {M : Mem} {Q' : Option AV → Mem → Prop} (h : Mq sx L K R mi av M Q) (hq : ∀ rv M', Q rv M' → Q' rv M') : Mq sx L K R mi av M Q' := Re.mono h hq
theorem rvk_e {k : Nat} {f : List AV → Mem → Prop} {rv : Option AV} {M' : Mem} (h : rvk k f rv M') : f rv.toList M' := by
  unfold rvk at h
  split at h
  · obtain ⟨rfl, h⟩ := h; exact h
  · obtain ⟨x, rfl, h⟩ := h; exact h
  · obtain ⟨x, rfl, h⟩ := h; exact h
  · obtain ⟨x, rfl, h⟩ := h; exact h
  · obtain ⟨x, rfl, h⟩ := h; exact h
  · exact h.elim
theorem s1_e {ls : List AV} {i : Nat} {v : AV} {f : List AV → Prop} {g : List AV → Rs} (h : s1 ls i v f) : sto1 ls i v g = g (ls.set i v) ∧ f (ls.set i v) := ⟨by unfold sto1; rw [if_pos h.1], h.2⟩
theorem s2_e {ls : List AV} {i : Nat} {v : AV} {f : List AV → Prop} {g : List AV → Rs} (h : s2 ls i v f) : sto2 ls i v g = g ((ls.set i v).set (i + 1) vU) ∧ f ((ls.set i v).set (i + 1) vU) := ⟨by unfold sto2; rw [if_pos h.1], h.2⟩
set_option maxHeartbeats 4000000 in
theorem wpc_Re : ∀ (es : List En) (fl : Nat) (ls st : List AV) (M : Mem), okEs mi es fl = true → es.all ck2 = true → wpc sx L K R mi es fl ls st M Q → Re sx L K R mi es fl ls st M Q := by
  intro es
  induction es with
  | nil =>
    intro fl ls st M _ _ h
    obtain ⟨n, rv, M2, h, hq⟩ := h
    exact ⟨n + 1, rv, M2, h, hq⟩
  | cons e0 es ih =>
    intro fl ls st M hok hck h
    obtain ⟨pc, ln, ins, aux⟩ := e0
    simp only [okEs, Bool.and_eq_true] at hok
    obtain ⟨⟨hok, -⟩, hes⟩ := hok
    simp only [List.all_cons, Bool.and_eq_true] at hck
    obtain ⟨hk0, hck⟩ := hck
    replace ih := fun ls st M h => ih fl ls st M hes hck h
    cases ins
    case iconst n => exact Re_step rfl rfl rfl (ih _ _ _ h)
    case bipush n => exact Re_step rfl rfl rfl (ih _ _ _ h)
    case sipush n => exact Re_step rfl rfl rfl (ih _ _ _ h)
    case ldc_w i =>
      simp only [wpc] at h
      obtain ⟨x, y, r, rfl, h0⟩ := wA2_e h
      exact Re_step rfl rfl rfl (ih _ _ _ h0)
    case ldc2_w i =>
      simp only [wpc] at h
      obtain ⟨x, r, rfl, h0⟩ := wA1_e h
      exact Re_step rfl rfl rfl (ih _ _ _ h0)
    case iload i =>
      simp only [wpc] at h
      obtain ⟨x, hx, h0⟩ := lI_e h
      exact Re_step rfl rfl (by simp only [stp, gI, hx]) (ih _ _ _ h0)
    case iload_n i =>
      simp only [wpc] at h
      obtain ⟨x, hx, h0⟩ := lI_e h
      exact Re_step rfl rfl (by simp only [stp, gI, hx]) (ih _ _ _ h0)
    case lload_n i =>
      simp only [wpc] at h
      obtain ⟨x, hx, h0⟩ := lL_e h
      exact Re_step rfl rfl (by simp only [stp, gL, hx]) (ih _ _ _ h0)
    case aload i =>
      simp only [wpc] at h
      obtain ⟨x, hx, h0⟩ := lR_e h
      exact Re_step rfl rfl (by simp only [stp, gR, hx]) (ih _ _ _ h0)
    case aload_n i =>
      simp only [wpc] at h
      obtain ⟨x, hx, h0⟩ := lR_e h
      exact Re_step rfl rfl (by simp only [stp, gR, hx]) (ih _ _ _ h0)
    case istore i =>
      simp only [wpc] at h
      obtain ⟨x, r, hst, h0⟩ := w1I_e h
      subst hst
      exact Re_step rfl rfl (by simp only [stp, p1I]; exact (s1_e h0).1) (ih _ _ _ h0.2)
    case istore_n i =>
      simp only [wpc] at h
      obtain ⟨x, r, hst, h0⟩ := w1I_e h
      subst hst
      exact Re_step rfl rfl (by simp only [stp, p1I]; exact (s1_e h0).1) (ih _ _ _ h0.2)
    case lstore_n i =>
      simp only [wpc] at h
      obtain ⟨x, r, hst, h0⟩ := w1L_e h
      subst hst
      exact Re_step rfl rfl (by simp only [stp]; exact (s2_e h0).1) (ih _ _ _ h0.2)
    case astore i =>
      simp only [wpc] at h
      obtain ⟨x, r, hst, h0⟩ := w1R_e h
      subst hst
      exact Re_step rfl rfl (by simp only [stp, p1R]; exact (s1_e h0).1) (ih _ _ _ h0.2)
    case astore_n i =>
      simp only [wpc] at h
      obtain ⟨x, r, hst, h0⟩ := w1R_e h
      subst hst
      exact Re_step rfl rfl (by simp only [stp, p1R]; exact (s1_e h0).1) (ih _ _ _ h0.2)
    case iinc i n =>
      simp only [wpc] at h
      obtain ⟨x, hx, hr, h0⟩ := lI_e h
      exact Re_step rfl rfl (by simp only [stp, gI, hx]; rw [if_pos hr]; exact (s1_e h0).1) (ih _ _ _ h0.2)
    case iadd =>
      simp only [wpc] at h
      obtain ⟨x, y, r, hst, hr, h0⟩ := w2I_e h
      subst hst
      exact Re_step rfl rfl (by simp only [stp, p2I]; rw [if_pos hr]) (ih _ _ _ h0)
    case isub =>
      simp only [wpc] at h
      obtain ⟨x, y, r, hst, hr, h0⟩ := w2I_e h
      subst hst
      exact Re_step rfl rfl (by simp only [stp, p2I]; rw [if_pos hr]) (ih _ _ _ h0)
    case imul =>
      simp only [wpc] at h
      obtain ⟨x, y, r, hst, hr, h0⟩ := w2I_e h
      subst hst
      exact Re_step rfl rfl (by simp only [stp, p2I]; rw [if_pos hr]) (ih _ _ _ h0)
    case idiv =>
      simp only [wpc] at h
      obtain ⟨x, y, r, hst, hr, h0⟩ := w2I_e h
      subst hst
      exact Re_step rfl rfl (by simp only [stp, p2I]; rw [if_pos hr]) (ih _ _ _ h0)
    case irem =>
      simp only [wpc] at h
      obtain ⟨x, y, r, hst, hr, h0⟩ := w2I_e h
      subst hst
      exact Re_step rfl rfl (by simp only [stp, p2I]; rw [if_pos hr]) (ih _ _ _ h0)
    case ineg =>
      simp only [wpc] at h
      obtain ⟨x, r, hst, hr, h0⟩ := w1I_e h
      subst hst
      exact Re_step rfl rfl (by simp only [stp, p1I]; rw [if_pos hr]) (ih _ _ _ h0)
    case iand =>
      simp only [wpc] at h
      obtain ⟨x, y, r, hst, h0⟩ := w2I_e h
      subst hst
      exact Re_step rfl rfl rfl (ih _ _ _ h0)
    case ior =>
      simp only [wpc] at h
      obtain ⟨x, y, r, hst, h0⟩ := w2I_e h
      subst hst
      exact Re_step rfl rfl rfl (ih _ _ _ h0)
    case ixor =>
      simp only [wpc] at h
      obtain ⟨x, y, r, hst, h0⟩ := w2I_e h
      subst hst
      exact Re_step rfl rfl rfl (ih _ _ _ h0)
    case ishl =>
      simp only [wpc] at h
      obtain ⟨x, y, r, hst, hr, h0⟩ := w2I_e h
      subst hst
      exact Re_step rfl rfl (by simp only [stp, p2I]; rw [if_pos hr]) (ih _ _ _ h0)
    case ishr =>
      simp only [wpc] at h
      obtain ⟨x, y, r, hst, hr, h0⟩ := w2I_e h
      subst hst
      exact Re_step rfl rfl (by simp only [stp, p2I]; rw [if_pos hr]) (ih _ _ _ h0)
    case iushr =>
      simp only [wpc] at h
      obtain ⟨x, y, r, hst, hr, h0⟩ := w2I_e h
      subst hst
      exact Re_step rfl rfl (by simp only [stp, p2I]; rw [if_pos hr]) (ih _ _ _ h0)
    case i2l =>
      simp only [wpc] at h
      obtain ⟨x, r, hst, h0⟩ := w1I_e h
      subst hst
      exact Re_step rfl rfl rfl (ih _ _ _ h0)
    case i2b =>
      simp only [wpc] at h
      obtain ⟨x, r, hst, h0⟩ := w1I_e h
      subst hst
      exact Re_step rfl rfl rfl (ih _ _ _ h0)
    case i2s =>
      simp only [wpc] at h
      obtain ⟨x, r, hst, h0⟩ := w1I_e h
      subst hst
      exact Re_step rfl rfl rfl (ih _ _ _ h0)
    case ladd =>
      simp only [wpc] at h
      obtain ⟨x, y, r, hst, h0⟩ := w2L_e h
      subst hst
      exact Re_step rfl rfl rfl (ih _ _ _ h0)
    case lmul =>
      simp only [wpc] at h
      obtain ⟨x, y, r, hst, h0⟩ := w2L_e h
      subst hst
      exact Re_step rfl rfl rfl (ih _ _ _ h0)
    case lcmp =>
      simp only [wpc] at h
      obtain ⟨x, y, r, hst, h0⟩ := w2L_e h
      subst hst
      exact Re_step rfl rfl rfl (ih _ _ _ h0)
    case dup =>
      simp only [wpc] at h
      obtain ⟨v, r, hst, hr, h0⟩ := dpU_e h
      subst hst
      exact Re_step rfl rfl (by simp only [stp]; rw [if_pos hr]) (ih _ _ _ h0)
    case dup2 =>
      simp only [wpc] at h
      obtain ⟨v, w, r, hst, hr, h0⟩ := dp2_e h
      subst hst
      exact Re_step rfl rfl (by simp only [stp]; rw [if_pos hr]) (ih _ _ _ h0)
    case goto off =>
      simp only [wpc] at h
      obtain ⟨x, r, rfl, h0⟩ := wA1_e h
      exact Re_jump rfl rfl rfl h0
    case ifCond c off =>
      simp only [wpc] at h
      obtain ⟨x, r, hst, h0⟩ := w1I_e h
      subst hst
      obtain ⟨j, r2, rfl, h1, h2⟩ := wA1_e h0
      by_cases hc : cdP c x 0
      · exact Re_jump rfl rfl (by simp only [stp, p1I, a1]; rw [if_pos ((cdP_iff c x 0).mpr hc)]) (h1 hc)
      · exact Re_step rfl rfl (by simp only [stp, p1I, a1]; rw [if_neg (fun q => hc ((cdP_iff c x 0).mp q))]) (ih _ _ _ (h2 hc))
    case if_icmp c off =>
      simp only [wpc] at h
      obtain ⟨x, y, r, hst, h0⟩ := w2I_e h
      subst hst
      obtain ⟨j, r2, rfl, h1, h2⟩ := wA1_e h0
      by_cases hc : cdP c x y
      · exact Re_jump rfl rfl (by simp only [stp, p2I, a1]; rw [if_pos ((cdP_iff c x y).mpr hc)]) (h1 hc)
      · exact Re_step rfl rfl (by simp only [stp, p2I, a1]; rw [if_neg (fun q => hc ((cdP_iff c x y).mp q))]) (ih _ _ _ (h2 hc))
    case tableswitch d lo hi offs =>
      simp only [wpc] at h
      obtain ⟨x, r, hst, h0⟩ := w1I_e h
      subst hst
      cases aux with
      | nil => exact h0.elim
      | cons d0 js =>
        obtain ⟨h1, h2⟩ := h0
        simp only [okI, Bool.and_eq_true, decide_eq_true_eq, List.all_eq_true, List.mem_range] at hok
        by_cases hx : lo ≤ x ∧ x ≤ hi
        · refine Re_jump (j := (d0 :: js).getD ((x - lo).toNat + 1) 0) rfl rfl (by simp only [stp, p1I]; rw [if_pos hx]) ?_
          have hjs : (x - lo).toNat < js.length := by
            simp only [ck2, decide_eq_true_eq, List.length_cons] at hk0
            omega
          have := swt_e js lo h2 (x - lo).toNat hjs (by omega)
          simpa using this
        · exact Re_jump (j := d0) rfl rfl (by simp only [stp, p1I]; rw [if_neg hx]; rfl) (h1 (by omega))
    case lookupswitch d ps =>
      simp only [wpc] at h
      obtain ⟨x, r, hst, h0⟩ := w1I_e h
      subst hst
      cases aux with
      | nil => exact h0.elim
      | cons d0 js =>
        obtain ⟨h1, h2⟩ := h0
        cases hk : lks ps.toList x with
        | zero => exact Re_jump (j := d0) rfl rfl (by simp only [stp, p1I, hk]; rfl) (h1 (lno_e _ hk))
        | succ k =>
          refine Re_jump (j := (d0 :: js).getD (k + 1) 0) rfl rfl (by simp only [stp, p1I, hk]; rfl) ?_
          have := lsw_e ps.toList js (by simp only [ck2, decide_eq_true_eq, List.length_cons] at hk0; omega) h2 k hk
          simpa using this
    case getfield i =>
      simp only [wpc] at h
      obtain ⟨c, r, hst, h0⟩ := w1R_e h
      subst hst
      obtain ⟨ci, k, r2, rfl, ⟨n, hK⟩, h1⟩ := wA2_e h0
      cases r2 with
      | nil => simp [okI] at hok
      | cons z r2 =>
        simp only [okI, Bool.and_eq_true, decide_eq_true_eq] at hok
        have hf := fldo_e hok.2
        exact Re_step rfl rfl (by simp only [stp, p1R, a2, hK]; rw [if_pos ⟨trivial, hf.2.1, hf.2.2⟩]; rfl) (ih _ _ _ h1)
    case putfield i =>
      simp only [wpc] at h
      obtain ⟨x, c, r, hst, h0⟩ := wPF_e h
      subst hst
      obtain ⟨ci, k, r2, rfl, ⟨⟨n, hK⟩, hp⟩, h1⟩ := wA2_e h0
      cases r2 with
      | nil => simp [okI] at hok
      | cons z r2 =>
        simp only [okI, Bool.and_eq_true, decide_eq_true_eq] at hok
        have hf := fldo_e hok.2.1
        refine Re_step rfl rfl ?_ (ih _ _ _ h1)
        unfold pfc at hp
        simp only [stp, a2, hK]
        rw [if_pos ⟨trivial, hf.2.1, hf.2.2⟩]
        by_cases h0 : ftk ci k = 0
        · rw [if_neg (by omega)]
          simp only [oI]
          rw [if_pos (Or.inl h0)]
        · rw [if_neg h0] at hp
          by_cases h3 : ftk ci k = 1
          · rw [if_pos h3] at hp
            rw [if_neg (by omega)]
            simp only [oI]
            rw [if_pos (Or.inr hp)]
          · rw [if_neg h3] at hp
            exact hp.elim
    case iaload =>
      simp only [wpc] at h
      rcases wIX_e h with ⟨j, r, hst, hr, h0⟩ | ⟨j, c, r, hst, ⟨n, hK, hr⟩, h0⟩
      · subst hst
        exact Re_step rfl rfl (by simp only [stp, p2IR]; rw [if_pos hr]) (ih _ _ _ h0)
      · subst hst
        exact Re_step rfl rfl (by simp only [stp, p2IR, hK]; rw [if_pos ⟨trivial, hr.1, hr.2⟩]) (ih _ _ _ h0)
    case baload =>
      simp only [wpc] at h
      obtain ⟨j, c, r, hst, ⟨n, hK, hr⟩, h0⟩ := wIR_e h
      subst hst
      exact Re_step rfl rfl (by simp only [stp, p2IR, hK]; rw [if_pos ⟨trivial, hr.1, hr.2⟩]) (ih _ _ _ h0)
    case aaload =>
      simp only [wpc] at h
      obtain ⟨j, c, r, hst, ⟨kd, n, hK, hr⟩, h0⟩ := wIR_e h
      subst hst
      exact Re_step rfl rfl (by simp only [stp, p2IR, hK]; rw [if_pos hr]) (ih _ _ _ h0)
    case iastore =>
      simp only [wpc] at h
      obtain ⟨x, j, c, r, hst, ⟨n, hK, hr⟩, h0⟩ := wIIR_e h
      subst hst
      exact Re_step rfl rfl (by simp only [stp, p3, oI, hK]; rw [if_pos ⟨trivial, hr.1, hr.2⟩]) (ih _ _ _ h0)
    case bastore =>
      simp only [wpc] at h
      obtain ⟨x, j, c, r, hst, ⟨⟨n, hK, hr⟩, hx⟩, h0⟩ := wIIR_e h
      subst hst
      exact Re_step rfl rfl (by simp only [stp, p3, oI, hK]; rw [if_pos ⟨trivial, hr.1, hr.2, hx⟩]) (ih _ _ _ h0)
    case arraylength =>
      simp only [wpc] at h
      rcases wAL_e h with ⟨r, hst, h0⟩ | ⟨c, r, hst, n, ⟨kd, hK, hr⟩, h0⟩
      · subst hst
        exact Re_step rfl rfl rfl (ih _ _ _ h0)
      · subst hst
        exact Re_step rfl rfl (by simp only [stp, hK]; rw [if_pos hr]) (ih _ _ _ h0)
    case invokestatic i =>
      simp only [wpc] at h
      split at h
      · next t z =>
        split at h
        · next ht =>
          subst ht
          obtain ⟨n, dp, d, sp, c, hst, ⟨nc, nd, k1, k2, k3⟩, h0⟩ := cpy5_e h
          subst hst
          exact Re_step rfl rfl (by simp only [stp, a1, k1, k2, if_true]; rw [if_pos ⟨trivial, trivial, k3⟩]) (ih _ _ _ h0)
        · split at h
          · next ht =>
            subst ht
            obtain ⟨x, y, r, hst, hs, h0⟩ := w2I_e h
            subst hst
            exact Re_step rfl rfl (by simp only [stp, a1, p2I]; rw [if_neg (by decide), if_pos trivial, if_pos hs]) (ih _ _ _ h0)
          · split at h
            · next ht =>
              subst ht
              obtain ⟨x, y, r, hst, hs, h0⟩ := w2I_e h
              subst hst
              exact Re_step rfl rfl (by simp only [stp, a1, p2I]; rw [if_neg (by decide), if_neg (by decide), if_pos trivial, if_pos hs]) (ih _ _ _ h0)
            · exact h.elim
      · next mi' hh np r2 =>
        obtain ⟨h1, h2, h3, h4⟩ := pops_e _ _ _ _ h
        rw [List.append_nil] at h4
        have hnp : np ≤ mL mi' := by simpa [ck2] using hk0
        refine Re_call (av := (st.take np).reverse) (rest := st.drop np) rfl ?_ (h4.mono fun rv M' q => ih _ _ _ (rvk_e q))
        simp only [clV]
        rw [if_pos ⟨hnp, h1, by simpa using h2, h3⟩]
      · exact h.elim
    case invokevirtual i =>
      simp only [wpc] at h
      split at h
      · next mi' hh np r2 =>
        obtain ⟨h1, h2, h3⟩ := pops_e _ _ _ _ h
        obtain ⟨c, r, hst, ⟨⟨n, hK⟩, h5⟩, h4⟩ := w1R_e h3
        rw [List.append_nil] at h4
        have hnp : np + 1 ≤ mL mi' := by simpa [ck2] using hk0
        refine Re_call (av := vR (c + 2) :: (st.take np).reverse) (rest := r) rfl ?_ (h4.mono fun rv M' q => ih _ _ _ (rvk_e q))
        simp only [clV, clR]
        rw [if_pos ⟨hnp, h1, by simpa using h2⟩]
        simp only [hst, hK]
        rw [if_pos ⟨trivial, h5⟩]
      · exact h.elim
    case ireturn =>
      simp only [wpc] at h
      split at h
      · next x =>
        obtain ⟨hr, h0⟩ := h
        refine Re_ret (rv := some (vI x)) ?_ h0
        unfold rtV
        dsimp only
        unfold rkd at hr
        split at hr <;> simp_all
      · exact h.elim
    case lreturn =>
      simp only [wpc] at h
      split at h
      · next x =>
        obtain ⟨hr, h0⟩ := h
        refine Re_ret (rv := some (vL x)) ?_ h0
        unfold rtV
        dsimp only
        unfold rkd at hr
        split at hr <;> simp_all
      · exact h.elim
    case areturn =>
      simp only [wpc] at h
      split at h
      · next x =>
        obtain ⟨hr, h0⟩ := h
        refine Re_ret (rv := some (vR x)) ?_ h0
        unfold rtV
        dsimp only
        unfold rkd at hr
        split at hr <;> simp_all
      · exact h.elim
    case return_ =>
      simp only [wpc] at h
      split at h
      · obtain ⟨hr, h0⟩ := h
        refine Re_ret (rv := none) ?_ h0
        unfold rtV
        dsimp only
        unfold rkd at hr
        split at hr <;> simp_all
      · exact h.elim
    all_goals (exfalso; simp only [wpc] at h)
end WS
end
section
/-! where the cells lie behind the constructors, and the references, by rule -/
def plA (j : Int) : Nat := 11 + 4 * j.toNat
def shA (j : Int) : Nat := 43 + 2 * j.toNat
def ckA (B : Nat) (j : Int) : Nat := B + 6 + 2 * j.toNat
/-- the plan of a cook -/
def plC (c : Nat) : Nat := if c < 75 then 2 * c - 105 else 2 * c - 151
def moR : List Nat := [0, 107, 108, 109, 110, 111, 112, 113, 114, 0, 0, 115, 116, 117, 118, 119, 120, 121, 122, 0, 0, 0, 0, 0, 0, 0, 0, 0, 123, 124, 0, 0, 0, 0, 0, 125, 126, 127, 128, 129, 130, 131, 132, 133, 134, 135, 136, 137, 138, 0, 0, 0, 139, 140, 0, 0, 0, 0, 0, 141, 142, 143, 144, 145, 0]
def RF (c : Nat) (k : Int) : Nat :=
  if c = 5 then plA k + 2
  else if c = 10 then shA k + 2
  else if c = 53 then ckA 52 k + 2
  else if c = 76 then ckA 75 k + 2
  else if 11 ≤ c ∧ c < 43 then (if k = 0 then c + 3 else if k = 7 then c + 4 else c + 5)
  else if 43 ≤ c ∧ c < 51 then c + 3
  else if (58 ≤ c ∧ c < 74) ∨ (81 ≤ c ∧ c < 97) then (if k = 1 then c + 3 else plC c + 2)
  else if c = 52 ∨ c = 75 then (if k = 0 then 3 else c + 2 + k.toNat)
  else if c = 6 ∨ c = 97 then c + 2 + k.toNat
  else if c = 0 then ([3, 7, 8, 53, 54, 76, 12] : List Nat).getD k.toNat 0
  else if c = 1 then k.toNat + 2
  else if c = 51 then ([3, 7, 8] : List Nat).getD k.toNat 0
  else if c = 74 then ([8, 99, 77, 0, 0, 103, 0, 0, 0, 0, 0, 104, 0, 0, 105] : List Nat).getD k.toNat 0
  else if c = 104 then moR.getD k.toNat 0
  else 0
def R0 : Rfs := σ2.2.1
/-- a place that holds a reference -/
def rok (c k : Nat) : Bool := match K0[c]? with
  | some q => if q.1 < 10 then decide (k < cnN q.1) && decide (ftk q.1 k = 2) else decide (12 ≤ q.1) && decide (k < q.2)
  | none => false
def Rchk : Bool := (List.range 144).all fun c => (List.range 65).all fun k => !(rok c k) || decide (σ2.2.1 c k = RF c k)
theorem R0_ok : Rchk = true := by decide +kernel
theorem rok_lt {c k : Nat} (h : rok c k = true) : c < 144 ∧ k < 65 := by
  unfold rok at h
  split at h
  · next q hq =>
    have hc : c < 144 := (List.getElem?_eq_some_iff.mp hq).1
    have hb : ∀ q ∈ K0, q.1 < 10 ∧ cnN q.1 ≤ 65 ∨ 10 ≤ q.1 ∧ (12 ≤ q.1 → q.2 ≤ 65) := by decide +kernel
    have := hb q (List.mem_of_getElem? hq)
    split at h
    · simp only [Bool.and_eq_true, decide_eq_true_eq] at h
      exact ⟨hc, by omega⟩
    · simp only [Bool.and_eq_true, decide_eq_true_eq] at h
      exact ⟨hc, by omega⟩
  · cases h
theorem R0_F {c k : Nat} (h : rok c k = true) : R0 c k = RF c k := by
  have h1 := List.all_eq_true.mp (List.all_eq_true.mp R0_ok c (List.mem_range.mpr (rok_lt h).1)) k (List.mem_range.mpr (rok_lt h).2)
  simp only [h, Bool.not_true, Bool.false_or, decide_eq_true_eq] at h1
  exact h1
def isPl (P : Nat) : Prop := 11 ≤ P ∧ P < 43 ∧ (P - 11) % 4 = 0
def isSh (c : Nat) : Prop := 43 ≤ c ∧ c < 51 ∧ (c - 43) % 2 = 0
def isRb (B : Nat) : Prop := B = 52 ∨ B = 75
def isSt (c : Nat) : Prop := c = 6 ∨ c = 97
def isCk (c : Nat) : Prop := (58 ≤ c ∧ c < 74 ∧ c % 2 = 0) ∨ (81 ≤ c ∧ c < 97 ∧ c % 2 = 1)
theorem pl_mem {c : Nat} (h : isPl c) : c ∈ ([11, 15, 19, 23, 27, 31, 35, 39] : List Nat) := by
  obtain ⟨h1, h2, h3⟩ := h
  have : c = 11 ∨ c = 15 ∨ c = 19 ∨ c = 23 ∨ c = 27 ∨ c = 31 ∨ c = 35 ∨ c = 39 := by omega
  simpa using this
theorem sh_mem {c : Nat} (h : isSh c) : c ∈ ([43, 45, 47, 49] : List Nat) := by
  obtain ⟨h1, h2, h3⟩ := h
  have : c = 43 ∨ c = 45 ∨ c = 47 ∨ c = 49 := by omega
  simpa using this
theorem rb_mem {c : Nat} (h : isRb c) : c ∈ ([52, 75] : List Nat) := by simpa [isRb] using h
theorem st_mem {c : Nat} (h : isSt c) : c ∈ ([6, 97] : List Nat) := by simpa [isSt] using h
theorem ck_mem {c : Nat} (h : isCk c) : c ∈ ([58, 60, 62, 64, 66, 68, 70, 72, 81, 83, 85, 87, 89, 91, 93, 95] : List Nat) := by
  have : c = 58 ∨ c = 60 ∨ c = 62 ∨ c = 64 ∨ c = 66 ∨ c = 68 ∨ c = 70 ∨ c = 72 ∨ c = 81 ∨ c = 83 ∨ c = 85 ∨ c = 87 ∨ c = 89 ∨ c = 91 ∨ c = 93 ∨ c = 95 := by
    unfold isCk at h
    omega
  simpa using this
theorem kin_T {c ci n : Nat} (h : K0[c]? = some (ci, n)) : kin K0 c ci = True := eq_true ⟨n, h⟩
theorem arr_T {c kd n : Nat} (h : K0[c]? = some (kd, n)) (j : Int) : arr K0 c kd j = (0 ≤ j ∧ j < n) := by
  refine propext ⟨fun ⟨n', h1, h2⟩ => ?_, fun h2 => ⟨n, h, h2⟩⟩
  rw [h] at h1
  cases h1
  exact h2
theorem arq_T {c kd n : Nat} (h : K0[c]? = some (kd, n)) (h1 : 12 ≤ kd ∧ kd ≤ 14) (j : Int) : arq K0 c j = (0 ≤ j ∧ j < n) := by
  refine propext ⟨fun ⟨kd', n', h1, h2⟩ => ?_, fun h2 => ⟨kd, n, h, h1.1, h1.2, h2⟩⟩
  rw [h] at h1
  cases h1
  exact h2.2.2
theorem aln_T {c kd n : Nat} (h : K0[c]? = some (kd, n)) (h1 : 10 ≤ kd ∧ kd ≤ 14) (n' : Nat) : aln K0 c n' = (n' = n) := by
  refine propext ⟨fun ⟨kd', h2, h3⟩ => ?_, fun h2 => ⟨kd, by rw [h2]; exact h, h1⟩⟩
  rw [h] at h2
  cases h2
  rfl
theorem mem_all {l : List Nat} {P : Nat → Bool} (h : l.all P = true) {c : Nat} (hc : c ∈ l) : P c = true := List.all_eq_true.mp h c hc
theorem kpl {c : Nat} (h : isPl c) : K0[c]? = some (1, 13) := of_decide_eq_true (mem_all (l := [11, 15, 19, 23, 27, 31, 35, 39]) (P := fun c => decide (K0[c]? = some (1, 13))) (by decide +kernel) (pl_mem h))
theorem kpl1 {c : Nat} (h : isPl c) : K0[c + 1]? = some (10, 60) := of_decide_eq_true (mem_all (l := [11, 15, 19, 23, 27, 31, 35, 39]) (P := fun c => decide (K0[c + 1]? = some (10, 60))) (by decide +kernel) (pl_mem h))
theorem kpl2 {c : Nat} (h : isPl c) : K0[c + 2]? = some (10, 20) := of_decide_eq_true (mem_all (l := [11, 15, 19, 23, 27, 31, 35, 39]) (P := fun c => decide (K0[c + 2]? = some (10, 20))) (by decide +kernel) (pl_mem h))
theorem kpl3 {c : Nat} (h : isPl c) : K0[c + 3]? = some (10, 20) := of_decide_eq_true (mem_all (l := [11, 15, 19, 23, 27, 31, 35, 39]) (P := fun c => decide (K0[c + 3]? = some (10, 20))) (by decide +kernel) (pl_mem h))
theorem ksh {c : Nat} (h : isSh c) : K0[c]? = some (6, 4) := of_decide_eq_true (mem_all (l := [43, 45, 47, 49]) (P := fun c => decide (K0[c]? = some (6, 4))) (by decide +kernel) (sh_mem h))
theorem ksh1 {c : Nat} (h : isSh c) : K0[c + 1]? = some (10, 60) := of_decide_eq_true (mem_all (l := [43, 45, 47, 49]) (P := fun c => decide (K0[c + 1]? = some (10, 60))) (by decide +kernel) (sh_mem h))
theorem kck {c : Nat} (h : isCk c) : K0[c]? = some (0, 18) := of_decide_eq_true (mem_all (l := [58, 60, 62, 64, 66, 68, 70, 72, 81, 83, 85, 87, 89, 91, 93, 95]) (P := fun c => decide (K0[c]? = some (0, 18))) (by decide +kernel) (ck_mem h))
theorem kck1 {c : Nat} (h : isCk c) : K0[c + 1]? = some (10, 120) := of_decide_eq_true (mem_all (l := [58, 60, 62, 64, 66, 68, 70, 72, 81, 83, 85, 87, 89, 91, 93, 95]) (P := fun c => decide (K0[c + 1]? = some (10, 120))) (by decide +kernel) (ck_mem h))
theorem krb {c : Nat} (h : isRb c) : K0[c]? = some (3, 18) := of_decide_eq_true (mem_all (l := [52, 75]) (P := fun c => decide (K0[c]? = some (3, 18))) (by decide +kernel) (rb_mem h))
theorem krb1 {c : Nat} (h : isRb c) : K0[c + 1]? = some (12, 8) := of_decide_eq_true (mem_all (l := [52, 75]) (P := fun c => decide (K0[c + 1]? = some (12, 8))) (by decide +kernel) (rb_mem h))
theorem krb2 {c : Nat} (h : isRb c) : K0[c + 2]? = some (10, 120) := of_decide_eq_true (mem_all (l := [52, 75]) (P := fun c => decide (K0[c + 2]? = some (10, 120))) (by decide +kernel) (rb_mem h))
theorem krb3 {c : Nat} (h : isRb c) : K0[c + 3]? = some (10, 120) := of_decide_eq_true (mem_all (l := [52, 75]) (P := fun c => decide (K0[c + 3]? = some (10, 120))) (by decide +kernel) (rb_mem h))
theorem krb4 {c : Nat} (h : isRb c) : K0[c + 4]? = some (10, 120) := of_decide_eq_true (mem_all (l := [52, 75]) (P := fun c => decide (K0[c + 4]? = some (10, 120))) (by decide +kernel) (rb_mem h))
theorem krb5 {c : Nat} (h : isRb c) : K0[c + 5]? = some (10, 360) := of_decide_eq_true (mem_all (l := [52, 75]) (P := fun c => decide (K0[c + 5]? = some (10, 360))) (by decide +kernel) (rb_mem h))
theorem kst {c : Nat} (h : isSt c) : K0[c]? = some (5, 11) := of_decide_eq_true (mem_all (l := [6, 97]) (P := fun c => decide (K0[c]? = some (5, 11))) (by decide +kernel) (st_mem h))
theorem kst1 {c : Nat} (h : isSt c) : K0[c + 1]? = some (10, 8) := of_decide_eq_true (mem_all (l := [6, 97]) (P := fun c => decide (K0[c + 1]? = some (10, 8))) (by decide +kernel) (st_mem h))
theorem kst2 {c : Nat} (h : isSt c) : K0[c + 2]? = some (10, 8) := of_decide_eq_true (mem_all (l := [6, 97]) (P := fun c => decide (K0[c + 2]? = some (10, 8))) (by decide +kernel) (st_mem h))
theorem kst3 {c : Nat} (h : isSt c) : K0[c + 3]? = some (10, 8) := of_decide_eq_true (mem_all (l := [6, 97]) (P := fun c => decide (K0[c + 3]? = some (10, 8))) (by decide +kernel) (st_mem h))
theorem rpl0 {c : Nat} (h : isPl c) : R0 c 0 = c + 3 := by
  have h2 := of_decide_eq_true (mem_all (l := [11, 15, 19, 23, 27, 31, 35, 39]) (P := fun c => decide (rok c 0 = true ∧ RF c 0 = c + 3)) (by decide +kernel) (pl_mem h))
  exact (R0_F (k := 0) h2.1).trans h2.2
theorem rpl7 {c : Nat} (h : isPl c) : R0 c 7 = c + 4 := by
  have h2 := of_decide_eq_true (mem_all (l := [11, 15, 19, 23, 27, 31, 35, 39]) (P := fun c => decide (rok c 7 = true ∧ RF c 7 = c + 4)) (by decide +kernel) (pl_mem h))
  exact (R0_F (k := 7) h2.1).trans h2.2
theorem rpl8 {c : Nat} (h : isPl c) : R0 c 8 = c + 5 := by
  have h2 := of_decide_eq_true (mem_all (l := [11, 15, 19, 23, 27, 31, 35, 39]) (P := fun c => decide (rok c 8 = true ∧ RF c 8 = c + 5)) (by decide +kernel) (pl_mem h))
  exact (R0_F (k := 8) h2.1).trans h2.2
theorem rsh3 {c : Nat} (h : isSh c) : R0 c 3 = c + 3 := by
  have h2 := of_decide_eq_true (mem_all (l := [43, 45, 47, 49]) (P := fun c => decide (rok c 3 = true ∧ RF c 3 = c + 3)) (by decide +kernel) (sh_mem h))
  exact (R0_F (k := 3) h2.1).trans h2.2
theorem rck0 {c : Nat} (h : isCk c) : R0 c 0 = plC c + 2 := by
  have h2 := of_decide_eq_true (mem_all (l := [58, 60, 62, 64, 66, 68, 70, 72, 81, 83, 85, 87, 89, 91, 93, 95]) (P := fun c => decide (rok c 0 = true ∧ RF c 0 = plC c + 2)) (by decide +kernel) (ck_mem h))
  exact (R0_F (k := 0) h2.1).trans h2.2
theorem rck1 {c : Nat} (h : isCk c) : R0 c 1 = c + 3 := by
  have h2 := of_decide_eq_true (mem_all (l := [58, 60, 62, 64, 66, 68, 70, 72, 81, 83, 85, 87, 89, 91, 93, 95]) (P := fun c => decide (rok c 1 = true ∧ RF c 1 = c + 3)) (by decide +kernel) (ck_mem h))
  exact (R0_F (k := 1) h2.1).trans h2.2
theorem rrb0 {c : Nat} (h : isRb c) : R0 c 0 = 3 := by
  have h2 := of_decide_eq_true (mem_all (l := [52, 75]) (P := fun c => decide (rok c 0 = true ∧ RF c 0 = 3)) (by decide +kernel) (rb_mem h))
  exact (R0_F (k := 0) h2.1).trans h2.2
theorem rrb1 {c : Nat} (h : isRb c) : R0 c 1 = c + 3 := by
  have h2 := of_decide_eq_true (mem_all (l := [52, 75]) (P := fun c => decide (rok c 1 = true ∧ RF c 1 = c + 3)) (by decide +kernel) (rb_mem h))
  exact (R0_F (k := 1) h2.1).trans h2.2
theorem rrb2 {c : Nat} (h : isRb c) : R0 c 2 = c + 4 := by
  have h2 := of_decide_eq_true (mem_all (l := [52, 75]) (P := fun c => decide (rok c 2 = true ∧ RF c 2 = c + 4)) (by decide +kernel) (rb_mem h))
  exact (R0_F (k := 2) h2.1).trans h2.2
theorem rrb3 {c : Nat} (h : isRb c) : R0 c 3 = c + 5 := by
  have h2 := of_decide_eq_true (mem_all (l := [52, 75]) (P := fun c => decide (rok c 3 = true ∧ RF c 3 = c + 5)) (by decide +kernel) (rb_mem h))
  exact (R0_F (k := 3) h2.1).trans h2.2
theorem rrb4 {c : Nat} (h : isRb c) : R0 c 4 = c + 6 := by
  have h2 := of_decide_eq_true (mem_all (l := [52, 75]) (P := fun c => decide (rok c 4 = true ∧ RF c 4 = c + 6)) (by decide +kernel) (rb_mem h))
  exact (R0_F (k := 4) h2.1).trans h2.2
theorem rrb5 {c : Nat} (h : isRb c) : R0 c 5 = c + 7 := by
  have h2 := of_decide_eq_true (mem_all (l := [52, 75]) (P := fun c => decide (rok c 5 = true ∧ RF c 5 = c + 7)) (by decide +kernel) (rb_mem h))
  exact (R0_F (k := 5) h2.1).trans h2.2
theorem rst1 {c : Nat} (h : isSt c) : R0 c 1 = c + 3 := by
  have h2 := of_decide_eq_true (mem_all (l := [6, 97]) (P := fun c => decide (rok c 1 = true ∧ RF c 1 = c + 3)) (by decide +kernel) (st_mem h))
  exact (R0_F (k := 1) h2.1).trans h2.2
theorem rst2 {c : Nat} (h : isSt c) : R0 c 2 = c + 4 := by
  have h2 := of_decide_eq_true (mem_all (l := [6, 97]) (P := fun c => decide (rok c 2 = true ∧ RF c 2 = c + 4)) (by decide +kernel) (st_mem h))
  exact (R0_F (k := 2) h2.1).trans h2.2
theorem rst3 {c : Nat} (h : isSt c) : R0 c 3 = c + 5 := by
  have h2 := of_decide_eq_true (mem_all (l := [6, 97]) (P := fun c => decide (rok c 3 = true ∧ RF c 3 = c + 5)) (by decide +kernel) (st_mem h))
  exact (R0_F (k := 3) h2.1).trans h2.2
theorem pl_ck {c : Nat} (h : isCk c) : isPl (plC c) := by
  have h2 : (decide (11 ≤ plC c ∧ plC c < 43 ∧ (plC c - 11) % 4 = 0)) = true := mem_all (l := [58, 60, 62, 64, 66, 68, 70, 72, 81, 83, 85, 87, 89, 91, 93, 95]) (P := fun c => decide (11 ≤ plC c ∧ plC c < 43 ∧ (plC c - 11) % 4 = 0)) (by decide +kernel) (ck_mem h)
  have h3 : (11 ≤ plC c ∧ plC c < 43 ∧ (plC c - 11) % 4 = 0) := of_decide_eq_true h2
  exact h3
theorem arf {c : Nat} {B : Nat → Nat} {n : Nat} (h : (List.range n).all (fun k => decide (rok c k = true ∧ RF c k = B k)) = true) {j : Int} (h0 : 0 ≤ j) (h1 : j < n) : R0 c j = B j.toNat := by
  have h2 := of_decide_eq_true (List.all_eq_true.mp h j.toNat (List.mem_range.mpr (by omega)))
  have h3 := (R0_F h2.1).trans h2.2
  rw [Int.toNat_of_nonneg h0] at h3
  exact h3
theorem rcks {c : Nat} (h : isRb c) {j : Int} (h0 : 0 ≤ j) (h1 : j < 8) : R0 (c + 1) j = ckA c j + 2 := by
  rcases h with rfl | rfl
  · exact arf (B := fun k => ckA 52 k + 2) (n := 8) (by decide +kernel) h0 h1
  · exact arf (B := fun k => ckA 75 k + 2) (n := 8) (by decide +kernel) h0 h1
theorem rpls {j : Int} (h0 : 0 ≤ j) (h1 : j < 8) : R0 5 j = plA j + 2 := arf (B := fun k => plA k + 2) (n := 8) (by decide +kernel) h0 h1
theorem rshs {j : Int} (h0 : 0 ≤ j) (h1 : j < 4) : R0 10 j = shA j + 2 := arf (B := fun k => shA k + 2) (n := 4) (by decide +kernel) h0 h1
theorem isPl_A {j : Int} (h0 : 0 ≤ j) (h1 : j < 8) : isPl (plA j) := by unfold isPl plA; omega
theorem isSh_A {j : Int} (h0 : 0 ≤ j) (h1 : j < 4) : isSh (shA j) := by unfold isSh shA; omega
theorem isCk_A {B : Nat} (hB : isRb B) {j : Int} (h0 : 0 ≤ j) (h1 : j < 8) : isCk (ckA B j) := by unfold isRb at hB; unfold isCk ckA; omega
theorem plC_A {B : Nat} (hB : isRb B) {j : Int} (h0 : 0 ≤ j) (h1 : j < 8) : plC (ckA B j) = plA j := by rcases hB with rfl | rfl <;> (unfold plC ckA plA; split <;> omega)
end
