theorem w_iconst {sx : Int → Int} {L mi pc ln fl : Nat} {aux : List Nat} {es : List En} {ls : List AV} {st : List AV} {M : Mem} {Q : Option AV → Mem → Prop} {n : Int} : wpc sx L K0 R0 mi ((pc, ln, .iconst n, aux) :: es) fl (ls) (st) M Q = (wpc sx L K0 R0 mi es fl (ls) (vI n :: st) M Q) := rfl
theorem w_bipush {sx : Int → Int} {L mi pc ln fl : Nat} {aux : List Nat} {es : List En} {ls : List AV} {st : List AV} {M : Mem} {Q : Option AV → Mem → Prop} {n : Int} : wpc sx L K0 R0 mi ((pc, ln, .bipush n, aux) :: es) fl (ls) (st) M Q = (wpc sx L K0 R0 mi es fl (ls) (vI n :: st) M Q) := rfl
theorem w_sipush {sx : Int → Int} {L mi pc ln fl : Nat} {aux : List Nat} {es : List En} {ls : List AV} {st : List AV} {M : Mem} {Q : Option AV → Mem → Prop} {n : Int} : wpc sx L K0 R0 mi ((pc, ln, .sipush n, aux) :: es) fl (ls) (st) M Q = (wpc sx L K0 R0 mi es fl (ls) (vI n :: st) M Q) := rfl
theorem w_ldcmin {sx : Int → Int} {L mi pc ln fl : Nat} {es : List En} {ls : List AV} {st : List AV} {M : Mem} {Q : Option AV → Mem → Prop} {i h : Nat} : wpc sx L K0 R0 mi ((pc, ln, .ldc_w i, [0, 2147483648, h]) :: es) fl (ls) (st) M Q = (wpc sx L K0 R0 mi es fl (ls) (vI (-2147483648) :: st) M Q) := rfl
theorem w_ldc_1431655765 {sx : Int → Int} {L mi pc ln fl : Nat} {es : List En} {ls : List AV} {st : List AV} {M : Mem} {Q : Option AV → Mem → Prop} {i h : Nat} : wpc sx L K0 R0 mi ((pc, ln, .ldc_w i, [1431655765, 0, h]) :: es) fl (ls) (st) M Q = (wpc sx L K0 R0 mi es fl (ls) (vI 1431655765 :: st) M Q) := rfl
theorem w_ldc_858993459 {sx : Int → Int} {L mi pc ln fl : Nat} {es : List En} {ls : List AV} {st : List AV} {M : Mem} {Q : Option AV → Mem → Prop} {i h : Nat} : wpc sx L K0 R0 mi ((pc, ln, .ldc_w i, [858993459, 0, h]) :: es) fl (ls) (st) M Q = (wpc sx L K0 R0 mi es fl (ls) (vI 858993459 :: st) M Q) := rfl
theorem w_ldc_252645135 {sx : Int → Int} {L mi pc ln fl : Nat} {es : List En} {ls : List AV} {st : List AV} {M : Mem} {Q : Option AV → Mem → Prop} {i h : Nat} : wpc sx L K0 R0 mi ((pc, ln, .ldc_w i, [252645135, 0, h]) :: es) fl (ls) (st) M Q = (wpc sx L K0 R0 mi es fl (ls) (vI 252645135 :: st) M Q) := rfl
theorem w_ldc2_17 {sx : Int → Int} {L mi pc ln fl : Nat} {es : List En} {ls : List AV} {st : List AV} {M : Mem} {Q : Option AV → Mem → Prop} {i h : Nat} : wpc sx L K0 R0 mi ((pc, ln, .ldc2_w i, [17, h]) :: es) fl (ls) (st) M Q = (wpc sx L K0 R0 mi es fl (ls) (vL 17 :: st) M Q) := rfl
theorem w_ldc2_31 {sx : Int → Int} {L mi pc ln fl : Nat} {es : List En} {ls : List AV} {st : List AV} {M : Mem} {Q : Option AV → Mem → Prop} {i h : Nat} : wpc sx L K0 R0 mi ((pc, ln, .ldc2_w i, [31, h]) :: es) fl (ls) (st) M Q = (wpc sx L K0 R0 mi es fl (ls) (vL 31 :: st) M Q) := rfl
theorem w_il_0 {sx : Int → Int} {L mi pc ln fl : Nat} {aux : List Nat} {es : List En} {st : List AV} {M : Mem} {Q : Option AV → Mem → Prop} {x : Int} {r : List AV} : wpc sx L K0 R0 mi ((pc, ln, .iload_n 0, aux) :: es) fl (vI x :: r) (st) M Q = (wpc sx L K0 R0 mi es fl (vI x :: r) (vI x :: st) M Q) := rfl
theorem w_al_0 {sx : Int → Int} {L mi pc ln fl : Nat} {aux : List Nat} {es : List En} {st : List AV} {M : Mem} {Q : Option AV → Mem → Prop} {x : Nat} {r : List AV} : wpc sx L K0 R0 mi ((pc, ln, .aload_n 0, aux) :: es) fl (vR (x + 2) :: r) (st) M Q = (wpc sx L K0 R0 mi es fl (vR (x + 2) :: r) (vR (x + 2) :: st) M Q) := rfl
theorem w_ll_0 {sx : Int → Int} {L mi pc ln fl : Nat} {aux : List Nat} {es : List En} {st : List AV} {M : Mem} {Q : Option AV → Mem → Prop} {x : Int} {r : List AV} : wpc sx L K0 R0 mi ((pc, ln, .lload_n 0, aux) :: es) fl (vL x :: r) (st) M Q = (wpc sx L K0 R0 mi es fl (vL x :: r) (vL x :: st) M Q) := rfl
theorem w_is_0 {sx : Int → Int} {L mi pc ln fl : Nat} {aux : List Nat} {es : List En} {st : List AV} {M : Mem} {Q : Option AV → Mem → Prop} {x : Int} {r : List AV} {v : AV} (hp : cat2 v = false) : wpc sx L K0 R0 mi ((pc, ln, .istore_n 0, aux) :: es) fl (v :: r) (vI x :: st) M Q = (wpc sx L K0 R0 mi es fl (vI x :: r) (st) M Q) := propext ⟨fun h => h.2, fun h => ⟨⟨by show (0 : Nat) < _; simp only [List.length_cons]; omega, hp⟩, h⟩⟩
theorem w_as_0 {sx : Int → Int} {L mi pc ln fl : Nat} {aux : List Nat} {es : List En} {st : List AV} {M : Mem} {Q : Option AV → Mem → Prop} {x : Nat} {r : List AV} {v : AV} (hp : cat2 v = false) : wpc sx L K0 R0 mi ((pc, ln, .astore_n 0, aux) :: es) fl (v :: r) (vR (x + 2) :: st) M Q = (wpc sx L K0 R0 mi es fl (vR (x + 2) :: r) (st) M Q) := propext ⟨fun h => h.2, fun h => ⟨⟨by show (0 : Nat) < _; simp only [List.length_cons]; omega, hp⟩, h⟩⟩
theorem w_ls_0 {sx : Int → Int} {L mi pc ln fl : Nat} {aux : List Nat} {es : List En} {st : List AV} {M : Mem} {Q : Option AV → Mem → Prop} {w : AV} {x : Int} {r : List AV} {v : AV} (hp : cat2 v = false) (hw : cat2 w = false) : wpc sx L K0 R0 mi ((pc, ln, .lstore_n 0, aux) :: es) fl (v :: w :: r) (vL x :: st) M Q = (wpc sx L K0 R0 mi es fl (vL x :: vU :: r) (st) M Q) := propext ⟨fun h => h.2, fun h => ⟨⟨by show (1 : Nat) < _; simp only [List.length_cons]; omega, hp, hw⟩, h⟩⟩
theorem w_inc_0 {sx : Int → Int} {L mi pc ln fl : Nat} {aux : List Nat} {es : List En} {st : List AV} {M : Mem} {Q : Option AV → Mem → Prop} {x n : Int} {r : List AV} : wpc sx L K0 R0 mi ((pc, ln, .iinc 0 n, aux) :: es) fl (vI x :: r) (st) M Q = (inR (x + n) ∧ wpc sx L K0 R0 mi es fl (vI (x + n) :: r) (st) M Q) := propext ⟨fun h => ⟨h.1, h.2.2⟩, fun h => ⟨h.1, ⟨by simp, rfl⟩, h.2⟩⟩
theorem w_il_1 {sx : Int → Int} {L mi pc ln fl : Nat} {aux : List Nat} {es : List En} {st : List AV} {M : Mem} {Q : Option AV → Mem → Prop} {a0 : AV} {x : Int} {r : List AV} : wpc sx L K0 R0 mi ((pc, ln, .iload_n 1, aux) :: es) fl (a0 :: vI x :: r) (st) M Q = (wpc sx L K0 R0 mi es fl (a0 :: vI x :: r) (vI x :: st) M Q) := rfl
theorem w_al_1 {sx : Int → Int} {L mi pc ln fl : Nat} {aux : List Nat} {es : List En} {st : List AV} {M : Mem} {Q : Option AV → Mem → Prop} {a0 : AV} {x : Nat} {r : List AV} : wpc sx L K0 R0 mi ((pc, ln, .aload_n 1, aux) :: es) fl (a0 :: vR (x + 2) :: r) (st) M Q = (wpc sx L K0 R0 mi es fl (a0 :: vR (x + 2) :: r) (vR (x + 2) :: st) M Q) := rfl
theorem w_ll_1 {sx : Int → Int} {L mi pc ln fl : Nat} {aux : List Nat} {es : List En} {st : List AV} {M : Mem} {Q : Option AV → Mem → Prop} {a0 : AV} {x : Int} {r : List AV} : wpc sx L K0 R0 mi ((pc, ln, .lload_n 1, aux) :: es) fl (a0 :: vL x :: r) (st) M Q = (wpc sx L K0 R0 mi es fl (a0 :: vL x :: r) (vL x :: st) M Q) := rfl
theorem w_is_1 {sx : Int → Int} {L mi pc ln fl : Nat} {aux : List Nat} {es : List En} {st : List AV} {M : Mem} {Q : Option AV → Mem → Prop} {a0 : AV} {v : AV} {x : Int} {r : List AV} (hp : cat2 a0 = false) : wpc sx L K0 R0 mi ((pc, ln, .istore_n 1, aux) :: es) fl (a0 :: v :: r) (vI x :: st) M Q = (wpc sx L K0 R0 mi es fl (a0 :: vI x :: r) (st) M Q) := propext ⟨fun h => h.2, fun h => ⟨⟨by show (1 : Nat) < _; simp only [List.length_cons]; omega, hp⟩, h⟩⟩
theorem w_as_1 {sx : Int → Int} {L mi pc ln fl : Nat} {aux : List Nat} {es : List En} {st : List AV} {M : Mem} {Q : Option AV → Mem → Prop} {a0 : AV} {v : AV} {x : Nat} {r : List AV} (hp : cat2 a0 = false) : wpc sx L K0 R0 mi ((pc, ln, .astore_n 1, aux) :: es) fl (a0 :: v :: r) (vR (x + 2) :: st) M Q = (wpc sx L K0 R0 mi es fl (a0 :: vR (x + 2) :: r) (st) M Q) := propext ⟨fun h => h.2, fun h => ⟨⟨by show (1 : Nat) < _; simp only [List.length_cons]; omega, hp⟩, h⟩⟩
theorem w_ls_1 {sx : Int → Int} {L mi pc ln fl : Nat} {aux : List Nat} {es : List En} {st : List AV} {M : Mem} {Q : Option AV → Mem → Prop} {a0 : AV} {v w : AV} {x : Int} {r : List AV} (hp : cat2 a0 = false) (hw : cat2 w = false) : wpc sx L K0 R0 mi ((pc, ln, .lstore_n 1, aux) :: es) fl (a0 :: v :: w :: r) (vL x :: st) M Q = (wpc sx L K0 R0 mi es fl (a0 :: vL x :: vU :: r) (st) M Q) := propext ⟨fun h => h.2, fun h => ⟨⟨by show (2 : Nat) < _; simp only [List.length_cons]; omega, hp, hw⟩, h⟩⟩
theorem w_inc_1 {sx : Int → Int} {L mi pc ln fl : Nat} {aux : List Nat} {es : List En} {st : List AV} {M : Mem} {Q : Option AV → Mem → Prop} {a0 : AV} {x n : Int} {r : List AV} (hp : cat2 a0 = false) : wpc sx L K0 R0 mi ((pc, ln, .iinc 1 n, aux) :: es) fl (a0 :: vI x :: r) (st) M Q = (inR (x + n) ∧ wpc sx L K0 R0 mi es fl (a0 :: vI (x + n) :: r) (st) M Q) := propext ⟨fun h => ⟨h.1, h.2.2⟩, fun h => ⟨h.1, ⟨by simp, hp⟩, h.2⟩⟩
theorem w_il_2 {sx : Int → Int} {L mi pc ln fl : Nat} {aux : List Nat} {es : List En} {st : List AV} {M : Mem} {Q : Option AV → Mem → Prop} {a0 a1 : AV} {x : Int} {r : List AV} : wpc sx L K0 R0 mi ((pc, ln, .iload_n 2, aux) :: es) fl (a0 :: a1 :: vI x :: r) (st) M Q = (wpc sx L K0 R0 mi es fl (a0 :: a1 :: vI x :: r) (vI x :: st) M Q) := rfl
theorem w_al_2 {sx : Int → Int} {L mi pc ln fl : Nat} {aux : List Nat} {es : List En} {st : List AV} {M : Mem} {Q : Option AV → Mem → Prop} {a0 a1 : AV} {x : Nat} {r : List AV} : wpc sx L K0 R0 mi ((pc, ln, .aload_n 2, aux) :: es) fl (a0 :: a1 :: vR (x + 2) :: r) (st) M Q = (wpc sx L K0 R0 mi es fl (a0 :: a1 :: vR (x + 2) :: r) (vR (x + 2) :: st) M Q) := rfl
theorem w_ll_2 {sx : Int → Int} {L mi pc ln fl : Nat} {aux : List Nat} {es : List En} {st : List AV} {M : Mem} {Q : Option AV → Mem → Prop} {a0 a1 : AV} {x : Int} {r : List AV} : wpc sx L K0 R0 mi ((pc, ln, .lload_n 2, aux) :: es) fl (a0 :: a1 :: vL x :: r) (st) M Q = (wpc sx L K0 R0 mi es fl (a0 :: a1 :: vL x :: r) (vL x :: st) M Q) := rfl
theorem w_is_2 {sx : Int → Int} {L mi pc ln fl : Nat} {aux : List Nat} {es : List En} {st : List AV} {M : Mem} {Q : Option AV → Mem → Prop} {a0 a1 : AV} {v : AV} {x : Int} {r : List AV} (hp : cat2 a1 = false) : wpc sx L K0 R0 mi ((pc, ln, .istore_n 2, aux) :: es) fl (a0 :: a1 :: v :: r) (vI x :: st) M Q = (wpc sx L K0 R0 mi es fl (a0 :: a1 :: vI x :: r) (st) M Q) := propext ⟨fun h => h.2, fun h => ⟨⟨by show (2 : Nat) < _; simp only [List.length_cons]; omega, hp⟩, h⟩⟩
theorem w_as_2 {sx : Int → Int} {L mi pc ln fl : Nat} {aux : List Nat} {es : List En} {st : List AV} {M : Mem} {Q : Option AV → Mem → Prop} {a0 a1 : AV} {v : AV} {x : Nat} {r : List AV} (hp : cat2 a1 = false) : wpc sx L K0 R0 mi ((pc, ln, .astore_n 2, aux) :: es) fl (a0 :: a1 :: v :: r) (vR (x + 2) :: st) M Q = (wpc sx L K0 R0 mi es fl (a0 :: a1 :: vR (x + 2) :: r) (st) M Q) := propext ⟨fun h => h.2, fun h => ⟨⟨by show (2 : Nat) < _; simp only [List.length_cons]; omega, hp⟩, h⟩⟩
theorem w_ls_2 {sx : Int → Int} {L mi pc ln fl : Nat} {aux : List Nat} {es : List En} {st : List AV} {M : Mem} {Q : Option AV → Mem → Prop} {a0 a1 : AV} {v w : AV} {x : Int} {r : List AV} (hp : cat2 a1 = false) (hw : cat2 w = false) : wpc sx L K0 R0 mi ((pc, ln, .lstore_n 2, aux) :: es) fl (a0 :: a1 :: v :: w :: r) (vL x :: st) M Q = (wpc sx L K0 R0 mi es fl (a0 :: a1 :: vL x :: vU :: r) (st) M Q) := propext ⟨fun h => h.2, fun h => ⟨⟨by show (3 : Nat) < _; simp only [List.length_cons]; omega, hp, hw⟩, h⟩⟩
theorem w_inc_2 {sx : Int → Int} {L mi pc ln fl : Nat} {aux : List Nat} {es : List En} {st : List AV} {M : Mem} {Q : Option AV → Mem → Prop} {a0 a1 : AV} {x n : Int} {r : List AV} (hp : cat2 a1 = false) : wpc sx L K0 R0 mi ((pc, ln, .iinc 2 n, aux) :: es) fl (a0 :: a1 :: vI x :: r) (st) M Q = (inR (x + n) ∧ wpc sx L K0 R0 mi es fl (a0 :: a1 :: vI (x + n) :: r) (st) M Q) := propext ⟨fun h => ⟨h.1, h.2.2⟩, fun h => ⟨h.1, ⟨by simp, hp⟩, h.2⟩⟩
theorem w_il_3 {sx : Int → Int} {L mi pc ln fl : Nat} {aux : List Nat} {es : List En} {st : List AV} {M : Mem} {Q : Option AV → Mem → Prop} {a0 a1 a2 : AV} {x : Int} {r : List AV} : wpc sx L K0 R0 mi ((pc, ln, .iload_n 3, aux) :: es) fl (a0 :: a1 :: a2 :: vI x :: r) (st) M Q = (wpc sx L K0 R0 mi es fl (a0 :: a1 :: a2 :: vI x :: r) (vI x :: st) M Q) := rfl
theorem w_al_3 {sx : Int → Int} {L mi pc ln fl : Nat} {aux : List Nat} {es : List En} {st : List AV} {M : Mem} {Q : Option AV → Mem → Prop} {a0 a1 a2 : AV} {x : Nat} {r : List AV} : wpc sx L K0 R0 mi ((pc, ln, .aload_n 3, aux) :: es) fl (a0 :: a1 :: a2 :: vR (x + 2) :: r) (st) M Q = (wpc sx L K0 R0 mi es fl (a0 :: a1 :: a2 :: vR (x + 2) :: r) (vR (x + 2) :: st) M Q) := rfl
theorem w_ll_3 {sx : Int → Int} {L mi pc ln fl : Nat} {aux : List Nat} {es : List En} {st : List AV} {M : Mem} {Q : Option AV → Mem → Prop} {a0 a1 a2 : AV} {x : Int} {r : List AV} : wpc sx L K0 R0 mi ((pc, ln, .lload_n 3, aux) :: es) fl (a0 :: a1 :: a2 :: vL x :: r) (st) M Q = (wpc sx L K0 R0 mi es fl (a0 :: a1 :: a2 :: vL x :: r) (vL x :: st) M Q) := rfl
theorem w_is_3 {sx : Int → Int} {L mi pc ln fl : Nat} {aux : List Nat} {es : List En} {st : List AV} {M : Mem} {Q : Option AV → Mem → Prop} {a0 a1 a2 : AV} {v : AV} {x : Int} {r : List AV} (hp : cat2 a2 = false) : wpc sx L K0 R0 mi ((pc, ln, .istore_n 3, aux) :: es) fl (a0 :: a1 :: a2 :: v :: r) (vI x :: st) M Q = (wpc sx L K0 R0 mi es fl (a0 :: a1 :: a2 :: vI x :: r) (st) M Q) := propext ⟨fun h => h.2, fun h => ⟨⟨by show (3 : Nat) < _; simp only [List.length_cons]; omega, hp⟩, h⟩⟩
theorem w_as_3 {sx : Int → Int} {L mi pc ln fl : Nat} {aux : List Nat} {es : List En} {st : List AV} {M : Mem} {Q : Option AV → Mem → Prop} {a0 a1 a2 : AV} {v : AV} {x : Nat} {r : List AV} (hp : cat2 a2 = false) : wpc sx L K0 R0 mi ((pc, ln, .astore_n 3, aux) :: es) fl (a0 :: a1 :: a2 :: v :: r) (vR (x + 2) :: st) M Q = (wpc sx L K0 R0 mi es fl (a0 :: a1 :: a2 :: vR (x + 2) :: r) (st) M Q) := propext ⟨fun h => h.2, fun h => ⟨⟨by show (3 : Nat) < _; simp only [List.length_cons]; omega, hp⟩, h⟩⟩
theorem w_ls_3 {sx : Int → Int} {L mi pc ln fl : Nat} {aux : List Nat} {es : List En} {st : List AV} {M : Mem} {Q : Option AV → Mem → Prop} {a0 a1 a2 : AV} {v w : AV} {x : Int} {r : List AV} (hp : cat2 a2 = false) (hw : cat2 w = false) : wpc sx L K0 R0 mi ((pc, ln, .lstore_n 3, aux) :: es) fl (a0 :: a1 :: a2 :: v :: w :: r) (vL x :: st) M Q = (wpc sx L K0 R0 mi es fl (a0 :: a1 :: a2 :: vL x :: vU :: r) (st) M Q) := propext ⟨fun h => h.2, fun h => ⟨⟨by show (4 : Nat) < _; simp only [List.length_cons]; omega, hp, hw⟩, h⟩⟩
theorem w_inc_3 {sx : Int → Int} {L mi pc ln fl : Nat} {aux : List Nat} {es : List En} {st : List AV} {M : Mem} {Q : Option AV → Mem → Prop} {a0 a1 a2 : AV} {x n : Int} {r : List AV} (hp : cat2 a2 = false) : wpc sx L K0 R0 mi ((pc, ln, .iinc 3 n, aux) :: es) fl (a0 :: a1 :: a2 :: vI x :: r) (st) M Q = (inR (x + n) ∧ wpc sx L K0 R0 mi es fl (a0 :: a1 :: a2 :: vI (x + n) :: r) (st) M Q) := propext ⟨fun h => ⟨h.1, h.2.2⟩, fun h => ⟨h.1, ⟨by simp, hp⟩, h.2⟩⟩
theorem w_il_4 {sx : Int → Int} {L mi pc ln fl : Nat} {aux : List Nat} {es : List En} {st : List AV} {M : Mem} {Q : Option AV → Mem → Prop} {a0 a1 a2 a3 : AV} {x : Int} {r : List AV} : wpc sx L K0 R0 mi ((pc, ln, .iload 4, aux) :: es) fl (a0 :: a1 :: a2 :: a3 :: vI x :: r) (st) M Q = (wpc sx L K0 R0 mi es fl (a0 :: a1 :: a2 :: a3 :: vI x :: r) (vI x :: st) M Q) := rfl
theorem w_al_4 {sx : Int → Int} {L mi pc ln fl : Nat} {aux : List Nat} {es : List En} {st : List AV} {M : Mem} {Q : Option AV → Mem → Prop} {a0 a1 a2 a3 : AV} {x : Nat} {r : List AV} : wpc sx L K0 R0 mi ((pc, ln, .aload 4, aux) :: es) fl (a0 :: a1 :: a2 :: a3 :: vR (x + 2) :: r) (st) M Q = (wpc sx L K0 R0 mi es fl (a0 :: a1 :: a2 :: a3 :: vR (x + 2) :: r) (vR (x + 2) :: st) M Q) := rfl
theorem w_is_4 {sx : Int → Int} {L mi pc ln fl : Nat} {aux : List Nat} {es : List En} {st : List AV} {M : Mem} {Q : Option AV → Mem → Prop} {a0 a1 a2 a3 : AV} {v : AV} {x : Int} {r : List AV} (hp : cat2 a3 = false) : wpc sx L K0 R0 mi ((pc, ln, .istore 4, aux) :: es) fl (a0 :: a1 :: a2 :: a3 :: v :: r) (vI x :: st) M Q = (wpc sx L K0 R0 mi es fl (a0 :: a1 :: a2 :: a3 :: vI x :: r) (st) M Q) := propext ⟨fun h => h.2, fun h => ⟨⟨by show (4 : Nat) < _; simp only [List.length_cons]; omega, hp⟩, h⟩⟩
theorem w_as_4 {sx : Int → Int} {L mi pc ln fl : Nat} {aux : List Nat} {es : List En} {st : List AV} {M : Mem} {Q : Option AV → Mem → Prop} {a0 a1 a2 a3 : AV} {v : AV} {x : Nat} {r : List AV} (hp : cat2 a3 = false) : wpc sx L K0 R0 mi ((pc, ln, .astore 4, aux) :: es) fl (a0 :: a1 :: a2 :: a3 :: v :: r) (vR (x + 2) :: st) M Q = (wpc sx L K0 R0 mi es fl (a0 :: a1 :: a2 :: a3 :: vR (x + 2) :: r) (st) M Q) := propext ⟨fun h => h.2, fun h => ⟨⟨by show (4 : Nat) < _; simp only [List.length_cons]; omega, hp⟩, h⟩⟩
theorem w_inc_4 {sx : Int → Int} {L mi pc ln fl : Nat} {aux : List Nat} {es : List En} {st : List AV} {M : Mem} {Q : Option AV → Mem → Prop} {a0 a1 a2 a3 : AV} {x n : Int} {r : List AV} (hp : cat2 a3 = false) : wpc sx L K0 R0 mi ((pc, ln, .iinc 4 n, aux) :: es) fl (a0 :: a1 :: a2 :: a3 :: vI x :: r) (st) M Q = (inR (x + n) ∧ wpc sx L K0 R0 mi es fl (a0 :: a1 :: a2 :: a3 :: vI (x + n) :: r) (st) M Q) := propext ⟨fun h => ⟨h.1, h.2.2⟩, fun h => ⟨h.1, ⟨by simp, hp⟩, h.2⟩⟩
theorem w_il_5 {sx : Int → Int} {L mi pc ln fl : Nat} {aux : List Nat} {es : List En} {st : List AV} {M : Mem} {Q : Option AV → Mem → Prop} {a0 a1 a2 a3 a4 : AV} {x : Int} {r : List AV} : wpc sx L K0 R0 mi ((pc, ln, .iload 5, aux) :: es) fl (a0 :: a1 :: a2 :: a3 :: a4 :: vI x :: r) (st) M Q = (wpc sx L K0 R0 mi es fl (a0 :: a1 :: a2 :: a3 :: a4 :: vI x :: r) (vI x :: st) M Q) := rfl
theorem w_al_5 {sx : Int → Int} {L mi pc ln fl : Nat} {aux : List Nat} {es : List En} {st : List AV} {M : Mem} {Q : Option AV → Mem → Prop} {a0 a1 a2 a3 a4 : AV} {x : Nat} {r : List AV} : wpc sx L K0 R0 mi ((pc, ln, .aload 5, aux) :: es) fl (a0 :: a1 :: a2 :: a3 :: a4 :: vR (x + 2) :: r) (st) M Q = (wpc sx L K0 R0 mi es fl (a0 :: a1 :: a2 :: a3 :: a4 :: vR (x + 2) :: r) (vR (x + 2) :: st) M Q) := rfl
theorem w_is_5 {sx : Int → Int} {L mi pc ln fl : Nat} {aux : List Nat} {es : List En} {st : List AV} {M : Mem} {Q : Option AV → Mem → Prop} {a0 a1 a2 a3 a4 : AV} {v : AV} {x : Int} {r : List AV} (hp : cat2 a4 = false) : wpc sx L K0 R0 mi ((pc, ln, .istore 5, aux) :: es) fl (a0 :: a1 :: a2 :: a3 :: a4 :: v :: r) (vI x :: st) M Q = (wpc sx L K0 R0 mi es fl (a0 :: a1 :: a2 :: a3 :: a4 :: vI x :: r) (st) M Q) := propext ⟨fun h => h.2, fun h => ⟨⟨by show (5 : Nat) < _; simp only [List.length_cons]; omega, hp⟩, h⟩⟩
theorem w_as_5 {sx : Int → Int} {L mi pc ln fl : Nat} {aux : List Nat} {es : List En} {st : List AV} {M : Mem} {Q : Option AV → Mem → Prop} {a0 a1 a2 a3 a4 : AV} {v : AV} {x : Nat} {r : List AV} (hp : cat2 a4 = false) : wpc sx L K0 R0 mi ((pc, ln, .astore 5, aux) :: es) fl (a0 :: a1 :: a2 :: a3 :: a4 :: v :: r) (vR (x + 2) :: st) M Q = (wpc sx L K0 R0 mi es fl (a0 :: a1 :: a2 :: a3 :: a4 :: vR (x + 2) :: r) (st) M Q) := propext ⟨fun h => h.2, fun h => ⟨⟨by show (5 : Nat) < _; simp only [List.length_cons]; omega, hp⟩, h⟩⟩
theorem w_inc_5 {sx : Int → Int} {L mi pc ln fl : Nat} {aux : List Nat} {es : List En} {st : List AV} {M : Mem} {Q : Option AV → Mem → Prop} {a0 a1 a2 a3 a4 : AV} {x n : Int} {r : List AV} (hp : cat2 a4 = false) : wpc sx L K0 R0 mi ((pc, ln, .iinc 5 n, aux) :: es) fl (a0 :: a1 :: a2 :: a3 :: a4 :: vI x :: r) (st) M Q = (inR (x + n) ∧ wpc sx L K0 R0 mi es fl (a0 :: a1 :: a2 :: a3 :: a4 :: vI (x + n) :: r) (st) M Q) := propext ⟨fun h => ⟨h.1, h.2.2⟩, fun h => ⟨h.1, ⟨by simp, hp⟩, h.2⟩⟩
theorem w_il_6 {sx : Int → Int} {L mi pc ln fl : Nat} {aux : List Nat} {es : List En} {st : List AV} {M : Mem} {Q : Option AV → Mem → Prop} {a0 a1 a2 a3 a4 a5 : AV} {x : Int} {r : List AV} : wpc sx L K0 R0 mi ((pc, ln, .iload 6, aux) :: es) fl (a0 :: a1 :: a2 :: a3 :: a4 :: a5 :: vI x :: r) (st) M Q = (wpc sx L K0 R0 mi es fl (a0 :: a1 :: a2 :: a3 :: a4 :: a5 :: vI x :: r) (vI x :: st) M Q) := rfl
theorem w_al_6 {sx : Int → Int} {L mi pc ln fl : Nat} {aux : List Nat} {es : List En} {st : List AV} {M : Mem} {Q : Option AV → Mem → Prop} {a0 a1 a2 a3 a4 a5 : AV} {x : Nat} {r : List AV} : wpc sx L K0 R0 mi ((pc, ln, .aload 6, aux) :: es) fl (a0 :: a1 :: a2 :: a3 :: a4 :: a5 :: vR (x + 2) :: r) (st) M Q = (wpc sx L K0 R0 mi es fl (a0 :: a1 :: a2 :: a3 :: a4 :: a5 :: vR (x + 2) :: r) (vR (x + 2) :: st) M Q) := rfl
theorem w_is_6 {sx : Int → Int} {L mi pc ln fl : Nat} {aux : List Nat} {es : List En} {st : List AV} {M : Mem} {Q : Option AV → Mem → Prop} {a0 a1 a2 a3 a4 a5 : AV} {v : AV} {x : Int} {r : List AV} (hp : cat2 a5 = false) : wpc sx L K0 R0 mi ((pc, ln, .istore 6, aux) :: es) fl (a0 :: a1 :: a2 :: a3 :: a4 :: a5 :: v :: r) (vI x :: st) M Q = (wpc sx L K0 R0 mi es fl (a0 :: a1 :: a2 :: a3 :: a4 :: a5 :: vI x :: r) (st) M Q) := propext ⟨fun h => h.2, fun h => ⟨⟨by show (6 : Nat) < _; simp only [List.length_cons]; omega, hp⟩, h⟩⟩
theorem w_as_6 {sx : Int → Int} {L mi pc ln fl : Nat} {aux : List Nat} {es : List En} {st : List AV} {M : Mem} {Q : Option AV → Mem → Prop} {a0 a1 a2 a3 a4 a5 : AV} {v : AV} {x : Nat} {r : List AV} (hp : cat2 a5 = false) : wpc sx L K0 R0 mi ((pc, ln, .astore 6, aux) :: es) fl (a0 :: a1 :: a2 :: a3 :: a4 :: a5 :: v :: r) (vR (x + 2) :: st) M Q = (wpc sx L K0 R0 mi es fl (a0 :: a1 :: a2 :: a3 :: a4 :: a5 :: vR (x + 2) :: r) (st) M Q) := propext ⟨fun h => h.2, fun h => ⟨⟨by show (6 : Nat) < _; simp only [List.length_cons]; omega, hp⟩, h⟩⟩
theorem w_inc_6 {sx : Int → Int} {L mi pc ln fl : Nat} {aux : List Nat} {es : List En} {st : List AV} {M : Mem} {Q : Option AV → Mem → Prop} {a0 a1 a2 a3 a4 a5 : AV} {x n : Int} {r : List AV} (hp : cat2 a5 = false) : wpc sx L K0 R0 mi ((pc, ln, .iinc 6 n, aux) :: es) fl (a0 :: a1 :: a2 :: a3 :: a4 :: a5 :: vI x :: r) (st) M Q = (inR (x + n) ∧ wpc sx L K0 R0 mi es fl (a0 :: a1 :: a2 :: a3 :: a4 :: a5 :: vI (x + n) :: r) (st) M Q) := propext ⟨fun h => ⟨h.1, h.2.2⟩, fun h => ⟨h.1, ⟨by simp, hp⟩, h.2⟩⟩
theorem w_il_7 {sx : Int → Int} {L mi pc ln fl : Nat} {aux : List Nat} {es : List En} {st : List AV} {M : Mem} {Q : Option AV → Mem → Prop} {a0 a1 a2 a3 a4 a5 a6 : AV} {x : Int} {r : List AV} : wpc sx L K0 R0 mi ((pc, ln, .iload 7, aux) :: es) fl (a0 :: a1 :: a2 :: a3 :: a4 :: a5 :: a6 :: vI x :: r) (st) M Q = (wpc sx L K0 R0 mi es fl (a0 :: a1 :: a2 :: a3 :: a4 :: a5 :: a6 :: vI x :: r) (vI x :: st) M Q) := rfl
theorem w_al_7 {sx : Int → Int} {L mi pc ln fl : Nat} {aux : List Nat} {es : List En} {st : List AV} {M : Mem} {Q : Option AV → Mem → Prop} {a0 a1 a2 a3 a4 a5 a6 : AV} {x : Nat} {r : List AV} : wpc sx L K0 R0 mi ((pc, ln, .aload 7, aux) :: es) fl (a0 :: a1 :: a2 :: a3 :: a4 :: a5 :: a6 :: vR (x + 2) :: r) (st) M Q = (wpc sx L K0 R0 mi es fl (a0 :: a1 :: a2 :: a3 :: a4 :: a5 :: a6 :: vR (x + 2) :: r) (vR (x + 2) :: st) M Q) := rfl
theorem w_is_7 {sx : Int → Int} {L mi pc ln fl : Nat} {aux : List Nat} {es : List En} {st : List AV} {M : Mem} {Q : Option AV → Mem → Prop} {a0 a1 a2 a3 a4 a5 a6 : AV} {v : AV} {x : Int} {r : List AV} (hp : cat2 a6 = false) : wpc sx L K0 R0 mi ((pc, ln, .istore 7, aux) :: es) fl (a0 :: a1 :: a2 :: a3 :: a4 :: a5 :: a6 :: v :: r) (vI x :: st) M Q = (wpc sx L K0 R0 mi es fl (a0 :: a1 :: a2 :: a3 :: a4 :: a5 :: a6 :: vI x :: r) (st) M Q) := propext ⟨fun h => h.2, fun h => ⟨⟨by show (7 : Nat) < _; simp only [List.length_cons]; omega, hp⟩, h⟩⟩
theorem w_as_7 {sx : Int → Int} {L mi pc ln fl : Nat} {aux : List Nat} {es : List En} {st : List AV} {M : Mem} {Q : Option AV → Mem → Prop} {a0 a1 a2 a3 a4 a5 a6 : AV} {v : AV} {x : Nat} {r : List AV} (hp : cat2 a6 = false) : wpc sx L K0 R0 mi ((pc, ln, .astore 7, aux) :: es) fl (a0 :: a1 :: a2 :: a3 :: a4 :: a5 :: a6 :: v :: r) (vR (x + 2) :: st) M Q = (wpc sx L K0 R0 mi es fl (a0 :: a1 :: a2 :: a3 :: a4 :: a5 :: a6 :: vR (x + 2) :: r) (st) M Q) := propext ⟨fun h => h.2, fun h => ⟨⟨by show (7 : Nat) < _; simp only [List.length_cons]; omega, hp⟩, h⟩⟩
theorem w_inc_7 {sx : Int → Int} {L mi pc ln fl : Nat} {aux : List Nat} {es : List En} {st : List AV} {M : Mem} {Q : Option AV → Mem → Prop} {a0 a1 a2 a3 a4 a5 a6 : AV} {x n : Int} {r : List AV} (hp : cat2 a6 = false) : wpc sx L K0 R0 mi ((pc, ln, .iinc 7 n, aux) :: es) fl (a0 :: a1 :: a2 :: a3 :: a4 :: a5 :: a6 :: vI x :: r) (st) M Q = (inR (x + n) ∧ wpc sx L K0 R0 mi es fl (a0 :: a1 :: a2 :: a3 :: a4 :: a5 :: a6 :: vI (x + n) :: r) (st) M Q) := propext ⟨fun h => ⟨h.1, h.2.2⟩, fun h => ⟨h.1, ⟨by simp, hp⟩, h.2⟩⟩
theorem w_il_8 {sx : Int → Int} {L mi pc ln fl : Nat} {aux : List Nat} {es : List En} {st : List AV} {M : Mem} {Q : Option AV → Mem → Prop} {a0 a1 a2 a3 a4 a5 a6 a7 : AV} {x : Int} {r : List AV} : wpc sx L K0 R0 mi ((pc, ln, .iload 8, aux) :: es) fl (a0 :: a1 :: a2 :: a3 :: a4 :: a5 :: a6 :: a7 :: vI x :: r) (st) M Q = (wpc sx L K0 R0 mi es fl (a0 :: a1 :: a2 :: a3 :: a4 :: a5 :: a6 :: a7 :: vI x :: r) (vI x :: st) M Q) := rfl
theorem w_al_8 {sx : Int → Int} {L mi pc ln fl : Nat} {aux : List Nat} {es : List En} {st : List AV} {M : Mem} {Q : Option AV → Mem → Prop} {a0 a1 a2 a3 a4 a5 a6 a7 : AV} {x : Nat} {r : List AV} : wpc sx L K0 R0 mi ((pc, ln, .aload 8, aux) :: es) fl (a0 :: a1 :: a2 :: a3 :: a4 :: a5 :: a6 :: a7 :: vR (x + 2) :: r) (st) M Q = (wpc sx L K0 R0 mi es fl (a0 :: a1 :: a2 :: a3 :: a4 :: a5 :: a6 :: a7 :: vR (x + 2) :: r) (vR (x + 2) :: st) M Q) := rfl
theorem w_is_8 {sx : Int → Int} {L mi pc ln fl : Nat} {aux : List Nat} {es : List En} {st : List AV} {M : Mem} {Q : Option AV → Mem → Prop} {a0 a1 a2 a3 a4 a5 a6 a7 : AV} {v : AV} {x : Int} {r : List AV} (hp : cat2 a7 = false) : wpc sx L K0 R0 mi ((pc, ln, .istore 8, aux) :: es) fl (a0 :: a1 :: a2 :: a3 :: a4 :: a5 :: a6 :: a7 :: v :: r) (vI x :: st) M Q = (wpc sx L K0 R0 mi es fl (a0 :: a1 :: a2 :: a3 :: a4 :: a5 :: a6 :: a7 :: vI x :: r) (st) M Q) := propext ⟨fun h => h.2, fun h => ⟨⟨by show (8 : Nat) < _; simp only [List.length_cons]; omega, hp⟩, h⟩⟩
theorem w_as_8 {sx : Int → Int} {L mi pc ln fl : Nat} {aux : List Nat} {es : List En} {st : List AV} {M : Mem} {Q : Option AV → Mem → Prop} {a0 a1 a2 a3 a4 a5 a6 a7 : AV} {v : AV} {x : Nat} {r : List AV} (hp : cat2 a7 = false) : wpc sx L K0 R0 mi ((pc, ln, .astore 8, aux) :: es) fl (a0 :: a1 :: a2 :: a3 :: a4 :: a5 :: a6 :: a7 :: v :: r) (vR (x + 2) :: st) M Q = (wpc sx L K0 R0 mi es fl (a0 :: a1 :: a2 :: a3 :: a4 :: a5 :: a6 :: a7 :: vR (x + 2) :: r) (st) M Q) := propext ⟨fun h => h.2, fun h => ⟨⟨by show (8 : Nat) < _; simp only [List.length_cons]; omega, hp⟩, h⟩⟩
theorem w_inc_8 {sx : Int → Int} {L mi pc ln fl : Nat} {aux : List Nat} {es : List En} {st : List AV} {M : Mem} {Q : Option AV → Mem → Prop} {a0 a1 a2 a3 a4 a5 a6 a7 : AV} {x n : Int} {r : List AV} (hp : cat2 a7 = false) : wpc sx L K0 R0 mi ((pc, ln, .iinc 8 n, aux) :: es) fl (a0 :: a1 :: a2 :: a3 :: a4 :: a5 :: a6 :: a7 :: vI x :: r) (st) M Q = (inR (x + n) ∧ wpc sx L K0 R0 mi es fl (a0 :: a1 :: a2 :: a3 :: a4 :: a5 :: a6 :: a7 :: vI (x + n) :: r) (st) M Q) := propext ⟨fun h => ⟨h.1, h.2.2⟩, fun h => ⟨h.1, ⟨by simp, hp⟩, h.2⟩⟩
theorem w_il_9 {sx : Int → Int} {L mi pc ln fl : Nat} {aux : List Nat} {es : List En} {st : List AV} {M : Mem} {Q : Option AV → Mem → Prop} {a0 a1 a2 a3 a4 a5 a6 a7 a8 : AV} {x : Int} {r : List AV} : wpc sx L K0 R0 mi ((pc, ln, .iload 9, aux) :: es) fl (a0 :: a1 :: a2 :: a3 :: a4 :: a5 :: a6 :: a7 :: a8 :: vI x :: r) (st) M Q = (wpc sx L K0 R0 mi es fl (a0 :: a1 :: a2 :: a3 :: a4 :: a5 :: a6 :: a7 :: a8 :: vI x :: r) (vI x :: st) M Q) := rfl
theorem w_al_9 {sx : Int → Int} {L mi pc ln fl : Nat} {aux : List Nat} {es : List En} {st : List AV} {M : Mem} {Q : Option AV → Mem → Prop} {a0 a1 a2 a3 a4 a5 a6 a7 a8 : AV} {x : Nat} {r : List AV} : wpc sx L K0 R0 mi ((pc, ln, .aload 9, aux) :: es) fl (a0 :: a1 :: a2 :: a3 :: a4 :: a5 :: a6 :: a7 :: a8 :: vR (x + 2) :: r) (st) M Q = (wpc sx L K0 R0 mi es fl (a0 :: a1 :: a2 :: a3 :: a4 :: a5 :: a6 :: a7 :: a8 :: vR (x + 2) :: r) (vR (x + 2) :: st) M Q) := rfl
theorem w_is_9 {sx : Int → Int} {L mi pc ln fl : Nat} {aux : List Nat} {es : List En} {st : List AV} {M : Mem} {Q : Option AV → Mem → Prop} {a0 a1 a2 a3 a4 a5 a6 a7 a8 : AV} {v : AV} {x : Int} {r : List AV} (hp : cat2 a8 = false) : wpc sx L K0 R0 mi ((pc, ln, .istore 9, aux) :: es) fl (a0 :: a1 :: a2 :: a3 :: a4 :: a5 :: a6 :: a7 :: a8 :: v :: r) (vI x :: st) M Q = (wpc sx L K0 R0 mi es fl (a0 :: a1 :: a2 :: a3 :: a4 :: a5 :: a6 :: a7 :: a8 :: vI x :: r) (st) M Q) := propext ⟨fun h => h.2, fun h => ⟨⟨by show (9 : Nat) < _; simp only [List.length_cons]; omega, hp⟩, h⟩⟩
theorem w_as_9 {sx : Int → Int} {L mi pc ln fl : Nat} {aux : List Nat} {es : List En} {st : List AV} {M : Mem} {Q : Option AV → Mem → Prop} {a0 a1 a2 a3 a4 a5 a6 a7 a8 : AV} {v : AV} {x : Nat} {r : List AV} (hp : cat2 a8 = false) : wpc sx L K0 R0 mi ((pc, ln, .astore 9, aux) :: es) fl (a0 :: a1 :: a2 :: a3 :: a4 :: a5 :: a6 :: a7 :: a8 :: v :: r) (vR (x + 2) :: st) M Q = (wpc sx L K0 R0 mi es fl (a0 :: a1 :: a2 :: a3 :: a4 :: a5 :: a6 :: a7 :: a8 :: vR (x + 2) :: r) (st) M Q) := propext ⟨fun h => h.2, fun h => ⟨⟨by show (9 : Nat) < _; simp only [List.length_cons]; omega, hp⟩, h⟩⟩
theorem w_inc_9 {sx : Int → Int} {L mi pc ln fl : Nat} {aux : List Nat} {es : List En} {st : List AV} {M : Mem} {Q : Option AV → Mem → Prop} {a0 a1 a2 a3 a4 a5 a6 a7 a8 : AV} {x n : Int} {r : List AV} (hp : cat2 a8 = false) : wpc sx L K0 R0 mi ((pc, ln, .iinc 9 n, aux) :: es) fl (a0 :: a1 :: a2 :: a3 :: a4 :: a5 :: a6 :: a7 :: a8 :: vI x :: r) (st) M Q = (inR (x + n) ∧ wpc sx L K0 R0 mi es fl (a0 :: a1 :: a2 :: a3 :: a4 :: a5 :: a6 :: a7 :: a8 :: vI (x + n) :: r) (st) M Q) := propext ⟨fun h => ⟨h.1, h.2.2⟩, fun h => ⟨h.1, ⟨by simp, hp⟩, h.2⟩⟩
theorem w_il_10 {sx : Int → Int} {L mi pc ln fl : Nat} {aux : List Nat} {es : List En} {st : List AV} {M : Mem} {Q : Option AV → Mem → Prop} {a0 a1 a2 a3 a4 a5 a6 a7 a8 a9 : AV} {x : Int} {r : List AV} : wpc sx L K0 R0 mi ((pc, ln, .iload 10, aux) :: es) fl (a0 :: a1 :: a2 :: a3 :: a4 :: a5 :: a6 :: a7 :: a8 :: a9 :: vI x :: r) (st) M Q = (wpc sx L K0 R0 mi es fl (a0 :: a1 :: a2 :: a3 :: a4 :: a5 :: a6 :: a7 :: a8 :: a9 :: vI x :: r) (vI x :: st) M Q) := rfl
theorem w_al_10 {sx : Int → Int} {L mi pc ln fl : Nat} {aux : List Nat} {es : List En} {st : List AV} {M : Mem} {Q : Option AV → Mem → Prop} {a0 a1 a2 a3 a4 a5 a6 a7 a8 a9 : AV} {x : Nat} {r : List AV} : wpc sx L K0 R0 mi ((pc, ln, .aload 10, aux) :: es) fl (a0 :: a1 :: a2 :: a3 :: a4 :: a5 :: a6 :: a7 :: a8 :: a9 :: vR (x + 2) :: r) (st) M Q = (wpc sx L K0 R0 mi es fl (a0 :: a1 :: a2 :: a3 :: a4 :: a5 :: a6 :: a7 :: a8 :: a9 :: vR (x + 2) :: r) (vR (x + 2) :: st) M Q) := rfl
theorem w_is_10 {sx : Int → Int} {L mi pc ln fl : Nat} {aux : List Nat} {es : List En} {st : List AV} {M : Mem} {Q : Option AV → Mem → Prop} {a0 a1 a2 a3 a4 a5 a6 a7 a8 a9 : AV} {v : AV} {x : Int} {r : List AV} (hp : cat2 a9 = false) : wpc sx L K0 R0 mi ((pc, ln, .istore 10, aux) :: es) fl (a0 :: a1 :: a2 :: a3 :: a4 :: a5 :: a6 :: a7 :: a8 :: a9 :: v :: r) (vI x :: st) M Q = (wpc sx L K0 R0 mi es fl (a0 :: a1 :: a2 :: a3 :: a4 :: a5 :: a6 :: a7 :: a8 :: a9 :: vI x :: r) (st) M Q) := propext ⟨fun h => h.2, fun h => ⟨⟨by show (10 : Nat) < _; simp only [List.length_cons]; omega, hp⟩, h⟩⟩
theorem w_as_10 {sx : Int → Int} {L mi pc ln fl : Nat} {aux : List Nat} {es : List En} {st : List AV} {M : Mem} {Q : Option AV → Mem → Prop} {a0 a1 a2 a3 a4 a5 a6 a7 a8 a9 : AV} {v : AV} {x : Nat} {r : List AV} (hp : cat2 a9 = false) : wpc sx L K0 R0 mi ((pc, ln, .astore 10, aux) :: es) fl (a0 :: a1 :: a2 :: a3 :: a4 :: a5 :: a6 :: a7 :: a8 :: a9 :: v :: r) (vR (x + 2) :: st) M Q = (wpc sx L K0 R0 mi es fl (a0 :: a1 :: a2 :: a3 :: a4 :: a5 :: a6 :: a7 :: a8 :: a9 :: vR (x + 2) :: r) (st) M Q) := propext ⟨fun h => h.2, fun h => ⟨⟨by show (10 : Nat) < _; simp only [List.length_cons]; omega, hp⟩, h⟩⟩
theorem w_inc_10 {sx : Int → Int} {L mi pc ln fl : Nat} {aux : List Nat} {es : List En} {st : List AV} {M : Mem} {Q : Option AV → Mem → Prop} {a0 a1 a2 a3 a4 a5 a6 a7 a8 a9 : AV} {x n : Int} {r : List AV} (hp : cat2 a9 = false) : wpc sx L K0 R0 mi ((pc, ln, .iinc 10 n, aux) :: es) fl (a0 :: a1 :: a2 :: a3 :: a4 :: a5 :: a6 :: a7 :: a8 :: a9 :: vI x :: r) (st) M Q = (inR (x + n) ∧ wpc sx L K0 R0 mi es fl (a0 :: a1 :: a2 :: a3 :: a4 :: a5 :: a6 :: a7 :: a8 :: a9 :: vI (x + n) :: r) (st) M Q) := propext ⟨fun h => ⟨h.1, h.2.2⟩, fun h => ⟨h.1, ⟨by simp, hp⟩, h.2⟩⟩
theorem w_il_11 {sx : Int → Int} {L mi pc ln fl : Nat} {aux : List Nat} {es : List En} {st : List AV} {M : Mem} {Q : Option AV → Mem → Prop} {a0 a1 a2 a3 a4 a5 a6 a7 a8 a9 a10 : AV} {x : Int} {r : List AV} : wpc sx L K0 R0 mi ((pc, ln, .iload 11, aux) :: es) fl (a0 :: a1 :: a2 :: a3 :: a4 :: a5 :: a6 :: a7 :: a8 :: a9 :: a10 :: vI x :: r) (st) M Q = (wpc sx L K0 R0 mi es fl (a0 :: a1 :: a2 :: a3 :: a4 :: a5 :: a6 :: a7 :: a8 :: a9 :: a10 :: vI x :: r) (vI x :: st) M Q) := rfl
theorem w_al_11 {sx : Int → Int} {L mi pc ln fl : Nat} {aux : List Nat} {es : List En} {st : List AV} {M : Mem} {Q : Option AV → Mem → Prop} {a0 a1 a2 a3 a4 a5 a6 a7 a8 a9 a10 : AV} {x : Nat} {r : List AV} : wpc sx L K0 R0 mi ((pc, ln, .aload 11, aux) :: es) fl (a0 :: a1 :: a2 :: a3 :: a4 :: a5 :: a6 :: a7 :: a8 :: a9 :: a10 :: vR (x + 2) :: r) (st) M Q = (wpc sx L K0 R0 mi es fl (a0 :: a1 :: a2 :: a3 :: a4 :: a5 :: a6 :: a7 :: a8 :: a9 :: a10 :: vR (x + 2) :: r) (vR (x + 2) :: st) M Q) := rfl
theorem w_is_11 {sx : Int → Int} {L mi pc ln fl : Nat} {aux : List Nat} {es : List En} {st : List AV} {M : Mem} {Q : Option AV → Mem → Prop} {a0 a1 a2 a3 a4 a5 a6 a7 a8 a9 a10 : AV} {v : AV} {x : Int} {r : List AV} (hp : cat2 a10 = false) : wpc sx L K0 R0 mi ((pc, ln, .istore 11, aux) :: es) fl (a0 :: a1 :: a2 :: a3 :: a4 :: a5 :: a6 :: a7 :: a8 :: a9 :: a10 :: v :: r) (vI x :: st) M Q = (wpc sx L K0 R0 mi es fl (a0 :: a1 :: a2 :: a3 :: a4 :: a5 :: a6 :: a7 :: a8 :: a9 :: a10 :: vI x :: r) (st) M Q) := propext ⟨fun h => h.2, fun h => ⟨⟨by show (11 : Nat) < _; simp only [List.length_cons]; omega, hp⟩, h⟩⟩
theorem w_as_11 {sx : Int → Int} {L mi pc ln fl : Nat} {aux : List Nat} {es : List En} {st : List AV} {M : Mem} {Q : Option AV → Mem → Prop} {a0 a1 a2 a3 a4 a5 a6 a7 a8 a9 a10 : AV} {v : AV} {x : Nat} {r : List AV} (hp : cat2 a10 = false) : wpc sx L K0 R0 mi ((pc, ln, .astore 11, aux) :: es) fl (a0 :: a1 :: a2 :: a3 :: a4 :: a5 :: a6 :: a7 :: a8 :: a9 :: a10 :: v :: r) (vR (x + 2) :: st) M Q = (wpc sx L K0 R0 mi es fl (a0 :: a1 :: a2 :: a3 :: a4 :: a5 :: a6 :: a7 :: a8 :: a9 :: a10 :: vR (x + 2) :: r) (st) M Q) := propext ⟨fun h => h.2, fun h => ⟨⟨by show (11 : Nat) < _; simp only [List.length_cons]; omega, hp⟩, h⟩⟩
theorem w_inc_11 {sx : Int → Int} {L mi pc ln fl : Nat} {aux : List Nat} {es : List En} {st : List AV} {M : Mem} {Q : Option AV → Mem → Prop} {a0 a1 a2 a3 a4 a5 a6 a7 a8 a9 a10 : AV} {x n : Int} {r : List AV} (hp : cat2 a10 = false) : wpc sx L K0 R0 mi ((pc, ln, .iinc 11 n, aux) :: es) fl (a0 :: a1 :: a2 :: a3 :: a4 :: a5 :: a6 :: a7 :: a8 :: a9 :: a10 :: vI x :: r) (st) M Q = (inR (x + n) ∧ wpc sx L K0 R0 mi es fl (a0 :: a1 :: a2 :: a3 :: a4 :: a5 :: a6 :: a7 :: a8 :: a9 :: a10 :: vI (x + n) :: r) (st) M Q) := propext ⟨fun h => ⟨h.1, h.2.2⟩, fun h => ⟨h.1, ⟨by simp, hp⟩, h.2⟩⟩
theorem w_il_12 {sx : Int → Int} {L mi pc ln fl : Nat} {aux : List Nat} {es : List En} {st : List AV} {M : Mem} {Q : Option AV → Mem → Prop} {a0 a1 a2 a3 a4 a5 a6 a7 a8 a9 a10 a11 : AV} {x : Int} {r : List AV} : wpc sx L K0 R0 mi ((pc, ln, .iload 12, aux) :: es) fl (a0 :: a1 :: a2 :: a3 :: a4 :: a5 :: a6 :: a7 :: a8 :: a9 :: a10 :: a11 :: vI x :: r) (st) M Q = (wpc sx L K0 R0 mi es fl (a0 :: a1 :: a2 :: a3 :: a4 :: a5 :: a6 :: a7 :: a8 :: a9 :: a10 :: a11 :: vI x :: r) (vI x :: st) M Q) := rfl
theorem w_al_12 {sx : Int → Int} {L mi pc ln fl : Nat} {aux : List Nat} {es : List En} {st : List AV} {M : Mem} {Q : Option AV → Mem → Prop} {a0 a1 a2 a3 a4 a5 a6 a7 a8 a9 a10 a11 : AV} {x : Nat} {r : List AV} : wpc sx L K0 R0 mi ((pc, ln, .aload 12, aux) :: es) fl (a0 :: a1 :: a2 :: a3 :: a4 :: a5 :: a6 :: a7 :: a8 :: a9 :: a10 :: a11 :: vR (x + 2) :: r) (st) M Q = (wpc sx L K0 R0 mi es fl (a0 :: a1 :: a2 :: a3 :: a4 :: a5 :: a6 :: a7 :: a8 :: a9 :: a10 :: a11 :: vR (x + 2) :: r) (vR (x + 2) :: st) M Q) := rfl
theorem w_is_12 {sx : Int → Int} {L mi pc ln fl : Nat} {aux : List Nat} {es : List En} {st : List AV} {M : Mem} {Q : Option AV → Mem → Prop} {a0 a1 a2 a3 a4 a5 a6 a7 a8 a9 a10 a11 : AV} {v : AV} {x : Int} {r : List AV} (hp : cat2 a11 = false) : wpc sx L K0 R0 mi ((pc, ln, .istore 12, aux) :: es) fl (a0 :: a1 :: a2 :: a3 :: a4 :: a5 :: a6 :: a7 :: a8 :: a9 :: a10 :: a11 :: v :: r) (vI x :: st) M Q = (wpc sx L K0 R0 mi es fl (a0 :: a1 :: a2 :: a3 :: a4 :: a5 :: a6 :: a7 :: a8 :: a9 :: a10 :: a11 :: vI x :: r) (st) M Q) := propext ⟨fun h => h.2, fun h => ⟨⟨by show (12 : Nat) < _; simp only [List.length_cons]; omega, hp⟩, h⟩⟩
theorem w_as_12 {sx : Int → Int} {L mi pc ln fl : Nat} {aux : List Nat} {es : List En} {st : List AV} {M : Mem} {Q : Option AV → Mem → Prop} {a0 a1 a2 a3 a4 a5 a6 a7 a8 a9 a10 a11 : AV} {v : AV} {x : Nat} {r : List AV} (hp : cat2 a11 = false) : wpc sx L K0 R0 mi ((pc, ln, .astore 12, aux) :: es) fl (a0 :: a1 :: a2 :: a3 :: a4 :: a5 :: a6 :: a7 :: a8 :: a9 :: a10 :: a11 :: v :: r) (vR (x + 2) :: st) M Q = (wpc sx L K0 R0 mi es fl (a0 :: a1 :: a2 :: a3 :: a4 :: a5 :: a6 :: a7 :: a8 :: a9 :: a10 :: a11 :: vR (x + 2) :: r) (st) M Q) := propext ⟨fun h => h.2, fun h => ⟨⟨by show (12 : Nat) < _; simp only [List.length_cons]; omega, hp⟩, h⟩⟩
theorem w_inc_12 {sx : Int → Int} {L mi pc ln fl : Nat} {aux : List Nat} {es : List En} {st : List AV} {M : Mem} {Q : Option AV → Mem → Prop} {a0 a1 a2 a3 a4 a5 a6 a7 a8 a9 a10 a11 : AV} {x n : Int} {r : List AV} (hp : cat2 a11 = false) : wpc sx L K0 R0 mi ((pc, ln, .iinc 12 n, aux) :: es) fl (a0 :: a1 :: a2 :: a3 :: a4 :: a5 :: a6 :: a7 :: a8 :: a9 :: a10 :: a11 :: vI x :: r) (st) M Q = (inR (x + n) ∧ wpc sx L K0 R0 mi es fl (a0 :: a1 :: a2 :: a3 :: a4 :: a5 :: a6 :: a7 :: a8 :: a9 :: a10 :: a11 :: vI (x + n) :: r) (st) M Q) := propext ⟨fun h => ⟨h.1, h.2.2⟩, fun h => ⟨h.1, ⟨by simp, hp⟩, h.2⟩⟩
theorem w_il_13 {sx : Int → Int} {L mi pc ln fl : Nat} {aux : List Nat} {es : List En} {st : List AV} {M : Mem} {Q : Option AV → Mem → Prop} {a0 a1 a2 a3 a4 a5 a6 a7 a8 a9 a10 a11 a12 : AV} {x : Int} {r : List AV} : wpc sx L K0 R0 mi ((pc, ln, .iload 13, aux) :: es) fl (a0 :: a1 :: a2 :: a3 :: a4 :: a5 :: a6 :: a7 :: a8 :: a9 :: a10 :: a11 :: a12 :: vI x :: r) (st) M Q = (wpc sx L K0 R0 mi es fl (a0 :: a1 :: a2 :: a3 :: a4 :: a5 :: a6 :: a7 :: a8 :: a9 :: a10 :: a11 :: a12 :: vI x :: r) (vI x :: st) M Q) := rfl
theorem w_al_13 {sx : Int → Int} {L mi pc ln fl : Nat} {aux : List Nat} {es : List En} {st : List AV} {M : Mem} {Q : Option AV → Mem → Prop} {a0 a1 a2 a3 a4 a5 a6 a7 a8 a9 a10 a11 a12 : AV} {x : Nat} {r : List AV} : wpc sx L K0 R0 mi ((pc, ln, .aload 13, aux) :: es) fl (a0 :: a1 :: a2 :: a3 :: a4 :: a5 :: a6 :: a7 :: a8 :: a9 :: a10 :: a11 :: a12 :: vR (x + 2) :: r) (st) M Q = (wpc sx L K0 R0 mi es fl (a0 :: a1 :: a2 :: a3 :: a4 :: a5 :: a6 :: a7 :: a8 :: a9 :: a10 :: a11 :: a12 :: vR (x + 2) :: r) (vR (x + 2) :: st) M Q) := rfl
theorem w_is_13 {sx : Int → Int} {L mi pc ln fl : Nat} {aux : List Nat} {es : List En} {st : List AV} {M : Mem} {Q : Option AV → Mem → Prop} {a0 a1 a2 a3 a4 a5 a6 a7 a8 a9 a10 a11 a12 : AV} {v : AV} {x : Int} {r : List AV} (hp : cat2 a12 = false) : wpc sx L K0 R0 mi ((pc, ln, .istore 13, aux) :: es) fl (a0 :: a1 :: a2 :: a3 :: a4 :: a5 :: a6 :: a7 :: a8 :: a9 :: a10 :: a11 :: a12 :: v :: r) (vI x :: st) M Q = (wpc sx L K0 R0 mi es fl (a0 :: a1 :: a2 :: a3 :: a4 :: a5 :: a6 :: a7 :: a8 :: a9 :: a10 :: a11 :: a12 :: vI x :: r) (st) M Q) := propext ⟨fun h => h.2, fun h => ⟨⟨by show (13 : Nat) < _; simp only [List.length_cons]; omega, hp⟩, h⟩⟩
theorem w_as_13 {sx : Int → Int} {L mi pc ln fl : Nat} {aux : List Nat} {es : List En} {st : List AV} {M : Mem} {Q : Option AV → Mem → Prop} {a0 a1 a2 a3 a4 a5 a6 a7 a8 a9 a10 a11 a12 : AV} {v : AV} {x : Nat} {r : List AV} (hp : cat2 a12 = false) : wpc sx L K0 R0 mi ((pc, ln, .astore 13, aux) :: es) fl (a0 :: a1 :: a2 :: a3 :: a4 :: a5 :: a6 :: a7 :: a8 :: a9 :: a10 :: a11 :: a12 :: v :: r) (vR (x + 2) :: st) M Q = (wpc sx L K0 R0 mi es fl (a0 :: a1 :: a2 :: a3 :: a4 :: a5 :: a6 :: a7 :: a8 :: a9 :: a10 :: a11 :: a12 :: vR (x + 2) :: r) (st) M Q) := propext ⟨fun h => h.2, fun h => ⟨⟨by show (13 : Nat) < _; simp only [List.length_cons]; omega, hp⟩, h⟩⟩
theorem w_inc_13 {sx : Int → Int} {L mi pc ln fl : Nat} {aux : List Nat} {es : List En} {st : List AV} {M : Mem} {Q : Option AV → Mem → Prop} {a0 a1 a2 a3 a4 a5 a6 a7 a8 a9 a10 a11 a12 : AV} {x n : Int} {r : List AV} (hp : cat2 a12 = false) : wpc sx L K0 R0 mi ((pc, ln, .iinc 13 n, aux) :: es) fl (a0 :: a1 :: a2 :: a3 :: a4 :: a5 :: a6 :: a7 :: a8 :: a9 :: a10 :: a11 :: a12 :: vI x :: r) (st) M Q = (inR (x + n) ∧ wpc sx L K0 R0 mi es fl (a0 :: a1 :: a2 :: a3 :: a4 :: a5 :: a6 :: a7 :: a8 :: a9 :: a10 :: a11 :: a12 :: vI (x + n) :: r) (st) M Q) := propext ⟨fun h => ⟨h.1, h.2.2⟩, fun h => ⟨h.1, ⟨by simp, hp⟩, h.2⟩⟩
theorem w_il_14 {sx : Int → Int} {L mi pc ln fl : Nat} {aux : List Nat} {es : List En} {st : List AV} {M : Mem} {Q : Option AV → Mem → Prop} {a0 a1 a2 a3 a4 a5 a6 a7 a8 a9 a10 a11 a12 a13 : AV} {x : Int} {r : List AV} : wpc sx L K0 R0 mi ((pc, ln, .iload 14, aux) :: es) fl (a0 :: a1 :: a2 :: a3 :: a4 :: a5 :: a6 :: a7 :: a8 :: a9 :: a10 :: a11 :: a12 :: a13 :: vI x :: r) (st) M Q = (wpc sx L K0 R0 mi es fl (a0 :: a1 :: a2 :: a3 :: a4 :: a5 :: a6 :: a7 :: a8 :: a9 :: a10 :: a11 :: a12 :: a13 :: vI x :: r) (vI x :: st) M Q) := rfl
theorem w_al_14 {sx : Int → Int} {L mi pc ln fl : Nat} {aux : List Nat} {es : List En} {st : List AV} {M : Mem} {Q : Option AV → Mem → Prop} {a0 a1 a2 a3 a4 a5 a6 a7 a8 a9 a10 a11 a12 a13 : AV} {x : Nat} {r : List AV} : wpc sx L K0 R0 mi ((pc, ln, .aload 14, aux) :: es) fl (a0 :: a1 :: a2 :: a3 :: a4 :: a5 :: a6 :: a7 :: a8 :: a9 :: a10 :: a11 :: a12 :: a13 :: vR (x + 2) :: r) (st) M Q = (wpc sx L K0 R0 mi es fl (a0 :: a1 :: a2 :: a3 :: a4 :: a5 :: a6 :: a7 :: a8 :: a9 :: a10 :: a11 :: a12 :: a13 :: vR (x + 2) :: r) (vR (x + 2) :: st) M Q) := rfl
theorem w_is_14 {sx : Int → Int} {L mi pc ln fl : Nat} {aux : List Nat} {es : List En} {st : List AV} {M : Mem} {Q : Option AV → Mem → Prop} {a0 a1 a2 a3 a4 a5 a6 a7 a8 a9 a10 a11 a12 a13 : AV} {v : AV} {x : Int} {r : List AV} (hp : cat2 a13 = false) : wpc sx L K0 R0 mi ((pc, ln, .istore 14, aux) :: es) fl (a0 :: a1 :: a2 :: a3 :: a4 :: a5 :: a6 :: a7 :: a8 :: a9 :: a10 :: a11 :: a12 :: a13 :: v :: r) (vI x :: st) M Q = (wpc sx L K0 R0 mi es fl (a0 :: a1 :: a2 :: a3 :: a4 :: a5 :: a6 :: a7 :: a8 :: a9 :: a10 :: a11 :: a12 :: a13 :: vI x :: r) (st) M Q) := propext ⟨fun h => h.2, fun h => ⟨⟨by show (14 : Nat) < _; simp only [List.length_cons]; omega, hp⟩, h⟩⟩
theorem w_as_14 {sx : Int → Int} {L mi pc ln fl : Nat} {aux : List Nat} {es : List En} {st : List AV} {M : Mem} {Q : Option AV → Mem → Prop} {a0 a1 a2 a3 a4 a5 a6 a7 a8 a9 a10 a11 a12 a13 : AV} {v : AV} {x : Nat} {r : List AV} (hp : cat2 a13 = false) : wpc sx L K0 R0 mi ((pc, ln, .astore 14, aux) :: es) fl (a0 :: a1 :: a2 :: a3 :: a4 :: a5 :: a6 :: a7 :: a8 :: a9 :: a10 :: a11 :: a12 :: a13 :: v :: r) (vR (x + 2) :: st) M Q = (wpc sx L K0 R0 mi es fl (a0 :: a1 :: a2 :: a3 :: a4 :: a5 :: a6 :: a7 :: a8 :: a9 :: a10 :: a11 :: a12 :: a13 :: vR (x + 2) :: r) (st) M Q) := propext ⟨fun h => h.2, fun h => ⟨⟨by show (14 : Nat) < _; simp only [List.length_cons]; omega, hp⟩, h⟩⟩
theorem w_inc_14 {sx : Int → Int} {L mi pc ln fl : Nat} {aux : List Nat} {es : List En} {st : List AV} {M : Mem} {Q : Option AV → Mem → Prop} {a0 a1 a2 a3 a4 a5 a6 a7 a8 a9 a10 a11 a12 a13 : AV} {x n : Int} {r : List AV} (hp : cat2 a13 = false) : wpc sx L K0 R0 mi ((pc, ln, .iinc 14 n, aux) :: es) fl (a0 :: a1 :: a2 :: a3 :: a4 :: a5 :: a6 :: a7 :: a8 :: a9 :: a10 :: a11 :: a12 :: a13 :: vI x :: r) (st) M Q = (inR (x + n) ∧ wpc sx L K0 R0 mi es fl (a0 :: a1 :: a2 :: a3 :: a4 :: a5 :: a6 :: a7 :: a8 :: a9 :: a10 :: a11 :: a12 :: a13 :: vI (x + n) :: r) (st) M Q) := propext ⟨fun h => ⟨h.1, h.2.2⟩, fun h => ⟨h.1, ⟨by simp, hp⟩, h.2⟩⟩
theorem w_il_15 {sx : Int → Int} {L mi pc ln fl : Nat} {aux : List Nat} {es : List En} {st : List AV} {M : Mem} {Q : Option AV → Mem → Prop} {a0 a1 a2 a3 a4 a5 a6 a7 a8 a9 a10 a11 a12 a13 a14 : AV} {x : Int} {r : List AV} : wpc sx L K0 R0 mi ((pc, ln, .iload 15, aux) :: es) fl (a0 :: a1 :: a2 :: a3 :: a4 :: a5 :: a6 :: a7 :: a8 :: a9 :: a10 :: a11 :: a12 :: a13 :: a14 :: vI x :: r) (st) M Q = (wpc sx L K0 R0 mi es fl (a0 :: a1 :: a2 :: a3 :: a4 :: a5 :: a6 :: a7 :: a8 :: a9 :: a10 :: a11 :: a12 :: a13 :: a14 :: vI x :: r) (vI x :: st) M Q) := rfl
theorem w_al_15 {sx : Int → Int} {L mi pc ln fl : Nat} {aux : List Nat} {es : List En} {st : List AV} {M : Mem} {Q : Option AV → Mem → Prop} {a0 a1 a2 a3 a4 a5 a6 a7 a8 a9 a10 a11 a12 a13 a14 : AV} {x : Nat} {r : List AV} : wpc sx L K0 R0 mi ((pc, ln, .aload 15, aux) :: es) fl (a0 :: a1 :: a2 :: a3 :: a4 :: a5 :: a6 :: a7 :: a8 :: a9 :: a10 :: a11 :: a12 :: a13 :: a14 :: vR (x + 2) :: r) (st) M Q = (wpc sx L K0 R0 mi es fl (a0 :: a1 :: a2 :: a3 :: a4 :: a5 :: a6 :: a7 :: a8 :: a9 :: a10 :: a11 :: a12 :: a13 :: a14 :: vR (x + 2) :: r) (vR (x + 2) :: st) M Q) := rfl
theorem w_is_15 {sx : Int → Int} {L mi pc ln fl : Nat} {aux : List Nat} {es : List En} {st : List AV} {M : Mem} {Q : Option AV → Mem → Prop} {a0 a1 a2 a3 a4 a5 a6 a7 a8 a9 a10 a11 a12 a13 a14 : AV} {v : AV} {x : Int} {r : List AV} (hp : cat2 a14 = false) : wpc sx L K0 R0 mi ((pc, ln, .istore 15, aux) :: es) fl (a0 :: a1 :: a2 :: a3 :: a4 :: a5 :: a6 :: a7 :: a8 :: a9 :: a10 :: a11 :: a12 :: a13 :: a14 :: v :: r) (vI x :: st) M Q = (wpc sx L K0 R0 mi es fl (a0 :: a1 :: a2 :: a3 :: a4 :: a5 :: a6 :: a7 :: a8 :: a9 :: a10 :: a11 :: a12 :: a13 :: a14 :: vI x :: r) (st) M Q) := propext ⟨fun h => h.2, fun h => ⟨⟨by show (15 : Nat) < _; simp only [List.length_cons]; omega, hp⟩, h⟩⟩
theorem w_as_15 {sx : Int → Int} {L mi pc ln fl : Nat} {aux : List Nat} {es : List En} {st : List AV} {M : Mem} {Q : Option AV → Mem → Prop} {a0 a1 a2 a3 a4 a5 a6 a7 a8 a9 a10 a11 a12 a13 a14 : AV} {v : AV} {x : Nat} {r : List AV} (hp : cat2 a14 = false) : wpc sx L K0 R0 mi ((pc, ln, .astore 15, aux) :: es) fl (a0 :: a1 :: a2 :: a3 :: a4 :: a5 :: a6 :: a7 :: a8 :: a9 :: a10 :: a11 :: a12 :: a13 :: a14 :: v :: r) (vR (x + 2) :: st) M Q = (wpc sx L K0 R0 mi es fl (a0 :: a1 :: a2 :: a3 :: a4 :: a5 :: a6 :: a7 :: a8 :: a9 :: a10 :: a11 :: a12 :: a13 :: a14 :: vR (x + 2) :: r) (st) M Q) := propext ⟨fun h => h.2, fun h => ⟨⟨by show (15 : Nat) < _; simp only [List.length_cons]; omega, hp⟩, h⟩⟩
theorem w_inc_15 {sx : Int → Int} {L mi pc ln fl : Nat} {aux : List Nat} {es : List En} {st : List AV} {M : Mem} {Q : Option AV → Mem → Prop} {a0 a1 a2 a3 a4 a5 a6 a7 a8 a9 a10 a11 a12 a13 a14 : AV} {x n : Int} {r : List AV} (hp : cat2 a14 = false) : wpc sx L K0 R0 mi ((pc, ln, .iinc 15 n, aux) :: es) fl (a0 :: a1 :: a2 :: a3 :: a4 :: a5 :: a6 :: a7 :: a8 :: a9 :: a10 :: a11 :: a12 :: a13 :: a14 :: vI x :: r) (st) M Q = (inR (x + n) ∧ wpc sx L K0 R0 mi es fl (a0 :: a1 :: a2 :: a3 :: a4 :: a5 :: a6 :: a7 :: a8 :: a9 :: a10 :: a11 :: a12 :: a13 :: a14 :: vI (x + n) :: r) (st) M Q) := propext ⟨fun h => ⟨h.1, h.2.2⟩, fun h => ⟨h.1, ⟨by simp, hp⟩, h.2⟩⟩
theorem w_iadd {sx : Int → Int} {L mi pc ln fl : Nat} {aux : List Nat} {es : List En} {ls : List AV} {st : List AV} {M : Mem} {Q : Option AV → Mem → Prop} {x y : Int} : wpc sx L K0 R0 mi ((pc, ln, .iadd, aux) :: es) fl (ls) (vI y :: vI x :: st) M Q = (inR (x + y) ∧ wpc sx L K0 R0 mi es fl (ls) (vI (x + y) :: st) M Q) := rfl
theorem w_isub {sx : Int → Int} {L mi pc ln fl : Nat} {aux : List Nat} {es : List En} {ls : List AV} {st : List AV} {M : Mem} {Q : Option AV → Mem → Prop} {x y : Int} : wpc sx L K0 R0 mi ((pc, ln, .isub, aux) :: es) fl (ls) (vI y :: vI x :: st) M Q = (inR (x - y) ∧ wpc sx L K0 R0 mi es fl (ls) (vI (x - y) :: st) M Q) := rfl
theorem w_imul {sx : Int → Int} {L mi pc ln fl : Nat} {aux : List Nat} {es : List En} {ls : List AV} {st : List AV} {M : Mem} {Q : Option AV → Mem → Prop} {x y : Int} : wpc sx L K0 R0 mi ((pc, ln, .imul, aux) :: es) fl (ls) (vI y :: vI x :: st) M Q = (inR (x * y) ∧ wpc sx L K0 R0 mi es fl (ls) (vI (x * y) :: st) M Q) := rfl
theorem w_idiv {sx : Int → Int} {L mi pc ln fl : Nat} {aux : List Nat} {es : List En} {ls : List AV} {st : List AV} {M : Mem} {Q : Option AV → Mem → Prop} {x y : Int} : wpc sx L K0 R0 mi ((pc, ln, .idiv, aux) :: es) fl (ls) (vI y :: vI x :: st) M Q = ((0 ≤ x ∧ 0 < y) ∧ wpc sx L K0 R0 mi es fl (ls) (vI (x / y) :: st) M Q) := rfl
theorem w_irem {sx : Int → Int} {L mi pc ln fl : Nat} {aux : List Nat} {es : List En} {ls : List AV} {st : List AV} {M : Mem} {Q : Option AV → Mem → Prop} {x y : Int} : wpc sx L K0 R0 mi ((pc, ln, .irem, aux) :: es) fl (ls) (vI y :: vI x :: st) M Q = ((0 ≤ x ∧ 0 < y) ∧ wpc sx L K0 R0 mi es fl (ls) (vI (x % y) :: st) M Q) := rfl
theorem w_ineg {sx : Int → Int} {L mi pc ln fl : Nat} {aux : List Nat} {es : List En} {ls : List AV} {st : List AV} {M : Mem} {Q : Option AV → Mem → Prop} {x : Int} : wpc sx L K0 R0 mi ((pc, ln, .ineg, aux) :: es) fl (ls) (vI x :: st) M Q = (inR (-x) ∧ wpc sx L K0 R0 mi es fl (ls) (vI (-x) :: st) M Q) := rfl
theorem w_iand {sx : Int → Int} {L mi pc ln fl : Nat} {aux : List Nat} {es : List En} {ls : List AV} {st : List AV} {M : Mem} {Q : Option AV → Mem → Prop} {x y : Int} : wpc sx L K0 R0 mi ((pc, ln, .iand, aux) :: es) fl (ls) (vI y :: vI x :: st) M Q = (wpc sx L K0 R0 mi es fl (ls) (vI (iAnd x y) :: st) M Q) := rfl
theorem w_ior {sx : Int → Int} {L mi pc ln fl : Nat} {aux : List Nat} {es : List En} {ls : List AV} {st : List AV} {M : Mem} {Q : Option AV → Mem → Prop} {x y : Int} : wpc sx L K0 R0 mi ((pc, ln, .ior, aux) :: es) fl (ls) (vI y :: vI x :: st) M Q = (wpc sx L K0 R0 mi es fl (ls) (vI (iOr x y) :: st) M Q) := rfl
theorem w_ixor {sx : Int → Int} {L mi pc ln fl : Nat} {aux : List Nat} {es : List En} {ls : List AV} {st : List AV} {M : Mem} {Q : Option AV → Mem → Prop} {x y : Int} : wpc sx L K0 R0 mi ((pc, ln, .ixor, aux) :: es) fl (ls) (vI y :: vI x :: st) M Q = (wpc sx L K0 R0 mi es fl (ls) (vI (iXor x y) :: st) M Q) := rfl
theorem w_ishl {sx : Int → Int} {L mi pc ln fl : Nat} {aux : List Nat} {es : List En} {ls : List AV} {st : List AV} {M : Mem} {Q : Option AV → Mem → Prop} {x y : Int} : wpc sx L K0 R0 mi ((pc, ln, .ishl, aux) :: es) fl (ls) (vI y :: vI x :: st) M Q = ((0 ≤ x ∧ 0 ≤ y ∧ y ≤ 30 ∧ x * 2 ^ y.toNat ≤ 2147483647) ∧ wpc sx L K0 R0 mi es fl (ls) (vI (x * 2 ^ y.toNat) :: st) M Q) := rfl
theorem w_ishr {sx : Int → Int} {L mi pc ln fl : Nat} {aux : List Nat} {es : List En} {ls : List AV} {st : List AV} {M : Mem} {Q : Option AV → Mem → Prop} {x y : Int} : wpc sx L K0 R0 mi ((pc, ln, .ishr, aux) :: es) fl (ls) (vI y :: vI x :: st) M Q = ((0 ≤ x ∧ 0 ≤ y ∧ y ≤ 30) ∧ wpc sx L K0 R0 mi es fl (ls) (vI (x / 2 ^ y.toNat) :: st) M Q) := rfl
theorem w_iushr {sx : Int → Int} {L mi pc ln fl : Nat} {aux : List Nat} {es : List En} {ls : List AV} {st : List AV} {M : Mem} {Q : Option AV → Mem → Prop} {x y : Int} : wpc sx L K0 R0 mi ((pc, ln, .iushr, aux) :: es) fl (ls) (vI y :: vI x :: st) M Q = ((0 ≤ x ∧ 0 ≤ y ∧ y ≤ 30) ∧ wpc sx L K0 R0 mi es fl (ls) (vI (x / 2 ^ y.toNat) :: st) M Q) := rfl
theorem w_i2l {sx : Int → Int} {L mi pc ln fl : Nat} {aux : List Nat} {es : List En} {ls : List AV} {st : List AV} {M : Mem} {Q : Option AV → Mem → Prop} {x : Int} : wpc sx L K0 R0 mi ((pc, ln, .i2l, aux) :: es) fl (ls) (vI x :: st) M Q = (wpc sx L K0 R0 mi es fl (ls) (vL x :: st) M Q) := rfl
theorem w_i2b {sx : Int → Int} {L mi pc ln fl : Nat} {aux : List Nat} {es : List En} {ls : List AV} {st : List AV} {M : Mem} {Q : Option AV → Mem → Prop} {x : Int} : wpc sx L K0 R0 mi ((pc, ln, .i2b, aux) :: es) fl (ls) (vI x :: st) M Q = (wpc sx L K0 R0 mi es fl (ls) (vI (i2B x) :: st) M Q) := rfl
theorem w_i2s {sx : Int → Int} {L mi pc ln fl : Nat} {aux : List Nat} {es : List En} {ls : List AV} {st : List AV} {M : Mem} {Q : Option AV → Mem → Prop} {x : Int} : wpc sx L K0 R0 mi ((pc, ln, .i2s, aux) :: es) fl (ls) (vI x :: st) M Q = (wpc sx L K0 R0 mi es fl (ls) (vI (i2S x) :: st) M Q) := rfl
theorem w_ladd {sx : Int → Int} {L mi pc ln fl : Nat} {aux : List Nat} {es : List En} {ls : List AV} {st : List AV} {M : Mem} {Q : Option AV → Mem → Prop} {x y : Int} : wpc sx L K0 R0 mi ((pc, ln, .ladd, aux) :: es) fl (ls) (vL y :: vL x :: st) M Q = (wpc sx L K0 R0 mi es fl (ls) (vL (lAdd x y) :: st) M Q) := rfl
theorem w_lmul {sx : Int → Int} {L mi pc ln fl : Nat} {aux : List Nat} {es : List En} {ls : List AV} {st : List AV} {M : Mem} {Q : Option AV → Mem → Prop} {x y : Int} : wpc sx L K0 R0 mi ((pc, ln, .lmul, aux) :: es) fl (ls) (vL y :: vL x :: st) M Q = (wpc sx L K0 R0 mi es fl (ls) (vL (lMul x y) :: st) M Q) := rfl
theorem w_lcmp {sx : Int → Int} {L mi pc ln fl : Nat} {aux : List Nat} {es : List En} {ls : List AV} {st : List AV} {M : Mem} {Q : Option AV → Mem → Prop} {x y : Int} : wpc sx L K0 R0 mi ((pc, ln, .lcmp, aux) :: es) fl (ls) (vL y :: vL x :: st) M Q = (wpc sx L K0 R0 mi es fl (ls) (vI (if x < y then -1 else if x = y then 0 else 1) :: st) M Q) := rfl
theorem w_dup {sx : Int → Int} {L mi pc ln fl : Nat} {aux : List Nat} {es : List En} {ls : List AV} {st : List AV} {M : Mem} {Q : Option AV → Mem → Prop} {v : AV} (hp : cat2 v = false) : wpc sx L K0 R0 mi ((pc, ln, .dup, aux) :: es) fl (ls) (v :: st) M Q = (wpc sx L K0 R0 mi es fl (ls) (v :: v :: st) M Q) := propext ⟨fun h => h.2, fun h => ⟨hp, h⟩⟩
theorem w_dup2 {sx : Int → Int} {L mi pc ln fl : Nat} {aux : List Nat} {es : List En} {ls : List AV} {st : List AV} {M : Mem} {Q : Option AV → Mem → Prop} {v w : AV} (hp : cat2 v = false) (hw : cat2 w = false) : wpc sx L K0 R0 mi ((pc, ln, .dup2, aux) :: es) fl (ls) (v :: w :: st) M Q = (wpc sx L K0 R0 mi es fl (ls) (v :: w :: v :: w :: st) M Q) := propext ⟨fun h => h.2, fun h => ⟨⟨hp, hw⟩, h⟩⟩
theorem w_goto {sx : Int → Int} {L mi pc ln fl : Nat} {es : List En} {ls : List AV} {st : List AV} {M : Mem} {Q : Option AV → Mem → Prop} {off : Int} {j : Nat} {u : List Nat} : wpc sx L K0 R0 mi ((pc, ln, .goto off, (j :: u)) :: es) fl (ls) (st) M Q = (Rn sx L K0 R0 mi j (ls) (st) M Q) := rfl
theorem w_if_eq {sx : Int → Int} {L mi pc ln fl : Nat} {es : List En} {ls : List AV} {st : List AV} {M : Mem} {Q : Option AV → Mem → Prop} {off : Int} {x : Int} {j : Nat} {u : List Nat} : wpc sx L K0 R0 mi ((pc, ln, .ifCond .eq off, (j :: u)) :: es) fl (ls) (vI x :: st) M Q = ((x = 0 → Rn sx L K0 R0 mi j (ls) (st) M Q) ∧ (¬ (x = 0) → wpc sx L K0 R0 mi es fl (ls) (st) M Q)) := rfl
theorem w_ic_eq {sx : Int → Int} {L mi pc ln fl : Nat} {es : List En} {ls : List AV} {st : List AV} {M : Mem} {Q : Option AV → Mem → Prop} {off : Int} {x y : Int} {j : Nat} {u : List Nat} : wpc sx L K0 R0 mi ((pc, ln, .if_icmp .eq off, (j :: u)) :: es) fl (ls) (vI y :: vI x :: st) M Q = ((x = y → Rn sx L K0 R0 mi j (ls) (st) M Q) ∧ (¬ (x = y) → wpc sx L K0 R0 mi es fl (ls) (st) M Q)) := rfl
theorem w_if_ne {sx : Int → Int} {L mi pc ln fl : Nat} {es : List En} {ls : List AV} {st : List AV} {M : Mem} {Q : Option AV → Mem → Prop} {off : Int} {x : Int} {j : Nat} {u : List Nat} : wpc sx L K0 R0 mi ((pc, ln, .ifCond .ne off, (j :: u)) :: es) fl (ls) (vI x :: st) M Q = ((¬ x = 0 → Rn sx L K0 R0 mi j (ls) (st) M Q) ∧ (¬ (¬ x = 0) → wpc sx L K0 R0 mi es fl (ls) (st) M Q)) := rfl
theorem w_ic_ne {sx : Int → Int} {L mi pc ln fl : Nat} {es : List En} {ls : List AV} {st : List AV} {M : Mem} {Q : Option AV → Mem → Prop} {off : Int} {x y : Int} {j : Nat} {u : List Nat} : wpc sx L K0 R0 mi ((pc, ln, .if_icmp .ne off, (j :: u)) :: es) fl (ls) (vI y :: vI x :: st) M Q = ((¬ x = y → Rn sx L K0 R0 mi j (ls) (st) M Q) ∧ (¬ (¬ x = y) → wpc sx L K0 R0 mi es fl (ls) (st) M Q)) := rfl
theorem w_if_lt {sx : Int → Int} {L mi pc ln fl : Nat} {es : List En} {ls : List AV} {st : List AV} {M : Mem} {Q : Option AV → Mem → Prop} {off : Int} {x : Int} {j : Nat} {u : List Nat} : wpc sx L K0 R0 mi ((pc, ln, .ifCond .lt off, (j :: u)) :: es) fl (ls) (vI x :: st) M Q = ((x < 0 → Rn sx L K0 R0 mi j (ls) (st) M Q) ∧ (¬ (x < 0) → wpc sx L K0 R0 mi es fl (ls) (st) M Q)) := rfl
theorem w_ic_lt {sx : Int → Int} {L mi pc ln fl : Nat} {es : List En} {ls : List AV} {st : List AV} {M : Mem} {Q : Option AV → Mem → Prop} {off : Int} {x y : Int} {j : Nat} {u : List Nat} : wpc sx L K0 R0 mi ((pc, ln, .if_icmp .lt off, (j :: u)) :: es) fl (ls) (vI y :: vI x :: st) M Q = ((x < y → Rn sx L K0 R0 mi j (ls) (st) M Q) ∧ (¬ (x < y) → wpc sx L K0 R0 mi es fl (ls) (st) M Q)) := rfl
theorem w_if_ge {sx : Int → Int} {L mi pc ln fl : Nat} {es : List En} {ls : List AV} {st : List AV} {M : Mem} {Q : Option AV → Mem → Prop} {off : Int} {x : Int} {j : Nat} {u : List Nat} : wpc sx L K0 R0 mi ((pc, ln, .ifCond .ge off, (j :: u)) :: es) fl (ls) (vI x :: st) M Q = ((0 ≤ x → Rn sx L K0 R0 mi j (ls) (st) M Q) ∧ (¬ (0 ≤ x) → wpc sx L K0 R0 mi es fl (ls) (st) M Q)) := rfl
theorem w_ic_ge {sx : Int → Int} {L mi pc ln fl : Nat} {es : List En} {ls : List AV} {st : List AV} {M : Mem} {Q : Option AV → Mem → Prop} {off : Int} {x y : Int} {j : Nat} {u : List Nat} : wpc sx L K0 R0 mi ((pc, ln, .if_icmp .ge off, (j :: u)) :: es) fl (ls) (vI y :: vI x :: st) M Q = ((y ≤ x → Rn sx L K0 R0 mi j (ls) (st) M Q) ∧ (¬ (y ≤ x) → wpc sx L K0 R0 mi es fl (ls) (st) M Q)) := rfl
theorem w_if_gt {sx : Int → Int} {L mi pc ln fl : Nat} {es : List En} {ls : List AV} {st : List AV} {M : Mem} {Q : Option AV → Mem → Prop} {off : Int} {x : Int} {j : Nat} {u : List Nat} : wpc sx L K0 R0 mi ((pc, ln, .ifCond .gt off, (j :: u)) :: es) fl (ls) (vI x :: st) M Q = ((0 < x → Rn sx L K0 R0 mi j (ls) (st) M Q) ∧ (¬ (0 < x) → wpc sx L K0 R0 mi es fl (ls) (st) M Q)) := rfl
theorem w_ic_gt {sx : Int → Int} {L mi pc ln fl : Nat} {es : List En} {ls : List AV} {st : List AV} {M : Mem} {Q : Option AV → Mem → Prop} {off : Int} {x y : Int} {j : Nat} {u : List Nat} : wpc sx L K0 R0 mi ((pc, ln, .if_icmp .gt off, (j :: u)) :: es) fl (ls) (vI y :: vI x :: st) M Q = ((y < x → Rn sx L K0 R0 mi j (ls) (st) M Q) ∧ (¬ (y < x) → wpc sx L K0 R0 mi es fl (ls) (st) M Q)) := rfl
theorem w_if_le {sx : Int → Int} {L mi pc ln fl : Nat} {es : List En} {ls : List AV} {st : List AV} {M : Mem} {Q : Option AV → Mem → Prop} {off : Int} {x : Int} {j : Nat} {u : List Nat} : wpc sx L K0 R0 mi ((pc, ln, .ifCond .le off, (j :: u)) :: es) fl (ls) (vI x :: st) M Q = ((x ≤ 0 → Rn sx L K0 R0 mi j (ls) (st) M Q) ∧ (¬ (x ≤ 0) → wpc sx L K0 R0 mi es fl (ls) (st) M Q)) := rfl
theorem w_ic_le {sx : Int → Int} {L mi pc ln fl : Nat} {es : List En} {ls : List AV} {st : List AV} {M : Mem} {Q : Option AV → Mem → Prop} {off : Int} {x y : Int} {j : Nat} {u : List Nat} : wpc sx L K0 R0 mi ((pc, ln, .if_icmp .le off, (j :: u)) :: es) fl (ls) (vI y :: vI x :: st) M Q = ((x ≤ y → Rn sx L K0 R0 mi j (ls) (st) M Q) ∧ (¬ (x ≤ y) → wpc sx L K0 R0 mi es fl (ls) (st) M Q)) := rfl
theorem w_gf_0_0 {sx : Int → Int} {L mi pc ln fl : Nat} {es : List En} {ls : List AV} {st : List AV} {M : Mem} {Q : Option AV → Mem → Prop} {i h c : Nat} : wpc sx L K0 R0 mi ((pc, ln, .getfield i, [0, 0, h]) :: es) fl (ls) (vR (c + 2) :: st) M Q = (kin K0 c 0 ∧ wpc sx L K0 R0 mi es fl (ls) (vR (R0 c 0) :: st) M Q) := rfl
theorem w_gf_0_1 {sx : Int → Int} {L mi pc ln fl : Nat} {es : List En} {ls : List AV} {st : List AV} {M : Mem} {Q : Option AV → Mem → Prop} {i h c : Nat} : wpc sx L K0 R0 mi ((pc, ln, .getfield i, [0, 1, h]) :: es) fl (ls) (vR (c + 2) :: st) M Q = (kin K0 c 0 ∧ wpc sx L K0 R0 mi es fl (ls) (vR (R0 c 1) :: st) M Q) := rfl
theorem w_gf_0_2 {sx : Int → Int} {L mi pc ln fl : Nat} {es : List En} {ls : List AV} {st : List AV} {M : Mem} {Q : Option AV → Mem → Prop} {i h c : Nat} : wpc sx L K0 R0 mi ((pc, ln, .getfield i, [0, 2, h]) :: es) fl (ls) (vR (c + 2) :: st) M Q = (kin K0 c 0 ∧ wpc sx L K0 R0 mi es fl (ls) (vI (M c 2) :: st) M Q) := rfl
theorem w_pf_0_2 {sx : Int → Int} {L mi pc ln fl : Nat} {es : List En} {ls : List AV} {st : List AV} {M : Mem} {Q : Option AV → Mem → Prop} {i h c : Nat} {x : Int} : wpc sx L K0 R0 mi ((pc, ln, .putfield i, [0, 2, h]) :: es) fl (ls) (vI x :: vR (c + 2) :: st) M Q = (kin K0 c 0 ∧ wpc sx L K0 R0 mi es fl (ls) (st) (mset M c 2 x) Q) := propext ⟨fun h => ⟨h.1.1, h.2⟩, fun h => ⟨⟨h.1, trivial⟩, h.2⟩⟩
theorem w_gf_0_3 {sx : Int → Int} {L mi pc ln fl : Nat} {es : List En} {ls : List AV} {st : List AV} {M : Mem} {Q : Option AV → Mem → Prop} {i h c : Nat} : wpc sx L K0 R0 mi ((pc, ln, .getfield i, [0, 3, h]) :: es) fl (ls) (vR (c + 2) :: st) M Q = (kin K0 c 0 ∧ wpc sx L K0 R0 mi es fl (ls) (vI (M c 3) :: st) M Q) := rfl
theorem w_pf_0_3 {sx : Int → Int} {L mi pc ln fl : Nat} {es : List En} {ls : List AV} {st : List AV} {M : Mem} {Q : Option AV → Mem → Prop} {i h c : Nat} {x : Int} : wpc sx L K0 R0 mi ((pc, ln, .putfield i, [0, 3, h]) :: es) fl (ls) (vI x :: vR (c + 2) :: st) M Q = (kin K0 c 0 ∧ wpc sx L K0 R0 mi es fl (ls) (st) (mset M c 3 x) Q) := propext ⟨fun h => ⟨h.1.1, h.2⟩, fun h => ⟨⟨h.1, trivial⟩, h.2⟩⟩
theorem w_gf_0_4 {sx : Int → Int} {L mi pc ln fl : Nat} {es : List En} {ls : List AV} {st : List AV} {M : Mem} {Q : Option AV → Mem → Prop} {i h c : Nat} : wpc sx L K0 R0 mi ((pc, ln, .getfield i, [0, 4, h]) :: es) fl (ls) (vR (c + 2) :: st) M Q = (kin K0 c 0 ∧ wpc sx L K0 R0 mi es fl (ls) (vI (M c 4) :: st) M Q) := rfl
theorem w_pf_0_4 {sx : Int → Int} {L mi pc ln fl : Nat} {es : List En} {ls : List AV} {st : List AV} {M : Mem} {Q : Option AV → Mem → Prop} {i h c : Nat} {x : Int} : wpc sx L K0 R0 mi ((pc, ln, .putfield i, [0, 4, h]) :: es) fl (ls) (vI x :: vR (c + 2) :: st) M Q = (kin K0 c 0 ∧ wpc sx L K0 R0 mi es fl (ls) (st) (mset M c 4 x) Q) := propext ⟨fun h => ⟨h.1.1, h.2⟩, fun h => ⟨⟨h.1, trivial⟩, h.2⟩⟩
theorem w_gf_0_5 {sx : Int → Int} {L mi pc ln fl : Nat} {es : List En} {ls : List AV} {st : List AV} {M : Mem} {Q : Option AV → Mem → Prop} {i h c : Nat} : wpc sx L K0 R0 mi ((pc, ln, .getfield i, [0, 5, h]) :: es) fl (ls) (vR (c + 2) :: st) M Q = (kin K0 c 0 ∧ wpc sx L K0 R0 mi es fl (ls) (vI (M c 5) :: st) M Q) := rfl
theorem w_pf_0_5 {sx : Int → Int} {L mi pc ln fl : Nat} {es : List En} {ls : List AV} {st : List AV} {M : Mem} {Q : Option AV → Mem → Prop} {i h c : Nat} {x : Int} : wpc sx L K0 R0 mi ((pc, ln, .putfield i, [0, 5, h]) :: es) fl (ls) (vI x :: vR (c + 2) :: st) M Q = (kin K0 c 0 ∧ wpc sx L K0 R0 mi es fl (ls) (st) (mset M c 5 x) Q) := propext ⟨fun h => ⟨h.1.1, h.2⟩, fun h => ⟨⟨h.1, trivial⟩, h.2⟩⟩
theorem w_gf_0_6 {sx : Int → Int} {L mi pc ln fl : Nat} {es : List En} {ls : List AV} {st : List AV} {M : Mem} {Q : Option AV → Mem → Prop} {i h c : Nat} : wpc sx L K0 R0 mi ((pc, ln, .getfield i, [0, 6, h]) :: es) fl (ls) (vR (c + 2) :: st) M Q = (kin K0 c 0 ∧ wpc sx L K0 R0 mi es fl (ls) (vI (M c 6) :: st) M Q) := rfl
theorem w_pf_0_6 {sx : Int → Int} {L mi pc ln fl : Nat} {es : List En} {ls : List AV} {st : List AV} {M : Mem} {Q : Option AV → Mem → Prop} {i h c : Nat} {x : Int} : wpc sx L K0 R0 mi ((pc, ln, .putfield i, [0, 6, h]) :: es) fl (ls) (vI x :: vR (c + 2) :: st) M Q = (kin K0 c 0 ∧ wpc sx L K0 R0 mi es fl (ls) (st) (mset M c 6 x) Q) := propext ⟨fun h => ⟨h.1.1, h.2⟩, fun h => ⟨⟨h.1, trivial⟩, h.2⟩⟩
theorem w_gf_0_7 {sx : Int → Int} {L mi pc ln fl : Nat} {es : List En} {ls : List AV} {st : List AV} {M : Mem} {Q : Option AV → Mem → Prop} {i h c : Nat} : wpc sx L K0 R0 mi ((pc, ln, .getfield i, [0, 7, h]) :: es) fl (ls) (vR (c + 2) :: st) M Q = (kin K0 c 0 ∧ wpc sx L K0 R0 mi es fl (ls) (vI (M c 7) :: st) M Q) := rfl
theorem w_pf_0_7 {sx : Int → Int} {L mi pc ln fl : Nat} {es : List En} {ls : List AV} {st : List AV} {M : Mem} {Q : Option AV → Mem → Prop} {i h c : Nat} {x : Int} : wpc sx L K0 R0 mi ((pc, ln, .putfield i, [0, 7, h]) :: es) fl (ls) (vI x :: vR (c + 2) :: st) M Q = (kin K0 c 0 ∧ wpc sx L K0 R0 mi es fl (ls) (st) (mset M c 7 x) Q) := propext ⟨fun h => ⟨h.1.1, h.2⟩, fun h => ⟨⟨h.1, trivial⟩, h.2⟩⟩
theorem w_gf_0_8 {sx : Int → Int} {L mi pc ln fl : Nat} {es : List En} {ls : List AV} {st : List AV} {M : Mem} {Q : Option AV → Mem → Prop} {i h c : Nat} : wpc sx L K0 R0 mi ((pc, ln, .getfield i, [0, 8, h]) :: es) fl (ls) (vR (c + 2) :: st) M Q = (kin K0 c 0 ∧ wpc sx L K0 R0 mi es fl (ls) (vI (M c 8) :: st) M Q) := rfl
theorem w_pf_0_8 {sx : Int → Int} {L mi pc ln fl : Nat} {es : List En} {ls : List AV} {st : List AV} {M : Mem} {Q : Option AV → Mem → Prop} {i h c : Nat} {x : Int} : wpc sx L K0 R0 mi ((pc, ln, .putfield i, [0, 8, h]) :: es) fl (ls) (vI x :: vR (c + 2) :: st) M Q = (kin K0 c 0 ∧ wpc sx L K0 R0 mi es fl (ls) (st) (mset M c 8 x) Q) := propext ⟨fun h => ⟨h.1.1, h.2⟩, fun h => ⟨⟨h.1, trivial⟩, h.2⟩⟩
theorem w_gf_0_9 {sx : Int → Int} {L mi pc ln fl : Nat} {es : List En} {ls : List AV} {st : List AV} {M : Mem} {Q : Option AV → Mem → Prop} {i h c : Nat} : wpc sx L K0 R0 mi ((pc, ln, .getfield i, [0, 9, h]) :: es) fl (ls) (vR (c + 2) :: st) M Q = (kin K0 c 0 ∧ wpc sx L K0 R0 mi es fl (ls) (vI (M c 9) :: st) M Q) := rfl
theorem w_pf_0_9 {sx : Int → Int} {L mi pc ln fl : Nat} {es : List En} {ls : List AV} {st : List AV} {M : Mem} {Q : Option AV → Mem → Prop} {i h c : Nat} {x : Int} : wpc sx L K0 R0 mi ((pc, ln, .putfield i, [0, 9, h]) :: es) fl (ls) (vI x :: vR (c + 2) :: st) M Q = (kin K0 c 0 ∧ wpc sx L K0 R0 mi es fl (ls) (st) (mset M c 9 x) Q) := propext ⟨fun h => ⟨h.1.1, h.2⟩, fun h => ⟨⟨h.1, trivial⟩, h.2⟩⟩
theorem w_gf_0_10 {sx : Int → Int} {L mi pc ln fl : Nat} {es : List En} {ls : List AV} {st : List AV} {M : Mem} {Q : Option AV → Mem → Prop} {i h c : Nat} : wpc sx L K0 R0 mi ((pc, ln, .getfield i, [0, 10, h]) :: es) fl (ls) (vR (c + 2) :: st) M Q = (kin K0 c 0 ∧ wpc sx L K0 R0 mi es fl (ls) (vI (M c 10) :: st) M Q) := rfl
theorem w_pf_0_10 {sx : Int → Int} {L mi pc ln fl : Nat} {es : List En} {ls : List AV} {st : List AV} {M : Mem} {Q : Option AV → Mem → Prop} {i h c : Nat} {x : Int} : wpc sx L K0 R0 mi ((pc, ln, .putfield i, [0, 10, h]) :: es) fl (ls) (vI x :: vR (c + 2) :: st) M Q = (kin K0 c 0 ∧ wpc sx L K0 R0 mi es fl (ls) (st) (mset M c 10 x) Q) := propext ⟨fun h => ⟨h.1.1, h.2⟩, fun h => ⟨⟨h.1, trivial⟩, h.2⟩⟩
theorem w_gf_0_11 {sx : Int → Int} {L mi pc ln fl : Nat} {es : List En} {ls : List AV} {st : List AV} {M : Mem} {Q : Option AV → Mem → Prop} {i h c : Nat} : wpc sx L K0 R0 mi ((pc, ln, .getfield i, [0, 11, h]) :: es) fl (ls) (vR (c + 2) :: st) M Q = (kin K0 c 0 ∧ wpc sx L K0 R0 mi es fl (ls) (vI (M c 11) :: st) M Q) := rfl
theorem w_pf_0_11 {sx : Int → Int} {L mi pc ln fl : Nat} {es : List En} {ls : List AV} {st : List AV} {M : Mem} {Q : Option AV → Mem → Prop} {i h c : Nat} {x : Int} : wpc sx L K0 R0 mi ((pc, ln, .putfield i, [0, 11, h]) :: es) fl (ls) (vI x :: vR (c + 2) :: st) M Q = (kin K0 c 0 ∧ wpc sx L K0 R0 mi es fl (ls) (st) (mset M c 11 x) Q) := propext ⟨fun h => ⟨h.1.1, h.2⟩, fun h => ⟨⟨h.1, trivial⟩, h.2⟩⟩
theorem w_gf_0_12 {sx : Int → Int} {L mi pc ln fl : Nat} {es : List En} {ls : List AV} {st : List AV} {M : Mem} {Q : Option AV → Mem → Prop} {i h c : Nat} : wpc sx L K0 R0 mi ((pc, ln, .getfield i, [0, 12, h]) :: es) fl (ls) (vR (c + 2) :: st) M Q = (kin K0 c 0 ∧ wpc sx L K0 R0 mi es fl (ls) (vI (M c 12) :: st) M Q) := rfl
theorem w_pf_0_12 {sx : Int → Int} {L mi pc ln fl : Nat} {es : List En} {ls : List AV} {st : List AV} {M : Mem} {Q : Option AV → Mem → Prop} {i h c : Nat} {x : Int} : wpc sx L K0 R0 mi ((pc, ln, .putfield i, [0, 12, h]) :: es) fl (ls) (vI x :: vR (c + 2) :: st) M Q = (kin K0 c 0 ∧ wpc sx L K0 R0 mi es fl (ls) (st) (mset M c 12 x) Q) := propext ⟨fun h => ⟨h.1.1, h.2⟩, fun h => ⟨⟨h.1, trivial⟩, h.2⟩⟩
theorem w_gf_0_13 {sx : Int → Int} {L mi pc ln fl : Nat} {es : List En} {ls : List AV} {st : List AV} {M : Mem} {Q : Option AV → Mem → Prop} {i h c : Nat} : wpc sx L K0 R0 mi ((pc, ln, .getfield i, [0, 13, h]) :: es) fl (ls) (vR (c + 2) :: st) M Q = (kin K0 c 0 ∧ wpc sx L K0 R0 mi es fl (ls) (vI (M c 13) :: st) M Q) := rfl
theorem w_pf_0_13 {sx : Int → Int} {L mi pc ln fl : Nat} {es : List En} {ls : List AV} {st : List AV} {M : Mem} {Q : Option AV → Mem → Prop} {i h c : Nat} {x : Int} : wpc sx L K0 R0 mi ((pc, ln, .putfield i, [0, 13, h]) :: es) fl (ls) (vI x :: vR (c + 2) :: st) M Q = (kin K0 c 0 ∧ wpc sx L K0 R0 mi es fl (ls) (st) (mset M c 13 x) Q) := propext ⟨fun h => ⟨h.1.1, h.2⟩, fun h => ⟨⟨h.1, trivial⟩, h.2⟩⟩
theorem w_gf_0_14 {sx : Int → Int} {L mi pc ln fl : Nat} {es : List En} {ls : List AV} {st : List AV} {M : Mem} {Q : Option AV → Mem → Prop} {i h c : Nat} : wpc sx L K0 R0 mi ((pc, ln, .getfield i, [0, 14, h]) :: es) fl (ls) (vR (c + 2) :: st) M Q = (kin K0 c 0 ∧ wpc sx L K0 R0 mi es fl (ls) (vI (M c 14) :: st) M Q) := rfl
theorem w_pf_0_14 {sx : Int → Int} {L mi pc ln fl : Nat} {es : List En} {ls : List AV} {st : List AV} {M : Mem} {Q : Option AV → Mem → Prop} {i h c : Nat} {x : Int} : wpc sx L K0 R0 mi ((pc, ln, .putfield i, [0, 14, h]) :: es) fl (ls) (vI x :: vR (c + 2) :: st) M Q = (kin K0 c 0 ∧ wpc sx L K0 R0 mi es fl (ls) (st) (mset M c 14 x) Q) := propext ⟨fun h => ⟨h.1.1, h.2⟩, fun h => ⟨⟨h.1, trivial⟩, h.2⟩⟩
theorem w_gf_0_15 {sx : Int → Int} {L mi pc ln fl : Nat} {es : List En} {ls : List AV} {st : List AV} {M : Mem} {Q : Option AV → Mem → Prop} {i h c : Nat} : wpc sx L K0 R0 mi ((pc, ln, .getfield i, [0, 15, h]) :: es) fl (ls) (vR (c + 2) :: st) M Q = (kin K0 c 0 ∧ wpc sx L K0 R0 mi es fl (ls) (vI (M c 15) :: st) M Q) := rfl
theorem w_pf_0_15 {sx : Int → Int} {L mi pc ln fl : Nat} {es : List En} {ls : List AV} {st : List AV} {M : Mem} {Q : Option AV → Mem → Prop} {i h c : Nat} {x : Int} : wpc sx L K0 R0 mi ((pc, ln, .putfield i, [0, 15, h]) :: es) fl (ls) (vI x :: vR (c + 2) :: st) M Q = (kin K0 c 0 ∧ wpc sx L K0 R0 mi es fl (ls) (st) (mset M c 15 x) Q) := propext ⟨fun h => ⟨h.1.1, h.2⟩, fun h => ⟨⟨h.1, trivial⟩, h.2⟩⟩
theorem w_gf_0_16 {sx : Int → Int} {L mi pc ln fl : Nat} {es : List En} {ls : List AV} {st : List AV} {M : Mem} {Q : Option AV → Mem → Prop} {i h c : Nat} : wpc sx L K0 R0 mi ((pc, ln, .getfield i, [0, 16, h]) :: es) fl (ls) (vR (c + 2) :: st) M Q = (kin K0 c 0 ∧ wpc sx L K0 R0 mi es fl (ls) (vI (M c 16) :: st) M Q) := rfl
theorem w_pf_0_16 {sx : Int → Int} {L mi pc ln fl : Nat} {es : List En} {ls : List AV} {st : List AV} {M : Mem} {Q : Option AV → Mem → Prop} {i h c : Nat} {x : Int} : wpc sx L K0 R0 mi ((pc, ln, .putfield i, [0, 16, h]) :: es) fl (ls) (vI x :: vR (c + 2) :: st) M Q = (kin K0 c 0 ∧ wpc sx L K0 R0 mi es fl (ls) (st) (mset M c 16 x) Q) := propext ⟨fun h => ⟨h.1.1, h.2⟩, fun h => ⟨⟨h.1, trivial⟩, h.2⟩⟩
theorem w_gf_0_17 {sx : Int → Int} {L mi pc ln fl : Nat} {es : List En} {ls : List AV} {st : List AV} {M : Mem} {Q : Option AV → Mem → Prop} {i h c : Nat} : wpc sx L K0 R0 mi ((pc, ln, .getfield i, [0, 17, h]) :: es) fl (ls) (vR (c + 2) :: st) M Q = (kin K0 c 0 ∧ wpc sx L K0 R0 mi es fl (ls) (vI (M c 17) :: st) M Q) := rfl
theorem w_pf_0_17 {sx : Int → Int} {L mi pc ln fl : Nat} {es : List En} {ls : List AV} {st : List AV} {M : Mem} {Q : Option AV → Mem → Prop} {i h c : Nat} {x : Int} : wpc sx L K0 R0 mi ((pc, ln, .putfield i, [0, 17, h]) :: es) fl (ls) (vI x :: vR (c + 2) :: st) M Q = (kin K0 c 0 ∧ wpc sx L K0 R0 mi es fl (ls) (st) (mset M c 17 x) Q) := propext ⟨fun h => ⟨h.1.1, h.2⟩, fun h => ⟨⟨h.1, trivial⟩, h.2⟩⟩
theorem w_gf_1_0 {sx : Int → Int} {L mi pc ln fl : Nat} {es : List En} {ls : List AV} {st : List AV} {M : Mem} {Q : Option AV → Mem → Prop} {i h c : Nat} : wpc sx L K0 R0 mi ((pc, ln, .getfield i, [1, 0, h]) :: es) fl (ls) (vR (c + 2) :: st) M Q = (kin K0 c 1 ∧ wpc sx L K0 R0 mi es fl (ls) (vR (R0 c 0) :: st) M Q) := rfl
theorem w_gf_1_1 {sx : Int → Int} {L mi pc ln fl : Nat} {es : List En} {ls : List AV} {st : List AV} {M : Mem} {Q : Option AV → Mem → Prop} {i h c : Nat} : wpc sx L K0 R0 mi ((pc, ln, .getfield i, [1, 1, h]) :: es) fl (ls) (vR (c + 2) :: st) M Q = (kin K0 c 1 ∧ wpc sx L K0 R0 mi es fl (ls) (vI (M c 1) :: st) M Q) := rfl
theorem w_pf_1_1 {sx : Int → Int} {L mi pc ln fl : Nat} {es : List En} {ls : List AV} {st : List AV} {M : Mem} {Q : Option AV → Mem → Prop} {i h c : Nat} {x : Int} : wpc sx L K0 R0 mi ((pc, ln, .putfield i, [1, 1, h]) :: es) fl (ls) (vI x :: vR (c + 2) :: st) M Q = (kin K0 c 1 ∧ wpc sx L K0 R0 mi es fl (ls) (st) (mset M c 1 x) Q) := propext ⟨fun h => ⟨h.1.1, h.2⟩, fun h => ⟨⟨h.1, trivial⟩, h.2⟩⟩
theorem w_gf_1_2 {sx : Int → Int} {L mi pc ln fl : Nat} {es : List En} {ls : List AV} {st : List AV} {M : Mem} {Q : Option AV → Mem → Prop} {i h c : Nat} : wpc sx L K0 R0 mi ((pc, ln, .getfield i, [1, 2, h]) :: es) fl (ls) (vR (c + 2) :: st) M Q = (kin K0 c 1 ∧ wpc sx L K0 R0 mi es fl (ls) (vI (M c 2) :: st) M Q) := rfl
theorem w_pf_1_2 {sx : Int → Int} {L mi pc ln fl : Nat} {es : List En} {ls : List AV} {st : List AV} {M : Mem} {Q : Option AV → Mem → Prop} {i h c : Nat} {x : Int} : wpc sx L K0 R0 mi ((pc, ln, .putfield i, [1, 2, h]) :: es) fl (ls) (vI x :: vR (c + 2) :: st) M Q = (kin K0 c 1 ∧ wpc sx L K0 R0 mi es fl (ls) (st) (mset M c 2 x) Q) := propext ⟨fun h => ⟨h.1.1, h.2⟩, fun h => ⟨⟨h.1, trivial⟩, h.2⟩⟩
theorem w_gf_1_3 {sx : Int → Int} {L mi pc ln fl : Nat} {es : List En} {ls : List AV} {st : List AV} {M : Mem} {Q : Option AV → Mem → Prop} {i h c : Nat} : wpc sx L K0 R0 mi ((pc, ln, .getfield i, [1, 3, h]) :: es) fl (ls) (vR (c + 2) :: st) M Q = (kin K0 c 1 ∧ wpc sx L K0 R0 mi es fl (ls) (vI (M c 3) :: st) M Q) := rfl
theorem w_pf_1_3 {sx : Int → Int} {L mi pc ln fl : Nat} {es : List En} {ls : List AV} {st : List AV} {M : Mem} {Q : Option AV → Mem → Prop} {i h c : Nat} {x : Int} : wpc sx L K0 R0 mi ((pc, ln, .putfield i, [1, 3, h]) :: es) fl (ls) (vI x :: vR (c + 2) :: st) M Q = (kin K0 c 1 ∧ wpc sx L K0 R0 mi es fl (ls) (st) (mset M c 3 x) Q) := propext ⟨fun h => ⟨h.1.1, h.2⟩, fun h => ⟨⟨h.1, trivial⟩, h.2⟩⟩
theorem w_gf_1_4 {sx : Int → Int} {L mi pc ln fl : Nat} {es : List En} {ls : List AV} {st : List AV} {M : Mem} {Q : Option AV → Mem → Prop} {i h c : Nat} : wpc sx L K0 R0 mi ((pc, ln, .getfield i, [1, 4, h]) :: es) fl (ls) (vR (c + 2) :: st) M Q = (kin K0 c 1 ∧ wpc sx L K0 R0 mi es fl (ls) (vI (M c 4) :: st) M Q) := rfl
theorem w_pf_1_4 {sx : Int → Int} {L mi pc ln fl : Nat} {es : List En} {ls : List AV} {st : List AV} {M : Mem} {Q : Option AV → Mem → Prop} {i h c : Nat} {x : Int} : wpc sx L K0 R0 mi ((pc, ln, .putfield i, [1, 4, h]) :: es) fl (ls) (vI x :: vR (c + 2) :: st) M Q = (kin K0 c 1 ∧ wpc sx L K0 R0 mi es fl (ls) (st) (mset M c 4 x) Q) := propext ⟨fun h => ⟨h.1.1, h.2⟩, fun h => ⟨⟨h.1, trivial⟩, h.2⟩⟩
theorem w_gf_1_5 {sx : Int → Int} {L mi pc ln fl : Nat} {es : List En} {ls : List AV} {st : List AV} {M : Mem} {Q : Option AV → Mem → Prop} {i h c : Nat} : wpc sx L K0 R0 mi ((pc, ln, .getfield i, [1, 5, h]) :: es) fl (ls) (vR (c + 2) :: st) M Q = (kin K0 c 1 ∧ wpc sx L K0 R0 mi es fl (ls) (vI (M c 5) :: st) M Q) := rfl
theorem w_pf_1_5 {sx : Int → Int} {L mi pc ln fl : Nat} {es : List En} {ls : List AV} {st : List AV} {M : Mem} {Q : Option AV → Mem → Prop} {i h c : Nat} {x : Int} : wpc sx L K0 R0 mi ((pc, ln, .putfield i, [1, 5, h]) :: es) fl (ls) (vI x :: vR (c + 2) :: st) M Q = (kin K0 c 1 ∧ wpc sx L K0 R0 mi es fl (ls) (st) (mset M c 5 x) Q) := propext ⟨fun h => ⟨h.1.1, h.2⟩, fun h => ⟨⟨h.1, trivial⟩, h.2⟩⟩
theorem w_gf_1_6 {sx : Int → Int} {L mi pc ln fl : Nat} {es : List En} {ls : List AV} {st : List AV} {M : Mem} {Q : Option AV → Mem → Prop} {i h c : Nat} : wpc sx L K0 R0 mi ((pc, ln, .getfield i, [1, 6, h]) :: es) fl (ls) (vR (c + 2) :: st) M Q = (kin K0 c 1 ∧ wpc sx L K0 R0 mi es fl (ls) (vI (M c 6) :: st) M Q) := rfl
theorem w_pf_1_6 {sx : Int → Int} {L mi pc ln fl : Nat} {es : List En} {ls : List AV} {st : List AV} {M : Mem} {Q : Option AV → Mem → Prop} {i h c : Nat} {x : Int} : wpc sx L K0 R0 mi ((pc, ln, .putfield i, [1, 6, h]) :: es) fl (ls) (vI x :: vR (c + 2) :: st) M Q = (kin K0 c 1 ∧ wpc sx L K0 R0 mi es fl (ls) (st) (mset M c 6 x) Q) := propext ⟨fun h => ⟨h.1.1, h.2⟩, fun h => ⟨⟨h.1, trivial⟩, h.2⟩⟩
theorem w_gf_1_7 {sx : Int → Int} {L mi pc ln fl : Nat} {es : List En} {ls : List AV} {st : List AV} {M : Mem} {Q : Option AV → Mem → Prop} {i h c : Nat} : wpc sx L K0 R0 mi ((pc, ln, .getfield i, [1, 7, h]) :: es) fl (ls) (vR (c + 2) :: st) M Q = (kin K0 c 1 ∧ wpc sx L K0 R0 mi es fl (ls) (vR (R0 c 7) :: st) M Q) := rfl
theorem w_gf_1_8 {sx : Int → Int} {L mi pc ln fl : Nat} {es : List En} {ls : List AV} {st : List AV} {M : Mem} {Q : Option AV → Mem → Prop} {i h c : Nat} : wpc sx L K0 R0 mi ((pc, ln, .getfield i, [1, 8, h]) :: es) fl (ls) (vR (c + 2) :: st) M Q = (kin K0 c 1 ∧ wpc sx L K0 R0 mi es fl (ls) (vR (R0 c 8) :: st) M Q) := rfl
theorem w_gf_1_9 {sx : Int → Int} {L mi pc ln fl : Nat} {es : List En} {ls : List AV} {st : List AV} {M : Mem} {Q : Option AV → Mem → Prop} {i h c : Nat} : wpc sx L K0 R0 mi ((pc, ln, .getfield i, [1, 9, h]) :: es) fl (ls) (vR (c + 2) :: st) M Q = (kin K0 c 1 ∧ wpc sx L K0 R0 mi es fl (ls) (vI (M c 9) :: st) M Q) := rfl
theorem w_pf_1_9 {sx : Int → Int} {L mi pc ln fl : Nat} {es : List En} {ls : List AV} {st : List AV} {M : Mem} {Q : Option AV → Mem → Prop} {i h c : Nat} {x : Int} : wpc sx L K0 R0 mi ((pc, ln, .putfield i, [1, 9, h]) :: es) fl (ls) (vI x :: vR (c + 2) :: st) M Q = (kin K0 c 1 ∧ wpc sx L K0 R0 mi es fl (ls) (st) (mset M c 9 x) Q) := propext ⟨fun h => ⟨h.1.1, h.2⟩, fun h => ⟨⟨h.1, trivial⟩, h.2⟩⟩
theorem w_gf_1_10 {sx : Int → Int} {L mi pc ln fl : Nat} {es : List En} {ls : List AV} {st : List AV} {M : Mem} {Q : Option AV → Mem → Prop} {i h c : Nat} : wpc sx L K0 R0 mi ((pc, ln, .getfield i, [1, 10, h]) :: es) fl (ls) (vR (c + 2) :: st) M Q = (kin K0 c 1 ∧ wpc sx L K0 R0 mi es fl (ls) (vI (M c 10) :: st) M Q) := rfl
theorem w_pf_1_10 {sx : Int → Int} {L mi pc ln fl : Nat} {es : List En} {ls : List AV} {st : List AV} {M : Mem} {Q : Option AV → Mem → Prop} {i h c : Nat} {x : Int} : wpc sx L K0 R0 mi ((pc, ln, .putfield i, [1, 10, h]) :: es) fl (ls) (vI x :: vR (c + 2) :: st) M Q = (kin K0 c 1 ∧ wpc sx L K0 R0 mi es fl (ls) (st) (mset M c 10 x) Q) := propext ⟨fun h => ⟨h.1.1, h.2⟩, fun h => ⟨⟨h.1, trivial⟩, h.2⟩⟩
theorem w_gf_1_11 {sx : Int → Int} {L mi pc ln fl : Nat} {es : List En} {ls : List AV} {st : List AV} {M : Mem} {Q : Option AV → Mem → Prop} {i h c : Nat} : wpc sx L K0 R0 mi ((pc, ln, .getfield i, [1, 11, h]) :: es) fl (ls) (vR (c + 2) :: st) M Q = (kin K0 c 1 ∧ wpc sx L K0 R0 mi es fl (ls) (vI (M c 11) :: st) M Q) := rfl
theorem w_pf_1_11 {sx : Int → Int} {L mi pc ln fl : Nat} {es : List En} {ls : List AV} {st : List AV} {M : Mem} {Q : Option AV → Mem → Prop} {i h c : Nat} {x : Int} : wpc sx L K0 R0 mi ((pc, ln, .putfield i, [1, 11, h]) :: es) fl (ls) (vI x :: vR (c + 2) :: st) M Q = (kin K0 c 1 ∧ wpc sx L K0 R0 mi es fl (ls) (st) (mset M c 11 x) Q) := propext ⟨fun h => ⟨h.1.1, h.2⟩, fun h => ⟨⟨h.1, trivial⟩, h.2⟩⟩
theorem w_gf_1_12 {sx : Int → Int} {L mi pc ln fl : Nat} {es : List En} {ls : List AV} {st : List AV} {M : Mem} {Q : Option AV → Mem → Prop} {i h c : Nat} : wpc sx L K0 R0 mi ((pc, ln, .getfield i, [1, 12, h]) :: es) fl (ls) (vR (c + 2) :: st) M Q = (kin K0 c 1 ∧ wpc sx L K0 R0 mi es fl (ls) (vI (M c 12) :: st) M Q) := rfl
theorem w_pf_1_12 {sx : Int → Int} {L mi pc ln fl : Nat} {es : List En} {ls : List AV} {st : List AV} {M : Mem} {Q : Option AV → Mem → Prop} {i h c : Nat} {x : Int} : wpc sx L K0 R0 mi ((pc, ln, .putfield i, [1, 12, h]) :: es) fl (ls) (vI x :: vR (c + 2) :: st) M Q = (kin K0 c 1 ∧ wpc sx L K0 R0 mi es fl (ls) (st) (mset M c 12 x) Q) := propext ⟨fun h => ⟨h.1.1, h.2⟩, fun h => ⟨⟨h.1, trivial⟩, h.2⟩⟩
theorem w_gf_2_0 {sx : Int → Int} {L mi pc ln fl : Nat} {es : List En} {ls : List AV} {st : List AV} {M : Mem} {Q : Option AV → Mem → Prop} {i h c : Nat} : wpc sx L K0 R0 mi ((pc, ln, .getfield i, [2, 0, h]) :: es) fl (ls) (vR (c + 2) :: st) M Q = (kin K0 c 2 ∧ wpc sx L K0 R0 mi es fl (ls) (vR (R0 c 0) :: st) M Q) := rfl
theorem w_gf_2_1 {sx : Int → Int} {L mi pc ln fl : Nat} {es : List En} {ls : List AV} {st : List AV} {M : Mem} {Q : Option AV → Mem → Prop} {i h c : Nat} : wpc sx L K0 R0 mi ((pc, ln, .getfield i, [2, 1, h]) :: es) fl (ls) (vR (c + 2) :: st) M Q = (kin K0 c 2 ∧ wpc sx L K0 R0 mi es fl (ls) (vR (R0 c 1) :: st) M Q) := rfl
theorem w_gf_2_2 {sx : Int → Int} {L mi pc ln fl : Nat} {es : List En} {ls : List AV} {st : List AV} {M : Mem} {Q : Option AV → Mem → Prop} {i h c : Nat} : wpc sx L K0 R0 mi ((pc, ln, .getfield i, [2, 2, h]) :: es) fl (ls) (vR (c + 2) :: st) M Q = (kin K0 c 2 ∧ wpc sx L K0 R0 mi es fl (ls) (vR (R0 c 2) :: st) M Q) := rfl
theorem w_gf_3_0 {sx : Int → Int} {L mi pc ln fl : Nat} {es : List En} {ls : List AV} {st : List AV} {M : Mem} {Q : Option AV → Mem → Prop} {i h c : Nat} : wpc sx L K0 R0 mi ((pc, ln, .getfield i, [3, 0, h]) :: es) fl (ls) (vR (c + 2) :: st) M Q = (kin K0 c 3 ∧ wpc sx L K0 R0 mi es fl (ls) (vR (R0 c 0) :: st) M Q) := rfl
theorem w_gf_3_1 {sx : Int → Int} {L mi pc ln fl : Nat} {es : List En} {ls : List AV} {st : List AV} {M : Mem} {Q : Option AV → Mem → Prop} {i h c : Nat} : wpc sx L K0 R0 mi ((pc, ln, .getfield i, [3, 1, h]) :: es) fl (ls) (vR (c + 2) :: st) M Q = (kin K0 c 3 ∧ wpc sx L K0 R0 mi es fl (ls) (vR (R0 c 1) :: st) M Q) := rfl
theorem w_gf_3_2 {sx : Int → Int} {L mi pc ln fl : Nat} {es : List En} {ls : List AV} {st : List AV} {M : Mem} {Q : Option AV → Mem → Prop} {i h c : Nat} : wpc sx L K0 R0 mi ((pc, ln, .getfield i, [3, 2, h]) :: es) fl (ls) (vR (c + 2) :: st) M Q = (kin K0 c 3 ∧ wpc sx L K0 R0 mi es fl (ls) (vR (R0 c 2) :: st) M Q) := rfl
theorem w_gf_3_3 {sx : Int → Int} {L mi pc ln fl : Nat} {es : List En} {ls : List AV} {st : List AV} {M : Mem} {Q : Option AV → Mem → Prop} {i h c : Nat} : wpc sx L K0 R0 mi ((pc, ln, .getfield i, [3, 3, h]) :: es) fl (ls) (vR (c + 2) :: st) M Q = (kin K0 c 3 ∧ wpc sx L K0 R0 mi es fl (ls) (vR (R0 c 3) :: st) M Q) := rfl
theorem w_gf_3_4 {sx : Int → Int} {L mi pc ln fl : Nat} {es : List En} {ls : List AV} {st : List AV} {M : Mem} {Q : Option AV → Mem → Prop} {i h c : Nat} : wpc sx L K0 R0 mi ((pc, ln, .getfield i, [3, 4, h]) :: es) fl (ls) (vR (c + 2) :: st) M Q = (kin K0 c 3 ∧ wpc sx L K0 R0 mi es fl (ls) (vR (R0 c 4) :: st) M Q) := rfl
theorem w_gf_3_5 {sx : Int → Int} {L mi pc ln fl : Nat} {es : List En} {ls : List AV} {st : List AV} {M : Mem} {Q : Option AV → Mem → Prop} {i h c : Nat} : wpc sx L K0 R0 mi ((pc, ln, .getfield i, [3, 5, h]) :: es) fl (ls) (vR (c + 2) :: st) M Q = (kin K0 c 3 ∧ wpc sx L K0 R0 mi es fl (ls) (vR (R0 c 5) :: st) M Q) := rfl
theorem w_gf_3_6 {sx : Int → Int} {L mi pc ln fl : Nat} {es : List En} {ls : List AV} {st : List AV} {M : Mem} {Q : Option AV → Mem → Prop} {i h c : Nat} : wpc sx L K0 R0 mi ((pc, ln, .getfield i, [3, 6, h]) :: es) fl (ls) (vR (c + 2) :: st) M Q = (kin K0 c 3 ∧ wpc sx L K0 R0 mi es fl (ls) (vI (M c 6) :: st) M Q) := rfl
theorem w_pf_3_6 {sx : Int → Int} {L mi pc ln fl : Nat} {es : List En} {ls : List AV} {st : List AV} {M : Mem} {Q : Option AV → Mem → Prop} {i h c : Nat} {x : Int} : wpc sx L K0 R0 mi ((pc, ln, .putfield i, [3, 6, h]) :: es) fl (ls) (vI x :: vR (c + 2) :: st) M Q = (kin K0 c 3 ∧ wpc sx L K0 R0 mi es fl (ls) (st) (mset M c 6 x) Q) := propext ⟨fun h => ⟨h.1.1, h.2⟩, fun h => ⟨⟨h.1, trivial⟩, h.2⟩⟩
theorem w_gf_3_7 {sx : Int → Int} {L mi pc ln fl : Nat} {es : List En} {ls : List AV} {st : List AV} {M : Mem} {Q : Option AV → Mem → Prop} {i h c : Nat} : wpc sx L K0 R0 mi ((pc, ln, .getfield i, [3, 7, h]) :: es) fl (ls) (vR (c + 2) :: st) M Q = (kin K0 c 3 ∧ wpc sx L K0 R0 mi es fl (ls) (vI (M c 7) :: st) M Q) := rfl
theorem w_pf_3_7 {sx : Int → Int} {L mi pc ln fl : Nat} {es : List En} {ls : List AV} {st : List AV} {M : Mem} {Q : Option AV → Mem → Prop} {i h c : Nat} {x : Int} : wpc sx L K0 R0 mi ((pc, ln, .putfield i, [3, 7, h]) :: es) fl (ls) (vI x :: vR (c + 2) :: st) M Q = (kin K0 c 3 ∧ wpc sx L K0 R0 mi es fl (ls) (st) (mset M c 7 x) Q) := propext ⟨fun h => ⟨h.1.1, h.2⟩, fun h => ⟨⟨h.1, trivial⟩, h.2⟩⟩
theorem w_gf_3_8 {sx : Int → Int} {L mi pc ln fl : Nat} {es : List En} {ls : List AV} {st : List AV} {M : Mem} {Q : Option AV → Mem → Prop} {i h c : Nat} : wpc sx L K0 R0 mi ((pc, ln, .getfield i, [3, 8, h]) :: es) fl (ls) (vR (c + 2) :: st) M Q = (kin K0 c 3 ∧ wpc sx L K0 R0 mi es fl (ls) (vI (M c 8) :: st) M Q) := rfl
theorem w_pf_3_8 {sx : Int → Int} {L mi pc ln fl : Nat} {es : List En} {ls : List AV} {st : List AV} {M : Mem} {Q : Option AV → Mem → Prop} {i h c : Nat} {x : Int} : wpc sx L K0 R0 mi ((pc, ln, .putfield i, [3, 8, h]) :: es) fl (ls) (vI x :: vR (c + 2) :: st) M Q = (kin K0 c 3 ∧ wpc sx L K0 R0 mi es fl (ls) (st) (mset M c 8 x) Q) := propext ⟨fun h => ⟨h.1.1, h.2⟩, fun h => ⟨⟨h.1, trivial⟩, h.2⟩⟩
theorem w_gf_3_9 {sx : Int → Int} {L mi pc ln fl : Nat} {es : List En} {ls : List AV} {st : List AV} {M : Mem} {Q : Option AV → Mem → Prop} {i h c : Nat} : wpc sx L K0 R0 mi ((pc, ln, .getfield i, [3, 9, h]) :: es) fl (ls) (vR (c + 2) :: st) M Q = (kin K0 c 3 ∧ wpc sx L K0 R0 mi es fl (ls) (vI (M c 9) :: st) M Q) := rfl
theorem w_pf_3_9 {sx : Int → Int} {L mi pc ln fl : Nat} {es : List En} {ls : List AV} {st : List AV} {M : Mem} {Q : Option AV → Mem → Prop} {i h c : Nat} {x : Int} : wpc sx L K0 R0 mi ((pc, ln, .putfield i, [3, 9, h]) :: es) fl (ls) (vI x :: vR (c + 2) :: st) M Q = (kin K0 c 3 ∧ wpc sx L K0 R0 mi es fl (ls) (st) (mset M c 9 x) Q) := propext ⟨fun h => ⟨h.1.1, h.2⟩, fun h => ⟨⟨h.1, trivial⟩, h.2⟩⟩
theorem w_gf_3_10 {sx : Int → Int} {L mi pc ln fl : Nat} {es : List En} {ls : List AV} {st : List AV} {M : Mem} {Q : Option AV → Mem → Prop} {i h c : Nat} : wpc sx L K0 R0 mi ((pc, ln, .getfield i, [3, 10, h]) :: es) fl (ls) (vR (c + 2) :: st) M Q = (kin K0 c 3 ∧ wpc sx L K0 R0 mi es fl (ls) (vI (M c 10) :: st) M Q) := rfl
theorem w_pf_3_10 {sx : Int → Int} {L mi pc ln fl : Nat} {es : List En} {ls : List AV} {st : List AV} {M : Mem} {Q : Option AV → Mem → Prop} {i h c : Nat} {x : Int} : wpc sx L K0 R0 mi ((pc, ln, .putfield i, [3, 10, h]) :: es) fl (ls) (vI x :: vR (c + 2) :: st) M Q = (kin K0 c 3 ∧ wpc sx L K0 R0 mi es fl (ls) (st) (mset M c 10 x) Q) := propext ⟨fun h => ⟨h.1.1, h.2⟩, fun h => ⟨⟨h.1, trivial⟩, h.2⟩⟩
theorem w_gf_3_11 {sx : Int → Int} {L mi pc ln fl : Nat} {es : List En} {ls : List AV} {st : List AV} {M : Mem} {Q : Option AV → Mem → Prop} {i h c : Nat} : wpc sx L K0 R0 mi ((pc, ln, .getfield i, [3, 11, h]) :: es) fl (ls) (vR (c + 2) :: st) M Q = (kin K0 c 3 ∧ wpc sx L K0 R0 mi es fl (ls) (vI (M c 11) :: st) M Q) := rfl
theorem w_pf_3_11 {sx : Int → Int} {L mi pc ln fl : Nat} {es : List En} {ls : List AV} {st : List AV} {M : Mem} {Q : Option AV → Mem → Prop} {i h c : Nat} {x : Int} : wpc sx L K0 R0 mi ((pc, ln, .putfield i, [3, 11, h]) :: es) fl (ls) (vI x :: vR (c + 2) :: st) M Q = (kin K0 c 3 ∧ wpc sx L K0 R0 mi es fl (ls) (st) (mset M c 11 x) Q) := propext ⟨fun h => ⟨h.1.1, h.2⟩, fun h => ⟨⟨h.1, trivial⟩, h.2⟩⟩
theorem w_gf_3_12 {sx : Int → Int} {L mi pc ln fl : Nat} {es : List En} {ls : List AV} {st : List AV} {M : Mem} {Q : Option AV → Mem → Prop} {i h c : Nat} : wpc sx L K0 R0 mi ((pc, ln, .getfield i, [3, 12, h]) :: es) fl (ls) (vR (c + 2) :: st) M Q = (kin K0 c 3 ∧ wpc sx L K0 R0 mi es fl (ls) (vI (M c 12) :: st) M Q) := rfl
theorem w_pf_3_12 {sx : Int → Int} {L mi pc ln fl : Nat} {es : List En} {ls : List AV} {st : List AV} {M : Mem} {Q : Option AV → Mem → Prop} {i h c : Nat} {x : Int} : wpc sx L K0 R0 mi ((pc, ln, .putfield i, [3, 12, h]) :: es) fl (ls) (vI x :: vR (c + 2) :: st) M Q = (kin K0 c 3 ∧ wpc sx L K0 R0 mi es fl (ls) (st) (mset M c 12 x) Q) := propext ⟨fun h => ⟨h.1.1, h.2⟩, fun h => ⟨⟨h.1, trivial⟩, h.2⟩⟩
theorem w_gf_3_13 {sx : Int → Int} {L mi pc ln fl : Nat} {es : List En} {ls : List AV} {st : List AV} {M : Mem} {Q : Option AV → Mem → Prop} {i h c : Nat} : wpc sx L K0 R0 mi ((pc, ln, .getfield i, [3, 13, h]) :: es) fl (ls) (vR (c + 2) :: st) M Q = (kin K0 c 3 ∧ wpc sx L K0 R0 mi es fl (ls) (vI (M c 13) :: st) M Q) := rfl
theorem w_pf_3_13 {sx : Int → Int} {L mi pc ln fl : Nat} {es : List En} {ls : List AV} {st : List AV} {M : Mem} {Q : Option AV → Mem → Prop} {i h c : Nat} {x : Int} : wpc sx L K0 R0 mi ((pc, ln, .putfield i, [3, 13, h]) :: es) fl (ls) (vI x :: vR (c + 2) :: st) M Q = (kin K0 c 3 ∧ wpc sx L K0 R0 mi es fl (ls) (st) (mset M c 13 x) Q) := propext ⟨fun h => ⟨h.1.1, h.2⟩, fun h => ⟨⟨h.1, trivial⟩, h.2⟩⟩
theorem w_gf_3_14 {sx : Int → Int} {L mi pc ln fl : Nat} {es : List En} {ls : List AV} {st : List AV} {M : Mem} {Q : Option AV → Mem → Prop} {i h c : Nat} : wpc sx L K0 R0 mi ((pc, ln, .getfield i, [3, 14, h]) :: es) fl (ls) (vR (c + 2) :: st) M Q = (kin K0 c 3 ∧ wpc sx L K0 R0 mi es fl (ls) (vI (M c 14) :: st) M Q) := rfl
theorem w_pf_3_14 {sx : Int → Int} {L mi pc ln fl : Nat} {es : List En} {ls : List AV} {st : List AV} {M : Mem} {Q : Option AV → Mem → Prop} {i h c : Nat} {x : Int} : wpc sx L K0 R0 mi ((pc, ln, .putfield i, [3, 14, h]) :: es) fl (ls) (vI x :: vR (c + 2) :: st) M Q = (kin K0 c 3 ∧ wpc sx L K0 R0 mi es fl (ls) (st) (mset M c 14 x) Q) := propext ⟨fun h => ⟨h.1.1, h.2⟩, fun h => ⟨⟨h.1, trivial⟩, h.2⟩⟩
theorem w_gf_3_15 {sx : Int → Int} {L mi pc ln fl : Nat} {es : List En} {ls : List AV} {st : List AV} {M : Mem} {Q : Option AV → Mem → Prop} {i h c : Nat} : wpc sx L K0 R0 mi ((pc, ln, .getfield i, [3, 15, h]) :: es) fl (ls) (vR (c + 2) :: st) M Q = (kin K0 c 3 ∧ wpc sx L K0 R0 mi es fl (ls) (vI (M c 15) :: st) M Q) := rfl
theorem w_pf_3_15 {sx : Int → Int} {L mi pc ln fl : Nat} {es : List En} {ls : List AV} {st : List AV} {M : Mem} {Q : Option AV → Mem → Prop} {i h c : Nat} {x : Int} : wpc sx L K0 R0 mi ((pc, ln, .putfield i, [3, 15, h]) :: es) fl (ls) (vI x :: vR (c + 2) :: st) M Q = (kin K0 c 3 ∧ wpc sx L K0 R0 mi es fl (ls) (st) (mset M c 15 x) Q) := propext ⟨fun h => ⟨h.1.1, h.2⟩, fun h => ⟨⟨h.1, trivial⟩, h.2⟩⟩
theorem w_gf_3_16 {sx : Int → Int} {L mi pc ln fl : Nat} {es : List En} {ls : List AV} {st : List AV} {M : Mem} {Q : Option AV → Mem → Prop} {i h c : Nat} : wpc sx L K0 R0 mi ((pc, ln, .getfield i, [3, 16, h]) :: es) fl (ls) (vR (c + 2) :: st) M Q = (kin K0 c 3 ∧ wpc sx L K0 R0 mi es fl (ls) (vI (M c 16) :: st) M Q) := rfl
theorem w_pf_3_16 {sx : Int → Int} {L mi pc ln fl : Nat} {es : List En} {ls : List AV} {st : List AV} {M : Mem} {Q : Option AV → Mem → Prop} {i h c : Nat} {x : Int} : wpc sx L K0 R0 mi ((pc, ln, .putfield i, [3, 16, h]) :: es) fl (ls) (vI x :: vR (c + 2) :: st) M Q = (kin K0 c 3 ∧ wpc sx L K0 R0 mi es fl (ls) (st) (mset M c 16 x) Q) := propext ⟨fun h => ⟨h.1.1, h.2⟩, fun h => ⟨⟨h.1, trivial⟩, h.2⟩⟩
theorem w_gf_3_17 {sx : Int → Int} {L mi pc ln fl : Nat} {es : List En} {ls : List AV} {st : List AV} {M : Mem} {Q : Option AV → Mem → Prop} {i h c : Nat} : wpc sx L K0 R0 mi ((pc, ln, .getfield i, [3, 17, h]) :: es) fl (ls) (vR (c + 2) :: st) M Q = (kin K0 c 3 ∧ wpc sx L K0 R0 mi es fl (ls) (vI (M c 17) :: st) M Q) := rfl
theorem w_pf_3_17 {sx : Int → Int} {L mi pc ln fl : Nat} {es : List En} {ls : List AV} {st : List AV} {M : Mem} {Q : Option AV → Mem → Prop} {i h c : Nat} {x : Int} : wpc sx L K0 R0 mi ((pc, ln, .putfield i, [3, 17, h]) :: es) fl (ls) (vI x :: vR (c + 2) :: st) M Q = ((kin K0 c 3 ∧ (x = 0 ∨ x = 1)) ∧ wpc sx L K0 R0 mi es fl (ls) (st) (mset M c 17 x) Q) := rfl
theorem w_gf_4_0 {sx : Int → Int} {L mi pc ln fl : Nat} {es : List En} {ls : List AV} {st : List AV} {M : Mem} {Q : Option AV → Mem → Prop} {i h c : Nat} : wpc sx L K0 R0 mi ((pc, ln, .getfield i, [4, 0, h]) :: es) fl (ls) (vR (c + 2) :: st) M Q = (kin K0 c 4 ∧ wpc sx L K0 R0 mi es fl (ls) (vR (R0 c 0) :: st) M Q) := rfl
theorem w_gf_4_1 {sx : Int → Int} {L mi pc ln fl : Nat} {es : List En} {ls : List AV} {st : List AV} {M : Mem} {Q : Option AV → Mem → Prop} {i h c : Nat} : wpc sx L K0 R0 mi ((pc, ln, .getfield i, [4, 1, h]) :: es) fl (ls) (vR (c + 2) :: st) M Q = (kin K0 c 4 ∧ wpc sx L K0 R0 mi es fl (ls) (vR (R0 c 1) :: st) M Q) := rfl
theorem w_gf_4_2 {sx : Int → Int} {L mi pc ln fl : Nat} {es : List En} {ls : List AV} {st : List AV} {M : Mem} {Q : Option AV → Mem → Prop} {i h c : Nat} : wpc sx L K0 R0 mi ((pc, ln, .getfield i, [4, 2, h]) :: es) fl (ls) (vR (c + 2) :: st) M Q = (kin K0 c 4 ∧ wpc sx L K0 R0 mi es fl (ls) (vR (R0 c 2) :: st) M Q) := rfl
theorem w_gf_4_3 {sx : Int → Int} {L mi pc ln fl : Nat} {es : List En} {ls : List AV} {st : List AV} {M : Mem} {Q : Option AV → Mem → Prop} {i h c : Nat} : wpc sx L K0 R0 mi ((pc, ln, .getfield i, [4, 3, h]) :: es) fl (ls) (vR (c + 2) :: st) M Q = (kin K0 c 4 ∧ wpc sx L K0 R0 mi es fl (ls) (vI (M c 3) :: st) M Q) := rfl
theorem w_pf_4_3 {sx : Int → Int} {L mi pc ln fl : Nat} {es : List En} {ls : List AV} {st : List AV} {M : Mem} {Q : Option AV → Mem → Prop} {i h c : Nat} {x : Int} : wpc sx L K0 R0 mi ((pc, ln, .putfield i, [4, 3, h]) :: es) fl (ls) (vI x :: vR (c + 2) :: st) M Q = ((kin K0 c 4 ∧ (x = 0 ∨ x = 1)) ∧ wpc sx L K0 R0 mi es fl (ls) (st) (mset M c 3 x) Q) := rfl
theorem w_gf_4_4 {sx : Int → Int} {L mi pc ln fl : Nat} {es : List En} {ls : List AV} {st : List AV} {M : Mem} {Q : Option AV → Mem → Prop} {i h c : Nat} : wpc sx L K0 R0 mi ((pc, ln, .getfield i, [4, 4, h]) :: es) fl (ls) (vR (c + 2) :: st) M Q = (kin K0 c 4 ∧ wpc sx L K0 R0 mi es fl (ls) (vI (M c 4) :: st) M Q) := rfl
theorem w_pf_4_4 {sx : Int → Int} {L mi pc ln fl : Nat} {es : List En} {ls : List AV} {st : List AV} {M : Mem} {Q : Option AV → Mem → Prop} {i h c : Nat} {x : Int} : wpc sx L K0 R0 mi ((pc, ln, .putfield i, [4, 4, h]) :: es) fl (ls) (vI x :: vR (c + 2) :: st) M Q = ((kin K0 c 4 ∧ (x = 0 ∨ x = 1)) ∧ wpc sx L K0 R0 mi es fl (ls) (st) (mset M c 4 x) Q) := rfl
theorem w_gf_4_5 {sx : Int → Int} {L mi pc ln fl : Nat} {es : List En} {ls : List AV} {st : List AV} {M : Mem} {Q : Option AV → Mem → Prop} {i h c : Nat} : wpc sx L K0 R0 mi ((pc, ln, .getfield i, [4, 5, h]) :: es) fl (ls) (vR (c + 2) :: st) M Q = (kin K0 c 4 ∧ wpc sx L K0 R0 mi es fl (ls) (vR (R0 c 5) :: st) M Q) := rfl
theorem w_gf_4_6 {sx : Int → Int} {L mi pc ln fl : Nat} {es : List En} {ls : List AV} {st : List AV} {M : Mem} {Q : Option AV → Mem → Prop} {i h c : Nat} : wpc sx L K0 R0 mi ((pc, ln, .getfield i, [4, 6, h]) :: es) fl (ls) (vR (c + 2) :: st) M Q = (kin K0 c 4 ∧ wpc sx L K0 R0 mi es fl (ls) (vI (M c 6) :: st) M Q) := rfl
theorem w_pf_4_6 {sx : Int → Int} {L mi pc ln fl : Nat} {es : List En} {ls : List AV} {st : List AV} {M : Mem} {Q : Option AV → Mem → Prop} {i h c : Nat} {x : Int} : wpc sx L K0 R0 mi ((pc, ln, .putfield i, [4, 6, h]) :: es) fl (ls) (vI x :: vR (c + 2) :: st) M Q = ((kin K0 c 4 ∧ (x = 0 ∨ x = 1)) ∧ wpc sx L K0 R0 mi es fl (ls) (st) (mset M c 6 x) Q) := rfl
theorem w_gf_4_7 {sx : Int → Int} {L mi pc ln fl : Nat} {es : List En} {ls : List AV} {st : List AV} {M : Mem} {Q : Option AV → Mem → Prop} {i h c : Nat} : wpc sx L K0 R0 mi ((pc, ln, .getfield i, [4, 7, h]) :: es) fl (ls) (vR (c + 2) :: st) M Q = (kin K0 c 4 ∧ wpc sx L K0 R0 mi es fl (ls) (vI (M c 7) :: st) M Q) := rfl
theorem w_pf_4_7 {sx : Int → Int} {L mi pc ln fl : Nat} {es : List En} {ls : List AV} {st : List AV} {M : Mem} {Q : Option AV → Mem → Prop} {i h c : Nat} {x : Int} : wpc sx L K0 R0 mi ((pc, ln, .putfield i, [4, 7, h]) :: es) fl (ls) (vI x :: vR (c + 2) :: st) M Q = (kin K0 c 4 ∧ wpc sx L K0 R0 mi es fl (ls) (st) (mset M c 7 x) Q) := propext ⟨fun h => ⟨h.1.1, h.2⟩, fun h => ⟨⟨h.1, trivial⟩, h.2⟩⟩
theorem w_gf_4_8 {sx : Int → Int} {L mi pc ln fl : Nat} {es : List En} {ls : List AV} {st : List AV} {M : Mem} {Q : Option AV → Mem → Prop} {i h c : Nat} : wpc sx L K0 R0 mi ((pc, ln, .getfield i, [4, 8, h]) :: es) fl (ls) (vR (c + 2) :: st) M Q = (kin K0 c 4 ∧ wpc sx L K0 R0 mi es fl (ls) (vI (M c 8) :: st) M Q) := rfl
theorem w_pf_4_8 {sx : Int → Int} {L mi pc ln fl : Nat} {es : List En} {ls : List AV} {st : List AV} {M : Mem} {Q : Option AV → Mem → Prop} {i h c : Nat} {x : Int} : wpc sx L K0 R0 mi ((pc, ln, .putfield i, [4, 8, h]) :: es) fl (ls) (vI x :: vR (c + 2) :: st) M Q = (kin K0 c 4 ∧ wpc sx L K0 R0 mi es fl (ls) (st) (mset M c 8 x) Q) := propext ⟨fun h => ⟨h.1.1, h.2⟩, fun h => ⟨⟨h.1, trivial⟩, h.2⟩⟩
theorem w_gf_4_9 {sx : Int → Int} {L mi pc ln fl : Nat} {es : List En} {ls : List AV} {st : List AV} {M : Mem} {Q : Option AV → Mem → Prop} {i h c : Nat} : wpc sx L K0 R0 mi ((pc, ln, .getfield i, [4, 9, h]) :: es) fl (ls) (vR (c + 2) :: st) M Q = (kin K0 c 4 ∧ wpc sx L K0 R0 mi es fl (ls) (vI (M c 9) :: st) M Q) := rfl
theorem w_pf_4_9 {sx : Int → Int} {L mi pc ln fl : Nat} {es : List En} {ls : List AV} {st : List AV} {M : Mem} {Q : Option AV → Mem → Prop} {i h c : Nat} {x : Int} : wpc sx L K0 R0 mi ((pc, ln, .putfield i, [4, 9, h]) :: es) fl (ls) (vI x :: vR (c + 2) :: st) M Q = (kin K0 c 4 ∧ wpc sx L K0 R0 mi es fl (ls) (st) (mset M c 9 x) Q) := propext ⟨fun h => ⟨h.1.1, h.2⟩, fun h => ⟨⟨h.1, trivial⟩, h.2⟩⟩
theorem w_gf_4_10 {sx : Int → Int} {L mi pc ln fl : Nat} {es : List En} {ls : List AV} {st : List AV} {M : Mem} {Q : Option AV → Mem → Prop} {i h c : Nat} : wpc sx L K0 R0 mi ((pc, ln, .getfield i, [4, 10, h]) :: es) fl (ls) (vR (c + 2) :: st) M Q = (kin K0 c 4 ∧ wpc sx L K0 R0 mi es fl (ls) (vI (M c 10) :: st) M Q) := rfl
theorem w_pf_4_10 {sx : Int → Int} {L mi pc ln fl : Nat} {es : List En} {ls : List AV} {st : List AV} {M : Mem} {Q : Option AV → Mem → Prop} {i h c : Nat} {x : Int} : wpc sx L K0 R0 mi ((pc, ln, .putfield i, [4, 10, h]) :: es) fl (ls) (vI x :: vR (c + 2) :: st) M Q = (kin K0 c 4 ∧ wpc sx L K0 R0 mi es fl (ls) (st) (mset M c 10 x) Q) := propext ⟨fun h => ⟨h.1.1, h.2⟩, fun h => ⟨⟨h.1, trivial⟩, h.2⟩⟩
theorem w_gf_4_11 {sx : Int → Int} {L mi pc ln fl : Nat} {es : List En} {ls : List AV} {st : List AV} {M : Mem} {Q : Option AV → Mem → Prop} {i h c : Nat} : wpc sx L K0 R0 mi ((pc, ln, .getfield i, [4, 11, h]) :: es) fl (ls) (vR (c + 2) :: st) M Q = (kin K0 c 4 ∧ wpc sx L K0 R0 mi es fl (ls) (vR (R0 c 11) :: st) M Q) := rfl
theorem w_gf_4_12 {sx : Int → Int} {L mi pc ln fl : Nat} {es : List En} {ls : List AV} {st : List AV} {M : Mem} {Q : Option AV → Mem → Prop} {i h c : Nat} : wpc sx L K0 R0 mi ((pc, ln, .getfield i, [4, 12, h]) :: es) fl (ls) (vR (c + 2) :: st) M Q = (kin K0 c 4 ∧ wpc sx L K0 R0 mi es fl (ls) (vI (M c 12) :: st) M Q) := rfl
theorem w_pf_4_12 {sx : Int → Int} {L mi pc ln fl : Nat} {es : List En} {ls : List AV} {st : List AV} {M : Mem} {Q : Option AV → Mem → Prop} {i h c : Nat} {x : Int} : wpc sx L K0 R0 mi ((pc, ln, .putfield i, [4, 12, h]) :: es) fl (ls) (vI x :: vR (c + 2) :: st) M Q = (kin K0 c 4 ∧ wpc sx L K0 R0 mi es fl (ls) (st) (mset M c 12 x) Q) := propext ⟨fun h => ⟨h.1.1, h.2⟩, fun h => ⟨⟨h.1, trivial⟩, h.2⟩⟩
theorem w_gf_4_13 {sx : Int → Int} {L mi pc ln fl : Nat} {es : List En} {ls : List AV} {st : List AV} {M : Mem} {Q : Option AV → Mem → Prop} {i h c : Nat} : wpc sx L K0 R0 mi ((pc, ln, .getfield i, [4, 13, h]) :: es) fl (ls) (vR (c + 2) :: st) M Q = (kin K0 c 4 ∧ wpc sx L K0 R0 mi es fl (ls) (vI (M c 13) :: st) M Q) := rfl
theorem w_pf_4_13 {sx : Int → Int} {L mi pc ln fl : Nat} {es : List En} {ls : List AV} {st : List AV} {M : Mem} {Q : Option AV → Mem → Prop} {i h c : Nat} {x : Int} : wpc sx L K0 R0 mi ((pc, ln, .putfield i, [4, 13, h]) :: es) fl (ls) (vI x :: vR (c + 2) :: st) M Q = ((kin K0 c 4 ∧ (x = 0 ∨ x = 1)) ∧ wpc sx L K0 R0 mi es fl (ls) (st) (mset M c 13 x) Q) := rfl
theorem w_gf_4_14 {sx : Int → Int} {L mi pc ln fl : Nat} {es : List En} {ls : List AV} {st : List AV} {M : Mem} {Q : Option AV → Mem → Prop} {i h c : Nat} : wpc sx L K0 R0 mi ((pc, ln, .getfield i, [4, 14, h]) :: es) fl (ls) (vR (c + 2) :: st) M Q = (kin K0 c 4 ∧ wpc sx L K0 R0 mi es fl (ls) (vR (R0 c 14) :: st) M Q) := rfl
theorem w_gf_5_0 {sx : Int → Int} {L mi pc ln fl : Nat} {es : List En} {ls : List AV} {st : List AV} {M : Mem} {Q : Option AV → Mem → Prop} {i h c : Nat} : wpc sx L K0 R0 mi ((pc, ln, .getfield i, [5, 0, h]) :: es) fl (ls) (vR (c + 2) :: st) M Q = (kin K0 c 5 ∧ wpc sx L K0 R0 mi es fl (ls) (vI (M c 0) :: st) M Q) := rfl
theorem w_pf_5_0 {sx : Int → Int} {L mi pc ln fl : Nat} {es : List En} {ls : List AV} {st : List AV} {M : Mem} {Q : Option AV → Mem → Prop} {i h c : Nat} {x : Int} : wpc sx L K0 R0 mi ((pc, ln, .putfield i, [5, 0, h]) :: es) fl (ls) (vI x :: vR (c + 2) :: st) M Q = (kin K0 c 5 ∧ wpc sx L K0 R0 mi es fl (ls) (st) (mset M c 0 x) Q) := propext ⟨fun h => ⟨h.1.1, h.2⟩, fun h => ⟨⟨h.1, trivial⟩, h.2⟩⟩
theorem w_gf_5_1 {sx : Int → Int} {L mi pc ln fl : Nat} {es : List En} {ls : List AV} {st : List AV} {M : Mem} {Q : Option AV → Mem → Prop} {i h c : Nat} : wpc sx L K0 R0 mi ((pc, ln, .getfield i, [5, 1, h]) :: es) fl (ls) (vR (c + 2) :: st) M Q = (kin K0 c 5 ∧ wpc sx L K0 R0 mi es fl (ls) (vR (R0 c 1) :: st) M Q) := rfl
theorem w_gf_5_2 {sx : Int → Int} {L mi pc ln fl : Nat} {es : List En} {ls : List AV} {st : List AV} {M : Mem} {Q : Option AV → Mem → Prop} {i h c : Nat} : wpc sx L K0 R0 mi ((pc, ln, .getfield i, [5, 2, h]) :: es) fl (ls) (vR (c + 2) :: st) M Q = (kin K0 c 5 ∧ wpc sx L K0 R0 mi es fl (ls) (vR (R0 c 2) :: st) M Q) := rfl
theorem w_gf_5_3 {sx : Int → Int} {L mi pc ln fl : Nat} {es : List En} {ls : List AV} {st : List AV} {M : Mem} {Q : Option AV → Mem → Prop} {i h c : Nat} : wpc sx L K0 R0 mi ((pc, ln, .getfield i, [5, 3, h]) :: es) fl (ls) (vR (c + 2) :: st) M Q = (kin K0 c 5 ∧ wpc sx L K0 R0 mi es fl (ls) (vR (R0 c 3) :: st) M Q) := rfl
theorem w_gf_5_4 {sx : Int → Int} {L mi pc ln fl : Nat} {es : List En} {ls : List AV} {st : List AV} {M : Mem} {Q : Option AV → Mem → Prop} {i h c : Nat} : wpc sx L K0 R0 mi ((pc, ln, .getfield i, [5, 4, h]) :: es) fl (ls) (vR (c + 2) :: st) M Q = (kin K0 c 5 ∧ wpc sx L K0 R0 mi es fl (ls) (vI (M c 4) :: st) M Q) := rfl
theorem w_pf_5_4 {sx : Int → Int} {L mi pc ln fl : Nat} {es : List En} {ls : List AV} {st : List AV} {M : Mem} {Q : Option AV → Mem → Prop} {i h c : Nat} {x : Int} : wpc sx L K0 R0 mi ((pc, ln, .putfield i, [5, 4, h]) :: es) fl (ls) (vI x :: vR (c + 2) :: st) M Q = (kin K0 c 5 ∧ wpc sx L K0 R0 mi es fl (ls) (st) (mset M c 4 x) Q) := propext ⟨fun h => ⟨h.1.1, h.2⟩, fun h => ⟨⟨h.1, trivial⟩, h.2⟩⟩
theorem w_gf_5_5 {sx : Int → Int} {L mi pc ln fl : Nat} {es : List En} {ls : List AV} {st : List AV} {M : Mem} {Q : Option AV → Mem → Prop} {i h c : Nat} : wpc sx L K0 R0 mi ((pc, ln, .getfield i, [5, 5, h]) :: es) fl (ls) (vR (c + 2) :: st) M Q = (kin K0 c 5 ∧ wpc sx L K0 R0 mi es fl (ls) (vI (M c 5) :: st) M Q) := rfl
theorem w_pf_5_5 {sx : Int → Int} {L mi pc ln fl : Nat} {es : List En} {ls : List AV} {st : List AV} {M : Mem} {Q : Option AV → Mem → Prop} {i h c : Nat} {x : Int} : wpc sx L K0 R0 mi ((pc, ln, .putfield i, [5, 5, h]) :: es) fl (ls) (vI x :: vR (c + 2) :: st) M Q = (kin K0 c 5 ∧ wpc sx L K0 R0 mi es fl (ls) (st) (mset M c 5 x) Q) := propext ⟨fun h => ⟨h.1.1, h.2⟩, fun h => ⟨⟨h.1, trivial⟩, h.2⟩⟩
theorem w_gf_5_6 {sx : Int → Int} {L mi pc ln fl : Nat} {es : List En} {ls : List AV} {st : List AV} {M : Mem} {Q : Option AV → Mem → Prop} {i h c : Nat} : wpc sx L K0 R0 mi ((pc, ln, .getfield i, [5, 6, h]) :: es) fl (ls) (vR (c + 2) :: st) M Q = (kin K0 c 5 ∧ wpc sx L K0 R0 mi es fl (ls) (vI (M c 6) :: st) M Q) := rfl
theorem w_pf_5_6 {sx : Int → Int} {L mi pc ln fl : Nat} {es : List En} {ls : List AV} {st : List AV} {M : Mem} {Q : Option AV → Mem → Prop} {i h c : Nat} {x : Int} : wpc sx L K0 R0 mi ((pc, ln, .putfield i, [5, 6, h]) :: es) fl (ls) (vI x :: vR (c + 2) :: st) M Q = (kin K0 c 5 ∧ wpc sx L K0 R0 mi es fl (ls) (st) (mset M c 6 x) Q) := propext ⟨fun h => ⟨h.1.1, h.2⟩, fun h => ⟨⟨h.1, trivial⟩, h.2⟩⟩
theorem w_gf_5_7 {sx : Int → Int} {L mi pc ln fl : Nat} {es : List En} {ls : List AV} {st : List AV} {M : Mem} {Q : Option AV → Mem → Prop} {i h c : Nat} : wpc sx L K0 R0 mi ((pc, ln, .getfield i, [5, 7, h]) :: es) fl (ls) (vR (c + 2) :: st) M Q = (kin K0 c 5 ∧ wpc sx L K0 R0 mi es fl (ls) (vI (M c 7) :: st) M Q) := rfl
theorem w_pf_5_7 {sx : Int → Int} {L mi pc ln fl : Nat} {es : List En} {ls : List AV} {st : List AV} {M : Mem} {Q : Option AV → Mem → Prop} {i h c : Nat} {x : Int} : wpc sx L K0 R0 mi ((pc, ln, .putfield i, [5, 7, h]) :: es) fl (ls) (vI x :: vR (c + 2) :: st) M Q = (kin K0 c 5 ∧ wpc sx L K0 R0 mi es fl (ls) (st) (mset M c 7 x) Q) := propext ⟨fun h => ⟨h.1.1, h.2⟩, fun h => ⟨⟨h.1, trivial⟩, h.2⟩⟩
theorem w_gf_5_8 {sx : Int → Int} {L mi pc ln fl : Nat} {es : List En} {ls : List AV} {st : List AV} {M : Mem} {Q : Option AV → Mem → Prop} {i h c : Nat} : wpc sx L K0 R0 mi ((pc, ln, .getfield i, [5, 8, h]) :: es) fl (ls) (vR (c + 2) :: st) M Q = (kin K0 c 5 ∧ wpc sx L K0 R0 mi es fl (ls) (vI (M c 8) :: st) M Q) := rfl
theorem w_pf_5_8 {sx : Int → Int} {L mi pc ln fl : Nat} {es : List En} {ls : List AV} {st : List AV} {M : Mem} {Q : Option AV → Mem → Prop} {i h c : Nat} {x : Int} : wpc sx L K0 R0 mi ((pc, ln, .putfield i, [5, 8, h]) :: es) fl (ls) (vI x :: vR (c + 2) :: st) M Q = (kin K0 c 5 ∧ wpc sx L K0 R0 mi es fl (ls) (st) (mset M c 8 x) Q) := propext ⟨fun h => ⟨h.1.1, h.2⟩, fun h => ⟨⟨h.1, trivial⟩, h.2⟩⟩
theorem w_gf_5_9 {sx : Int → Int} {L mi pc ln fl : Nat} {es : List En} {ls : List AV} {st : List AV} {M : Mem} {Q : Option AV → Mem → Prop} {i h c : Nat} : wpc sx L K0 R0 mi ((pc, ln, .getfield i, [5, 9, h]) :: es) fl (ls) (vR (c + 2) :: st) M Q = (kin K0 c 5 ∧ wpc sx L K0 R0 mi es fl (ls) (vI (M c 9) :: st) M Q) := rfl
theorem w_pf_5_9 {sx : Int → Int} {L mi pc ln fl : Nat} {es : List En} {ls : List AV} {st : List AV} {M : Mem} {Q : Option AV → Mem → Prop} {i h c : Nat} {x : Int} : wpc sx L K0 R0 mi ((pc, ln, .putfield i, [5, 9, h]) :: es) fl (ls) (vI x :: vR (c + 2) :: st) M Q = (kin K0 c 5 ∧ wpc sx L K0 R0 mi es fl (ls) (st) (mset M c 9 x) Q) := propext ⟨fun h => ⟨h.1.1, h.2⟩, fun h => ⟨⟨h.1, trivial⟩, h.2⟩⟩
theorem w_gf_5_10 {sx : Int → Int} {L mi pc ln fl : Nat} {es : List En} {ls : List AV} {st : List AV} {M : Mem} {Q : Option AV → Mem → Prop} {i h c : Nat} : wpc sx L K0 R0 mi ((pc, ln, .getfield i, [5, 10, h]) :: es) fl (ls) (vR (c + 2) :: st) M Q = (kin K0 c 5 ∧ wpc sx L K0 R0 mi es fl (ls) (vI (M c 10) :: st) M Q) := rfl
theorem w_pf_5_10 {sx : Int → Int} {L mi pc ln fl : Nat} {es : List En} {ls : List AV} {st : List AV} {M : Mem} {Q : Option AV → Mem → Prop} {i h c : Nat} {x : Int} : wpc sx L K0 R0 mi ((pc, ln, .putfield i, [5, 10, h]) :: es) fl (ls) (vI x :: vR (c + 2) :: st) M Q = (kin K0 c 5 ∧ wpc sx L K0 R0 mi es fl (ls) (st) (mset M c 10 x) Q) := propext ⟨fun h => ⟨h.1.1, h.2⟩, fun h => ⟨⟨h.1, trivial⟩, h.2⟩⟩
theorem w_gf_6_0 {sx : Int → Int} {L mi pc ln fl : Nat} {es : List En} {ls : List AV} {st : List AV} {M : Mem} {Q : Option AV → Mem → Prop} {i h c : Nat} : wpc sx L K0 R0 mi ((pc, ln, .getfield i, [6, 0, h]) :: es) fl (ls) (vR (c + 2) :: st) M Q = (kin K0 c 6 ∧ wpc sx L K0 R0 mi es fl (ls) (vI (M c 0) :: st) M Q) := rfl
theorem w_pf_6_0 {sx : Int → Int} {L mi pc ln fl : Nat} {es : List En} {ls : List AV} {st : List AV} {M : Mem} {Q : Option AV → Mem → Prop} {i h c : Nat} {x : Int} : wpc sx L K0 R0 mi ((pc, ln, .putfield i, [6, 0, h]) :: es) fl (ls) (vI x :: vR (c + 2) :: st) M Q = ((kin K0 c 6 ∧ (x = 0 ∨ x = 1)) ∧ wpc sx L K0 R0 mi es fl (ls) (st) (mset M c 0 x) Q) := rfl
theorem w_gf_6_1 {sx : Int → Int} {L mi pc ln fl : Nat} {es : List En} {ls : List AV} {st : List AV} {M : Mem} {Q : Option AV → Mem → Prop} {i h c : Nat} : wpc sx L K0 R0 mi ((pc, ln, .getfield i, [6, 1, h]) :: es) fl (ls) (vR (c + 2) :: st) M Q = (kin K0 c 6 ∧ wpc sx L K0 R0 mi es fl (ls) (vI (M c 1) :: st) M Q) := rfl
theorem w_pf_6_1 {sx : Int → Int} {L mi pc ln fl : Nat} {es : List En} {ls : List AV} {st : List AV} {M : Mem} {Q : Option AV → Mem → Prop} {i h c : Nat} {x : Int} : wpc sx L K0 R0 mi ((pc, ln, .putfield i, [6, 1, h]) :: es) fl (ls) (vI x :: vR (c + 2) :: st) M Q = (kin K0 c 6 ∧ wpc sx L K0 R0 mi es fl (ls) (st) (mset M c 1 x) Q) := propext ⟨fun h => ⟨h.1.1, h.2⟩, fun h => ⟨⟨h.1, trivial⟩, h.2⟩⟩
theorem w_gf_6_2 {sx : Int → Int} {L mi pc ln fl : Nat} {es : List En} {ls : List AV} {st : List AV} {M : Mem} {Q : Option AV → Mem → Prop} {i h c : Nat} : wpc sx L K0 R0 mi ((pc, ln, .getfield i, [6, 2, h]) :: es) fl (ls) (vR (c + 2) :: st) M Q = (kin K0 c 6 ∧ wpc sx L K0 R0 mi es fl (ls) (vI (M c 2) :: st) M Q) := rfl
theorem w_pf_6_2 {sx : Int → Int} {L mi pc ln fl : Nat} {es : List En} {ls : List AV} {st : List AV} {M : Mem} {Q : Option AV → Mem → Prop} {i h c : Nat} {x : Int} : wpc sx L K0 R0 mi ((pc, ln, .putfield i, [6, 2, h]) :: es) fl (ls) (vI x :: vR (c + 2) :: st) M Q = (kin K0 c 6 ∧ wpc sx L K0 R0 mi es fl (ls) (st) (mset M c 2 x) Q) := propext ⟨fun h => ⟨h.1.1, h.2⟩, fun h => ⟨⟨h.1, trivial⟩, h.2⟩⟩
theorem w_gf_6_3 {sx : Int → Int} {L mi pc ln fl : Nat} {es : List En} {ls : List AV} {st : List AV} {M : Mem} {Q : Option AV → Mem → Prop} {i h c : Nat} : wpc sx L K0 R0 mi ((pc, ln, .getfield i, [6, 3, h]) :: es) fl (ls) (vR (c + 2) :: st) M Q = (kin K0 c 6 ∧ wpc sx L K0 R0 mi es fl (ls) (vR (R0 c 3) :: st) M Q) := rfl
theorem w_gf_7_0 {sx : Int → Int} {L mi pc ln fl : Nat} {es : List En} {ls : List AV} {st : List AV} {M : Mem} {Q : Option AV → Mem → Prop} {i h c : Nat} : wpc sx L K0 R0 mi ((pc, ln, .getfield i, [7, 0, h]) :: es) fl (ls) (vR (c + 2) :: st) M Q = (kin K0 c 7 ∧ wpc sx L K0 R0 mi es fl (ls) (vI (M c 0) :: st) M Q) := rfl
theorem w_pf_7_0 {sx : Int → Int} {L mi pc ln fl : Nat} {es : List En} {ls : List AV} {st : List AV} {M : Mem} {Q : Option AV → Mem → Prop} {i h c : Nat} {x : Int} : wpc sx L K0 R0 mi ((pc, ln, .putfield i, [7, 0, h]) :: es) fl (ls) (vI x :: vR (c + 2) :: st) M Q = (kin K0 c 7 ∧ wpc sx L K0 R0 mi es fl (ls) (st) (mset M c 0 x) Q) := propext ⟨fun h => ⟨h.1.1, h.2⟩, fun h => ⟨⟨h.1, trivial⟩, h.2⟩⟩
theorem w_gf_7_1 {sx : Int → Int} {L mi pc ln fl : Nat} {es : List En} {ls : List AV} {st : List AV} {M : Mem} {Q : Option AV → Mem → Prop} {i h c : Nat} : wpc sx L K0 R0 mi ((pc, ln, .getfield i, [7, 1, h]) :: es) fl (ls) (vR (c + 2) :: st) M Q = (kin K0 c 7 ∧ wpc sx L K0 R0 mi es fl (ls) (vI (M c 1) :: st) M Q) := rfl
theorem w_pf_7_1 {sx : Int → Int} {L mi pc ln fl : Nat} {es : List En} {ls : List AV} {st : List AV} {M : Mem} {Q : Option AV → Mem → Prop} {i h c : Nat} {x : Int} : wpc sx L K0 R0 mi ((pc, ln, .putfield i, [7, 1, h]) :: es) fl (ls) (vI x :: vR (c + 2) :: st) M Q = (kin K0 c 7 ∧ wpc sx L K0 R0 mi es fl (ls) (st) (mset M c 1 x) Q) := propext ⟨fun h => ⟨h.1.1, h.2⟩, fun h => ⟨⟨h.1, trivial⟩, h.2⟩⟩
theorem w_gf_7_2 {sx : Int → Int} {L mi pc ln fl : Nat} {es : List En} {ls : List AV} {st : List AV} {M : Mem} {Q : Option AV → Mem → Prop} {i h c : Nat} : wpc sx L K0 R0 mi ((pc, ln, .getfield i, [7, 2, h]) :: es) fl (ls) (vR (c + 2) :: st) M Q = (kin K0 c 7 ∧ wpc sx L K0 R0 mi es fl (ls) (vR (R0 c 2) :: st) M Q) := rfl
theorem w_gf_7_3 {sx : Int → Int} {L mi pc ln fl : Nat} {es : List En} {ls : List AV} {st : List AV} {M : Mem} {Q : Option AV → Mem → Prop} {i h c : Nat} : wpc sx L K0 R0 mi ((pc, ln, .getfield i, [7, 3, h]) :: es) fl (ls) (vR (c + 2) :: st) M Q = (kin K0 c 7 ∧ wpc sx L K0 R0 mi es fl (ls) (vR (R0 c 3) :: st) M Q) := rfl
theorem w_gf_7_4 {sx : Int → Int} {L mi pc ln fl : Nat} {es : List En} {ls : List AV} {st : List AV} {M : Mem} {Q : Option AV → Mem → Prop} {i h c : Nat} : wpc sx L K0 R0 mi ((pc, ln, .getfield i, [7, 4, h]) :: es) fl (ls) (vR (c + 2) :: st) M Q = (kin K0 c 7 ∧ wpc sx L K0 R0 mi es fl (ls) (vR (R0 c 4) :: st) M Q) := rfl
theorem w_gf_8_0 {sx : Int → Int} {L mi pc ln fl : Nat} {es : List En} {ls : List AV} {st : List AV} {M : Mem} {Q : Option AV → Mem → Prop} {i h c : Nat} : wpc sx L K0 R0 mi ((pc, ln, .getfield i, [8, 0, h]) :: es) fl (ls) (vR (c + 2) :: st) M Q = (kin K0 c 8 ∧ wpc sx L K0 R0 mi es fl (ls) (vR (R0 c 0) :: st) M Q) := rfl
theorem w_gf_8_1 {sx : Int → Int} {L mi pc ln fl : Nat} {es : List En} {ls : List AV} {st : List AV} {M : Mem} {Q : Option AV → Mem → Prop} {i h c : Nat} : wpc sx L K0 R0 mi ((pc, ln, .getfield i, [8, 1, h]) :: es) fl (ls) (vR (c + 2) :: st) M Q = (kin K0 c 8 ∧ wpc sx L K0 R0 mi es fl (ls) (vR (R0 c 1) :: st) M Q) := rfl
theorem w_gf_8_2 {sx : Int → Int} {L mi pc ln fl : Nat} {es : List En} {ls : List AV} {st : List AV} {M : Mem} {Q : Option AV → Mem → Prop} {i h c : Nat} : wpc sx L K0 R0 mi ((pc, ln, .getfield i, [8, 2, h]) :: es) fl (ls) (vR (c + 2) :: st) M Q = (kin K0 c 8 ∧ wpc sx L K0 R0 mi es fl (ls) (vR (R0 c 2) :: st) M Q) := rfl
theorem w_gf_8_3 {sx : Int → Int} {L mi pc ln fl : Nat} {es : List En} {ls : List AV} {st : List AV} {M : Mem} {Q : Option AV → Mem → Prop} {i h c : Nat} : wpc sx L K0 R0 mi ((pc, ln, .getfield i, [8, 3, h]) :: es) fl (ls) (vR (c + 2) :: st) M Q = (kin K0 c 8 ∧ wpc sx L K0 R0 mi es fl (ls) (vR (R0 c 3) :: st) M Q) := rfl
theorem w_gf_8_4 {sx : Int → Int} {L mi pc ln fl : Nat} {es : List En} {ls : List AV} {st : List AV} {M : Mem} {Q : Option AV → Mem → Prop} {i h c : Nat} : wpc sx L K0 R0 mi ((pc, ln, .getfield i, [8, 4, h]) :: es) fl (ls) (vR (c + 2) :: st) M Q = (kin K0 c 8 ∧ wpc sx L K0 R0 mi es fl (ls) (vR (R0 c 4) :: st) M Q) := rfl
theorem w_gf_8_5 {sx : Int → Int} {L mi pc ln fl : Nat} {es : List En} {ls : List AV} {st : List AV} {M : Mem} {Q : Option AV → Mem → Prop} {i h c : Nat} : wpc sx L K0 R0 mi ((pc, ln, .getfield i, [8, 5, h]) :: es) fl (ls) (vR (c + 2) :: st) M Q = (kin K0 c 8 ∧ wpc sx L K0 R0 mi es fl (ls) (vR (R0 c 5) :: st) M Q) := rfl
theorem w_gf_8_6 {sx : Int → Int} {L mi pc ln fl : Nat} {es : List En} {ls : List AV} {st : List AV} {M : Mem} {Q : Option AV → Mem → Prop} {i h c : Nat} : wpc sx L K0 R0 mi ((pc, ln, .getfield i, [8, 6, h]) :: es) fl (ls) (vR (c + 2) :: st) M Q = (kin K0 c 8 ∧ wpc sx L K0 R0 mi es fl (ls) (vR (R0 c 6) :: st) M Q) := rfl
theorem w_gf_8_7 {sx : Int → Int} {L mi pc ln fl : Nat} {es : List En} {ls : List AV} {st : List AV} {M : Mem} {Q : Option AV → Mem → Prop} {i h c : Nat} : wpc sx L K0 R0 mi ((pc, ln, .getfield i, [8, 7, h]) :: es) fl (ls) (vR (c + 2) :: st) M Q = (kin K0 c 8 ∧ wpc sx L K0 R0 mi es fl (ls) (vI (M c 7) :: st) M Q) := rfl
theorem w_pf_8_7 {sx : Int → Int} {L mi pc ln fl : Nat} {es : List En} {ls : List AV} {st : List AV} {M : Mem} {Q : Option AV → Mem → Prop} {i h c : Nat} {x : Int} : wpc sx L K0 R0 mi ((pc, ln, .putfield i, [8, 7, h]) :: es) fl (ls) (vI x :: vR (c + 2) :: st) M Q = ((kin K0 c 8 ∧ (x = 0 ∨ x = 1)) ∧ wpc sx L K0 R0 mi es fl (ls) (st) (mset M c 7 x) Q) := rfl
theorem w_gf_8_8 {sx : Int → Int} {L mi pc ln fl : Nat} {es : List En} {ls : List AV} {st : List AV} {M : Mem} {Q : Option AV → Mem → Prop} {i h c : Nat} : wpc sx L K0 R0 mi ((pc, ln, .getfield i, [8, 8, h]) :: es) fl (ls) (vR (c + 2) :: st) M Q = (kin K0 c 8 ∧ wpc sx L K0 R0 mi es fl (ls) (vI (M c 8) :: st) M Q) := rfl
theorem w_pf_8_8 {sx : Int → Int} {L mi pc ln fl : Nat} {es : List En} {ls : List AV} {st : List AV} {M : Mem} {Q : Option AV → Mem → Prop} {i h c : Nat} {x : Int} : wpc sx L K0 R0 mi ((pc, ln, .putfield i, [8, 8, h]) :: es) fl (ls) (vI x :: vR (c + 2) :: st) M Q = (kin K0 c 8 ∧ wpc sx L K0 R0 mi es fl (ls) (st) (mset M c 8 x) Q) := propext ⟨fun h => ⟨h.1.1, h.2⟩, fun h => ⟨⟨h.1, trivial⟩, h.2⟩⟩
theorem w_gf_8_9 {sx : Int → Int} {L mi pc ln fl : Nat} {es : List En} {ls : List AV} {st : List AV} {M : Mem} {Q : Option AV → Mem → Prop} {i h c : Nat} : wpc sx L K0 R0 mi ((pc, ln, .getfield i, [8, 9, h]) :: es) fl (ls) (vR (c + 2) :: st) M Q = (kin K0 c 8 ∧ wpc sx L K0 R0 mi es fl (ls) (vI (M c 9) :: st) M Q) := rfl
theorem w_pf_8_9 {sx : Int → Int} {L mi pc ln fl : Nat} {es : List En} {ls : List AV} {st : List AV} {M : Mem} {Q : Option AV → Mem → Prop} {i h c : Nat} {x : Int} : wpc sx L K0 R0 mi ((pc, ln, .putfield i, [8, 9, h]) :: es) fl (ls) (vI x :: vR (c + 2) :: st) M Q = (kin K0 c 8 ∧ wpc sx L K0 R0 mi es fl (ls) (st) (mset M c 9 x) Q) := propext ⟨fun h => ⟨h.1.1, h.2⟩, fun h => ⟨⟨h.1, trivial⟩, h.2⟩⟩
theorem w_gf_9_0 {sx : Int → Int} {L mi pc ln fl : Nat} {es : List En} {ls : List AV} {st : List AV} {M : Mem} {Q : Option AV → Mem → Prop} {i h c : Nat} : wpc sx L K0 R0 mi ((pc, ln, .getfield i, [9, 0, h]) :: es) fl (ls) (vR (c + 2) :: st) M Q = (kin K0 c 9 ∧ wpc sx L K0 R0 mi es fl (ls) (vI (M c 0) :: st) M Q) := rfl
theorem w_pf_9_0 {sx : Int → Int} {L mi pc ln fl : Nat} {es : List En} {ls : List AV} {st : List AV} {M : Mem} {Q : Option AV → Mem → Prop} {i h c : Nat} {x : Int} : wpc sx L K0 R0 mi ((pc, ln, .putfield i, [9, 0, h]) :: es) fl (ls) (vI x :: vR (c + 2) :: st) M Q = (kin K0 c 9 ∧ wpc sx L K0 R0 mi es fl (ls) (st) (mset M c 0 x) Q) := propext ⟨fun h => ⟨h.1.1, h.2⟩, fun h => ⟨⟨h.1, trivial⟩, h.2⟩⟩
theorem w_gf_9_1 {sx : Int → Int} {L mi pc ln fl : Nat} {es : List En} {ls : List AV} {st : List AV} {M : Mem} {Q : Option AV → Mem → Prop} {i h c : Nat} : wpc sx L K0 R0 mi ((pc, ln, .getfield i, [9, 1, h]) :: es) fl (ls) (vR (c + 2) :: st) M Q = (kin K0 c 9 ∧ wpc sx L K0 R0 mi es fl (ls) (vR (R0 c 1) :: st) M Q) := rfl
theorem w_gf_9_2 {sx : Int → Int} {L mi pc ln fl : Nat} {es : List En} {ls : List AV} {st : List AV} {M : Mem} {Q : Option AV → Mem → Prop} {i h c : Nat} : wpc sx L K0 R0 mi ((pc, ln, .getfield i, [9, 2, h]) :: es) fl (ls) (vR (c + 2) :: st) M Q = (kin K0 c 9 ∧ wpc sx L K0 R0 mi es fl (ls) (vR (R0 c 2) :: st) M Q) := rfl
theorem w_gf_9_3 {sx : Int → Int} {L mi pc ln fl : Nat} {es : List En} {ls : List AV} {st : List AV} {M : Mem} {Q : Option AV → Mem → Prop} {i h c : Nat} : wpc sx L K0 R0 mi ((pc, ln, .getfield i, [9, 3, h]) :: es) fl (ls) (vR (c + 2) :: st) M Q = (kin K0 c 9 ∧ wpc sx L K0 R0 mi es fl (ls) (vR (R0 c 3) :: st) M Q) := rfl
theorem w_gf_9_4 {sx : Int → Int} {L mi pc ln fl : Nat} {es : List En} {ls : List AV} {st : List AV} {M : Mem} {Q : Option AV → Mem → Prop} {i h c : Nat} : wpc sx L K0 R0 mi ((pc, ln, .getfield i, [9, 4, h]) :: es) fl (ls) (vR (c + 2) :: st) M Q = (kin K0 c 9 ∧ wpc sx L K0 R0 mi es fl (ls) (vR (R0 c 4) :: st) M Q) := rfl
theorem w_gf_9_5 {sx : Int → Int} {L mi pc ln fl : Nat} {es : List En} {ls : List AV} {st : List AV} {M : Mem} {Q : Option AV → Mem → Prop} {i h c : Nat} : wpc sx L K0 R0 mi ((pc, ln, .getfield i, [9, 5, h]) :: es) fl (ls) (vR (c + 2) :: st) M Q = (kin K0 c 9 ∧ wpc sx L K0 R0 mi es fl (ls) (vR (R0 c 5) :: st) M Q) := rfl
theorem w_gf_9_6 {sx : Int → Int} {L mi pc ln fl : Nat} {es : List En} {ls : List AV} {st : List AV} {M : Mem} {Q : Option AV → Mem → Prop} {i h c : Nat} : wpc sx L K0 R0 mi ((pc, ln, .getfield i, [9, 6, h]) :: es) fl (ls) (vR (c + 2) :: st) M Q = (kin K0 c 9 ∧ wpc sx L K0 R0 mi es fl (ls) (vR (R0 c 6) :: st) M Q) := rfl
theorem w_gf_9_7 {sx : Int → Int} {L mi pc ln fl : Nat} {es : List En} {ls : List AV} {st : List AV} {M : Mem} {Q : Option AV → Mem → Prop} {i h c : Nat} : wpc sx L K0 R0 mi ((pc, ln, .getfield i, [9, 7, h]) :: es) fl (ls) (vR (c + 2) :: st) M Q = (kin K0 c 9 ∧ wpc sx L K0 R0 mi es fl (ls) (vR (R0 c 7) :: st) M Q) := rfl
theorem w_gf_9_8 {sx : Int → Int} {L mi pc ln fl : Nat} {es : List En} {ls : List AV} {st : List AV} {M : Mem} {Q : Option AV → Mem → Prop} {i h c : Nat} : wpc sx L K0 R0 mi ((pc, ln, .getfield i, [9, 8, h]) :: es) fl (ls) (vR (c + 2) :: st) M Q = (kin K0 c 9 ∧ wpc sx L K0 R0 mi es fl (ls) (vR (R0 c 8) :: st) M Q) := rfl
theorem w_gf_9_9 {sx : Int → Int} {L mi pc ln fl : Nat} {es : List En} {ls : List AV} {st : List AV} {M : Mem} {Q : Option AV → Mem → Prop} {i h c : Nat} : wpc sx L K0 R0 mi ((pc, ln, .getfield i, [9, 9, h]) :: es) fl (ls) (vR (c + 2) :: st) M Q = (kin K0 c 9 ∧ wpc sx L K0 R0 mi es fl (ls) (vI (M c 9) :: st) M Q) := rfl
theorem w_pf_9_9 {sx : Int → Int} {L mi pc ln fl : Nat} {es : List En} {ls : List AV} {st : List AV} {M : Mem} {Q : Option AV → Mem → Prop} {i h c : Nat} {x : Int} : wpc sx L K0 R0 mi ((pc, ln, .putfield i, [9, 9, h]) :: es) fl (ls) (vI x :: vR (c + 2) :: st) M Q = (kin K0 c 9 ∧ wpc sx L K0 R0 mi es fl (ls) (st) (mset M c 9 x) Q) := propext ⟨fun h => ⟨h.1.1, h.2⟩, fun h => ⟨⟨h.1, trivial⟩, h.2⟩⟩
theorem w_gf_9_10 {sx : Int → Int} {L mi pc ln fl : Nat} {es : List En} {ls : List AV} {st : List AV} {M : Mem} {Q : Option AV → Mem → Prop} {i h c : Nat} : wpc sx L K0 R0 mi ((pc, ln, .getfield i, [9, 10, h]) :: es) fl (ls) (vR (c + 2) :: st) M Q = (kin K0 c 9 ∧ wpc sx L K0 R0 mi es fl (ls) (vI (M c 10) :: st) M Q) := rfl
theorem w_pf_9_10 {sx : Int → Int} {L mi pc ln fl : Nat} {es : List En} {ls : List AV} {st : List AV} {M : Mem} {Q : Option AV → Mem → Prop} {i h c : Nat} {x : Int} : wpc sx L K0 R0 mi ((pc, ln, .putfield i, [9, 10, h]) :: es) fl (ls) (vI x :: vR (c + 2) :: st) M Q = ((kin K0 c 9 ∧ (x = 0 ∨ x = 1)) ∧ wpc sx L K0 R0 mi es fl (ls) (st) (mset M c 10 x) Q) := rfl
theorem w_gf_9_11 {sx : Int → Int} {L mi pc ln fl : Nat} {es : List En} {ls : List AV} {st : List AV} {M : Mem} {Q : Option AV → Mem → Prop} {i h c : Nat} : wpc sx L K0 R0 mi ((pc, ln, .getfield i, [9, 11, h]) :: es) fl (ls) (vR (c + 2) :: st) M Q = (kin K0 c 9 ∧ wpc sx L K0 R0 mi es fl (ls) (vR (R0 c 11) :: st) M Q) := rfl
theorem w_gf_9_12 {sx : Int → Int} {L mi pc ln fl : Nat} {es : List En} {ls : List AV} {st : List AV} {M : Mem} {Q : Option AV → Mem → Prop} {i h c : Nat} : wpc sx L K0 R0 mi ((pc, ln, .getfield i, [9, 12, h]) :: es) fl (ls) (vR (c + 2) :: st) M Q = (kin K0 c 9 ∧ wpc sx L K0 R0 mi es fl (ls) (vR (R0 c 12) :: st) M Q) := rfl
theorem w_gf_9_13 {sx : Int → Int} {L mi pc ln fl : Nat} {es : List En} {ls : List AV} {st : List AV} {M : Mem} {Q : Option AV → Mem → Prop} {i h c : Nat} : wpc sx L K0 R0 mi ((pc, ln, .getfield i, [9, 13, h]) :: es) fl (ls) (vR (c + 2) :: st) M Q = (kin K0 c 9 ∧ wpc sx L K0 R0 mi es fl (ls) (vR (R0 c 13) :: st) M Q) := rfl
theorem w_gf_9_14 {sx : Int → Int} {L mi pc ln fl : Nat} {es : List En} {ls : List AV} {st : List AV} {M : Mem} {Q : Option AV → Mem → Prop} {i h c : Nat} : wpc sx L K0 R0 mi ((pc, ln, .getfield i, [9, 14, h]) :: es) fl (ls) (vR (c + 2) :: st) M Q = (kin K0 c 9 ∧ wpc sx L K0 R0 mi es fl (ls) (vR (R0 c 14) :: st) M Q) := rfl
theorem w_gf_9_15 {sx : Int → Int} {L mi pc ln fl : Nat} {es : List En} {ls : List AV} {st : List AV} {M : Mem} {Q : Option AV → Mem → Prop} {i h c : Nat} : wpc sx L K0 R0 mi ((pc, ln, .getfield i, [9, 15, h]) :: es) fl (ls) (vR (c + 2) :: st) M Q = (kin K0 c 9 ∧ wpc sx L K0 R0 mi es fl (ls) (vR (R0 c 15) :: st) M Q) := rfl
theorem w_gf_9_16 {sx : Int → Int} {L mi pc ln fl : Nat} {es : List En} {ls : List AV} {st : List AV} {M : Mem} {Q : Option AV → Mem → Prop} {i h c : Nat} : wpc sx L K0 R0 mi ((pc, ln, .getfield i, [9, 16, h]) :: es) fl (ls) (vR (c + 2) :: st) M Q = (kin K0 c 9 ∧ wpc sx L K0 R0 mi es fl (ls) (vR (R0 c 16) :: st) M Q) := rfl
theorem w_gf_9_17 {sx : Int → Int} {L mi pc ln fl : Nat} {es : List En} {ls : List AV} {st : List AV} {M : Mem} {Q : Option AV → Mem → Prop} {i h c : Nat} : wpc sx L K0 R0 mi ((pc, ln, .getfield i, [9, 17, h]) :: es) fl (ls) (vR (c + 2) :: st) M Q = (kin K0 c 9 ∧ wpc sx L K0 R0 mi es fl (ls) (vR (R0 c 17) :: st) M Q) := rfl
theorem w_gf_9_18 {sx : Int → Int} {L mi pc ln fl : Nat} {es : List En} {ls : List AV} {st : List AV} {M : Mem} {Q : Option AV → Mem → Prop} {i h c : Nat} : wpc sx L K0 R0 mi ((pc, ln, .getfield i, [9, 18, h]) :: es) fl (ls) (vR (c + 2) :: st) M Q = (kin K0 c 9 ∧ wpc sx L K0 R0 mi es fl (ls) (vR (R0 c 18) :: st) M Q) := rfl
theorem w_gf_9_19 {sx : Int → Int} {L mi pc ln fl : Nat} {es : List En} {ls : List AV} {st : List AV} {M : Mem} {Q : Option AV → Mem → Prop} {i h c : Nat} : wpc sx L K0 R0 mi ((pc, ln, .getfield i, [9, 19, h]) :: es) fl (ls) (vR (c + 2) :: st) M Q = (kin K0 c 9 ∧ wpc sx L K0 R0 mi es fl (ls) (vI (M c 19) :: st) M Q) := rfl
theorem w_pf_9_19 {sx : Int → Int} {L mi pc ln fl : Nat} {es : List En} {ls : List AV} {st : List AV} {M : Mem} {Q : Option AV → Mem → Prop} {i h c : Nat} {x : Int} : wpc sx L K0 R0 mi ((pc, ln, .putfield i, [9, 19, h]) :: es) fl (ls) (vI x :: vR (c + 2) :: st) M Q = (kin K0 c 9 ∧ wpc sx L K0 R0 mi es fl (ls) (st) (mset M c 19 x) Q) := propext ⟨fun h => ⟨h.1.1, h.2⟩, fun h => ⟨⟨h.1, trivial⟩, h.2⟩⟩
theorem w_gf_9_20 {sx : Int → Int} {L mi pc ln fl : Nat} {es : List En} {ls : List AV} {st : List AV} {M : Mem} {Q : Option AV → Mem → Prop} {i h c : Nat} : wpc sx L K0 R0 mi ((pc, ln, .getfield i, [9, 20, h]) :: es) fl (ls) (vR (c + 2) :: st) M Q = (kin K0 c 9 ∧ wpc sx L K0 R0 mi es fl (ls) (vI (M c 20) :: st) M Q) := rfl
theorem w_pf_9_20 {sx : Int → Int} {L mi pc ln fl : Nat} {es : List En} {ls : List AV} {st : List AV} {M : Mem} {Q : Option AV → Mem → Prop} {i h c : Nat} {x : Int} : wpc sx L K0 R0 mi ((pc, ln, .putfield i, [9, 20, h]) :: es) fl (ls) (vI x :: vR (c + 2) :: st) M Q = (kin K0 c 9 ∧ wpc sx L K0 R0 mi es fl (ls) (st) (mset M c 20 x) Q) := propext ⟨fun h => ⟨h.1.1, h.2⟩, fun h => ⟨⟨h.1, trivial⟩, h.2⟩⟩
theorem w_gf_9_21 {sx : Int → Int} {L mi pc ln fl : Nat} {es : List En} {ls : List AV} {st : List AV} {M : Mem} {Q : Option AV → Mem → Prop} {i h c : Nat} : wpc sx L K0 R0 mi ((pc, ln, .getfield i, [9, 21, h]) :: es) fl (ls) (vR (c + 2) :: st) M Q = (kin K0 c 9 ∧ wpc sx L K0 R0 mi es fl (ls) (vI (M c 21) :: st) M Q) := rfl
theorem w_pf_9_21 {sx : Int → Int} {L mi pc ln fl : Nat} {es : List En} {ls : List AV} {st : List AV} {M : Mem} {Q : Option AV → Mem → Prop} {i h c : Nat} {x : Int} : wpc sx L K0 R0 mi ((pc, ln, .putfield i, [9, 21, h]) :: es) fl (ls) (vI x :: vR (c + 2) :: st) M Q = (kin K0 c 9 ∧ wpc sx L K0 R0 mi es fl (ls) (st) (mset M c 21 x) Q) := propext ⟨fun h => ⟨h.1.1, h.2⟩, fun h => ⟨⟨h.1, trivial⟩, h.2⟩⟩
theorem w_gf_9_22 {sx : Int → Int} {L mi pc ln fl : Nat} {es : List En} {ls : List AV} {st : List AV} {M : Mem} {Q : Option AV → Mem → Prop} {i h c : Nat} : wpc sx L K0 R0 mi ((pc, ln, .getfield i, [9, 22, h]) :: es) fl (ls) (vR (c + 2) :: st) M Q = (kin K0 c 9 ∧ wpc sx L K0 R0 mi es fl (ls) (vI (M c 22) :: st) M Q) := rfl
theorem w_pf_9_22 {sx : Int → Int} {L mi pc ln fl : Nat} {es : List En} {ls : List AV} {st : List AV} {M : Mem} {Q : Option AV → Mem → Prop} {i h c : Nat} {x : Int} : wpc sx L K0 R0 mi ((pc, ln, .putfield i, [9, 22, h]) :: es) fl (ls) (vI x :: vR (c + 2) :: st) M Q = (kin K0 c 9 ∧ wpc sx L K0 R0 mi es fl (ls) (st) (mset M c 22 x) Q) := propext ⟨fun h => ⟨h.1.1, h.2⟩, fun h => ⟨⟨h.1, trivial⟩, h.2⟩⟩
theorem w_gf_9_23 {sx : Int → Int} {L mi pc ln fl : Nat} {es : List En} {ls : List AV} {st : List AV} {M : Mem} {Q : Option AV → Mem → Prop} {i h c : Nat} : wpc sx L K0 R0 mi ((pc, ln, .getfield i, [9, 23, h]) :: es) fl (ls) (vR (c + 2) :: st) M Q = (kin K0 c 9 ∧ wpc sx L K0 R0 mi es fl (ls) (vI (M c 23) :: st) M Q) := rfl
theorem w_pf_9_23 {sx : Int → Int} {L mi pc ln fl : Nat} {es : List En} {ls : List AV} {st : List AV} {M : Mem} {Q : Option AV → Mem → Prop} {i h c : Nat} {x : Int} : wpc sx L K0 R0 mi ((pc, ln, .putfield i, [9, 23, h]) :: es) fl (ls) (vI x :: vR (c + 2) :: st) M Q = (kin K0 c 9 ∧ wpc sx L K0 R0 mi es fl (ls) (st) (mset M c 23 x) Q) := propext ⟨fun h => ⟨h.1.1, h.2⟩, fun h => ⟨⟨h.1, trivial⟩, h.2⟩⟩
theorem w_gf_9_24 {sx : Int → Int} {L mi pc ln fl : Nat} {es : List En} {ls : List AV} {st : List AV} {M : Mem} {Q : Option AV → Mem → Prop} {i h c : Nat} : wpc sx L K0 R0 mi ((pc, ln, .getfield i, [9, 24, h]) :: es) fl (ls) (vR (c + 2) :: st) M Q = (kin K0 c 9 ∧ wpc sx L K0 R0 mi es fl (ls) (vI (M c 24) :: st) M Q) := rfl
theorem w_pf_9_24 {sx : Int → Int} {L mi pc ln fl : Nat} {es : List En} {ls : List AV} {st : List AV} {M : Mem} {Q : Option AV → Mem → Prop} {i h c : Nat} {x : Int} : wpc sx L K0 R0 mi ((pc, ln, .putfield i, [9, 24, h]) :: es) fl (ls) (vI x :: vR (c + 2) :: st) M Q = (kin K0 c 9 ∧ wpc sx L K0 R0 mi es fl (ls) (st) (mset M c 24 x) Q) := propext ⟨fun h => ⟨h.1.1, h.2⟩, fun h => ⟨⟨h.1, trivial⟩, h.2⟩⟩
theorem w_gf_9_25 {sx : Int → Int} {L mi pc ln fl : Nat} {es : List En} {ls : List AV} {st : List AV} {M : Mem} {Q : Option AV → Mem → Prop} {i h c : Nat} : wpc sx L K0 R0 mi ((pc, ln, .getfield i, [9, 25, h]) :: es) fl (ls) (vR (c + 2) :: st) M Q = (kin K0 c 9 ∧ wpc sx L K0 R0 mi es fl (ls) (vI (M c 25) :: st) M Q) := rfl
theorem w_pf_9_25 {sx : Int → Int} {L mi pc ln fl : Nat} {es : List En} {ls : List AV} {st : List AV} {M : Mem} {Q : Option AV → Mem → Prop} {i h c : Nat} {x : Int} : wpc sx L K0 R0 mi ((pc, ln, .putfield i, [9, 25, h]) :: es) fl (ls) (vI x :: vR (c + 2) :: st) M Q = (kin K0 c 9 ∧ wpc sx L K0 R0 mi es fl (ls) (st) (mset M c 25 x) Q) := propext ⟨fun h => ⟨h.1.1, h.2⟩, fun h => ⟨⟨h.1, trivial⟩, h.2⟩⟩
theorem w_gf_9_26 {sx : Int → Int} {L mi pc ln fl : Nat} {es : List En} {ls : List AV} {st : List AV} {M : Mem} {Q : Option AV → Mem → Prop} {i h c : Nat} : wpc sx L K0 R0 mi ((pc, ln, .getfield i, [9, 26, h]) :: es) fl (ls) (vR (c + 2) :: st) M Q = (kin K0 c 9 ∧ wpc sx L K0 R0 mi es fl (ls) (vI (M c 26) :: st) M Q) := rfl
theorem w_pf_9_26 {sx : Int → Int} {L mi pc ln fl : Nat} {es : List En} {ls : List AV} {st : List AV} {M : Mem} {Q : Option AV → Mem → Prop} {i h c : Nat} {x : Int} : wpc sx L K0 R0 mi ((pc, ln, .putfield i, [9, 26, h]) :: es) fl (ls) (vI x :: vR (c + 2) :: st) M Q = ((kin K0 c 9 ∧ (x = 0 ∨ x = 1)) ∧ wpc sx L K0 R0 mi es fl (ls) (st) (mset M c 26 x) Q) := rfl
theorem w_gf_9_27 {sx : Int → Int} {L mi pc ln fl : Nat} {es : List En} {ls : List AV} {st : List AV} {M : Mem} {Q : Option AV → Mem → Prop} {i h c : Nat} : wpc sx L K0 R0 mi ((pc, ln, .getfield i, [9, 27, h]) :: es) fl (ls) (vR (c + 2) :: st) M Q = (kin K0 c 9 ∧ wpc sx L K0 R0 mi es fl (ls) (vI (M c 27) :: st) M Q) := rfl
theorem w_pf_9_27 {sx : Int → Int} {L mi pc ln fl : Nat} {es : List En} {ls : List AV} {st : List AV} {M : Mem} {Q : Option AV → Mem → Prop} {i h c : Nat} {x : Int} : wpc sx L K0 R0 mi ((pc, ln, .putfield i, [9, 27, h]) :: es) fl (ls) (vI x :: vR (c + 2) :: st) M Q = (kin K0 c 9 ∧ wpc sx L K0 R0 mi es fl (ls) (st) (mset M c 27 x) Q) := propext ⟨fun h => ⟨h.1.1, h.2⟩, fun h => ⟨⟨h.1, trivial⟩, h.2⟩⟩
theorem w_gf_9_28 {sx : Int → Int} {L mi pc ln fl : Nat} {es : List En} {ls : List AV} {st : List AV} {M : Mem} {Q : Option AV → Mem → Prop} {i h c : Nat} : wpc sx L K0 R0 mi ((pc, ln, .getfield i, [9, 28, h]) :: es) fl (ls) (vR (c + 2) :: st) M Q = (kin K0 c 9 ∧ wpc sx L K0 R0 mi es fl (ls) (vR (R0 c 28) :: st) M Q) := rfl
theorem w_gf_9_29 {sx : Int → Int} {L mi pc ln fl : Nat} {es : List En} {ls : List AV} {st : List AV} {M : Mem} {Q : Option AV → Mem → Prop} {i h c : Nat} : wpc sx L K0 R0 mi ((pc, ln, .getfield i, [9, 29, h]) :: es) fl (ls) (vR (c + 2) :: st) M Q = (kin K0 c 9 ∧ wpc sx L K0 R0 mi es fl (ls) (vR (R0 c 29) :: st) M Q) := rfl
theorem w_gf_9_30 {sx : Int → Int} {L mi pc ln fl : Nat} {es : List En} {ls : List AV} {st : List AV} {M : Mem} {Q : Option AV → Mem → Prop} {i h c : Nat} : wpc sx L K0 R0 mi ((pc, ln, .getfield i, [9, 30, h]) :: es) fl (ls) (vR (c + 2) :: st) M Q = (kin K0 c 9 ∧ wpc sx L K0 R0 mi es fl (ls) (vI (M c 30) :: st) M Q) := rfl
theorem w_pf_9_30 {sx : Int → Int} {L mi pc ln fl : Nat} {es : List En} {ls : List AV} {st : List AV} {M : Mem} {Q : Option AV → Mem → Prop} {i h c : Nat} {x : Int} : wpc sx L K0 R0 mi ((pc, ln, .putfield i, [9, 30, h]) :: es) fl (ls) (vI x :: vR (c + 2) :: st) M Q = (kin K0 c 9 ∧ wpc sx L K0 R0 mi es fl (ls) (st) (mset M c 30 x) Q) := propext ⟨fun h => ⟨h.1.1, h.2⟩, fun h => ⟨⟨h.1, trivial⟩, h.2⟩⟩
theorem w_gf_9_31 {sx : Int → Int} {L mi pc ln fl : Nat} {es : List En} {ls : List AV} {st : List AV} {M : Mem} {Q : Option AV → Mem → Prop} {i h c : Nat} : wpc sx L K0 R0 mi ((pc, ln, .getfield i, [9, 31, h]) :: es) fl (ls) (vR (c + 2) :: st) M Q = (kin K0 c 9 ∧ wpc sx L K0 R0 mi es fl (ls) (vI (M c 31) :: st) M Q) := rfl
theorem w_pf_9_31 {sx : Int → Int} {L mi pc ln fl : Nat} {es : List En} {ls : List AV} {st : List AV} {M : Mem} {Q : Option AV → Mem → Prop} {i h c : Nat} {x : Int} : wpc sx L K0 R0 mi ((pc, ln, .putfield i, [9, 31, h]) :: es) fl (ls) (vI x :: vR (c + 2) :: st) M Q = (kin K0 c 9 ∧ wpc sx L K0 R0 mi es fl (ls) (st) (mset M c 31 x) Q) := propext ⟨fun h => ⟨h.1.1, h.2⟩, fun h => ⟨⟨h.1, trivial⟩, h.2⟩⟩
theorem w_gf_9_32 {sx : Int → Int} {L mi pc ln fl : Nat} {es : List En} {ls : List AV} {st : List AV} {M : Mem} {Q : Option AV → Mem → Prop} {i h c : Nat} : wpc sx L K0 R0 mi ((pc, ln, .getfield i, [9, 32, h]) :: es) fl (ls) (vR (c + 2) :: st) M Q = (kin K0 c 9 ∧ wpc sx L K0 R0 mi es fl (ls) (vI (M c 32) :: st) M Q) := rfl
theorem w_pf_9_32 {sx : Int → Int} {L mi pc ln fl : Nat} {es : List En} {ls : List AV} {st : List AV} {M : Mem} {Q : Option AV → Mem → Prop} {i h c : Nat} {x : Int} : wpc sx L K0 R0 mi ((pc, ln, .putfield i, [9, 32, h]) :: es) fl (ls) (vI x :: vR (c + 2) :: st) M Q = (kin K0 c 9 ∧ wpc sx L K0 R0 mi es fl (ls) (st) (mset M c 32 x) Q) := propext ⟨fun h => ⟨h.1.1, h.2⟩, fun h => ⟨⟨h.1, trivial⟩, h.2⟩⟩
theorem w_gf_9_33 {sx : Int → Int} {L mi pc ln fl : Nat} {es : List En} {ls : List AV} {st : List AV} {M : Mem} {Q : Option AV → Mem → Prop} {i h c : Nat} : wpc sx L K0 R0 mi ((pc, ln, .getfield i, [9, 33, h]) :: es) fl (ls) (vR (c + 2) :: st) M Q = (kin K0 c 9 ∧ wpc sx L K0 R0 mi es fl (ls) (vI (M c 33) :: st) M Q) := rfl
theorem w_pf_9_33 {sx : Int → Int} {L mi pc ln fl : Nat} {es : List En} {ls : List AV} {st : List AV} {M : Mem} {Q : Option AV → Mem → Prop} {i h c : Nat} {x : Int} : wpc sx L K0 R0 mi ((pc, ln, .putfield i, [9, 33, h]) :: es) fl (ls) (vI x :: vR (c + 2) :: st) M Q = (kin K0 c 9 ∧ wpc sx L K0 R0 mi es fl (ls) (st) (mset M c 33 x) Q) := propext ⟨fun h => ⟨h.1.1, h.2⟩, fun h => ⟨⟨h.1, trivial⟩, h.2⟩⟩
theorem w_gf_9_34 {sx : Int → Int} {L mi pc ln fl : Nat} {es : List En} {ls : List AV} {st : List AV} {M : Mem} {Q : Option AV → Mem → Prop} {i h c : Nat} : wpc sx L K0 R0 mi ((pc, ln, .getfield i, [9, 34, h]) :: es) fl (ls) (vR (c + 2) :: st) M Q = (kin K0 c 9 ∧ wpc sx L K0 R0 mi es fl (ls) (vI (M c 34) :: st) M Q) := rfl
theorem w_pf_9_34 {sx : Int → Int} {L mi pc ln fl : Nat} {es : List En} {ls : List AV} {st : List AV} {M : Mem} {Q : Option AV → Mem → Prop} {i h c : Nat} {x : Int} : wpc sx L K0 R0 mi ((pc, ln, .putfield i, [9, 34, h]) :: es) fl (ls) (vI x :: vR (c + 2) :: st) M Q = (kin K0 c 9 ∧ wpc sx L K0 R0 mi es fl (ls) (st) (mset M c 34 x) Q) := propext ⟨fun h => ⟨h.1.1, h.2⟩, fun h => ⟨⟨h.1, trivial⟩, h.2⟩⟩
theorem w_gf_9_35 {sx : Int → Int} {L mi pc ln fl : Nat} {es : List En} {ls : List AV} {st : List AV} {M : Mem} {Q : Option AV → Mem → Prop} {i h c : Nat} : wpc sx L K0 R0 mi ((pc, ln, .getfield i, [9, 35, h]) :: es) fl (ls) (vR (c + 2) :: st) M Q = (kin K0 c 9 ∧ wpc sx L K0 R0 mi es fl (ls) (vR (R0 c 35) :: st) M Q) := rfl
theorem w_gf_9_36 {sx : Int → Int} {L mi pc ln fl : Nat} {es : List En} {ls : List AV} {st : List AV} {M : Mem} {Q : Option AV → Mem → Prop} {i h c : Nat} : wpc sx L K0 R0 mi ((pc, ln, .getfield i, [9, 36, h]) :: es) fl (ls) (vR (c + 2) :: st) M Q = (kin K0 c 9 ∧ wpc sx L K0 R0 mi es fl (ls) (vR (R0 c 36) :: st) M Q) := rfl
theorem w_gf_9_37 {sx : Int → Int} {L mi pc ln fl : Nat} {es : List En} {ls : List AV} {st : List AV} {M : Mem} {Q : Option AV → Mem → Prop} {i h c : Nat} : wpc sx L K0 R0 mi ((pc, ln, .getfield i, [9, 37, h]) :: es) fl (ls) (vR (c + 2) :: st) M Q = (kin K0 c 9 ∧ wpc sx L K0 R0 mi es fl (ls) (vR (R0 c 37) :: st) M Q) := rfl
theorem w_gf_9_38 {sx : Int → Int} {L mi pc ln fl : Nat} {es : List En} {ls : List AV} {st : List AV} {M : Mem} {Q : Option AV → Mem → Prop} {i h c : Nat} : wpc sx L K0 R0 mi ((pc, ln, .getfield i, [9, 38, h]) :: es) fl (ls) (vR (c + 2) :: st) M Q = (kin K0 c 9 ∧ wpc sx L K0 R0 mi es fl (ls) (vR (R0 c 38) :: st) M Q) := rfl
theorem w_gf_9_39 {sx : Int → Int} {L mi pc ln fl : Nat} {es : List En} {ls : List AV} {st : List AV} {M : Mem} {Q : Option AV → Mem → Prop} {i h c : Nat} : wpc sx L K0 R0 mi ((pc, ln, .getfield i, [9, 39, h]) :: es) fl (ls) (vR (c + 2) :: st) M Q = (kin K0 c 9 ∧ wpc sx L K0 R0 mi es fl (ls) (vR (R0 c 39) :: st) M Q) := rfl
theorem w_gf_9_40 {sx : Int → Int} {L mi pc ln fl : Nat} {es : List En} {ls : List AV} {st : List AV} {M : Mem} {Q : Option AV → Mem → Prop} {i h c : Nat} : wpc sx L K0 R0 mi ((pc, ln, .getfield i, [9, 40, h]) :: es) fl (ls) (vR (c + 2) :: st) M Q = (kin K0 c 9 ∧ wpc sx L K0 R0 mi es fl (ls) (vR (R0 c 40) :: st) M Q) := rfl
theorem w_gf_9_41 {sx : Int → Int} {L mi pc ln fl : Nat} {es : List En} {ls : List AV} {st : List AV} {M : Mem} {Q : Option AV → Mem → Prop} {i h c : Nat} : wpc sx L K0 R0 mi ((pc, ln, .getfield i, [9, 41, h]) :: es) fl (ls) (vR (c + 2) :: st) M Q = (kin K0 c 9 ∧ wpc sx L K0 R0 mi es fl (ls) (vR (R0 c 41) :: st) M Q) := rfl
theorem w_gf_9_42 {sx : Int → Int} {L mi pc ln fl : Nat} {es : List En} {ls : List AV} {st : List AV} {M : Mem} {Q : Option AV → Mem → Prop} {i h c : Nat} : wpc sx L K0 R0 mi ((pc, ln, .getfield i, [9, 42, h]) :: es) fl (ls) (vR (c + 2) :: st) M Q = (kin K0 c 9 ∧ wpc sx L K0 R0 mi es fl (ls) (vR (R0 c 42) :: st) M Q) := rfl
theorem w_gf_9_43 {sx : Int → Int} {L mi pc ln fl : Nat} {es : List En} {ls : List AV} {st : List AV} {M : Mem} {Q : Option AV → Mem → Prop} {i h c : Nat} : wpc sx L K0 R0 mi ((pc, ln, .getfield i, [9, 43, h]) :: es) fl (ls) (vR (c + 2) :: st) M Q = (kin K0 c 9 ∧ wpc sx L K0 R0 mi es fl (ls) (vR (R0 c 43) :: st) M Q) := rfl
theorem w_gf_9_44 {sx : Int → Int} {L mi pc ln fl : Nat} {es : List En} {ls : List AV} {st : List AV} {M : Mem} {Q : Option AV → Mem → Prop} {i h c : Nat} : wpc sx L K0 R0 mi ((pc, ln, .getfield i, [9, 44, h]) :: es) fl (ls) (vR (c + 2) :: st) M Q = (kin K0 c 9 ∧ wpc sx L K0 R0 mi es fl (ls) (vR (R0 c 44) :: st) M Q) := rfl
theorem w_gf_9_45 {sx : Int → Int} {L mi pc ln fl : Nat} {es : List En} {ls : List AV} {st : List AV} {M : Mem} {Q : Option AV → Mem → Prop} {i h c : Nat} : wpc sx L K0 R0 mi ((pc, ln, .getfield i, [9, 45, h]) :: es) fl (ls) (vR (c + 2) :: st) M Q = (kin K0 c 9 ∧ wpc sx L K0 R0 mi es fl (ls) (vR (R0 c 45) :: st) M Q) := rfl
theorem w_gf_9_46 {sx : Int → Int} {L mi pc ln fl : Nat} {es : List En} {ls : List AV} {st : List AV} {M : Mem} {Q : Option AV → Mem → Prop} {i h c : Nat} : wpc sx L K0 R0 mi ((pc, ln, .getfield i, [9, 46, h]) :: es) fl (ls) (vR (c + 2) :: st) M Q = (kin K0 c 9 ∧ wpc sx L K0 R0 mi es fl (ls) (vR (R0 c 46) :: st) M Q) := rfl
theorem w_gf_9_47 {sx : Int → Int} {L mi pc ln fl : Nat} {es : List En} {ls : List AV} {st : List AV} {M : Mem} {Q : Option AV → Mem → Prop} {i h c : Nat} : wpc sx L K0 R0 mi ((pc, ln, .getfield i, [9, 47, h]) :: es) fl (ls) (vR (c + 2) :: st) M Q = (kin K0 c 9 ∧ wpc sx L K0 R0 mi es fl (ls) (vR (R0 c 47) :: st) M Q) := rfl
theorem w_gf_9_48 {sx : Int → Int} {L mi pc ln fl : Nat} {es : List En} {ls : List AV} {st : List AV} {M : Mem} {Q : Option AV → Mem → Prop} {i h c : Nat} : wpc sx L K0 R0 mi ((pc, ln, .getfield i, [9, 48, h]) :: es) fl (ls) (vR (c + 2) :: st) M Q = (kin K0 c 9 ∧ wpc sx L K0 R0 mi es fl (ls) (vR (R0 c 48) :: st) M Q) := rfl
theorem w_gf_9_49 {sx : Int → Int} {L mi pc ln fl : Nat} {es : List En} {ls : List AV} {st : List AV} {M : Mem} {Q : Option AV → Mem → Prop} {i h c : Nat} : wpc sx L K0 R0 mi ((pc, ln, .getfield i, [9, 49, h]) :: es) fl (ls) (vR (c + 2) :: st) M Q = (kin K0 c 9 ∧ wpc sx L K0 R0 mi es fl (ls) (vI (M c 49) :: st) M Q) := rfl
theorem w_pf_9_49 {sx : Int → Int} {L mi pc ln fl : Nat} {es : List En} {ls : List AV} {st : List AV} {M : Mem} {Q : Option AV → Mem → Prop} {i h c : Nat} {x : Int} : wpc sx L K0 R0 mi ((pc, ln, .putfield i, [9, 49, h]) :: es) fl (ls) (vI x :: vR (c + 2) :: st) M Q = (kin K0 c 9 ∧ wpc sx L K0 R0 mi es fl (ls) (st) (mset M c 49 x) Q) := propext ⟨fun h => ⟨h.1.1, h.2⟩, fun h => ⟨⟨h.1, trivial⟩, h.2⟩⟩
theorem w_gf_9_50 {sx : Int → Int} {L mi pc ln fl : Nat} {es : List En} {ls : List AV} {st : List AV} {M : Mem} {Q : Option AV → Mem → Prop} {i h c : Nat} : wpc sx L K0 R0 mi ((pc, ln, .getfield i, [9, 50, h]) :: es) fl (ls) (vR (c + 2) :: st) M Q = (kin K0 c 9 ∧ wpc sx L K0 R0 mi es fl (ls) (vI (M c 50) :: st) M Q) := rfl
theorem w_pf_9_50 {sx : Int → Int} {L mi pc ln fl : Nat} {es : List En} {ls : List AV} {st : List AV} {M : Mem} {Q : Option AV → Mem → Prop} {i h c : Nat} {x : Int} : wpc sx L K0 R0 mi ((pc, ln, .putfield i, [9, 50, h]) :: es) fl (ls) (vI x :: vR (c + 2) :: st) M Q = (kin K0 c 9 ∧ wpc sx L K0 R0 mi es fl (ls) (st) (mset M c 50 x) Q) := propext ⟨fun h => ⟨h.1.1, h.2⟩, fun h => ⟨⟨h.1, trivial⟩, h.2⟩⟩
theorem w_gf_9_51 {sx : Int → Int} {L mi pc ln fl : Nat} {es : List En} {ls : List AV} {st : List AV} {M : Mem} {Q : Option AV → Mem → Prop} {i h c : Nat} : wpc sx L K0 R0 mi ((pc, ln, .getfield i, [9, 51, h]) :: es) fl (ls) (vR (c + 2) :: st) M Q = (kin K0 c 9 ∧ wpc sx L K0 R0 mi es fl (ls) (vI (M c 51) :: st) M Q) := rfl
theorem w_pf_9_51 {sx : Int → Int} {L mi pc ln fl : Nat} {es : List En} {ls : List AV} {st : List AV} {M : Mem} {Q : Option AV → Mem → Prop} {i h c : Nat} {x : Int} : wpc sx L K0 R0 mi ((pc, ln, .putfield i, [9, 51, h]) :: es) fl (ls) (vI x :: vR (c + 2) :: st) M Q = (kin K0 c 9 ∧ wpc sx L K0 R0 mi es fl (ls) (st) (mset M c 51 x) Q) := propext ⟨fun h => ⟨h.1.1, h.2⟩, fun h => ⟨⟨h.1, trivial⟩, h.2⟩⟩
theorem w_gf_9_52 {sx : Int → Int} {L mi pc ln fl : Nat} {es : List En} {ls : List AV} {st : List AV} {M : Mem} {Q : Option AV → Mem → Prop} {i h c : Nat} : wpc sx L K0 R0 mi ((pc, ln, .getfield i, [9, 52, h]) :: es) fl (ls) (vR (c + 2) :: st) M Q = (kin K0 c 9 ∧ wpc sx L K0 R0 mi es fl (ls) (vR (R0 c 52) :: st) M Q) := rfl
theorem w_gf_9_53 {sx : Int → Int} {L mi pc ln fl : Nat} {es : List En} {ls : List AV} {st : List AV} {M : Mem} {Q : Option AV → Mem → Prop} {i h c : Nat} : wpc sx L K0 R0 mi ((pc, ln, .getfield i, [9, 53, h]) :: es) fl (ls) (vR (c + 2) :: st) M Q = (kin K0 c 9 ∧ wpc sx L K0 R0 mi es fl (ls) (vR (R0 c 53) :: st) M Q) := rfl
theorem w_gf_9_54 {sx : Int → Int} {L mi pc ln fl : Nat} {es : List En} {ls : List AV} {st : List AV} {M : Mem} {Q : Option AV → Mem → Prop} {i h c : Nat} : wpc sx L K0 R0 mi ((pc, ln, .getfield i, [9, 54, h]) :: es) fl (ls) (vR (c + 2) :: st) M Q = (kin K0 c 9 ∧ wpc sx L K0 R0 mi es fl (ls) (vI (M c 54) :: st) M Q) := rfl
theorem w_pf_9_54 {sx : Int → Int} {L mi pc ln fl : Nat} {es : List En} {ls : List AV} {st : List AV} {M : Mem} {Q : Option AV → Mem → Prop} {i h c : Nat} {x : Int} : wpc sx L K0 R0 mi ((pc, ln, .putfield i, [9, 54, h]) :: es) fl (ls) (vI x :: vR (c + 2) :: st) M Q = (kin K0 c 9 ∧ wpc sx L K0 R0 mi es fl (ls) (st) (mset M c 54 x) Q) := propext ⟨fun h => ⟨h.1.1, h.2⟩, fun h => ⟨⟨h.1, trivial⟩, h.2⟩⟩
theorem w_gf_9_55 {sx : Int → Int} {L mi pc ln fl : Nat} {es : List En} {ls : List AV} {st : List AV} {M : Mem} {Q : Option AV → Mem → Prop} {i h c : Nat} : wpc sx L K0 R0 mi ((pc, ln, .getfield i, [9, 55, h]) :: es) fl (ls) (vR (c + 2) :: st) M Q = (kin K0 c 9 ∧ wpc sx L K0 R0 mi es fl (ls) (vI (M c 55) :: st) M Q) := rfl
theorem w_pf_9_55 {sx : Int → Int} {L mi pc ln fl : Nat} {es : List En} {ls : List AV} {st : List AV} {M : Mem} {Q : Option AV → Mem → Prop} {i h c : Nat} {x : Int} : wpc sx L K0 R0 mi ((pc, ln, .putfield i, [9, 55, h]) :: es) fl (ls) (vI x :: vR (c + 2) :: st) M Q = (kin K0 c 9 ∧ wpc sx L K0 R0 mi es fl (ls) (st) (mset M c 55 x) Q) := propext ⟨fun h => ⟨h.1.1, h.2⟩, fun h => ⟨⟨h.1, trivial⟩, h.2⟩⟩
theorem w_gf_9_56 {sx : Int → Int} {L mi pc ln fl : Nat} {es : List En} {ls : List AV} {st : List AV} {M : Mem} {Q : Option AV → Mem → Prop} {i h c : Nat} : wpc sx L K0 R0 mi ((pc, ln, .getfield i, [9, 56, h]) :: es) fl (ls) (vR (c + 2) :: st) M Q = (kin K0 c 9 ∧ wpc sx L K0 R0 mi es fl (ls) (vI (M c 56) :: st) M Q) := rfl
theorem w_pf_9_56 {sx : Int → Int} {L mi pc ln fl : Nat} {es : List En} {ls : List AV} {st : List AV} {M : Mem} {Q : Option AV → Mem → Prop} {i h c : Nat} {x : Int} : wpc sx L K0 R0 mi ((pc, ln, .putfield i, [9, 56, h]) :: es) fl (ls) (vI x :: vR (c + 2) :: st) M Q = (kin K0 c 9 ∧ wpc sx L K0 R0 mi es fl (ls) (st) (mset M c 56 x) Q) := propext ⟨fun h => ⟨h.1.1, h.2⟩, fun h => ⟨⟨h.1, trivial⟩, h.2⟩⟩
theorem w_gf_9_57 {sx : Int → Int} {L mi pc ln fl : Nat} {es : List En} {ls : List AV} {st : List AV} {M : Mem} {Q : Option AV → Mem → Prop} {i h c : Nat} : wpc sx L K0 R0 mi ((pc, ln, .getfield i, [9, 57, h]) :: es) fl (ls) (vR (c + 2) :: st) M Q = (kin K0 c 9 ∧ wpc sx L K0 R0 mi es fl (ls) (vI (M c 57) :: st) M Q) := rfl
theorem w_pf_9_57 {sx : Int → Int} {L mi pc ln fl : Nat} {es : List En} {ls : List AV} {st : List AV} {M : Mem} {Q : Option AV → Mem → Prop} {i h c : Nat} {x : Int} : wpc sx L K0 R0 mi ((pc, ln, .putfield i, [9, 57, h]) :: es) fl (ls) (vI x :: vR (c + 2) :: st) M Q = (kin K0 c 9 ∧ wpc sx L K0 R0 mi es fl (ls) (st) (mset M c 57 x) Q) := propext ⟨fun h => ⟨h.1.1, h.2⟩, fun h => ⟨⟨h.1, trivial⟩, h.2⟩⟩
theorem w_gf_9_58 {sx : Int → Int} {L mi pc ln fl : Nat} {es : List En} {ls : List AV} {st : List AV} {M : Mem} {Q : Option AV → Mem → Prop} {i h c : Nat} : wpc sx L K0 R0 mi ((pc, ln, .getfield i, [9, 58, h]) :: es) fl (ls) (vR (c + 2) :: st) M Q = (kin K0 c 9 ∧ wpc sx L K0 R0 mi es fl (ls) (vI (M c 58) :: st) M Q) := rfl
theorem w_pf_9_58 {sx : Int → Int} {L mi pc ln fl : Nat} {es : List En} {ls : List AV} {st : List AV} {M : Mem} {Q : Option AV → Mem → Prop} {i h c : Nat} {x : Int} : wpc sx L K0 R0 mi ((pc, ln, .putfield i, [9, 58, h]) :: es) fl (ls) (vI x :: vR (c + 2) :: st) M Q = (kin K0 c 9 ∧ wpc sx L K0 R0 mi es fl (ls) (st) (mset M c 58 x) Q) := propext ⟨fun h => ⟨h.1.1, h.2⟩, fun h => ⟨⟨h.1, trivial⟩, h.2⟩⟩
theorem w_gf_9_59 {sx : Int → Int} {L mi pc ln fl : Nat} {es : List En} {ls : List AV} {st : List AV} {M : Mem} {Q : Option AV → Mem → Prop} {i h c : Nat} : wpc sx L K0 R0 mi ((pc, ln, .getfield i, [9, 59, h]) :: es) fl (ls) (vR (c + 2) :: st) M Q = (kin K0 c 9 ∧ wpc sx L K0 R0 mi es fl (ls) (vR (R0 c 59) :: st) M Q) := rfl
theorem w_gf_9_60 {sx : Int → Int} {L mi pc ln fl : Nat} {es : List En} {ls : List AV} {st : List AV} {M : Mem} {Q : Option AV → Mem → Prop} {i h c : Nat} : wpc sx L K0 R0 mi ((pc, ln, .getfield i, [9, 60, h]) :: es) fl (ls) (vR (c + 2) :: st) M Q = (kin K0 c 9 ∧ wpc sx L K0 R0 mi es fl (ls) (vR (R0 c 60) :: st) M Q) := rfl
theorem w_gf_9_61 {sx : Int → Int} {L mi pc ln fl : Nat} {es : List En} {ls : List AV} {st : List AV} {M : Mem} {Q : Option AV → Mem → Prop} {i h c : Nat} : wpc sx L K0 R0 mi ((pc, ln, .getfield i, [9, 61, h]) :: es) fl (ls) (vR (c + 2) :: st) M Q = (kin K0 c 9 ∧ wpc sx L K0 R0 mi es fl (ls) (vR (R0 c 61) :: st) M Q) := rfl
theorem w_gf_9_62 {sx : Int → Int} {L mi pc ln fl : Nat} {es : List En} {ls : List AV} {st : List AV} {M : Mem} {Q : Option AV → Mem → Prop} {i h c : Nat} : wpc sx L K0 R0 mi ((pc, ln, .getfield i, [9, 62, h]) :: es) fl (ls) (vR (c + 2) :: st) M Q = (kin K0 c 9 ∧ wpc sx L K0 R0 mi es fl (ls) (vR (R0 c 62) :: st) M Q) := rfl
theorem w_gf_9_63 {sx : Int → Int} {L mi pc ln fl : Nat} {es : List En} {ls : List AV} {st : List AV} {M : Mem} {Q : Option AV → Mem → Prop} {i h c : Nat} : wpc sx L K0 R0 mi ((pc, ln, .getfield i, [9, 63, h]) :: es) fl (ls) (vR (c + 2) :: st) M Q = (kin K0 c 9 ∧ wpc sx L K0 R0 mi es fl (ls) (vR (R0 c 63) :: st) M Q) := rfl
theorem w_gf_9_64 {sx : Int → Int} {L mi pc ln fl : Nat} {es : List En} {ls : List AV} {st : List AV} {M : Mem} {Q : Option AV → Mem → Prop} {i h c : Nat} : wpc sx L K0 R0 mi ((pc, ln, .getfield i, [9, 64, h]) :: es) fl (ls) (vR (c + 2) :: st) M Q = (kin K0 c 9 ∧ wpc sx L K0 R0 mi es fl (ls) (vI (M c 64) :: st) M Q) := rfl
theorem w_pf_9_64 {sx : Int → Int} {L mi pc ln fl : Nat} {es : List En} {ls : List AV} {st : List AV} {M : Mem} {Q : Option AV → Mem → Prop} {i h c : Nat} {x : Int} : wpc sx L K0 R0 mi ((pc, ln, .putfield i, [9, 64, h]) :: es) fl (ls) (vI x :: vR (c + 2) :: st) M Q = (kin K0 c 9 ∧ wpc sx L K0 R0 mi es fl (ls) (st) (mset M c 64 x) Q) := propext ⟨fun h => ⟨h.1.1, h.2⟩, fun h => ⟨⟨h.1, trivial⟩, h.2⟩⟩
theorem w_iald {sx : Int → Int} {L mi pc ln fl : Nat} {aux : List Nat} {es : List En} {ls : List AV} {st : List AV} {M : Mem} {Q : Option AV → Mem → Prop} {j : Int} {c : Nat} : wpc sx L K0 R0 mi ((pc, ln, .iaload, aux) :: es) fl (ls) (vI j :: vR (c + 2) :: st) M Q = (arr K0 c 10 j ∧ wpc sx L K0 R0 mi es fl (ls) (vI (M c j) :: st) M Q) := rfl
theorem w_bald {sx : Int → Int} {L mi pc ln fl : Nat} {aux : List Nat} {es : List En} {ls : List AV} {st : List AV} {M : Mem} {Q : Option AV → Mem → Prop} {j : Int} {c : Nat} : wpc sx L K0 R0 mi ((pc, ln, .baload, aux) :: es) fl (ls) (vI j :: vR (c + 2) :: st) M Q = (arr K0 c 11 j ∧ wpc sx L K0 R0 mi es fl (ls) (vI (M c j) :: st) M Q) := rfl
theorem w_aald {sx : Int → Int} {L mi pc ln fl : Nat} {aux : List Nat} {es : List En} {ls : List AV} {st : List AV} {M : Mem} {Q : Option AV → Mem → Prop} {j : Int} {c : Nat} : wpc sx L K0 R0 mi ((pc, ln, .aaload, aux) :: es) fl (ls) (vI j :: vR (c + 2) :: st) M Q = (arq K0 c j ∧ wpc sx L K0 R0 mi es fl (ls) (vR (R0 c j) :: st) M Q) := rfl
theorem w_iast {sx : Int → Int} {L mi pc ln fl : Nat} {aux : List Nat} {es : List En} {ls : List AV} {st : List AV} {M : Mem} {Q : Option AV → Mem → Prop} {x j : Int} {c : Nat} : wpc sx L K0 R0 mi ((pc, ln, .iastore, aux) :: es) fl (ls) (vI x :: vI j :: vR (c + 2) :: st) M Q = (arr K0 c 10 j ∧ wpc sx L K0 R0 mi es fl (ls) (st) (mset M c j x) Q) := rfl
theorem w_bast {sx : Int → Int} {L mi pc ln fl : Nat} {aux : List Nat} {es : List En} {ls : List AV} {st : List AV} {M : Mem} {Q : Option AV → Mem → Prop} {x j : Int} {c : Nat} : wpc sx L K0 R0 mi ((pc, ln, .bastore, aux) :: es) fl (ls) (vI x :: vI j :: vR (c + 2) :: st) M Q = ((arr K0 c 11 j ∧ (x = 0 ∨ x = 1)) ∧ wpc sx L K0 R0 mi es fl (ls) (st) (mset M c j x) Q) := rfl
theorem w_alen {sx : Int → Int} {L mi pc ln fl : Nat} {aux : List Nat} {es : List En} {ls : List AV} {st : List AV} {M : Mem} {Q : Option AV → Mem → Prop} {c kd n : Nat} (hk : K0[c]? = some (kd, n)) (hd : 10 ≤ kd ∧ kd ≤ 14) : wpc sx L K0 R0 mi ((pc, ln, .arraylength, aux) :: es) fl (ls) (vR (c + 2) :: st) M Q = (wpc sx L K0 R0 mi es fl (ls) (vI n :: st) M Q) := propext ⟨fun ⟨n2, h1, h2⟩ => by rw [aln_T hk hd] at h1; subst h1; exact h2, fun h => ⟨n, ⟨kd, hk, hd⟩, h⟩⟩
theorem w_als {sx : Int → Int} {L mi pc ln fl : Nat} {aux : List Nat} {es : List En} {st : List AV} {M : Mem} {Q : Option AV → Mem → Prop} {r : List AV} : wpc sx L K0 R0 mi ((pc, ln, .aload_n 0, aux) :: es) fl (vR 1 :: r) (st) M Q = (wpc sx L K0 R0 mi es fl (vR 1 :: r) (vR 1 :: st) M Q) := rfl
theorem w_sld {sx : Int → Int} {L mi pc ln fl : Nat} {aux : List Nat} {es : List En} {ls : List AV} {st : List AV} {M : Mem} {Q : Option AV → Mem → Prop} {j : Int} : wpc sx L K0 R0 mi ((pc, ln, .iaload, aux) :: es) fl (ls) (vI j :: vR 1 :: st) M Q = ((0 ≤ j ∧ j < L) ∧ wpc sx L K0 R0 mi es fl (ls) (vI (sx j) :: st) M Q) := rfl
theorem w_sln {sx : Int → Int} {L mi pc ln fl : Nat} {aux : List Nat} {es : List En} {ls : List AV} {st : List AV} {M : Mem} {Q : Option AV → Mem → Prop} : wpc sx L K0 R0 mi ((pc, ln, .arraylength, aux) :: es) fl (ls) (vR 1 :: st) M Q = (wpc sx L K0 R0 mi es fl (ls) (vI L :: st) M Q) := rfl
theorem cs0 : catS [] ≤ 8 := by decide
theorem cat_le (v : AV) : catn v ≤ 2 := by unfold catn; split <;> omega
theorem cs1 (v0 : AV) : catS [v0] ≤ 8 := by simp only [catS, List.map_cons, List.map_nil, List.sum_cons, List.sum_nil]; have h0 := cat_le v0; omega
theorem cs2 (v0 v1 : AV) : catS [v0, v1] ≤ 8 := by simp only [catS, List.map_cons, List.map_nil, List.sum_cons, List.sum_nil]; have h0 := cat_le v0; have h1 := cat_le v1; omega
theorem cs3 (v0 v1 v2 : AV) : catS [v0, v1, v2] ≤ 8 := by simp only [catS, List.map_cons, List.map_nil, List.sum_cons, List.sum_nil]; have h0 := cat_le v0; have h1 := cat_le v1; have h2 := cat_le v2; omega
theorem cs4 (v0 v1 v2 v3 : AV) : catS [v0, v1, v2, v3] ≤ 8 := by simp only [catS, List.map_cons, List.map_nil, List.sum_cons, List.sum_nil]; have h0 := cat_le v0; have h1 := cat_le v1; have h2 := cat_le v2; have h3 := cat_le v3; omega
theorem w_ivs_0 {sx : Int → Int} {L mi pc ln fl : Nat} {es : List En} {ls : List AV} {st : List AV} {M : Mem} {Q : Option AV → Mem → Prop} {i m2 hh : Nat}  (hs : catS st ≤ 8) : wpc sx L K0 R0 mi ((pc, ln, .invokestatic i, [m2, hh, 0]) :: es) fl (ls) (st) M Q = (Mq sx L K0 R0 m2 [] M (rvk (rkd m2) fun vs M1 => wpc sx L K0 R0 mi es fl ls (vs ++ st) M1 Q)) := propext ⟨fun h => h.2, fun h => ⟨hs, h⟩⟩
theorem w_ivv_0 {sx : Int → Int} {L mi pc ln fl : Nat} {es : List En} {ls : List AV} {st : List AV} {M : Mem} {Q : Option AV → Mem → Prop} {i m2 hh c : Nat}  (hs : catS st ≤ 8) : wpc sx L K0 R0 mi ((pc, ln, .invokevirtual i, [m2, hh, 0]) :: es) fl (ls) (vR (c + 2) :: st) M Q = (kin K0 c (mK m2) ∧ Mq sx L K0 R0 m2 (vR (c + 2) :: []) M (rvk (rkd m2) fun vs M1 => wpc sx L K0 R0 mi es fl ls (vs ++ st) M1 Q)) := propext ⟨fun h => ⟨h.1.1, h.2⟩, fun h => ⟨⟨h.1, hs⟩, h.2⟩⟩
theorem w_ivs_1 {sx : Int → Int} {L mi pc ln fl : Nat} {es : List En} {ls : List AV} {st : List AV} {M : Mem} {Q : Option AV → Mem → Prop} {i m2 hh : Nat} {a0 : AV} (h0 : cat2 a0 = false) (hs : catS st ≤ 8) : wpc sx L K0 R0 mi ((pc, ln, .invokestatic i, [m2, hh, 1]) :: es) fl (ls) (a0 :: st) M Q = (Mq sx L K0 R0 m2 [a0] M (rvk (rkd m2) fun vs M1 => wpc sx L K0 R0 mi es fl ls (vs ++ st) M1 Q)) := propext ⟨fun h => h.2.2, fun h => ⟨h0, ⟨hs, h⟩⟩⟩
theorem w_ivv_1 {sx : Int → Int} {L mi pc ln fl : Nat} {es : List En} {ls : List AV} {st : List AV} {M : Mem} {Q : Option AV → Mem → Prop} {i m2 hh c : Nat} {a0 : AV} (h0 : cat2 a0 = false) (hs : catS st ≤ 8) : wpc sx L K0 R0 mi ((pc, ln, .invokevirtual i, [m2, hh, 1]) :: es) fl (ls) (a0 :: vR (c + 2) :: st) M Q = (kin K0 c (mK m2) ∧ Mq sx L K0 R0 m2 (vR (c + 2) :: [a0]) M (rvk (rkd m2) fun vs M1 => wpc sx L K0 R0 mi es fl ls (vs ++ st) M1 Q)) := propext ⟨fun h => ⟨h.2.1.1, h.2.2⟩, fun h => ⟨h0, ⟨⟨h.1, hs⟩, h.2⟩⟩⟩
theorem w_ivs_2 {sx : Int → Int} {L mi pc ln fl : Nat} {es : List En} {ls : List AV} {st : List AV} {M : Mem} {Q : Option AV → Mem → Prop} {i m2 hh : Nat} {a0 a1 : AV} (h0 : cat2 a0 = false) (h1 : cat2 a1 = false) (hs : catS st ≤ 8) : wpc sx L K0 R0 mi ((pc, ln, .invokestatic i, [m2, hh, 2]) :: es) fl (ls) (a0 :: a1 :: st) M Q = (Mq sx L K0 R0 m2 [a1, a0] M (rvk (rkd m2) fun vs M1 => wpc sx L K0 R0 mi es fl ls (vs ++ st) M1 Q)) := propext ⟨fun h => h.2.2.2, fun h => ⟨h0, ⟨h1, ⟨hs, h⟩⟩⟩⟩
theorem w_ivv_2 {sx : Int → Int} {L mi pc ln fl : Nat} {es : List En} {ls : List AV} {st : List AV} {M : Mem} {Q : Option AV → Mem → Prop} {i m2 hh c : Nat} {a0 a1 : AV} (h0 : cat2 a0 = false) (h1 : cat2 a1 = false) (hs : catS st ≤ 8) : wpc sx L K0 R0 mi ((pc, ln, .invokevirtual i, [m2, hh, 2]) :: es) fl (ls) (a0 :: a1 :: vR (c + 2) :: st) M Q = (kin K0 c (mK m2) ∧ Mq sx L K0 R0 m2 (vR (c + 2) :: [a1, a0]) M (rvk (rkd m2) fun vs M1 => wpc sx L K0 R0 mi es fl ls (vs ++ st) M1 Q)) := propext ⟨fun h => ⟨h.2.2.1.1, h.2.2.2⟩, fun h => ⟨h0, ⟨h1, ⟨⟨h.1, hs⟩, h.2⟩⟩⟩⟩
theorem w_ivs_3 {sx : Int → Int} {L mi pc ln fl : Nat} {es : List En} {ls : List AV} {st : List AV} {M : Mem} {Q : Option AV → Mem → Prop} {i m2 hh : Nat} {a0 a1 a2 : AV} (h0 : cat2 a0 = false) (h1 : cat2 a1 = false) (h2 : cat2 a2 = false) (hs : catS st ≤ 8) : wpc sx L K0 R0 mi ((pc, ln, .invokestatic i, [m2, hh, 3]) :: es) fl (ls) (a0 :: a1 :: a2 :: st) M Q = (Mq sx L K0 R0 m2 [a2, a1, a0] M (rvk (rkd m2) fun vs M1 => wpc sx L K0 R0 mi es fl ls (vs ++ st) M1 Q)) := propext ⟨fun h => h.2.2.2.2, fun h => ⟨h0, ⟨h1, ⟨h2, ⟨hs, h⟩⟩⟩⟩⟩
theorem w_ivv_3 {sx : Int → Int} {L mi pc ln fl : Nat} {es : List En} {ls : List AV} {st : List AV} {M : Mem} {Q : Option AV → Mem → Prop} {i m2 hh c : Nat} {a0 a1 a2 : AV} (h0 : cat2 a0 = false) (h1 : cat2 a1 = false) (h2 : cat2 a2 = false) (hs : catS st ≤ 8) : wpc sx L K0 R0 mi ((pc, ln, .invokevirtual i, [m2, hh, 3]) :: es) fl (ls) (a0 :: a1 :: a2 :: vR (c + 2) :: st) M Q = (kin K0 c (mK m2) ∧ Mq sx L K0 R0 m2 (vR (c + 2) :: [a2, a1, a0]) M (rvk (rkd m2) fun vs M1 => wpc sx L K0 R0 mi es fl ls (vs ++ st) M1 Q)) := propext ⟨fun h => ⟨h.2.2.2.1.1, h.2.2.2.2⟩, fun h => ⟨h0, ⟨h1, ⟨h2, ⟨⟨h.1, hs⟩, h.2⟩⟩⟩⟩⟩
theorem w_ivs_4 {sx : Int → Int} {L mi pc ln fl : Nat} {es : List En} {ls : List AV} {st : List AV} {M : Mem} {Q : Option AV → Mem → Prop} {i m2 hh : Nat} {a0 a1 a2 a3 : AV} (h0 : cat2 a0 = false) (h1 : cat2 a1 = false) (h2 : cat2 a2 = false) (h3 : cat2 a3 = false) (hs : catS st ≤ 8) : wpc sx L K0 R0 mi ((pc, ln, .invokestatic i, [m2, hh, 4]) :: es) fl (ls) (a0 :: a1 :: a2 :: a3 :: st) M Q = (Mq sx L K0 R0 m2 [a3, a2, a1, a0] M (rvk (rkd m2) fun vs M1 => wpc sx L K0 R0 mi es fl ls (vs ++ st) M1 Q)) := propext ⟨fun h => h.2.2.2.2.2, fun h => ⟨h0, ⟨h1, ⟨h2, ⟨h3, ⟨hs, h⟩⟩⟩⟩⟩⟩
theorem w_ivv_4 {sx : Int → Int} {L mi pc ln fl : Nat} {es : List En} {ls : List AV} {st : List AV} {M : Mem} {Q : Option AV → Mem → Prop} {i m2 hh c : Nat} {a0 a1 a2 a3 : AV} (h0 : cat2 a0 = false) (h1 : cat2 a1 = false) (h2 : cat2 a2 = false) (h3 : cat2 a3 = false) (hs : catS st ≤ 8) : wpc sx L K0 R0 mi ((pc, ln, .invokevirtual i, [m2, hh, 4]) :: es) fl (ls) (a0 :: a1 :: a2 :: a3 :: vR (c + 2) :: st) M Q = (kin K0 c (mK m2) ∧ Mq sx L K0 R0 m2 (vR (c + 2) :: [a3, a2, a1, a0]) M (rvk (rkd m2) fun vs M1 => wpc sx L K0 R0 mi es fl ls (vs ++ st) M1 Q)) := propext ⟨fun h => ⟨h.2.2.2.2.1.1, h.2.2.2.2.2⟩, fun h => ⟨h0, ⟨h1, ⟨h2, ⟨h3, ⟨⟨h.1, hs⟩, h.2⟩⟩⟩⟩⟩⟩
theorem w_ivs_5 {sx : Int → Int} {L mi pc ln fl : Nat} {es : List En} {ls : List AV} {st : List AV} {M : Mem} {Q : Option AV → Mem → Prop} {i m2 hh : Nat} {a0 a1 a2 a3 a4 : AV} (h0 : cat2 a0 = false) (h1 : cat2 a1 = false) (h2 : cat2 a2 = false) (h3 : cat2 a3 = false) (h4 : cat2 a4 = false) (hs : catS st ≤ 8) : wpc sx L K0 R0 mi ((pc, ln, .invokestatic i, [m2, hh, 5]) :: es) fl (ls) (a0 :: a1 :: a2 :: a3 :: a4 :: st) M Q = (Mq sx L K0 R0 m2 [a4, a3, a2, a1, a0] M (rvk (rkd m2) fun vs M1 => wpc sx L K0 R0 mi es fl ls (vs ++ st) M1 Q)) := propext ⟨fun h => h.2.2.2.2.2.2, fun h => ⟨h0, ⟨h1, ⟨h2, ⟨h3, ⟨h4, ⟨hs, h⟩⟩⟩⟩⟩⟩⟩
theorem w_ivv_5 {sx : Int → Int} {L mi pc ln fl : Nat} {es : List En} {ls : List AV} {st : List AV} {M : Mem} {Q : Option AV → Mem → Prop} {i m2 hh c : Nat} {a0 a1 a2 a3 a4 : AV} (h0 : cat2 a0 = false) (h1 : cat2 a1 = false) (h2 : cat2 a2 = false) (h3 : cat2 a3 = false) (h4 : cat2 a4 = false) (hs : catS st ≤ 8) : wpc sx L K0 R0 mi ((pc, ln, .invokevirtual i, [m2, hh, 5]) :: es) fl (ls) (a0 :: a1 :: a2 :: a3 :: a4 :: vR (c + 2) :: st) M Q = (kin K0 c (mK m2) ∧ Mq sx L K0 R0 m2 (vR (c + 2) :: [a4, a3, a2, a1, a0]) M (rvk (rkd m2) fun vs M1 => wpc sx L K0 R0 mi es fl ls (vs ++ st) M1 Q)) := propext ⟨fun h => ⟨h.2.2.2.2.2.1.1, h.2.2.2.2.2.2⟩, fun h => ⟨h0, ⟨h1, ⟨h2, ⟨h3, ⟨h4, ⟨⟨h.1, hs⟩, h.2⟩⟩⟩⟩⟩⟩⟩
theorem w_max {sx : Int → Int} {L mi pc ln fl : Nat} {es : List En} {ls : List AV} {st : List AV} {M : Mem} {Q : Option AV → Mem → Prop} {i hh : Nat} {x y : Int} (hs : catS st ≤ 8) : wpc sx L K0 R0 mi ((pc, ln, .invokestatic i, [1002, hh]) :: es) fl (ls) (vI y :: vI x :: st) M Q = (wpc sx L K0 R0 mi es fl (ls) (vI (max x y) :: st) M Q) := propext ⟨fun h => h.2, fun h => ⟨hs, h⟩⟩
theorem w_min {sx : Int → Int} {L mi pc ln fl : Nat} {es : List En} {ls : List AV} {st : List AV} {M : Mem} {Q : Option AV → Mem → Prop} {i hh : Nat} {x y : Int} (hs : catS st ≤ 8) : wpc sx L K0 R0 mi ((pc, ln, .invokestatic i, [1003, hh]) :: es) fl (ls) (vI y :: vI x :: st) M Q = (wpc sx L K0 R0 mi es fl (ls) (vI (min x y) :: st) M Q) := propext ⟨fun h => h.2, fun h => ⟨hs, h⟩⟩
theorem w_cpy {sx : Int → Int} {L mi pc ln fl : Nat} {es : List En} {ls : List AV} {M : Mem} {Q : Option AV → Mem → Prop} {i hh c d : Nat} {n dp sp : Int} : wpc sx L K0 R0 mi ((pc, ln, .invokestatic i, [1000, hh]) :: es) fl (ls) ([vI n, vI dp, vR (d + 2), vI sp, vR (c + 2)]) M Q = (cpk K0 c d sp dp n ∧ wpc sx L K0 R0 mi es fl (ls) ([]) (mcpy M c sp d dp n) Q) := rfl
theorem w_ret0 {sx : Int → Int} {L mi pc ln fl : Nat} {aux : List Nat} {es : List En} {ls : List AV} {M : Mem} {Q : Option AV → Mem → Prop} (hr : rkd mi = 0) : wpc sx L K0 R0 mi ((pc, ln, .return_, aux) :: es) fl (ls) ([]) M Q = (Q none M) := propext ⟨fun h => h.2, fun h => ⟨hr, h⟩⟩
theorem w_ret1 {sx : Int → Int} {L mi pc ln fl : Nat} {aux : List Nat} {es : List En} {ls : List AV} {M : Mem} {Q : Option AV → Mem → Prop} {x : Int} (hr : rkd mi = 1) : wpc sx L K0 R0 mi ((pc, ln, .ireturn, aux) :: es) fl (ls) ([vI x]) M Q = (Q (some (vI x)) M) := propext ⟨fun h => h.2, fun h => ⟨Or.inl hr, h⟩⟩
theorem w_ret2 {sx : Int → Int} {L mi pc ln fl : Nat} {aux : List Nat} {es : List En} {ls : List AV} {M : Mem} {Q : Option AV → Mem → Prop} {x : Int} (hr : rkd mi = 2) : wpc sx L K0 R0 mi ((pc, ln, .ireturn, aux) :: es) fl (ls) ([vI x]) M Q = ((x = 0 ∨ x = 1) ∧ Q (some (vI x)) M) := propext ⟨fun h => ⟨h.1.elim (fun q => by omega) (fun q => q.2), h.2⟩, fun h => ⟨Or.inr ⟨hr, h.1⟩, h.2⟩⟩
theorem w_ret3 {sx : Int → Int} {L mi pc ln fl : Nat} {aux : List Nat} {es : List En} {ls : List AV} {M : Mem} {Q : Option AV → Mem → Prop} {x : Int} (hr : rkd mi = 3) : wpc sx L K0 R0 mi ((pc, ln, .lreturn, aux) :: es) fl (ls) ([vL x]) M Q = (Q (some (vL x)) M) := propext ⟨fun h => h.2, fun h => ⟨hr, h⟩⟩
theorem w_ret4 {sx : Int → Int} {L mi pc ln fl : Nat} {aux : List Nat} {es : List En} {ls : List AV} {M : Mem} {Q : Option AV → Mem → Prop} {x : Nat} (hr : rkd mi = 4) : wpc sx L K0 R0 mi ((pc, ln, .areturn, aux) :: es) fl (ls) ([vR x]) M Q = (Q (some (vR x)) M) := propext ⟨fun h => h.2, fun h => ⟨hr, h⟩⟩
theorem w_fall {sx : Int → Int} {L mi fl : Nat} {ls st : List AV} {M : Mem} {Q : Option AV → Mem → Prop} : wpc sx L K0 R0 mi [] fl ls st M Q = Rn sx L K0 R0 mi fl ls st M Q := rfl
theorem rvk0 {f : List AV → Mem → Prop} : rvk 0 f = fun rv M1 => rv = none ∧ f [] M1 := rfl
theorem rvk1 {f : List AV → Mem → Prop} : rvk 1 f = fun rv M1 => ∃ x, rv = some (vI x) ∧ f [vI x] M1 := rfl
theorem rvk2 {f : List AV → Mem → Prop} : rvk 2 f = fun rv M1 => ∃ x, rv = some (vI x) ∧ f [vI x] M1 := rfl
theorem rvk3 {f : List AV → Mem → Prop} : rvk 3 f = fun rv M1 => ∃ x, rv = some (vL x) ∧ f [vL x] M1 := rfl
theorem rvk4 {f : List AV → Mem → Prop} : rvk 4 f = fun rv M1 => ∃ x, rv = some (vR x) ∧ f [vR x] M1 := rfl
theorem c2I (x : Int) : cat2 (vI x) = false := rfl
theorem c2R (x : Nat) : cat2 (vR x) = false := rfl
theorem c2U : cat2 vU = false := rfl
theorem rk_0 : rkd 0 = 0 := by decide +kernel
theorem mk_0 : mK 0 = 0 := by decide +kernel
theorem rk_1 : rkd 1 = 0 := by decide +kernel
theorem mk_1 : mK 1 = 0 := by decide +kernel
theorem rk_2 : rkd 2 = 1 := by decide +kernel
theorem mk_2 : mK 2 = 0 := by decide +kernel
theorem rk_3 : rkd 3 = 1 := by decide +kernel
theorem mk_3 : mK 3 = 0 := by decide +kernel
theorem rk_4 : rkd 4 = 0 := by decide +kernel
theorem mk_4 : mK 4 = 0 := by decide +kernel
theorem rk_5 : rkd 5 = 0 := by decide +kernel
theorem mk_5 : mK 5 = 0 := by decide +kernel
theorem rk_6 : rkd 6 = 2 := by decide +kernel
theorem mk_6 : mK 6 = 0 := by decide +kernel
theorem rk_7 : rkd 7 = 0 := by decide +kernel
theorem mk_7 : mK 7 = 0 := by decide +kernel
theorem rk_8 : rkd 8 = 1 := by decide +kernel
theorem mk_8 : mK 8 = 0 := by decide +kernel
theorem rk_9 : rkd 9 = 1 := by decide +kernel
theorem mk_9 : mK 9 = 0 := by decide +kernel
theorem rk_10 : rkd 10 = 1 := by decide +kernel
theorem mk_10 : mK 10 = 0 := by decide +kernel
theorem rk_11 : rkd 11 = 1 := by decide +kernel
theorem mk_11 : mK 11 = 0 := by decide +kernel
theorem rk_12 : rkd 12 = 2 := by decide +kernel
theorem mk_12 : mK 12 = 0 := by decide +kernel
theorem rk_13 : rkd 13 = 0 := by decide +kernel
theorem mk_13 : mK 13 = 1 := by decide +kernel
theorem rk_14 : rkd 14 = 0 := by decide +kernel
theorem mk_14 : mK 14 = 1 := by decide +kernel
theorem rk_15 : rkd 15 = 0 := by decide +kernel
theorem mk_15 : mK 15 = 1 := by decide +kernel
theorem rk_16 : rkd 16 = 0 := by decide +kernel
theorem mk_16 : mK 16 = 1 := by decide +kernel
theorem rk_17 : rkd 17 = 1 := by decide +kernel
theorem mk_17 : mK 17 = 1 := by decide +kernel
theorem rk_18 : rkd 18 = 1 := by decide +kernel
theorem mk_18 : mK 18 = 1 := by decide +kernel
theorem rk_19 : rkd 19 = 0 := by decide +kernel
theorem mk_19 : mK 19 = 1 := by decide +kernel
theorem rk_20 : rkd 20 = 1 := by decide +kernel
theorem mk_20 : mK 20 = 1 := by decide +kernel
theorem rk_21 : rkd 21 = 0 := by decide +kernel
theorem mk_21 : mK 21 = 1 := by decide +kernel
theorem rk_22 : rkd 22 = 1 := by decide +kernel
theorem mk_22 : mK 22 = 1 := by decide +kernel
theorem rk_23 : rkd 23 = 2 := by decide +kernel
theorem mk_23 : mK 23 = 1 := by decide +kernel
theorem rk_24 : rkd 24 = 0 := by decide +kernel
theorem mk_24 : mK 24 = 1 := by decide +kernel
theorem rk_25 : rkd 25 = 1 := by decide +kernel
theorem mk_25 : mK 25 = 1 := by decide +kernel
theorem rk_26 : rkd 26 = 1 := by decide +kernel
theorem mk_26 : mK 26 = 1 := by decide +kernel
theorem rk_27 : rkd 27 = 1 := by decide +kernel
theorem mk_27 : mK 27 = 1 := by decide +kernel
theorem rk_28 : rkd 28 = 1 := by decide +kernel
theorem mk_28 : mK 28 = 1 := by decide +kernel
theorem rk_29 : rkd 29 = 0 := by decide +kernel
theorem mk_29 : mK 29 = 2 := by decide +kernel
theorem rk_30 : rkd 30 = 2 := by decide +kernel
theorem mk_30 : mK 30 = 2 := by decide +kernel
theorem rk_31 : rkd 31 = 4 := by decide +kernel
theorem mk_31 : mK 31 = 2 := by decide +kernel
theorem rk_32 : rkd 32 = 1 := by decide +kernel
theorem mk_32 : mK 32 = 2 := by decide +kernel
theorem rk_33 : rkd 33 = 1 := by decide +kernel
theorem mk_33 : mK 33 = 2 := by decide +kernel
theorem rk_34 : rkd 34 = 1 := by decide +kernel
theorem mk_34 : mK 34 = 2 := by decide +kernel
theorem rk_35 : rkd 35 = 0 := by decide +kernel
theorem mk_35 : mK 35 = 3 := by decide +kernel
theorem rk_36 : rkd 36 = 0 := by decide +kernel
theorem mk_36 : mK 36 = 3 := by decide +kernel
theorem rk_37 : rkd 37 = 0 := by decide +kernel
theorem mk_37 : mK 37 = 3 := by decide +kernel
theorem rk_38 : rkd 38 = 0 := by decide +kernel
theorem mk_38 : mK 38 = 3 := by decide +kernel
theorem rk_39 : rkd 39 = 0 := by decide +kernel
theorem mk_39 : mK 39 = 3 := by decide +kernel
theorem rk_40 : rkd 40 = 0 := by decide +kernel
theorem mk_40 : mK 40 = 3 := by decide +kernel
theorem rk_41 : rkd 41 = 1 := by decide +kernel
theorem mk_41 : mK 41 = 3 := by decide +kernel
theorem rk_42 : rkd 42 = 1 := by decide +kernel
theorem mk_42 : mK 42 = 3 := by decide +kernel
theorem rk_43 : rkd 43 = 2 := by decide +kernel
theorem mk_43 : mK 43 = 3 := by decide +kernel
theorem rk_44 : rkd 44 = 0 := by decide +kernel
theorem mk_44 : mK 44 = 3 := by decide +kernel
theorem rk_45 : rkd 45 = 2 := by decide +kernel
theorem mk_45 : mK 45 = 3 := by decide +kernel
theorem rk_46 : rkd 46 = 0 := by decide +kernel
theorem mk_46 : mK 46 = 3 := by decide +kernel
theorem rk_47 : rkd 47 = 0 := by decide +kernel
theorem mk_47 : mK 47 = 3 := by decide +kernel
theorem rk_48 : rkd 48 = 0 := by decide +kernel
theorem mk_48 : mK 48 = 3 := by decide +kernel
theorem rk_49 : rkd 49 = 0 := by decide +kernel
theorem mk_49 : mK 49 = 3 := by decide +kernel
theorem rk_50 : rkd 50 = 1 := by decide +kernel
theorem mk_50 : mK 50 = 3 := by decide +kernel
theorem rk_51 : rkd 51 = 1 := by decide +kernel
theorem mk_51 : mK 51 = 3 := by decide +kernel
theorem rk_52 : rkd 52 = 1 := by decide +kernel
theorem mk_52 : mK 52 = 3 := by decide +kernel
theorem rk_53 : rkd 53 = 1 := by decide +kernel
theorem mk_53 : mK 53 = 3 := by decide +kernel
theorem rk_54 : rkd 54 = 0 := by decide +kernel
theorem mk_54 : mK 54 = 4 := by decide +kernel
theorem rk_55 : rkd 55 = 0 := by decide +kernel
theorem mk_55 : mK 55 = 4 := by decide +kernel
theorem rk_56 : rkd 56 = 0 := by decide +kernel
theorem mk_56 : mK 56 = 4 := by decide +kernel
theorem rk_57 : rkd 57 = 1 := by decide +kernel
theorem mk_57 : mK 57 = 4 := by decide +kernel
theorem rk_58 : rkd 58 = 1 := by decide +kernel
theorem mk_58 : mK 58 = 4 := by decide +kernel
theorem rk_59 : rkd 59 = 1 := by decide +kernel
theorem mk_59 : mK 59 = 4 := by decide +kernel
theorem rk_60 : rkd 60 = 2 := by decide +kernel
theorem mk_60 : mK 60 = 4 := by decide +kernel
theorem rk_61 : rkd 61 = 0 := by decide +kernel
theorem mk_61 : mK 61 = 4 := by decide +kernel
theorem rk_62 : rkd 62 = 1 := by decide +kernel
theorem mk_62 : mK 62 = 4 := by decide +kernel
theorem rk_63 : rkd 63 = 0 := by decide +kernel
theorem mk_63 : mK 63 = 4 := by decide +kernel
theorem rk_64 : rkd 64 = 0 := by decide +kernel
theorem mk_64 : mK 64 = 4 := by decide +kernel
theorem rk_65 : rkd 65 = 0 := by decide +kernel
theorem mk_65 : mK 65 = 4 := by decide +kernel
theorem rk_66 : rkd 66 = 0 := by decide +kernel
theorem mk_66 : mK 66 = 4 := by decide +kernel
theorem rk_67 : rkd 67 = 1 := by decide +kernel
theorem mk_67 : mK 67 = 4 := by decide +kernel
theorem rk_68 : rkd 68 = 2 := by decide +kernel
theorem mk_68 : mK 68 = 4 := by decide +kernel
theorem rk_69 : rkd 69 = 0 := by decide +kernel
theorem mk_69 : mK 69 = 4 := by decide +kernel
theorem rk_70 : rkd 70 = 1 := by decide +kernel
theorem mk_70 : mK 70 = 4 := by decide +kernel
theorem rk_71 : rkd 71 = 2 := by decide +kernel
theorem mk_71 : mK 71 = 4 := by decide +kernel
theorem rk_72 : rkd 72 = 0 := by decide +kernel
theorem mk_72 : mK 72 = 4 := by decide +kernel
theorem rk_73 : rkd 73 = 0 := by decide +kernel
theorem mk_73 : mK 73 = 4 := by decide +kernel
theorem rk_74 : rkd 74 = 0 := by decide +kernel
theorem mk_74 : mK 74 = 5 := by decide +kernel
theorem rk_75 : rkd 75 = 0 := by decide +kernel
theorem mk_75 : mK 75 = 5 := by decide +kernel
theorem rk_76 : rkd 76 = 1 := by decide +kernel
theorem mk_76 : mK 76 = 5 := by decide +kernel
theorem rk_77 : rkd 77 = 0 := by decide +kernel
theorem mk_77 : mK 77 = 5 := by decide +kernel
theorem rk_78 : rkd 78 = 2 := by decide +kernel
theorem mk_78 : mK 78 = 5 := by decide +kernel
theorem rk_79 : rkd 79 = 2 := by decide +kernel
theorem mk_79 : mK 79 = 5 := by decide +kernel
theorem rk_80 : rkd 80 = 1 := by decide +kernel
theorem mk_80 : mK 80 = 5 := by decide +kernel
theorem rk_81 : rkd 81 = 1 := by decide +kernel
theorem mk_81 : mK 81 = 5 := by decide +kernel
theorem rk_82 : rkd 82 = 2 := by decide +kernel
theorem mk_82 : mK 82 = 5 := by decide +kernel
theorem rk_83 : rkd 83 = 0 := by decide +kernel
theorem mk_83 : mK 83 = 6 := by decide +kernel
theorem rk_84 : rkd 84 = 0 := by decide +kernel
theorem mk_84 : mK 84 = 6 := by decide +kernel
theorem rk_85 : rkd 85 = 1 := by decide +kernel
theorem mk_85 : mK 85 = 6 := by decide +kernel
theorem rk_86 : rkd 86 = 2 := by decide +kernel
theorem mk_86 : mK 86 = 6 := by decide +kernel
theorem rk_87 : rkd 87 = 1 := by decide +kernel
theorem mk_87 : mK 87 = 6 := by decide +kernel
theorem rk_88 : rkd 88 = 0 := by decide +kernel
theorem mk_88 : mK 88 = 6 := by decide +kernel
theorem rk_89 : rkd 89 = 0 := by decide +kernel
theorem mk_89 : mK 89 = 7 := by decide +kernel
theorem rk_90 : rkd 90 = 1 := by decide +kernel
theorem mk_90 : mK 90 = 7 := by decide +kernel
theorem rk_91 : rkd 91 = 0 := by decide +kernel
theorem mk_91 : mK 91 = 7 := by decide +kernel
theorem rk_92 : rkd 92 = 1 := by decide +kernel
theorem mk_92 : mK 92 = 7 := by decide +kernel
theorem rk_93 : rkd 93 = 0 := by decide +kernel
theorem mk_93 : mK 93 = 8 := by decide +kernel
theorem rk_94 : rkd 94 = 1 := by decide +kernel
theorem mk_94 : mK 94 = 8 := by decide +kernel
theorem rk_95 : rkd 95 = 1 := by decide +kernel
theorem mk_95 : mK 95 = 8 := by decide +kernel
theorem rk_96 : rkd 96 = 1 := by decide +kernel
theorem mk_96 : mK 96 = 8 := by decide +kernel
theorem rk_97 : rkd 97 = 1 := by decide +kernel
theorem mk_97 : mK 97 = 8 := by decide +kernel
theorem rk_98 : rkd 98 = 1 := by decide +kernel
theorem mk_98 : mK 98 = 8 := by decide +kernel
theorem rk_99 : rkd 99 = 1 := by decide +kernel
theorem mk_99 : mK 99 = 8 := by decide +kernel
theorem rk_100 : rkd 100 = 1 := by decide +kernel
theorem mk_100 : mK 100 = 8 := by decide +kernel
theorem rk_101 : rkd 101 = 1 := by decide +kernel
theorem mk_101 : mK 101 = 8 := by decide +kernel
theorem rk_102 : rkd 102 = 1 := by decide +kernel
theorem mk_102 : mK 102 = 8 := by decide +kernel
theorem rk_103 : rkd 103 = 1 := by decide +kernel
theorem mk_103 : mK 103 = 8 := by decide +kernel
theorem rk_104 : rkd 104 = 1 := by decide +kernel
theorem mk_104 : mK 104 = 8 := by decide +kernel
theorem rk_105 : rkd 105 = 1 := by decide +kernel
theorem mk_105 : mK 105 = 8 := by decide +kernel
theorem rk_106 : rkd 106 = 1 := by decide +kernel
theorem mk_106 : mK 106 = 8 := by decide +kernel
theorem rk_107 : rkd 107 = 1 := by decide +kernel
theorem mk_107 : mK 107 = 8 := by decide +kernel
theorem rk_108 : rkd 108 = 1 := by decide +kernel
theorem mk_108 : mK 108 = 8 := by decide +kernel
theorem rk_109 : rkd 109 = 1 := by decide +kernel
theorem mk_109 : mK 109 = 8 := by decide +kernel
theorem rk_110 : rkd 110 = 1 := by decide +kernel
theorem mk_110 : mK 110 = 8 := by decide +kernel
theorem rk_111 : rkd 111 = 1 := by decide +kernel
theorem mk_111 : mK 111 = 8 := by decide +kernel
theorem rk_112 : rkd 112 = 1 := by decide +kernel
theorem mk_112 : mK 112 = 8 := by decide +kernel
theorem rk_113 : rkd 113 = 1 := by decide +kernel
theorem mk_113 : mK 113 = 8 := by decide +kernel
theorem rk_114 : rkd 114 = 1 := by decide +kernel
theorem mk_114 : mK 114 = 8 := by decide +kernel
theorem rk_115 : rkd 115 = 1 := by decide +kernel
theorem mk_115 : mK 115 = 8 := by decide +kernel
theorem rk_116 : rkd 116 = 1 := by decide +kernel
theorem mk_116 : mK 116 = 8 := by decide +kernel
theorem rk_117 : rkd 117 = 1 := by decide +kernel
theorem mk_117 : mK 117 = 8 := by decide +kernel
theorem rk_118 : rkd 118 = 1 := by decide +kernel
theorem mk_118 : mK 118 = 8 := by decide +kernel
theorem rk_119 : rkd 119 = 1 := by decide +kernel
theorem mk_119 : mK 119 = 8 := by decide +kernel
theorem rk_120 : rkd 120 = 1 := by decide +kernel
theorem mk_120 : mK 120 = 8 := by decide +kernel
theorem rk_121 : rkd 121 = 1 := by decide +kernel
theorem mk_121 : mK 121 = 8 := by decide +kernel
theorem rk_122 : rkd 122 = 1 := by decide +kernel
theorem mk_122 : mK 122 = 8 := by decide +kernel
theorem rk_123 : rkd 123 = 1 := by decide +kernel
theorem mk_123 : mK 123 = 8 := by decide +kernel
theorem rk_124 : rkd 124 = 3 := by decide +kernel
theorem mk_124 : mK 124 = 8 := by decide +kernel
theorem rk_125 : rkd 125 = 2 := by decide +kernel
theorem mk_125 : mK 125 = 8 := by decide +kernel
theorem rk_126 : rkd 126 = 2 := by decide +kernel
theorem mk_126 : mK 126 = 8 := by decide +kernel
theorem rk_127 : rkd 127 = 2 := by decide +kernel
theorem mk_127 : mK 127 = 8 := by decide +kernel
theorem rk_128 : rkd 128 = 2 := by decide +kernel
theorem mk_128 : mK 128 = 8 := by decide +kernel
theorem rk_129 : rkd 129 = 1 := by decide +kernel
theorem mk_129 : mK 129 = 8 := by decide +kernel
theorem rk_130 : rkd 130 = 1 := by decide +kernel
theorem mk_130 : mK 130 = 8 := by decide +kernel
theorem rk_131 : rkd 131 = 2 := by decide +kernel
theorem mk_131 : mK 131 = 8 := by decide +kernel
theorem rk_132 : rkd 132 = 1 := by decide +kernel
theorem mk_132 : mK 132 = 8 := by decide +kernel
theorem rk_133 : rkd 133 = 1 := by decide +kernel
theorem mk_133 : mK 133 = 8 := by decide +kernel
theorem rk_134 : rkd 134 = 0 := by decide +kernel
theorem mk_134 : mK 134 = 8 := by decide +kernel
theorem rk_135 : rkd 135 = 0 := by decide +kernel
theorem mk_135 : mK 135 = 8 := by decide +kernel
theorem rk_136 : rkd 136 = 0 := by decide +kernel
theorem mk_136 : mK 136 = 9 := by decide +kernel
theorem rk_137 : rkd 137 = 2 := by decide +kernel
theorem mk_137 : mK 137 = 9 := by decide +kernel
theorem rk_138 : rkd 138 = 1 := by decide +kernel
theorem mk_138 : mK 138 = 9 := by decide +kernel
theorem rk_139 : rkd 139 = 1 := by decide +kernel
theorem mk_139 : mK 139 = 9 := by decide +kernel
theorem rk_140 : rkd 140 = 1 := by decide +kernel
theorem mk_140 : mK 140 = 9 := by decide +kernel
theorem rk_141 : rkd 141 = 0 := by decide +kernel
theorem mk_141 : mK 141 = 9 := by decide +kernel
theorem rk_142 : rkd 142 = 2 := by decide +kernel
theorem mk_142 : mK 142 = 9 := by decide +kernel
theorem rk_143 : rkd 143 = 1 := by decide +kernel
theorem mk_143 : mK 143 = 9 := by decide +kernel
theorem rk_144 : rkd 144 = 1 := by decide +kernel
theorem mk_144 : mK 144 = 9 := by decide +kernel
theorem rk_145 : rkd 145 = 1 := by decide +kernel
theorem mk_145 : mK 145 = 9 := by decide +kernel
theorem rk_146 : rkd 146 = 0 := by decide +kernel
theorem mk_146 : mK 146 = 9 := by decide +kernel
theorem rk_147 : rkd 147 = 1 := by decide +kernel
theorem mk_147 : mK 147 = 9 := by decide +kernel
theorem rk_148 : rkd 148 = 1 := by decide +kernel
theorem mk_148 : mK 148 = 9 := by decide +kernel
theorem rk_149 : rkd 149 = 0 := by decide +kernel
theorem mk_149 : mK 149 = 9 := by decide +kernel
theorem rk_150 : rkd 150 = 0 := by decide +kernel
theorem mk_150 : mK 150 = 9 := by decide +kernel
theorem rk_151 : rkd 151 = 1 := by decide +kernel
theorem mk_151 : mK 151 = 9 := by decide +kernel
theorem rk_152 : rkd 152 = 1 := by decide +kernel
theorem mk_152 : mK 152 = 9 := by decide +kernel
theorem rk_153 : rkd 153 = 1 := by decide +kernel
theorem mk_153 : mK 153 = 9 := by decide +kernel
theorem rk_154 : rkd 154 = 1 := by decide +kernel
theorem mk_154 : mK 154 = 9 := by decide +kernel
theorem rk_155 : rkd 155 = 1 := by decide +kernel
theorem mk_155 : mK 155 = 9 := by decide +kernel
theorem rk_156 : rkd 156 = 1 := by decide +kernel
theorem mk_156 : mK 156 = 9 := by decide +kernel
theorem rk_157 : rkd 157 = 1 := by decide +kernel
theorem mk_157 : mK 157 = 9 := by decide +kernel
theorem rk_158 : rkd 158 = 1 := by decide +kernel
theorem mk_158 : mK 158 = 9 := by decide +kernel
theorem rk_159 : rkd 159 = 0 := by decide +kernel
theorem mk_159 : mK 159 = 9 := by decide +kernel
theorem rk_160 : rkd 160 = 0 := by decide +kernel
theorem mk_160 : mK 160 = 9 := by decide +kernel
theorem rk_161 : rkd 161 = 0 := by decide +kernel
theorem mk_161 : mK 161 = 9 := by decide +kernel
theorem rk_162 : rkd 162 = 1 := by decide +kernel
theorem mk_162 : mK 162 = 9 := by decide +kernel
theorem rk_163 : rkd 163 = 1 := by decide +kernel
theorem mk_163 : mK 163 = 9 := by decide +kernel
theorem rk_164 : rkd 164 = 1 := by decide +kernel
theorem mk_164 : mK 164 = 9 := by decide +kernel
theorem rk_165 : rkd 165 = 2 := by decide +kernel
theorem mk_165 : mK 165 = 9 := by decide +kernel
theorem rk_166 : rkd 166 = 1 := by decide +kernel
theorem mk_166 : mK 166 = 9 := by decide +kernel
theorem rk_167 : rkd 167 = 2 := by decide +kernel
theorem mk_167 : mK 167 = 9 := by decide +kernel
theorem rk_168 : rkd 168 = 0 := by decide +kernel
theorem mk_168 : mK 168 = 9 := by decide +kernel
theorem rk_169 : rkd 169 = 2 := by decide +kernel
theorem mk_169 : mK 169 = 9 := by decide +kernel
theorem rk_170 : rkd 170 = 1 := by decide +kernel
theorem mk_170 : mK 170 = 9 := by decide +kernel
theorem rk_171 : rkd 171 = 0 := by decide +kernel
theorem mk_171 : mK 171 = 9 := by decide +kernel
theorem rk_172 : rkd 172 = 2 := by decide +kernel
theorem mk_172 : mK 172 = 9 := by decide +kernel
theorem rk_173 : rkd 173 = 1 := by decide +kernel
theorem mk_173 : mK 173 = 9 := by decide +kernel
theorem rk_174 : rkd 174 = 0 := by decide +kernel
theorem mk_174 : mK 174 = 9 := by decide +kernel
theorem rk_175 : rkd 175 = 1 := by decide +kernel
theorem mk_175 : mK 175 = 9 := by decide +kernel
theorem rk_176 : rkd 176 = 1 := by decide +kernel
theorem mk_176 : mK 176 = 9 := by decide +kernel
theorem rk_177 : rkd 177 = 0 := by decide +kernel
theorem mk_177 : mK 177 = 9 := by decide +kernel
theorem rk_178 : rkd 178 = 0 := by decide +kernel
theorem mk_178 : mK 178 = 9 := by decide +kernel
theorem rk_179 : rkd 179 = 1 := by decide +kernel
theorem mk_179 : mK 179 = 9 := by decide +kernel
theorem rk_180 : rkd 180 = 1 := by decide +kernel
theorem mk_180 : mK 180 = 9 := by decide +kernel
theorem rk_181 : rkd 181 = 0 := by decide +kernel
theorem mk_181 : mK 181 = 9 := by decide +kernel
theorem rk_182 : rkd 182 = 1 := by decide +kernel
theorem mk_182 : mK 182 = 9 := by decide +kernel
theorem rk_183 : rkd 183 = 1 := by decide +kernel
theorem mk_183 : mK 183 = 9 := by decide +kernel
theorem rk_184 : rkd 184 = 1 := by decide +kernel
theorem mk_184 : mK 184 = 9 := by decide +kernel
theorem rk_185 : rkd 185 = 1 := by decide +kernel
theorem mk_185 : mK 185 = 9 := by decide +kernel
theorem rk_186 : rkd 186 = 1 := by decide +kernel
theorem mk_186 : mK 186 = 9 := by decide +kernel
theorem rk_187 : rkd 187 = 1 := by decide +kernel
theorem mk_187 : mK 187 = 9 := by decide +kernel
theorem rk_188 : rkd 188 = 1 := by decide +kernel
theorem mk_188 : mK 188 = 9 := by decide +kernel
theorem rk_189 : rkd 189 = 1 := by decide +kernel
theorem mk_189 : mK 189 = 9 := by decide +kernel
theorem rk_190 : rkd 190 = 1 := by decide +kernel
theorem mk_190 : mK 190 = 9 := by decide +kernel
theorem rk_191 : rkd 191 = 1 := by decide +kernel
theorem mk_191 : mK 191 = 9 := by decide +kernel
theorem rk_192 : rkd 192 = 1 := by decide +kernel
theorem mk_192 : mK 192 = 9 := by decide +kernel
theorem rk_193 : rkd 193 = 2 := by decide +kernel
theorem mk_193 : mK 193 = 9 := by decide +kernel
theorem rk_194 : rkd 194 = 2 := by decide +kernel
theorem mk_194 : mK 194 = 9 := by decide +kernel
theorem rk_195 : rkd 195 = 1 := by decide +kernel
theorem mk_195 : mK 195 = 9 := by decide +kernel
theorem rk_196 : rkd 196 = 1 := by decide +kernel
theorem mk_196 : mK 196 = 9 := by decide +kernel
theorem rk_197 : rkd 197 = 2 := by decide +kernel
theorem mk_197 : mK 197 = 9 := by decide +kernel
theorem rk_198 : rkd 198 = 1 := by decide +kernel
theorem mk_198 : mK 198 = 9 := by decide +kernel
theorem rk_199 : rkd 199 = 1 := by decide +kernel
theorem mk_199 : mK 199 = 9 := by decide +kernel
theorem rk_200 : rkd 200 = 1 := by decide +kernel
theorem mk_200 : mK 200 = 9 := by decide +kernel
theorem rk_201 : rkd 201 = 1 := by decide +kernel
theorem mk_201 : mK 201 = 9 := by decide +kernel
theorem rk_202 : rkd 202 = 2 := by decide +kernel
theorem mk_202 : mK 202 = 9 := by decide +kernel
theorem rk_203 : rkd 203 = 2 := by decide +kernel
theorem mk_203 : mK 203 = 9 := by decide +kernel
theorem rk_204 : rkd 204 = 1 := by decide +kernel
theorem mk_204 : mK 204 = 9 := by decide +kernel
theorem rk_205 : rkd 205 = 1 := by decide +kernel
theorem mk_205 : mK 205 = 9 := by decide +kernel
theorem rk_206 : rkd 206 = 1 := by decide +kernel
theorem mk_206 : mK 206 = 9 := by decide +kernel
theorem rk_207 : rkd 207 = 1 := by decide +kernel
theorem mk_207 : mK 207 = 9 := by decide +kernel
theorem rk_208 : rkd 208 = 1 := by decide +kernel
theorem mk_208 : mK 208 = 9 := by decide +kernel
theorem rk_209 : rkd 209 = 1 := by decide +kernel
theorem mk_209 : mK 209 = 9 := by decide +kernel
theorem rk_210 : rkd 210 = 2 := by decide +kernel
theorem mk_210 : mK 210 = 9 := by decide +kernel
theorem rk_211 : rkd 211 = 0 := by decide +kernel
theorem mk_211 : mK 211 = 9 := by decide +kernel
theorem rk_212 : rkd 212 = 0 := by decide +kernel
theorem mk_212 : mK 212 = 9 := by decide +kernel
theorem rk_213 : rkd 213 = 1 := by decide +kernel
theorem mk_213 : mK 213 = 9 := by decide +kernel
theorem rk_214 : rkd 214 = 1 := by decide +kernel
theorem mk_214 : mK 214 = 9 := by decide +kernel
theorem rk_215 : rkd 215 = 2 := by decide +kernel
theorem mk_215 : mK 215 = 9 := by decide +kernel
theorem rk_216 : rkd 216 = 1 := by decide +kernel
theorem mk_216 : mK 216 = 9 := by decide +kernel
theorem rk_217 : rkd 217 = 1 := by decide +kernel
theorem mk_217 : mK 217 = 9 := by decide +kernel
theorem rk_218 : rkd 218 = 1 := by decide +kernel
theorem mk_218 : mK 218 = 9 := by decide +kernel
theorem rk_219 : rkd 219 = 0 := by decide +kernel
theorem mk_219 : mK 219 = 9 := by decide +kernel
theorem rk_220 : rkd 220 = 1 := by decide +kernel
theorem mk_220 : mK 220 = 9 := by decide +kernel
theorem rk_221 : rkd 221 = 1 := by decide +kernel
theorem mk_221 : mK 221 = 9 := by decide +kernel
theorem rk_222 : rkd 222 = 1 := by decide +kernel
theorem mk_222 : mK 222 = 9 := by decide +kernel
theorem rk_223 : rkd 223 = 1 := by decide +kernel
theorem mk_223 : mK 223 = 9 := by decide +kernel
theorem rk_224 : rkd 224 = 1 := by decide +kernel
theorem mk_224 : mK 224 = 9 := by decide +kernel
theorem rk_225 : rkd 225 = 3 := by decide +kernel
theorem mk_225 : mK 225 = 9 := by decide +kernel
theorem rk_226 : rkd 226 = 1 := by decide +kernel
theorem rk_227 : rkd 227 = 2 := by decide +kernel
theorem ks_0 : K0[0]? = some (8, 10) := by decide +kernel
theorem ks_1 : K0[1]? = some (7, 5) := by decide +kernel
theorem ks_2 : K0[2]? = some (10, 6) := by decide +kernel
theorem ks_3 : K0[3]? = some (10, 6) := by decide +kernel
theorem ks_4 : K0[4]? = some (10, 6) := by decide +kernel
theorem ks_5 : K0[5]? = some (13, 8) := by decide +kernel
theorem ks_6 : K0[6]? = some (5, 11) := by decide +kernel
theorem ks_7 : K0[7]? = some (10, 8) := by decide +kernel
theorem ks_8 : K0[8]? = some (10, 8) := by decide +kernel
theorem ks_9 : K0[9]? = some (10, 8) := by decide +kernel
theorem ks_10 : K0[10]? = some (14, 4) := by decide +kernel
theorem ks_51 : K0[51]? = some (2, 3) := by decide +kernel
theorem ks_52 : K0[52]? = some (3, 18) := by decide +kernel
theorem ks_53 : K0[53]? = some (12, 8) := by decide +kernel
theorem ks_74 : K0[74]? = some (4, 15) := by decide +kernel
theorem ks_75 : K0[75]? = some (3, 18) := by decide +kernel
theorem ks_76 : K0[76]? = some (12, 8) := by decide +kernel
theorem ks_97 : K0[97]? = some (5, 11) := by decide +kernel
theorem ks_98 : K0[98]? = some (10, 8) := by decide +kernel
theorem ks_99 : K0[99]? = some (10, 8) := by decide +kernel
theorem ks_100 : K0[100]? = some (10, 8) := by decide +kernel
theorem ks_101 : K0[101]? = some (10, 8) := by decide +kernel
theorem ks_102 : K0[102]? = some (10, 8) := by decide +kernel
theorem ks_103 : K0[103]? = some (10, 5) := by decide +kernel
theorem ks_104 : K0[104]? = some (9, 65) := by decide +kernel
theorem ks_105 : K0[105]? = some (10, 6) := by decide +kernel
theorem ks_106 : K0[106]? = some (10, 6) := by decide +kernel
theorem ks_107 : K0[107]? = some (10, 6) := by decide +kernel
theorem ks_108 : K0[108]? = some (10, 6) := by decide +kernel
theorem ks_109 : K0[109]? = some (10, 8) := by decide +kernel
theorem ks_110 : K0[110]? = some (10, 480) := by decide +kernel
theorem ks_111 : K0[111]? = some (10, 8) := by decide +kernel
theorem ks_112 : K0[112]? = some (10, 8) := by decide +kernel
theorem ks_113 : K0[113]? = some (10, 8) := by decide +kernel
theorem ks_114 : K0[114]? = some (10, 8) := by decide +kernel
theorem ks_115 : K0[115]? = some (10, 8) := by decide +kernel
theorem ks_116 : K0[116]? = some (10, 8) := by decide +kernel
theorem ks_117 : K0[117]? = some (10, 8) := by decide +kernel
theorem ks_118 : K0[118]? = some (10, 160) := by decide +kernel
theorem ks_119 : K0[119]? = some (10, 160) := by decide +kernel
theorem ks_120 : K0[120]? = some (10, 8) := by decide +kernel
theorem ks_121 : K0[121]? = some (10, 8) := by decide +kernel
theorem ks_122 : K0[122]? = some (10, 8) := by decide +kernel
theorem ks_123 : K0[123]? = some (10, 8) := by decide +kernel
theorem ks_124 : K0[124]? = some (10, 8) := by decide +kernel
theorem ks_125 : K0[125]? = some (10, 1600) := by decide +kernel
theorem ks_126 : K0[126]? = some (10, 1600) := by decide +kernel
theorem ks_127 : K0[127]? = some (10, 8) := by decide +kernel
theorem ks_128 : K0[128]? = some (10, 8) := by decide +kernel
theorem ks_129 : K0[129]? = some (10, 8) := by decide +kernel
theorem ks_130 : K0[130]? = some (11, 8) := by decide +kernel
theorem ks_131 : K0[131]? = some (10, 8) := by decide +kernel
theorem ks_132 : K0[132]? = some (10, 8) := by decide +kernel
theorem ks_133 : K0[133]? = some (10, 8) := by decide +kernel
theorem ks_134 : K0[134]? = some (10, 8) := by decide +kernel
theorem ks_135 : K0[135]? = some (10, 600) := by decide +kernel
theorem ks_136 : K0[136]? = some (10, 1600) := by decide +kernel
theorem ks_137 : K0[137]? = some (10, 6) := by decide +kernel
theorem ks_138 : K0[138]? = some (10, 6) := by decide +kernel
theorem ks_139 : K0[139]? = some (11, 4) := by decide +kernel
theorem ks_140 : K0[140]? = some (10, 4) := by decide +kernel
theorem ks_141 : K0[141]? = some (10, 4) := by decide +kernel
theorem ks_142 : K0[142]? = some (10, 240) := by decide +kernel
theorem ks_143 : K0[143]? = some (10, 60) := by decide +kernel
theorem rs_0_0 : R0 0 0 = 3 := (R0_F (c := 0) (k := 0) (by decide +kernel)).trans (by decide +kernel)
theorem rs_0_1 : R0 0 1 = 7 := (R0_F (c := 0) (k := 1) (by decide +kernel)).trans (by decide +kernel)
theorem rs_0_2 : R0 0 2 = 8 := (R0_F (c := 0) (k := 2) (by decide +kernel)).trans (by decide +kernel)
theorem rs_0_3 : R0 0 3 = 53 := (R0_F (c := 0) (k := 3) (by decide +kernel)).trans (by decide +kernel)
theorem rs_0_4 : R0 0 4 = 54 := (R0_F (c := 0) (k := 4) (by decide +kernel)).trans (by decide +kernel)
theorem rs_0_5 : R0 0 5 = 76 := (R0_F (c := 0) (k := 5) (by decide +kernel)).trans (by decide +kernel)
theorem rs_0_6 : R0 0 6 = 12 := (R0_F (c := 0) (k := 6) (by decide +kernel)).trans (by decide +kernel)
theorem rs_1_2 : R0 1 2 = 4 := (R0_F (c := 1) (k := 2) (by decide +kernel)).trans (by decide +kernel)
theorem rs_1_3 : R0 1 3 = 5 := (R0_F (c := 1) (k := 3) (by decide +kernel)).trans (by decide +kernel)
theorem rs_1_4 : R0 1 4 = 6 := (R0_F (c := 1) (k := 4) (by decide +kernel)).trans (by decide +kernel)
theorem rs_51_0 : R0 51 0 = 3 := (R0_F (c := 51) (k := 0) (by decide +kernel)).trans (by decide +kernel)
theorem rs_51_1 : R0 51 1 = 7 := (R0_F (c := 51) (k := 1) (by decide +kernel)).trans (by decide +kernel)
theorem rs_51_2 : R0 51 2 = 8 := (R0_F (c := 51) (k := 2) (by decide +kernel)).trans (by decide +kernel)
theorem rs_74_0 : R0 74 0 = 8 := (R0_F (c := 74) (k := 0) (by decide +kernel)).trans (by decide +kernel)
theorem rs_74_1 : R0 74 1 = 99 := (R0_F (c := 74) (k := 1) (by decide +kernel)).trans (by decide +kernel)
theorem rs_74_2 : R0 74 2 = 77 := (R0_F (c := 74) (k := 2) (by decide +kernel)).trans (by decide +kernel)
theorem rs_74_5 : R0 74 5 = 103 := (R0_F (c := 74) (k := 5) (by decide +kernel)).trans (by decide +kernel)
theorem rs_74_11 : R0 74 11 = 104 := (R0_F (c := 74) (k := 11) (by decide +kernel)).trans (by decide +kernel)
theorem rs_74_14 : R0 74 14 = 105 := (R0_F (c := 74) (k := 14) (by decide +kernel)).trans (by decide +kernel)
theorem rs_104_1 : R0 104 1 = 107 := (R0_F (c := 104) (k := 1) (by decide +kernel)).trans (by decide +kernel)
theorem rs_104_2 : R0 104 2 = 108 := (R0_F (c := 104) (k := 2) (by decide +kernel)).trans (by decide +kernel)
theorem rs_104_3 : R0 104 3 = 109 := (R0_F (c := 104) (k := 3) (by decide +kernel)).trans (by decide +kernel)
theorem rs_104_4 : R0 104 4 = 110 := (R0_F (c := 104) (k := 4) (by decide +kernel)).trans (by decide +kernel)
theorem rs_104_5 : R0 104 5 = 111 := (R0_F (c := 104) (k := 5) (by decide +kernel)).trans (by decide +kernel)
theorem rs_104_6 : R0 104 6 = 112 := (R0_F (c := 104) (k := 6) (by decide +kernel)).trans (by decide +kernel)
theorem rs_104_7 : R0 104 7 = 113 := (R0_F (c := 104) (k := 7) (by decide +kernel)).trans (by decide +kernel)
theorem rs_104_8 : R0 104 8 = 114 := (R0_F (c := 104) (k := 8) (by decide +kernel)).trans (by decide +kernel)
theorem rs_104_11 : R0 104 11 = 115 := (R0_F (c := 104) (k := 11) (by decide +kernel)).trans (by decide +kernel)
theorem rs_104_12 : R0 104 12 = 116 := (R0_F (c := 104) (k := 12) (by decide +kernel)).trans (by decide +kernel)
theorem rs_104_13 : R0 104 13 = 117 := (R0_F (c := 104) (k := 13) (by decide +kernel)).trans (by decide +kernel)
theorem rs_104_14 : R0 104 14 = 118 := (R0_F (c := 104) (k := 14) (by decide +kernel)).trans (by decide +kernel)
theorem rs_104_15 : R0 104 15 = 119 := (R0_F (c := 104) (k := 15) (by decide +kernel)).trans (by decide +kernel)
theorem rs_104_16 : R0 104 16 = 120 := (R0_F (c := 104) (k := 16) (by decide +kernel)).trans (by decide +kernel)
theorem rs_104_17 : R0 104 17 = 121 := (R0_F (c := 104) (k := 17) (by decide +kernel)).trans (by decide +kernel)
theorem rs_104_18 : R0 104 18 = 122 := (R0_F (c := 104) (k := 18) (by decide +kernel)).trans (by decide +kernel)
theorem rs_104_28 : R0 104 28 = 123 := (R0_F (c := 104) (k := 28) (by decide +kernel)).trans (by decide +kernel)
theorem rs_104_29 : R0 104 29 = 124 := (R0_F (c := 104) (k := 29) (by decide +kernel)).trans (by decide +kernel)
theorem rs_104_35 : R0 104 35 = 125 := (R0_F (c := 104) (k := 35) (by decide +kernel)).trans (by decide +kernel)
theorem rs_104_36 : R0 104 36 = 126 := (R0_F (c := 104) (k := 36) (by decide +kernel)).trans (by decide +kernel)
theorem rs_104_37 : R0 104 37 = 127 := (R0_F (c := 104) (k := 37) (by decide +kernel)).trans (by decide +kernel)
theorem rs_104_38 : R0 104 38 = 128 := (R0_F (c := 104) (k := 38) (by decide +kernel)).trans (by decide +kernel)
theorem rs_104_39 : R0 104 39 = 129 := (R0_F (c := 104) (k := 39) (by decide +kernel)).trans (by decide +kernel)
theorem rs_104_40 : R0 104 40 = 130 := (R0_F (c := 104) (k := 40) (by decide +kernel)).trans (by decide +kernel)
theorem rs_104_41 : R0 104 41 = 131 := (R0_F (c := 104) (k := 41) (by decide +kernel)).trans (by decide +kernel)
theorem rs_104_42 : R0 104 42 = 132 := (R0_F (c := 104) (k := 42) (by decide +kernel)).trans (by decide +kernel)
theorem rs_104_43 : R0 104 43 = 133 := (R0_F (c := 104) (k := 43) (by decide +kernel)).trans (by decide +kernel)
theorem rs_104_44 : R0 104 44 = 134 := (R0_F (c := 104) (k := 44) (by decide +kernel)).trans (by decide +kernel)
theorem rs_104_45 : R0 104 45 = 135 := (R0_F (c := 104) (k := 45) (by decide +kernel)).trans (by decide +kernel)
theorem rs_104_46 : R0 104 46 = 136 := (R0_F (c := 104) (k := 46) (by decide +kernel)).trans (by decide +kernel)
theorem rs_104_47 : R0 104 47 = 137 := (R0_F (c := 104) (k := 47) (by decide +kernel)).trans (by decide +kernel)
theorem rs_104_48 : R0 104 48 = 138 := (R0_F (c := 104) (k := 48) (by decide +kernel)).trans (by decide +kernel)
theorem rs_104_52 : R0 104 52 = 139 := (R0_F (c := 104) (k := 52) (by decide +kernel)).trans (by decide +kernel)
theorem rs_104_53 : R0 104 53 = 140 := (R0_F (c := 104) (k := 53) (by decide +kernel)).trans (by decide +kernel)
theorem rs_104_59 : R0 104 59 = 141 := (R0_F (c := 104) (k := 59) (by decide +kernel)).trans (by decide +kernel)
theorem rs_104_60 : R0 104 60 = 142 := (R0_F (c := 104) (k := 60) (by decide +kernel)).trans (by decide +kernel)
theorem rs_104_61 : R0 104 61 = 143 := (R0_F (c := 104) (k := 61) (by decide +kernel)).trans (by decide +kernel)
theorem rs_104_62 : R0 104 62 = 144 := (R0_F (c := 104) (k := 62) (by decide +kernel)).trans (by decide +kernel)
theorem rs_104_63 : R0 104 63 = 145 := (R0_F (c := 104) (k := 63) (by decide +kernel)).trans (by decide +kernel)
theorem okW_all : ∀ mi, mi < 228 → okB mi = true := fun mi h => by
  rcases Nat.lt_or_ge mi 227 with q | q
  · exact (okBM mi q).1
  · rw [show mi = 227 by omega]; exact okB_law
theorem ck2_all : ∀ mi, mi < 228 → (ents mi).all ck2 = true := by
  have h : (List.range 228).all (fun mi => (ents mi).all ck2) = true := by decide +kernel
  exact fun mi hm => List.all_eq_true.mp h mi (List.mem_range.mpr hm)
theorem Rn_w {sx : Int → Int} {L : Nat} {K : List (Nat × Nat)} {R : Rfs} {mi j : Nat} {ls st : List AV} {M : Mem} {Q : Option AV → Mem → Prop} (hm : mi < 228) (h : wpc sx L K R mi (blk mi j).1 (blk mi j).2 ls st M Q) : Rn sx L K R mi j ls st M Q := by
  refine wpc_Re _ _ _ _ _ (blk_ok (okW_all mi hm) j).1 ?_ h
  rcases blk_cases mi j with hb | hb
  · exact List.all_eq_true.mpr fun e0 he => List.all_eq_true.mp (ck2_all mi hm) e0 (List.mem_flatMap.mpr ⟨blk mi j, hb, he⟩)
  · rw [hb]; rfl
