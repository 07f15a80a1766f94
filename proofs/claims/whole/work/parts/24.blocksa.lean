theorem b01_0 : ((0 : Int) = 0 ∨ (0 : Int) = 1) = True := eq_true (Or.inl rfl)
theorem b01_1 : ((1 : Int) = 0 ∨ (1 : Int) = 1) = True := eq_true (Or.inr rfl)
theorem w_tsw {sx : Int → Int} {L mi pc ln fl dd : Nat} {es : List En} {ls st : List AV} {M : Mem} {Q : Option AV → Mem → Prop} {d lo hi x : Int} {offs : Array Int} {js : List Nat} : wpc sx L K0 R0 mi ((pc, ln, .tableswitch d lo hi offs, dd :: js) :: es) fl ls (vI x :: st) M Q = ((x < lo ∨ hi < x → Rn sx L K0 R0 mi dd ls st M Q) ∧ swt (fun j => Rn sx L K0 R0 mi j ls st M Q) x lo js) := rfl
theorem w_lsw {sx : Int → Int} {L mi pc ln fl dd : Nat} {es : List En} {ls st : List AV} {M : Mem} {Q : Option AV → Mem → Prop} {d x : Int} {ps : Array (Int × Int)} {js : List Nat} : wpc sx L K0 R0 mi ((pc, ln, .lookupswitch d ps, dd :: js) :: es) fl ls (vI x :: st) M Q = ((lno x ps.toList → Rn sx L K0 R0 mi dd ls st M Q) ∧ lsw (fun j => Rn sx L K0 R0 mi j ls st M Q) x ps.toList js) := rfl
set_option maxRecDepth 8192 in
theorem b_1_0 {sx : Int → Int} {L : Nat} {c0 : Nat} {x1 : Int} {x2 : Int} {M : Mem} {Q : Option AV → Mem → Prop} (h0 : isCk c0)
    (h : Q none (mset (mset (mset (mset (mset (mset (mset (mset (mset (mset M c0 2 x1) c0 3 x2) c0 4 (-1)) c0 5 0) c0 6 0) c0 7 0) c0 8 (-1)) c0 12 0) c0 16 (-1)) c0 17 0)) : Rn sx L K0 R0 1 0 [vR (c0 + 2), vI x1, vI x2] [] M Q := by
  refine Rn_w (by decide) ?_
  show wpc sx L K0 R0 1 [(0, 1, .aload_n 0, []), (1, 1, .iload_n 1, []), (2, 3, .putfield 23, [0, 2, 380]), (5, 1, .aload_n 0, []), (6, 1, .iload_n 2, []), (7, 3, .putfield 26, [0, 3, 381]), (10, 1, .aload_n 0, []), (11, 1, .iconst (-1), []), (12, 3, .putfield 29, [0, 4, 383]), (15, 1, .aload_n 0, []), (16, 1, .iconst 0, []), (17, 3, .putfield 32, [0, 5, 385]), (20, 1, .aload_n 0, []), (21, 1, .iconst 0, []), (22, 3, .putfield 35, [0, 6, 387]), (25, 1, .aload_n 0, []), (26, 1, .iconst 0, []), (27, 3, .putfield 38, [0, 7, 389]), (30, 1, .aload_n 0, []), (31, 1, .iconst (-1), []), (32, 3, .putfield 15, [0, 8, 390]), (35, 1, .aload_n 0, []), (36, 1, .iconst 0, []), (37, 3, .putfield 41, [0, 12, 397]), (40, 1, .aload_n 0, []), (41, 1, .iconst (-1), []), (42, 3, .putfield 44, [0, 16, 403]), (45, 1, .aload_n 0, []), (46, 1, .iconst 0, []), (47, 3, .putfield 47, [0, 17, 405]), (50, 1, .return_, [])] 0 [vR (c0 + 2), vI x1, vI x2] [] M Q
  simp only [w_al_0, w_il_1, w_pf_0_2, kin_T (kck h0), w_il_2, w_pf_0_3, w_iconst, w_pf_0_4, w_pf_0_5, w_pf_0_6, w_pf_0_7, w_pf_0_8, w_pf_0_12, w_pf_0_16, w_pf_0_17, w_ret0 rk_1, true_and, and_true, true_or, or_true]
  exact h
theorem b_2_0 {sx : Int → Int} {L : Nat} {c0 : Nat} {x1 : Int} {M : Mem} {Q : Option AV → Mem → Prop} (h0 : isCk c0)
    (h : inR (x1 * (M (plC c0) 4)) ∧ (inR ((M c0 2) + (x1 * (M (plC c0) 4))) ∧ (Q (some (vI ((M c0 2) + (x1 * (M (plC c0) 4))))) M))) : Rn sx L K0 R0 2 0 [vR (c0 + 2), vI x1] [] M Q := by
  refine Rn_w (by decide) ?_
  show wpc sx L K0 R0 2 [(0, 1, .aload_n 0, []), (1, 3, .getfield 23, [0, 2, 380]), (4, 1, .iload_n 1, []), (5, 1, .aload_n 0, []), (6, 3, .getfield 19, [0, 0, 377]), (9, 3, .getfield 50, [1, 4, 274]), (12, 1, .imul, []), (13, 1, .iadd, []), (14, 1, .ireturn, [])] 0 [vR (c0 + 2), vI x1] [] M Q
  simp only [w_al_0, w_gf_0_2, kin_T (kck h0), w_il_1, w_gf_0_0, rck0 h0, w_gf_1_4, kin_T (kpl (pl_ck h0)), w_imul, w_iadd, w_ret1 rk_2, true_and, and_true, true_or, or_true]
  exact h
theorem b_3_0 {sx : Int → Int} {L : Nat} {c0 : Nat} {x1 : Int} {M : Mem} {Q : Option AV → Mem → Prop} (h0 : isCk c0)
    (h : inR (x1 * (M (plC c0) 4)) ∧ (inR ((M c0 2) + (x1 * (M (plC c0) 4))) ∧ (inR (((M c0 2) + (x1 * (M (plC c0) 4))) + (M (plC c0) 5)) ∧ (Q (some (vI (((M c0 2) + (x1 * (M (plC c0) 4))) + (M (plC c0) 5)))) M)))) : Rn sx L K0 R0 3 0 [vR (c0 + 2), vI x1] [] M Q := by
  refine Rn_w (by decide) ?_
  show wpc sx L K0 R0 3 [(0, 1, .aload_n 0, []), (1, 3, .getfield 23, [0, 2, 380]), (4, 1, .iload_n 1, []), (5, 1, .aload_n 0, []), (6, 3, .getfield 19, [0, 0, 377]), (9, 3, .getfield 50, [1, 4, 274]), (12, 1, .imul, []), (13, 1, .iadd, []), (14, 1, .aload_n 0, []), (15, 3, .getfield 19, [0, 0, 377]), (18, 3, .getfield 55, [1, 5, 279]), (21, 1, .iadd, []), (22, 1, .ireturn, [])] 0 [vR (c0 + 2), vI x1] [] M Q
  simp only [w_al_0, w_gf_0_2, kin_T (kck h0), w_il_1, w_gf_0_0, rck0 h0, w_gf_1_4, kin_T (kpl (pl_ck h0)), w_imul, w_iadd, w_gf_1_5, w_ret1 rk_3, true_and, and_true, true_or, or_true]
  exact h
set_option maxRecDepth 8192 in
theorem b_4_0 {sx : Int → Int} {L : Nat} {c0 : Nat} {x1 : Int} {M : Mem} {Q : Option AV → Mem → Prop} (h0 : isCk c0)
    (h : Mq sx L K0 R0 2 [vR (c0 + 2), vI (M c0 6)] M (fun rv M1 => ∃ r1, rv = some (vI r1) ∧ ((¬ x1 = r1 → Rn sx L K0 R0 4 1 [vR (c0 + 2), vI x1] [] M1 Q) ∧ (¬ (¬ x1 = r1) → (M1 c0 6 < (0 : Int) → Rn sx L K0 R0 4 1 [vR (c0 + 2), vI x1] [] M1 Q) ∧ (¬ (M1 c0 6 < (0 : Int)) → ((120 : Int) ≤ M1 c0 6 → Rn sx L K0 R0 4 1 [vR (c0 + 2), vI x1] [] M1 Q) ∧ (¬ ((120 : Int) ≤ M1 c0 6) → ((0 : Int) ≤ M1 c0 6 ∧ M1 c0 6 < (120 : Int)) ∧ (inR (((mset M1 (c0 + 1) (M1 c0 6) (-1)) c0 6) + 1) ∧ (Rn sx L K0 R0 4 1 [vR (c0 + 2), vI x1] [] (mset (mset M1 (c0 + 1) (M1 c0 6) (-1)) c0 6 (((mset M1 (c0 + 1) (M1 c0 6) (-1)) c0 6) + 1)) Q)))))))) : Rn sx L K0 R0 4 0 [vR (c0 + 2), vI x1] [] M Q := by
  refine Rn_w (by decide) ?_
  show wpc sx L K0 R0 4 [(0, 1, .iload_n 1, []), (1, 1, .aload_n 0, []), (2, 1, .aload_n 0, []), (3, 3, .getfield 35, [0, 6, 387]), (6, 3, .invokevirtual 58, [2, 756, 1]), (9, 3, .if_icmp .ne 39, [1]), (12, 1, .aload_n 0, []), (13, 3, .getfield 35, [0, 6, 387]), (16, 3, .ifCond .lt 32, [1]), (19, 1, .aload_n 0, []), (20, 3, .getfield 35, [0, 6, 387]), (23, 2, .bipush 120, []), (25, 3, .if_icmp .ge 23, [1]), (28, 1, .aload_n 0, []), (29, 3, .getfield 9, [0, 1, 379]), (32, 1, .aload_n 0, []), (33, 3, .getfield 35, [0, 6, 387]), (36, 1, .iconst (-1), []), (37, 1, .iastore, []), (38, 1, .aload_n 0, []), (39, 1, .dup, []), (40, 3, .getfield 35, [0, 6, 387]), (43, 1, .iconst 1, []), (44, 1, .iadd, []), (45, 3, .putfield 35, [0, 6, 387])] 1 [vR (c0 + 2), vI x1] [] M Q
  simp only [w_il_1, w_al_0, w_gf_0_6, kin_T (kck h0), w_ivv_1 (c2I _) (cs1 _), mk_2, rk_2, rvk1, List.cons_append, List.nil_append, w_ic_ne, w_if_lt, w_bipush, w_ic_ge, w_gf_0_1, rck1 h0, w_iconst, w_iast, arr_T ((kck1 h0)), w_dup (c2R _), w_iadd, w_pf_0_6, w_fall, true_and, and_true, true_or, or_true]
  exact h
set_option maxRecDepth 8192 in
theorem b_4_1 {sx : Int → Int} {L : Nat} {c0 : Nat} {x1 : Int} {M : Mem} {Q : Option AV → Mem → Prop} (h0 : isCk c0)
    (h : (¬ M c0 8 = (-1 : Int) → Rn sx L K0 R0 4 2 [vR (c0 + 2), vI x1] [] M Q) ∧ (¬ (¬ M c0 8 = (-1 : Int)) → (M c0 6 ≤ M c0 7 → Rn sx L K0 R0 4 2 [vR (c0 + 2), vI x1] [] M Q) ∧ (¬ (M c0 6 ≤ M c0 7) → inR (((mset M c0 8 (M c0 7)) c0 7) + 1) ∧ (Mq sx L K0 R0 3 [vR (c0 + 2), vI ((mset (mset M c0 8 (M c0 7)) c0 7 (((mset M c0 8 (M c0 7)) c0 7) + 1)) c0 8)] (mset (mset M c0 8 (M c0 7)) c0 7 (((mset M c0 8 (M c0 7)) c0 7) + 1)) (fun rv M1 => ∃ r1, rv = some (vI r1) ∧ (Rn sx L K0 R0 4 2 [vR (c0 + 2), vI x1] [] (mset (mset (mset M1 c0 9 r1) c0 10 0) c0 11 0) Q)))))) : Rn sx L K0 R0 4 1 [vR (c0 + 2), vI x1] [] M Q := by
  refine Rn_w (by decide) ?_
  show wpc sx L K0 R0 4 [(48, 1, .aload_n 0, []), (49, 3, .getfield 15, [0, 8, 390]), (52, 1, .iconst (-1), []), (53, 3, .if_icmp .ne 54, [2]), (56, 1, .aload_n 0, []), (57, 3, .getfield 38, [0, 7, 389]), (60, 1, .aload_n 0, []), (61, 3, .getfield 35, [0, 6, 387]), (64, 3, .if_icmp .ge 43, [2]), (67, 1, .aload_n 0, []), (68, 1, .aload_n 0, []), (69, 3, .getfield 38, [0, 7, 389]), (72, 3, .putfield 15, [0, 8, 390]), (75, 1, .aload_n 0, []), (76, 1, .dup, []), (77, 3, .getfield 38, [0, 7, 389]), (80, 1, .iconst 1, []), (81, 1, .iadd, []), (82, 3, .putfield 38, [0, 7, 389]), (85, 1, .aload_n 0, []), (86, 1, .aload_n 0, []), (87, 1, .aload_n 0, []), (88, 3, .getfield 15, [0, 8, 390]), (91, 3, .invokevirtual 62, [3, 760, 1]), (94, 3, .putfield 65, [0, 9, 392]), (97, 1, .aload_n 0, []), (98, 1, .iconst 0, []), (99, 3, .putfield 66, [0, 10, 394]), (102, 1, .aload_n 0, []), (103, 1, .iconst 0, []), (104, 3, .putfield 69, [0, 11, 396])] 2 [vR (c0 + 2), vI x1] [] M Q
  simp only [w_al_0, w_gf_0_8, kin_T (kck h0), w_iconst, w_ic_ne, w_gf_0_7, w_gf_0_6, w_ic_ge, w_pf_0_8, w_dup (c2R _), w_iadd, w_pf_0_7, w_ivv_1 (c2I _) (cs1 _), mk_3, rk_3, rvk1, List.cons_append, List.nil_append, w_pf_0_9, w_pf_0_10, w_pf_0_11, w_fall, true_and, and_true, true_or, or_true]
  exact h
theorem b_4_2 {sx : Int → Int} {L : Nat} {c0 : Nat} {x1 : Int} {M : Mem} {Q : Option AV → Mem → Prop} (h0 : isCk c0)
    (h : Q none M) : Rn sx L K0 R0 4 2 [vR (c0 + 2), vI x1] [] M Q := by
  refine Rn_w (by decide) ?_
  show wpc sx L K0 R0 4 [(107, 1, .return_, [])] 0 [vR (c0 + 2), vI x1] [] M Q
  simp only [w_ret0 rk_4, true_and, and_true, true_or, or_true]
  exact h
theorem b_5_0 {sx : Int → Int} {L : Nat} {c0 : Nat} {x1 : Int} {M : Mem} {Q : Option AV → Mem → Prop} (h0 : isCk c0)
    (h : (¬ x1 = (0 : Int) → Rn sx L K0 R0 5 1 [vR (c0 + 2), vI x1] [] M Q) ∧ (¬ (¬ x1 = (0 : Int)) → inR (-(M c0 3)) ∧ (Rn sx L K0 R0 5 4 [vR (c0 + 2), vI x1] [] (mset M c0 15 (-(M c0 3))) Q))) : Rn sx L K0 R0 5 0 [vR (c0 + 2), vI x1] [] M Q := by
  refine Rn_w (by decide) ?_
  show wpc sx L K0 R0 5 [(0, 1, .iload_n 1, []), (1, 3, .ifCond .ne 15, [1]), (4, 1, .aload_n 0, []), (5, 1, .aload_n 0, []), (6, 3, .getfield 26, [0, 3, 381]), (9, 1, .ineg, []), (10, 3, .putfield 72, [0, 15, 401]), (13, 3, .goto 23, [4])] 0 [vR (c0 + 2), vI x1] [] M Q
  simp only [w_il_1, w_if_ne, w_al_0, w_gf_0_3, kin_T (kck h0), w_ineg, w_pf_0_15, w_goto, true_and, and_true, true_or, or_true]
  exact h
theorem b_5_1 {sx : Int → Int} {L : Nat} {c0 : Nat} {x1 : Int} {M : Mem} {Q : Option AV → Mem → Prop} (h0 : isCk c0)
    (h : (¬ x1 = (1 : Int) → Rn sx L K0 R0 5 2 [vR (c0 + 2), vI x1] [vR (c0 + 2)] M Q) ∧ (¬ (¬ x1 = (1 : Int)) → Rn sx L K0 R0 5 3 [vR (c0 + 2), vI x1] [vI (M c0 9), vR (c0 + 2)] M Q)) : Rn sx L K0 R0 5 1 [vR (c0 + 2), vI x1] [] M Q := by
  refine Rn_w (by decide) ?_
  show wpc sx L K0 R0 5 [(16, 1, .aload_n 0, []), (17, 1, .iload_n 1, []), (18, 1, .iconst 1, []), (19, 3, .if_icmp .ne 10, [2]), (22, 1, .aload_n 0, []), (23, 3, .getfield 65, [0, 9, 392]), (26, 3, .goto 7, [3])] 0 [vR (c0 + 2), vI x1] [] M Q
  simp only [w_al_0, w_il_1, w_iconst, w_ic_ne, w_gf_0_9, kin_T (kck h0), w_goto, true_and, and_true, true_or, or_true]
  exact h
theorem b_5_2 {sx : Int → Int} {L : Nat} {c0 : Nat} {x1 : Int} {M : Mem} {Q : Option AV → Mem → Prop} (h0 : isCk c0)
    (h : Rn sx L K0 R0 5 3 [vR (c0 + 2), vI x1] [vI (M c0 16), vR (c0 + 2)] M Q) : Rn sx L K0 R0 5 2 [vR (c0 + 2), vI x1] [vR (c0 + 2)] M Q := by
  refine Rn_w (by decide) ?_
  show wpc sx L K0 R0 5 [(29, 1, .aload_n 0, []), (30, 3, .getfield 44, [0, 16, 403])] 3 [vR (c0 + 2), vI x1] [vR (c0 + 2)] M Q
  simp only [w_al_0, w_gf_0_16, kin_T (kck h0), w_fall, true_and, and_true, true_or, or_true]
  exact h
theorem b_5_3 {sx : Int → Int} {L : Nat} {c0 : Nat} {x1 : Int} {y1 : Int} {M : Mem} {Q : Option AV → Mem → Prop} (h0 : isCk c0)
    (h : Rn sx L K0 R0 5 4 [vR (c0 + 2), vI x1] [] (mset M c0 15 y1) Q) : Rn sx L K0 R0 5 3 [vR (c0 + 2), vI x1] [vI y1, vR (c0 + 2)] M Q := by
  refine Rn_w (by decide) ?_
  show wpc sx L K0 R0 5 [(33, 3, .putfield 72, [0, 15, 401])] 4 [vR (c0 + 2), vI x1] [vI y1, vR (c0 + 2)] M Q
  simp only [w_pf_0_15, kin_T (kck h0), w_fall, true_and, and_true, true_or, or_true]
  exact h
theorem b_5_4 {sx : Int → Int} {L : Nat} {c0 : Nat} {x1 : Int} {M : Mem} {Q : Option AV → Mem → Prop} (h0 : isCk c0)
    (h : Q none M) : Rn sx L K0 R0 5 4 [vR (c0 + 2), vI x1] [] M Q := by
  refine Rn_w (by decide) ?_
  show wpc sx L K0 R0 5 [(36, 1, .return_, [])] 0 [vR (c0 + 2), vI x1] [] M Q
  simp only [w_ret0 rk_5, true_and, and_true, true_or, or_true]
  exact h
theorem b_6_0 {sx : Int → Int} {L : Nat} {c0 : Nat} {M : Mem} {Q : Option AV → Mem → Prop} (h0 : isCk c0)
    (h : inR ((M c0 11) + 1) ∧ (Mq sx L K0 R0 26 [vR (plC c0 + 2), vI ((mset M c0 11 ((M c0 11) + 1)) c0 10)] (mset M c0 11 ((M c0 11) + 1)) (fun rv M1 => ∃ r1, rv = some (vI r1) ∧ ((¬ M1 c0 10 = M1 c0 4 → Rn sx L K0 R0 6 1 [vR (c0 + 2), vI r1, vU] [] M1 Q) ∧ (¬ (¬ M1 c0 10 = M1 c0 4) → inR (r1 + (M1 c0 5)) ∧ (Rn sx L K0 R0 6 1 [vR (c0 + 2), vI (r1 + (M1 c0 5)), vU] [] M1 Q)))))) : Rn sx L K0 R0 6 0 [vR (c0 + 2), vU, vU] [] M Q := by
  refine Rn_w (by decide) ?_
  show wpc sx L K0 R0 6 [(0, 1, .aload_n 0, []), (1, 1, .dup, []), (2, 3, .getfield 69, [0, 11, 396]), (5, 1, .iconst 1, []), (6, 1, .iadd, []), (7, 3, .putfield 69, [0, 11, 396]), (10, 1, .aload_n 0, []), (11, 3, .getfield 19, [0, 0, 377]), (14, 1, .aload_n 0, []), (15, 3, .getfield 66, [0, 10, 394]), (18, 3, .invokevirtual 75, [26, 830, 1]), (21, 1, .istore_n 1, []), (22, 1, .aload_n 0, []), (23, 3, .getfield 66, [0, 10, 394]), (26, 1, .aload_n 0, []), (27, 3, .getfield 29, [0, 4, 383]), (30, 3, .if_icmp .ne 10, [1]), (33, 1, .iload_n 1, []), (34, 1, .aload_n 0, []), (35, 3, .getfield 32, [0, 5, 385]), (38, 1, .iadd, []), (39, 1, .istore_n 1, [])] 1 [vR (c0 + 2), vU, vU] [] M Q
  simp only [w_al_0, w_dup (c2R _), w_gf_0_11, kin_T (kck h0), w_iconst, w_iadd, w_pf_0_11, w_gf_0_0, rck0 h0, w_gf_0_10, w_ivv_1 (c2I _) cs0, mk_26, kin_T (kpl (pl_ck h0)), rk_26, rvk1, List.cons_append, List.nil_append, w_is_1 (c2R _), w_gf_0_4, w_ic_ne, w_il_1, w_gf_0_5, w_fall, true_and, and_true, true_or, or_true]
  exact h
theorem b_6_1 {sx : Int → Int} {L : Nat} {c0 : Nat} {x1 : Int} {M : Mem} {Q : Option AV → Mem → Prop} (h0 : isCk c0)
    (h : (x1 ≤ M c0 11 → Rn sx L K0 R0 6 2 [vR (c0 + 2), vI x1, vU] [] M Q) ∧ (¬ (x1 ≤ M c0 11) → Q (some (vI 0)) M)) : Rn sx L K0 R0 6 1 [vR (c0 + 2), vI x1, vU] [] M Q := by
  refine Rn_w (by decide) ?_
  show wpc sx L K0 R0 6 [(40, 1, .aload_n 0, []), (41, 3, .getfield 69, [0, 11, 396]), (44, 1, .iload_n 1, []), (45, 3, .if_icmp .ge 5, [2]), (48, 1, .iconst 0, []), (49, 1, .ireturn, [])] 0 [vR (c0 + 2), vI x1, vU] [] M Q
  simp only [w_al_0, w_gf_0_11, kin_T (kck h0), w_il_1, w_ic_ge, w_iconst, w_ret2 rk_6, b01_0, true_and, and_true, true_or, or_true]
  exact h
theorem b_6_2 {sx : Int → Int} {L : Nat} {c0 : Nat} {x1 : Int} {M : Mem} {Q : Option AV → Mem → Prop} (h0 : isCk c0)
    (h : inR (((mset M c0 11 0) c0 10) + 1) ∧ (Rn sx L K0 R0 6 3 [vR (c0 + 2), vI x1, vI ((mset (mset M c0 11 0) c0 10 (((mset M c0 11 0) c0 10) + 1)) c0 10)] [] (mset (mset M c0 11 0) c0 10 (((mset M c0 11 0) c0 10) + 1)) Q)) : Rn sx L K0 R0 6 2 [vR (c0 + 2), vI x1, vU] [] M Q := by
  refine Rn_w (by decide) ?_
  show wpc sx L K0 R0 6 [(50, 1, .aload_n 0, []), (51, 1, .iconst 0, []), (52, 3, .putfield 69, [0, 11, 396]), (55, 1, .aload_n 0, []), (56, 1, .dup, []), (57, 3, .getfield 66, [0, 10, 394]), (60, 1, .iconst 1, []), (61, 1, .iadd, []), (62, 3, .putfield 66, [0, 10, 394]), (65, 1, .aload_n 0, []), (66, 3, .getfield 66, [0, 10, 394]), (69, 1, .istore_n 2, [])] 3 [vR (c0 + 2), vI x1, vU] [] M Q
  simp only [w_al_0, w_iconst, w_pf_0_11, kin_T (kck h0), w_dup (c2R _), w_gf_0_10, w_iadd, w_pf_0_10, w_is_2 (c2I _), w_fall, true_and, and_true, true_or, or_true]
  exact h
set_option maxRecDepth 8192 in
theorem b_6_3 {sx : Int → Int} {L : Nat} {c0 : Nat} {x1 : Int} {x2 : Int} {M : Mem} {Q : Option AV → Mem → Prop} (h0 : isCk c0)
    (h : ((20 : Int) ≤ x2 → Rn sx L K0 R0 6 4 [vR (c0 + 2), vI x1, vI x2] [] M Q) ∧ (¬ ((20 : Int) ≤ x2) → Mq sx L K0 R0 25 [vR (plC c0 + 2), vI x2] M (fun rv M1 => ∃ r1, rv = some (vI r1) ∧ ((¬ r1 = (3 : Int) → Rn sx L K0 R0 6 4 [vR (c0 + 2), vI x1, vI x2] [] M1 Q) ∧ (¬ (¬ r1 = (3 : Int)) → Mq sx L K0 R0 26 [vR (plC c0 + 2), vI x2] M1 (fun rv M2 => ∃ r2, rv = some (vI r2) ∧ (((0 : Int) ≤ (1 : Int) ∧ (0 : Int) ≤ r2 ∧ r2 ≤ (30 : Int) ∧ (1 : Int) * 2 ^ (r2).toNat ≤ (2147483647 : Int)) ∧ (inR (x2 + 1) ∧ (inR (x2 + 1) ∧ (Rn sx L K0 R0 6 3 [vR (c0 + 2), vI x1, vI (x2 + 1)] [] (mset (mset M2 c0 12 (iAnd (M1 c0 12) (iXor ((1 : Int) * 2 ^ (r2).toNat) (-1)))) c0 10 (x2 + 1)) Q)))))))))) : Rn sx L K0 R0 6 3 [vR (c0 + 2), vI x1, vI x2] [] M Q := by
  refine Rn_w (by decide) ?_
  show wpc sx L K0 R0 6 [(70, 1, .iload_n 2, []), (71, 2, .bipush 20, []), (73, 3, .if_icmp .ge 49, [4]), (76, 1, .aload_n 0, []), (77, 3, .getfield 19, [0, 0, 377]), (80, 1, .iload_n 2, []), (81, 3, .invokevirtual 78, [25, 831, 1]), (84, 1, .iconst 3, []), (85, 3, .if_icmp .ne 37, [4]), (88, 1, .aload_n 0, []), (89, 1, .dup, []), (90, 3, .getfield 41, [0, 12, 397]), (93, 1, .iconst 1, []), (94, 1, .aload_n 0, []), (95, 3, .getfield 19, [0, 0, 377]), (98, 1, .iload_n 2, []), (99, 3, .invokevirtual 75, [26, 830, 1]), (102, 1, .ishl, []), (103, 1, .iconst (-1), []), (104, 1, .ixor, []), (105, 1, .iand, []), (106, 3, .putfield 41, [0, 12, 397]), (109, 1, .aload_n 0, []), (110, 1, .iload_n 2, []), (111, 1, .iconst 1, []), (112, 1, .iadd, []), (113, 3, .putfield 66, [0, 10, 394]), (116, 3, .iinc 2 1, []), (119, 3, .goto (-49), [3])] 0 [vR (c0 + 2), vI x1, vI x2] [] M Q
  simp only [w_il_2, w_bipush, w_ic_ge, w_al_0, w_gf_0_0, kin_T (kck h0), rck0 h0, w_ivv_1 (c2I _) cs0, mk_25, kin_T (kpl (pl_ck h0)), rk_25, rvk1, List.cons_append, List.nil_append, w_iconst, w_ic_ne, w_dup (c2R _), w_gf_0_12, w_ivv_1 (c2I _) (cs3 _ _ _), mk_26, rk_26, w_ishl, w_ixor, w_iand, w_pf_0_12, w_iadd, w_pf_0_10, w_inc_2 (c2I _), w_goto, true_and, and_true, true_or, or_true]
  exact h
theorem b_6_4 {sx : Int → Int} {L : Nat} {c0 : Nat} {x1 : Int} {x2 : Int} {M : Mem} {Q : Option AV → Mem → Prop} (h0 : isCk c0)
    (h : (M c0 10 < M (plC c0) 9 → Rn sx L K0 R0 6 5 [vR (c0 + 2), vI x1, vI x2] [] M Q) ∧ (¬ (M c0 10 < M (plC c0) 9) → Rn sx L K0 R0 6 6 [vR (c0 + 2), vI x1, vI x2] [vI 1] M Q)) : Rn sx L K0 R0 6 4 [vR (c0 + 2), vI x1, vI x2] [] M Q := by
  refine Rn_w (by decide) ?_
  show wpc sx L K0 R0 6 [(122, 1, .aload_n 0, []), (123, 3, .getfield 66, [0, 10, 394]), (126, 1, .aload_n 0, []), (127, 3, .getfield 19, [0, 0, 377]), (130, 3, .getfield 81, [1, 9, 288]), (133, 3, .if_icmp .lt 7, [5]), (136, 1, .iconst 1, []), (137, 3, .goto 4, [6])] 0 [vR (c0 + 2), vI x1, vI x2] [] M Q
  simp only [w_al_0, w_gf_0_10, kin_T (kck h0), w_gf_0_0, rck0 h0, w_gf_1_9, kin_T (kpl (pl_ck h0)), w_ic_lt, w_iconst, w_goto, true_and, and_true, true_or, or_true]
  exact h
theorem b_6_5 {sx : Int → Int} {L : Nat} {c0 : Nat} {x1 : Int} {x2 : Int} {M : Mem} {Q : Option AV → Mem → Prop} (h0 : isCk c0)
    (h : Rn sx L K0 R0 6 6 [vR (c0 + 2), vI x1, vI x2] [vI 0] M Q) : Rn sx L K0 R0 6 5 [vR (c0 + 2), vI x1, vI x2] [] M Q := by
  refine Rn_w (by decide) ?_
  show wpc sx L K0 R0 6 [(140, 1, .iconst 0, [])] 6 [vR (c0 + 2), vI x1, vI x2] [] M Q
  simp only [w_iconst, w_fall, true_and, and_true, true_or, or_true]
  exact h
theorem b_6_6 {sx : Int → Int} {L : Nat} {c0 : Nat} {x1 : Int} {x2 : Int} {y0 : Int} {M : Mem} {Q : Option AV → Mem → Prop} (h0 : isCk c0)
    (h : (y0 = 0 ∨ y0 = 1) ∧ (Q (some (vI y0)) M)) : Rn sx L K0 R0 6 6 [vR (c0 + 2), vI x1, vI x2] [vI y0] M Q := by
  refine Rn_w (by decide) ?_
  show wpc sx L K0 R0 6 [(141, 1, .ireturn, [])] 0 [vR (c0 + 2), vI x1, vI x2] [vI y0] M Q
  simp only [w_ret2 rk_6, true_and, and_true, true_or, or_true]
  exact h
theorem b_7_0 {sx : Int → Int} {L : Nat} {c0 : Nat} {x1 : Int} {M : Mem} {Q : Option AV → Mem → Prop} (h0 : isCk c0)
    (h : (M c0 8 < (0 : Int) → Rn sx L K0 R0 7 1 [vR (c0 + 2), vI x1] [] M Q) ∧ (¬ (M c0 8 < (0 : Int)) → ((120 : Int) ≤ M c0 8 → Rn sx L K0 R0 7 1 [vR (c0 + 2), vI x1] [] M Q) ∧ (¬ ((120 : Int) ≤ M c0 8) → ((0 : Int) ≤ M c0 8 ∧ M c0 8 < (120 : Int)) ∧ (Rn sx L K0 R0 7 1 [vR (c0 + 2), vI x1] [] (mset M (c0 + 1) (M c0 8) x1) Q)))) : Rn sx L K0 R0 7 0 [vR (c0 + 2), vI x1] [] M Q := by
  refine Rn_w (by decide) ?_
  show wpc sx L K0 R0 7 [(0, 1, .aload_n 0, []), (1, 3, .getfield 15, [0, 8, 390]), (4, 3, .ifCond .lt 22, [1]), (7, 1, .aload_n 0, []), (8, 3, .getfield 15, [0, 8, 390]), (11, 2, .bipush 120, []), (13, 3, .if_icmp .ge 13, [1]), (16, 1, .aload_n 0, []), (17, 3, .getfield 9, [0, 1, 379]), (20, 1, .aload_n 0, []), (21, 3, .getfield 15, [0, 8, 390]), (24, 1, .iload_n 1, []), (25, 1, .iastore, [])] 1 [vR (c0 + 2), vI x1] [] M Q
  simp only [w_al_0, w_gf_0_8, kin_T (kck h0), w_if_lt, w_bipush, w_ic_ge, w_gf_0_1, rck1 h0, w_il_1, w_iast, arr_T ((kck1 h0)), w_fall, true_and, and_true, true_or, or_true]
  exact h
theorem b_7_1 {sx : Int → Int} {L : Nat} {c0 : Nat} {x1 : Int} {M : Mem} {Q : Option AV → Mem → Prop} (h0 : isCk c0)
    (h : Q none (mset (mset M c0 8 (-1)) c0 12 0)) : Rn sx L K0 R0 7 1 [vR (c0 + 2), vI x1] [] M Q := by
  refine Rn_w (by decide) ?_
  show wpc sx L K0 R0 7 [(26, 1, .aload_n 0, []), (27, 1, .iconst (-1), []), (28, 3, .putfield 15, [0, 8, 390]), (31, 1, .aload_n 0, []), (32, 1, .iconst 0, []), (33, 3, .putfield 41, [0, 12, 397]), (36, 1, .return_, [])] 0 [vR (c0 + 2), vI x1] [] M Q
  simp only [w_al_0, w_iconst, w_pf_0_8, kin_T (kck h0), w_pf_0_12, w_ret0 rk_7, true_and, and_true, true_or, or_true]
  exact h
theorem b_8_0 {sx : Int → Int} {L : Nat} {c0 : Nat} {x1 : Int} {M : Mem} {Q : Option AV → Mem → Prop} (h0 : isCk c0)
    (h : (x1 < (0 : Int) → Rn sx L K0 R0 8 1 [vR (c0 + 2), vI x1] [] M Q) ∧ (¬ (x1 < (0 : Int)) → (M c0 6 ≤ x1 → Rn sx L K0 R0 8 1 [vR (c0 + 2), vI x1] [] M Q) ∧ (¬ (M c0 6 ≤ x1) → ((120 : Int) ≤ x1 → Rn sx L K0 R0 8 1 [vR (c0 + 2), vI x1] [] M Q) ∧ (¬ ((120 : Int) ≤ x1) → ((0 : Int) ≤ x1 ∧ x1 < (120 : Int)) ∧ (Rn sx L K0 R0 8 2 [vR (c0 + 2), vI x1] [vI (M (c0 + 1) x1)] M Q))))) : Rn sx L K0 R0 8 0 [vR (c0 + 2), vI x1] [] M Q := by
  refine Rn_w (by decide) ?_
  show wpc sx L K0 R0 8 [(0, 1, .iload_n 1, []), (1, 3, .ifCond .lt 26, [1]), (4, 1, .iload_n 1, []), (5, 1, .aload_n 0, []), (6, 3, .getfield 35, [0, 6, 387]), (9, 3, .if_icmp .ge 18, [1]), (12, 1, .iload_n 1, []), (13, 2, .bipush 120, []), (15, 3, .if_icmp .ge 12, [1]), (18, 1, .aload_n 0, []), (19, 3, .getfield 9, [0, 1, 379]), (22, 1, .iload_n 1, []), (23, 1, .iaload, []), (24, 3, .goto 4, [2])] 0 [vR (c0 + 2), vI x1] [] M Q
  simp only [w_il_1, w_if_lt, w_al_0, w_gf_0_6, kin_T (kck h0), w_ic_ge, w_bipush, w_gf_0_1, rck1 h0, w_iald, arr_T ((kck1 h0)), w_goto, true_and, and_true, true_or, or_true]
  exact h
theorem b_8_1 {sx : Int → Int} {L : Nat} {c0 : Nat} {x1 : Int} {M : Mem} {Q : Option AV → Mem → Prop} (h0 : isCk c0)
    (h : Rn sx L K0 R0 8 2 [vR (c0 + 2), vI x1] [vI (-1)] M Q) : Rn sx L K0 R0 8 1 [vR (c0 + 2), vI x1] [] M Q := by
  refine Rn_w (by decide) ?_
  show wpc sx L K0 R0 8 [(27, 1, .iconst (-1), [])] 2 [vR (c0 + 2), vI x1] [] M Q
  simp only [w_iconst, w_fall, true_and, and_true, true_or, or_true]
  exact h
theorem b_8_2 {sx : Int → Int} {L : Nat} {c0 : Nat} {x1 : Int} {y0 : Int} {M : Mem} {Q : Option AV → Mem → Prop} (h0 : isCk c0)
    (h : Q (some (vI y0)) M) : Rn sx L K0 R0 8 2 [vR (c0 + 2), vI x1] [vI y0] M Q := by
  refine Rn_w (by decide) ?_
  show wpc sx L K0 R0 8 [(28, 1, .ireturn, [])] 0 [vR (c0 + 2), vI x1] [vI y0] M Q
  simp only [w_ret1 rk_8, true_and, and_true, true_or, or_true]
  exact h
theorem b_9_0 {sx : Int → Int} {L : Nat} {c0 : Nat} {M : Mem} {Q : Option AV → Mem → Prop} (h0 : isCk c0)
    (h : Rn sx L K0 R0 9 1 [vR (c0 + 2), vI 0, vI 0] [] M Q) : Rn sx L K0 R0 9 0 [vR (c0 + 2), vU, vU] [] M Q := by
  refine Rn_w (by decide) ?_
  show wpc sx L K0 R0 9 [(0, 1, .iconst 0, []), (1, 1, .istore_n 1, []), (2, 1, .iconst 0, []), (3, 1, .istore_n 2, [])] 1 [vR (c0 + 2), vU, vU] [] M Q
  simp only [w_iconst, w_is_1 (c2R _), w_is_2 (c2I _), w_fall, true_and, and_true, true_or, or_true]
  exact h
theorem b_9_1 {sx : Int → Int} {L : Nat} {c0 : Nat} {x1 : Int} {x2 : Int} {M : Mem} {Q : Option AV → Mem → Prop} (h0 : isCk c0)
    (h : (M c0 6 ≤ x2 → Rn sx L K0 R0 9 3 [vR (c0 + 2), vI x1, vI x2] [] M Q) ∧ (¬ (M c0 6 ≤ x2) → Mq sx L K0 R0 8 [vR (c0 + 2), vI x2] M (fun rv M1 => ∃ r1, rv = some (vI r1) ∧ ((r1 = (-1 : Int) → Rn sx L K0 R0 9 2 [vR (c0 + 2), vI x1, vI x2] [] M1 Q) ∧ (¬ (r1 = (-1 : Int)) → inR (x1 + 1) ∧ (Rn sx L K0 R0 9 2 [vR (c0 + 2), vI (x1 + 1), vI x2] [] M1 Q)))))) : Rn sx L K0 R0 9 1 [vR (c0 + 2), vI x1, vI x2] [] M Q := by
  refine Rn_w (by decide) ?_
  show wpc sx L K0 R0 9 [(4, 1, .iload_n 2, []), (5, 1, .aload_n 0, []), (6, 3, .getfield 35, [0, 6, 387]), (9, 3, .if_icmp .ge 21, [3]), (12, 1, .aload_n 0, []), (13, 1, .iload_n 2, []), (14, 3, .invokevirtual 84, [8, 864, 1]), (17, 1, .iconst (-1), []), (18, 3, .if_icmp .eq 6, [2]), (21, 3, .iinc 1 1, [])] 2 [vR (c0 + 2), vI x1, vI x2] [] M Q
  simp only [w_il_2, w_al_0, w_gf_0_6, kin_T (kck h0), w_ic_ge, w_ivv_1 (c2I _) cs0, mk_8, rk_8, rvk1, List.cons_append, List.nil_append, w_iconst, w_ic_eq, w_inc_1 (c2R _), w_fall, true_and, and_true, true_or, or_true]
  exact h
theorem b_9_2 {sx : Int → Int} {L : Nat} {c0 : Nat} {x1 : Int} {x2 : Int} {M : Mem} {Q : Option AV → Mem → Prop} (h0 : isCk c0)
    (h : inR (x2 + 1) ∧ (Rn sx L K0 R0 9 1 [vR (c0 + 2), vI x1, vI (x2 + 1)] [] M Q)) : Rn sx L K0 R0 9 2 [vR (c0 + 2), vI x1, vI x2] [] M Q := by
  refine Rn_w (by decide) ?_
  show wpc sx L K0 R0 9 [(24, 3, .iinc 2 1, []), (27, 3, .goto (-23), [1])] 0 [vR (c0 + 2), vI x1, vI x2] [] M Q
  simp only [w_inc_2 (c2I _), w_goto, true_and, and_true, true_or, or_true]
  exact h
theorem b_9_3 {sx : Int → Int} {L : Nat} {c0 : Nat} {x1 : Int} {x2 : Int} {M : Mem} {Q : Option AV → Mem → Prop} (h0 : isCk c0)
    (h : Q (some (vI x1)) M) : Rn sx L K0 R0 9 3 [vR (c0 + 2), vI x1, vI x2] [] M Q := by
  refine Rn_w (by decide) ?_
  show wpc sx L K0 R0 9 [(30, 1, .iload_n 1, []), (31, 1, .ireturn, [])] 0 [vR (c0 + 2), vI x1, vI x2] [] M Q
  simp only [w_il_1, w_ret1 rk_9, true_and, and_true, true_or, or_true]
  exact h
theorem b_10_0 {sx : Int → Int} {L : Nat} {c0 : Nat} {x1 : Int} {M : Mem} {Q : Option AV → Mem → Prop} (h0 : isCk c0)
    (h : Rn sx L K0 R0 10 1 [vR (c0 + 2), vI x1, vI 0, vI 0, vU] [] M Q) : Rn sx L K0 R0 10 0 [vR (c0 + 2), vI x1, vU, vU, vU] [] M Q := by
  refine Rn_w (by decide) ?_
  show wpc sx L K0 R0 10 [(0, 1, .iconst 0, []), (1, 1, .istore_n 2, []), (2, 1, .iconst 0, []), (3, 1, .istore_n 3, [])] 1 [vR (c0 + 2), vI x1, vU, vU, vU] [] M Q
  simp only [w_iconst, w_is_2 (c2I _), w_is_3 (c2I _), w_fall, true_and, and_true, true_or, or_true]
  exact h
theorem b_10_1 {sx : Int → Int} {L : Nat} {c0 : Nat} {x1 : Int} {x2 : Int} {x3 : Int} {u4 : AV} {M : Mem} {Q : Option AV → Mem → Prop} (h0 : isCk c0) (hu4 : cat2 u4 = false)
    (h : (M c0 6 ≤ x3 → Rn sx L K0 R0 10 5 [vR (c0 + 2), vI x1, vI x2, vI x3, u4] [] M Q) ∧ (¬ (M c0 6 ≤ x3) → Mq sx L K0 R0 8 [vR (c0 + 2), vI x3] M (fun rv M1 => ∃ r1, rv = some (vI r1) ∧ ((¬ r1 = (-1 : Int) → Rn sx L K0 R0 10 2 [vR (c0 + 2), vI x1, vI x2, vI x3, vI r1] [] M1 Q) ∧ (¬ (¬ r1 = (-1 : Int)) → Mq sx L K0 R0 3 [vR (c0 + 2), vI x3] M1 (fun rv M2 => ∃ r2, rv = some (vI r2) ∧ ((x1 < r2 → Rn sx L K0 R0 10 4 [vR (c0 + 2), vI x1, vI x2, vI x3, vI r1] [] M2 Q) ∧ (¬ (x1 < r2) → Rn sx L K0 R0 10 3 [vR (c0 + 2), vI x1, vI x2, vI x3, vI r1] [] M2 Q)))))))) : Rn sx L K0 R0 10 1 [vR (c0 + 2), vI x1, vI x2, vI x3, u4] [] M Q := by
  refine Rn_w (by decide) ?_
  show wpc sx L K0 R0 10 [(4, 1, .iload_n 3, []), (5, 1, .aload_n 0, []), (6, 3, .getfield 35, [0, 6, 387]), (9, 3, .if_icmp .ge 47, [5]), (12, 1, .aload_n 0, []), (13, 1, .iload_n 3, []), (14, 3, .invokevirtual 84, [8, 864, 1]), (17, 2, .istore 4, []), (19, 2, .iload 4, []), (21, 1, .iconst (-1), []), (22, 3, .if_icmp .ne 15, [2]), (25, 1, .aload_n 0, []), (26, 1, .iload_n 3, []), (27, 3, .invokevirtual 62, [3, 760, 1]), (30, 1, .iload_n 1, []), (31, 3, .if_icmp .gt 19, [4]), (34, 3, .goto 13, [3])] 0 [vR (c0 + 2), vI x1, vI x2, vI x3, u4] [] M Q
  simp only [w_il_3, w_al_0, w_gf_0_6, kin_T (kck h0), w_ic_ge, w_ivv_1 (c2I _) cs0, mk_8, rk_8, rvk1, List.cons_append, List.nil_append, w_is_4 (c2I _), w_il_4, w_iconst, w_ic_ne, mk_3, rk_3, w_il_1, w_ic_gt, w_goto, true_and, and_true, true_or, or_true]
  exact h
theorem b_10_2 {sx : Int → Int} {L : Nat} {c0 : Nat} {x1 : Int} {x2 : Int} {x3 : Int} {x4 : Int} {M : Mem} {Q : Option AV → Mem → Prop} (h0 : isCk c0)
    (h : Mq sx L K0 R0 3 [vR (c0 + 2), vI x3] M (fun rv M1 => ∃ r1, rv = some (vI r1) ∧ ((x4 ≤ r1 → Rn sx L K0 R0 10 4 [vR (c0 + 2), vI x1, vI x2, vI x3, vI x4] [] M1 Q) ∧ (¬ (x4 ≤ r1) → Rn sx L K0 R0 10 3 [vR (c0 + 2), vI x1, vI x2, vI x3, vI x4] [] M1 Q)))) : Rn sx L K0 R0 10 2 [vR (c0 + 2), vI x1, vI x2, vI x3, vI x4] [] M Q := by
  refine Rn_w (by decide) ?_
  show wpc sx L K0 R0 10 [(37, 2, .iload 4, []), (39, 1, .aload_n 0, []), (40, 1, .iload_n 3, []), (41, 3, .invokevirtual 62, [3, 760, 1]), (44, 3, .if_icmp .le 6, [4])] 3 [vR (c0 + 2), vI x1, vI x2, vI x3, vI x4] [] M Q
  simp only [w_il_4, w_al_0, w_il_3, w_ivv_1 (c2I _) (cs1 _), mk_3, kin_T (kck h0), rk_3, rvk1, List.cons_append, List.nil_append, w_ic_le, w_fall, true_and, and_true, true_or, or_true]
  exact h
theorem b_10_3 {sx : Int → Int} {L : Nat} {c0 : Nat} {x1 : Int} {x2 : Int} {x3 : Int} {x4 : Int} {M : Mem} {Q : Option AV → Mem → Prop} (h0 : isCk c0)
    (h : inR (x2 + 1) ∧ (Rn sx L K0 R0 10 4 [vR (c0 + 2), vI x1, vI (x2 + 1), vI x3, vI x4] [] M Q)) : Rn sx L K0 R0 10 3 [vR (c0 + 2), vI x1, vI x2, vI x3, vI x4] [] M Q := by
  refine Rn_w (by decide) ?_
  show wpc sx L K0 R0 10 [(47, 3, .iinc 2 1, [])] 4 [vR (c0 + 2), vI x1, vI x2, vI x3, vI x4] [] M Q
  simp only [w_inc_2 (c2I _), w_fall, true_and, and_true, true_or, or_true]
  exact h
theorem b_10_4 {sx : Int → Int} {L : Nat} {c0 : Nat} {x1 : Int} {x2 : Int} {x3 : Int} {x4 : Int} {M : Mem} {Q : Option AV → Mem → Prop} (h0 : isCk c0)
    (h : inR (x3 + 1) ∧ (Rn sx L K0 R0 10 1 [vR (c0 + 2), vI x1, vI x2, vI (x3 + 1), vI x4] [] M Q)) : Rn sx L K0 R0 10 4 [vR (c0 + 2), vI x1, vI x2, vI x3, vI x4] [] M Q := by
  refine Rn_w (by decide) ?_
  show wpc sx L K0 R0 10 [(50, 3, .iinc 3 1, []), (53, 3, .goto (-49), [1])] 0 [vR (c0 + 2), vI x1, vI x2, vI x3, vI x4] [] M Q
  simp only [w_inc_3 (c2I _), w_goto, true_and, and_true, true_or, or_true]
  exact h
theorem b_10_5 {sx : Int → Int} {L : Nat} {c0 : Nat} {x1 : Int} {x2 : Int} {x3 : Int} {u4 : AV} {M : Mem} {Q : Option AV → Mem → Prop} (h0 : isCk c0) (hu4 : cat2 u4 = false)
    (h : Q (some (vI x2)) M) : Rn sx L K0 R0 10 5 [vR (c0 + 2), vI x1, vI x2, vI x3, u4] [] M Q := by
  refine Rn_w (by decide) ?_
  show wpc sx L K0 R0 10 [(56, 1, .iload_n 2, []), (57, 1, .ireturn, [])] 0 [vR (c0 + 2), vI x1, vI x2, vI x3, u4] [] M Q
  simp only [w_il_2, w_ret1 rk_10, true_and, and_true, true_or, or_true]
  exact h
theorem b_11_0 {sx : Int → Int} {L : Nat} {c0 : Nat} {M : Mem} {Q : Option AV → Mem → Prop} (h0 : isCk c0)
    (h : Rn sx L K0 R0 11 1 [vR (c0 + 2), vI (-1), vI 0, vU] [] M Q) : Rn sx L K0 R0 11 0 [vR (c0 + 2), vU, vU, vU] [] M Q := by
  refine Rn_w (by decide) ?_
  show wpc sx L K0 R0 11 [(0, 1, .iconst (-1), []), (1, 1, .istore_n 1, []), (2, 1, .iconst 0, []), (3, 1, .istore_n 2, [])] 1 [vR (c0 + 2), vU, vU, vU] [] M Q
  simp only [w_iconst, w_is_1 (c2R _), w_is_2 (c2I _), w_fall, true_and, and_true, true_or, or_true]
  exact h
theorem b_11_1 {sx : Int → Int} {L : Nat} {c0 : Nat} {x1 : Int} {x2 : Int} {u3 : AV} {M : Mem} {Q : Option AV → Mem → Prop} (h0 : isCk c0) (hu3 : cat2 u3 = false)
    (h : (M c0 6 ≤ x2 → Rn sx L K0 R0 11 3 [vR (c0 + 2), vI x1, vI x2, u3] [] M Q) ∧ (¬ (M c0 6 ≤ x2) → Mq sx L K0 R0 8 [vR (c0 + 2), vI x2] M (fun rv M1 => ∃ r1, rv = some (vI r1) ∧ ((r1 = (-1 : Int) → Rn sx L K0 R0 11 2 [vR (c0 + 2), vI x1, vI x2, vI r1] [] M1 Q) ∧ (¬ (r1 = (-1 : Int)) → Mq sx L K0 R0 2 [vR (c0 + 2), vI x2] M1 (fun rv M2 => ∃ r2, rv = some (vI r2) ∧ (inR (r1 - r2) ∧ (Rn sx L K0 R0 11 2 [vR (c0 + 2), vI (max x1 (r1 - r2)), vI x2, vI r1] [] M2 Q)))))))) : Rn sx L K0 R0 11 1 [vR (c0 + 2), vI x1, vI x2, u3] [] M Q := by
  refine Rn_w (by decide) ?_
  show wpc sx L K0 R0 11 [(4, 1, .iload_n 2, []), (5, 1, .aload_n 0, []), (6, 3, .getfield 35, [0, 6, 387]), (9, 3, .if_icmp .ge 32, [3]), (12, 1, .aload_n 0, []), (13, 1, .iload_n 2, []), (14, 3, .invokevirtual 84, [8, 864, 1]), (17, 1, .istore_n 3, []), (18, 1, .iload_n 3, []), (19, 1, .iconst (-1), []), (20, 3, .if_icmp .eq 15, [2]), (23, 1, .iload_n 1, []), (24, 1, .iload_n 3, []), (25, 1, .aload_n 0, []), (26, 1, .iload_n 2, []), (27, 3, .invokevirtual 58, [2, 756, 1]), (30, 1, .isub, []), (31, 3, .invokestatic 87, [1002, 873]), (34, 1, .istore_n 1, [])] 2 [vR (c0 + 2), vI x1, vI x2, u3] [] M Q
  simp only [w_il_2, w_al_0, w_gf_0_6, kin_T (kck h0), w_ic_ge, w_ivv_1 (c2I _) cs0, mk_8, rk_8, rvk1, List.cons_append, List.nil_append, w_is_3 (c2I _), w_il_3, w_iconst, w_ic_eq, w_il_1, w_ivv_1 (c2I _) (cs2 _ _), mk_2, rk_2, w_isub, w_max cs0, w_is_1 (c2R _), w_fall, true_and, and_true, true_or, or_true]
  exact h
theorem b_11_2 {sx : Int → Int} {L : Nat} {c0 : Nat} {x1 : Int} {x2 : Int} {x3 : Int} {M : Mem} {Q : Option AV → Mem → Prop} (h0 : isCk c0)
    (h : inR (x2 + 1) ∧ (Rn sx L K0 R0 11 1 [vR (c0 + 2), vI x1, vI (x2 + 1), vI x3] [] M Q)) : Rn sx L K0 R0 11 2 [vR (c0 + 2), vI x1, vI x2, vI x3] [] M Q := by
  refine Rn_w (by decide) ?_
  show wpc sx L K0 R0 11 [(35, 3, .iinc 2 1, []), (38, 3, .goto (-34), [1])] 0 [vR (c0 + 2), vI x1, vI x2, vI x3] [] M Q
  simp only [w_inc_2 (c2I _), w_goto, true_and, and_true, true_or, or_true]
  exact h
theorem b_11_3 {sx : Int → Int} {L : Nat} {c0 : Nat} {x1 : Int} {x2 : Int} {u3 : AV} {M : Mem} {Q : Option AV → Mem → Prop} (h0 : isCk c0) (hu3 : cat2 u3 = false)
    (h : Q (some (vI x1)) M) : Rn sx L K0 R0 11 3 [vR (c0 + 2), vI x1, vI x2, u3] [] M Q := by
  refine Rn_w (by decide) ?_
  show wpc sx L K0 R0 11 [(41, 1, .iload_n 1, []), (42, 1, .ireturn, [])] 0 [vR (c0 + 2), vI x1, vI x2, u3] [] M Q
  simp only [w_il_1, w_ret1 rk_11, true_and, and_true, true_or, or_true]
  exact h
theorem b_12_0 {sx : Int → Int} {L : Nat} {c0 : Nat} {x1 : Int} {M : Mem} {Q : Option AV → Mem → Prop} (h0 : isCk c0)
    (h : (¬ M c0 8 = (-1 : Int) → Rn sx L K0 R0 12 1 [vR (c0 + 2), vI x1, vU] [] M Q) ∧ (¬ (¬ M c0 8 = (-1 : Int)) → Rn sx L K0 R0 12 2 [vR (c0 + 2), vI x1, vU] [vI (M c0 7)] M Q)) : Rn sx L K0 R0 12 0 [vR (c0 + 2), vI x1, vU] [] M Q := by
  refine Rn_w (by decide) ?_
  show wpc sx L K0 R0 12 [(0, 1, .aload_n 0, []), (1, 3, .getfield 15, [0, 8, 390]), (4, 1, .iconst (-1), []), (5, 3, .if_icmp .ne 10, [1]), (8, 1, .aload_n 0, []), (9, 3, .getfield 38, [0, 7, 389]), (12, 3, .goto 7, [2])] 0 [vR (c0 + 2), vI x1, vU] [] M Q
  simp only [w_al_0, w_gf_0_8, kin_T (kck h0), w_iconst, w_ic_ne, w_gf_0_7, w_goto, true_and, and_true, true_or, or_true]
  exact h
theorem b_12_1 {sx : Int → Int} {L : Nat} {c0 : Nat} {x1 : Int} {M : Mem} {Q : Option AV → Mem → Prop} (h0 : isCk c0)
    (h : Rn sx L K0 R0 12 2 [vR (c0 + 2), vI x1, vU] [vI (M c0 8)] M Q) : Rn sx L K0 R0 12 1 [vR (c0 + 2), vI x1, vU] [] M Q := by
  refine Rn_w (by decide) ?_
  show wpc sx L K0 R0 12 [(15, 1, .aload_n 0, []), (16, 3, .getfield 15, [0, 8, 390])] 2 [vR (c0 + 2), vI x1, vU] [] M Q
  simp only [w_al_0, w_gf_0_8, kin_T (kck h0), w_fall, true_and, and_true, true_or, or_true]
  exact h
theorem b_12_2 {sx : Int → Int} {L : Nat} {c0 : Nat} {x1 : Int} {y0 : Int} {M : Mem} {Q : Option AV → Mem → Prop} (h0 : isCk c0)
    (h : (M c0 6 ≤ y0 → Rn sx L K0 R0 12 3 [vR (c0 + 2), vI x1, vI y0] [] M Q) ∧ (¬ (M c0 6 ≤ y0) → Mq sx L K0 R0 3 [vR (c0 + 2), vI y0] M (fun rv M1 => ∃ r1, rv = some (vI r1) ∧ ((x1 < r1 → Rn sx L K0 R0 12 3 [vR (c0 + 2), vI x1, vI y0] [] M1 Q) ∧ (¬ (x1 < r1) → Rn sx L K0 R0 12 4 [vR (c0 + 2), vI x1, vI y0] [vI 1] M1 Q))))) : Rn sx L K0 R0 12 2 [vR (c0 + 2), vI x1, vU] [vI y0] M Q := by
  refine Rn_w (by decide) ?_
  show wpc sx L K0 R0 12 [(19, 1, .istore_n 2, []), (20, 1, .iload_n 2, []), (21, 1, .aload_n 0, []), (22, 3, .getfield 35, [0, 6, 387]), (25, 3, .if_icmp .ge 16, [3]), (28, 1, .aload_n 0, []), (29, 1, .iload_n 2, []), (30, 3, .invokevirtual 62, [3, 760, 1]), (33, 1, .iload_n 1, []), (34, 3, .if_icmp .gt 7, [3]), (37, 1, .iconst 1, []), (38, 3, .goto 4, [4])] 0 [vR (c0 + 2), vI x1, vU] [vI y0] M Q
  simp only [w_is_2 (c2I _), w_il_2, w_al_0, w_gf_0_6, kin_T (kck h0), w_ic_ge, w_ivv_1 (c2I _) cs0, mk_3, rk_3, rvk1, List.cons_append, List.nil_append, w_il_1, w_ic_gt, w_iconst, w_goto, true_and, and_true, true_or, or_true]
  exact h
theorem b_12_3 {sx : Int → Int} {L : Nat} {c0 : Nat} {x1 : Int} {x2 : Int} {M : Mem} {Q : Option AV → Mem → Prop} (h0 : isCk c0)
    (h : Rn sx L K0 R0 12 4 [vR (c0 + 2), vI x1, vI x2] [vI 0] M Q) : Rn sx L K0 R0 12 3 [vR (c0 + 2), vI x1, vI x2] [] M Q := by
  refine Rn_w (by decide) ?_
  show wpc sx L K0 R0 12 [(41, 1, .iconst 0, [])] 4 [vR (c0 + 2), vI x1, vI x2] [] M Q
  simp only [w_iconst, w_fall, true_and, and_true, true_or, or_true]
  exact h
theorem b_12_4 {sx : Int → Int} {L : Nat} {c0 : Nat} {x1 : Int} {x2 : Int} {y0 : Int} {M : Mem} {Q : Option AV → Mem → Prop} (h0 : isCk c0)
    (h : (y0 = 0 ∨ y0 = 1) ∧ (Q (some (vI y0)) M)) : Rn sx L K0 R0 12 4 [vR (c0 + 2), vI x1, vI x2] [vI y0] M Q := by
  refine Rn_w (by decide) ?_
  show wpc sx L K0 R0 12 [(42, 1, .ireturn, [])] 0 [vR (c0 + 2), vI x1, vI x2] [vI y0] M Q
  simp only [w_ret2 rk_12, true_and, and_true, true_or, or_true]
  exact h
theorem b_14_0 {sx : Int → Int} {L : Nat} {c0 : Nat} {x1 : Int} {M : Mem} {Q : Option AV → Mem → Prop} (h0 : isPl c0)
    (h : (M c0 1 < (0 : Int) → Rn sx L K0 R0 14 1 [vR (c0 + 2), vI x1] [] M Q) ∧ (¬ (M c0 1 < (0 : Int)) → ((60 : Int) ≤ M c0 1 → Rn sx L K0 R0 14 1 [vR (c0 + 2), vI x1] [] M Q) ∧ (¬ ((60 : Int) ≤ M c0 1) → ((0 : Int) ≤ M c0 1 ∧ M c0 1 < (60 : Int)) ∧ (inR (((mset M (c0 + 1) (M c0 1) x1) c0 1) + 1) ∧ (Rn sx L K0 R0 14 1 [vR (c0 + 2), vI x1] [] (mset (mset M (c0 + 1) (M c0 1) x1) c0 1 (((mset M (c0 + 1) (M c0 1) x1) c0 1) + 1)) Q))))) : Rn sx L K0 R0 14 0 [vR (c0 + 2), vI x1] [] M Q := by
  refine Rn_w (by decide) ?_
  show wpc sx L K0 R0 14 [(0, 1, .aload_n 0, []), (1, 3, .getfield 21, [1, 1, 269]), (4, 3, .ifCond .lt 32, [1]), (7, 1, .aload_n 0, []), (8, 3, .getfield 21, [1, 1, 269]), (11, 2, .bipush 60, []), (13, 3, .if_icmp .ge 23, [1]), (16, 1, .aload_n 0, []), (17, 3, .getfield 9, [1, 0, 268]), (20, 1, .aload_n 0, []), (21, 3, .getfield 21, [1, 1, 269]), (24, 1, .iload_n 1, []), (25, 1, .iastore, []), (26, 1, .aload_n 0, []), (27, 1, .dup, []), (28, 3, .getfield 21, [1, 1, 269]), (31, 1, .iconst 1, []), (32, 1, .iadd, []), (33, 3, .putfield 21, [1, 1, 269])] 1 [vR (c0 + 2), vI x1] [] M Q
  simp only [w_al_0, w_gf_1_1, kin_T (kpl h0), w_if_lt, w_bipush, w_ic_ge, w_gf_1_0, rpl0 h0, w_il_1, w_iast, arr_T ((kpl1 h0)), w_dup (c2R _), w_iconst, w_iadd, w_pf_1_1, w_fall, true_and, and_true, true_or, or_true]
  exact h
theorem b_14_1 {sx : Int → Int} {L : Nat} {c0 : Nat} {x1 : Int} {M : Mem} {Q : Option AV → Mem → Prop} (h0 : isPl c0)
    (h : Q none M) : Rn sx L K0 R0 14 1 [vR (c0 + 2), vI x1] [] M Q := by
  refine Rn_w (by decide) ?_
  show wpc sx L K0 R0 14 [(36, 1, .return_, [])] 0 [vR (c0 + 2), vI x1] [] M Q
  simp only [w_ret0 rk_14, true_and, and_true, true_or, or_true]
  exact h
set_option maxRecDepth 8192 in
theorem b_15_0 {sx : Int → Int} {L : Nat} {c0 : Nat} {x1 : Int} {M : Mem} {Q : Option AV → Mem → Prop} (h0 : isPl c0)
    (h : Mq sx L K0 R0 16 [vR (c0 + 2)] (mset (mset M c0 2 0) c0 3 (-1)) (fun rv M1 => rv = none ∧ (Mq sx L K0 R0 20 [vR (c0 + 2), vI 112, vI 1, vI 60] M1 (fun rv M2 => ∃ r1, rv = some (vI r1) ∧ (Mq sx L K0 R0 19 [vR (c0 + 2), vI 44] (mset M2 c0 4 r1) (fun rv M3 => rv = none ∧ (Mq sx L K0 R0 20 [vR (c0 + 2), vI 100, vI 1, vI 99] M3 (fun rv M4 => ∃ r2, rv = some (vI r2) ∧ (Mq sx L K0 R0 19 [vR (c0 + 2), vI 44] (mset M4 c0 5 r2) (fun rv M5 => rv = none ∧ (Mq sx L K0 R0 20 [vR (c0 + 2), vI 111, vI 0, vI 99] M5 (fun rv M6 => ∃ r3, rv = some (vI r3) ∧ (Mq sx L K0 R0 19 [vR (c0 + 2), vI 58] (mset M6 c0 6 r3) (fun rv M7 => rv = none ∧ (Mq sx L K0 R0 21 [vR (c0 + 2), vI x1] M7 (fun rv M8 => rv = none ∧ (Rn sx L K0 R0 15 1 [vR (c0 + 2), vI x1, vI 1] [] M8 Q))))))))))))))))) : Rn sx L K0 R0 15 0 [vR (c0 + 2), vI x1, vU] [] M Q := by
  refine Rn_w (by decide) ?_
  show wpc sx L K0 R0 15 [(0, 1, .aload_n 0, []), (1, 1, .iconst 0, []), (2, 3, .putfield 25, [1, 2, 271]), (5, 1, .aload_n 0, []), (6, 1, .iconst (-1), []), (7, 3, .putfield 28, [1, 3, 272]), (10, 1, .aload_n 0, []), (11, 3, .invokevirtual 31, [16, 613, 0]), (14, 1, .aload_n 0, []), (15, 1, .aload_n 0, []), (16, 2, .bipush 112, []), (18, 1, .iconst 1, []), (19, 2, .bipush 60, []), (21, 3, .invokevirtual 34, [20, 617, 3]), (24, 3, .putfield 38, [1, 4, 275]), (27, 1, .aload_n 0, []), (28, 2, .bipush 44, []), (30, 3, .invokevirtual 41, [19, 621, 1]), (33, 1, .aload_n 0, []), (34, 1, .aload_n 0, []), (35, 2, .bipush 100, []), (37, 1, .iconst 1, []), (38, 2, .bipush 99, []), (40, 3, .invokevirtual 34, [20, 617, 3]), (43, 3, .putfield 45, [1, 5, 278]), (46, 1, .aload_n 0, []), (47, 2, .bipush 44, []), (49, 3, .invokevirtual 41, [19, 621, 1]), (52, 1, .aload_n 0, []), (53, 1, .aload_n 0, []), (54, 2, .bipush 111, []), (56, 1, .iconst 0, []), (57, 2, .bipush 99, []), (59, 3, .invokevirtual 34, [20, 617, 3]), (62, 3, .putfield 48, [1, 6, 281]), (65, 1, .aload_n 0, []), (66, 2, .bipush 58, []), (68, 3, .invokevirtual 41, [19, 621, 1]), (71, 1, .aload_n 0, []), (72, 1, .iload_n 1, []), (73, 3, .invokevirtual 51, [21, 633, 1]), (76, 1, .iconst 1, []), (77, 1, .istore_n 2, [])] 1 [vR (c0 + 2), vI x1, vU] [] M Q
  simp only [w_al_0, w_iconst, w_pf_1_2, kin_T (kpl h0), w_pf_1_3, w_ivv_0  cs0, mk_16, rk_16, rvk0, List.nil_append, w_bipush, w_ivv_3 (c2I _) (c2I _) (c2I _) (cs1 _), mk_20, rk_20, rvk1, List.cons_append, w_pf_1_4, w_ivv_1 (c2I _) cs0, mk_19, rk_19, w_pf_1_5, w_pf_1_6, w_il_1, mk_21, rk_21, w_is_2 (c2I _), w_fall, true_and, and_true, true_or, or_true]
  exact h
theorem b_15_1 {sx : Int → Int} {L : Nat} {c0 : Nat} {x1 : Int} {x2 : Int} {M : Mem} {Q : Option AV → Mem → Prop} (h0 : isPl c0)
    (h : ((20 : Int) ≤ x2 → Rn sx L K0 R0 15 2 [vR (c0 + 2), vI x1, vI x2] [] M Q) ∧ (¬ ((20 : Int) ≤ x2) → (¬ M c0 3 = (-1 : Int) → Rn sx L K0 R0 15 2 [vR (c0 + 2), vI x1, vI x2] [] M Q) ∧ (¬ (¬ M c0 3 = (-1 : Int)) → (M c0 1 ≤ M c0 2 → Rn sx L K0 R0 15 2 [vR (c0 + 2), vI x1, vI x2] [] M Q) ∧ (¬ (M c0 1 ≤ M c0 2) → Mq sx L K0 R0 19 [vR (c0 + 2), vI 44] M (fun rv M1 => rv = none ∧ (Mq sx L K0 R0 21 [vR (c0 + 2), vI x1] M1 (fun rv M2 => rv = none ∧ (inR (x2 + 1) ∧ (Rn sx L K0 R0 15 1 [vR (c0 + 2), vI x1, vI (x2 + 1)] [] M2 Q))))))))) : Rn sx L K0 R0 15 1 [vR (c0 + 2), vI x1, vI x2] [] M Q := by
  refine Rn_w (by decide) ?_
  show wpc sx L K0 R0 15 [(78, 1, .iload_n 2, []), (79, 2, .bipush 20, []), (81, 3, .if_icmp .ge 39, [2]), (84, 1, .aload_n 0, []), (85, 3, .getfield 28, [1, 3, 272]), (88, 1, .iconst (-1), []), (89, 3, .if_icmp .ne 31, [2]), (92, 1, .aload_n 0, []), (93, 3, .getfield 25, [1, 2, 271]), (96, 1, .aload_n 0, []), (97, 3, .getfield 21, [1, 1, 269]), (100, 3, .if_icmp .ge 20, [2]), (103, 1, .aload_n 0, []), (104, 2, .bipush 44, []), (106, 3, .invokevirtual 41, [19, 621, 1]), (109, 1, .aload_n 0, []), (110, 1, .iload_n 1, []), (111, 3, .invokevirtual 51, [21, 633, 1]), (114, 3, .iinc 2 1, []), (117, 3, .goto (-39), [1])] 0 [vR (c0 + 2), vI x1, vI x2] [] M Q
  simp only [w_il_2, w_bipush, w_ic_ge, w_al_0, w_gf_1_3, kin_T (kpl h0), w_iconst, w_ic_ne, w_gf_1_2, w_gf_1_1, w_ivv_1 (c2I _) cs0, mk_19, rk_19, rvk0, List.nil_append, w_il_1, mk_21, rk_21, w_inc_2 (c2I _), w_goto, true_and, and_true, true_or, or_true]
  exact h
theorem b_15_2 {sx : Int → Int} {L : Nat} {c0 : Nat} {x1 : Int} {x2 : Int} {M : Mem} {Q : Option AV → Mem → Prop} (h0 : isPl c0)
    (h : (¬ M c0 3 = (-1 : Int) → Rn sx L K0 R0 15 3 [vR (c0 + 2), vI x1, vI x2] [] M Q) ∧ (¬ (¬ M c0 3 = (-1 : Int)) → (¬ M c0 10 = (0 : Int) → Rn sx L K0 R0 15 3 [vR (c0 + 2), vI x1, vI x2] [] M Q) ∧ (¬ (¬ M c0 10 = (0 : Int)) → Rn sx L K0 R0 15 3 [vR (c0 + 2), vI x1, vI x2] [] (mset M c0 3 (M c0 1)) Q))) : Rn sx L K0 R0 15 2 [vR (c0 + 2), vI x1, vI x2] [] M Q := by
  refine Rn_w (by decide) ?_
  show wpc sx L K0 R0 15 [(120, 1, .aload_n 0, []), (121, 3, .getfield 28, [1, 3, 272]), (124, 1, .iconst (-1), []), (125, 3, .if_icmp .ne 18, [3]), (128, 1, .aload_n 0, []), (129, 3, .getfield 55, [1, 10, 290]), (132, 3, .ifCond .ne 11, [3]), (135, 1, .aload_n 0, []), (136, 1, .aload_n 0, []), (137, 3, .getfield 21, [1, 1, 269]), (140, 3, .putfield 28, [1, 3, 272])] 3 [vR (c0 + 2), vI x1, vI x2] [] M Q
  simp only [w_al_0, w_gf_1_3, kin_T (kpl h0), w_iconst, w_ic_ne, w_gf_1_10, w_if_ne, w_gf_1_1, w_pf_1_3, w_fall, true_and, and_true, true_or, or_true]
  exact h
theorem b_15_3 {sx : Int → Int} {L : Nat} {c0 : Nat} {x1 : Int} {x2 : Int} {M : Mem} {Q : Option AV → Mem → Prop} (h0 : isPl c0)
    (h : (M c0 3 = (-1 : Int) → Rn sx L K0 R0 15 4 [vR (c0 + 2), vI x1, vI x2] [] M Q) ∧ (¬ (M c0 3 = (-1 : Int)) → Mq sx L K0 R0 16 [vR (c0 + 2)] M (fun rv M1 => rv = none ∧ (Rn sx L K0 R0 15 4 [vR (c0 + 2), vI x1, vI x2] [] M1 Q)))) : Rn sx L K0 R0 15 3 [vR (c0 + 2), vI x1, vI x2] [] M Q := by
  refine Rn_w (by decide) ?_
  show wpc sx L K0 R0 15 [(143, 1, .aload_n 0, []), (144, 3, .getfield 28, [1, 3, 272]), (147, 1, .iconst (-1), []), (148, 3, .if_icmp .eq 7, [4]), (151, 1, .aload_n 0, []), (152, 3, .invokevirtual 31, [16, 613, 0])] 4 [vR (c0 + 2), vI x1, vI x2] [] M Q
  simp only [w_al_0, w_gf_1_3, kin_T (kpl h0), w_iconst, w_ic_eq, w_ivv_0  cs0, mk_16, rk_16, rvk0, List.nil_append, w_fall, true_and, and_true, true_or, or_true]
  exact h
theorem b_15_4 {sx : Int → Int} {L : Nat} {c0 : Nat} {x1 : Int} {x2 : Int} {M : Mem} {Q : Option AV → Mem → Prop} (h0 : isPl c0)
    (h : Q none M) : Rn sx L K0 R0 15 4 [vR (c0 + 2), vI x1, vI x2] [] M Q := by
  refine Rn_w (by decide) ?_
  show wpc sx L K0 R0 15 [(155, 1, .return_, [])] 0 [vR (c0 + 2), vI x1, vI x2] [] M Q
  simp only [w_ret0 rk_15, true_and, and_true, true_or, or_true]
  exact h
theorem b_16_0 {sx : Int → Int} {L : Nat} {c0 : Nat} {M : Mem} {Q : Option AV → Mem → Prop} (h0 : isPl c0)
    (h : Q none (mset (mset (mset (mset M c0 9 0) c0 10 0) c0 11 0) c0 12 0)) : Rn sx L K0 R0 16 0 [vR (c0 + 2)] [] M Q := by
  refine Rn_w (by decide) ?_
  show wpc sx L K0 R0 16 [(0, 1, .aload_n 0, []), (1, 1, .iconst 0, []), (2, 3, .putfield 58, [1, 9, 286]), (5, 1, .aload_n 0, []), (6, 1, .iconst 0, []), (7, 3, .putfield 55, [1, 10, 290]), (10, 1, .aload_n 0, []), (11, 1, .iconst 0, []), (12, 3, .putfield 61, [1, 11, 293]), (15, 1, .aload_n 0, []), (16, 1, .iconst 0, []), (17, 3, .putfield 64, [1, 12, 296]), (20, 1, .return_, [])] 0 [vR (c0 + 2)] [] M Q
  simp only [w_al_0, w_iconst, w_pf_1_9, kin_T (kpl h0), w_pf_1_10, w_pf_1_11, w_pf_1_12, w_ret0 rk_16, true_and, and_true, true_or, or_true]
  exact h
theorem b_17_0 {sx : Int → Int} {L : Nat} {c0 : Nat} {x1 : Int} {M : Mem} {Q : Option AV → Mem → Prop} (h0 : isPl c0)
    (h : (x1 < (0 : Int) → Rn sx L K0 R0 17 1 [vR (c0 + 2), vI x1] [] M Q) ∧ (¬ (x1 < (0 : Int)) → (M c0 1 ≤ x1 → Rn sx L K0 R0 17 1 [vR (c0 + 2), vI x1] [] M Q) ∧ (¬ (M c0 1 ≤ x1) → ((60 : Int) ≤ x1 → Rn sx L K0 R0 17 1 [vR (c0 + 2), vI x1] [] M Q) ∧ (¬ ((60 : Int) ≤ x1) → ((0 : Int) ≤ x1 ∧ x1 < (60 : Int)) ∧ (Rn sx L K0 R0 17 2 [vR (c0 + 2), vI x1] [vI (M (c0 + 1) x1)] M Q))))) : Rn sx L K0 R0 17 0 [vR (c0 + 2), vI x1] [] M Q := by
  refine Rn_w (by decide) ?_
  show wpc sx L K0 R0 17 [(0, 1, .iload_n 1, []), (1, 3, .ifCond .lt 26, [1]), (4, 1, .iload_n 1, []), (5, 1, .aload_n 0, []), (6, 3, .getfield 21, [1, 1, 269]), (9, 3, .if_icmp .ge 18, [1]), (12, 1, .iload_n 1, []), (13, 2, .bipush 60, []), (15, 3, .if_icmp .ge 12, [1]), (18, 1, .aload_n 0, []), (19, 3, .getfield 9, [1, 0, 268]), (22, 1, .iload_n 1, []), (23, 1, .iaload, []), (24, 3, .goto 4, [2])] 0 [vR (c0 + 2), vI x1] [] M Q
  simp only [w_il_1, w_if_lt, w_al_0, w_gf_1_1, kin_T (kpl h0), w_ic_ge, w_bipush, w_gf_1_0, rpl0 h0, w_iald, arr_T ((kpl1 h0)), w_goto, true_and, and_true, true_or, or_true]
  exact h
theorem b_17_1 {sx : Int → Int} {L : Nat} {c0 : Nat} {x1 : Int} {M : Mem} {Q : Option AV → Mem → Prop} (h0 : isPl c0)
    (h : Rn sx L K0 R0 17 2 [vR (c0 + 2), vI x1] [vI (-1)] M Q) : Rn sx L K0 R0 17 1 [vR (c0 + 2), vI x1] [] M Q := by
  refine Rn_w (by decide) ?_
  show wpc sx L K0 R0 17 [(27, 1, .iconst (-1), [])] 2 [vR (c0 + 2), vI x1] [] M Q
  simp only [w_iconst, w_fall, true_and, and_true, true_or, or_true]
  exact h
theorem b_17_2 {sx : Int → Int} {L : Nat} {c0 : Nat} {x1 : Int} {y0 : Int} {M : Mem} {Q : Option AV → Mem → Prop} (h0 : isPl c0)
    (h : Q (some (vI y0)) M) : Rn sx L K0 R0 17 2 [vR (c0 + 2), vI x1] [vI y0] M Q := by
  refine Rn_w (by decide) ?_
  show wpc sx L K0 R0 17 [(28, 1, .ireturn, [])] 0 [vR (c0 + 2), vI x1] [vI y0] M Q
  simp only [w_ret1 rk_17, true_and, and_true, true_or, or_true]
  exact h
theorem b_18_0 {sx : Int → Int} {L : Nat} {c0 : Nat} {x1 : Int} {M : Mem} {Q : Option AV → Mem → Prop} (h0 : isPl c0)
    (h : Mq sx L K0 R0 17 [vR (c0 + 2), vI x1] M (fun rv M1 => ∃ r1, rv = some (vI r1) ∧ ((r1 < (48 : Int) → Rn sx L K0 R0 18 1 [vR (c0 + 2), vI x1, vI r1] [] M1 Q) ∧ (¬ (r1 < (48 : Int)) → ((57 : Int) < r1 → Rn sx L K0 R0 18 1 [vR (c0 + 2), vI x1, vI r1] [] M1 Q) ∧ (¬ ((57 : Int) < r1) → inR (r1 - 48) ∧ (Rn sx L K0 R0 18 2 [vR (c0 + 2), vI x1, vI r1] [vI (r1 - 48)] M1 Q)))))) : Rn sx L K0 R0 18 0 [vR (c0 + 2), vI x1, vU] [] M Q := by
  refine Rn_w (by decide) ?_
  show wpc sx L K0 R0 18 [(0, 1, .aload_n 0, []), (1, 1, .iload_n 1, []), (2, 3, .invokevirtual 67, [17, 625, 1]), (5, 1, .istore_n 2, []), (6, 1, .iload_n 2, []), (7, 2, .bipush 48, []), (9, 3, .if_icmp .lt 16, [1]), (12, 1, .iload_n 2, []), (13, 2, .bipush 57, []), (15, 3, .if_icmp .gt 10, [1]), (18, 1, .iload_n 2, []), (19, 2, .bipush 48, []), (21, 1, .isub, []), (22, 3, .goto 4, [2])] 0 [vR (c0 + 2), vI x1, vU] [] M Q
  simp only [w_al_0, w_il_1, w_ivv_1 (c2I _) cs0, mk_17, kin_T (kpl h0), rk_17, rvk1, List.cons_append, List.nil_append, w_is_2 (c2I _), w_il_2, w_bipush, w_ic_lt, w_ic_gt, w_isub, w_goto, true_and, and_true, true_or, or_true]
  exact h
theorem b_18_1 {sx : Int → Int} {L : Nat} {c0 : Nat} {x1 : Int} {x2 : Int} {M : Mem} {Q : Option AV → Mem → Prop} (h0 : isPl c0)
    (h : Rn sx L K0 R0 18 2 [vR (c0 + 2), vI x1, vI x2] [vI (-1)] M Q) : Rn sx L K0 R0 18 1 [vR (c0 + 2), vI x1, vI x2] [] M Q := by
  refine Rn_w (by decide) ?_
  show wpc sx L K0 R0 18 [(25, 1, .iconst (-1), [])] 2 [vR (c0 + 2), vI x1, vI x2] [] M Q
  simp only [w_iconst, w_fall, true_and, and_true, true_or, or_true]
  exact h
theorem b_18_2 {sx : Int → Int} {L : Nat} {c0 : Nat} {x1 : Int} {x2 : Int} {y0 : Int} {M : Mem} {Q : Option AV → Mem → Prop} (h0 : isPl c0)
    (h : Q (some (vI y0)) M) : Rn sx L K0 R0 18 2 [vR (c0 + 2), vI x1, vI x2] [vI y0] M Q := by
  refine Rn_w (by decide) ?_
  show wpc sx L K0 R0 18 [(26, 1, .ireturn, [])] 0 [vR (c0 + 2), vI x1, vI x2] [vI y0] M Q
  simp only [w_ret1 rk_18, true_and, and_true, true_or, or_true]
  exact h
theorem b_19_0 {sx : Int → Int} {L : Nat} {c0 : Nat} {x1 : Int} {M : Mem} {Q : Option AV → Mem → Prop} (h0 : isPl c0)
    (h : (M c0 3 = (-1 : Int) → Rn sx L K0 R0 19 1 [vR (c0 + 2), vI x1] [] M Q) ∧ (¬ (M c0 3 = (-1 : Int)) → Q none M)) : Rn sx L K0 R0 19 0 [vR (c0 + 2), vI x1] [] M Q := by
  refine Rn_w (by decide) ?_
  show wpc sx L K0 R0 19 [(0, 1, .aload_n 0, []), (1, 3, .getfield 28, [1, 3, 272]), (4, 1, .iconst (-1), []), (5, 3, .if_icmp .eq 4, [1]), (8, 1, .return_, [])] 0 [vR (c0 + 2), vI x1] [] M Q
  simp only [w_al_0, w_gf_1_3, kin_T (kpl h0), w_iconst, w_ic_eq, w_ret0 rk_19, true_and, and_true, true_or, or_true]
  exact h
theorem b_19_1 {sx : Int → Int} {L : Nat} {c0 : Nat} {x1 : Int} {M : Mem} {Q : Option AV → Mem → Prop} (h0 : isPl c0)
    (h : Mq sx L K0 R0 17 [vR (c0 + 2), vI (M c0 2)] M (fun rv M1 => ∃ r1, rv = some (vI r1) ∧ ((¬ r1 = x1 → Rn sx L K0 R0 19 2 [vR (c0 + 2), vI x1] [] M1 Q) ∧ (¬ (¬ r1 = x1) → inR ((M1 c0 2) + 1) ∧ (Rn sx L K0 R0 19 3 [vR (c0 + 2), vI x1] [] (mset M1 c0 2 ((M1 c0 2) + 1)) Q))))) : Rn sx L K0 R0 19 1 [vR (c0 + 2), vI x1] [] M Q := by
  refine Rn_w (by decide) ?_
  show wpc sx L K0 R0 19 [(9, 1, .aload_n 0, []), (10, 1, .aload_n 0, []), (11, 3, .getfield 25, [1, 2, 271]), (14, 3, .invokevirtual 67, [17, 625, 1]), (17, 1, .iload_n 1, []), (18, 3, .if_icmp .ne 16, [2]), (21, 1, .aload_n 0, []), (22, 1, .dup, []), (23, 3, .getfield 25, [1, 2, 271]), (26, 1, .iconst 1, []), (27, 1, .iadd, []), (28, 3, .putfield 25, [1, 2, 271]), (31, 3, .goto 11, [3])] 0 [vR (c0 + 2), vI x1] [] M Q
  simp only [w_al_0, w_gf_1_2, kin_T (kpl h0), w_ivv_1 (c2I _) cs0, mk_17, rk_17, rvk1, List.cons_append, List.nil_append, w_il_1, w_ic_ne, w_dup (c2R _), w_iconst, w_iadd, w_pf_1_2, w_goto, true_and, and_true, true_or, or_true]
  exact h
theorem b_19_2 {sx : Int → Int} {L : Nat} {c0 : Nat} {x1 : Int} {M : Mem} {Q : Option AV → Mem → Prop} (h0 : isPl c0)
    (h : Rn sx L K0 R0 19 3 [vR (c0 + 2), vI x1] [] (mset M c0 3 (M c0 2)) Q) : Rn sx L K0 R0 19 2 [vR (c0 + 2), vI x1] [] M Q := by
  refine Rn_w (by decide) ?_
  show wpc sx L K0 R0 19 [(34, 1, .aload_n 0, []), (35, 1, .aload_n 0, []), (36, 3, .getfield 25, [1, 2, 271]), (39, 3, .putfield 28, [1, 3, 272])] 3 [vR (c0 + 2), vI x1] [] M Q
  simp only [w_al_0, w_gf_1_2, kin_T (kpl h0), w_pf_1_3, w_fall, true_and, and_true, true_or, or_true]
  exact h
theorem b_19_3 {sx : Int → Int} {L : Nat} {c0 : Nat} {x1 : Int} {M : Mem} {Q : Option AV → Mem → Prop} (h0 : isPl c0)
    (h : Q none M) : Rn sx L K0 R0 19 3 [vR (c0 + 2), vI x1] [] M Q := by
  refine Rn_w (by decide) ?_
  show wpc sx L K0 R0 19 [(42, 1, .return_, [])] 0 [vR (c0 + 2), vI x1] [] M Q
  simp only [w_ret0 rk_19, true_and, and_true, true_or, or_true]
  exact h
theorem b_20_0 {sx : Int → Int} {L : Nat} {c0 : Nat} {x1 : Int} {x2 : Int} {x3 : Int} {M : Mem} {Q : Option AV → Mem → Prop} (h0 : isPl c0)
    (h : Mq sx L K0 R0 19 [vR (c0 + 2), vI x1] M (fun rv M1 => rv = none ∧ ((M1 c0 3 = (-1 : Int) → Rn sx L K0 R0 20 1 [vR (c0 + 2), vI x1, vI x2, vI x3, vU, vU, vU] [] M1 Q) ∧ (¬ (M1 c0 3 = (-1 : Int)) → Q (some (vI 0)) M1)))) : Rn sx L K0 R0 20 0 [vR (c0 + 2), vI x1, vI x2, vI x3, vU, vU, vU] [] M Q := by
  refine Rn_w (by decide) ?_
  show wpc sx L K0 R0 20 [(0, 1, .aload_n 0, []), (1, 1, .iload_n 1, []), (2, 3, .invokevirtual 41, [19, 621, 1]), (5, 1, .aload_n 0, []), (6, 3, .getfield 28, [1, 3, 272]), (9, 1, .iconst (-1), []), (10, 3, .if_icmp .eq 5, [1]), (13, 1, .iconst 0, []), (14, 1, .ireturn, [])] 0 [vR (c0 + 2), vI x1, vI x2, vI x3, vU, vU, vU] [] M Q
  simp only [w_al_0, w_il_1, w_ivv_1 (c2I _) cs0, mk_19, kin_T (kpl h0), rk_19, rvk0, List.nil_append, w_gf_1_3, w_iconst, w_ic_eq, w_ret1 rk_20, true_and, and_true, true_or, or_true]
  exact h
theorem b_20_1 {sx : Int → Int} {L : Nat} {c0 : Nat} {x1 : Int} {x2 : Int} {x3 : Int} {M : Mem} {Q : Option AV → Mem → Prop} (h0 : isPl c0)
    (h : Rn sx L K0 R0 20 2 [vR (c0 + 2), vI x1, vI x2, vI x3, vI (M c0 2), vI 0, vI 0] [] M Q) : Rn sx L K0 R0 20 1 [vR (c0 + 2), vI x1, vI x2, vI x3, vU, vU, vU] [] M Q := by
  refine Rn_w (by decide) ?_
  show wpc sx L K0 R0 20 [(15, 1, .aload_n 0, []), (16, 3, .getfield 25, [1, 2, 271]), (19, 2, .istore 4, []), (21, 1, .iconst 0, []), (22, 2, .istore 5, []), (24, 1, .iconst 0, []), (25, 2, .istore 6, [])] 2 [vR (c0 + 2), vI x1, vI x2, vI x3, vU, vU, vU] [] M Q
  simp only [w_al_0, w_gf_1_2, kin_T (kpl h0), w_is_4 (c2I _), w_iconst, w_is_5 (c2I _), w_is_6 (c2I _), w_fall, true_and, and_true, true_or, or_true]
  exact h
set_option maxRecDepth 8192 in
theorem b_20_2 {sx : Int → Int} {L : Nat} {c0 : Nat} {x1 : Int} {x2 : Int} {x3 : Int} {x4 : Int} {x5 : Int} {x6 : Int} {M : Mem} {Q : Option AV → Mem → Prop} (h0 : isPl c0)
    (h : ((2 : Int) ≤ x6 → Rn sx L K0 R0 20 3 [vR (c0 + 2), vI x1, vI x2, vI x3, vI x4, vI x5, vI x6] [] M Q) ∧ (¬ ((2 : Int) ≤ x6) → Mq sx L K0 R0 18 [vR (c0 + 2), vI (M c0 2)] M (fun rv M1 => ∃ r1, rv = some (vI r1) ∧ ((r1 = (-1 : Int) → Rn sx L K0 R0 20 3 [vR (c0 + 2), vI x1, vI x2, vI x3, vI x4, vI x5, vI x6] [] M1 Q) ∧ (¬ (r1 = (-1 : Int)) → inR (x5 * 10) ∧ (Mq sx L K0 R0 18 [vR (c0 + 2), vI (M1 c0 2)] M1 (fun rv M2 => ∃ r2, rv = some (vI r2) ∧ (inR ((x5 * 10) + r2) ∧ (inR ((M2 c0 2) + 1) ∧ (inR (x6 + 1) ∧ (Rn sx L K0 R0 20 2 [vR (c0 + 2), vI x1, vI x2, vI x3, vI x4, vI ((x5 * 10) + r2), vI (x6 + 1)] [] (mset M2 c0 2 ((M2 c0 2) + 1)) Q))))))))))) : Rn sx L K0 R0 20 2 [vR (c0 + 2), vI x1, vI x2, vI x3, vI x4, vI x5, vI x6] [] M Q := by
  refine Rn_w (by decide) ?_
  show wpc sx L K0 R0 20 [(27, 2, .iload 6, []), (29, 1, .iconst 2, []), (30, 3, .if_icmp .ge 47, [3]), (33, 1, .aload_n 0, []), (34, 1, .aload_n 0, []), (35, 3, .getfield 25, [1, 2, 271]), (38, 3, .invokevirtual 71, [18, 629, 1]), (41, 1, .iconst (-1), []), (42, 3, .if_icmp .eq 35, [3]), (45, 2, .iload 5, []), (47, 2, .bipush 10, []), (49, 1, .imul, []), (50, 1, .aload_n 0, []), (51, 1, .aload_n 0, []), (52, 3, .getfield 25, [1, 2, 271]), (55, 3, .invokevirtual 71, [18, 629, 1]), (58, 1, .iadd, []), (59, 2, .istore 5, []), (61, 1, .aload_n 0, []), (62, 1, .dup, []), (63, 3, .getfield 25, [1, 2, 271]), (66, 1, .iconst 1, []), (67, 1, .iadd, []), (68, 3, .putfield 25, [1, 2, 271]), (71, 3, .iinc 6 1, []), (74, 3, .goto (-47), [2])] 0 [vR (c0 + 2), vI x1, vI x2, vI x3, vI x4, vI x5, vI x6] [] M Q
  simp only [w_il_6, w_iconst, w_ic_ge, w_al_0, w_gf_1_2, kin_T (kpl h0), w_ivv_1 (c2I _) cs0, mk_18, rk_18, rvk1, List.cons_append, List.nil_append, w_ic_eq, w_il_5, w_bipush, w_imul, w_ivv_1 (c2I _) (cs1 _), w_iadd, w_is_5 (c2I _), w_dup (c2R _), w_pf_1_2, w_inc_6 (c2I _), w_goto, true_and, and_true, true_or, or_true]
  exact h
theorem b_20_3 {sx : Int → Int} {L : Nat} {c0 : Nat} {x1 : Int} {x2 : Int} {x3 : Int} {x4 : Int} {x5 : Int} {x6 : Int} {M : Mem} {Q : Option AV → Mem → Prop} (h0 : isPl c0)
    (h : (M c0 2 = x4 → Rn sx L K0 R0 20 4 [vR (c0 + 2), vI x1, vI x2, vI x3, vI x4, vI x5, vI x6] [] M Q) ∧ (¬ (M c0 2 = x4) → (x5 < x2 → Rn sx L K0 R0 20 4 [vR (c0 + 2), vI x1, vI x2, vI x3, vI x4, vI x5, vI x6] [] M Q) ∧ (¬ (x5 < x2) → (x5 ≤ x3 → Rn sx L K0 R0 20 5 [vR (c0 + 2), vI x1, vI x2, vI x3, vI x4, vI x5, vI x6] [] M Q) ∧ (¬ (x5 ≤ x3) → Rn sx L K0 R0 20 4 [vR (c0 + 2), vI x1, vI x2, vI x3, vI x4, vI x5, vI x6] [] M Q)))) : Rn sx L K0 R0 20 3 [vR (c0 + 2), vI x1, vI x2, vI x3, vI x4, vI x5, vI x6] [] M Q := by
  refine Rn_w (by decide) ?_
  show wpc sx L K0 R0 20 [(77, 1, .aload_n 0, []), (78, 3, .getfield 25, [1, 2, 271]), (81, 2, .iload 4, []), (83, 3, .if_icmp .eq 15, [4]), (86, 2, .iload 5, []), (88, 1, .iload_n 2, []), (89, 3, .if_icmp .lt 9, [4]), (92, 2, .iload 5, []), (94, 1, .iload_n 3, []), (95, 3, .if_icmp .le 9, [5])] 4 [vR (c0 + 2), vI x1, vI x2, vI x3, vI x4, vI x5, vI x6] [] M Q
  simp only [w_al_0, w_gf_1_2, kin_T (kpl h0), w_il_4, w_ic_eq, w_il_5, w_il_2, w_ic_lt, w_il_3, w_ic_le, w_fall, true_and, and_true, true_or, or_true]
  exact h
theorem b_20_4 {sx : Int → Int} {L : Nat} {c0 : Nat} {x1 : Int} {x2 : Int} {x3 : Int} {x4 : Int} {x5 : Int} {x6 : Int} {M : Mem} {Q : Option AV → Mem → Prop} (h0 : isPl c0)
    (h : Rn sx L K0 R0 20 5 [vR (c0 + 2), vI x1, vI x2, vI x3, vI x4, vI x5, vI x6] [] (mset M c0 3 x4) Q) : Rn sx L K0 R0 20 4 [vR (c0 + 2), vI x1, vI x2, vI x3, vI x4, vI x5, vI x6] [] M Q := by
  refine Rn_w (by decide) ?_
  show wpc sx L K0 R0 20 [(98, 1, .aload_n 0, []), (99, 2, .iload 4, []), (101, 3, .putfield 28, [1, 3, 272])] 5 [vR (c0 + 2), vI x1, vI x2, vI x3, vI x4, vI x5, vI x6] [] M Q
  simp only [w_al_0, w_il_4, w_pf_1_3, kin_T (kpl h0), w_fall, true_and, and_true, true_or, or_true]
  exact h
theorem b_20_5 {sx : Int → Int} {L : Nat} {c0 : Nat} {x1 : Int} {x2 : Int} {x3 : Int} {x4 : Int} {x5 : Int} {x6 : Int} {M : Mem} {Q : Option AV → Mem → Prop} (h0 : isPl c0)
    (h : Q (some (vI x5)) M) : Rn sx L K0 R0 20 5 [vR (c0 + 2), vI x1, vI x2, vI x3, vI x4, vI x5, vI x6] [] M Q := by
  refine Rn_w (by decide) ?_
  show wpc sx L K0 R0 20 [(104, 2, .iload 5, []), (106, 1, .ireturn, [])] 0 [vR (c0 + 2), vI x1, vI x2, vI x3, vI x4, vI x5, vI x6] [] M Q
  simp only [w_il_5, w_ret1 rk_20, true_and, and_true, true_or, or_true]
  exact h
theorem b_21_0 {sx : Int → Int} {L : Nat} {c0 : Nat} {x1 : Int} {M : Mem} {Q : Option AV → Mem → Prop} (h0 : isPl c0)
    (h : (M c0 3 = (-1 : Int) → Rn sx L K0 R0 21 1 [vR (c0 + 2), vI x1, vU, vU] [] M Q) ∧ (¬ (M c0 3 = (-1 : Int)) → Q none M)) : Rn sx L K0 R0 21 0 [vR (c0 + 2), vI x1, vU, vU] [] M Q := by
  refine Rn_w (by decide) ?_
  show wpc sx L K0 R0 21 [(0, 1, .aload_n 0, []), (1, 3, .getfield 28, [1, 3, 272]), (4, 1, .iconst (-1), []), (5, 3, .if_icmp .eq 4, [1]), (8, 1, .return_, [])] 0 [vR (c0 + 2), vI x1, vU, vU] [] M Q
  simp only [w_al_0, w_gf_1_3, kin_T (kpl h0), w_iconst, w_ic_eq, w_ret0 rk_21, true_and, and_true, true_or, or_true]
  exact h
theorem b_21_1 {sx : Int → Int} {L : Nat} {c0 : Nat} {x1 : Int} {M : Mem} {Q : Option AV → Mem → Prop} (h0 : isPl c0)
    (h : Mq sx L K0 R0 17 [vR (c0 + 2), vI (M c0 2)] M (fun rv M1 => ∃ r1, rv = some (vI r1) ∧ (Mq sx L K0 R0 22 [vI r1] M1 (fun rv M2 => ∃ r2, rv = some (vI r2) ∧ ((¬ r2 = (-1 : Int) → Rn sx L K0 R0 21 2 [vR (c0 + 2), vI x1, vI r2, vU] [] M2 Q) ∧ (¬ (¬ r2 = (-1 : Int)) → Q none (mset M2 c0 3 (M2 c0 2)))))))) : Rn sx L K0 R0 21 1 [vR (c0 + 2), vI x1, vU, vU] [] M Q := by
  refine Rn_w (by decide) ?_
  show wpc sx L K0 R0 21 [(9, 1, .aload_n 0, []), (10, 1, .aload_n 0, []), (11, 3, .getfield 25, [1, 2, 271]), (14, 3, .invokevirtual 67, [17, 625, 1]), (17, 3, .invokestatic 74, [22, 637, 1]), (20, 1, .istore_n 2, []), (21, 1, .iload_n 2, []), (22, 1, .iconst (-1), []), (23, 3, .if_icmp .ne 12, [2]), (26, 1, .aload_n 0, []), (27, 1, .aload_n 0, []), (28, 3, .getfield 25, [1, 2, 271]), (31, 3, .putfield 28, [1, 3, 272]), (34, 1, .return_, [])] 0 [vR (c0 + 2), vI x1, vU, vU] [] M Q
  simp only [w_al_0, w_gf_1_2, kin_T (kpl h0), w_ivv_1 (c2I _) cs0, mk_17, rk_17, rvk1, List.cons_append, List.nil_append, w_ivs_1 (c2I _) cs0, rk_22, w_is_2 (c2I _), w_il_2, w_iconst, w_ic_ne, w_pf_1_3, w_ret0 rk_21, true_and, and_true, true_or, or_true]
  exact h
theorem b_21_2 {sx : Int → Int} {L : Nat} {c0 : Nat} {x1 : Int} {x2 : Int} {M : Mem} {Q : Option AV → Mem → Prop} (h0 : isPl c0)
    (h : inR ((M c0 2) + 1) ∧ (Mq sx L K0 R0 18 [vR (c0 + 2), vI ((M c0 2) + 1)] M (fun rv M1 => ∃ r1, rv = some (vI r1) ∧ (Mq sx L K0 R0 23 [vR (c0 + 2), vI x2, vI r1, vI x1] M1 (fun rv M2 => ∃ r2, rv = some (vI r2) ∧ ((¬ r2 = (0 : Int) → Rn sx L K0 R0 21 3 [vR (c0 + 2), vI x1, vI x2, vI r1] [] M2 Q) ∧ (¬ (¬ r2 = (0 : Int)) → inR ((M2 c0 2) + 1) ∧ (Q none (mset M2 c0 3 ((M2 c0 2) + 1)))))))))) : Rn sx L K0 R0 21 2 [vR (c0 + 2), vI x1, vI x2, vU] [] M Q := by
  refine Rn_w (by decide) ?_
  show wpc sx L K0 R0 21 [(35, 1, .aload_n 0, []), (36, 1, .aload_n 0, []), (37, 3, .getfield 25, [1, 2, 271]), (40, 1, .iconst 1, []), (41, 1, .iadd, []), (42, 3, .invokevirtual 71, [18, 629, 1]), (45, 1, .istore_n 3, []), (46, 1, .aload_n 0, []), (47, 1, .iload_n 2, []), (48, 1, .iload_n 3, []), (49, 1, .iload_n 1, []), (50, 3, .invokevirtual 77, [23, 640, 3]), (53, 3, .ifCond .ne 14, [3]), (56, 1, .aload_n 0, []), (57, 1, .aload_n 0, []), (58, 3, .getfield 25, [1, 2, 271]), (61, 1, .iconst 1, []), (62, 1, .iadd, []), (63, 3, .putfield 28, [1, 3, 272]), (66, 1, .return_, [])] 0 [vR (c0 + 2), vI x1, vI x2, vU] [] M Q
  simp only [w_al_0, w_gf_1_2, kin_T (kpl h0), w_iconst, w_iadd, w_ivv_1 (c2I _) cs0, mk_18, rk_18, rvk1, List.cons_append, List.nil_append, w_is_3 (c2I _), w_il_2, w_il_3, w_il_1, w_ivv_3 (c2I _) (c2I _) (c2I _) cs0, mk_23, rk_23, rvk2, w_if_ne, w_pf_1_3, w_ret0 rk_21, true_and, and_true, true_or, or_true]
  exact h
theorem b_21_3 {sx : Int → Int} {L : Nat} {c0 : Nat} {x1 : Int} {x2 : Int} {x3 : Int} {M : Mem} {Q : Option AV → Mem → Prop} (h0 : isPl c0)
    (h : inR ((M c0 2) + 2) ∧ (Mq sx L K0 R0 24 [vR (c0 + 2), vI x2, vI x3] (mset M c0 2 ((M c0 2) + 2)) (fun rv M1 => rv = none ∧ (Q none M1)))) : Rn sx L K0 R0 21 3 [vR (c0 + 2), vI x1, vI x2, vI x3] [] M Q := by
  refine Rn_w (by decide) ?_
  show wpc sx L K0 R0 21 [(67, 1, .aload_n 0, []), (68, 1, .dup, []), (69, 3, .getfield 25, [1, 2, 271]), (72, 1, .iconst 2, []), (73, 1, .iadd, []), (74, 3, .putfield 25, [1, 2, 271]), (77, 1, .aload_n 0, []), (78, 1, .iload_n 2, []), (79, 1, .iload_n 3, []), (80, 3, .invokevirtual 81, [24, 644, 2]), (83, 1, .return_, [])] 0 [vR (c0 + 2), vI x1, vI x2, vI x3] [] M Q
  simp only [w_al_0, w_dup (c2R _), w_gf_1_2, kin_T (kpl h0), w_iconst, w_iadd, w_pf_1_2, w_il_2, w_il_3, w_ivv_2 (c2I _) (c2I _) cs0, mk_24, rk_24, rvk0, List.nil_append, w_ret0 rk_21, true_and, and_true, true_or, or_true]
  exact h
theorem b_22_0 {sx : Int → Int} {L : Nat} {x0 : Int} {M : Mem} {Q : Option AV → Mem → Prop} 
    (h : (¬ x0 = (119 : Int) → Rn sx L K0 R0 22 1 [vI x0] [] M Q) ∧ (¬ (¬ x0 = (119 : Int)) → Q (some (vI 1)) M)) : Rn sx L K0 R0 22 0 [vI x0] [] M Q := by
  refine Rn_w (by decide) ?_
  show wpc sx L K0 R0 22 [(0, 1, .iload_n 0, []), (1, 2, .bipush 119, []), (3, 3, .if_icmp .ne 5, [1]), (6, 1, .iconst 1, []), (7, 1, .ireturn, [])] 0 [vI x0] [] M Q
  simp only [w_il_0, w_bipush, w_ic_ne, w_iconst, w_ret1 rk_22, true_and, and_true, true_or, or_true]
  exact h
theorem b_22_1 {sx : Int → Int} {L : Nat} {x0 : Int} {M : Mem} {Q : Option AV → Mem → Prop} 
    (h : (¬ x0 = (116 : Int) → Rn sx L K0 R0 22 2 [vI x0] [] M Q) ∧ (¬ (¬ x0 = (116 : Int)) → Q (some (vI 2)) M)) : Rn sx L K0 R0 22 1 [vI x0] [] M Q := by
  refine Rn_w (by decide) ?_
  show wpc sx L K0 R0 22 [(8, 1, .iload_n 0, []), (9, 2, .bipush 116, []), (11, 3, .if_icmp .ne 5, [2]), (14, 1, .iconst 2, []), (15, 1, .ireturn, [])] 0 [vI x0] [] M Q
  simp only [w_il_0, w_bipush, w_ic_ne, w_iconst, w_ret1 rk_22, true_and, and_true, true_or, or_true]
  exact h
theorem b_22_2 {sx : Int → Int} {L : Nat} {x0 : Int} {M : Mem} {Q : Option AV → Mem → Prop} 
    (h : (¬ x0 = (103 : Int) → Rn sx L K0 R0 22 3 [vI x0] [] M Q) ∧ (¬ (¬ x0 = (103 : Int)) → Rn sx L K0 R0 22 4 [vI x0] [vI 3] M Q)) : Rn sx L K0 R0 22 2 [vI x0] [] M Q := by
  refine Rn_w (by decide) ?_
  show wpc sx L K0 R0 22 [(16, 1, .iload_n 0, []), (17, 2, .bipush 103, []), (19, 3, .if_icmp .ne 7, [3]), (22, 1, .iconst 3, []), (23, 3, .goto 4, [4])] 0 [vI x0] [] M Q
  simp only [w_il_0, w_bipush, w_ic_ne, w_iconst, w_goto, true_and, and_true, true_or, or_true]
  exact h
theorem b_22_3 {sx : Int → Int} {L : Nat} {x0 : Int} {M : Mem} {Q : Option AV → Mem → Prop} 
    (h : Rn sx L K0 R0 22 4 [vI x0] [vI (-1)] M Q) : Rn sx L K0 R0 22 3 [vI x0] [] M Q := by
  refine Rn_w (by decide) ?_
  show wpc sx L K0 R0 22 [(26, 1, .iconst (-1), [])] 4 [vI x0] [] M Q
  simp only [w_iconst, w_fall, true_and, and_true, true_or, or_true]
  exact h
theorem b_22_4 {sx : Int → Int} {L : Nat} {x0 : Int} {y0 : Int} {M : Mem} {Q : Option AV → Mem → Prop} 
    (h : Q (some (vI y0)) M) : Rn sx L K0 R0 22 4 [vI x0] [vI y0] M Q := by
  refine Rn_w (by decide) ?_
  show wpc sx L K0 R0 22 [(27, 1, .ireturn, [])] 0 [vI x0] [vI y0] M Q
  simp only [w_ret1 rk_22, true_and, and_true, true_or, or_true]
  exact h
theorem b_23_0 {sx : Int → Int} {L : Nat} {c0 : Nat} {x1 : Int} {x2 : Int} {x3 : Int} {M : Mem} {Q : Option AV → Mem → Prop} (h0 : isPl c0)
    (h : (¬ x1 = (1 : Int) → Rn sx L K0 R0 23 3 [vR (c0 + 2), vI x1, vI x2, vI x3, vU] [] M Q) ∧ (¬ (¬ x1 = (1 : Int)) → (x2 < (1 : Int) → Rn sx L K0 R0 23 1 [vR (c0 + 2), vI x1, vI x2, vI x3, vU] [] M Q) ∧ (¬ (x2 < (1 : Int)) → Rn sx L K0 R0 23 2 [vR (c0 + 2), vI x1, vI x2, vI x3, vU] [vI 1] M Q))) : Rn sx L K0 R0 23 0 [vR (c0 + 2), vI x1, vI x2, vI x3, vU] [] M Q := by
  refine Rn_w (by decide) ?_
  show wpc sx L K0 R0 23 [(0, 1, .iload_n 1, []), (1, 1, .iconst 1, []), (2, 3, .if_icmp .ne 14, [3]), (5, 1, .iload_n 2, []), (6, 1, .iconst 1, []), (7, 3, .if_icmp .lt 7, [1]), (10, 1, .iconst 1, []), (11, 3, .goto 4, [2])] 0 [vR (c0 + 2), vI x1, vI x2, vI x3, vU] [] M Q
  simp only [w_il_1, w_iconst, w_ic_ne, w_il_2, w_ic_lt, w_goto, true_and, and_true, true_or, or_true]
  exact h
theorem b_23_1 {sx : Int → Int} {L : Nat} {c0 : Nat} {x1 : Int} {x2 : Int} {x3 : Int} {M : Mem} {Q : Option AV → Mem → Prop} (h0 : isPl c0)
    (h : Rn sx L K0 R0 23 2 [vR (c0 + 2), vI x1, vI x2, vI x3, vU] [vI 0] M Q) : Rn sx L K0 R0 23 1 [vR (c0 + 2), vI x1, vI x2, vI x3, vU] [] M Q := by
  refine Rn_w (by decide) ?_
  show wpc sx L K0 R0 23 [(14, 1, .iconst 0, [])] 2 [vR (c0 + 2), vI x1, vI x2, vI x3, vU] [] M Q
  simp only [w_iconst, w_fall, true_and, and_true, true_or, or_true]
  exact h
theorem b_23_2 {sx : Int → Int} {L : Nat} {c0 : Nat} {x1 : Int} {x2 : Int} {x3 : Int} {y0 : Int} {M : Mem} {Q : Option AV → Mem → Prop} (h0 : isPl c0)
    (h : (y0 = 0 ∨ y0 = 1) ∧ (Q (some (vI y0)) M)) : Rn sx L K0 R0 23 2 [vR (c0 + 2), vI x1, vI x2, vI x3, vU] [vI y0] M Q := by
  refine Rn_w (by decide) ?_
  show wpc sx L K0 R0 23 [(15, 1, .ireturn, [])] 0 [vR (c0 + 2), vI x1, vI x2, vI x3, vU] [vI y0] M Q
  simp only [w_ret2 rk_23, true_and, and_true, true_or, or_true]
  exact h
theorem b_23_3 {sx : Int → Int} {L : Nat} {c0 : Nat} {x1 : Int} {x2 : Int} {x3 : Int} {M : Mem} {Q : Option AV → Mem → Prop} (h0 : isPl c0)
    (h : (x2 < (0 : Int) → Rn sx L K0 R0 23 4 [vR (c0 + 2), vI x1, vI x2, vI x3, vU] [] M Q) ∧ (¬ (x2 < (0 : Int)) → (x2 < x3 → Rn sx L K0 R0 23 5 [vR (c0 + 2), vI x1, vI x2, vI x3, vU] [] M Q) ∧ (¬ (x2 < x3) → Rn sx L K0 R0 23 4 [vR (c0 + 2), vI x1, vI x2, vI x3, vU] [] M Q))) : Rn sx L K0 R0 23 3 [vR (c0 + 2), vI x1, vI x2, vI x3, vU] [] M Q := by
  refine Rn_w (by decide) ?_
  show wpc sx L K0 R0 23 [(16, 1, .iload_n 2, []), (17, 3, .ifCond .lt 8, [4]), (20, 1, .iload_n 2, []), (21, 1, .iload_n 3, []), (22, 3, .if_icmp .lt 5, [5])] 4 [vR (c0 + 2), vI x1, vI x2, vI x3, vU] [] M Q
  simp only [w_il_2, w_if_lt, w_il_3, w_ic_lt, w_fall, true_and, and_true, true_or, or_true]
  exact h
theorem b_23_4 {sx : Int → Int} {L : Nat} {c0 : Nat} {x1 : Int} {x2 : Int} {x3 : Int} {M : Mem} {Q : Option AV → Mem → Prop} (h0 : isPl c0)
    (h : Q (some (vI 0)) M) : Rn sx L K0 R0 23 4 [vR (c0 + 2), vI x1, vI x2, vI x3, vU] [] M Q := by
  refine Rn_w (by decide) ?_
  show wpc sx L K0 R0 23 [(25, 1, .iconst 0, []), (26, 1, .ireturn, [])] 0 [vR (c0 + 2), vI x1, vI x2, vI x3, vU] [] M Q
  simp only [w_iconst, w_ret2 rk_23, b01_0, true_and, and_true, true_or, or_true]
  exact h
theorem b_23_5 {sx : Int → Int} {L : Nat} {c0 : Nat} {x1 : Int} {x2 : Int} {x3 : Int} {M : Mem} {Q : Option AV → Mem → Prop} (h0 : isPl c0)
    (h : ((0 : Int) ≤ M c0 12 ∧ (0 : Int) ≤ x2 ∧ x2 ≤ (30 : Int)) ∧ ((iAnd ((M c0 12) / 2 ^ (x2).toNat) 1 = (0 : Int) → Rn sx L K0 R0 23 6 [vR (c0 + 2), vI x1, vI x2, vI x3, vU] [] M Q) ∧ (¬ (iAnd ((M c0 12) / 2 ^ (x2).toNat) 1 = (0 : Int)) → Rn sx L K0 R0 23 7 [vR (c0 + 2), vI x1, vI x2, vI x3, vU] [vI 1] M Q))) : Rn sx L K0 R0 23 5 [vR (c0 + 2), vI x1, vI x2, vI x3, vU] [] M Q := by
  refine Rn_w (by decide) ?_
  show wpc sx L K0 R0 23 [(27, 1, .aload_n 0, []), (28, 3, .getfield 64, [1, 12, 296]), (31, 1, .iload_n 2, []), (32, 1, .ishr, []), (33, 1, .iconst 1, []), (34, 1, .iand, []), (35, 3, .ifCond .eq 7, [6]), (38, 1, .iconst 1, []), (39, 3, .goto 4, [7])] 0 [vR (c0 + 2), vI x1, vI x2, vI x3, vU] [] M Q
  simp only [w_al_0, w_gf_1_12, kin_T (kpl h0), w_il_2, w_ishr, w_iconst, w_iand, w_if_eq, w_goto, true_and, and_true, true_or, or_true]
  exact h
theorem b_23_6 {sx : Int → Int} {L : Nat} {c0 : Nat} {x1 : Int} {x2 : Int} {x3 : Int} {M : Mem} {Q : Option AV → Mem → Prop} (h0 : isPl c0)
    (h : Rn sx L K0 R0 23 7 [vR (c0 + 2), vI x1, vI x2, vI x3, vU] [vI 0] M Q) : Rn sx L K0 R0 23 6 [vR (c0 + 2), vI x1, vI x2, vI x3, vU] [] M Q := by
  refine Rn_w (by decide) ?_
  show wpc sx L K0 R0 23 [(42, 1, .iconst 0, [])] 7 [vR (c0 + 2), vI x1, vI x2, vI x3, vU] [] M Q
  simp only [w_iconst, w_fall, true_and, and_true, true_or, or_true]
  exact h
theorem b_23_7 {sx : Int → Int} {L : Nat} {c0 : Nat} {x1 : Int} {x2 : Int} {x3 : Int} {y0 : Int} {M : Mem} {Q : Option AV → Mem → Prop} (h0 : isPl c0)
    (h : (¬ x1 = (3 : Int) → Rn sx L K0 R0 23 8 [vR (c0 + 2), vI x1, vI x2, vI x3, vI y0] [vI y0] M Q) ∧ (¬ (¬ x1 = (3 : Int)) → Rn sx L K0 R0 23 9 [vR (c0 + 2), vI x1, vI x2, vI x3, vI y0] [vI 1, vI y0] M Q)) : Rn sx L K0 R0 23 7 [vR (c0 + 2), vI x1, vI x2, vI x3, vU] [vI y0] M Q := by
  refine Rn_w (by decide) ?_
  show wpc sx L K0 R0 23 [(43, 2, .istore 4, []), (45, 2, .iload 4, []), (47, 1, .iload_n 1, []), (48, 1, .iconst 3, []), (49, 3, .if_icmp .ne 7, [8]), (52, 1, .iconst 1, []), (53, 3, .goto 4, [9])] 0 [vR (c0 + 2), vI x1, vI x2, vI x3, vU] [vI y0] M Q
  simp only [w_is_4 (c2I _), w_il_4, w_il_1, w_iconst, w_ic_ne, w_goto, true_and, and_true, true_or, or_true]
  exact h
theorem b_23_8 {sx : Int → Int} {L : Nat} {c0 : Nat} {x1 : Int} {x2 : Int} {x3 : Int} {x4 : Int} {y0 : Int} {M : Mem} {Q : Option AV → Mem → Prop} (h0 : isPl c0)
    (h : Rn sx L K0 R0 23 9 [vR (c0 + 2), vI x1, vI x2, vI x3, vI x4] [vI 0, vI y0] M Q) : Rn sx L K0 R0 23 8 [vR (c0 + 2), vI x1, vI x2, vI x3, vI x4] [vI y0] M Q := by
  refine Rn_w (by decide) ?_
  show wpc sx L K0 R0 23 [(56, 1, .iconst 0, [])] 9 [vR (c0 + 2), vI x1, vI x2, vI x3, vI x4] [vI y0] M Q
  simp only [w_iconst, w_fall, true_and, and_true, true_or, or_true]
  exact h
theorem b_23_9 {sx : Int → Int} {L : Nat} {c0 : Nat} {x1 : Int} {x2 : Int} {x3 : Int} {x4 : Int} {y0 : Int} {y1 : Int} {M : Mem} {Q : Option AV → Mem → Prop} (h0 : isPl c0)
    (h : (¬ y0 = y1 → Rn sx L K0 R0 23 10 [vR (c0 + 2), vI x1, vI x2, vI x3, vI x4] [] M Q) ∧ (¬ (¬ y0 = y1) → Rn sx L K0 R0 23 11 [vR (c0 + 2), vI x1, vI x2, vI x3, vI x4] [vI 1] M Q)) : Rn sx L K0 R0 23 9 [vR (c0 + 2), vI x1, vI x2, vI x3, vI x4] [vI y1, vI y0] M Q := by
  refine Rn_w (by decide) ?_
  show wpc sx L K0 R0 23 [(57, 3, .if_icmp .ne 7, [10]), (60, 1, .iconst 1, []), (61, 3, .goto 4, [11])] 0 [vR (c0 + 2), vI x1, vI x2, vI x3, vI x4] [vI y1, vI y0] M Q
  simp only [w_ic_ne, w_iconst, w_goto, true_and, and_true, true_or, or_true]
  exact h
theorem b_23_10 {sx : Int → Int} {L : Nat} {c0 : Nat} {x1 : Int} {x2 : Int} {x3 : Int} {x4 : Int} {M : Mem} {Q : Option AV → Mem → Prop} (h0 : isPl c0)
    (h : Rn sx L K0 R0 23 11 [vR (c0 + 2), vI x1, vI x2, vI x3, vI x4] [vI 0] M Q) : Rn sx L K0 R0 23 10 [vR (c0 + 2), vI x1, vI x2, vI x3, vI x4] [] M Q := by
  refine Rn_w (by decide) ?_
  show wpc sx L K0 R0 23 [(64, 1, .iconst 0, [])] 11 [vR (c0 + 2), vI x1, vI x2, vI x3, vI x4] [] M Q
  simp only [w_iconst, w_fall, true_and, and_true, true_or, or_true]
  exact h
theorem b_23_11 {sx : Int → Int} {L : Nat} {c0 : Nat} {x1 : Int} {x2 : Int} {x3 : Int} {x4 : Int} {y0 : Int} {M : Mem} {Q : Option AV → Mem → Prop} (h0 : isPl c0)
    (h : (y0 = 0 ∨ y0 = 1) ∧ (Q (some (vI y0)) M)) : Rn sx L K0 R0 23 11 [vR (c0 + 2), vI x1, vI x2, vI x3, vI x4] [vI y0] M Q := by
  refine Rn_w (by decide) ?_
  show wpc sx L K0 R0 23 [(65, 1, .ireturn, [])] 0 [vR (c0 + 2), vI x1, vI x2, vI x3, vI x4] [vI y0] M Q
  simp only [w_ret2 rk_23, true_and, and_true, true_or, or_true]
  exact h
theorem b_24_0 {sx : Int → Int} {L : Nat} {c0 : Nat} {x1 : Int} {x2 : Int} {M : Mem} {Q : Option AV → Mem → Prop} (h0 : isPl c0)
    (h : (M c0 9 < (0 : Int) → Rn sx L K0 R0 24 1 [vR (c0 + 2), vI x1, vI x2] [] M Q) ∧ (¬ (M c0 9 < (0 : Int)) → (M c0 9 < (20 : Int) → Rn sx L K0 R0 24 2 [vR (c0 + 2), vI x1, vI x2] [] M Q) ∧ (¬ (M c0 9 < (20 : Int)) → Rn sx L K0 R0 24 1 [vR (c0 + 2), vI x1, vI x2] [] M Q))) : Rn sx L K0 R0 24 0 [vR (c0 + 2), vI x1, vI x2] [] M Q := by
  refine Rn_w (by decide) ?_
  show wpc sx L K0 R0 24 [(0, 1, .aload_n 0, []), (1, 3, .getfield 58, [1, 9, 286]), (4, 3, .ifCond .lt 12, [1]), (7, 1, .aload_n 0, []), (8, 3, .getfield 58, [1, 9, 286]), (11, 2, .bipush 20, []), (13, 3, .if_icmp .lt 4, [2])] 1 [vR (c0 + 2), vI x1, vI x2] [] M Q
  simp only [w_al_0, w_gf_1_9, kin_T (kpl h0), w_if_lt, w_bipush, w_ic_lt, w_fall, true_and, and_true, true_or, or_true]
  exact h
theorem b_24_1 {sx : Int → Int} {L : Nat} {c0 : Nat} {x1 : Int} {x2 : Int} {M : Mem} {Q : Option AV → Mem → Prop} (h0 : isPl c0)
    (h : Q none M) : Rn sx L K0 R0 24 1 [vR (c0 + 2), vI x1, vI x2] [] M Q := by
  refine Rn_w (by decide) ?_
  show wpc sx L K0 R0 24 [(16, 1, .return_, [])] 0 [vR (c0 + 2), vI x1, vI x2] [] M Q
  simp only [w_ret0 rk_24, true_and, and_true, true_or, or_true]
  exact h
set_option maxRecDepth 8192 in
theorem b_24_2 {sx : Int → Int} {L : Nat} {c0 : Nat} {x1 : Int} {x2 : Int} {M : Mem} {Q : Option AV → Mem → Prop} (h0 : isPl c0)
    (h : ((0 : Int) ≤ M c0 9 ∧ M c0 9 < (20 : Int)) ∧ (((0 : Int) ≤ (mset M (c0 + 2) (M c0 9) x1) c0 9 ∧ (mset M (c0 + 2) (M c0 9) x1) c0 9 < (20 : Int)) ∧ (inR (((mset (mset M (c0 + 2) (M c0 9) x1) (c0 + 3) ((mset M (c0 + 2) (M c0 9) x1) c0 9) x2) c0 9) + 1) ∧ ((¬ x1 = (1 : Int) → Rn sx L K0 R0 24 3 [vR (c0 + 2), vI x1, vI x2] [] (mset (mset (mset M (c0 + 2) (M c0 9) x1) (c0 + 3) ((mset M (c0 + 2) (M c0 9) x1) c0 9) x2) c0 9 (((mset (mset M (c0 + 2) (M c0 9) x1) (c0 + 3) ((mset M (c0 + 2) (M c0 9) x1) c0 9) x2) c0 9) + 1)) Q) ∧ (¬ (¬ x1 = (1 : Int)) → inR (((mset (mset (mset M (c0 + 2) (M c0 9) x1) (c0 + 3) ((mset M (c0 + 2) (M c0 9) x1) c0 9) x2) c0 9 (((mset (mset M (c0 + 2) (M c0 9) x1) (c0 + 3) ((mset M (c0 + 2) (M c0 9) x1) c0 9) x2) c0 9) + 1)) c0 10) + x2) ∧ (Rn sx L K0 R0 24 5 [vR (c0 + 2), vI x1, vI x2] [] (mset (mset (mset (mset M (c0 + 2) (M c0 9) x1) (c0 + 3) ((mset M (c0 + 2) (M c0 9) x1) c0 9) x2) c0 9 (((mset (mset M (c0 + 2) (M c0 9) x1) (c0 + 3) ((mset M (c0 + 2) (M c0 9) x1) c0 9) x2) c0 9) + 1)) c0 10 (((mset (mset (mset M (c0 + 2) (M c0 9) x1) (c0 + 3) ((mset M (c0 + 2) (M c0 9) x1) c0 9) x2) c0 9 (((mset (mset M (c0 + 2) (M c0 9) x1) (c0 + 3) ((mset M (c0 + 2) (M c0 9) x1) c0 9) x2) c0 9) + 1)) c0 10) + x2)) Q)))))) : Rn sx L K0 R0 24 2 [vR (c0 + 2), vI x1, vI x2] [] M Q := by
  refine Rn_w (by decide) ?_
  show wpc sx L K0 R0 24 [(17, 1, .aload_n 0, []), (18, 3, .getfield 15, [1, 7, 284]), (21, 1, .aload_n 0, []), (22, 3, .getfield 58, [1, 9, 286]), (25, 1, .iload_n 1, []), (26, 1, .iastore, []), (27, 1, .aload_n 0, []), (28, 3, .getfield 18, [1, 8, 285]), (31, 1, .aload_n 0, []), (32, 3, .getfield 58, [1, 9, 286]), (35, 1, .iload_n 2, []), (36, 1, .iastore, []), (37, 1, .aload_n 0, []), (38, 1, .dup, []), (39, 3, .getfield 58, [1, 9, 286]), (42, 1, .iconst 1, []), (43, 1, .iadd, []), (44, 3, .putfield 58, [1, 9, 286]), (47, 1, .iload_n 1, []), (48, 1, .iconst 1, []), (49, 3, .if_icmp .ne 16, [3]), (52, 1, .aload_n 0, []), (53, 1, .dup, []), (54, 3, .getfield 55, [1, 10, 290]), (57, 1, .iload_n 2, []), (58, 1, .iadd, []), (59, 3, .putfield 55, [1, 10, 290]), (62, 3, .goto 49, [5])] 0 [vR (c0 + 2), vI x1, vI x2] [] M Q
  simp only [w_al_0, w_gf_1_7, kin_T (kpl h0), rpl7 h0, w_gf_1_9, w_il_1, w_iast, arr_T ((kpl2 h0)), w_gf_1_8, rpl8 h0, w_il_2, arr_T ((kpl3 h0)), w_dup (c2R _), w_iconst, w_iadd, w_pf_1_9, w_ic_ne, w_gf_1_10, w_pf_1_10, w_goto, true_and, and_true, true_or, or_true]
  exact h
theorem b_24_3 {sx : Int → Int} {L : Nat} {c0 : Nat} {x1 : Int} {x2 : Int} {M : Mem} {Q : Option AV → Mem → Prop} (h0 : isPl c0)
    (h : (¬ x1 = (2 : Int) → Rn sx L K0 R0 24 4 [vR (c0 + 2), vI x1, vI x2] [] M Q) ∧ (¬ (¬ x1 = (2 : Int)) → ((0 : Int) ≤ (1 : Int) ∧ (0 : Int) ≤ x2 ∧ x2 ≤ (30 : Int) ∧ (1 : Int) * 2 ^ (x2).toNat ≤ (2147483647 : Int)) ∧ (((0 : Int) ≤ (1 : Int) ∧ (0 : Int) ≤ x2 ∧ x2 ≤ (30 : Int) ∧ (1 : Int) * 2 ^ (x2).toNat ≤ (2147483647 : Int)) ∧ (Rn sx L K0 R0 24 5 [vR (c0 + 2), vI x1, vI x2] [] (mset (mset M c0 11 (iOr (M c0 11) ((1 : Int) * 2 ^ (x2).toNat))) c0 12 (iOr ((mset M c0 11 (iOr (M c0 11) ((1 : Int) * 2 ^ (x2).toNat))) c0 12) ((1 : Int) * 2 ^ (x2).toNat))) Q)))) : Rn sx L K0 R0 24 3 [vR (c0 + 2), vI x1, vI x2] [] M Q := by
  refine Rn_w (by decide) ?_
  show wpc sx L K0 R0 24 [(65, 1, .iload_n 1, []), (66, 1, .iconst 2, []), (67, 3, .if_icmp .ne 30, [4]), (70, 1, .aload_n 0, []), (71, 1, .dup, []), (72, 3, .getfield 61, [1, 11, 293]), (75, 1, .iconst 1, []), (76, 1, .iload_n 2, []), (77, 1, .ishl, []), (78, 1, .ior, []), (79, 3, .putfield 61, [1, 11, 293]), (82, 1, .aload_n 0, []), (83, 1, .dup, []), (84, 3, .getfield 64, [1, 12, 296]), (87, 1, .iconst 1, []), (88, 1, .iload_n 2, []), (89, 1, .ishl, []), (90, 1, .ior, []), (91, 3, .putfield 64, [1, 12, 296]), (94, 3, .goto 17, [5])] 0 [vR (c0 + 2), vI x1, vI x2] [] M Q
  simp only [w_il_1, w_iconst, w_ic_ne, w_al_0, w_dup (c2R _), w_gf_1_11, kin_T (kpl h0), w_il_2, w_ishl, w_ior, w_pf_1_11, w_gf_1_12, w_pf_1_12, w_goto, true_and, and_true, true_or, or_true]
  exact h
theorem b_24_4 {sx : Int → Int} {L : Nat} {c0 : Nat} {x1 : Int} {x2 : Int} {M : Mem} {Q : Option AV → Mem → Prop} (h0 : isPl c0)
    (h : ((0 : Int) ≤ (1 : Int) ∧ (0 : Int) ≤ x2 ∧ x2 ≤ (30 : Int) ∧ (1 : Int) * 2 ^ (x2).toNat ≤ (2147483647 : Int)) ∧ (Rn sx L K0 R0 24 5 [vR (c0 + 2), vI x1, vI x2] [] (mset M c0 12 (iAnd (M c0 12) (iXor ((1 : Int) * 2 ^ (x2).toNat) (-1)))) Q)) : Rn sx L K0 R0 24 4 [vR (c0 + 2), vI x1, vI x2] [] M Q := by
  refine Rn_w (by decide) ?_
  show wpc sx L K0 R0 24 [(97, 1, .aload_n 0, []), (98, 1, .dup, []), (99, 3, .getfield 64, [1, 12, 296]), (102, 1, .iconst 1, []), (103, 1, .iload_n 2, []), (104, 1, .ishl, []), (105, 1, .iconst (-1), []), (106, 1, .ixor, []), (107, 1, .iand, []), (108, 3, .putfield 64, [1, 12, 296])] 5 [vR (c0 + 2), vI x1, vI x2] [] M Q
  simp only [w_al_0, w_dup (c2R _), w_gf_1_12, kin_T (kpl h0), w_iconst, w_il_2, w_ishl, w_ixor, w_iand, w_pf_1_12, w_fall, true_and, and_true, true_or, or_true]
  exact h
theorem b_24_5 {sx : Int → Int} {L : Nat} {c0 : Nat} {x1 : Int} {x2 : Int} {M : Mem} {Q : Option AV → Mem → Prop} (h0 : isPl c0)
    (h : Q none M) : Rn sx L K0 R0 24 5 [vR (c0 + 2), vI x1, vI x2] [] M Q := by
  refine Rn_w (by decide) ?_
  show wpc sx L K0 R0 24 [(111, 1, .return_, [])] 0 [vR (c0 + 2), vI x1, vI x2] [] M Q
  simp only [w_ret0 rk_24, true_and, and_true, true_or, or_true]
  exact h
theorem b_25_0 {sx : Int → Int} {L : Nat} {c0 : Nat} {x1 : Int} {M : Mem} {Q : Option AV → Mem → Prop} (h0 : isPl c0)
    (h : (x1 < (0 : Int) → Rn sx L K0 R0 25 1 [vR (c0 + 2), vI x1] [] M Q) ∧ (¬ (x1 < (0 : Int)) → (M c0 9 ≤ x1 → Rn sx L K0 R0 25 1 [vR (c0 + 2), vI x1] [] M Q) ∧ (¬ (M c0 9 ≤ x1) → ((20 : Int) ≤ x1 → Rn sx L K0 R0 25 1 [vR (c0 + 2), vI x1] [] M Q) ∧ (¬ ((20 : Int) ≤ x1) → ((0 : Int) ≤ x1 ∧ x1 < (20 : Int)) ∧ (Rn sx L K0 R0 25 2 [vR (c0 + 2), vI x1] [vI (M (c0 + 2) x1)] M Q))))) : Rn sx L K0 R0 25 0 [vR (c0 + 2), vI x1] [] M Q := by
  refine Rn_w (by decide) ?_
  show wpc sx L K0 R0 25 [(0, 1, .iload_n 1, []), (1, 3, .ifCond .lt 26, [1]), (4, 1, .iload_n 1, []), (5, 1, .aload_n 0, []), (6, 3, .getfield 58, [1, 9, 286]), (9, 3, .if_icmp .ge 18, [1]), (12, 1, .iload_n 1, []), (13, 2, .bipush 20, []), (15, 3, .if_icmp .ge 12, [1]), (18, 1, .aload_n 0, []), (19, 3, .getfield 15, [1, 7, 284]), (22, 1, .iload_n 1, []), (23, 1, .iaload, []), (24, 3, .goto 4, [2])] 0 [vR (c0 + 2), vI x1] [] M Q
  simp only [w_il_1, w_if_lt, w_al_0, w_gf_1_9, kin_T (kpl h0), w_ic_ge, w_bipush, w_gf_1_7, rpl7 h0, w_iald, arr_T ((kpl2 h0)), w_goto, true_and, and_true, true_or, or_true]
  exact h
theorem b_25_1 {sx : Int → Int} {L : Nat} {c0 : Nat} {x1 : Int} {M : Mem} {Q : Option AV → Mem → Prop} (h0 : isPl c0)
    (h : Rn sx L K0 R0 25 2 [vR (c0 + 2), vI x1] [vI (-1)] M Q) : Rn sx L K0 R0 25 1 [vR (c0 + 2), vI x1] [] M Q := by
  refine Rn_w (by decide) ?_
  show wpc sx L K0 R0 25 [(27, 1, .iconst (-1), [])] 2 [vR (c0 + 2), vI x1] [] M Q
  simp only [w_iconst, w_fall, true_and, and_true, true_or, or_true]
  exact h
theorem b_25_2 {sx : Int → Int} {L : Nat} {c0 : Nat} {x1 : Int} {y0 : Int} {M : Mem} {Q : Option AV → Mem → Prop} (h0 : isPl c0)
    (h : Q (some (vI y0)) M) : Rn sx L K0 R0 25 2 [vR (c0 + 2), vI x1] [vI y0] M Q := by
  refine Rn_w (by decide) ?_
  show wpc sx L K0 R0 25 [(28, 1, .ireturn, [])] 0 [vR (c0 + 2), vI x1] [vI y0] M Q
  simp only [w_ret1 rk_25, true_and, and_true, true_or, or_true]
  exact h
theorem b_26_0 {sx : Int → Int} {L : Nat} {c0 : Nat} {x1 : Int} {M : Mem} {Q : Option AV → Mem → Prop} (h0 : isPl c0)
    (h : (x1 < (0 : Int) → Rn sx L K0 R0 26 1 [vR (c0 + 2), vI x1] [] M Q) ∧ (¬ (x1 < (0 : Int)) → (M c0 9 ≤ x1 → Rn sx L K0 R0 26 1 [vR (c0 + 2), vI x1] [] M Q) ∧ (¬ (M c0 9 ≤ x1) → ((20 : Int) ≤ x1 → Rn sx L K0 R0 26 1 [vR (c0 + 2), vI x1] [] M Q) ∧ (¬ ((20 : Int) ≤ x1) → ((0 : Int) ≤ x1 ∧ x1 < (20 : Int)) ∧ (Rn sx L K0 R0 26 2 [vR (c0 + 2), vI x1] [vI (M (c0 + 3) x1)] M Q))))) : Rn sx L K0 R0 26 0 [vR (c0 + 2), vI x1] [] M Q := by
  refine Rn_w (by decide) ?_
  show wpc sx L K0 R0 26 [(0, 1, .iload_n 1, []), (1, 3, .ifCond .lt 26, [1]), (4, 1, .iload_n 1, []), (5, 1, .aload_n 0, []), (6, 3, .getfield 58, [1, 9, 286]), (9, 3, .if_icmp .ge 18, [1]), (12, 1, .iload_n 1, []), (13, 2, .bipush 20, []), (15, 3, .if_icmp .ge 12, [1]), (18, 1, .aload_n 0, []), (19, 3, .getfield 18, [1, 8, 285]), (22, 1, .iload_n 1, []), (23, 1, .iaload, []), (24, 3, .goto 4, [2])] 0 [vR (c0 + 2), vI x1] [] M Q
  simp only [w_il_1, w_if_lt, w_al_0, w_gf_1_9, kin_T (kpl h0), w_ic_ge, w_bipush, w_gf_1_8, rpl8 h0, w_iald, arr_T ((kpl3 h0)), w_goto, true_and, and_true, true_or, or_true]
  exact h
theorem b_26_1 {sx : Int → Int} {L : Nat} {c0 : Nat} {x1 : Int} {M : Mem} {Q : Option AV → Mem → Prop} (h0 : isPl c0)
    (h : Rn sx L K0 R0 26 2 [vR (c0 + 2), vI x1] [vI 0] M Q) : Rn sx L K0 R0 26 1 [vR (c0 + 2), vI x1] [] M Q := by
  refine Rn_w (by decide) ?_
  show wpc sx L K0 R0 26 [(27, 1, .iconst 0, [])] 2 [vR (c0 + 2), vI x1] [] M Q
  simp only [w_iconst, w_fall, true_and, and_true, true_or, or_true]
  exact h
theorem b_26_2 {sx : Int → Int} {L : Nat} {c0 : Nat} {x1 : Int} {y0 : Int} {M : Mem} {Q : Option AV → Mem → Prop} (h0 : isPl c0)
    (h : Q (some (vI y0)) M) : Rn sx L K0 R0 26 2 [vR (c0 + 2), vI x1] [vI y0] M Q := by
  refine Rn_w (by decide) ?_
  show wpc sx L K0 R0 26 [(28, 1, .ireturn, [])] 0 [vR (c0 + 2), vI x1] [vI y0] M Q
  simp only [w_ret1 rk_26, true_and, and_true, true_or, or_true]
  exact h
theorem b_27_0 {sx : Int → Int} {L : Nat} {c0 : Nat} {x1 : Int} {M : Mem} {Q : Option AV → Mem → Prop} (h0 : isPl c0)
    (h : Rn sx L K0 R0 27 1 [vR (c0 + 2), vI x1, vI 0, vI 0] [] M Q) : Rn sx L K0 R0 27 0 [vR (c0 + 2), vI x1, vU, vU] [] M Q := by
  refine Rn_w (by decide) ?_
  show wpc sx L K0 R0 27 [(0, 1, .iconst 0, []), (1, 1, .istore_n 2, []), (2, 1, .iconst 0, []), (3, 1, .istore_n 3, [])] 1 [vR (c0 + 2), vI x1, vU, vU] [] M Q
  simp only [w_iconst, w_is_2 (c2I _), w_is_3 (c2I _), w_fall, true_and, and_true, true_or, or_true]
  exact h
theorem b_27_1 {sx : Int → Int} {L : Nat} {c0 : Nat} {x1 : Int} {x2 : Int} {x3 : Int} {M : Mem} {Q : Option AV → Mem → Prop} (h0 : isPl c0)
    (h : (M c0 9 ≤ x3 → Rn sx L K0 R0 27 3 [vR (c0 + 2), vI x1, vI x2, vI x3] [] M Q) ∧ (¬ (M c0 9 ≤ x3) → Mq sx L K0 R0 25 [vR (c0 + 2), vI x3] M (fun rv M1 => ∃ r1, rv = some (vI r1) ∧ ((¬ r1 = (2 : Int) → Rn sx L K0 R0 27 2 [vR (c0 + 2), vI x1, vI x2, vI x3] [] M1 Q) ∧ (¬ (¬ r1 = (2 : Int)) → Mq sx L K0 R0 26 [vR (c0 + 2), vI x3] M1 (fun rv M2 => ∃ r2, rv = some (vI r2) ∧ (((0 : Int) ≤ x1 ∧ (0 : Int) ≤ r2 ∧ r2 ≤ (30 : Int)) ∧ ((iAnd (x1 / 2 ^ (r2).toNat) 1 = (0 : Int) → Rn sx L K0 R0 27 2 [vR (c0 + 2), vI x1, vI x2, vI x3] [] M2 Q) ∧ (¬ (iAnd (x1 / 2 ^ (r2).toNat) 1 = (0 : Int)) → Mq sx L K0 R0 28 [vR (c0 + 2), vI x3] M2 (fun rv M3 => ∃ r3, rv = some (vI r3) ∧ (Rn sx L K0 R0 27 2 [vR (c0 + 2), vI x1, vI (max x2 r3), vI x3] [] M3 Q))))))))))) : Rn sx L K0 R0 27 1 [vR (c0 + 2), vI x1, vI x2, vI x3] [] M Q := by
  refine Rn_w (by decide) ?_
  show wpc sx L K0 R0 27 [(4, 1, .iload_n 3, []), (5, 1, .aload_n 0, []), (6, 3, .getfield 58, [1, 9, 286]), (9, 3, .if_icmp .ge 40, [3]), (12, 1, .aload_n 0, []), (13, 1, .iload_n 3, []), (14, 3, .invokevirtual 85, [25, 932, 1]), (17, 1, .iconst 2, []), (18, 3, .if_icmp .ne 25, [2]), (21, 1, .iload_n 1, []), (22, 1, .aload_n 0, []), (23, 1, .iload_n 3, []), (24, 3, .invokevirtual 88, [26, 933, 1]), (27, 1, .ishr, []), (28, 1, .iconst 1, []), (29, 1, .iand, []), (30, 3, .ifCond .eq 13, [2]), (33, 1, .iload_n 2, []), (34, 1, .aload_n 0, []), (35, 1, .iload_n 3, []), (36, 3, .invokevirtual 91, [28, 934, 1]), (39, 3, .invokestatic 94, [1002, 938]), (42, 1, .istore_n 2, [])] 2 [vR (c0 + 2), vI x1, vI x2, vI x3] [] M Q
  simp only [w_il_3, w_al_0, w_gf_1_9, kin_T (kpl h0), w_ic_ge, w_ivv_1 (c2I _) cs0, mk_25, rk_25, rvk1, List.cons_append, List.nil_append, w_iconst, w_ic_ne, w_il_1, w_ivv_1 (c2I _) (cs1 _), mk_26, rk_26, w_ishr, w_iand, w_if_eq, w_il_2, mk_28, rk_28, w_max cs0, w_is_2 (c2I _), w_fall, true_and, and_true, true_or, or_true]
  exact h
theorem b_27_2 {sx : Int → Int} {L : Nat} {c0 : Nat} {x1 : Int} {x2 : Int} {x3 : Int} {M : Mem} {Q : Option AV → Mem → Prop} (h0 : isPl c0)
    (h : inR (x3 + 1) ∧ (Rn sx L K0 R0 27 1 [vR (c0 + 2), vI x1, vI x2, vI (x3 + 1)] [] M Q)) : Rn sx L K0 R0 27 2 [vR (c0 + 2), vI x1, vI x2, vI x3] [] M Q := by
  refine Rn_w (by decide) ?_
  show wpc sx L K0 R0 27 [(43, 3, .iinc 3 1, []), (46, 3, .goto (-42), [1])] 0 [vR (c0 + 2), vI x1, vI x2, vI x3] [] M Q
  simp only [w_inc_3 (c2I _), w_goto, true_and, and_true, true_or, or_true]
  exact h
theorem b_27_3 {sx : Int → Int} {L : Nat} {c0 : Nat} {x1 : Int} {x2 : Int} {x3 : Int} {M : Mem} {Q : Option AV → Mem → Prop} (h0 : isPl c0)
    (h : Q (some (vI x2)) M) : Rn sx L K0 R0 27 3 [vR (c0 + 2), vI x1, vI x2, vI x3] [] M Q := by
  refine Rn_w (by decide) ?_
  show wpc sx L K0 R0 27 [(49, 1, .iload_n 2, []), (50, 1, .ireturn, [])] 0 [vR (c0 + 2), vI x1, vI x2, vI x3] [] M Q
  simp only [w_il_2, w_ret1 rk_27, true_and, and_true, true_or, or_true]
  exact h
theorem b_28_0 {sx : Int → Int} {L : Nat} {c0 : Nat} {x1 : Int} {M : Mem} {Q : Option AV → Mem → Prop} (h0 : isPl c0)
    (h : Mq sx L K0 R0 26 [vR (c0 + 2), vI x1] M (fun rv M1 => ∃ r1, rv = some (vI r1) ∧ (inR (x1 + 1) ∧ (Rn sx L K0 R0 28 1 [vR (c0 + 2), vI x1, vI r1, vI 0, vI (x1 + 1), vU] [] M1 Q)))) : Rn sx L K0 R0 28 0 [vR (c0 + 2), vI x1, vU, vU, vU, vU] [] M Q := by
  refine Rn_w (by decide) ?_
  show wpc sx L K0 R0 28 [(0, 1, .aload_n 0, []), (1, 1, .iload_n 1, []), (2, 3, .invokevirtual 88, [26, 933, 1]), (5, 1, .istore_n 2, []), (6, 1, .iconst 0, []), (7, 1, .istore_n 3, []), (8, 1, .iload_n 1, []), (9, 1, .iconst 1, []), (10, 1, .iadd, []), (11, 2, .istore 4, [])] 1 [vR (c0 + 2), vI x1, vU, vU, vU, vU] [] M Q
  simp only [w_al_0, w_il_1, w_ivv_1 (c2I _) cs0, mk_26, kin_T (kpl h0), rk_26, rvk1, List.cons_append, List.nil_append, w_is_2 (c2I _), w_iconst, w_is_3 (c2I _), w_iadd, w_is_4 (c2I _), w_fall, true_and, and_true, true_or, or_true]
  exact h
theorem b_28_1 {sx : Int → Int} {L : Nat} {c0 : Nat} {x1 : Int} {x2 : Int} {x3 : Int} {x4 : Int} {u5 : AV} {M : Mem} {Q : Option AV → Mem → Prop} (h0 : isPl c0) (hu5 : cat2 u5 = false)
    (h : (M c0 9 ≤ x4 → Rn sx L K0 R0 28 4 [vR (c0 + 2), vI x1, vI x2, vI x3, vI x4, u5] [] M Q) ∧ (¬ (M c0 9 ≤ x4) → Mq sx L K0 R0 25 [vR (c0 + 2), vI x4] M (fun rv M1 => ∃ r1, rv = some (vI r1) ∧ ((¬ r1 = (3 : Int) → Rn sx L K0 R0 28 2 [vR (c0 + 2), vI x1, vI x2, vI x3, vI x4, vI r1] [] M1 Q) ∧ (¬ (¬ r1 = (3 : Int)) → Mq sx L K0 R0 26 [vR (c0 + 2), vI x4] M1 (fun rv M2 => ∃ r2, rv = some (vI r2) ∧ ((¬ r2 = x2 → Rn sx L K0 R0 28 2 [vR (c0 + 2), vI x1, vI x2, vI x3, vI x4, vI r1] [] M2 Q) ∧ (¬ (¬ r2 = x2) → Q (some (vI x3)) M2)))))))) : Rn sx L K0 R0 28 1 [vR (c0 + 2), vI x1, vI x2, vI x3, vI x4, u5] [] M Q := by
  refine Rn_w (by decide) ?_
  show wpc sx L K0 R0 28 [(13, 2, .iload 4, []), (15, 1, .aload_n 0, []), (16, 3, .getfield 58, [1, 9, 286]), (19, 3, .if_icmp .ge 50, [4]), (22, 1, .aload_n 0, []), (23, 2, .iload 4, []), (25, 3, .invokevirtual 85, [25, 932, 1]), (28, 2, .istore 5, []), (30, 2, .iload 5, []), (32, 1, .iconst 3, []), (33, 3, .if_icmp .ne 15, [2]), (36, 1, .aload_n 0, []), (37, 2, .iload 4, []), (39, 3, .invokevirtual 88, [26, 933, 1]), (42, 1, .iload_n 2, []), (43, 3, .if_icmp .ne 5, [2]), (46, 1, .iload_n 3, []), (47, 1, .ireturn, [])] 0 [vR (c0 + 2), vI x1, vI x2, vI x3, vI x4, u5] [] M Q
  simp only [w_il_4, w_al_0, w_gf_1_9, kin_T (kpl h0), w_ic_ge, w_ivv_1 (c2I _) cs0, mk_25, rk_25, rvk1, List.cons_append, List.nil_append, w_is_5 (c2I _), w_il_5, w_iconst, w_ic_ne, mk_26, rk_26, w_il_2, w_il_3, w_ret1 rk_28, true_and, and_true, true_or, or_true]
  exact h
theorem b_28_2 {sx : Int → Int} {L : Nat} {c0 : Nat} {x1 : Int} {x2 : Int} {x3 : Int} {x4 : Int} {x5 : Int} {M : Mem} {Q : Option AV → Mem → Prop} (h0 : isPl c0)
    (h : (¬ x5 = (1 : Int) → Rn sx L K0 R0 28 3 [vR (c0 + 2), vI x1, vI x2, vI x3, vI x4, vI x5] [] M Q) ∧ (¬ (¬ x5 = (1 : Int)) → Mq sx L K0 R0 26 [vR (c0 + 2), vI x4] M (fun rv M1 => ∃ r1, rv = some (vI r1) ∧ (inR (x3 + r1) ∧ (Rn sx L K0 R0 28 3 [vR (c0 + 2), vI x1, vI x2, vI (x3 + r1), vI x4, vI x5] [] M1 Q))))) : Rn sx L K0 R0 28 2 [vR (c0 + 2), vI x1, vI x2, vI x3, vI x4, vI x5] [] M Q := by
  refine Rn_w (by decide) ?_
  show wpc sx L K0 R0 28 [(48, 2, .iload 5, []), (50, 1, .iconst 1, []), (51, 3, .if_icmp .ne 12, [3]), (54, 1, .iload_n 3, []), (55, 1, .aload_n 0, []), (56, 2, .iload 4, []), (58, 3, .invokevirtual 88, [26, 933, 1]), (61, 1, .iadd, []), (62, 1, .istore_n 3, [])] 3 [vR (c0 + 2), vI x1, vI x2, vI x3, vI x4, vI x5] [] M Q
  simp only [w_il_5, w_iconst, w_ic_ne, w_il_3, w_al_0, w_il_4, w_ivv_1 (c2I _) (cs1 _), mk_26, kin_T (kpl h0), rk_26, rvk1, List.cons_append, List.nil_append, w_iadd, w_is_3 (c2I _), w_fall, true_and, and_true, true_or, or_true]
  exact h
theorem b_28_3 {sx : Int → Int} {L : Nat} {c0 : Nat} {x1 : Int} {x2 : Int} {x3 : Int} {x4 : Int} {x5 : Int} {M : Mem} {Q : Option AV → Mem → Prop} (h0 : isPl c0)
    (h : inR (x4 + 1) ∧ (Rn sx L K0 R0 28 1 [vR (c0 + 2), vI x1, vI x2, vI x3, vI (x4 + 1), vI x5] [] M Q)) : Rn sx L K0 R0 28 3 [vR (c0 + 2), vI x1, vI x2, vI x3, vI x4, vI x5] [] M Q := by
  refine Rn_w (by decide) ?_
  show wpc sx L K0 R0 28 [(63, 3, .iinc 4 1, []), (66, 3, .goto (-53), [1])] 0 [vR (c0 + 2), vI x1, vI x2, vI x3, vI x4, vI x5] [] M Q
  simp only [w_inc_4 (c2I _), w_goto, true_and, and_true, true_or, or_true]
  exact h
theorem b_28_4 {sx : Int → Int} {L : Nat} {c0 : Nat} {x1 : Int} {x2 : Int} {x3 : Int} {x4 : Int} {u5 : AV} {M : Mem} {Q : Option AV → Mem → Prop} (h0 : isPl c0) (hu5 : cat2 u5 = false)
    (h : Q (some (vI x3)) M) : Rn sx L K0 R0 28 4 [vR (c0 + 2), vI x1, vI x2, vI x3, vI x4, u5] [] M Q := by
  refine Rn_w (by decide) ?_
  show wpc sx L K0 R0 28 [(69, 1, .iload_n 3, []), (70, 1, .ireturn, [])] 0 [vR (c0 + 2), vI x1, vI x2, vI x3, vI x4, u5] [] M Q
  simp only [w_il_3, w_ret1 rk_28, true_and, and_true, true_or, or_true]
  exact h
theorem b_30_0 {sx : Int → Int} {L : Nat} {x1 : Int} {M : Mem} {Q : Option AV → Mem → Prop} 
    (h : (¬ M 6 4 = (0 : Int) → Rn sx L K0 R0 30 1 [vR 53, vI x1] [] M Q) ∧ (¬ (¬ M 6 4 = (0 : Int)) → (¬ M 6 5 = (2 : Int) → Rn sx L K0 R0 30 1 [vR 53, vI x1] [] M Q) ∧ (¬ (¬ M 6 5 = (2 : Int)) → (¬ M 6 6 = (1 : Int) → Rn sx L K0 R0 30 1 [vR 53, vI x1] [] M Q) ∧ (¬ (¬ M 6 6 = (1 : Int)) → Mq sx L K0 R0 78 [vR 8, vI x1] M (fun rv M1 => ∃ r1, rv = some (vI r1) ∧ ((r1 = (0 : Int) → Rn sx L K0 R0 30 1 [vR 53, vI x1] [] M1 Q) ∧ (¬ (r1 = (0 : Int)) → Rn sx L K0 R0 30 2 [vR 53, vI x1] [vI 1] M1 Q))))))) : Rn sx L K0 R0 30 0 [vR 53, vI x1] [] M Q := by
  refine Rn_w (by decide) ?_
  show wpc sx L K0 R0 30 [(0, 1, .aload_n 0, []), (1, 3, .getfield 19, [2, 2, 356]), (4, 3, .getfield 23, [5, 4, 214]), (7, 3, .ifCond .ne 40, [1]), (10, 1, .aload_n 0, []), (11, 3, .getfield 19, [2, 2, 356]), (14, 3, .getfield 29, [5, 5, 218]), (17, 1, .iconst 2, []), (18, 3, .if_icmp .ne 29, [1]), (21, 1, .aload_n 0, []), (22, 3, .getfield 19, [2, 2, 356]), (25, 3, .getfield 32, [5, 6, 223]), (28, 1, .iconst 1, []), (29, 3, .if_icmp .ne 18, [1]), (32, 1, .aload_n 0, []), (33, 3, .getfield 19, [2, 2, 356]), (36, 1, .iload_n 1, []), (37, 3, .invokevirtual 35, [78, 909, 1]), (40, 3, .ifCond .eq 7, [1]), (43, 1, .iconst 1, []), (44, 3, .goto 4, [2])] 0 [vR 53, vI x1] [] M Q
  simp only [w_al_0, w_gf_2_2, kin_T (ks_51), rs_51_2, w_gf_5_4, kin_T (ks_6), w_if_ne, w_gf_5_5, w_iconst, w_ic_ne, w_gf_5_6, w_il_1, w_ivv_1 (c2I _) cs0, mk_78, rk_78, rvk2, List.cons_append, List.nil_append, w_if_eq, w_goto, true_and, and_true, true_or, or_true]
  exact h
theorem b_30_1 {sx : Int → Int} {L : Nat} {x1 : Int} {M : Mem} {Q : Option AV → Mem → Prop} 
    (h : Rn sx L K0 R0 30 2 [vR 53, vI x1] [vI 0] M Q) : Rn sx L K0 R0 30 1 [vR 53, vI x1] [] M Q := by
  refine Rn_w (by decide) ?_
  show wpc sx L K0 R0 30 [(47, 1, .iconst 0, [])] 2 [vR 53, vI x1] [] M Q
  simp only [w_iconst, w_fall, true_and, and_true, true_or, or_true]
  exact h
theorem b_30_2 {sx : Int → Int} {L : Nat} {x1 : Int} {y0 : Int} {M : Mem} {Q : Option AV → Mem → Prop} 
    (h : (y0 = 0 ∨ y0 = 1) ∧ (Q (some (vI y0)) M)) : Rn sx L K0 R0 30 2 [vR 53, vI x1] [vI y0] M Q := by
  refine Rn_w (by decide) ?_
  show wpc sx L K0 R0 30 [(48, 1, .ireturn, [])] 0 [vR 53, vI x1] [vI y0] M Q
  simp only [w_ret2 rk_30, true_and, and_true, true_or, or_true]
  exact h
theorem b_34_0 {sx : Int → Int} {L : Nat} {x1 : Int} {x2 : Int} {M : Mem} {Q : Option AV → Mem → Prop} 
    (h : Rn sx L K0 R0 34 1 [vR 53, vI x1, vI x2, vI 0, vI 0, vU] [] M Q) : Rn sx L K0 R0 34 0 [vR 53, vI x1, vI x2, vU, vU, vU] [] M Q := by
  refine Rn_w (by decide) ?_
  show wpc sx L K0 R0 34 [(0, 1, .iconst 0, []), (1, 1, .istore_n 3, []), (2, 1, .iconst 0, []), (3, 2, .istore 4, [])] 1 [vR 53, vI x1, vI x2, vU, vU, vU] [] M Q
  simp only [w_iconst, w_is_3 (c2I _), w_is_4 (c2I _), w_fall, true_and, and_true, true_or, or_true]
  exact h
set_option maxRecDepth 8192 in
theorem b_34_1 {sx : Int → Int} {L : Nat} {x1 : Int} {x2 : Int} {x3 : Int} {x4 : Int} {u5 : AV} {M : Mem} {Q : Option AV → Mem → Prop} (hu5 : cat2 u5 = false) (hj0 : 0 ≤ x4 ∧ x4 < 8)
    (h : ((8 : Int) ≤ x4 → Rn sx L K0 R0 34 3 [vR 53, vI x1, vI x2, vI x3, vI x4, u5] [] M Q) ∧ (¬ ((8 : Int) ≤ x4) → Mq sx L K0 R0 82 [vR 8, vI x4, vI x1] M (fun rv M1 => ∃ r1, rv = some (vI r1) ∧ ((r1 = (0 : Int) → Rn sx L K0 R0 34 2 [vR 53, vI x1, vI x2, vI x3, vI x4, u5] [] M1 Q) ∧ (¬ (r1 = (0 : Int)) → inR (x2 + (max (1 : Int) (M1 (plA x4) 4))) ∧ (inR ((x2 + (max (1 : Int) (M1 (plA x4) 4))) - 1) ∧ (((0 : Int) ≤ (x2 + (max (1 : Int) (M1 (plA x4) 4))) - 1 ∧ (0 : Int) < max (1 : Int) (M1 (plA x4) 4)) ∧ (inR ((M1 (plA x4) 10) * (((x2 + (max (1 : Int) (M1 (plA x4) 4))) - 1) / (max (1 : Int) (M1 (plA x4) 4)))) ∧ (inR (x3 + ((M1 (plA x4) 10) * (((x2 + (max (1 : Int) (M1 (plA x4) 4))) - 1) / (max (1 : Int) (M1 (plA x4) 4))))) ∧ (Rn sx L K0 R0 34 2 [vR 53, vI x1, vI x2, vI (x3 + ((M1 (plA x4) 10) * (((x2 + (max (1 : Int) (M1 (plA x4) 4))) - 1) / (max (1 : Int) (M1 (plA x4) 4))))), vI x4, vI (max (1 : Int) (M1 (plA x4) 4))] [] M1 Q)))))))))) : Rn sx L K0 R0 34 1 [vR 53, vI x1, vI x2, vI x3, vI x4, u5] [] M Q := by
  refine Rn_w (by decide) ?_
  show wpc sx L K0 R0 34 [(5, 2, .iload 4, []), (7, 2, .bipush 8, []), (9, 3, .if_icmp .ge 61, [3]), (12, 1, .aload_n 0, []), (13, 3, .getfield 19, [2, 2, 356]), (16, 2, .iload 4, []), (18, 1, .iload_n 1, []), (19, 3, .invokevirtual 56, [82, 923, 2]), (22, 3, .ifCond .eq 42, [2]), (25, 1, .iconst 1, []), (26, 1, .aload_n 0, []), (27, 3, .getfield 15, [2, 1, 355]), (30, 2, .iload 4, []), (32, 1, .aaload, []), (33, 3, .getfield 79, [1, 4, 276]), (36, 3, .invokestatic 64, [1002, 939]), (39, 2, .istore 5, []), (41, 1, .iload_n 3, []), (42, 1, .aload_n 0, []), (43, 3, .getfield 15, [2, 1, 355]), (46, 2, .iload 4, []), (48, 1, .aaload, []), (49, 3, .getfield 70, [1, 10, 291]), (52, 1, .iload_n 2, []), (53, 2, .iload 5, []), (55, 1, .iadd, []), (56, 1, .iconst 1, []), (57, 1, .isub, []), (58, 2, .iload 5, []), (60, 1, .idiv, []), (61, 1, .imul, []), (62, 1, .iadd, []), (63, 1, .istore_n 3, [])] 2 [vR 53, vI x1, vI x2, vI x3, vI x4, u5] [] M Q
  simp only [w_il_4, w_bipush, w_ic_ge, w_al_0, w_gf_2_2, kin_T (ks_51), rs_51_2, w_il_1, w_ivv_2 (c2I _) (c2I _) cs0, mk_82, kin_T (ks_6), rk_82, rvk2, List.cons_append, List.nil_append, w_if_eq, w_iconst, w_gf_2_1, rs_51_1, w_aald, rpls hj0.1 hj0.2, arq_T (ks_5) ⟨by decide, by decide⟩, hj0.1, (show x4 < ((8 : Nat) : Int) from hj0.2), w_gf_1_4, kin_T (kpl (isPl_A hj0.1 hj0.2)), w_max cs0, w_is_5 (c2I _), w_il_3, w_gf_1_10, w_il_2, w_il_5, w_iadd, w_isub, w_idiv, w_imul, w_is_3 (c2I _), w_fall, true_and, and_true, true_or, or_true]
  exact h
theorem b_34_2 {sx : Int → Int} {L : Nat} {x1 : Int} {x2 : Int} {x3 : Int} {x4 : Int} {u5 : AV} {M : Mem} {Q : Option AV → Mem → Prop} (hu5 : cat2 u5 = false)
    (h : inR (x4 + 1) ∧ (Rn sx L K0 R0 34 1 [vR 53, vI x1, vI x2, vI x3, vI (x4 + 1), u5] [] M Q)) : Rn sx L K0 R0 34 2 [vR 53, vI x1, vI x2, vI x3, vI x4, u5] [] M Q := by
  refine Rn_w (by decide) ?_
  show wpc sx L K0 R0 34 [(64, 3, .iinc 4 1, []), (67, 3, .goto (-62), [1])] 0 [vR 53, vI x1, vI x2, vI x3, vI x4, u5] [] M Q
  simp only [w_inc_4 (c2I _), w_goto, true_and, and_true, true_or, or_true]
  exact h
theorem b_34_3 {sx : Int → Int} {L : Nat} {x1 : Int} {x2 : Int} {x3 : Int} {x4 : Int} {u5 : AV} {M : Mem} {Q : Option AV → Mem → Prop} (hu5 : cat2 u5 = false)
    (h : Q (some (vI x3)) M) : Rn sx L K0 R0 34 3 [vR 53, vI x1, vI x2, vI x3, vI x4, u5] [] M Q := by
  refine Rn_w (by decide) ?_
  show wpc sx L K0 R0 34 [(70, 1, .iload_n 3, []), (71, 1, .ireturn, [])] 0 [vR 53, vI x1, vI x2, vI x3, vI x4, u5] [] M Q
  simp only [w_il_3, w_ret1 rk_34, true_and, and_true, true_or, or_true]
  exact h
theorem b_36_0 {sx : Int → Int} {L : Nat} {c0 : Nat} {c1 : Nat} {x2 : Int} {x3 : Int} {M : Mem} {Q : Option AV → Mem → Prop} (h0 : isRb c0) (h1 : isSt c1)
    (h : Mq sx L K0 R0 37 [vR (c0 + 2), vR (c1 + 2), vI x2] M (fun rv M1 => rv = none ∧ (Rn sx L K0 R0 36 1 [vR (c0 + 2), vR (c1 + 2), vI x2, vI x3, vI 0] [] M1 Q))) : Rn sx L K0 R0 36 0 [vR (c0 + 2), vR (c1 + 2), vI x2, vI x3, vU] [] M Q := by
  refine Rn_w (by decide) ?_
  show wpc sx L K0 R0 36 [(0, 1, .aload_n 0, []), (1, 1, .aload_n 1, []), (2, 1, .iload_n 2, []), (3, 3, .invokevirtual 41, [37, 733, 2]), (6, 1, .iconst 0, []), (7, 2, .istore 4, [])] 1 [vR (c0 + 2), vR (c1 + 2), vI x2, vI x3, vU] [] M Q
  simp only [w_al_0, w_al_1, w_il_2, w_ivv_2 (c2I _) (c2R _) cs0, mk_37, kin_T (krb h0), rk_37, rvk0, List.nil_append, w_iconst, w_is_4 (c2I _), w_fall, true_and, and_true, true_or, or_true]
  exact h
theorem b_36_1 {sx : Int → Int} {L : Nat} {c0 : Nat} {c1 : Nat} {x2 : Int} {x3 : Int} {x4 : Int} {M : Mem} {Q : Option AV → Mem → Prop} (h0 : isRb c0) (h1 : isSt c1)
    (h : (M c0 10 ≤ x4 → Rn sx L K0 R0 36 3 [vR (c0 + 2), vR (c1 + 2), vI x2, vI x3, vI x4] [] M Q) ∧ (¬ (M c0 10 ≤ x4) → Mq sx L K0 R0 39 [vR (c0 + 2), vI x4] M (fun rv M1 => rv = none ∧ (Mq sx L K0 R0 40 [vR (c0 + 2), vI x4] M1 (fun rv M2 => rv = none ∧ (Mq sx L K0 R0 47 [vR (c0 + 2), vI x4] M2 (fun rv M3 => rv = none ∧ (Mq sx L K0 R0 49 [vR (c0 + 2), vI x4] M3 (fun rv M4 => rv = none ∧ ((x3 = (0 : Int) → Rn sx L K0 R0 36 2 [vR (c0 + 2), vR (c1 + 2), vI x2, vI x3, vI x4] [] M4 Q) ∧ (¬ (x3 = (0 : Int)) → (M4 c0 17 = (0 : Int) → Rn sx L K0 R0 36 2 [vR (c0 + 2), vR (c1 + 2), vI x2, vI x3, vI x4] [] M4 Q) ∧ (¬ (M4 c0 17 = (0 : Int)) → Q none M4)))))))))))) : Rn sx L K0 R0 36 1 [vR (c0 + 2), vR (c1 + 2), vI x2, vI x3, vI x4] [] M Q := by
  refine Rn_w (by decide) ?_
  show wpc sx L K0 R0 36 [(9, 2, .iload 4, []), (11, 1, .aload_n 0, []), (12, 3, .getfield 45, [3, 10, 458]), (15, 3, .if_icmp .ge 45, [3]), (18, 1, .aload_n 0, []), (19, 2, .iload 4, []), (21, 3, .invokevirtual 48, [39, 748, 1]), (24, 1, .aload_n 0, []), (25, 2, .iload 4, []), (27, 3, .invokevirtual 52, [40, 768, 1]), (30, 1, .aload_n 0, []), (31, 2, .iload 4, []), (33, 3, .invokevirtual 55, [47, 813, 1]), (36, 1, .aload_n 0, []), (37, 2, .iload 4, []), (39, 3, .invokevirtual 58, [49, 822, 1]), (42, 1, .iload_n 3, []), (43, 3, .ifCond .eq 11, [2]), (46, 1, .aload_n 0, []), (47, 3, .getfield 61, [3, 17, 468]), (50, 3, .ifCond .eq 4, [2]), (53, 1, .return_, [])] 0 [vR (c0 + 2), vR (c1 + 2), vI x2, vI x3, vI x4] [] M Q
  simp only [w_il_4, w_al_0, w_gf_3_10, kin_T (krb h0), w_ic_ge, w_ivv_1 (c2I _) cs0, mk_39, rk_39, rvk0, List.nil_append, mk_40, rk_40, mk_47, rk_47, mk_49, rk_49, w_il_3, w_if_eq, w_gf_3_17, w_ret0 rk_36, true_and, and_true, true_or, or_true]
  exact h
theorem b_36_2 {sx : Int → Int} {L : Nat} {c0 : Nat} {c1 : Nat} {x2 : Int} {x3 : Int} {x4 : Int} {M : Mem} {Q : Option AV → Mem → Prop} (h0 : isRb c0) (h1 : isSt c1)
    (h : inR (x4 + 1) ∧ (Rn sx L K0 R0 36 1 [vR (c0 + 2), vR (c1 + 2), vI x2, vI x3, vI (x4 + 1)] [] M Q)) : Rn sx L K0 R0 36 2 [vR (c0 + 2), vR (c1 + 2), vI x2, vI x3, vI x4] [] M Q := by
  refine Rn_w (by decide) ?_
  show wpc sx L K0 R0 36 [(54, 3, .iinc 4 1, []), (57, 3, .goto (-48), [1])] 0 [vR (c0 + 2), vR (c1 + 2), vI x2, vI x3, vI x4] [] M Q
  simp only [w_inc_4 (c2I _), w_goto, true_and, and_true, true_or, or_true]
  exact h
theorem b_36_3 {sx : Int → Int} {L : Nat} {c0 : Nat} {c1 : Nat} {x2 : Int} {x3 : Int} {x4 : Int} {M : Mem} {Q : Option AV → Mem → Prop} (h0 : isRb c0) (h1 : isSt c1)
    (h : Rn sx L K0 R0 36 4 [vR (c0 + 2), vR (c1 + 2), vI x2, vI x3, vI 0] [] M Q) : Rn sx L K0 R0 36 3 [vR (c0 + 2), vR (c1 + 2), vI x2, vI x3, vI x4] [] M Q := by
  refine Rn_w (by decide) ?_
  show wpc sx L K0 R0 36 [(60, 1, .iconst 0, []), (61, 2, .istore 4, [])] 4 [vR (c0 + 2), vR (c1 + 2), vI x2, vI x3, vI x4] [] M Q
  simp only [w_iconst, w_is_4 (c2I _), w_fall, true_and, and_true, true_or, or_true]
  exact h
theorem b_36_4 {sx : Int → Int} {L : Nat} {c0 : Nat} {c1 : Nat} {x2 : Int} {x3 : Int} {x4 : Int} {M : Mem} {Q : Option AV → Mem → Prop} (h0 : isRb c0) (h1 : isSt c1) (hj0 : 0 ≤ x4 ∧ x4 < 8)
    (h : ((8 : Int) ≤ x4 → Rn sx L K0 R0 36 6 [vR (c0 + 2), vR (c1 + 2), vI x2, vI x3, vI x4] [] M Q) ∧ (¬ ((8 : Int) ≤ x4) → Mq sx L K0 R0 12 [vR (ckA c0 x4 + 2), vI (M c0 10)] M (fun rv M1 => ∃ r1, rv = some (vI r1) ∧ ((r1 = (0 : Int) → Rn sx L K0 R0 36 5 [vR (c0 + 2), vR (c1 + 2), vI x2, vI x3, vI x4] [] M1 Q) ∧ (¬ (r1 = (0 : Int)) → Rn sx L K0 R0 36 5 [vR (c0 + 2), vR (c1 + 2), vI x2, vI x3, vI x4] [] (mset M1 c0 17 1) Q))))) : Rn sx L K0 R0 36 4 [vR (c0 + 2), vR (c1 + 2), vI x2, vI x3, vI x4] [] M Q := by
  refine Rn_w (by decide) ?_
  show wpc sx L K0 R0 36 [(63, 2, .iload 4, []), (65, 2, .bipush 8, []), (67, 3, .if_icmp .ge 31, [6]), (70, 1, .aload_n 0, []), (71, 3, .getfield 11, [3, 1, 445]), (74, 2, .iload 4, []), (76, 1, .aaload, []), (77, 1, .aload_n 0, []), (78, 3, .getfield 45, [3, 10, 458]), (81, 3, .invokevirtual 65, [12, 832, 1]), (84, 3, .ifCond .eq 8, [5]), (87, 1, .aload_n 0, []), (88, 1, .iconst 1, []), (89, 3, .putfield 61, [3, 17, 468])] 5 [vR (c0 + 2), vR (c1 + 2), vI x2, vI x3, vI x4] [] M Q
  simp only [w_il_4, w_bipush, w_ic_ge, w_al_0, w_gf_3_1, kin_T (krb h0), rrb1 h0, w_aald, rcks h0 hj0.1 hj0.2, arq_T ((krb1 h0)) ⟨by decide, by decide⟩, hj0.1, (show x4 < ((8 : Nat) : Int) from hj0.2), w_gf_3_10, w_ivv_1 (c2I _) cs0, mk_12, kin_T (kck (isCk_A h0 hj0.1 hj0.2)), rk_12, rvk2, List.cons_append, List.nil_append, w_if_eq, w_iconst, w_pf_3_17, b01_1, w_fall, true_and, and_true, true_or, or_true]
  exact h
theorem b_36_5 {sx : Int → Int} {L : Nat} {c0 : Nat} {c1 : Nat} {x2 : Int} {x3 : Int} {x4 : Int} {M : Mem} {Q : Option AV → Mem → Prop} (h0 : isRb c0) (h1 : isSt c1)
    (h : inR (x4 + 1) ∧ (Rn sx L K0 R0 36 4 [vR (c0 + 2), vR (c1 + 2), vI x2, vI x3, vI (x4 + 1)] [] M Q)) : Rn sx L K0 R0 36 5 [vR (c0 + 2), vR (c1 + 2), vI x2, vI x3, vI x4] [] M Q := by
  refine Rn_w (by decide) ?_
  show wpc sx L K0 R0 36 [(92, 3, .iinc 4 1, []), (95, 3, .goto (-32), [4])] 0 [vR (c0 + 2), vR (c1 + 2), vI x2, vI x3, vI x4] [] M Q
  simp only [w_inc_4 (c2I _), w_goto, true_and, and_true, true_or, or_true]
  exact h
theorem b_36_6 {sx : Int → Int} {L : Nat} {c0 : Nat} {c1 : Nat} {x2 : Int} {x3 : Int} {x4 : Int} {M : Mem} {Q : Option AV → Mem → Prop} (h0 : isRb c0) (h1 : isSt c1)
    (h : Q none M) : Rn sx L K0 R0 36 6 [vR (c0 + 2), vR (c1 + 2), vI x2, vI x3, vI x4] [] M Q := by
  refine Rn_w (by decide) ?_
  show wpc sx L K0 R0 36 [(98, 1, .return_, [])] 0 [vR (c0 + 2), vR (c1 + 2), vI x2, vI x3, vI x4] [] M Q
  simp only [w_ret0 rk_36, true_and, and_true, true_or, or_true]
  exact h
set_option maxRecDepth 8192 in
theorem b_37_0 {sx : Int → Int} {L : Nat} {c0 : Nat} {c1 : Nat} {x2 : Int} {M : Mem} {Q : Option AV → Mem → Prop} (h0 : isRb c0) (h1 : isSt c1)
    (h : Rn sx L K0 R0 37 1 [vR (c0 + 2), vR (c1 + 2), vI x2, vI 0, vU] [] (mset (mset (mset (mset (mset (mset (mset (mset M c0 6 (M c1 0)) c0 7 ((mset M c0 6 (M c1 0)) c1 4)) c0 8 ((mset (mset M c0 6 (M c1 0)) c0 7 ((mset M c0 6 (M c1 0)) c1 4)) c1 5)) c0 9 (min ((mset (mset (mset M c0 6 (M c1 0)) c0 7 ((mset M c0 6 (M c1 0)) c1 4)) c0 8 ((mset (mset M c0 6 (M c1 0)) c0 7 ((mset M c0 6 (M c1 0)) c1 4)) c1 5)) c1 6) (3 : Int))) c0 10 (min x2 (120 : Int))) c0 15 (-1)) c0 16 0) c0 17 0) Q) : Rn sx L K0 R0 37 0 [vR (c0 + 2), vR (c1 + 2), vI x2, vU, vU] [] M Q := by
  refine Rn_w (by decide) ?_
  show wpc sx L K0 R0 37 [(0, 1, .aload_n 0, []), (1, 1, .aload_n 1, []), (2, 3, .getfield 69, [5, 0, 201]), (5, 3, .putfield 74, [3, 6, 454]), (8, 1, .aload_n 0, []), (9, 1, .aload_n 1, []), (10, 3, .getfield 75, [5, 4, 216]), (13, 3, .putfield 78, [3, 7, 455]), (16, 1, .aload_n 0, []), (17, 1, .aload_n 1, []), (18, 3, .getfield 79, [5, 5, 220]), (21, 3, .putfield 82, [3, 8, 456]), (24, 1, .aload_n 0, []), (25, 1, .aload_n 1, []), (26, 3, .getfield 83, [5, 6, 224]), (29, 1, .iconst 3, []), (30, 3, .invokestatic 86, [1003, 737]), (33, 3, .putfield 92, [3, 9, 457]), (36, 1, .aload_n 0, []), (37, 1, .iload_n 2, []), (38, 2, .bipush 120, []), (40, 3, .invokestatic 86, [1003, 737]), (43, 3, .putfield 45, [3, 10, 458]), (46, 1, .aload_n 0, []), (47, 1, .iconst (-1), []), (48, 3, .putfield 30, [3, 15, 463]), (51, 1, .aload_n 0, []), (52, 1, .iconst 0, []), (53, 3, .putfield 93, [3, 16, 466]), (56, 1, .aload_n 0, []), (57, 1, .iconst 0, []), (58, 3, .putfield 61, [3, 17, 468]), (61, 1, .iconst 0, []), (62, 1, .istore_n 3, [])] 1 [vR (c0 + 2), vR (c1 + 2), vI x2, vU, vU] [] M Q
  simp only [w_al_0, w_al_1, w_gf_5_0, kin_T (kst h1), w_pf_3_6, kin_T (krb h0), w_gf_5_4, w_pf_3_7, w_gf_5_5, w_pf_3_8, w_gf_5_6, w_iconst, w_min (cs1 _), w_pf_3_9, w_il_2, w_bipush, w_pf_3_10, w_pf_3_15, w_pf_3_16, w_pf_3_17, b01_0, w_is_3 (c2I _), w_fall, true_and, and_true, true_or, or_true]
  exact h
set_option maxRecDepth 8192 in
theorem b_37_1 {sx : Int → Int} {L : Nat} {c0 : Nat} {c1 : Nat} {x2 : Int} {x3 : Int} {u4 : AV} {M : Mem} {Q : Option AV → Mem → Prop} (h0 : isRb c0) (h1 : isSt c1) (hu4 : cat2 u4 = false) (hj0 : 0 ≤ x3 ∧ x3 < 8)
    (h : ((8 : Int) ≤ x3 → Rn sx L K0 R0 37 3 [vR (c0 + 2), vR (c1 + 2), vI x2, vI x3, u4] [] M Q) ∧ (¬ ((8 : Int) ≤ x3) → inR ((M (plC (ckA c0 x3)) 6) + (M (c1 + 3) x3)) ∧ (Mq sx L K0 R0 1 [vR (ckA c0 x3 + 2), vI ((M (plC (ckA c0 x3)) 6) + (M (c1 + 3) x3)), vI (M (c1 + 1) x3)] M (fun rv M1 => rv = none ∧ ((¬ x3 = M1 c1 8 → Rn sx L K0 R0 37 2 [vR (c0 + 2), vR (c1 + 2), vI x2, vI x3, vR (ckA c0 x3 + 2)] [] M1 Q) ∧ (¬ (¬ x3 = M1 c1 8) → Rn sx L K0 R0 37 2 [vR (c0 + 2), vR (c1 + 2), vI x2, vI x3, vR (ckA c0 x3 + 2)] [] (mset (mset M1 (ckA c0 x3) 4 (M1 c1 9)) (ckA c0 x3) 5 ((mset M1 (ckA c0 x3) 4 (M1 c1 9)) c1 10)) Q)))))) : Rn sx L K0 R0 37 1 [vR (c0 + 2), vR (c1 + 2), vI x2, vI x3, u4] [] M Q := by
  refine Rn_w (by decide) ?_
  show wpc sx L K0 R0 37 [(63, 1, .iload_n 3, []), (64, 2, .bipush 8, []), (66, 3, .if_icmp .ge 69, [3]), (69, 1, .aload_n 0, []), (70, 3, .getfield 11, [3, 1, 445]), (73, 1, .iload_n 3, []), (74, 1, .aaload, []), (75, 2, .astore 4, []), (77, 2, .aload 4, []), (79, 2, .aload 4, []), (81, 3, .getfield 96, [0, 0, 378]), (84, 3, .getfield 100, [1, 6, 282]), (87, 1, .aload_n 1, []), (88, 3, .getfield 105, [5, 3, 212]), (91, 1, .iload_n 3, []), (92, 1, .iaload, []), (93, 1, .iadd, []), (94, 1, .aload_n 1, []), (95, 3, .getfield 108, [5, 1, 206]), (98, 1, .iload_n 3, []), (99, 1, .iaload, []), (100, 3, .invokevirtual 111, [1, 740, 2]), (103, 1, .iload_n 3, []), (104, 1, .aload_n 1, []), (105, 3, .getfield 114, [5, 8, 230]), (108, 3, .if_icmp .ne 21, [2]), (111, 2, .aload 4, []), (113, 1, .aload_n 1, []), (114, 3, .getfield 117, [5, 9, 233]), (117, 3, .putfield 120, [0, 4, 384]), (120, 2, .aload 4, []), (122, 1, .aload_n 1, []), (123, 3, .getfield 121, [5, 10, 236]), (126, 3, .putfield 124, [0, 5, 386])] 2 [vR (c0 + 2), vR (c1 + 2), vI x2, vI x3, u4] [] M Q
  simp only [w_il_3, w_bipush, w_ic_ge, w_al_0, w_gf_3_1, kin_T (krb h0), rrb1 h0, w_aald, rcks h0 hj0.1 hj0.2, arq_T ((krb1 h0)) ⟨by decide, by decide⟩, hj0.1, (show x3 < ((8 : Nat) : Int) from hj0.2), w_as_4 (c2I _), w_al_4, w_gf_0_0, kin_T (kck (isCk_A h0 hj0.1 hj0.2)), rck0 (isCk_A h0 hj0.1 hj0.2), w_gf_1_6, kin_T (kpl (pl_ck (isCk_A h0 hj0.1 hj0.2))), w_al_1, w_gf_5_3, kin_T (kst h1), rst3 h1, w_iald, arr_T ((kst3 h1)), w_iadd, w_gf_5_1, rst1 h1, arr_T ((kst1 h1)), w_ivv_2 (c2I _) (c2I _) cs0, mk_1, rk_1, rvk0, List.nil_append, w_gf_5_8, w_ic_ne, w_gf_5_9, w_pf_0_4, w_gf_5_10, w_pf_0_5, w_fall, true_and, and_true, true_or, or_true]
  exact h
theorem b_37_2 {sx : Int → Int} {L : Nat} {c0 : Nat} {c1 : Nat} {x2 : Int} {x3 : Int} {c4 : Nat} {M : Mem} {Q : Option AV → Mem → Prop} (h0 : isRb c0) (h1 : isSt c1) (h4 : isCk c4)
    (h : inR (x3 + 1) ∧ (Rn sx L K0 R0 37 1 [vR (c0 + 2), vR (c1 + 2), vI x2, vI (x3 + 1), vR (c4 + 2)] [] M Q)) : Rn sx L K0 R0 37 2 [vR (c0 + 2), vR (c1 + 2), vI x2, vI x3, vR (c4 + 2)] [] M Q := by
  refine Rn_w (by decide) ?_
  show wpc sx L K0 R0 37 [(129, 3, .iinc 3 1, []), (132, 3, .goto (-69), [1])] 0 [vR (c0 + 2), vR (c1 + 2), vI x2, vI x3, vR (c4 + 2)] [] M Q
  simp only [w_inc_3 (c2I _), w_goto, true_and, and_true, true_or, or_true]
  exact h
theorem b_37_3 {sx : Int → Int} {L : Nat} {c0 : Nat} {c1 : Nat} {x2 : Int} {x3 : Int} {u4 : AV} {M : Mem} {Q : Option AV → Mem → Prop} (h0 : isRb c0) (h1 : isSt c1) (hu4 : cat2 u4 = false)
    (h : (¬ M c0 8 = (2 : Int) → Rn sx L K0 R0 37 4 [vR (c0 + 2), vR (c1 + 2), vI x2, vI x3, u4] [] M Q) ∧ (¬ (¬ M c0 8 = (2 : Int)) → Mq sx L K0 R0 38 [vR (c0 + 2)] M (fun rv M1 => rv = none ∧ (Rn sx L K0 R0 37 4 [vR (c0 + 2), vR (c1 + 2), vI x2, vI x3, u4] [] M1 Q)))) : Rn sx L K0 R0 37 3 [vR (c0 + 2), vR (c1 + 2), vI x2, vI x3, u4] [] M Q := by
  refine Rn_w (by decide) ?_
  show wpc sx L K0 R0 37 [(135, 1, .aload_n 0, []), (136, 3, .getfield 82, [3, 8, 456]), (139, 1, .iconst 2, []), (140, 3, .if_icmp .ne 7, [4]), (143, 1, .aload_n 0, []), (144, 3, .invokevirtual 125, [38, 744, 0])] 4 [vR (c0 + 2), vR (c1 + 2), vI x2, vI x3, u4] [] M Q
  simp only [w_al_0, w_gf_3_8, kin_T (krb h0), w_iconst, w_ic_ne, w_ivv_0  cs0, mk_38, rk_38, rvk0, List.nil_append, w_fall, true_and, and_true, true_or, or_true]
  exact h
theorem b_37_4 {sx : Int → Int} {L : Nat} {c0 : Nat} {c1 : Nat} {x2 : Int} {x3 : Int} {u4 : AV} {M : Mem} {Q : Option AV → Mem → Prop} (h0 : isRb c0) (h1 : isSt c1) (hu4 : cat2 u4 = false)
    (h : Q none M) : Rn sx L K0 R0 37 4 [vR (c0 + 2), vR (c1 + 2), vI x2, vI x3, u4] [] M Q := by
  refine Rn_w (by decide) ?_
  show wpc sx L K0 R0 37 [(147, 1, .return_, [])] 0 [vR (c0 + 2), vR (c1 + 2), vI x2, vI x3, u4] [] M Q
  simp only [w_ret0 rk_37, true_and, and_true, true_or, or_true]
  exact h
theorem b_38_0 {sx : Int → Int} {L : Nat} {c0 : Nat} {M : Mem} {Q : Option AV → Mem → Prop} (h0 : isRb c0)
    (h : Rn sx L K0 R0 38 1 [vR (c0 + 2), vI 0, vU] [] M Q) : Rn sx L K0 R0 38 0 [vR (c0 + 2), vU, vU] [] M Q := by
  refine Rn_w (by decide) ?_
  show wpc sx L K0 R0 38 [(0, 1, .iconst 0, []), (1, 1, .istore_n 1, [])] 1 [vR (c0 + 2), vU, vU] [] M Q
  simp only [w_iconst, w_is_1 (c2R _), w_fall, true_and, and_true, true_or, or_true]
  exact h
theorem b_38_1 {sx : Int → Int} {L : Nat} {c0 : Nat} {x1 : Int} {u2 : AV} {M : Mem} {Q : Option AV → Mem → Prop} (h0 : isRb c0) (hu2 : cat2 u2 = false)
    (h : ((8 : Int) ≤ x1 → Rn sx L K0 R0 38 5 [vR (c0 + 2), vI x1, u2] [] M Q) ∧ (¬ ((8 : Int) ≤ x1) → Rn sx L K0 R0 38 2 [vR (c0 + 2), vI x1, vI 0] [] M Q)) : Rn sx L K0 R0 38 1 [vR (c0 + 2), vI x1, u2] [] M Q := by
  refine Rn_w (by decide) ?_
  show wpc sx L K0 R0 38 [(2, 1, .iload_n 1, []), (3, 2, .bipush 8, []), (5, 3, .if_icmp .ge 81, [5]), (8, 1, .iconst 0, []), (9, 1, .istore_n 2, [])] 2 [vR (c0 + 2), vI x1, u2] [] M Q
  simp only [w_il_1, w_bipush, w_ic_ge, w_iconst, w_is_2 (c2I _), w_fall, true_and, and_true, true_or, or_true]
  exact h
set_option maxRecDepth 8192 in
theorem b_38_2 {sx : Int → Int} {L : Nat} {c0 : Nat} {x1 : Int} {x2 : Int} {M : Mem} {Q : Option AV → Mem → Prop} (h0 : isRb c0) (hj0 : 0 ≤ x2 ∧ x2 < 8) (hj1 : 0 ≤ x1 ∧ x1 < 8)
    (h : ((8 : Int) ≤ x2 → Rn sx L K0 R0 38 4 [vR (c0 + 2), vI x1, vI x2] [] M Q) ∧ (¬ ((8 : Int) ≤ x2) → ((0 : Int) ≤ M c0 6 ∧ x2 ≤ (30 : Int)) ∧ ((iAnd ((M c0 6) / 2 ^ (x2).toNat) 1 = (0 : Int) → Rn sx L K0 R0 38 3 [vR (c0 + 2), vI x1, vI x2] [] M Q) ∧ (¬ (iAnd ((M c0 6) / 2 ^ (x2).toNat) 1 = (0 : Int)) → (M (ckA c0 x2) 3 < M (ckA c0 x1) 3 → Rn sx L K0 R0 38 3 [vR (c0 + 2), vI x1, vI x2] [] M Q) ∧ (¬ (M (ckA c0 x2) 3 < M (ckA c0 x1) 3) → Rn sx L K0 R0 38 3 [vR (c0 + 2), vI x1, vI x2] [] (mset M (ckA c0 x1) 17 (iOr (M (ckA c0 x1) 17) (M (plC (ckA c0 x2)) 11))) Q))))) : Rn sx L K0 R0 38 2 [vR (c0 + 2), vI x1, vI x2] [] M Q := by
  refine Rn_w (by decide) ?_
  show wpc sx L K0 R0 38 [(10, 1, .iload_n 2, []), (11, 2, .bipush 8, []), (13, 3, .if_icmp .ge 67, [4]), (16, 1, .aload_n 0, []), (17, 3, .getfield 74, [3, 6, 454]), (20, 1, .iload_n 2, []), (21, 1, .ishr, []), (22, 1, .iconst 1, []), (23, 1, .iand, []), (24, 3, .ifCond .eq 50, [3]), (27, 1, .aload_n 0, []), (28, 3, .getfield 11, [3, 1, 445]), (31, 1, .iload_n 2, []), (32, 1, .aaload, []), (33, 3, .getfield 128, [0, 3, 382]), (36, 1, .aload_n 0, []), (37, 3, .getfield 11, [3, 1, 445]), (40, 1, .iload_n 1, []), (41, 1, .aaload, []), (42, 3, .getfield 128, [0, 3, 382]), (45, 3, .if_icmp .lt 29, [3]), (48, 1, .aload_n 0, []), (49, 3, .getfield 11, [3, 1, 445]), (52, 1, .iload_n 1, []), (53, 1, .aaload, []), (54, 1, .dup, []), (55, 3, .getfield 130, [0, 17, 406]), (58, 1, .aload_n 0, []), (59, 3, .getfield 11, [3, 1, 445]), (62, 1, .iload_n 2, []), (63, 1, .aaload, []), (64, 3, .getfield 96, [0, 0, 378]), (67, 3, .getfield 133, [1, 11, 295]), (70, 1, .ior, []), (71, 3, .putfield 130, [0, 17, 406])] 3 [vR (c0 + 2), vI x1, vI x2] [] M Q
  simp only [w_il_2, w_bipush, w_ic_ge, w_al_0, w_gf_3_6, kin_T (krb h0), w_ishr, w_iconst, w_iand, w_if_eq, w_gf_3_1, rrb1 h0, w_aald, rcks h0 hj0.1 hj0.2, arq_T ((krb1 h0)) ⟨by decide, by decide⟩, hj0.1, (show x2 < ((8 : Nat) : Int) from hj0.2), w_gf_0_3, kin_T (kck (isCk_A h0 hj0.1 hj0.2)), w_il_1, rcks h0 hj1.1 hj1.2, hj1.1, (show x1 < ((8 : Nat) : Int) from hj1.2), kin_T (kck (isCk_A h0 hj1.1 hj1.2)), w_ic_lt, w_dup (c2R _), w_gf_0_17, w_gf_0_0, rck0 (isCk_A h0 hj0.1 hj0.2), w_gf_1_11, kin_T (kpl (pl_ck (isCk_A h0 hj0.1 hj0.2))), w_ior, w_pf_0_17, w_fall, true_and, and_true, true_or, or_true]
  exact h
theorem b_38_3 {sx : Int → Int} {L : Nat} {c0 : Nat} {x1 : Int} {x2 : Int} {M : Mem} {Q : Option AV → Mem → Prop} (h0 : isRb c0)
    (h : inR (x2 + 1) ∧ (Rn sx L K0 R0 38 2 [vR (c0 + 2), vI x1, vI (x2 + 1)] [] M Q)) : Rn sx L K0 R0 38 3 [vR (c0 + 2), vI x1, vI x2] [] M Q := by
  refine Rn_w (by decide) ?_
  show wpc sx L K0 R0 38 [(74, 3, .iinc 2 1, []), (77, 3, .goto (-67), [2])] 0 [vR (c0 + 2), vI x1, vI x2] [] M Q
  simp only [w_inc_2 (c2I _), w_goto, true_and, and_true, true_or, or_true]
  exact h
theorem b_38_4 {sx : Int → Int} {L : Nat} {c0 : Nat} {x1 : Int} {x2 : Int} {M : Mem} {Q : Option AV → Mem → Prop} (h0 : isRb c0)
    (h : inR (x1 + 1) ∧ (Rn sx L K0 R0 38 1 [vR (c0 + 2), vI (x1 + 1), vI x2] [] M Q)) : Rn sx L K0 R0 38 4 [vR (c0 + 2), vI x1, vI x2] [] M Q := by
  refine Rn_w (by decide) ?_
  show wpc sx L K0 R0 38 [(80, 3, .iinc 1 1, []), (83, 3, .goto (-81), [1])] 0 [vR (c0 + 2), vI x1, vI x2] [] M Q
  simp only [w_inc_1 (c2R _), w_goto, true_and, and_true, true_or, or_true]
  exact h
theorem b_38_5 {sx : Int → Int} {L : Nat} {c0 : Nat} {x1 : Int} {u2 : AV} {M : Mem} {Q : Option AV → Mem → Prop} (h0 : isRb c0) (hu2 : cat2 u2 = false)
    (h : Q none M) : Rn sx L K0 R0 38 5 [vR (c0 + 2), vI x1, u2] [] M Q := by
  refine Rn_w (by decide) ?_
  show wpc sx L K0 R0 38 [(86, 1, .return_, [])] 0 [vR (c0 + 2), vI x1, u2] [] M Q
  simp only [w_ret0 rk_38, true_and, and_true, true_or, or_true]
  exact h
theorem b_39_0 {sx : Int → Int} {L : Nat} {c0 : Nat} {x1 : Int} {M : Mem} {Q : Option AV → Mem → Prop} (h0 : isRb c0)
    (h : Rn sx L K0 R0 39 1 [vR (c0 + 2), vI x1, vI 0, vU] [] (mset M c0 11 0) Q) : Rn sx L K0 R0 39 0 [vR (c0 + 2), vI x1, vU, vU] [] M Q := by
  refine Rn_w (by decide) ?_
  show wpc sx L K0 R0 39 [(0, 1, .aload_n 0, []), (1, 1, .iconst 0, []), (2, 3, .putfield 136, [3, 11, 459]), (5, 1, .iconst 0, []), (6, 1, .istore_n 2, [])] 1 [vR (c0 + 2), vI x1, vU, vU] [] M Q
  simp only [w_al_0, w_iconst, w_pf_3_11, kin_T (krb h0), w_is_2 (c2I _), w_fall, true_and, and_true, true_or, or_true]
  exact h
set_option maxRecDepth 8192 in
theorem b_39_1 {sx : Int → Int} {L : Nat} {c0 : Nat} {x1 : Int} {x2 : Int} {u3 : AV} {M : Mem} {Q : Option AV → Mem → Prop} (h0 : isRb c0) (hu3 : cat2 u3 = false) (hj0 : 0 ≤ x2 ∧ x2 < 8)
    (h : ((8 : Int) ≤ x2 → Rn sx L K0 R0 39 3 [vR (c0 + 2), vI x1, vI x2, u3] [] M Q) ∧ (¬ ((8 : Int) ≤ x2) → ((0 : Int) ≤ M c0 6 ∧ x2 ≤ (30 : Int)) ∧ ((iAnd ((M c0 6) / 2 ^ (x2).toNat) 1 = (0 : Int) → Rn sx L K0 R0 39 2 [vR (c0 + 2), vI x1, vI x2, u3] [] M Q) ∧ (¬ (iAnd ((M c0 6) / 2 ^ (x2).toNat) 1 = (0 : Int)) → Mq sx L K0 R0 4 [vR (ckA c0 x2 + 2), vI x1] M (fun rv M1 => rv = none ∧ (Mq sx L K0 R0 5 [vR (ckA c0 x2 + 2), vI (M1 c0 7)] M1 (fun rv M2 => rv = none ∧ ((M2 (ckA c0 x2) 8 = (-1 : Int) → Rn sx L K0 R0 39 2 [vR (c0 + 2), vI x1, vI x2, vR (ckA c0 x2 + 2)] [] M2 Q) ∧ (¬ (M2 (ckA c0 x2) 8 = (-1 : Int)) → ((0 : Int) ≤ (1 : Int) ∧ x2 ≤ (30 : Int) ∧ (1 : Int) * 2 ^ (x2).toNat ≤ (2147483647 : Int)) ∧ (Rn sx L K0 R0 39 2 [vR (c0 + 2), vI x1, vI x2, vR (ckA c0 x2 + 2)] [] (mset M2 c0 11 (iOr (M2 c0 11) ((1 : Int) * 2 ^ (x2).toNat))) Q)))))))))) : Rn sx L K0 R0 39 1 [vR (c0 + 2), vI x1, vI x2, u3] [] M Q := by
  refine Rn_w (by decide) ?_
  show wpc sx L K0 R0 39 [(7, 1, .iload_n 2, []), (8, 2, .bipush 8, []), (10, 3, .if_icmp .ge 60, [3]), (13, 1, .aload_n 0, []), (14, 3, .getfield 74, [3, 6, 454]), (17, 1, .iload_n 2, []), (18, 1, .ishr, []), (19, 1, .iconst 1, []), (20, 1, .iand, []), (21, 3, .ifCond .eq 43, [2]), (24, 1, .aload_n 0, []), (25, 3, .getfield 11, [3, 1, 445]), (28, 1, .iload_n 2, []), (29, 1, .aaload, []), (30, 1, .astore_n 3, []), (31, 1, .aload_n 3, []), (32, 1, .iload_n 1, []), (33, 3, .invokevirtual 139, [4, 752, 1]), (36, 1, .aload_n 3, []), (37, 1, .aload_n 0, []), (38, 3, .getfield 78, [3, 7, 455]), (41, 3, .invokevirtual 140, [5, 764, 1]), (44, 1, .aload_n 3, []), (45, 3, .getfield 143, [0, 8, 391]), (48, 1, .iconst (-1), []), (49, 3, .if_icmp .eq 15, [2]), (52, 1, .aload_n 0, []), (53, 1, .dup, []), (54, 3, .getfield 136, [3, 11, 459]), (57, 1, .iconst 1, []), (58, 1, .iload_n 2, []), (59, 1, .ishl, []), (60, 1, .ior, []), (61, 3, .putfield 136, [3, 11, 459])] 2 [vR (c0 + 2), vI x1, vI x2, u3] [] M Q
  simp only [w_il_2, w_bipush, w_ic_ge, w_al_0, w_gf_3_6, kin_T (krb h0), w_ishr, w_iconst, w_iand, w_if_eq, w_gf_3_1, rrb1 h0, w_aald, rcks h0 hj0.1 hj0.2, arq_T ((krb1 h0)) ⟨by decide, by decide⟩, hj0.1, (show x2 < ((8 : Nat) : Int) from hj0.2), w_as_3 (c2I _), w_al_3, w_il_1, w_ivv_1 (c2I _) cs0, mk_4, kin_T (kck (isCk_A h0 hj0.1 hj0.2)), rk_4, rvk0, List.nil_append, w_gf_3_7, mk_5, rk_5, w_gf_0_8, w_ic_eq, w_dup (c2R _), w_gf_3_11, w_ishl, w_ior, w_pf_3_11, w_fall, true_and, and_true, true_or, or_true]
  exact h
theorem b_39_2 {sx : Int → Int} {L : Nat} {c0 : Nat} {x1 : Int} {x2 : Int} {u3 : AV} {M : Mem} {Q : Option AV → Mem → Prop} (h0 : isRb c0) (hu3 : cat2 u3 = false)
    (h : inR (x2 + 1) ∧ (Rn sx L K0 R0 39 1 [vR (c0 + 2), vI x1, vI (x2 + 1), u3] [] M Q)) : Rn sx L K0 R0 39 2 [vR (c0 + 2), vI x1, vI x2, u3] [] M Q := by
  refine Rn_w (by decide) ?_
  show wpc sx L K0 R0 39 [(64, 3, .iinc 2 1, []), (67, 3, .goto (-60), [1])] 0 [vR (c0 + 2), vI x1, vI x2, u3] [] M Q
  simp only [w_inc_2 (c2I _), w_goto, true_and, and_true, true_or, or_true]
  exact h
theorem b_39_3 {sx : Int → Int} {L : Nat} {c0 : Nat} {x1 : Int} {x2 : Int} {u3 : AV} {M : Mem} {Q : Option AV → Mem → Prop} (h0 : isRb c0) (hu3 : cat2 u3 = false)
    (h : Q none M) : Rn sx L K0 R0 39 3 [vR (c0 + 2), vI x1, vI x2, u3] [] M Q := by
  refine Rn_w (by decide) ?_
  show wpc sx L K0 R0 39 [(70, 1, .return_, [])] 0 [vR (c0 + 2), vI x1, vI x2, u3] [] M Q
  simp only [w_ret0 rk_39, true_and, and_true, true_or, or_true]
  exact h
theorem b_40_0 {sx : Int → Int} {L : Nat} {c0 : Nat} {x1 : Int} {M : Mem} {Q : Option AV → Mem → Prop} (h0 : isRb c0)
    (h : Mq sx L K0 R0 92 [vR 3, vI x1] (mset (mset M c0 12 0) c0 13 0) (fun rv M1 => ∃ r1, rv = some (vI r1) ∧ (Rn sx L K0 R0 40 1 [vR (c0 + 2), vI x1, vI 0, vU, vU] [] (mset M1 c0 14 r1) Q))) : Rn sx L K0 R0 40 0 [vR (c0 + 2), vI x1, vU, vU, vU] [] M Q := by
  refine Rn_w (by decide) ?_
  show wpc sx L K0 R0 40 [(0, 1, .aload_n 0, []), (1, 1, .iconst 0, []), (2, 3, .putfield 146, [3, 12, 460]), (5, 1, .aload_n 0, []), (6, 1, .iconst 0, []), (7, 3, .putfield 149, [3, 13, 461]), (10, 1, .aload_n 0, []), (11, 1, .aload_n 0, []), (12, 3, .getfield 34, [3, 0, 444]), (15, 1, .iload_n 1, []), (16, 3, .invokevirtual 152, [92, 772, 1]), (19, 3, .putfield 158, [3, 14, 462]), (22, 1, .iconst 0, []), (23, 1, .istore_n 2, [])] 1 [vR (c0 + 2), vI x1, vU, vU, vU] [] M Q
  simp only [w_al_0, w_iconst, w_pf_3_12, kin_T (krb h0), w_pf_3_13, w_gf_3_0, rrb0 h0, w_il_1, w_ivv_1 (c2I _) (cs1 _), mk_92, kin_T (ks_1), rk_92, rvk1, List.cons_append, List.nil_append, w_pf_3_14, w_is_2 (c2I _), w_fall, true_and, and_true, true_or, or_true]
  exact h
theorem b_40_1 {sx : Int → Int} {L : Nat} {c0 : Nat} {x1 : Int} {x2 : Int} {M : Mem} {Q : Option AV → Mem → Prop} (h0 : isRb c0)
    (h : ((3 : Int) ≤ x2 → Rn sx L K0 R0 40 2 [vR (c0 + 2), vI x1, vI x2, vU, vU] [] M Q) ∧ (¬ ((3 : Int) ≤ x2) → inR (x2 * 120) ∧ (inR ((x2 * 120) + x1) ∧ (((0 : Int) ≤ (x2 * 120) + x1 ∧ (x2 * 120) + x1 < (360 : Int)) ∧ (inR (x2 + 1) ∧ (Rn sx L K0 R0 40 1 [vR (c0 + 2), vI x1, vI (x2 + 1), vU, vU] [] (mset M (c0 + 5) ((x2 * 120) + x1) (-1)) Q)))))) : Rn sx L K0 R0 40 1 [vR (c0 + 2), vI x1, vI x2, vU, vU] [] M Q := by
  refine Rn_w (by decide) ?_
  show wpc sx L K0 R0 40 [(24, 1, .iload_n 2, []), (25, 1, .iconst 3, []), (26, 3, .if_icmp .ge 21, [2]), (29, 1, .aload_n 0, []), (30, 3, .getfield 27, [3, 5, 453]), (33, 1, .iload_n 2, []), (34, 2, .bipush 120, []), (36, 1, .imul, []), (37, 1, .iload_n 1, []), (38, 1, .iadd, []), (39, 1, .iconst (-1), []), (40, 1, .iastore, []), (41, 3, .iinc 2 1, []), (44, 3, .goto (-20), [1])] 0 [vR (c0 + 2), vI x1, vI x2, vU, vU] [] M Q
  simp only [w_il_2, w_iconst, w_ic_ge, w_al_0, w_gf_3_5, kin_T (krb h0), rrb5 h0, w_bipush, w_imul, w_il_1, w_iadd, w_iast, arr_T ((krb5 h0)), w_inc_2 (c2I _), w_goto, true_and, and_true, true_or, or_true]
  exact h
theorem b_40_2 {sx : Int → Int} {L : Nat} {c0 : Nat} {x1 : Int} {x2 : Int} {M : Mem} {Q : Option AV → Mem → Prop} (h0 : isRb c0)
    (h : Rn sx L K0 R0 40 3 [vR (c0 + 2), vI x1, vI 0, vI 0, vU] [] M Q) : Rn sx L K0 R0 40 2 [vR (c0 + 2), vI x1, vI x2, vU, vU] [] M Q := by
  refine Rn_w (by decide) ?_
  show wpc sx L K0 R0 40 [(47, 1, .iconst 0, []), (48, 1, .istore_n 2, []), (49, 1, .iconst 0, []), (50, 1, .istore_n 3, [])] 3 [vR (c0 + 2), vI x1, vI x2, vU, vU] [] M Q
  simp only [w_iconst, w_is_2 (c2I _), w_is_3 (c2I _), w_fall, true_and, and_true, true_or, or_true]
  exact h
theorem b_40_3 {sx : Int → Int} {L : Nat} {c0 : Nat} {x1 : Int} {x2 : Int} {x3 : Int} {u4 : AV} {M : Mem} {Q : Option AV → Mem → Prop} (h0 : isRb c0) (hu4 : cat2 u4 = false)
    (h : ((8 : Int) ≤ x3 → Rn sx L K0 R0 40 9 [vR (c0 + 2), vI x1, vI x2, vI x3, u4] [] M Q) ∧ (¬ ((8 : Int) ≤ x3) → (M c0 9 ≤ x2 → Rn sx L K0 R0 40 9 [vR (c0 + 2), vI x1, vI x2, vI x3, u4] [] M Q) ∧ (¬ (M c0 9 ≤ x2) → Mq sx L K0 R0 41 [vR (c0 + 2)] M (fun rv M1 => ∃ r1, rv = some (vI r1) ∧ (Mq sx L K0 R0 125 [vI r1] M1 (fun rv M2 => ∃ r2, rv = some (vI r2) ∧ ((¬ r2 = (0 : Int) → Rn sx L K0 R0 40 4 [vR (c0 + 2), vI x1, vI x2, vI x3, vI r1] [] M2 Q) ∧ (¬ (¬ r2 = (0 : Int)) → Q none M2)))))))) : Rn sx L K0 R0 40 3 [vR (c0 + 2), vI x1, vI x2, vI x3, u4] [] M Q := by
  refine Rn_w (by decide) ?_
  show wpc sx L K0 R0 40 [(51, 1, .iload_n 3, []), (52, 2, .bipush 8, []), (54, 3, .if_icmp .ge 134, [9]), (57, 1, .iload_n 2, []), (58, 1, .aload_n 0, []), (59, 3, .getfield 92, [3, 9, 457]), (62, 3, .if_icmp .ge 126, [9]), (65, 1, .aload_n 0, []), (66, 3, .invokevirtual 161, [41, 776, 0]), (69, 2, .istore 4, []), (71, 2, .iload 4, []), (73, 3, .invokestatic 165, [125, 780, 1]), (76, 3, .ifCond .ne 4, [4]), (79, 1, .return_, [])] 0 [vR (c0 + 2), vI x1, vI x2, vI x3, u4] [] M Q
  simp only [w_il_3, w_bipush, w_ic_ge, w_il_2, w_al_0, w_gf_3_9, kin_T (krb h0), w_ivv_0  cs0, mk_41, rk_41, rvk1, List.cons_append, List.nil_append, w_is_4 (c2I _), w_il_4, w_ivs_1 (c2I _) cs0, rk_125, rvk2, w_if_ne, w_ret0 rk_40, true_and, and_true, true_or, or_true]
  exact h
theorem b_40_4 {sx : Int → Int} {L : Nat} {c0 : Nat} {x1 : Int} {x2 : Int} {x3 : Int} {x4 : Int} {M : Mem} {Q : Option AV → Mem → Prop} (h0 : isRb c0)
    (h : Mq sx L K0 R0 42 [vR (c0 + 2), vI x4] M (fun rv M1 => ∃ r1, rv = some (vI r1) ∧ ((¬ r1 = 1 ∧ ¬ r1 = 2 → Rn sx L K0 R0 40 7 [vR (c0 + 2), vI x1, vI x2, vI x3, vI x4] [] M1 Q) ∧ (r1 = 1 → Rn sx L K0 R0 40 5 [vR (c0 + 2), vI x1, vI x2, vI x3, vI x4] [] M1 Q) ∧ (¬ r1 = 1 → (r1 = 2 → Rn sx L K0 R0 40 6 [vR (c0 + 2), vI x1, vI x2, vI x3, vI x4] [] M1 Q) ∧ (¬ r1 = 2 → True))))) : Rn sx L K0 R0 40 4 [vR (c0 + 2), vI x1, vI x2, vI x3, vI x4] [] M Q := by
  refine Rn_w (by decide) ?_
  show wpc sx L K0 R0 40 [(80, 1, .aload_n 0, []), (81, 2, .iload 4, []), (83, 3, .invokevirtual 168, [42, 781, 1]), (86, 26, .lookupswitch 89 #[(1, 26), (2, 69)], [7, 5, 6])] 0 [vR (c0 + 2), vI x1, vI x2, vI x3, vI x4] [] M Q
  simp only [w_al_0, w_il_4, w_ivv_1 (c2I _) cs0, mk_42, kin_T (krb h0), rk_42, rvk1, List.cons_append, List.nil_append, w_lsw, lno, lsw, true_and, and_true, true_or, or_true]
  exact h
set_option maxRecDepth 8192 in
theorem b_40_5 {sx : Int → Int} {L : Nat} {c0 : Nat} {x1 : Int} {x2 : Int} {x3 : Int} {x4 : Int} {M : Mem} {Q : Option AV → Mem → Prop} (h0 : isRb c0) (hj0 : 0 ≤ x4 ∧ x4 < 8)
    (h : ((0 : Int) ≤ (1 : Int) ∧ x4 ≤ (30 : Int) ∧ (1 : Int) * 2 ^ (x4).toNat ≤ (2147483647 : Int)) ∧ (inR (x2 * 120) ∧ (inR ((x2 * 120) + x1) ∧ (((0 : Int) ≤ (x2 * 120) + x1 ∧ (x2 * 120) + x1 < (360 : Int)) ∧ (inR (x2 + 1) ∧ (Rn sx L K0 R0 40 8 [vR (c0 + 2), vI x1, vI (x2 + 1), vI x3, vI x4] [] (mset (mset (mset M c0 12 (iOr (M c0 12) ((1 : Int) * 2 ^ (x4).toNat))) (ckA c0 x4) 16 x1) (c0 + 5) ((x2 * 120) + x1) x4) Q)))))) : Rn sx L K0 R0 40 5 [vR (c0 + 2), vI x1, vI x2, vI x3, vI x4] [] M Q := by
  refine Rn_w (by decide) ?_
  show wpc sx L K0 R0 40 [(112, 1, .aload_n 0, []), (113, 1, .dup, []), (114, 3, .getfield 146, [3, 12, 460]), (117, 1, .iconst 1, []), (118, 2, .iload 4, []), (120, 1, .ishl, []), (121, 1, .ior, []), (122, 3, .putfield 146, [3, 12, 460]), (125, 1, .aload_n 0, []), (126, 3, .getfield 11, [3, 1, 445]), (129, 2, .iload 4, []), (131, 1, .aaload, []), (132, 1, .iload_n 1, []), (133, 3, .putfield 171, [0, 16, 404]), (136, 1, .aload_n 0, []), (137, 3, .getfield 27, [3, 5, 453]), (140, 1, .iload_n 2, []), (141, 2, .bipush 120, []), (143, 1, .imul, []), (144, 1, .iload_n 1, []), (145, 1, .iadd, []), (146, 2, .iload 4, []), (148, 1, .iastore, []), (149, 3, .iinc 2 1, []), (152, 3, .goto 30, [8])] 0 [vR (c0 + 2), vI x1, vI x2, vI x3, vI x4] [] M Q
  simp only [w_al_0, w_dup (c2R _), w_gf_3_12, kin_T (krb h0), w_iconst, w_il_4, w_ishl, w_ior, w_pf_3_12, w_gf_3_1, rrb1 h0, w_aald, rcks h0 hj0.1 hj0.2, arq_T ((krb1 h0)) ⟨by decide, by decide⟩, hj0.1, (show x4 < ((8 : Nat) : Int) from hj0.2), w_il_1, w_pf_0_16, kin_T (kck (isCk_A h0 hj0.1 hj0.2)), w_gf_3_5, rrb5 h0, w_il_2, w_bipush, w_imul, w_iadd, w_iast, arr_T ((krb5 h0)), w_inc_2 (c2I _), w_goto, true_and, and_true, true_or, or_true]
  exact h
theorem b_40_6 {sx : Int → Int} {L : Nat} {c0 : Nat} {x1 : Int} {x2 : Int} {x3 : Int} {x4 : Int} {M : Mem} {Q : Option AV → Mem → Prop} (h0 : isRb c0)
    (h : ((0 : Int) ≤ (1 : Int) ∧ (0 : Int) ≤ x4 ∧ x4 ≤ (30 : Int) ∧ (1 : Int) * 2 ^ (x4).toNat ≤ (2147483647 : Int)) ∧ (Mq sx L K0 R0 44 [vR (c0 + 2)] (mset M c0 13 (iOr (M c0 13) ((1 : Int) * 2 ^ (x4).toNat))) (fun rv M1 => rv = none ∧ (Rn sx L K0 R0 40 8 [vR (c0 + 2), vI x1, vI x2, vI x3, vI x4] [] M1 Q)))) : Rn sx L K0 R0 40 6 [vR (c0 + 2), vI x1, vI x2, vI x3, vI x4] [] M Q := by
  refine Rn_w (by decide) ?_
  show wpc sx L K0 R0 40 [(155, 1, .aload_n 0, []), (156, 1, .dup, []), (157, 3, .getfield 149, [3, 13, 461]), (160, 1, .iconst 1, []), (161, 2, .iload 4, []), (163, 1, .ishl, []), (164, 1, .ior, []), (165, 3, .putfield 149, [3, 13, 461]), (168, 1, .aload_n 0, []), (169, 3, .invokevirtual 174, [44, 797, 0]), (172, 3, .goto 10, [8])] 0 [vR (c0 + 2), vI x1, vI x2, vI x3, vI x4] [] M Q
  simp only [w_al_0, w_dup (c2R _), w_gf_3_13, kin_T (krb h0), w_iconst, w_il_4, w_ishl, w_ior, w_pf_3_13, w_ivv_0  cs0, mk_44, rk_44, rvk0, List.nil_append, w_goto, true_and, and_true, true_or, or_true]
  exact h
theorem b_40_7 {sx : Int → Int} {L : Nat} {c0 : Nat} {x1 : Int} {x2 : Int} {x3 : Int} {x4 : Int} {M : Mem} {Q : Option AV → Mem → Prop} (h0 : isRb c0)
    (h : Mq sx L K0 R0 46 [vR (c0 + 2), vI x4, vI x1] M (fun rv M1 => rv = none ∧ (Rn sx L K0 R0 40 8 [vR (c0 + 2), vI x1, vI x2, vI x3, vI x4] [] M1 Q))) : Rn sx L K0 R0 40 7 [vR (c0 + 2), vI x1, vI x2, vI x3, vI x4] [] M Q := by
  refine Rn_w (by decide) ?_
  show wpc sx L K0 R0 40 [(175, 1, .aload_n 0, []), (176, 2, .iload 4, []), (178, 1, .iload_n 1, []), (179, 3, .invokevirtual 177, [46, 805, 2])] 8 [vR (c0 + 2), vI x1, vI x2, vI x3, vI x4] [] M Q
  simp only [w_al_0, w_il_4, w_il_1, w_ivv_2 (c2I _) (c2I _) cs0, mk_46, kin_T (krb h0), rk_46, rvk0, List.nil_append, w_fall, true_and, and_true, true_or, or_true]
  exact h
theorem b_40_8 {sx : Int → Int} {L : Nat} {c0 : Nat} {x1 : Int} {x2 : Int} {x3 : Int} {x4 : Int} {M : Mem} {Q : Option AV → Mem → Prop} (h0 : isRb c0)
    (h : inR (x3 + 1) ∧ (Rn sx L K0 R0 40 3 [vR (c0 + 2), vI x1, vI x2, vI (x3 + 1), vI x4] [] M Q)) : Rn sx L K0 R0 40 8 [vR (c0 + 2), vI x1, vI x2, vI x3, vI x4] [] M Q := by
  refine Rn_w (by decide) ?_
  show wpc sx L K0 R0 40 [(182, 3, .iinc 3 1, []), (185, 3, .goto (-134), [3])] 0 [vR (c0 + 2), vI x1, vI x2, vI x3, vI x4] [] M Q
  simp only [w_inc_3 (c2I _), w_goto, true_and, and_true, true_or, or_true]
  exact h
theorem b_40_9 {sx : Int → Int} {L : Nat} {c0 : Nat} {x1 : Int} {x2 : Int} {x3 : Int} {u4 : AV} {M : Mem} {Q : Option AV → Mem → Prop} (h0 : isRb c0) (hu4 : cat2 u4 = false)
    (h : Q none M) : Rn sx L K0 R0 40 9 [vR (c0 + 2), vI x1, vI x2, vI x3, u4] [] M Q := by
  refine Rn_w (by decide) ?_
  show wpc sx L K0 R0 40 [(188, 1, .return_, [])] 0 [vR (c0 + 2), vI x1, vI x2, vI x3, u4] [] M Q
  simp only [w_ret0 rk_40, true_and, and_true, true_or, or_true]
  exact h
theorem b_41_0 {sx : Int → Int} {L : Nat} {c0 : Nat} {M : Mem} {Q : Option AV → Mem → Prop} (h0 : isRb c0)
    (h : Rn sx L K0 R0 41 1 [vR (c0 + 2), vI (iAnd (iAnd (M c0 11) (iXor (M c0 12) (-1))) (iXor (M c0 13) (-1))), vI (-1), vI 0, vI 0, vI 0, vU, vU, vU] [] M Q) : Rn sx L K0 R0 41 0 [vR (c0 + 2), vU, vU, vU, vU, vU, vU, vU, vU] [] M Q := by
  refine Rn_w (by decide) ?_
  show wpc sx L K0 R0 41 [(0, 1, .aload_n 0, []), (1, 3, .getfield 136, [3, 11, 459]), (4, 1, .aload_n 0, []), (5, 3, .getfield 146, [3, 12, 460]), (8, 1, .iconst (-1), []), (9, 1, .ixor, []), (10, 1, .iand, []), (11, 1, .aload_n 0, []), (12, 3, .getfield 149, [3, 13, 461]), (15, 1, .iconst (-1), []), (16, 1, .ixor, []), (17, 1, .iand, []), (18, 1, .istore_n 1, []), (19, 1, .iconst (-1), []), (20, 1, .istore_n 2, []), (21, 1, .iconst 0, []), (22, 1, .istore_n 3, []), (23, 1, .iconst 0, []), (24, 2, .istore 4, []), (26, 1, .iconst 0, []), (27, 2, .istore 5, [])] 1 [vR (c0 + 2), vU, vU, vU, vU, vU, vU, vU, vU] [] M Q
  simp only [w_al_0, w_gf_3_11, kin_T (krb h0), w_gf_3_12, w_iconst, w_ixor, w_iand, w_gf_3_13, w_is_1 (c2R _), w_is_2 (c2I _), w_is_3 (c2I _), w_is_4 (c2I _), w_is_5 (c2I _), w_fall, true_and, and_true, true_or, or_true]
  exact h
theorem b_41_1 {sx : Int → Int} {L : Nat} {c0 : Nat} {x1 : Int} {x2 : Int} {x3 : Int} {x4 : Int} {x5 : Int} {u6 : AV} {u7 : AV} {u8 : AV} {M : Mem} {Q : Option AV → Mem → Prop} (h0 : isRb c0) (hu6 : cat2 u6 = false) (hu7 : cat2 u7 = false) (hu8 : cat2 u8 = false)
    (h : ((8 : Int) ≤ x5 → Rn sx L K0 R0 41 10 [vR (c0 + 2), vI x1, vI x2, vI x3, vI x4, vI x5, u6, u7, u8] [] M Q) ∧ (¬ ((8 : Int) ≤ x5) → ((0 : Int) ≤ x1 ∧ (0 : Int) ≤ x5 ∧ x5 ≤ (30 : Int)) ∧ ((¬ iAnd (x1 / 2 ^ (x5).toNat) 1 = (0 : Int) → Rn sx L K0 R0 41 2 [vR (c0 + 2), vI x1, vI x2, vI x3, vI x4, vI x5, u6, u7, u8] [] M Q) ∧ (¬ (¬ iAnd (x1 / 2 ^ (x5).toNat) 1 = (0 : Int)) → Rn sx L K0 R0 41 9 [vR (c0 + 2), vI x1, vI x2, vI x3, vI x4, vI x5, u6, u7, u8] [] M Q)))) : Rn sx L K0 R0 41 1 [vR (c0 + 2), vI x1, vI x2, vI x3, vI x4, vI x5, u6, u7, u8] [] M Q := by
  refine Rn_w (by decide) ?_
  show wpc sx L K0 R0 41 [(29, 2, .iload 5, []), (31, 2, .bipush 8, []), (33, 3, .if_icmp .ge 104, [10]), (36, 1, .iload_n 1, []), (37, 2, .iload 5, []), (39, 1, .ishr, []), (40, 1, .iconst 1, []), (41, 1, .iand, []), (42, 3, .ifCond .ne 6, [2]), (45, 3, .goto 86, [9])] 0 [vR (c0 + 2), vI x1, vI x2, vI x3, vI x4, vI x5, u6, u7, u8] [] M Q
  simp only [w_il_5, w_bipush, w_ic_ge, w_il_1, w_ishr, w_iconst, w_iand, w_if_ne, w_goto, true_and, and_true, true_or, or_true]
  exact h
theorem b_41_2 {sx : Int → Int} {L : Nat} {c0 : Nat} {x1 : Int} {x2 : Int} {x3 : Int} {x4 : Int} {x5 : Int} {u6 : AV} {u7 : AV} {u8 : AV} {M : Mem} {Q : Option AV → Mem → Prop} (h0 : isRb c0) (hu6 : cat2 u6 = false) (hu7 : cat2 u7 = false) (hu8 : cat2 u8 = false) (hj0 : 0 ≤ x5 ∧ x5 < 8)
    (h : (iAnd (M (ckA c0 x5) 12) (M 1 1) = (0 : Int) → Rn sx L K0 R0 41 3 [vR (c0 + 2), vI x1, vI x2, vI x3, vI x4, vI x5, vR (ckA c0 x5 + 2), u7, u8] [] M Q) ∧ (¬ (iAnd (M (ckA c0 x5) 12) (M 1 1) = (0 : Int)) → Rn sx L K0 R0 41 4 [vR (c0 + 2), vI x1, vI x2, vI x3, vI x4, vI x5, vR (ckA c0 x5 + 2), u7, u8] [vI 1] M Q)) : Rn sx L K0 R0 41 2 [vR (c0 + 2), vI x1, vI x2, vI x3, vI x4, vI x5, u6, u7, u8] [] M Q := by
  refine Rn_w (by decide) ?_
  show wpc sx L K0 R0 41 [(48, 1, .aload_n 0, []), (49, 3, .getfield 11, [3, 1, 445]), (52, 2, .iload 5, []), (54, 1, .aaload, []), (55, 2, .astore 6, []), (57, 2, .aload 6, []), (59, 3, .getfield 180, [0, 12, 398]), (62, 1, .aload_n 0, []), (63, 3, .getfield 34, [3, 0, 444]), (66, 3, .getfield 183, [7, 1, 175]), (69, 1, .iand, []), (70, 3, .ifCond .eq 7, [3]), (73, 1, .iconst 1, []), (74, 3, .goto 4, [4])] 0 [vR (c0 + 2), vI x1, vI x2, vI x3, vI x4, vI x5, u6, u7, u8] [] M Q
  simp only [w_al_0, w_gf_3_1, kin_T (krb h0), rrb1 h0, w_il_5, w_aald, rcks h0 hj0.1 hj0.2, arq_T ((krb1 h0)) ⟨by decide, by decide⟩, hj0.1, (show x5 < ((8 : Nat) : Int) from hj0.2), w_as_6 (c2I _), w_al_6, w_gf_0_12, kin_T (kck (isCk_A h0 hj0.1 hj0.2)), w_gf_3_0, rrb0 h0, w_gf_7_1, kin_T (ks_1), w_iand, w_if_eq, w_iconst, w_goto, true_and, and_true, true_or, or_true]
  exact h
theorem b_41_3 {sx : Int → Int} {L : Nat} {c0 : Nat} {x1 : Int} {x2 : Int} {x3 : Int} {x4 : Int} {x5 : Int} {c6 : Nat} {u7 : AV} {u8 : AV} {M : Mem} {Q : Option AV → Mem → Prop} (h0 : isRb c0) (h6 : isCk c6) (hu7 : cat2 u7 = false) (hu8 : cat2 u8 = false)
    (h : Rn sx L K0 R0 41 4 [vR (c0 + 2), vI x1, vI x2, vI x3, vI x4, vI x5, vR (c6 + 2), u7, u8] [vI 0] M Q) : Rn sx L K0 R0 41 3 [vR (c0 + 2), vI x1, vI x2, vI x3, vI x4, vI x5, vR (c6 + 2), u7, u8] [] M Q := by
  refine Rn_w (by decide) ?_
  show wpc sx L K0 R0 41 [(77, 1, .iconst 0, [])] 4 [vR (c0 + 2), vI x1, vI x2, vI x3, vI x4, vI x5, vR (c6 + 2), u7, u8] [] M Q
  simp only [w_iconst, w_fall, true_and, and_true, true_or, or_true]
  exact h
theorem b_41_4 {sx : Int → Int} {L : Nat} {c0 : Nat} {x1 : Int} {x2 : Int} {x3 : Int} {x4 : Int} {x5 : Int} {c6 : Nat} {u7 : AV} {u8 : AV} {y0 : Int} {M : Mem} {Q : Option AV → Mem → Prop} (h0 : isRb c0) (h6 : isCk c6) (hu7 : cat2 u7 = false) (hu8 : cat2 u8 = false)
    (h : (¬ y0 = x4 → Rn sx L K0 R0 41 6 [vR (c0 + 2), vI x1, vI x2, vI x3, vI x4, vI x5, vR (c6 + 2), vI y0, u8] [] M Q) ∧ (¬ (¬ y0 = x4) → (x3 ≤ M c6 15 → Rn sx L K0 R0 41 5 [vR (c0 + 2), vI x1, vI x2, vI x3, vI x4, vI x5, vR (c6 + 2), vI y0, u8] [] M Q) ∧ (¬ (x3 ≤ M c6 15) → Rn sx L K0 R0 41 7 [vR (c0 + 2), vI x1, vI x2, vI x3, vI x4, vI x5, vR (c6 + 2), vI y0, u8] [vI 1] M Q))) : Rn sx L K0 R0 41 4 [vR (c0 + 2), vI x1, vI x2, vI x3, vI x4, vI x5, vR (c6 + 2), u7, u8] [vI y0] M Q := by
  refine Rn_w (by decide) ?_
  show wpc sx L K0 R0 41 [(78, 2, .istore 7, []), (80, 2, .iload 7, []), (82, 2, .iload 4, []), (84, 3, .if_icmp .ne 20, [6]), (87, 2, .aload 6, []), (89, 3, .getfield 186, [0, 15, 402]), (92, 1, .iload_n 3, []), (93, 3, .if_icmp .ge 7, [5]), (96, 1, .iconst 1, []), (97, 3, .goto 9, [7])] 0 [vR (c0 + 2), vI x1, vI x2, vI x3, vI x4, vI x5, vR (c6 + 2), u7, u8] [vI y0] M Q
  simp only [w_is_7 (c2R _), w_il_7, w_il_4, w_ic_ne, w_al_6, w_gf_0_15, kin_T (kck h6), w_il_3, w_ic_ge, w_iconst, w_goto, true_and, and_true, true_or, or_true]
  exact h
theorem b_41_5 {sx : Int → Int} {L : Nat} {c0 : Nat} {x1 : Int} {x2 : Int} {x3 : Int} {x4 : Int} {x5 : Int} {c6 : Nat} {x7 : Int} {u8 : AV} {M : Mem} {Q : Option AV → Mem → Prop} (h0 : isRb c0) (h6 : isCk c6) (hu8 : cat2 u8 = false)
    (h : Rn sx L K0 R0 41 7 [vR (c0 + 2), vI x1, vI x2, vI x3, vI x4, vI x5, vR (c6 + 2), vI x7, u8] [vI 0] M Q) : Rn sx L K0 R0 41 5 [vR (c0 + 2), vI x1, vI x2, vI x3, vI x4, vI x5, vR (c6 + 2), vI x7, u8] [] M Q := by
  refine Rn_w (by decide) ?_
  show wpc sx L K0 R0 41 [(100, 1, .iconst 0, []), (101, 3, .goto 5, [7])] 0 [vR (c0 + 2), vI x1, vI x2, vI x3, vI x4, vI x5, vR (c6 + 2), vI x7, u8] [] M Q
  simp only [w_iconst, w_goto, true_and, and_true, true_or, or_true]
  exact h
theorem b_41_6 {sx : Int → Int} {L : Nat} {c0 : Nat} {x1 : Int} {x2 : Int} {x3 : Int} {x4 : Int} {x5 : Int} {c6 : Nat} {x7 : Int} {u8 : AV} {M : Mem} {Q : Option AV → Mem → Prop} (h0 : isRb c0) (h6 : isCk c6) (hu8 : cat2 u8 = false)
    (h : Rn sx L K0 R0 41 7 [vR (c0 + 2), vI x1, vI x2, vI x3, vI x4, vI x5, vR (c6 + 2), vI x7, u8] [vI x7] M Q) : Rn sx L K0 R0 41 6 [vR (c0 + 2), vI x1, vI x2, vI x3, vI x4, vI x5, vR (c6 + 2), vI x7, u8] [] M Q := by
  refine Rn_w (by decide) ?_
  show wpc sx L K0 R0 41 [(104, 2, .iload 7, [])] 7 [vR (c0 + 2), vI x1, vI x2, vI x3, vI x4, vI x5, vR (c6 + 2), vI x7, u8] [] M Q
  simp only [w_il_7, w_fall, true_and, and_true, true_or, or_true]
  exact h
theorem b_41_7 {sx : Int → Int} {L : Nat} {c0 : Nat} {x1 : Int} {x2 : Int} {x3 : Int} {x4 : Int} {x5 : Int} {c6 : Nat} {x7 : Int} {u8 : AV} {y0 : Int} {M : Mem} {Q : Option AV → Mem → Prop} (h0 : isRb c0) (h6 : isCk c6) (hu8 : cat2 u8 = false)
    (h : (x2 = (-1 : Int) → Rn sx L K0 R0 41 8 [vR (c0 + 2), vI x1, vI x2, vI x3, vI x4, vI x5, vR (c6 + 2), vI x7, vI y0] [] M Q) ∧ (¬ (x2 = (-1 : Int)) → (y0 = (0 : Int) → Rn sx L K0 R0 41 9 [vR (c0 + 2), vI x1, vI x2, vI x3, vI x4, vI x5, vR (c6 + 2), vI x7, vI y0] [] M Q) ∧ (¬ (y0 = (0 : Int)) → Rn sx L K0 R0 41 8 [vR (c0 + 2), vI x1, vI x2, vI x3, vI x4, vI x5, vR (c6 + 2), vI x7, vI y0] [] M Q))) : Rn sx L K0 R0 41 7 [vR (c0 + 2), vI x1, vI x2, vI x3, vI x4, vI x5, vR (c6 + 2), vI x7, u8] [vI y0] M Q := by
  refine Rn_w (by decide) ?_
  show wpc sx L K0 R0 41 [(106, 2, .istore 8, []), (108, 1, .iload_n 2, []), (109, 1, .iconst (-1), []), (110, 3, .if_icmp .eq 8, [8]), (113, 2, .iload 8, []), (115, 3, .ifCond .eq 16, [9])] 8 [vR (c0 + 2), vI x1, vI x2, vI x3, vI x4, vI x5, vR (c6 + 2), vI x7, u8] [vI y0] M Q
  simp only [w_is_8 (c2I _), w_il_2, w_iconst, w_ic_eq, w_il_8, w_if_eq, w_fall, true_and, and_true, true_or, or_true]
  exact h
theorem b_41_8 {sx : Int → Int} {L : Nat} {c0 : Nat} {x1 : Int} {x2 : Int} {x3 : Int} {x4 : Int} {x5 : Int} {c6 : Nat} {x7 : Int} {x8 : Int} {M : Mem} {Q : Option AV → Mem → Prop} (h0 : isRb c0) (h6 : isCk c6)
    (h : Rn sx L K0 R0 41 9 [vR (c0 + 2), vI x1, vI x5, vI (M c6 15), vI x7, vI x5, vR (c6 + 2), vI x7, vI x8] [] M Q) : Rn sx L K0 R0 41 8 [vR (c0 + 2), vI x1, vI x2, vI x3, vI x4, vI x5, vR (c6 + 2), vI x7, vI x8] [] M Q := by
  refine Rn_w (by decide) ?_
  show wpc sx L K0 R0 41 [(118, 2, .iload 5, []), (120, 1, .istore_n 2, []), (121, 2, .aload 6, []), (123, 3, .getfield 186, [0, 15, 402]), (126, 1, .istore_n 3, []), (127, 2, .iload 7, []), (129, 2, .istore 4, [])] 9 [vR (c0 + 2), vI x1, vI x2, vI x3, vI x4, vI x5, vR (c6 + 2), vI x7, vI x8] [] M Q
  simp only [w_il_5, w_is_2 (c2I _), w_al_6, w_gf_0_15, kin_T (kck h6), w_is_3 (c2I _), w_il_7, w_is_4 (c2I _), w_fall, true_and, and_true, true_or, or_true]
  exact h
theorem b_41_9 {sx : Int → Int} {L : Nat} {c0 : Nat} {x1 : Int} {x2 : Int} {x3 : Int} {x4 : Int} {x5 : Int} {u6 : AV} {u7 : AV} {u8 : AV} {M : Mem} {Q : Option AV → Mem → Prop} (h0 : isRb c0) (hu6 : cat2 u6 = false) (hu7 : cat2 u7 = false) (hu8 : cat2 u8 = false)
    (h : inR (x5 + 1) ∧ (Rn sx L K0 R0 41 1 [vR (c0 + 2), vI x1, vI x2, vI x3, vI x4, vI (x5 + 1), u6, u7, u8] [] M Q)) : Rn sx L K0 R0 41 9 [vR (c0 + 2), vI x1, vI x2, vI x3, vI x4, vI x5, u6, u7, u8] [] M Q := by
  refine Rn_w (by decide) ?_
  show wpc sx L K0 R0 41 [(131, 3, .iinc 5 1, []), (134, 3, .goto (-105), [1])] 0 [vR (c0 + 2), vI x1, vI x2, vI x3, vI x4, vI x5, u6, u7, u8] [] M Q
  simp only [w_inc_5 (c2I _), w_goto, true_and, and_true, true_or, or_true]
  exact h
theorem b_41_10 {sx : Int → Int} {L : Nat} {c0 : Nat} {x1 : Int} {x2 : Int} {x3 : Int} {x4 : Int} {x5 : Int} {u6 : AV} {u7 : AV} {u8 : AV} {M : Mem} {Q : Option AV → Mem → Prop} (h0 : isRb c0) (hu6 : cat2 u6 = false) (hu7 : cat2 u7 = false) (hu8 : cat2 u8 = false)
    (h : Q (some (vI x2)) M) : Rn sx L K0 R0 41 10 [vR (c0 + 2), vI x1, vI x2, vI x3, vI x4, vI x5, u6, u7, u8] [] M Q := by
  refine Rn_w (by decide) ?_
  show wpc sx L K0 R0 41 [(137, 1, .iload_n 2, []), (138, 1, .ireturn, [])] 0 [vR (c0 + 2), vI x1, vI x2, vI x3, vI x4, vI x5, u6, u7, u8] [] M Q
  simp only [w_il_2, w_ret1 rk_41, true_and, and_true, true_or, or_true]
  exact h
theorem b_42_0 {sx : Int → Int} {L : Nat} {c0 : Nat} {x1 : Int} {M : Mem} {Q : Option AV → Mem → Prop} (h0 : isRb c0) (hj0 : 0 ≤ x1 ∧ x1 < 8)
    (h : Rn sx L K0 R0 42 1 [vR (c0 + 2), vI x1, vR (ckA c0 x1 + 2), vR (plC (ckA c0 x1) + 2), vI (M (ckA c0 x1) 10), vU, vU] [] M Q) : Rn sx L K0 R0 42 0 [vR (c0 + 2), vI x1, vU, vU, vU, vU, vU] [] M Q := by
  refine Rn_w (by decide) ?_
  show wpc sx L K0 R0 42 [(0, 1, .aload_n 0, []), (1, 3, .getfield 11, [3, 1, 445]), (4, 1, .iload_n 1, []), (5, 1, .aaload, []), (6, 1, .astore_n 2, []), (7, 1, .aload_n 2, []), (8, 3, .getfield 96, [0, 0, 378]), (11, 1, .astore_n 3, []), (12, 1, .aload_n 2, []), (13, 3, .getfield 189, [0, 10, 395]), (16, 2, .istore 4, [])] 1 [vR (c0 + 2), vI x1, vU, vU, vU, vU, vU] [] M Q
  simp only [w_al_0, w_gf_3_1, kin_T (krb h0), rrb1 h0, w_il_1, w_aald, rcks h0 hj0.1 hj0.2, arq_T ((krb1 h0)) ⟨by decide, by decide⟩, hj0.1, (show x1 < ((8 : Nat) : Int) from hj0.2), w_as_2 (c2I _), w_al_2, w_gf_0_0, kin_T (kck (isCk_A h0 hj0.1 hj0.2)), rck0 (isCk_A h0 hj0.1 hj0.2), w_as_3 (c2R _), w_gf_0_10, w_is_4 (c2R _), w_fall, true_and, and_true, true_or, or_true]
  exact h
theorem b_42_1 {sx : Int → Int} {L : Nat} {c0 : Nat} {x1 : Int} {c2 : Nat} {c3 : Nat} {x4 : Int} {u5 : AV} {u6 : AV} {M : Mem} {Q : Option AV → Mem → Prop} (h0 : isRb c0) (h2 : isCk c2) (h3 : isPl c3) (hu5 : cat2 u5 = false) (hu6 : cat2 u6 = false)
    (h : (M c3 9 ≤ x4 → Rn sx L K0 R0 42 6 [vR (c0 + 2), vI x1, vR (c2 + 2), vR (c3 + 2), vI x4, u5, u6] [] M Q) ∧ (¬ (M c3 9 ≤ x4) → Mq sx L K0 R0 25 [vR (c3 + 2), vI x4] (mset M c2 10 x4) (fun rv M1 => ∃ r1, rv = some (vI r1) ∧ ((¬ r1 = (1 : Int) → Rn sx L K0 R0 42 2 [vR (c0 + 2), vI x1, vR (c2 + 2), vR (c3 + 2), vI x4, vI r1, u6] [] M1 Q) ∧ (¬ (¬ r1 = (1 : Int)) → Q (some (vI 1)) M1))))) : Rn sx L K0 R0 42 1 [vR (c0 + 2), vI x1, vR (c2 + 2), vR (c3 + 2), vI x4, u5, u6] [] M Q := by
  refine Rn_w (by decide) ?_
  show wpc sx L K0 R0 42 [(18, 2, .iload 4, []), (20, 1, .aload_n 3, []), (21, 3, .getfield 192, [1, 9, 289]), (24, 3, .if_icmp .ge 88, [6]), (27, 1, .aload_n 2, []), (28, 2, .iload 4, []), (30, 3, .putfield 189, [0, 10, 395]), (33, 1, .aload_n 3, []), (34, 2, .iload 4, []), (36, 3, .invokevirtual 195, [25, 785, 1]), (39, 2, .istore 5, []), (41, 2, .iload 5, []), (43, 1, .iconst 1, []), (44, 3, .if_icmp .ne 5, [2]), (47, 1, .iconst 1, []), (48, 1, .ireturn, [])] 0 [vR (c0 + 2), vI x1, vR (c2 + 2), vR (c3 + 2), vI x4, u5, u6] [] M Q
  simp only [w_il_4, w_al_3, w_gf_1_9, kin_T (kpl h3), w_ic_ge, w_al_2, w_pf_0_10, kin_T (kck h2), w_ivv_1 (c2I _) cs0, mk_25, rk_25, rvk1, List.cons_append, List.nil_append, w_is_5 (c2I _), w_il_5, w_iconst, w_ic_ne, w_ret1 rk_42, true_and, and_true, true_or, or_true]
  exact h
theorem b_42_2 {sx : Int → Int} {L : Nat} {c0 : Nat} {x1 : Int} {c2 : Nat} {c3 : Nat} {x4 : Int} {x5 : Int} {u6 : AV} {M : Mem} {Q : Option AV → Mem → Prop} (h0 : isRb c0) (h2 : isCk c2) (h3 : isPl c3) (hu6 : cat2 u6 = false)
    (h : Mq sx L K0 R0 26 [vR (c3 + 2), vI x4] M (fun rv M1 => ∃ r1, rv = some (vI r1) ∧ ((¬ x5 = (3 : Int) → Rn sx L K0 R0 42 3 [vR (c0 + 2), vI x1, vR (c2 + 2), vR (c3 + 2), vI x4, vI x5, vI r1] [] M1 Q) ∧ (¬ (¬ x5 = (3 : Int)) → ((0 : Int) ≤ (1 : Int) ∧ (0 : Int) ≤ r1 ∧ r1 ≤ (30 : Int) ∧ (1 : Int) * 2 ^ (r1).toNat ≤ (2147483647 : Int)) ∧ (Rn sx L K0 R0 42 5 [vR (c0 + 2), vI x1, vR (c2 + 2), vR (c3 + 2), vI x4, vI x5, vI r1] [] (mset M1 c2 12 (iAnd (M1 c2 12) (iXor ((1 : Int) * 2 ^ (r1).toNat) (-1)))) Q))))) : Rn sx L K0 R0 42 2 [vR (c0 + 2), vI x1, vR (c2 + 2), vR (c3 + 2), vI x4, vI x5, u6] [] M Q := by
  refine Rn_w (by decide) ?_
  show wpc sx L K0 R0 42 [(49, 1, .aload_n 3, []), (50, 2, .iload 4, []), (52, 3, .invokevirtual 198, [26, 789, 1]), (55, 2, .istore 6, []), (57, 2, .iload 5, []), (59, 1, .iconst 3, []), (60, 3, .if_icmp .ne 21, [3]), (63, 1, .aload_n 2, []), (64, 1, .dup, []), (65, 3, .getfield 180, [0, 12, 398]), (68, 1, .iconst 1, []), (69, 2, .iload 6, []), (71, 1, .ishl, []), (72, 1, .iconst (-1), []), (73, 1, .ixor, []), (74, 1, .iand, []), (75, 3, .putfield 180, [0, 12, 398]), (78, 3, .goto 28, [5])] 0 [vR (c0 + 2), vI x1, vR (c2 + 2), vR (c3 + 2), vI x4, vI x5, u6] [] M Q
  simp only [w_al_3, w_il_4, w_ivv_1 (c2I _) cs0, mk_26, kin_T (kpl h3), rk_26, rvk1, List.cons_append, List.nil_append, w_is_6 (c2I _), w_il_5, w_iconst, w_ic_ne, w_al_2, w_dup (c2R _), w_gf_0_12, kin_T (kck h2), w_il_6, w_ishl, w_ixor, w_iand, w_pf_0_12, w_goto, true_and, and_true, true_or, or_true]
  exact h
theorem b_42_3 {sx : Int → Int} {L : Nat} {c0 : Nat} {x1 : Int} {c2 : Nat} {c3 : Nat} {x4 : Int} {x5 : Int} {x6 : Int} {M : Mem} {Q : Option AV → Mem → Prop} (h0 : isRb c0) (h2 : isCk c2) (h3 : isPl c3)
    (h : Mq sx L K0 R0 43 [vR (c0 + 2), vI x1, vI x6] M (fun rv M1 => ∃ r1, rv = some (vI r1) ∧ ((r1 = (0 : Int) → Rn sx L K0 R0 42 4 [vR (c0 + 2), vI x1, vR (c2 + 2), vR (c3 + 2), vI x4, vI x5, vI x6] [] M1 Q) ∧ (¬ (r1 = (0 : Int)) → Q (some (vI 2)) M1)))) : Rn sx L K0 R0 42 3 [vR (c0 + 2), vI x1, vR (c2 + 2), vR (c3 + 2), vI x4, vI x5, vI x6] [] M Q := by
  refine Rn_w (by decide) ?_
  show wpc sx L K0 R0 42 [(81, 1, .aload_n 0, []), (82, 1, .iload_n 1, []), (83, 2, .iload 6, []), (85, 3, .invokevirtual 201, [43, 793, 2]), (88, 3, .ifCond .eq 5, [4]), (91, 1, .iconst 2, []), (92, 1, .ireturn, [])] 0 [vR (c0 + 2), vI x1, vR (c2 + 2), vR (c3 + 2), vI x4, vI x5, vI x6] [] M Q
  simp only [w_al_0, w_il_1, w_il_6, w_ivv_2 (c2I _) (c2I _) cs0, mk_43, kin_T (krb h0), rk_43, rvk2, List.cons_append, List.nil_append, w_if_eq, w_iconst, w_ret1 rk_42, true_and, and_true, true_or, or_true]
  exact h
theorem b_42_4 {sx : Int → Int} {L : Nat} {c0 : Nat} {x1 : Int} {c2 : Nat} {c3 : Nat} {x4 : Int} {x5 : Int} {x6 : Int} {M : Mem} {Q : Option AV → Mem → Prop} (h0 : isRb c0) (h2 : isCk c2) (h3 : isPl c3)
    (h : ((0 : Int) ≤ (1 : Int) ∧ (0 : Int) ≤ x6 ∧ x6 ≤ (30 : Int) ∧ (1 : Int) * 2 ^ (x6).toNat ≤ (2147483647 : Int)) ∧ (Rn sx L K0 R0 42 5 [vR (c0 + 2), vI x1, vR (c2 + 2), vR (c3 + 2), vI x4, vI x5, vI x6] [] (mset M c2 12 (iOr (M c2 12) ((1 : Int) * 2 ^ (x6).toNat))) Q)) : Rn sx L K0 R0 42 4 [vR (c0 + 2), vI x1, vR (c2 + 2), vR (c3 + 2), vI x4, vI x5, vI x6] [] M Q := by
  refine Rn_w (by decide) ?_
  show wpc sx L K0 R0 42 [(93, 1, .aload_n 2, []), (94, 1, .dup, []), (95, 3, .getfield 180, [0, 12, 398]), (98, 1, .iconst 1, []), (99, 2, .iload 6, []), (101, 1, .ishl, []), (102, 1, .ior, []), (103, 3, .putfield 180, [0, 12, 398])] 5 [vR (c0 + 2), vI x1, vR (c2 + 2), vR (c3 + 2), vI x4, vI x5, vI x6] [] M Q
  simp only [w_al_2, w_dup (c2R _), w_gf_0_12, kin_T (kck h2), w_iconst, w_il_6, w_ishl, w_ior, w_pf_0_12, w_fall, true_and, and_true, true_or, or_true]
  exact h
theorem b_42_5 {sx : Int → Int} {L : Nat} {c0 : Nat} {x1 : Int} {c2 : Nat} {c3 : Nat} {x4 : Int} {x5 : Int} {x6 : Int} {M : Mem} {Q : Option AV → Mem → Prop} (h0 : isRb c0) (h2 : isCk c2) (h3 : isPl c3)
    (h : inR (x4 + 1) ∧ (Rn sx L K0 R0 42 1 [vR (c0 + 2), vI x1, vR (c2 + 2), vR (c3 + 2), vI (x4 + 1), vI x5, vI x6] [] M Q)) : Rn sx L K0 R0 42 5 [vR (c0 + 2), vI x1, vR (c2 + 2), vR (c3 + 2), vI x4, vI x5, vI x6] [] M Q := by
  refine Rn_w (by decide) ?_
  show wpc sx L K0 R0 42 [(106, 3, .iinc 4 1, []), (109, 3, .goto (-91), [1])] 0 [vR (c0 + 2), vI x1, vR (c2 + 2), vR (c3 + 2), vI x4, vI x5, vI x6] [] M Q
  simp only [w_inc_4 (c2R _), w_goto, true_and, and_true, true_or, or_true]
  exact h
theorem b_42_6 {sx : Int → Int} {L : Nat} {c0 : Nat} {x1 : Int} {c2 : Nat} {c3 : Nat} {x4 : Int} {u5 : AV} {u6 : AV} {M : Mem} {Q : Option AV → Mem → Prop} (h0 : isRb c0) (h2 : isCk c2) (h3 : isPl c3) (hu5 : cat2 u5 = false) (hu6 : cat2 u6 = false)
    (h : Q (some (vI (-1))) M) : Rn sx L K0 R0 42 6 [vR (c0 + 2), vI x1, vR (c2 + 2), vR (c3 + 2), vI x4, u5, u6] [] M Q := by
  refine Rn_w (by decide) ?_
  show wpc sx L K0 R0 42 [(112, 1, .iconst (-1), []), (113, 1, .ireturn, [])] 0 [vR (c0 + 2), vI x1, vR (c2 + 2), vR (c3 + 2), vI x4, u5, u6] [] M Q
  simp only [w_iconst, w_ret1 rk_42, true_and, and_true, true_or, or_true]
  exact h
theorem b_43_0 {sx : Int → Int} {L : Nat} {c0 : Nat} {x1 : Int} {x2 : Int} {M : Mem} {Q : Option AV → Mem → Prop} (h0 : isRb c0) (hj0 : 0 ≤ x1 ∧ x1 < 8)
    (h : Rn sx L K0 R0 43 1 [vR (c0 + 2), vI x1, vI x2, vR (ckA c0 x1 + 2), vI 0, vI 0, vI 0, vI 0] [] M Q) : Rn sx L K0 R0 43 0 [vR (c0 + 2), vI x1, vI x2, vU, vU, vU, vU, vU] [] M Q := by
  refine Rn_w (by decide) ?_
  show wpc sx L K0 R0 43 [(0, 1, .aload_n 0, []), (1, 3, .getfield 11, [3, 1, 445]), (4, 1, .iload_n 1, []), (5, 1, .aaload, []), (6, 1, .astore_n 3, []), (7, 1, .iconst 0, []), (8, 2, .istore 4, []), (10, 1, .iconst 0, []), (11, 2, .istore 5, []), (13, 1, .iconst 0, []), (14, 2, .istore 6, []), (16, 1, .iconst 0, []), (17, 2, .istore 7, [])] 1 [vR (c0 + 2), vI x1, vI x2, vU, vU, vU, vU, vU] [] M Q
  simp only [w_al_0, w_gf_3_1, kin_T (krb h0), rrb1 h0, w_il_1, w_aald, rcks h0 hj0.1 hj0.2, arq_T ((krb1 h0)) ⟨by decide, by decide⟩, hj0.1, (show x1 < ((8 : Nat) : Int) from hj0.2), w_as_3 (c2I _), w_iconst, w_is_4 (c2R _), w_is_5 (c2I _), w_is_6 (c2I _), w_is_7 (c2I _), w_fall, true_and, and_true, true_or, or_true]
  exact h
theorem b_43_1 {sx : Int → Int} {L : Nat} {c0 : Nat} {x1 : Int} {x2 : Int} {c3 : Nat} {x4 : Int} {x5 : Int} {x6 : Int} {x7 : Int} {M : Mem} {Q : Option AV → Mem → Prop} (h0 : isRb c0) (h3 : isCk c3)
    (h : ((8 : Int) ≤ x7 → Rn sx L K0 R0 43 5 [vR (c0 + 2), vI x1, vI x2, vR (c3 + 2), vI x4, vI x5, vI x6, vI x7] [] M Q) ∧ (¬ ((8 : Int) ≤ x7) → (¬ x7 = x1 → Rn sx L K0 R0 43 2 [vR (c0 + 2), vI x1, vI x2, vR (c3 + 2), vI x4, vI x5, vI x6, vI x7] [] M Q) ∧ (¬ (¬ x7 = x1) → Rn sx L K0 R0 43 4 [vR (c0 + 2), vI x1, vI x2, vR (c3 + 2), vI x4, vI x5, vI x6, vI x7] [] M Q))) : Rn sx L K0 R0 43 1 [vR (c0 + 2), vI x1, vI x2, vR (c3 + 2), vI x4, vI x5, vI x6, vI x7] [] M Q := by
  refine Rn_w (by decide) ?_
  show wpc sx L K0 R0 43 [(19, 2, .iload 7, []), (21, 2, .bipush 8, []), (23, 3, .if_icmp .ge 74, [5]), (26, 2, .iload 7, []), (28, 1, .iload_n 1, []), (29, 3, .if_icmp .ne 6, [2]), (32, 3, .goto 59, [4])] 0 [vR (c0 + 2), vI x1, vI x2, vR (c3 + 2), vI x4, vI x5, vI x6, vI x7] [] M Q
  simp only [w_il_7, w_bipush, w_ic_ge, w_il_1, w_ic_ne, w_goto, true_and, and_true, true_or, or_true]
  exact h
theorem b_43_2 {sx : Int → Int} {L : Nat} {c0 : Nat} {x1 : Int} {x2 : Int} {c3 : Nat} {x4 : Int} {x5 : Int} {x6 : Int} {x7 : Int} {M : Mem} {Q : Option AV → Mem → Prop} (h0 : isRb c0) (h3 : isCk c3) (hj0 : 0 ≤ x7 ∧ x7 < 8)
    (h : ((0 : Int) ≤ M (ckA c0 x7) 12 ∧ (0 : Int) ≤ x2 ∧ x2 ≤ (30 : Int)) ∧ ((iAnd ((M (ckA c0 x7) 12) / 2 ^ (x2).toNat) 1 = (0 : Int) → Rn sx L K0 R0 43 3 [vR (c0 + 2), vI x1, vI x2, vR (c3 + 2), vI x4, vI x5, vI x6, vI x7] [] M Q) ∧ (¬ (iAnd ((M (ckA c0 x7) 12) / 2 ^ (x2).toNat) 1 = (0 : Int)) → ((0 : Int) ≤ (1 : Int) ∧ x7 ≤ (30 : Int) ∧ (1 : Int) * 2 ^ (x7).toNat ≤ (2147483647 : Int)) ∧ (inR (x5 + 1) ∧ (Rn sx L K0 R0 43 3 [vR (c0 + 2), vI x1, vI x2, vR (c3 + 2), vI (iOr x4 ((1 : Int) * 2 ^ (x7).toNat)), vI (x5 + 1), vI x6, vI x7] [] M Q))))) : Rn sx L K0 R0 43 2 [vR (c0 + 2), vI x1, vI x2, vR (c3 + 2), vI x4, vI x5, vI x6, vI x7] [] M Q := by
  refine Rn_w (by decide) ?_
  show wpc sx L K0 R0 43 [(35, 1, .aload_n 0, []), (36, 3, .getfield 11, [3, 1, 445]), (39, 2, .iload 7, []), (41, 1, .aaload, []), (42, 3, .getfield 180, [0, 12, 398]), (45, 1, .iload_n 2, []), (46, 1, .ishr, []), (47, 1, .iconst 1, []), (48, 1, .iand, []), (49, 3, .ifCond .eq 15, [3]), (52, 2, .iload 4, []), (54, 1, .iconst 1, []), (55, 2, .iload 7, []), (57, 1, .ishl, []), (58, 1, .ior, []), (59, 2, .istore 4, []), (61, 3, .iinc 5 1, [])] 3 [vR (c0 + 2), vI x1, vI x2, vR (c3 + 2), vI x4, vI x5, vI x6, vI x7] [] M Q
  simp only [w_al_0, w_gf_3_1, kin_T (krb h0), rrb1 h0, w_il_7, w_aald, rcks h0 hj0.1 hj0.2, arq_T ((krb1 h0)) ⟨by decide, by decide⟩, hj0.1, (show x7 < ((8 : Nat) : Int) from hj0.2), w_gf_0_12, kin_T (kck (isCk_A h0 hj0.1 hj0.2)), w_il_2, w_ishr, w_iconst, w_iand, w_if_eq, w_il_4, w_ishl, w_ior, w_is_4 (c2R _), w_inc_5 (c2I _), w_fall, true_and, and_true, true_or, or_true]
  exact h
theorem b_43_3 {sx : Int → Int} {L : Nat} {c0 : Nat} {x1 : Int} {x2 : Int} {c3 : Nat} {x4 : Int} {x5 : Int} {x6 : Int} {x7 : Int} {M : Mem} {Q : Option AV → Mem → Prop} (h0 : isRb c0) (h3 : isCk c3) (hj0 : 0 ≤ x7 ∧ x7 < 8)
    (h : (iAnd (M (ckA c0 x7) 12) (M c3 17) = (0 : Int) → Rn sx L K0 R0 43 4 [vR (c0 + 2), vI x1, vI x2, vR (c3 + 2), vI x4, vI x5, vI x6, vI x7] [] M Q) ∧ (¬ (iAnd (M (ckA c0 x7) 12) (M c3 17) = (0 : Int)) → ((0 : Int) ≤ (1 : Int) ∧ x7 ≤ (30 : Int) ∧ (1 : Int) * 2 ^ (x7).toNat ≤ (2147483647 : Int)) ∧ (Rn sx L K0 R0 43 4 [vR (c0 + 2), vI x1, vI x2, vR (c3 + 2), vI x4, vI x5, vI (iOr x6 ((1 : Int) * 2 ^ (x7).toNat)), vI x7] [] M Q))) : Rn sx L K0 R0 43 3 [vR (c0 + 2), vI x1, vI x2, vR (c3 + 2), vI x4, vI x5, vI x6, vI x7] [] M Q := by
  refine Rn_w (by decide) ?_
  show wpc sx L K0 R0 43 [(64, 1, .aload_n 0, []), (65, 3, .getfield 11, [3, 1, 445]), (68, 2, .iload 7, []), (70, 1, .aaload, []), (71, 3, .getfield 180, [0, 12, 398]), (74, 1, .aload_n 3, []), (75, 3, .getfield 130, [0, 17, 406]), (78, 1, .iand, []), (79, 3, .ifCond .eq 12, [4]), (82, 2, .iload 6, []), (84, 1, .iconst 1, []), (85, 2, .iload 7, []), (87, 1, .ishl, []), (88, 1, .ior, []), (89, 2, .istore 6, [])] 4 [vR (c0 + 2), vI x1, vI x2, vR (c3 + 2), vI x4, vI x5, vI x6, vI x7] [] M Q
  simp only [w_al_0, w_gf_3_1, kin_T (krb h0), rrb1 h0, w_il_7, w_aald, rcks h0 hj0.1 hj0.2, arq_T ((krb1 h0)) ⟨by decide, by decide⟩, hj0.1, (show x7 < ((8 : Nat) : Int) from hj0.2), w_gf_0_12, kin_T (kck (isCk_A h0 hj0.1 hj0.2)), w_al_3, w_gf_0_17, kin_T (kck h3), w_iand, w_if_eq, w_il_6, w_iconst, w_ishl, w_ior, w_is_6 (c2I _), w_fall, true_and, and_true, true_or, or_true]
  exact h
theorem b_43_4 {sx : Int → Int} {L : Nat} {c0 : Nat} {x1 : Int} {x2 : Int} {c3 : Nat} {x4 : Int} {x5 : Int} {x6 : Int} {x7 : Int} {M : Mem} {Q : Option AV → Mem → Prop} (h0 : isRb c0) (h3 : isCk c3)
    (h : inR (x7 + 1) ∧ (Rn sx L K0 R0 43 1 [vR (c0 + 2), vI x1, vI x2, vR (c3 + 2), vI x4, vI x5, vI x6, vI (x7 + 1)] [] M Q)) : Rn sx L K0 R0 43 4 [vR (c0 + 2), vI x1, vI x2, vR (c3 + 2), vI x4, vI x5, vI x6, vI x7] [] M Q := by
  refine Rn_w (by decide) ?_
  show wpc sx L K0 R0 43 [(91, 3, .iinc 7 1, []), (94, 3, .goto (-75), [1])] 0 [vR (c0 + 2), vI x1, vI x2, vR (c3 + 2), vI x4, vI x5, vI x6, vI x7] [] M Q
  simp only [w_inc_7 (c2I _), w_goto, true_and, and_true, true_or, or_true]
  exact h
theorem b_43_5 {sx : Int → Int} {L : Nat} {c0 : Nat} {x1 : Int} {x2 : Int} {c3 : Nat} {x4 : Int} {x5 : Int} {x6 : Int} {x7 : Int} {M : Mem} {Q : Option AV → Mem → Prop} (h0 : isRb c0) (h3 : isCk c3)
    (h : (x2 < (0 : Int) → Rn sx L K0 R0 43 6 [vR (c0 + 2), vI x1, vI x2, vR (c3 + 2), vI x4, vI x5, vI x6, vI x7] [] M Q) ∧ (¬ (x2 < (0 : Int)) → ((6 : Int) ≤ x2 → Rn sx L K0 R0 43 6 [vR (c0 + 2), vI x1, vI x2, vR (c3 + 2), vI x4, vI x5, vI x6, vI x7] [] M Q) ∧ (¬ ((6 : Int) ≤ x2) → ((0 : Int) ≤ x2 ∧ x2 < (6 : Int)) ∧ ((x5 < M 2 x2 → Rn sx L K0 R0 43 7 [vR (c0 + 2), vI x1, vI x2, vR (c3 + 2), vI x4, vI x5, vI x6, vI x7] [] M Q) ∧ (¬ (x5 < M 2 x2) → Rn sx L K0 R0 43 6 [vR (c0 + 2), vI x1, vI x2, vR (c3 + 2), vI x4, vI x5, vI x6, vI x7] [] M Q))))) : Rn sx L K0 R0 43 5 [vR (c0 + 2), vI x1, vI x2, vR (c3 + 2), vI x4, vI x5, vI x6, vI x7] [] M Q := by
  refine Rn_w (by decide) ?_
  show wpc sx L K0 R0 43 [(97, 1, .iload_n 2, []), (98, 3, .ifCond .lt 23, [6]), (101, 1, .iload_n 2, []), (102, 2, .bipush 6, []), (104, 3, .if_icmp .ge 17, [6]), (107, 2, .iload 5, []), (109, 1, .aload_n 0, []), (110, 3, .getfield 34, [3, 0, 444]), (113, 3, .getfield 205, [7, 2, 177]), (116, 1, .iload_n 2, []), (117, 1, .iaload, []), (118, 3, .if_icmp .lt 7, [7])] 6 [vR (c0 + 2), vI x1, vI x2, vR (c3 + 2), vI x4, vI x5, vI x6, vI x7] [] M Q
  simp only [w_il_2, w_if_lt, w_bipush, w_ic_ge, w_il_5, w_al_0, w_gf_3_0, kin_T (krb h0), rrb0 h0, w_gf_7_2, kin_T (ks_1), rs_1_2, w_iald, arr_T (ks_2), w_ic_lt, w_fall, true_and, and_true, true_or, or_true]
  exact h
theorem b_43_6 {sx : Int → Int} {L : Nat} {c0 : Nat} {x1 : Int} {x2 : Int} {c3 : Nat} {x4 : Int} {x5 : Int} {x6 : Int} {x7 : Int} {M : Mem} {Q : Option AV → Mem → Prop} (h0 : isRb c0) (h3 : isCk c3)
    (h : Rn sx L K0 R0 43 8 [vR (c0 + 2), vI x1, vI x2, vR (c3 + 2), vI x4, vI x5, vI x6, vI x7] [vI 1] M Q) : Rn sx L K0 R0 43 6 [vR (c0 + 2), vI x1, vI x2, vR (c3 + 2), vI x4, vI x5, vI x6, vI x7] [] M Q := by
  refine Rn_w (by decide) ?_
  show wpc sx L K0 R0 43 [(121, 1, .iconst 1, []), (122, 3, .goto 4, [8])] 0 [vR (c0 + 2), vI x1, vI x2, vR (c3 + 2), vI x4, vI x5, vI x6, vI x7] [] M Q
  simp only [w_iconst, w_goto, true_and, and_true, true_or, or_true]
  exact h
theorem b_43_7 {sx : Int → Int} {L : Nat} {c0 : Nat} {x1 : Int} {x2 : Int} {c3 : Nat} {x4 : Int} {x5 : Int} {x6 : Int} {x7 : Int} {M : Mem} {Q : Option AV → Mem → Prop} (h0 : isRb c0) (h3 : isCk c3)
    (h : Rn sx L K0 R0 43 8 [vR (c0 + 2), vI x1, vI x2, vR (c3 + 2), vI x4, vI x5, vI x6, vI x7] [vI 0] M Q) : Rn sx L K0 R0 43 7 [vR (c0 + 2), vI x1, vI x2, vR (c3 + 2), vI x4, vI x5, vI x6, vI x7] [] M Q := by
  refine Rn_w (by decide) ?_
  show wpc sx L K0 R0 43 [(125, 1, .iconst 0, [])] 8 [vR (c0 + 2), vI x1, vI x2, vR (c3 + 2), vI x4, vI x5, vI x6, vI x7] [] M Q
  simp only [w_iconst, w_fall, true_and, and_true, true_or, or_true]
  exact h
theorem b_43_8 {sx : Int → Int} {L : Nat} {c0 : Nat} {x1 : Int} {x2 : Int} {c3 : Nat} {x4 : Int} {x5 : Int} {x6 : Int} {x7 : Int} {y0 : Int} {M : Mem} {Q : Option AV → Mem → Prop} (h0 : isRb c0) (h3 : isCk c3)
    (h : (y0 = (0 : Int) → Rn sx L K0 R0 43 9 [vR (c0 + 2), vI x1, vI x2, vR (c3 + 2), vI x4, vI x5, vI x6, vI y0] [vR (c3 + 2)] M Q) ∧ (¬ (y0 = (0 : Int)) → Rn sx L K0 R0 43 10 [vR (c0 + 2), vI x1, vI x2, vR (c3 + 2), vI x4, vI x5, vI x6, vI y0] [vI (iOr x4 x6), vR (c3 + 2)] M Q)) : Rn sx L K0 R0 43 8 [vR (c0 + 2), vI x1, vI x2, vR (c3 + 2), vI x4, vI x5, vI x6, vI x7] [vI y0] M Q := by
  refine Rn_w (by decide) ?_
  show wpc sx L K0 R0 43 [(126, 2, .istore 7, []), (128, 1, .aload_n 3, []), (129, 2, .iload 7, []), (131, 3, .ifCond .eq 11, [9]), (134, 2, .iload 4, []), (136, 2, .iload 6, []), (138, 1, .ior, []), (139, 3, .goto 5, [10])] 0 [vR (c0 + 2), vI x1, vI x2, vR (c3 + 2), vI x4, vI x5, vI x6, vI x7] [vI y0] M Q
  simp only [w_is_7 (c2I _), w_al_3, w_il_7, w_if_eq, w_il_4, w_il_6, w_ior, w_goto, true_and, and_true, true_or, or_true]
  exact h
theorem b_43_9 {sx : Int → Int} {L : Nat} {c0 : Nat} {x1 : Int} {x2 : Int} {c3 : Nat} {x4 : Int} {x5 : Int} {x6 : Int} {x7 : Int} {d0 : Nat} {M : Mem} {Q : Option AV → Mem → Prop} (h0 : isRb c0) (h3 : isCk c3) (k0 : isCk d0)
    (h : Rn sx L K0 R0 43 10 [vR (c0 + 2), vI x1, vI x2, vR (c3 + 2), vI x4, vI x5, vI x6, vI x7] [vI x6, vR (d0 + 2)] M Q) : Rn sx L K0 R0 43 9 [vR (c0 + 2), vI x1, vI x2, vR (c3 + 2), vI x4, vI x5, vI x6, vI x7] [vR (d0 + 2)] M Q := by
  refine Rn_w (by decide) ?_
  show wpc sx L K0 R0 43 [(142, 2, .iload 6, [])] 10 [vR (c0 + 2), vI x1, vI x2, vR (c3 + 2), vI x4, vI x5, vI x6, vI x7] [vR (d0 + 2)] M Q
  simp only [w_il_6, w_fall, true_and, and_true, true_or, or_true]
  exact h
theorem b_43_10 {sx : Int → Int} {L : Nat} {c0 : Nat} {x1 : Int} {x2 : Int} {c3 : Nat} {x4 : Int} {x5 : Int} {x6 : Int} {x7 : Int} {d0 : Nat} {y1 : Int} {M : Mem} {Q : Option AV → Mem → Prop} (h0 : isRb c0) (h3 : isCk c3) (k0 : isCk d0)
    (h : (¬ x7 = (0 : Int) → Rn sx L K0 R0 43 11 [vR (c0 + 2), vI x1, vI x2, vR (c3 + 2), vI x4, vI x5, vI x6, vI x7] [] (mset M d0 13 y1) Q) ∧ (¬ (¬ x7 = (0 : Int)) → (¬ x6 = (0 : Int) → Rn sx L K0 R0 43 11 [vR (c0 + 2), vI x1, vI x2, vR (c3 + 2), vI x4, vI x5, vI x6, vI x7] [] (mset M d0 13 y1) Q) ∧ (¬ (¬ x6 = (0 : Int)) → ((0 : Int) ≤ (mset M d0 13 y1) c0 14 ∧ (0 : Int) ≤ x2 ∧ x2 ≤ (30 : Int)) ∧ ((iAnd (((mset M d0 13 y1) c0 14) / 2 ^ (x2).toNat) 1 = (0 : Int) → Rn sx L K0 R0 43 12 [vR (c0 + 2), vI x1, vI x2, vR (c3 + 2), vI x4, vI x5, vI x6, vI x7] [] (mset M d0 13 y1) Q) ∧ (¬ (iAnd (((mset M d0 13 y1) c0 14) / 2 ^ (x2).toNat) 1 = (0 : Int)) → Rn sx L K0 R0 43 11 [vR (c0 + 2), vI x1, vI x2, vR (c3 + 2), vI x4, vI x5, vI x6, vI x7] [] (mset M d0 13 y1) Q))))) : Rn sx L K0 R0 43 10 [vR (c0 + 2), vI x1, vI x2, vR (c3 + 2), vI x4, vI x5, vI x6, vI x7] [vI y1, vR (d0 + 2)] M Q := by
  refine Rn_w (by decide) ?_
  show wpc sx L K0 R0 43 [(144, 3, .putfield 208, [0, 13, 399]), (147, 2, .iload 7, []), (149, 3, .ifCond .ne 19, [11]), (152, 2, .iload 6, []), (154, 3, .ifCond .ne 14, [11]), (157, 1, .aload_n 0, []), (158, 3, .getfield 158, [3, 14, 462]), (161, 1, .iload_n 2, []), (162, 1, .ishr, []), (163, 1, .iconst 1, []), (164, 1, .iand, []), (165, 3, .ifCond .eq 7, [12])] 11 [vR (c0 + 2), vI x1, vI x2, vR (c3 + 2), vI x4, vI x5, vI x6, vI x7] [vI y1, vR (d0 + 2)] M Q
  simp only [w_pf_0_13, kin_T (kck k0), w_il_7, w_if_ne, w_il_6, w_al_0, w_gf_3_14, kin_T (krb h0), w_il_2, w_ishr, w_iconst, w_iand, w_if_eq, w_fall, true_and, and_true, true_or, or_true]
  exact h
theorem b_43_11 {sx : Int → Int} {L : Nat} {c0 : Nat} {x1 : Int} {x2 : Int} {c3 : Nat} {x4 : Int} {x5 : Int} {x6 : Int} {x7 : Int} {M : Mem} {Q : Option AV → Mem → Prop} (h0 : isRb c0) (h3 : isCk c3)
    (h : Rn sx L K0 R0 43 13 [vR (c0 + 2), vI x1, vI x2, vR (c3 + 2), vI x4, vI x5, vI x6, vI x7] [vI 1] M Q) : Rn sx L K0 R0 43 11 [vR (c0 + 2), vI x1, vI x2, vR (c3 + 2), vI x4, vI x5, vI x6, vI x7] [] M Q := by
  refine Rn_w (by decide) ?_
  show wpc sx L K0 R0 43 [(168, 1, .iconst 1, []), (169, 3, .goto 4, [13])] 0 [vR (c0 + 2), vI x1, vI x2, vR (c3 + 2), vI x4, vI x5, vI x6, vI x7] [] M Q
  simp only [w_iconst, w_goto, true_and, and_true, true_or, or_true]
  exact h
theorem b_43_12 {sx : Int → Int} {L : Nat} {c0 : Nat} {x1 : Int} {x2 : Int} {c3 : Nat} {x4 : Int} {x5 : Int} {x6 : Int} {x7 : Int} {M : Mem} {Q : Option AV → Mem → Prop} (h0 : isRb c0) (h3 : isCk c3)
    (h : Rn sx L K0 R0 43 13 [vR (c0 + 2), vI x1, vI x2, vR (c3 + 2), vI x4, vI x5, vI x6, vI x7] [vI 0] M Q) : Rn sx L K0 R0 43 12 [vR (c0 + 2), vI x1, vI x2, vR (c3 + 2), vI x4, vI x5, vI x6, vI x7] [] M Q := by
  refine Rn_w (by decide) ?_
  show wpc sx L K0 R0 43 [(172, 1, .iconst 0, [])] 13 [vR (c0 + 2), vI x1, vI x2, vR (c3 + 2), vI x4, vI x5, vI x6, vI x7] [] M Q
  simp only [w_iconst, w_fall, true_and, and_true, true_or, or_true]
  exact h
theorem b_43_13 {sx : Int → Int} {L : Nat} {c0 : Nat} {x1 : Int} {x2 : Int} {c3 : Nat} {x4 : Int} {x5 : Int} {x6 : Int} {x7 : Int} {y0 : Int} {M : Mem} {Q : Option AV → Mem → Prop} (h0 : isRb c0) (h3 : isCk c3)
    (h : (y0 = 0 ∨ y0 = 1) ∧ (Q (some (vI y0)) M)) : Rn sx L K0 R0 43 13 [vR (c0 + 2), vI x1, vI x2, vR (c3 + 2), vI x4, vI x5, vI x6, vI x7] [vI y0] M Q := by
  refine Rn_w (by decide) ?_
  show wpc sx L K0 R0 43 [(173, 1, .ireturn, [])] 0 [vR (c0 + 2), vI x1, vI x2, vR (c3 + 2), vI x4, vI x5, vI x6, vI x7] [vI y0] M Q
  simp only [w_ret2 rk_43, true_and, and_true, true_or, or_true]
  exact h
theorem b_44_0 {sx : Int → Int} {L : Nat} {c0 : Nat} {M : Mem} {Q : Option AV → Mem → Prop} (h0 : isRb c0)
    (h : (M c0 8 = (0 : Int) → Rn sx L K0 R0 44 1 [vR (c0 + 2), vU, vU, vU] [] M Q) ∧ (¬ (M c0 8 = (0 : Int)) → (¬ M c0 7 = (2 : Int) → Rn sx L K0 R0 44 2 [vR (c0 + 2), vU, vU, vU] [] M Q) ∧ (¬ (¬ M c0 7 = (2 : Int)) → Rn sx L K0 R0 44 1 [vR (c0 + 2), vU, vU, vU] [] M Q))) : Rn sx L K0 R0 44 0 [vR (c0 + 2), vU, vU, vU] [] M Q := by
  refine Rn_w (by decide) ?_
  show wpc sx L K0 R0 44 [(0, 1, .aload_n 0, []), (1, 3, .getfield 82, [3, 8, 456]), (4, 3, .ifCond .eq 11, [1]), (7, 1, .aload_n 0, []), (8, 3, .getfield 78, [3, 7, 455]), (11, 1, .iconst 2, []), (12, 3, .if_icmp .ne 4, [2])] 1 [vR (c0 + 2), vU, vU, vU] [] M Q
  simp only [w_al_0, w_gf_3_8, kin_T (krb h0), w_if_eq, w_gf_3_7, w_iconst, w_ic_ne, w_fall, true_and, and_true, true_or, or_true]
  exact h
theorem b_44_1 {sx : Int → Int} {L : Nat} {c0 : Nat} {M : Mem} {Q : Option AV → Mem → Prop} (h0 : isRb c0)
    (h : Q none M) : Rn sx L K0 R0 44 1 [vR (c0 + 2), vU, vU, vU] [] M Q := by
  refine Rn_w (by decide) ?_
  show wpc sx L K0 R0 44 [(15, 1, .return_, [])] 0 [vR (c0 + 2), vU, vU, vU] [] M Q
  simp only [w_ret0 rk_44, true_and, and_true, true_or, or_true]
  exact h
theorem b_44_2 {sx : Int → Int} {L : Nat} {c0 : Nat} {M : Mem} {Q : Option AV → Mem → Prop} (h0 : isRb c0)
    (h : Rn sx L K0 R0 44 3 [vR (c0 + 2), vI 1, vI 0, vU] [] M Q) : Rn sx L K0 R0 44 2 [vR (c0 + 2), vU, vU, vU] [] M Q := by
  refine Rn_w (by decide) ?_
  show wpc sx L K0 R0 44 [(16, 1, .iconst 1, []), (17, 1, .istore_n 1, []), (18, 1, .iconst 0, []), (19, 1, .istore_n 2, [])] 3 [vR (c0 + 2), vU, vU, vU] [] M Q
  simp only [w_iconst, w_is_1 (c2R _), w_is_2 (c2I _), w_fall, true_and, and_true, true_or, or_true]
  exact h
theorem b_44_3 {sx : Int → Int} {L : Nat} {c0 : Nat} {x1 : Int} {x2 : Int} {u3 : AV} {M : Mem} {Q : Option AV → Mem → Prop} (h0 : isRb c0) (hu3 : cat2 u3 = false)
    (h : ((8 : Int) ≤ x2 → Rn sx L K0 R0 44 7 [vR (c0 + 2), vI x1, vI x2, u3] [] M Q) ∧ (¬ ((8 : Int) ≤ x2) → (x1 = (0 : Int) → Rn sx L K0 R0 44 7 [vR (c0 + 2), vI x1, vI x2, u3] [] M Q) ∧ (¬ (x1 = (0 : Int)) → Rn sx L K0 R0 44 4 [vR (c0 + 2), vI 0, vI x2, vI 0] [] M Q))) : Rn sx L K0 R0 44 3 [vR (c0 + 2), vI x1, vI x2, u3] [] M Q := by
  refine Rn_w (by decide) ?_
  show wpc sx L K0 R0 44 [(20, 1, .iload_n 2, []), (21, 2, .bipush 8, []), (23, 3, .if_icmp .ge 55, [7]), (26, 1, .iload_n 1, []), (27, 3, .ifCond .eq 51, [7]), (30, 1, .iconst 0, []), (31, 1, .istore_n 1, []), (32, 1, .iconst 0, []), (33, 1, .istore_n 3, [])] 4 [vR (c0 + 2), vI x1, vI x2, u3] [] M Q
  simp only [w_il_2, w_bipush, w_ic_ge, w_il_1, w_if_eq, w_iconst, w_is_1 (c2R _), w_is_3 (c2I _), w_fall, true_and, and_true, true_or, or_true]
  exact h
theorem b_44_4 {sx : Int → Int} {L : Nat} {c0 : Nat} {x1 : Int} {x2 : Int} {x3 : Int} {M : Mem} {Q : Option AV → Mem → Prop} (h0 : isRb c0) (hj0 : 0 ≤ x3 ∧ x3 < 8)
    (h : ((8 : Int) ≤ x3 → Rn sx L K0 R0 44 6 [vR (c0 + 2), vI x1, vI x2, vI x3] [] M Q) ∧ (¬ ((8 : Int) ≤ x3) → ((0 : Int) ≤ M c0 13 ∧ x3 ≤ (30 : Int)) ∧ ((iAnd ((M c0 13) / 2 ^ (x3).toNat) 1 = (0 : Int) → Rn sx L K0 R0 44 5 [vR (c0 + 2), vI x1, vI x2, vI x3] [] M Q) ∧ (¬ (iAnd ((M c0 13) / 2 ^ (x3).toNat) 1 = (0 : Int)) → Mq sx L K0 R0 45 [vR (c0 + 2), vR (ckA c0 x3 + 2)] M (fun rv M1 => ∃ r1, rv = some (vI r1) ∧ ((r1 = (0 : Int) → Rn sx L K0 R0 44 5 [vR (c0 + 2), vI x1, vI x2, vI x3] [] M1 Q) ∧ (¬ (r1 = (0 : Int)) → Rn sx L K0 R0 44 5 [vR (c0 + 2), vI 1, vI x2, vI x3] [] M1 Q))))))) : Rn sx L K0 R0 44 4 [vR (c0 + 2), vI x1, vI x2, vI x3] [] M Q := by
  refine Rn_w (by decide) ?_
  show wpc sx L K0 R0 44 [(34, 1, .iload_n 3, []), (35, 2, .bipush 8, []), (37, 3, .if_icmp .ge 35, [6]), (40, 1, .aload_n 0, []), (41, 3, .getfield 149, [3, 13, 461]), (44, 1, .iload_n 3, []), (45, 1, .ishr, []), (46, 1, .iconst 1, []), (47, 1, .iand, []), (48, 3, .ifCond .eq 18, [5]), (51, 1, .aload_n 0, []), (52, 1, .aload_n 0, []), (53, 3, .getfield 11, [3, 1, 445]), (56, 1, .iload_n 3, []), (57, 1, .aaload, []), (58, 3, .invokevirtual 211, [45, 801, 1]), (61, 3, .ifCond .eq 5, [5]), (64, 1, .iconst 1, []), (65, 1, .istore_n 1, [])] 5 [vR (c0 + 2), vI x1, vI x2, vI x3] [] M Q
  simp only [w_il_3, w_bipush, w_ic_ge, w_al_0, w_gf_3_13, kin_T (krb h0), w_ishr, w_iconst, w_iand, w_if_eq, w_gf_3_1, rrb1 h0, w_aald, rcks h0 hj0.1 hj0.2, arq_T ((krb1 h0)) ⟨by decide, by decide⟩, hj0.1, (show x3 < ((8 : Nat) : Int) from hj0.2), w_ivv_1 (c2R _) cs0, mk_45, rk_45, rvk2, List.cons_append, List.nil_append, w_is_1 (c2R _), w_fall, true_and, and_true, true_or, or_true]
  exact h
theorem b_44_5 {sx : Int → Int} {L : Nat} {c0 : Nat} {x1 : Int} {x2 : Int} {x3 : Int} {M : Mem} {Q : Option AV → Mem → Prop} (h0 : isRb c0)
    (h : inR (x3 + 1) ∧ (Rn sx L K0 R0 44 4 [vR (c0 + 2), vI x1, vI x2, vI (x3 + 1)] [] M Q)) : Rn sx L K0 R0 44 5 [vR (c0 + 2), vI x1, vI x2, vI x3] [] M Q := by
  refine Rn_w (by decide) ?_
  show wpc sx L K0 R0 44 [(66, 3, .iinc 3 1, []), (69, 3, .goto (-35), [4])] 0 [vR (c0 + 2), vI x1, vI x2, vI x3] [] M Q
  simp only [w_inc_3 (c2I _), w_goto, true_and, and_true, true_or, or_true]
  exact h
theorem b_44_6 {sx : Int → Int} {L : Nat} {c0 : Nat} {x1 : Int} {x2 : Int} {x3 : Int} {M : Mem} {Q : Option AV → Mem → Prop} (h0 : isRb c0)
    (h : inR (x2 + 1) ∧ (Rn sx L K0 R0 44 3 [vR (c0 + 2), vI x1, vI (x2 + 1), vI x3] [] M Q)) : Rn sx L K0 R0 44 6 [vR (c0 + 2), vI x1, vI x2, vI x3] [] M Q := by
  refine Rn_w (by decide) ?_
  show wpc sx L K0 R0 44 [(72, 3, .iinc 2 1, []), (75, 3, .goto (-55), [3])] 0 [vR (c0 + 2), vI x1, vI x2, vI x3] [] M Q
  simp only [w_inc_2 (c2I _), w_goto, true_and, and_true, true_or, or_true]
  exact h
theorem b_44_7 {sx : Int → Int} {L : Nat} {c0 : Nat} {x1 : Int} {x2 : Int} {u3 : AV} {M : Mem} {Q : Option AV → Mem → Prop} (h0 : isRb c0) (hu3 : cat2 u3 = false)
    (h : Q none M) : Rn sx L K0 R0 44 7 [vR (c0 + 2), vI x1, vI x2, u3] [] M Q := by
  refine Rn_w (by decide) ?_
  show wpc sx L K0 R0 44 [(78, 1, .return_, [])] 0 [vR (c0 + 2), vI x1, vI x2, u3] [] M Q
  simp only [w_ret0 rk_44, true_and, and_true, true_or, or_true]
  exact h
